section
-- ===== PART A: goes FIRST, ahead of the names: the tables' words, and 'selects' of the private methods out of them =====
/-- a private method of a class that the tables say can be made, by its rows of tables_1 -/
def lw_okq (q : MethodName × Nat) : Prop := (q.1.cls ≠ "java/lang/invoke/MethodHandle" ∧ q.1.cls ≠ "java/lang/invoke/VarHandle") ∧ Cond.instantiable q.1.cls q.2 ∈ tables_1 ∧ Cond.privateMethod q.1 ∈ tables_1 ∧ Cond.instanceMethod q.1 ∈ tables_1
theorem lw_p0 : lw_okq (⟨"NightHouses", "putNumber", "(I)V"⟩, 17) := ⟨⟨by decide +kernel, by decide +kernel⟩, List.mem_of_getElem? (i := 26) (by decide +kernel), List.mem_of_getElem? (i := 521) (by decide +kernel), List.mem_of_getElem? (i := 522) (by decide +kernel)⟩
theorem lw_p1 : lw_okq (⟨"NightHouses$Tokens", "byteAt", "(I)I"⟩, 7) := ⟨⟨by decide +kernel, by decide +kernel⟩, List.mem_of_getElem? (i := 151) (by decide +kernel), List.mem_of_getElem? (i := 549) (by decide +kernel), List.mem_of_getElem? (i := 550) (by decide +kernel)⟩
theorem lw_p2 : lw_okq (⟨"NightHouses$Tokens", "passLetters", "()V"⟩, 7) := ⟨⟨by decide +kernel, by decide +kernel⟩, List.mem_of_getElem? (i := 151) (by decide +kernel), List.mem_of_getElem? (i := 556) (by decide +kernel), List.mem_of_getElem? (i := 557) (by decide +kernel)⟩
theorem lw_p3 : lw_okq (⟨"NightHouses$Tokens", "kindOfWord", "()I"⟩, 7) := ⟨⟨by decide +kernel, by decide +kernel⟩, List.mem_of_getElem? (i := 151) (by decide +kernel), List.mem_of_getElem? (i := 561) (by decide +kernel), List.mem_of_getElem? (i := 562) (by decide +kernel)⟩
theorem lw_p4 : lw_okq (⟨"NightHouses$Tokens", "passDigits", "()V"⟩, 7) := ⟨⟨by decide +kernel, by decide +kernel⟩, List.mem_of_getElem? (i := 151) (by decide +kernel), List.mem_of_getElem? (i := 617) (by decide +kernel), List.mem_of_getElem? (i := 618) (by decide +kernel)⟩
theorem lw_p5 : lw_okq (⟨"NightHouses$Reader", "passFirst", "(Z)Z"⟩, 13) := ⟨⟨by decide +kernel, by decide +kernel⟩, List.mem_of_getElem? (i := 145) (by decide +kernel), List.mem_of_getElem? (i := 683) (by decide +kernel), List.mem_of_getElem? (i := 684) (by decide +kernel)⟩
theorem lw_p6 : lw_okq (⟨"NightHouses$Reader", "pass", "(I)Z"⟩, 13) := ⟨⟨by decide +kernel, by decide +kernel⟩, List.mem_of_getElem? (i := 145) (by decide +kernel), List.mem_of_getElem? (i := 687) (by decide +kernel), List.mem_of_getElem? (i := 688) (by decide +kernel)⟩
theorem lw_p7 : lw_okq (⟨"NightHouses$Reader", "refuseToken", "()Z"⟩, 13) := ⟨⟨by decide +kernel, by decide +kernel⟩, List.mem_of_getElem? (i := 145) (by decide +kernel), List.mem_of_getElem? (i := 691) (by decide +kernel), List.mem_of_getElem? (i := 692) (by decide +kernel)⟩
theorem lw_p8 : lw_okq (⟨"NightHouses$Reader", "refuse", "(II)Z"⟩, 13) := ⟨⟨by decide +kernel, by decide +kernel⟩, List.mem_of_getElem? (i := 145) (by decide +kernel), List.mem_of_getElem? (i := 695) (by decide +kernel), List.mem_of_getElem? (i := 696) (by decide +kernel)⟩
theorem lw_p9 : lw_okq (⟨"NightHouses$Reader", "readSize", "()Z"⟩, 13) := ⟨⟨by decide +kernel, by decide +kernel⟩, List.mem_of_getElem? (i := 145) (by decide +kernel), List.mem_of_getElem? (i := 700) (by decide +kernel), List.mem_of_getElem? (i := 701) (by decide +kernel)⟩
theorem lw_p10 : lw_okq (⟨"NightHouses$Reader", "readNumber", "(II)Z"⟩, 13) := ⟨⟨by decide +kernel, by decide +kernel⟩, List.mem_of_getElem? (i := 145) (by decide +kernel), List.mem_of_getElem? (i := 704) (by decide +kernel), List.mem_of_getElem? (i := 705) (by decide +kernel)⟩
theorem lw_p11 : lw_okq (⟨"NightHouses$Reader", "readHedge", "()Z"⟩, 13) := ⟨⟨by decide +kernel, by decide +kernel⟩, List.mem_of_getElem? (i := 145) (by decide +kernel), List.mem_of_getElem? (i := 709) (by decide +kernel), List.mem_of_getElem? (i := 710) (by decide +kernel)⟩
theorem lw_p12 : lw_okq (⟨"NightHouses$Reader", "readCell", "(Z)Z"⟩, 13) := ⟨⟨by decide +kernel, by decide +kernel⟩, List.mem_of_getElem? (i := 145) (by decide +kernel), List.mem_of_getElem? (i := 713) (by decide +kernel), List.mem_of_getElem? (i := 714) (by decide +kernel)⟩
theorem lw_p13 : lw_okq (⟨"NightHouses$Reader", "readHouse", "()Z"⟩, 13) := ⟨⟨by decide +kernel, by decide +kernel⟩, List.mem_of_getElem? (i := 145) (by decide +kernel), List.mem_of_getElem? (i := 722) (by decide +kernel), List.mem_of_getElem? (i := 723) (by decide +kernel)⟩
theorem lw_p14 : lw_okq (⟨"NightHouses$Reader", "readCat", "()Z"⟩, 13) := ⟨⟨by decide +kernel, by decide +kernel⟩, List.mem_of_getElem? (i := 145) (by decide +kernel), List.mem_of_getElem? (i := 726) (by decide +kernel), List.mem_of_getElem? (i := 727) (by decide +kernel)⟩
theorem lw_p15 : lw_okq (⟨"NightHouses$Reader", "readGoes", "()Z"⟩, 13) := ⟨⟨by decide +kernel, by decide +kernel⟩, List.mem_of_getElem? (i := 145) (by decide +kernel), List.mem_of_getElem? (i := 730) (by decide +kernel), List.mem_of_getElem? (i := 731) (by decide +kernel)⟩
def lw_privs_1 : List (MethodName × Nat) := [(⟨"NightHouses", "putNumber", "(I)V"⟩, 17), (⟨"NightHouses$Tokens", "byteAt", "(I)I"⟩, 7), (⟨"NightHouses$Tokens", "passLetters", "()V"⟩, 7), (⟨"NightHouses$Tokens", "kindOfWord", "()I"⟩, 7), (⟨"NightHouses$Tokens", "passDigits", "()V"⟩, 7), (⟨"NightHouses$Reader", "passFirst", "(Z)Z"⟩, 13), (⟨"NightHouses$Reader", "pass", "(I)Z"⟩, 13), (⟨"NightHouses$Reader", "refuseToken", "()Z"⟩, 13), (⟨"NightHouses$Reader", "refuse", "(II)Z"⟩, 13), (⟨"NightHouses$Reader", "readSize", "()Z"⟩, 13), (⟨"NightHouses$Reader", "readNumber", "(II)Z"⟩, 13), (⟨"NightHouses$Reader", "readHedge", "()Z"⟩, 13), (⟨"NightHouses$Reader", "readCell", "(Z)Z"⟩, 13), (⟨"NightHouses$Reader", "readHouse", "()Z"⟩, 13), (⟨"NightHouses$Reader", "readCat", "()Z"⟩, 13), (⟨"NightHouses$Reader", "readGoes", "()Z"⟩, 13)]
theorem lw_r1 : ∀ q ∈ lw_privs_1, lw_okq q := List.forall_mem_cons.mpr ⟨lw_p0, List.forall_mem_cons.mpr ⟨lw_p1, List.forall_mem_cons.mpr ⟨lw_p2, List.forall_mem_cons.mpr ⟨lw_p3, List.forall_mem_cons.mpr ⟨lw_p4, List.forall_mem_cons.mpr ⟨lw_p5, List.forall_mem_cons.mpr ⟨lw_p6, List.forall_mem_cons.mpr ⟨lw_p7, List.forall_mem_cons.mpr ⟨lw_p8, List.forall_mem_cons.mpr ⟨lw_p9, List.forall_mem_cons.mpr ⟨lw_p10, List.forall_mem_cons.mpr ⟨lw_p11, List.forall_mem_cons.mpr ⟨lw_p12, List.forall_mem_cons.mpr ⟨lw_p13, List.forall_mem_cons.mpr ⟨lw_p14, List.forall_mem_cons.mpr ⟨lw_p15, fun _ h => absurd h List.not_mem_nil⟩⟩⟩⟩⟩⟩⟩⟩⟩⟩⟩⟩⟩⟩⟩⟩
theorem lw_p16 : lw_okq (⟨"NightHouses$Reader", "readEither", "(I)Z"⟩, 13) := ⟨⟨by decide +kernel, by decide +kernel⟩, List.mem_of_getElem? (i := 145) (by decide +kernel), List.mem_of_getElem? (i := 734) (by decide +kernel), List.mem_of_getElem? (i := 735) (by decide +kernel)⟩
theorem lw_p17 : lw_okq (⟨"NightHouses$Reader", "readBoth", "(I)Z"⟩, 13) := ⟨⟨by decide +kernel, by decide +kernel⟩, List.mem_of_getElem? (i := 145) (by decide +kernel), List.mem_of_getElem? (i := 738) (by decide +kernel), List.mem_of_getElem? (i := 739) (by decide +kernel)⟩
theorem lw_p18 : lw_okq (⟨"NightHouses$Reader", "readOne", "(I)Z"⟩, 13) := ⟨⟨by decide +kernel, by decide +kernel⟩, List.mem_of_getElem? (i := 145) (by decide +kernel), List.mem_of_getElem? (i := 742) (by decide +kernel), List.mem_of_getElem? (i := 743) (by decide +kernel)⟩
theorem lw_p19 : lw_okq (⟨"NightHouses$Reader", "readNot", "(I)Z"⟩, 13) := ⟨⟨by decide +kernel, by decide +kernel⟩, List.mem_of_getElem? (i := 145) (by decide +kernel), List.mem_of_getElem? (i := 746) (by decide +kernel), List.mem_of_getElem? (i := 747) (by decide +kernel)⟩
theorem lw_p20 : lw_okq (⟨"NightHouses$Reader", "readSum", "(I)Z"⟩, 13) := ⟨⟨by decide +kernel, by decide +kernel⟩, List.mem_of_getElem? (i := 145) (by decide +kernel), List.mem_of_getElem? (i := 754) (by decide +kernel), List.mem_of_getElem? (i := 755) (by decide +kernel)⟩
theorem lw_p21 : lw_okq (⟨"NightHouses$Reader", "readTerm", "(I)Z"⟩, 13) := ⟨⟨by decide +kernel, by decide +kernel⟩, List.mem_of_getElem? (i := 145) (by decide +kernel), List.mem_of_getElem? (i := 758) (by decide +kernel), List.mem_of_getElem? (i := 759) (by decide +kernel)⟩
theorem lw_p22 : lw_okq (⟨"NightHouses$Reader", "readUnit", "(I)Z"⟩, 13) := ⟨⟨by decide +kernel, by decide +kernel⟩, List.mem_of_getElem? (i := 145) (by decide +kernel), List.mem_of_getElem? (i := 762) (by decide +kernel), List.mem_of_getElem? (i := 763) (by decide +kernel)⟩
theorem lw_p23 : lw_okq (⟨"NightHouses$Reader", "readCalls", "()Z"⟩, 13) := ⟨⟨by decide +kernel, by decide +kernel⟩, List.mem_of_getElem? (i := 145) (by decide +kernel), List.mem_of_getElem? (i := 775) (by decide +kernel), List.mem_of_getElem? (i := 776) (by decide +kernel)⟩
theorem lw_p24 : lw_okq (⟨"NightHouses$Reader", "readGale", "()Z"⟩, 13) := ⟨⟨by decide +kernel, by decide +kernel⟩, List.mem_of_getElem? (i := 145) (by decide +kernel), List.mem_of_getElem? (i := 779) (by decide +kernel), List.mem_of_getElem? (i := 780) (by decide +kernel)⟩
theorem lw_p25 : lw_okq (⟨"NightHouses$Reader", "readDraw", "()Z"⟩, 13) := ⟨⟨by decide +kernel, by decide +kernel⟩, List.mem_of_getElem? (i := 145) (by decide +kernel), List.mem_of_getElem? (i := 783) (by decide +kernel), List.mem_of_getElem? (i := 784) (by decide +kernel)⟩
theorem lw_p26 : lw_okq (⟨"NightHouses", "isHouse", "(I)Z"⟩, 17) := ⟨⟨by decide +kernel, by decide +kernel⟩, List.mem_of_getElem? (i := 26) (by decide +kernel), List.mem_of_getElem? (i := 799) (by decide +kernel), List.mem_of_getElem? (i := 800) (by decide +kernel)⟩
theorem lw_p27 : lw_okq (⟨"NightHouses", "housesAt", "(I)I"⟩, 17) := ⟨⟨by decide +kernel, by decide +kernel⟩, List.mem_of_getElem? (i := 26) (by decide +kernel), List.mem_of_getElem? (i := 832) (by decide +kernel), List.mem_of_getElem? (i := 833) (by decide +kernel)⟩
theorem lw_p28 : lw_okq (⟨"NightHouses", "isCell", "(I)Z"⟩, 17) := ⟨⟨by decide +kernel, by decide +kernel⟩, List.mem_of_getElem? (i := 26) (by decide +kernel), List.mem_of_getElem? (i := 840) (by decide +kernel), List.mem_of_getElem? (i := 841) (by decide +kernel)⟩
theorem lw_p29 : lw_okq (⟨"NightHouses", "aboutKept", "(I)I"⟩, 17) := ⟨⟨by decide +kernel, by decide +kernel⟩, List.mem_of_getElem? (i := 26) (by decide +kernel), List.mem_of_getElem? (i := 867) (by decide +kernel), List.mem_of_getElem? (i := 868) (by decide +kernel)⟩
theorem lw_p30 : lw_okq (⟨"NightHouses$History", "current", "()LNightHouses$Night;"⟩, 4) := ⟨⟨by decide +kernel, by decide +kernel⟩, List.mem_of_getElem? (i := 277) (by decide +kernel), List.mem_of_getElem? (i := 913) (by decide +kernel), List.mem_of_getElem? (i := 914) (by decide +kernel)⟩
theorem lw_p31 : lw_okq (⟨"NightHouses", "isBare", "(I)Z"⟩, 17) := ⟨⟨by decide +kernel, by decide +kernel⟩, List.mem_of_getElem? (i := 26) (by decide +kernel), List.mem_of_getElem? (i := 953) (by decide +kernel), List.mem_of_getElem? (i := 954) (by decide +kernel)⟩
def lw_privs_2 : List (MethodName × Nat) := [(⟨"NightHouses$Reader", "readEither", "(I)Z"⟩, 13), (⟨"NightHouses$Reader", "readBoth", "(I)Z"⟩, 13), (⟨"NightHouses$Reader", "readOne", "(I)Z"⟩, 13), (⟨"NightHouses$Reader", "readNot", "(I)Z"⟩, 13), (⟨"NightHouses$Reader", "readSum", "(I)Z"⟩, 13), (⟨"NightHouses$Reader", "readTerm", "(I)Z"⟩, 13), (⟨"NightHouses$Reader", "readUnit", "(I)Z"⟩, 13), (⟨"NightHouses$Reader", "readCalls", "()Z"⟩, 13), (⟨"NightHouses$Reader", "readGale", "()Z"⟩, 13), (⟨"NightHouses$Reader", "readDraw", "()Z"⟩, 13), (⟨"NightHouses", "isHouse", "(I)Z"⟩, 17), (⟨"NightHouses", "housesAt", "(I)I"⟩, 17), (⟨"NightHouses", "isCell", "(I)Z"⟩, 17), (⟨"NightHouses", "aboutKept", "(I)I"⟩, 17), (⟨"NightHouses$History", "current", "()LNightHouses$Night;"⟩, 4), (⟨"NightHouses", "isBare", "(I)Z"⟩, 17)]
theorem lw_r2 : ∀ q ∈ lw_privs_2, lw_okq q := List.forall_mem_cons.mpr ⟨lw_p16, List.forall_mem_cons.mpr ⟨lw_p17, List.forall_mem_cons.mpr ⟨lw_p18, List.forall_mem_cons.mpr ⟨lw_p19, List.forall_mem_cons.mpr ⟨lw_p20, List.forall_mem_cons.mpr ⟨lw_p21, List.forall_mem_cons.mpr ⟨lw_p22, List.forall_mem_cons.mpr ⟨lw_p23, List.forall_mem_cons.mpr ⟨lw_p24, List.forall_mem_cons.mpr ⟨lw_p25, List.forall_mem_cons.mpr ⟨lw_p26, List.forall_mem_cons.mpr ⟨lw_p27, List.forall_mem_cons.mpr ⟨lw_p28, List.forall_mem_cons.mpr ⟨lw_p29, List.forall_mem_cons.mpr ⟨lw_p30, List.forall_mem_cons.mpr ⟨lw_p31, fun _ h => absurd h List.not_mem_nil⟩⟩⟩⟩⟩⟩⟩⟩⟩⟩⟩⟩⟩⟩⟩⟩
theorem lw_p32 : lw_okq (⟨"NightHouses", "tryAhead", "(IIZ)V"⟩, 17) := ⟨⟨by decide +kernel, by decide +kernel⟩, List.mem_of_getElem? (i := 26) (by decide +kernel), List.mem_of_getElem? (i := 991) (by decide +kernel), List.mem_of_getElem? (i := 992) (by decide +kernel)⟩
theorem lw_p33 : lw_okq (⟨"NightHouses", "goOn", "(IIZ)V"⟩, 17) := ⟨⟨by decide +kernel, by decide +kernel⟩, List.mem_of_getElem? (i := 26) (by decide +kernel), List.mem_of_getElem? (i := 995) (by decide +kernel), List.mem_of_getElem? (i := 996) (by decide +kernel)⟩
theorem lw_p34 : lw_okq (⟨"NightHouses", "arePair", "(II)Z"⟩, 17) := ⟨⟨by decide +kernel, by decide +kernel⟩, List.mem_of_getElem? (i := 26) (by decide +kernel), List.mem_of_getElem? (i := 1007) (by decide +kernel), List.mem_of_getElem? (i := 1008) (by decide +kernel)⟩
theorem lw_p35 : lw_okq (⟨"NightHouses$Planner", "seek", "(II)V"⟩, 7) := ⟨⟨by decide +kernel, by decide +kernel⟩, List.mem_of_getElem? (i := 321) (by decide +kernel), List.mem_of_getElem? (i := 1021) (by decide +kernel), List.mem_of_getElem? (i := 1022) (by decide +kernel)⟩
theorem lw_p36 : lw_okq (⟨"NightHouses$Planner", "seekBehind", "(IIZ)V"⟩, 7) := ⟨⟨by decide +kernel, by decide +kernel⟩, List.mem_of_getElem? (i := 321) (by decide +kernel), List.mem_of_getElem? (i := 1027) (by decide +kernel), List.mem_of_getElem? (i := 1028) (by decide +kernel)⟩
theorem lw_p37 : lw_okq (⟨"NightHouses$Planner", "someoneHears", "(LNightHouses$Night;)Z"⟩, 7) := ⟨⟨by decide +kernel, by decide +kernel⟩, List.mem_of_getElem? (i := 321) (by decide +kernel), List.mem_of_getElem? (i := 1032) (by decide +kernel), List.mem_of_getElem? (i := 1033) (by decide +kernel)⟩
theorem lw_p38 : lw_okq (⟨"NightHouses", "bareCells", "()J"⟩, 17) := ⟨⟨by decide +kernel, by decide +kernel⟩, List.mem_of_getElem? (i := 26) (by decide +kernel), List.mem_of_getElem? (i := 1042) (by decide +kernel), List.mem_of_getElem? (i := 1043) (by decide +kernel)⟩
theorem lw_p39 : lw_okq (⟨"NightHouses$Fencer", "cellsEntered", "(J)J"⟩, 9) := ⟨⟨by decide +kernel, by decide +kernel⟩, List.mem_of_getElem? (i := 352) (by decide +kernel), List.mem_of_getElem? (i := 1050) (by decide +kernel), List.mem_of_getElem? (i := 1051) (by decide +kernel)⟩
theorem lw_p40 : lw_okq (⟨"NightHouses$Fencer", "findOne", "(J)Z"⟩, 9) := ⟨⟨by decide +kernel, by decide +kernel⟩, List.mem_of_getElem? (i := 352) (by decide +kernel), List.mem_of_getElem? (i := 1057) (by decide +kernel), List.mem_of_getElem? (i := 1058) (by decide +kernel)⟩
theorem lw_p41 : lw_okq (⟨"NightHouses$Fencer", "findTwo", "(JJ)Z"⟩, 9) := ⟨⟨by decide +kernel, by decide +kernel⟩, List.mem_of_getElem? (i := 352) (by decide +kernel), List.mem_of_getElem? (i := 1064) (by decide +kernel), List.mem_of_getElem? (i := 1065) (by decide +kernel)⟩
theorem lw_p42 : lw_okq (⟨"NightHouses$Fencer", "canDiffer", "(JII)Z"⟩, 9) := ⟨⟨by decide +kernel, by decide +kernel⟩, List.mem_of_getElem? (i := 352) (by decide +kernel), List.mem_of_getElem? (i := 1068) (by decide +kernel), List.mem_of_getElem? (i := 1069) (by decide +kernel)⟩
theorem lw_p43 : lw_okq (⟨"NightHouses$Walks", "reach", "(II)V"⟩, 4) := ⟨⟨by decide +kernel, by decide +kernel⟩, List.mem_of_getElem? (i := 301) (by decide +kernel), List.mem_of_getElem? (i := 1131) (by decide +kernel), List.mem_of_getElem? (i := 1132) (by decide +kernel)⟩
theorem lw_p44 : lw_okq (⟨"NightHouses", "nearestChase", "(III)I"⟩, 17) := ⟨⟨by decide +kernel, by decide +kernel⟩, List.mem_of_getElem? (i := 26) (by decide +kernel), List.mem_of_getElem? (i := 1161) (by decide +kernel), List.mem_of_getElem? (i := 1162) (by decide +kernel)⟩
theorem lw_p45 : lw_okq (⟨"NightHouses", "farthestFlight", "(III)I"⟩, 17) := ⟨⟨by decide +kernel, by decide +kernel⟩, List.mem_of_getElem? (i := 26) (by decide +kernel), List.mem_of_getElem? (i := 1165) (by decide +kernel), List.mem_of_getElem? (i := 1166) (by decide +kernel)⟩
theorem lw_p46 : lw_okq (⟨"NightHouses", "atHomeExchanged", "(II)I"⟩, 17) := ⟨⟨by decide +kernel, by decide +kernel⟩, List.mem_of_getElem? (i := 26) (by decide +kernel), List.mem_of_getElem? (i := 1174) (by decide +kernel), List.mem_of_getElem? (i := 1175) (by decide +kernel)⟩
theorem lw_p47 : lw_okq (⟨"NightHouses$Sightings", "makeTracks", "(LNightHouses$Land;)V"⟩, 10) := ⟨⟨by decide +kernel, by decide +kernel⟩, List.mem_of_getElem? (i := 390) (by decide +kernel), List.mem_of_getElem? (i := 1214) (by decide +kernel), List.mem_of_getElem? (i := 1215) (by decide +kernel)⟩
def lw_privs_3 : List (MethodName × Nat) := [(⟨"NightHouses", "tryAhead", "(IIZ)V"⟩, 17), (⟨"NightHouses", "goOn", "(IIZ)V"⟩, 17), (⟨"NightHouses", "arePair", "(II)Z"⟩, 17), (⟨"NightHouses$Planner", "seek", "(II)V"⟩, 7), (⟨"NightHouses$Planner", "seekBehind", "(IIZ)V"⟩, 7), (⟨"NightHouses$Planner", "someoneHears", "(LNightHouses$Night;)Z"⟩, 7), (⟨"NightHouses", "bareCells", "()J"⟩, 17), (⟨"NightHouses$Fencer", "cellsEntered", "(J)J"⟩, 9), (⟨"NightHouses$Fencer", "findOne", "(J)Z"⟩, 9), (⟨"NightHouses$Fencer", "findTwo", "(JJ)Z"⟩, 9), (⟨"NightHouses$Fencer", "canDiffer", "(JII)Z"⟩, 9), (⟨"NightHouses$Walks", "reach", "(II)V"⟩, 4), (⟨"NightHouses", "nearestChase", "(III)I"⟩, 17), (⟨"NightHouses", "farthestFlight", "(III)I"⟩, 17), (⟨"NightHouses", "atHomeExchanged", "(II)I"⟩, 17), (⟨"NightHouses$Sightings", "makeTracks", "(LNightHouses$Land;)V"⟩, 10)]
theorem lw_r3 : ∀ q ∈ lw_privs_3, lw_okq q := List.forall_mem_cons.mpr ⟨lw_p32, List.forall_mem_cons.mpr ⟨lw_p33, List.forall_mem_cons.mpr ⟨lw_p34, List.forall_mem_cons.mpr ⟨lw_p35, List.forall_mem_cons.mpr ⟨lw_p36, List.forall_mem_cons.mpr ⟨lw_p37, List.forall_mem_cons.mpr ⟨lw_p38, List.forall_mem_cons.mpr ⟨lw_p39, List.forall_mem_cons.mpr ⟨lw_p40, List.forall_mem_cons.mpr ⟨lw_p41, List.forall_mem_cons.mpr ⟨lw_p42, List.forall_mem_cons.mpr ⟨lw_p43, List.forall_mem_cons.mpr ⟨lw_p44, List.forall_mem_cons.mpr ⟨lw_p45, List.forall_mem_cons.mpr ⟨lw_p46, List.forall_mem_cons.mpr ⟨lw_p47, fun _ h => absurd h List.not_mem_nil⟩⟩⟩⟩⟩⟩⟩⟩⟩⟩⟩⟩⟩⟩⟩⟩
theorem lw_p48 : lw_okq (⟨"NightHouses$Sightings", "isKnown", "(II)Z"⟩, 10) := ⟨⟨by decide +kernel, by decide +kernel⟩, List.mem_of_getElem? (i := 390) (by decide +kernel), List.mem_of_getElem? (i := 1221) (by decide +kernel), List.mem_of_getElem? (i := 1222) (by decide +kernel)⟩
theorem lw_p49 : lw_okq (⟨"NightHouses$Sightings", "agreeing", "(LNightHouses$Land;I)J"⟩, 10) := ⟨⟨by decide +kernel, by decide +kernel⟩, List.mem_of_getElem? (i := 390) (by decide +kernel), List.mem_of_getElem? (i := 1225) (by decide +kernel), List.mem_of_getElem? (i := 1226) (by decide +kernel)⟩
theorem lw_p50 : lw_okq (⟨"NightHouses$Sightings", "cellBehind", "(II)I"⟩, 10) := ⟨⟨by decide +kernel, by decide +kernel⟩, List.mem_of_getElem? (i := 390) (by decide +kernel), List.mem_of_getElem? (i := 1229) (by decide +kernel), List.mem_of_getElem? (i := 1230) (by decide +kernel)⟩
theorem lw_p51 : lw_okq (⟨"NightHousesModel", "clearBank", "()V"⟩, 64) := ⟨⟨by decide +kernel, by decide +kernel⟩, List.mem_of_getElem? (i := 1260) (by decide +kernel), List.mem_of_getElem? (i := 1266) (by decide +kernel), List.mem_of_getElem? (i := 1267) (by decide +kernel)⟩
theorem lw_p52 : lw_okq (⟨"NightHousesModel", "startAnew", "()V"⟩, 64) := ⟨⟨by decide +kernel, by decide +kernel⟩, List.mem_of_getElem? (i := 1260) (by decide +kernel), List.mem_of_getElem? (i := 1270) (by decide +kernel), List.mem_of_getElem? (i := 1271) (by decide +kernel)⟩
theorem lw_p53 : lw_okq (⟨"NightHousesModel", "layTold", "()V"⟩, 64) := ⟨⟨by decide +kernel, by decide +kernel⟩, List.mem_of_getElem? (i := 1260) (by decide +kernel), List.mem_of_getElem? (i := 1274) (by decide +kernel), List.mem_of_getElem? (i := 1275) (by decide +kernel)⟩
theorem lw_p54 : lw_okq (⟨"NightHousesModel", "many", "()I"⟩, 64) := ⟨⟨by decide +kernel, by decide +kernel⟩, List.mem_of_getElem? (i := 1260) (by decide +kernel), List.mem_of_getElem? (i := 1278) (by decide +kernel), List.mem_of_getElem? (i := 1279) (by decide +kernel)⟩
theorem lw_p55 : lw_okq (⟨"NightHousesModel", "homeOf", "(I)I"⟩, 64) := ⟨⟨by decide +kernel, by decide +kernel⟩, List.mem_of_getElem? (i := 1260) (by decide +kernel), List.mem_of_getElem? (i := 1282) (by decide +kernel), List.mem_of_getElem? (i := 1283) (by decide +kernel)⟩
theorem lw_p56 : lw_okq (⟨"NightHousesModel", "goOn", "()V"⟩, 64) := ⟨⟨by decide +kernel, by decide +kernel⟩, List.mem_of_getElem? (i := 1260) (by decide +kernel), List.mem_of_getElem? (i := 1483) (by decide +kernel), List.mem_of_getElem? (i := 1484) (by decide +kernel)⟩
theorem lw_p57 : lw_okq (⟨"NightHousesModel", "sign", "(I)I"⟩, 64) := ⟨⟨by decide +kernel, by decide +kernel⟩, List.mem_of_getElem? (i := 1260) (by decide +kernel), List.mem_of_getElem? (i := 1487) (by decide +kernel), List.mem_of_getElem? (i := 1488) (by decide +kernel)⟩
theorem lw_p58 : lw_okq (⟨"NightHousesModel", "isGood", "()Z"⟩, 64) := ⟨⟨by decide +kernel, by decide +kernel⟩, List.mem_of_getElem? (i := 1260) (by decide +kernel), List.mem_of_getElem? (i := 1522) (by decide +kernel), List.mem_of_getElem? (i := 1523) (by decide +kernel)⟩
theorem lw_p59 : lw_okq (⟨"NightHousesModel", "readLine", "()V"⟩, 64) := ⟨⟨by decide +kernel, by decide +kernel⟩, List.mem_of_getElem? (i := 1260) (by decide +kernel), List.mem_of_getElem? (i := 1526) (by decide +kernel), List.mem_of_getElem? (i := 1527) (by decide +kernel)⟩
theorem lw_p60 : lw_okq (⟨"NightHousesModel", "isFull", "()Z"⟩, 64) := ⟨⟨by decide +kernel, by decide +kernel⟩, List.mem_of_getElem? (i := 1260) (by decide +kernel), List.mem_of_getElem? (i := 1530) (by decide +kernel), List.mem_of_getElem? (i := 1531) (by decide +kernel)⟩
theorem lw_p61 : lw_okq (⟨"NightHousesModel", "isWord", "(J)Z"⟩, 64) := ⟨⟨by decide +kernel, by decide +kernel⟩, List.mem_of_getElem? (i := 1260) (by decide +kernel), List.mem_of_getElem? (i := 1534) (by decide +kernel), List.mem_of_getElem? (i := 1535) (by decide +kernel)⟩
theorem lw_p62 : lw_okq (⟨"NightHousesModel", "misplaced", "()V"⟩, 64) := ⟨⟨by decide +kernel, by decide +kernel⟩, List.mem_of_getElem? (i := 1260) (by decide +kernel), List.mem_of_getElem? (i := 1541) (by decide +kernel), List.mem_of_getElem? (i := 1542) (by decide +kernel)⟩
theorem lw_p63 : lw_okq (⟨"NightHousesModel", "fails", "(II)V"⟩, 64) := ⟨⟨by decide +kernel, by decide +kernel⟩, List.mem_of_getElem? (i := 1260) (by decide +kernel), List.mem_of_getElem? (i := 1545) (by decide +kernel), List.mem_of_getElem? (i := 1546) (by decide +kernel)⟩
def lw_privs_4 : List (MethodName × Nat) := [(⟨"NightHouses$Sightings", "isKnown", "(II)Z"⟩, 10), (⟨"NightHouses$Sightings", "agreeing", "(LNightHouses$Land;I)J"⟩, 10), (⟨"NightHouses$Sightings", "cellBehind", "(II)I"⟩, 10), (⟨"NightHousesModel", "clearBank", "()V"⟩, 64), (⟨"NightHousesModel", "startAnew", "()V"⟩, 64), (⟨"NightHousesModel", "layTold", "()V"⟩, 64), (⟨"NightHousesModel", "many", "()I"⟩, 64), (⟨"NightHousesModel", "homeOf", "(I)I"⟩, 64), (⟨"NightHousesModel", "goOn", "()V"⟩, 64), (⟨"NightHousesModel", "sign", "(I)I"⟩, 64), (⟨"NightHousesModel", "isGood", "()Z"⟩, 64), (⟨"NightHousesModel", "readLine", "()V"⟩, 64), (⟨"NightHousesModel", "isFull", "()Z"⟩, 64), (⟨"NightHousesModel", "isWord", "(J)Z"⟩, 64), (⟨"NightHousesModel", "misplaced", "()V"⟩, 64), (⟨"NightHousesModel", "fails", "(II)V"⟩, 64)]
theorem lw_r4 : ∀ q ∈ lw_privs_4, lw_okq q := List.forall_mem_cons.mpr ⟨lw_p48, List.forall_mem_cons.mpr ⟨lw_p49, List.forall_mem_cons.mpr ⟨lw_p50, List.forall_mem_cons.mpr ⟨lw_p51, List.forall_mem_cons.mpr ⟨lw_p52, List.forall_mem_cons.mpr ⟨lw_p53, List.forall_mem_cons.mpr ⟨lw_p54, List.forall_mem_cons.mpr ⟨lw_p55, List.forall_mem_cons.mpr ⟨lw_p56, List.forall_mem_cons.mpr ⟨lw_p57, List.forall_mem_cons.mpr ⟨lw_p58, List.forall_mem_cons.mpr ⟨lw_p59, List.forall_mem_cons.mpr ⟨lw_p60, List.forall_mem_cons.mpr ⟨lw_p61, List.forall_mem_cons.mpr ⟨lw_p62, List.forall_mem_cons.mpr ⟨lw_p63, fun _ h => absurd h List.not_mem_nil⟩⟩⟩⟩⟩⟩⟩⟩⟩⟩⟩⟩⟩⟩⟩⟩
theorem lw_p64 : lw_okq (⟨"NightHousesModel", "numeral", "(II)I"⟩, 64) := ⟨⟨by decide +kernel, by decide +kernel⟩, List.mem_of_getElem? (i := 1260) (by decide +kernel), List.mem_of_getElem? (i := 1549) (by decide +kernel), List.mem_of_getElem? (i := 1550) (by decide +kernel)⟩
theorem lw_p65 : lw_okq (⟨"NightHousesModel", "must", "(Z)V"⟩, 64) := ⟨⟨by decide +kernel, by decide +kernel⟩, List.mem_of_getElem? (i := 1260) (by decide +kernel), List.mem_of_getElem? (i := 1553) (by decide +kernel), List.mem_of_getElem? (i := 1554) (by decide +kernel)⟩
theorem lw_p66 : lw_okq (⟨"NightHousesModel", "readCell", "(Z)I"⟩, 64) := ⟨⟨by decide +kernel, by decide +kernel⟩, List.mem_of_getElem? (i := 1260) (by decide +kernel), List.mem_of_getElem? (i := 1557) (by decide +kernel), List.mem_of_getElem? (i := 1558) (by decide +kernel)⟩
theorem lw_p67 : lw_okq (⟨"NightHousesModel", "isHedgeTold", "(I)Z"⟩, 64) := ⟨⟨by decide +kernel, by decide +kernel⟩, List.mem_of_getElem? (i := 1260) (by decide +kernel), List.mem_of_getElem? (i := 1561) (by decide +kernel), List.mem_of_getElem? (i := 1562) (by decide +kernel)⟩
theorem lw_p68 : lw_okq (⟨"NightHousesModel", "isHouseTold", "(I)Z"⟩, 64) := ⟨⟨by decide +kernel, by decide +kernel⟩, List.mem_of_getElem? (i := 1260) (by decide +kernel), List.mem_of_getElem? (i := 1565) (by decide +kernel), List.mem_of_getElem? (i := 1566) (by decide +kernel)⟩
theorem lw_p69 : lw_okq (⟨"NightHousesModel", "readHouse", "()V"⟩, 64) := ⟨⟨by decide +kernel, by decide +kernel⟩, List.mem_of_getElem? (i := 1260) (by decide +kernel), List.mem_of_getElem? (i := 1569) (by decide +kernel), List.mem_of_getElem? (i := 1570) (by decide +kernel)⟩
theorem lw_p70 : lw_okq (⟨"NightHousesModel", "readRule", "()V"⟩, 64) := ⟨⟨by decide +kernel, by decide +kernel⟩, List.mem_of_getElem? (i := 1260) (by decide +kernel), List.mem_of_getElem? (i := 1573) (by decide +kernel), List.mem_of_getElem? (i := 1574) (by decide +kernel)⟩
theorem lw_p71 : lw_okq (⟨"NightHousesModel", "e", "()V"⟩, 64) := ⟨⟨by decide +kernel, by decide +kernel⟩, List.mem_of_getElem? (i := 1260) (by decide +kernel), List.mem_of_getElem? (i := 1577) (by decide +kernel), List.mem_of_getElem? (i := 1578) (by decide +kernel)⟩
theorem lw_p72 : lw_okq (⟨"NightHousesModel", "pushE", "(II)V"⟩, 64) := ⟨⟨by decide +kernel, by decide +kernel⟩, List.mem_of_getElem? (i := 1260) (by decide +kernel), List.mem_of_getElem? (i := 1581) (by decide +kernel), List.mem_of_getElem? (i := 1582) (by decide +kernel)⟩
theorem lw_p73 : lw_okq (⟨"NightHousesModel", "unit", "()Z"⟩, 64) := ⟨⟨by decide +kernel, by decide +kernel⟩, List.mem_of_getElem? (i := 1260) (by decide +kernel), List.mem_of_getElem? (i := 1585) (by decide +kernel), List.mem_of_getElem? (i := 1586) (by decide +kernel)⟩
theorem lw_p74 : lw_okq (⟨"NightHousesModel", "isSignHere", "(I)Z"⟩, 64) := ⟨⟨by decide +kernel, by decide +kernel⟩, List.mem_of_getElem? (i := 1260) (by decide +kernel), List.mem_of_getElem? (i := 1589) (by decide +kernel), List.mem_of_getElem? (i := 1590) (by decide +kernel)⟩
theorem lw_p75 : lw_okq (⟨"NightHousesModel", "wordHere", "()I"⟩, 64) := ⟨⟨by decide +kernel, by decide +kernel⟩, List.mem_of_getElem? (i := 1260) (by decide +kernel), List.mem_of_getElem? (i := 1593) (by decide +kernel), List.mem_of_getElem? (i := 1594) (by decide +kernel)⟩
theorem lw_p76 : lw_okq (⟨"NightHousesModel", "emit", "(II)V"⟩, 64) := ⟨⟨by decide +kernel, by decide +kernel⟩, List.mem_of_getElem? (i := 1260) (by decide +kernel), List.mem_of_getElem? (i := 1597) (by decide +kernel), List.mem_of_getElem? (i := 1598) (by decide +kernel)⟩
theorem lw_p77 : lw_okq (⟨"NightHousesModel", "behindUnit", "()Z"⟩, 64) := ⟨⟨by decide +kernel, by decide +kernel⟩, List.mem_of_getElem? (i := 1260) (by decide +kernel), List.mem_of_getElem? (i := 1601) (by decide +kernel), List.mem_of_getElem? (i := 1602) (by decide +kernel)⟩
theorem lw_p78 : lw_okq (⟨"NightHousesModel", "rankHere", "()I"⟩, 64) := ⟨⟨by decide +kernel, by decide +kernel⟩, List.mem_of_getElem? (i := 1260) (by decide +kernel), List.mem_of_getElem? (i := 1605) (by decide +kernel), List.mem_of_getElem? (i := 1606) (by decide +kernel)⟩
theorem lw_p79 : lw_okq (⟨"NightHousesModel", "isCompared", "()Z"⟩, 64) := ⟨⟨by decide +kernel, by decide +kernel⟩, List.mem_of_getElem? (i := 1260) (by decide +kernel), List.mem_of_getElem? (i := 1609) (by decide +kernel), List.mem_of_getElem? (i := 1610) (by decide +kernel)⟩
def lw_privs_5 : List (MethodName × Nat) := [(⟨"NightHousesModel", "numeral", "(II)I"⟩, 64), (⟨"NightHousesModel", "must", "(Z)V"⟩, 64), (⟨"NightHousesModel", "readCell", "(Z)I"⟩, 64), (⟨"NightHousesModel", "isHedgeTold", "(I)Z"⟩, 64), (⟨"NightHousesModel", "isHouseTold", "(I)Z"⟩, 64), (⟨"NightHousesModel", "readHouse", "()V"⟩, 64), (⟨"NightHousesModel", "readRule", "()V"⟩, 64), (⟨"NightHousesModel", "e", "()V"⟩, 64), (⟨"NightHousesModel", "pushE", "(II)V"⟩, 64), (⟨"NightHousesModel", "unit", "()Z"⟩, 64), (⟨"NightHousesModel", "isSignHere", "(I)Z"⟩, 64), (⟨"NightHousesModel", "wordHere", "()I"⟩, 64), (⟨"NightHousesModel", "emit", "(II)V"⟩, 64), (⟨"NightHousesModel", "behindUnit", "()Z"⟩, 64), (⟨"NightHousesModel", "rankHere", "()I"⟩, 64), (⟨"NightHousesModel", "isCompared", "()Z"⟩, 64)]
theorem lw_r5 : ∀ q ∈ lw_privs_5, lw_okq q := List.forall_mem_cons.mpr ⟨lw_p64, List.forall_mem_cons.mpr ⟨lw_p65, List.forall_mem_cons.mpr ⟨lw_p66, List.forall_mem_cons.mpr ⟨lw_p67, List.forall_mem_cons.mpr ⟨lw_p68, List.forall_mem_cons.mpr ⟨lw_p69, List.forall_mem_cons.mpr ⟨lw_p70, List.forall_mem_cons.mpr ⟨lw_p71, List.forall_mem_cons.mpr ⟨lw_p72, List.forall_mem_cons.mpr ⟨lw_p73, List.forall_mem_cons.mpr ⟨lw_p74, List.forall_mem_cons.mpr ⟨lw_p75, List.forall_mem_cons.mpr ⟨lw_p76, List.forall_mem_cons.mpr ⟨lw_p77, List.forall_mem_cons.mpr ⟨lw_p78, List.forall_mem_cons.mpr ⟨lw_p79, fun _ h => absurd h List.not_mem_nil⟩⟩⟩⟩⟩⟩⟩⟩⟩⟩⟩⟩⟩⟩⟩⟩
theorem lw_p80 : lw_okq (⟨"NightHousesModel", "once", "(II)I"⟩, 64) := ⟨⟨by decide +kernel, by decide +kernel⟩, List.mem_of_getElem? (i := 1260) (by decide +kernel), List.mem_of_getElem? (i := 1613) (by decide +kernel), List.mem_of_getElem? (i := 1614) (by decide +kernel)⟩
theorem lw_p81 : lw_okq (⟨"NightHousesModel", "firstFree", "()I"⟩, 64) := ⟨⟨by decide +kernel, by decide +kernel⟩, List.mem_of_getElem? (i := 1260) (by decide +kernel), List.mem_of_getElem? (i := 1617) (by decide +kernel), List.mem_of_getElem? (i := 1618) (by decide +kernel)⟩
theorem lw_p82 : lw_okq (⟨"NightHousesModel", "isHouse", "(I)Z"⟩, 64) := ⟨⟨by decide +kernel, by decide +kernel⟩, List.mem_of_getElem? (i := 1260) (by decide +kernel), List.mem_of_getElem? (i := 1629) (by decide +kernel), List.mem_of_getElem? (i := 1630) (by decide +kernel)⟩
theorem lw_p83 : lw_okq (⟨"NightHousesModel", "wayOf", "(I)I"⟩, 64) := ⟨⟨by decide +kernel, by decide +kernel⟩, List.mem_of_getElem? (i := 1260) (by decide +kernel), List.mem_of_getElem? (i := 1636) (by decide +kernel), List.mem_of_getElem? (i := 1637) (by decide +kernel)⟩
theorem lw_p84 : lw_okq (⟨"NightHousesModel", "comes", "()I"⟩, 64) := ⟨⟨by decide +kernel, by decide +kernel⟩, List.mem_of_getElem? (i := 1260) (by decide +kernel), List.mem_of_getElem? (i := 1640) (by decide +kernel), List.mem_of_getElem? (i := 1641) (by decide +kernel)⟩
theorem lw_p85 : lw_okq (⟨"NightHousesModel", "asked", "(II)I"⟩, 64) := ⟨⟨by decide +kernel, by decide +kernel⟩, List.mem_of_getElem? (i := 1260) (by decide +kernel), List.mem_of_getElem? (i := 1644) (by decide +kernel), List.mem_of_getElem? (i := 1645) (by decide +kernel)⟩
theorem lw_p86 : lw_okq (⟨"NightHousesModel", "housesAt", "(I)I"⟩, 64) := ⟨⟨by decide +kernel, by decide +kernel⟩, List.mem_of_getElem? (i := 1260) (by decide +kernel), List.mem_of_getElem? (i := 1651) (by decide +kernel), List.mem_of_getElem? (i := 1652) (by decide +kernel)⟩
theorem lw_p87 : lw_okq (⟨"NightHousesModel", "isSpot", "(I)Z"⟩, 64) := ⟨⟨by decide +kernel, by decide +kernel⟩, List.mem_of_getElem? (i := 1260) (by decide +kernel), List.mem_of_getElem? (i := 1659) (by decide +kernel), List.mem_of_getElem? (i := 1660) (by decide +kernel)⟩
theorem lw_p88 : lw_okq (⟨"NightHousesModel", "spots", "()I"⟩, 64) := ⟨⟨by decide +kernel, by decide +kernel⟩, List.mem_of_getElem? (i := 1260) (by decide +kernel), List.mem_of_getElem? (i := 1663) (by decide +kernel), List.mem_of_getElem? (i := 1664) (by decide +kernel)⟩
theorem lw_p89 : lw_okq (⟨"NightHousesModel", "farOf", "(II)I"⟩, 64) := ⟨⟨by decide +kernel, by decide +kernel⟩, List.mem_of_getElem? (i := 1260) (by decide +kernel), List.mem_of_getElem? (i := 1667) (by decide +kernel), List.mem_of_getElem? (i := 1668) (by decide +kernel)⟩
theorem lw_p90 : lw_okq (⟨"NightHousesModel", "hearBy", "(I)I"⟩, 64) := ⟨⟨by decide +kernel, by decide +kernel⟩, List.mem_of_getElem? (i := 1260) (by decide +kernel), List.mem_of_getElem? (i := 1678) (by decide +kernel), List.mem_of_getElem? (i := 1679) (by decide +kernel)⟩
theorem lw_p91 : lw_okq (⟨"NightHousesModel", "homeNow", "()I"⟩, 64) := ⟨⟨by decide +kernel, by decide +kernel⟩, List.mem_of_getElem? (i := 1260) (by decide +kernel), List.mem_of_getElem? (i := 1693) (by decide +kernel), List.mem_of_getElem? (i := 1694) (by decide +kernel)⟩
theorem lw_p92 : lw_okq (⟨"NightHousesModel", "goBy", "(II)I"⟩, 64) := ⟨⟨by decide +kernel, by decide +kernel⟩, List.mem_of_getElem? (i := 1260) (by decide +kernel), List.mem_of_getElem? (i := 1705) (by decide +kernel), List.mem_of_getElem? (i := 1706) (by decide +kernel)⟩
theorem lw_p93 : lw_okq (⟨"NightHousesModel", "exchange", "(II)V"⟩, 64) := ⟨⟨by decide +kernel, by decide +kernel⟩, List.mem_of_getElem? (i := 1260) (by decide +kernel), List.mem_of_getElem? (i := 1717) (by decide +kernel), List.mem_of_getElem? (i := 1718) (by decide +kernel)⟩
theorem lw_p94 : lw_okq (⟨"NightHousesModel", "keepAct", "()V"⟩, 64) := ⟨⟨by decide +kernel, by decide +kernel⟩, List.mem_of_getElem? (i := 1260) (by decide +kernel), List.mem_of_getElem? (i := 1725) (by decide +kernel), List.mem_of_getElem? (i := 1726) (by decide +kernel)⟩
theorem lw_p95 : lw_okq (⟨"NightHousesModel", "goInEarnest", "(Z)I"⟩, 64) := ⟨⟨by decide +kernel, by decide +kernel⟩, List.mem_of_getElem? (i := 1260) (by decide +kernel), List.mem_of_getElem? (i := 1729) (by decide +kernel), List.mem_of_getElem? (i := 1730) (by decide +kernel)⟩
def lw_privs_6 : List (MethodName × Nat) := [(⟨"NightHousesModel", "once", "(II)I"⟩, 64), (⟨"NightHousesModel", "firstFree", "()I"⟩, 64), (⟨"NightHousesModel", "isHouse", "(I)Z"⟩, 64), (⟨"NightHousesModel", "wayOf", "(I)I"⟩, 64), (⟨"NightHousesModel", "comes", "()I"⟩, 64), (⟨"NightHousesModel", "asked", "(II)I"⟩, 64), (⟨"NightHousesModel", "housesAt", "(I)I"⟩, 64), (⟨"NightHousesModel", "isSpot", "(I)Z"⟩, 64), (⟨"NightHousesModel", "spots", "()I"⟩, 64), (⟨"NightHousesModel", "farOf", "(II)I"⟩, 64), (⟨"NightHousesModel", "hearBy", "(I)I"⟩, 64), (⟨"NightHousesModel", "homeNow", "()I"⟩, 64), (⟨"NightHousesModel", "goBy", "(II)I"⟩, 64), (⟨"NightHousesModel", "exchange", "(II)V"⟩, 64), (⟨"NightHousesModel", "keepAct", "()V"⟩, 64), (⟨"NightHousesModel", "goInEarnest", "(Z)I"⟩, 64)]
theorem lw_r6 : ∀ q ∈ lw_privs_6, lw_okq q := List.forall_mem_cons.mpr ⟨lw_p80, List.forall_mem_cons.mpr ⟨lw_p81, List.forall_mem_cons.mpr ⟨lw_p82, List.forall_mem_cons.mpr ⟨lw_p83, List.forall_mem_cons.mpr ⟨lw_p84, List.forall_mem_cons.mpr ⟨lw_p85, List.forall_mem_cons.mpr ⟨lw_p86, List.forall_mem_cons.mpr ⟨lw_p87, List.forall_mem_cons.mpr ⟨lw_p88, List.forall_mem_cons.mpr ⟨lw_p89, List.forall_mem_cons.mpr ⟨lw_p90, List.forall_mem_cons.mpr ⟨lw_p91, List.forall_mem_cons.mpr ⟨lw_p92, List.forall_mem_cons.mpr ⟨lw_p93, List.forall_mem_cons.mpr ⟨lw_p94, List.forall_mem_cons.mpr ⟨lw_p95, fun _ h => absurd h List.not_mem_nil⟩⟩⟩⟩⟩⟩⟩⟩⟩⟩⟩⟩⟩⟩⟩⟩
theorem lw_p96 : lw_okq (⟨"NightHousesModel", "goAll", "(Z)V"⟩, 64) := ⟨⟨by decide +kernel, by decide +kernel⟩, List.mem_of_getElem? (i := 1260) (by decide +kernel), List.mem_of_getElem? (i := 1733) (by decide +kernel), List.mem_of_getElem? (i := 1734) (by decide +kernel)⟩
theorem lw_p97 : lw_okq (⟨"NightHousesModel", "comeTo", "(II)I"⟩, 64) := ⟨⟨by decide +kernel, by decide +kernel⟩, List.mem_of_getElem? (i := 1260) (by decide +kernel), List.mem_of_getElem? (i := 1737) (by decide +kernel), List.mem_of_getElem? (i := 1738) (by decide +kernel)⟩
theorem lw_p98 : lw_okq (⟨"NightHousesModel", "endStep", "()I"⟩, 64) := ⟨⟨by decide +kernel, by decide +kernel⟩, List.mem_of_getElem? (i := 1260) (by decide +kernel), List.mem_of_getElem? (i := 1741) (by decide +kernel), List.mem_of_getElem? (i := 1742) (by decide +kernel)⟩
theorem lw_p99 : lw_okq (⟨"NightHousesModel", "isBare", "(I)Z"⟩, 64) := ⟨⟨by decide +kernel, by decide +kernel⟩, List.mem_of_getElem? (i := 1260) (by decide +kernel), List.mem_of_getElem? (i := 1757) (by decide +kernel), List.mem_of_getElem? (i := 1758) (by decide +kernel)⟩
theorem lw_p100 : lw_okq (⟨"NightHousesModel", "hedgesNow", "()I"⟩, 64) := ⟨⟨by decide +kernel, by decide +kernel⟩, List.mem_of_getElem? (i := 1260) (by decide +kernel), List.mem_of_getElem? (i := 1761) (by decide +kernel), List.mem_of_getElem? (i := 1762) (by decide +kernel)⟩
theorem lw_p101 : lw_okq (⟨"NightHousesModel", "swapAll", "()V"⟩, 64) := ⟨⟨by decide +kernel, by decide +kernel⟩, List.mem_of_getElem? (i := 1260) (by decide +kernel), List.mem_of_getElem? (i := 1773) (by decide +kernel), List.mem_of_getElem? (i := 1774) (by decide +kernel)⟩
theorem lw_p102 : lw_okq (⟨"NightHousesModel", "keepNow", "()V"⟩, 64) := ⟨⟨by decide +kernel, by decide +kernel⟩, List.mem_of_getElem? (i := 1260) (by decide +kernel), List.mem_of_getElem? (i := 1792) (by decide +kernel), List.mem_of_getElem? (i := 1793) (by decide +kernel)⟩
theorem lw_p103 : lw_okq (⟨"NightHousesModel", "goStep", "(Z)I"⟩, 64) := ⟨⟨by decide +kernel, by decide +kernel⟩, List.mem_of_getElem? (i := 1260) (by decide +kernel), List.mem_of_getElem? (i := 1796) (by decide +kernel), List.mem_of_getElem? (i := 1797) (by decide +kernel)⟩
theorem lw_p104 : lw_okq (⟨"NightHousesModel", "bringBack", "()V"⟩, 64) := ⟨⟨by decide +kernel, by decide +kernel⟩, List.mem_of_getElem? (i := 1260) (by decide +kernel), List.mem_of_getElem? (i := 1800) (by decide +kernel), List.mem_of_getElem? (i := 1801) (by decide +kernel)⟩
theorem lw_p105 : lw_okq (⟨"NightHousesModel", "goSteps", "(IZ)V"⟩, 64) := ⟨⟨by decide +kernel, by decide +kernel⟩, List.mem_of_getElem? (i := 1260) (by decide +kernel), List.mem_of_getElem? (i := 1816) (by decide +kernel), List.mem_of_getElem? (i := 1817) (by decide +kernel)⟩
theorem lw_p106 : lw_okq (⟨"NightHousesModel", "tiltNow", "()I"⟩, 64) := ⟨⟨by decide +kernel, by decide +kernel⟩, List.mem_of_getElem? (i := 1260) (by decide +kernel), List.mem_of_getElem? (i := 1824) (by decide +kernel), List.mem_of_getElem? (i := 1825) (by decide +kernel)⟩
theorem lw_p107 : lw_okq (⟨"NightHousesModel", "countHouses", "()V"⟩, 64) := ⟨⟨by decide +kernel, by decide +kernel⟩, List.mem_of_getElem? (i := 1260) (by decide +kernel), List.mem_of_getElem? (i := 1836) (by decide +kernel), List.mem_of_getElem? (i := 1837) (by decide +kernel)⟩
theorem lw_p108 : lw_okq (⟨"NightHousesModel", "oftenest", "()I"⟩, 64) := ⟨⟨by decide +kernel, by decide +kernel⟩, List.mem_of_getElem? (i := 1260) (by decide +kernel), List.mem_of_getElem? (i := 1840) (by decide +kernel), List.mem_of_getElem? (i := 1841) (by decide +kernel)⟩
theorem lw_p109 : lw_okq (⟨"NightHousesModel", "doMeetIn", "(III)Z"⟩, 64) := ⟨⟨by decide +kernel, by decide +kernel⟩, List.mem_of_getElem? (i := 1260) (by decide +kernel), List.mem_of_getElem? (i := 1856) (by decide +kernel), List.mem_of_getElem? (i := 1857) (by decide +kernel)⟩
theorem lw_p110 : lw_okq (⟨"NightHousesModel", "layFar", "(I)V"⟩, 64) := ⟨⟨by decide +kernel, by decide +kernel⟩, List.mem_of_getElem? (i := 1260) (by decide +kernel), List.mem_of_getElem? (i := 1872) (by decide +kernel), List.mem_of_getElem? (i := 1873) (by decide +kernel)⟩
theorem lw_p111 : lw_okq (⟨"NightHousesModel", "chaseOne", "(II)I"⟩, 64) := ⟨⟨by decide +kernel, by decide +kernel⟩, List.mem_of_getElem? (i := 1260) (by decide +kernel), List.mem_of_getElem? (i := 1892) (by decide +kernel), List.mem_of_getElem? (i := 1893) (by decide +kernel)⟩
def lw_privs_7 : List (MethodName × Nat) := [(⟨"NightHousesModel", "goAll", "(Z)V"⟩, 64), (⟨"NightHousesModel", "comeTo", "(II)I"⟩, 64), (⟨"NightHousesModel", "endStep", "()I"⟩, 64), (⟨"NightHousesModel", "isBare", "(I)Z"⟩, 64), (⟨"NightHousesModel", "hedgesNow", "()I"⟩, 64), (⟨"NightHousesModel", "swapAll", "()V"⟩, 64), (⟨"NightHousesModel", "keepNow", "()V"⟩, 64), (⟨"NightHousesModel", "goStep", "(Z)I"⟩, 64), (⟨"NightHousesModel", "bringBack", "()V"⟩, 64), (⟨"NightHousesModel", "goSteps", "(IZ)V"⟩, 64), (⟨"NightHousesModel", "tiltNow", "()I"⟩, 64), (⟨"NightHousesModel", "countHouses", "()V"⟩, 64), (⟨"NightHousesModel", "oftenest", "()I"⟩, 64), (⟨"NightHousesModel", "doMeetIn", "(III)Z"⟩, 64), (⟨"NightHousesModel", "layFar", "(I)V"⟩, 64), (⟨"NightHousesModel", "chaseOne", "(II)I"⟩, 64)]
theorem lw_r7 : ∀ q ∈ lw_privs_7, lw_okq q := List.forall_mem_cons.mpr ⟨lw_p96, List.forall_mem_cons.mpr ⟨lw_p97, List.forall_mem_cons.mpr ⟨lw_p98, List.forall_mem_cons.mpr ⟨lw_p99, List.forall_mem_cons.mpr ⟨lw_p100, List.forall_mem_cons.mpr ⟨lw_p101, List.forall_mem_cons.mpr ⟨lw_p102, List.forall_mem_cons.mpr ⟨lw_p103, List.forall_mem_cons.mpr ⟨lw_p104, List.forall_mem_cons.mpr ⟨lw_p105, List.forall_mem_cons.mpr ⟨lw_p106, List.forall_mem_cons.mpr ⟨lw_p107, List.forall_mem_cons.mpr ⟨lw_p108, List.forall_mem_cons.mpr ⟨lw_p109, List.forall_mem_cons.mpr ⟨lw_p110, List.forall_mem_cons.mpr ⟨lw_p111, fun _ h => absurd h List.not_mem_nil⟩⟩⟩⟩⟩⟩⟩⟩⟩⟩⟩⟩⟩⟩⟩⟩
theorem lw_p112 : lw_okq (⟨"NightHousesModel", "chaseTwo", "(II)I"⟩, 64) := ⟨⟨by decide +kernel, by decide +kernel⟩, List.mem_of_getElem? (i := 1260) (by decide +kernel), List.mem_of_getElem? (i := 1896) (by decide +kernel), List.mem_of_getElem? (i := 1897) (by decide +kernel)⟩
theorem lw_p113 : lw_okq (⟨"NightHousesModel", "chaseThree", "(II)I"⟩, 64) := ⟨⟨by decide +kernel, by decide +kernel⟩, List.mem_of_getElem? (i := 1260) (by decide +kernel), List.mem_of_getElem? (i := 1900) (by decide +kernel), List.mem_of_getElem? (i := 1901) (by decide +kernel)⟩
theorem lw_p114 : lw_okq (⟨"NightHousesModel", "layPaths", "()V"⟩, 64) := ⟨⟨by decide +kernel, by decide +kernel⟩, List.mem_of_getElem? (i := 1260) (by decide +kernel), List.mem_of_getElem? (i := 1931) (by decide +kernel), List.mem_of_getElem? (i := 1932) (by decide +kernel)⟩
theorem lw_p115 : lw_okq (⟨"NightHousesModel", "doesFit", "(II)Z"⟩, 64) := ⟨⟨by decide +kernel, by decide +kernel⟩, List.mem_of_getElem? (i := 1260) (by decide +kernel), List.mem_of_getElem? (i := 1935) (by decide +kernel), List.mem_of_getElem? (i := 1936) (by decide +kernel)⟩
theorem lw_p116 : lw_okq (⟨"NightHousesModel", "mostBehind", "(II)I"⟩, 64) := ⟨⟨by decide +kernel, by decide +kernel⟩, List.mem_of_getElem? (i := 1260) (by decide +kernel), List.mem_of_getElem? (i := 1948) (by decide +kernel), List.mem_of_getElem? (i := 1949) (by decide +kernel)⟩
def lw_privs_8 : List (MethodName × Nat) := [(⟨"NightHousesModel", "chaseTwo", "(II)I"⟩, 64), (⟨"NightHousesModel", "chaseThree", "(II)I"⟩, 64), (⟨"NightHousesModel", "layPaths", "()V"⟩, 64), (⟨"NightHousesModel", "doesFit", "(II)Z"⟩, 64), (⟨"NightHousesModel", "mostBehind", "(II)I"⟩, 64)]
theorem lw_r8 : ∀ q ∈ lw_privs_8, lw_okq q := List.forall_mem_cons.mpr ⟨lw_p112, List.forall_mem_cons.mpr ⟨lw_p113, List.forall_mem_cons.mpr ⟨lw_p114, List.forall_mem_cons.mpr ⟨lw_p115, List.forall_mem_cons.mpr ⟨lw_p116, fun _ h => absurd h List.not_mem_nil⟩⟩⟩⟩⟩
def lw_privs : List (MethodName × Nat) := lw_privs_1 ++ (lw_privs_2 ++ (lw_privs_3 ++ (lw_privs_4 ++ (lw_privs_5 ++ (lw_privs_6 ++ (lw_privs_7 ++ (lw_privs_8)))))))
def lw_tbl : List Cond := k2_sels lw_privs ++ tables_1
theorem lw_privs_ok : ∀ q ∈ lw_privs, lw_okq q := by
  show ∀ q ∈ lw_privs_1 ++ (lw_privs_2 ++ (lw_privs_3 ++ (lw_privs_4 ++ (lw_privs_5 ++ (lw_privs_6 ++ (lw_privs_7 ++ (lw_privs_8))))))), lw_okq q
  exact List.forall_mem_append.mpr ⟨lw_r1, List.forall_mem_append.mpr ⟨lw_r2, List.forall_mem_append.mpr ⟨lw_r3, List.forall_mem_append.mpr ⟨lw_r4, List.forall_mem_append.mpr ⟨lw_r5, List.forall_mem_append.mpr ⟨lw_r6, List.forall_mem_append.mpr ⟨lw_r7, lw_r8⟩⟩⟩⟩⟩⟩⟩
-- ===== end of PART A; then your names; then what follows =====
end
section
/-! ===== BEGIN words of one list among another's, by their places ===== -/
theorem goodIn_r {big : List Cond} (ws : List Cond) (ps : List Nat) (hp : ws = ps.filterMap (fun i => big[i]?)) (h : ws.all goodWord = true) : GoodIn big ws := by
  intro w hw
  have h1 := List.all_eq_true.mp h w hw
  rw [hp] at hw
  obtain ⟨i, -, hi⟩ := List.mem_filterMap.mp hw
  have hm : w ∈ big := by first | exact List.mem_of_getElem? hi | exact List.getElem?_mem hi
  exact ⟨hm, good_of_word h1⟩
theorem goodIn_app {big a b : List Cond} (ha : GoodIn big a) (hb : GoodIn big b) : GoodIn big (a ++ b) := fun w h => (List.mem_append.mp h).elim (ha w) (hb w)
theorem goodIn_ca {big a b : List Cond} {c : Cond} (ha : GoodIn big (c :: a)) (hb : GoodIn big b) : GoodIn big (c :: (a ++ b)) := fun w h => (List.mem_cons.mp h).elim (fun e => ha w (List.mem_cons.mpr (Or.inl e))) (fun h => (List.mem_append.mp h).elim (fun h => ha w (List.mem_cons.mpr (Or.inr h))) (hb w))
theorem goodIn_sub {big ws : List Cond} (hm : ∀ w ∈ ws, w ∈ big) (h : ws.all goodWord = true) : GoodIn big ws := fun w hw => ⟨hm w hw, good_of_word (List.all_eq_true.mp h w hw)⟩
/-! ===== END ===== -/

def RX0 : String := "NightHouses$Fencer"
def TX0 : u_T := fun k => match k with
  | 0 => ("NightHouses$Fencer", "trial", "LNightHouses$Night;", true)
  | 1 => ("NightHouses$Fencer", "entered", "[J", true)
  | 2 => ("NightHouses$Fencer", "land", "LNightHouses$Land;", false)
  | 3 => ("NightHouses$Fencer", "start", "LNightHouses$Night;", false)
  | 4 => ("NightHouses$Fencer", "house", "I", false)
  | 5 => ("NightHouses$Fencer", "other", "I", false)
  | 6 => ("NightHouses$Fencer", "steps", "I", false)
  | 7 => ("NightHouses$Fencer", "first", "I", false)
  | _ => ("NightHouses$Fencer", "second", "I", false)
def tyX0 : Nat → FieldType := fun k => match k with
  | 0 => .object "NightHouses$Night"
  | 1 => .array .long
  | 2 => .object "NightHouses$Land"
  | 3 => .object "NightHouses$Night"
  | 4 => .int
  | 5 => .int
  | 6 => .int
  | 7 => .int
  | _ => .int
abbrev wsX00 : List Cond := u_ws RX0 TX0 9
theorem nmX0 : ∀ a, a < 9 → ∀ b, b < 9 → a ≠ b → (TX0 a).2.1 ≠ (TX0 b).2.1 := by decide +kernel
theorem tyX0_ok : ∀ k, k < 9 → parseFieldDescriptor (TX0 k).2.2.1 = some (tyX0 k) := by decide +kernel
abbrev cX0_init : ByteArray := prog_2_method_1_code
def yX0_init : MethodName := ⟨RX0, "<init>", "()V"⟩
abbrev cX0_fewestHedges : ByteArray := prog_2_method_2_code
def yX0_fewestHedges : MethodName := ⟨RX0, "fewestHedges", "(LNightHouses$Land;LNightHouses$Night;IIIJ)I"⟩
abbrev cX0_findOne : ByteArray := prog_2_method_3_code
def yX0_findOne : MethodName := ⟨RX0, "findOne", "(J)Z"⟩
abbrev cX0_findTwo : ByteArray := prog_2_method_4_code
def yX0_findTwo : MethodName := ⟨RX0, "findTwo", "(JJ)Z"⟩
abbrev cX0_canDiffer : ByteArray := prog_2_method_5_code
def yX0_canDiffer : MethodName := ⟨RX0, "canDiffer", "(JII)Z"⟩
abbrev cX0_has : ByteArray := prog_2_method_6_code
def yX0_has : MethodName := ⟨RX0, "has", "(JI)Z"⟩
abbrev cX0_cellsEntered : ByteArray := prog_2_method_7_code
def yX0_cellsEntered : MethodName := ⟨RX0, "cellsEntered", "(J)J"⟩
def RX1 : String := "NightHouses$Formula"
def TX1 : u_T := fun k => match k with
  | 0 => ("NightHouses$Formula", "parts", "[I", true)
  | 1 => ("NightHouses$Formula", "facts", "[I", true)
  | 2 => ("NightHouses$Formula", "stack", "[I", true)
  | 3 => ("NightHouses$Formula", "length", "I", false)
  | _ => ("NightHouses$Formula", "units", "I", false)
def tyX1 : Nat → FieldType := fun k => match k with
  | 0 => .array .int
  | 1 => .array .int
  | 2 => .array .int
  | 3 => .int
  | _ => .int
abbrev wsX10 : List Cond := u_ws RX1 TX1 5
theorem nmX1 : ∀ a, a < 5 → ∀ b, b < 5 → a ≠ b → (TX1 a).2.1 ≠ (TX1 b).2.1 := by decide +kernel
theorem tyX1_ok : ∀ k, k < 5 → parseFieldDescriptor (TX1 k).2.2.1 = some (tyX1 k) := by decide +kernel
abbrev cX1_init : ByteArray := prog_3_method_1_code
def yX1_init : MethodName := ⟨RX1, "<init>", "()V"⟩
abbrev cX1_clear : ByteArray := prog_3_method_2_code
def yX1_clear : MethodName := ⟨RX1, "clear", "()V"⟩
abbrev cX1_add : ByteArray := prog_3_method_3_code
def yX1_add : MethodName := ⟨RX1, "add", "(I)V"⟩
abbrev cX1_setPlace : ByteArray := prog_3_method_4_code
def yX1_setPlace : MethodName := ⟨RX1, "setPlace", "(III)V"⟩
abbrev cX1_setTimes : ByteArray := prog_3_method_5_code
def yX1_setTimes : MethodName := ⟨RX1, "setTimes", "(III)V"⟩
abbrev cX1_worth : ByteArray := prog_3_method_6_code
def yX1_worth : MethodName := ⟨RX1, "worth", "()I"⟩
abbrev cX1_join : ByteArray := prog_3_method_7_code
def yX1_join : MethodName := ⟨RX1, "join", "(III)I"⟩
def RX2 : String := "NightHouses$History"
def TX2 : u_T := fun k => match k with
  | 0 => ("NightHouses$History", "rows", "[LNightHouses$Night;", true)
  | 1 => ("NightHouses$History", "oldest", "I", false)
  | 2 => ("NightHouses$History", "past", "I", false)
  | _ => ("NightHouses$History", "ahead", "I", false)
def tyX2 : Nat → FieldType := fun k => match k with
  | 0 => .array (.object "NightHouses$Night")
  | 1 => .int
  | 2 => .int
  | _ => .int
abbrev wsX20 : List Cond := u_ws RX2 TX2 4
theorem nmX2 : ∀ a, a < 4 → ∀ b, b < 4 → a ≠ b → (TX2 a).2.1 ≠ (TX2 b).2.1 := by decide +kernel
theorem tyX2_ok : ∀ k, k < 4 → parseFieldDescriptor (TX2 k).2.2.1 = some (tyX2 k) := by decide +kernel
abbrev cX2_init : ByteArray := prog_4_method_1_code
def yX2_init : MethodName := ⟨RX2, "<init>", "()V"⟩
abbrev cX2_clear : ByteArray := prog_4_method_2_code
def yX2_clear : MethodName := ⟨RX2, "clear", "()V"⟩
abbrev cX2_current : ByteArray := prog_4_method_3_code
def yX2_current : MethodName := ⟨RX2, "current", "()LNightHouses$Night;"⟩
abbrev cX2_keep : ByteArray := prog_4_method_4_code
def yX2_keep : MethodName := ⟨RX2, "keep", "(LNightHouses$Night;)V"⟩
abbrev cX2_takeBack : ByteArray := prog_4_method_5_code
def yX2_takeBack : MethodName := ⟨RX2, "takeBack", "(LNightHouses$Night;)Z"⟩
abbrev cX2_doAgain : ByteArray := prog_4_method_6_code
def yX2_doAgain : MethodName := ⟨RX2, "doAgain", "(LNightHouses$Night;)Z"⟩
def RX3 : String := "NightHouses$Land"
def TX3 : u_T := fun k => match k with
  | 0 => ("NightHouses$Land", "homes", "[I", true)
  | 1 => ("NightHouses$Land", "formula", "LNightHouses$Formula;", true)
  | 2 => ("NightHouses$Land", "columnOf", "[I", true)
  | 3 => ("NightHouses$Land", "rowOf", "[I", true)
  | 4 => ("NightHouses$Land", "beside", "[I", true)
  | 5 => ("NightHouses$Land", "columns", "I", false)
  | 6 => ("NightHouses$Land", "rows", "I", false)
  | 7 => ("NightHouses$Land", "cells", "I", false)
  | 8 => ("NightHouses$Land", "houses", "I", false)
  | 9 => ("NightHouses$Land", "hedges", "J", false)
  | 10 => ("NightHouses$Land", "cat", "I", false)
  | 11 => ("NightHouses$Land", "calls", "I", false)
  | 12 => ("NightHouses$Land", "gale", "I", false)
  | _ => ("NightHouses$Land", "draw", "I", false)
def tyX3 : Nat → FieldType := fun k => match k with
  | 0 => .array .int
  | 1 => .object "NightHouses$Formula"
  | 2 => .array .int
  | 3 => .array .int
  | 4 => .array .int
  | 5 => .int
  | 6 => .int
  | 7 => .int
  | 8 => .int
  | 9 => .long
  | 10 => .int
  | 11 => .int
  | 12 => .int
  | _ => .int
abbrev wsX30 : List Cond := u_ws RX3 TX3 14
theorem nmX3 : ∀ a, a < 14 → ∀ b, b < 14 → a ≠ b → (TX3 a).2.1 ≠ (TX3 b).2.1 := by decide +kernel
theorem tyX3_ok : ∀ k, k < 14 → parseFieldDescriptor (TX3 k).2.2.1 = some (tyX3 k) := by decide +kernel
abbrev cX3_init : ByteArray := prog_5_method_1_code
def yX3_init : MethodName := ⟨RX3, "<init>", "()V"⟩
abbrev cX3_clear : ByteArray := prog_5_method_2_code
def yX3_clear : MethodName := ⟨RX3, "clear", "()V"⟩
abbrev cX3_resize : ByteArray := prog_5_method_3_code
def yX3_resize : MethodName := ⟨RX3, "resize", "(II)V"⟩
abbrev cX3_hasHedge : ByteArray := prog_5_method_4_code
def yX3_hasHedge : MethodName := ⟨RX3, "hasHedge", "(I)Z"⟩
abbrev cX3_hasHome : ByteArray := prog_5_method_5_code
def yX3_hasHome : MethodName := ⟨RX3, "hasHome", "(I)Z"⟩
abbrev cX3_finish : ByteArray := prog_5_method_6_code
def yX3_finish : MethodName := ⟨RX3, "finish", "()V"⟩
abbrev cX3_goal : ByteArray := prog_5_method_7_code
def yX3_goal : MethodName := ⟨RX3, "goal", "(JII)I"⟩
abbrev cX3_columnAt : ByteArray := prog_5_method_8_code
def yX3_columnAt : MethodName := ⟨RX3, "columnAt", "(I)I"⟩
abbrev cX3_rowAt : ByteArray := prog_5_method_9_code
def yX3_rowAt : MethodName := ⟨RX3, "rowAt", "(I)I"⟩
abbrev cX3_far : ByteArray := prog_5_method_10_code
def yX3_far : MethodName := ⟨RX3, "far", "(II)I"⟩
def RX4 : String := "NightHouses$Night"
def TX4 : u_T := fun k => match k with
  | 0 => ("NightHouses$Night", "cells", "[I", true)
  | 1 => ("NightHouses$Night", "tilts", "[I", true)
  | 2 => ("NightHouses$Night", "abroad", "[I", true)
  | 3 => ("NightHouses$Night", "hedges", "J", false)
  | 4 => ("NightHouses$Night", "cat", "I", false)
  | 5 => ("NightHouses$Night", "step", "I", false)
  | 6 => ("NightHouses$Night", "number", "I", false)
  | _ => ("NightHouses$Night", "seed", "I", false)
def tyX4 : Nat → FieldType := fun k => match k with
  | 0 => .array .int
  | 1 => .array .int
  | 2 => .array .int
  | 3 => .long
  | 4 => .int
  | 5 => .int
  | 6 => .int
  | _ => .int
abbrev wsX40 : List Cond := u_ws RX4 TX4 8
theorem nmX4 : ∀ a, a < 8 → ∀ b, b < 8 → a ≠ b → (TX4 a).2.1 ≠ (TX4 b).2.1 := by decide +kernel
theorem tyX4_ok : ∀ k, k < 8 → parseFieldDescriptor (TX4 k).2.2.1 = some (tyX4 k) := by decide +kernel
abbrev cX4_init : ByteArray := prog_6_method_1_code
def yX4_init : MethodName := ⟨RX4, "<init>", "()V"⟩
abbrev cX4_begin : ByteArray := prog_6_method_2_code
def yX4_begin : MethodName := ⟨RX4, "begin", "(LNightHouses$Land;)V"⟩
abbrev cX4_copy : ByteArray := prog_6_method_3_code
def yX4_copy : MethodName := ⟨RX4, "copy", "(LNightHouses$Night;)V"⟩
abbrev cX4_hasHedge : ByteArray := prog_6_method_4_code
def yX4_hasHedge : MethodName := ⟨RX4, "hasHedge", "(I)Z"⟩
def RX5 : String := "NightHouses$Planner"
def TX5 : u_T := fun k => match k with
  | 0 => ("NightHouses$Planner", "best", "[I", true)
  | 1 => ("NightHouses$Planner", "tried", "[I", true)
  | 2 => ("NightHouses$Planner", "rows", "[LNightHouses$Night;", true)
  | 3 => ("NightHouses$Planner", "land", "LNightHouses$Land;", false)
  | 4 => ("NightHouses$Planner", "house", "I", false)
  | 5 => ("NightHouses$Planner", "steps", "I", false)
  | _ => ("NightHouses$Planner", "fewest", "I", false)
def tyX5 : Nat → FieldType := fun k => match k with
  | 0 => .array .int
  | 1 => .array .int
  | 2 => .array (.object "NightHouses$Night")
  | 3 => .object "NightHouses$Land"
  | 4 => .int
  | 5 => .int
  | _ => .int
abbrev wsX50 : List Cond := u_ws RX5 TX5 7
theorem nmX5 : ∀ a, a < 7 → ∀ b, b < 7 → a ≠ b → (TX5 a).2.1 ≠ (TX5 b).2.1 := by decide +kernel
theorem tyX5_ok : ∀ k, k < 7 → parseFieldDescriptor (TX5 k).2.2.1 = some (tyX5 k) := by decide +kernel
abbrev cX5_init : ByteArray := prog_7_method_1_code
def yX5_init : MethodName := ⟨RX5, "<init>", "()V"⟩
abbrev cX5_fewestCalls : ByteArray := prog_7_method_2_code
def yX5_fewestCalls : MethodName := ⟨RX5, "fewestCalls", "(LNightHouses$Land;LNightHouses$Night;II)I"⟩
abbrev cX5_seek : ByteArray := prog_7_method_3_code
def yX5_seek : MethodName := ⟨RX5, "seek", "(II)V"⟩
abbrev cX5_seekBehind : ByteArray := prog_7_method_4_code
def yX5_seekBehind : MethodName := ⟨RX5, "seekBehind", "(IIZ)V"⟩
abbrev cX5_someoneHears : ByteArray := prog_7_method_5_code
def yX5_someoneHears : MethodName := ⟨RX5, "someoneHears", "(LNightHouses$Night;)Z"⟩
def RX6 : String := "NightHouses$Reader"
def TX6 : u_T := fun k => match k with
  | 0 => ("NightHouses$Reader", "tokens", "LNightHouses$Tokens;", true)
  | 1 => ("NightHouses$Reader", "names", "[J", true)
  | 2 => ("NightHouses$Reader", "land", "LNightHouses$Land;", false)
  | 3 => ("NightHouses$Reader", "catTold", "Z", false)
  | 4 => ("NightHouses$Reader", "goesTold", "Z", false)
  | 5 => ("NightHouses$Reader", "callsTold", "Z", false)
  | 6 => ("NightHouses$Reader", "galeTold", "Z", false)
  | 7 => ("NightHouses$Reader", "drawTold", "Z", false)
  | 8 => ("NightHouses$Reader", "hedgesTold", "I", false)
  | 9 => ("NightHouses$Reader", "unitsInOne", "I", false)
  | 10 => ("NightHouses$Reader", "got", "I", false)
  | 11 => ("NightHouses$Reader", "fault", "I", false)
  | _ => ("NightHouses$Reader", "faultPlace", "I", false)
def tyX6 : Nat → FieldType := fun k => match k with
  | 0 => .object "NightHouses$Tokens"
  | 1 => .array .long
  | 2 => .object "NightHouses$Land"
  | 3 => .boolean
  | 4 => .boolean
  | 5 => .boolean
  | 6 => .boolean
  | 7 => .boolean
  | 8 => .int
  | 9 => .int
  | 10 => .int
  | 11 => .int
  | _ => .int
abbrev wsX60 : List Cond := u_ws RX6 TX6 13
theorem nmX6 : ∀ a, a < 13 → ∀ b, b < 13 → a ≠ b → (TX6 a).2.1 ≠ (TX6 b).2.1 := by decide +kernel
theorem tyX6_ok : ∀ k, k < 13 → parseFieldDescriptor (TX6 k).2.2.1 = some (tyX6 k) := by decide +kernel
abbrev cX6_init : ByteArray := prog_8_method_1_code
def yX6_init : MethodName := ⟨RX6, "<init>", "()V"⟩
abbrev cX6_begin : ByteArray := prog_8_method_2_code
def yX6_begin : MethodName := ⟨RX6, "begin", "([BILNightHouses$Land;)V"⟩
abbrev cX6_read : ByteArray := prog_8_method_3_code
def yX6_read : MethodName := ⟨RX6, "read", "()Z"⟩
abbrev cX6_refuse : ByteArray := prog_8_method_4_code
def yX6_refuse : MethodName := ⟨RX6, "refuse", "(II)Z"⟩
abbrev cX6_refuseToken : ByteArray := prog_8_method_5_code
def yX6_refuseToken : MethodName := ⟨RX6, "refuseToken", "()Z"⟩
abbrev cX6_pass : ByteArray := prog_8_method_6_code
def yX6_pass : MethodName := ⟨RX6, "pass", "(I)Z"⟩
abbrev cX6_passFirst : ByteArray := prog_8_method_7_code
def yX6_passFirst : MethodName := ⟨RX6, "passFirst", "(Z)Z"⟩
abbrev cX6_readNumber : ByteArray := prog_8_method_8_code
def yX6_readNumber : MethodName := ⟨RX6, "readNumber", "(II)Z"⟩
abbrev cX6_readSize : ByteArray := prog_8_method_9_code
def yX6_readSize : MethodName := ⟨RX6, "readSize", "()Z"⟩
abbrev cX6_readCell : ByteArray := prog_8_method_10_code
def yX6_readCell : MethodName := ⟨RX6, "readCell", "(Z)Z"⟩
abbrev cX6_readHedge : ByteArray := prog_8_method_11_code
def yX6_readHedge : MethodName := ⟨RX6, "readHedge", "()Z"⟩
abbrev cX6_readHouse : ByteArray := prog_8_method_12_code
def yX6_readHouse : MethodName := ⟨RX6, "readHouse", "()Z"⟩
abbrev cX6_readCat : ByteArray := prog_8_method_13_code
def yX6_readCat : MethodName := ⟨RX6, "readCat", "()Z"⟩
abbrev cX6_readGoes : ByteArray := prog_8_method_14_code
def yX6_readGoes : MethodName := ⟨RX6, "readGoes", "()Z"⟩
abbrev cX6_readCalls : ByteArray := prog_8_method_15_code
def yX6_readCalls : MethodName := ⟨RX6, "readCalls", "()Z"⟩
abbrev cX6_readGale : ByteArray := prog_8_method_16_code
def yX6_readGale : MethodName := ⟨RX6, "readGale", "()Z"⟩
abbrev cX6_readDraw : ByteArray := prog_8_method_17_code
def yX6_readDraw : MethodName := ⟨RX6, "readDraw", "()Z"⟩
abbrev cX6_readEither : ByteArray := prog_8_method_18_code
def yX6_readEither : MethodName := ⟨RX6, "readEither", "(I)Z"⟩
abbrev cX6_readBoth : ByteArray := prog_8_method_19_code
def yX6_readBoth : MethodName := ⟨RX6, "readBoth", "(I)Z"⟩
abbrev cX6_readOne : ByteArray := prog_8_method_20_code
def yX6_readOne : MethodName := ⟨RX6, "readOne", "(I)Z"⟩
abbrev cX6_readNot : ByteArray := prog_8_method_21_code
def yX6_readNot : MethodName := ⟨RX6, "readNot", "(I)Z"⟩
abbrev cX6_relationOf : ByteArray := prog_8_method_22_code
def yX6_relationOf : MethodName := ⟨RX6, "relationOf", "(I)I"⟩
abbrev cX6_readSum : ByteArray := prog_8_method_23_code
def yX6_readSum : MethodName := ⟨RX6, "readSum", "(I)Z"⟩
abbrev cX6_readTerm : ByteArray := prog_8_method_24_code
def yX6_readTerm : MethodName := ⟨RX6, "readTerm", "(I)Z"⟩
abbrev cX6_foldOf : ByteArray := prog_8_method_25_code
def yX6_foldOf : MethodName := ⟨RX6, "foldOf", "(I)I"⟩
abbrev cX6_readUnit : ByteArray := prog_8_method_26_code
def yX6_readUnit : MethodName := ⟨RX6, "readUnit", "(I)Z"⟩
abbrev cX6_factOf : ByteArray := prog_8_method_27_code
def yX6_factOf : MethodName := ⟨RX6, "factOf", "(I)I"⟩
def RX7 : String := "NightHouses$Sightings"
def TX7 : u_T := fun k => match k with
  | 0 => ("NightHouses$Sightings", "steps", "[I", true)
  | 1 => ("NightHouses$Sightings", "spots", "[I", true)
  | 2 => ("NightHouses$Sightings", "wasThere", "[Z", true)
  | 3 => ("NightHouses$Sightings", "toldAt", "[I", true)
  | 4 => ("NightHouses$Sightings", "untoldAt", "[I", true)
  | 5 => ("NightHouses$Sightings", "track", "[I", true)
  | 6 => ("NightHouses$Sightings", "counts", "[I", true)
  | 7 => ("NightHouses$Sightings", "trial", "LNightHouses$Night;", true)
  | 8 => ("NightHouses$Sightings", "tracked", "Z", false)
  | _ => ("NightHouses$Sightings", "count", "I", false)
def tyX7 : Nat → FieldType := fun k => match k with
  | 0 => .array .int
  | 1 => .array .int
  | 2 => .array .boolean
  | 3 => .array .int
  | 4 => .array .int
  | 5 => .array .int
  | 6 => .array .int
  | 7 => .object "NightHouses$Night"
  | 8 => .boolean
  | _ => .int
abbrev wsX70 : List Cond := u_ws RX7 TX7 10
theorem nmX7 : ∀ a, a < 10 → ∀ b, b < 10 → a ≠ b → (TX7 a).2.1 ≠ (TX7 b).2.1 := by decide +kernel
theorem tyX7_ok : ∀ k, k < 10 → parseFieldDescriptor (TX7 k).2.2.1 = some (tyX7 k) := by decide +kernel
abbrev cX7_init : ByteArray := prog_9_method_1_code
def yX7_init : MethodName := ⟨RX7, "<init>", "()V"⟩
abbrev cX7_forget : ByteArray := prog_9_method_2_code
def yX7_forget : MethodName := ⟨RX7, "forget", "()V"⟩
abbrev cX7_tell : ByteArray := prog_9_method_3_code
def yX7_tell : MethodName := ⟨RX7, "tell", "(IIZI)I"⟩
abbrev cX7_takeAway : ByteArray := prog_9_method_4_code
def yX7_takeAway : MethodName := ⟨RX7, "takeAway", "(II)Z"⟩
abbrev cX7_isKnown : ByteArray := prog_9_method_5_code
def yX7_isKnown : MethodName := ⟨RX7, "isKnown", "(II)Z"⟩
abbrev cX7_makeTracks : ByteArray := prog_9_method_6_code
def yX7_makeTracks : MethodName := ⟨RX7, "makeTracks", "(LNightHouses$Land;)V"⟩
abbrev cX7_cellBehind : ByteArray := prog_9_method_7_code
def yX7_cellBehind : MethodName := ⟨RX7, "cellBehind", "(II)I"⟩
abbrev cX7_fitting : ByteArray := prog_9_method_8_code
def yX7_fitting : MethodName := ⟨RX7, "fitting", "(LNightHouses$Land;I)J"⟩
abbrev cX7_agreeing : ByteArray := prog_9_method_9_code
def yX7_agreeing : MethodName := ⟨RX7, "agreeing", "(LNightHouses$Land;I)J"⟩
abbrev cX7_mostLeft : ByteArray := prog_9_method_10_code
def yX7_mostLeft : MethodName := ⟨RX7, "mostLeft", "(LNightHouses$Land;JI)I"⟩
def RX8 : String := "NightHouses$Steps"
def TX8 : u_T := fun k => match k with
  | _ => ("", "", "", false)
def tyX8 : Nat → FieldType := fun k => match k with
  | _ => .int
abbrev wsX80 : List Cond := u_ws RX8 TX8 0
theorem nmX8 : ∀ a, a < 0 → ∀ b, b < 0 → a ≠ b → (TX8 a).2.1 ≠ (TX8 b).2.1 := by decide +kernel
theorem tyX8_ok : ∀ k, k < 0 → parseFieldDescriptor (TX8 k).2.2.1 = some (tyX8 k) := by decide +kernel
abbrev cX8_take : ByteArray := prog_10_method_2_code
def yX8_take : MethodName := ⟨RX8, "take", "(LNightHouses$Land;LNightHouses$Night;IZ)V"⟩
abbrev cX8_quarrel : ByteArray := prog_10_method_3_code
def yX8_quarrel : MethodName := ⟨RX8, "quarrel", "(LNightHouses$Land;LNightHouses$Night;)V"⟩
abbrev cX8_together : ByteArray := prog_10_method_4_code
def yX8_together : MethodName := ⟨RX8, "together", "(LNightHouses$Land;LNightHouses$Night;)I"⟩
abbrev cX8_atHome : ByteArray := prog_10_method_5_code
def yX8_atHome : MethodName := ⟨RX8, "atHome", "(LNightHouses$Land;LNightHouses$Night;)I"⟩
abbrev cX8_hears : ByteArray := prog_10_method_6_code
def yX8_hears : MethodName := ⟨RX8, "hears", "(LNightHouses$Land;LNightHouses$Night;II)Z"⟩
abbrev cX8_nextWay : ByteArray := prog_10_method_7_code
def yX8_nextWay : MethodName := ⟨RX8, "nextWay", "(LNightHouses$Land;LNightHouses$Night;I)I"⟩
abbrev cX8_cellCalledTo : ByteArray := prog_10_method_8_code
def yX8_cellCalledTo : MethodName := ⟨RX8, "cellCalledTo", "(LNightHouses$Land;LNightHouses$Night;I)I"⟩
def RX9 : String := "NightHouses$Tokens"
def TX9 : u_T := fun k => match k with
  | 0 => ("NightHouses$Tokens", "text", "[B", false)
  | 1 => ("NightHouses$Tokens", "length", "I", false)
  | 2 => ("NightHouses$Tokens", "next", "I", false)
  | 3 => ("NightHouses$Tokens", "kind", "I", false)
  | 4 => ("NightHouses$Tokens", "place", "I", false)
  | 5 => ("NightHouses$Tokens", "number", "I", false)
  | _ => ("NightHouses$Tokens", "word", "J", false)
def tyX9 : Nat → FieldType := fun k => match k with
  | 0 => .array .byte
  | 1 => .int
  | 2 => .int
  | 3 => .int
  | 4 => .int
  | 5 => .int
  | _ => .long
abbrev wsX90 : List Cond := u_ws RX9 TX9 7
theorem nmX9 : ∀ a, a < 7 → ∀ b, b < 7 → a ≠ b → (TX9 a).2.1 ≠ (TX9 b).2.1 := by decide +kernel
theorem tyX9_ok : ∀ k, k < 7 → parseFieldDescriptor (TX9 k).2.2.1 = some (tyX9 k) := by decide +kernel
abbrev cX9_init : ByteArray := prog_11_method_1_code
def yX9_init : MethodName := ⟨RX9, "<init>", "()V"⟩
abbrev cX9_begin : ByteArray := prog_11_method_2_code
def yX9_begin : MethodName := ⟨RX9, "begin", "([BI)V"⟩
abbrev cX9_byteAt : ByteArray := prog_11_method_3_code
def yX9_byteAt : MethodName := ⟨RX9, "byteAt", "(I)I"⟩
abbrev cX9_isLetter : ByteArray := prog_11_method_4_code
def yX9_isLetter : MethodName := ⟨RX9, "isLetter", "(I)Z"⟩
abbrev cX9_isDigit : ByteArray := prog_11_method_5_code
def yX9_isDigit : MethodName := ⟨RX9, "isDigit", "(I)Z"⟩
abbrev cX9_advance : ByteArray := prog_11_method_6_code
def yX9_advance : MethodName := ⟨RX9, "advance", "()V"⟩
abbrev cX9_passLetters : ByteArray := prog_11_method_7_code
def yX9_passLetters : MethodName := ⟨RX9, "passLetters", "()V"⟩
abbrev cX9_passDigits : ByteArray := prog_11_method_8_code
def yX9_passDigits : MethodName := ⟨RX9, "passDigits", "()V"⟩
abbrev cX9_kindOfWord : ByteArray := prog_11_method_9_code
def yX9_kindOfWord : MethodName := ⟨RX9, "kindOfWord", "()I"⟩
def RX10 : String := "NightHouses$Walks"
def TX10 : u_T := fun k => match k with
  | 0 => ("NightHouses$Walks", "lengths", "[I", true)
  | 1 => ("NightHouses$Walks", "queue", "[I", true)
  | 2 => ("NightHouses$Walks", "counts", "[I", true)
  | _ => ("NightHouses$Walks", "reached", "I", false)
def tyX10 : Nat → FieldType := fun k => match k with
  | 0 => .array .int
  | 1 => .array .int
  | 2 => .array .int
  | _ => .int
abbrev wsX100 : List Cond := u_ws RX10 TX10 4
theorem nmX10 : ∀ a, a < 4 → ∀ b, b < 4 → a ≠ b → (TX10 a).2.1 ≠ (TX10 b).2.1 := by decide +kernel
theorem tyX10_ok : ∀ k, k < 4 → parseFieldDescriptor (TX10 k).2.2.1 = some (tyX10 k) := by decide +kernel
abbrev cX10_init : ByteArray := prog_12_method_1_code
def yX10_init : MethodName := ⟨RX10, "<init>", "()V"⟩
abbrev cX10_spread : ByteArray := prog_12_method_2_code
def yX10_spread : MethodName := ⟨RX10, "spread", "(LNightHouses$Land;JI)V"⟩
abbrev cX10_reach : ByteArray := prog_12_method_3_code
def yX10_reach : MethodName := ⟨RX10, "reach", "(II)V"⟩
abbrev cX10_isCell : ByteArray := prog_12_method_4_code
def yX10_isCell : MethodName := ⟨RX10, "isCell", "(I)Z"⟩
abbrev cX10_lengthTo : ByteArray := prog_12_method_5_code
def yX10_lengthTo : MethodName := ⟨RX10, "lengthTo", "(I)I"⟩
abbrev cX10_clearCounts : ByteArray := prog_12_method_6_code
def yX10_clearCounts : MethodName := ⟨RX10, "clearCounts", "()V"⟩
abbrev cX10_countHouses : ByteArray := prog_12_method_7_code
def yX10_countHouses : MethodName := ⟨RX10, "countHouses", "(LNightHouses$Land;LNightHouses$Night;)V"⟩
abbrev cX10_mostCounted : ByteArray := prog_12_method_8_code
def yX10_mostCounted : MethodName := ⟨RX10, "mostCounted", "(LNightHouses$Land;)I"⟩
def RX11 : String := "NightHouses"
def TX11 : u_T := fun k => match k with
  | 0 => ("NightHouses", "tape", "[B", true)
  | 1 => ("NightHouses", "taped", "I", false)
  | 2 => ("NightHouses", "told", "LNightHouses$Land;", false)
  | 3 => ("NightHouses", "draft", "LNightHouses$Land;", false)
  | 4 => ("NightHouses", "reader", "LNightHouses$Reader;", true)
  | 5 => ("NightHouses", "now", "LNightHouses$Night;", true)
  | 6 => ("NightHouses", "trial", "LNightHouses$Night;", true)
  | 7 => ("NightHouses", "history", "LNightHouses$History;", true)
  | 8 => ("NightHouses", "boxes", "[LNightHouses$Night;", true)
  | 9 => ("NightHouses", "filledBoxes", "I", false)
  | 10 => ("NightHouses", "walks", "LNightHouses$Walks;", true)
  | 11 => ("NightHouses", "planner", "LNightHouses$Planner;", true)
  | 12 => ("NightHouses", "fencer", "LNightHouses$Fencer;", true)
  | 13 => ("NightHouses", "sightings", "LNightHouses$Sightings;", true)
  | 14 => ("NightHouses", "time", "I", false)
  | 15 => ("NightHouses", "lying", "[I", true)
  | _ => ("NightHouses", "lyingCount", "I", false)
def tyX11 : Nat → FieldType := fun k => match k with
  | 0 => .array .byte
  | 1 => .int
  | 2 => .object "NightHouses$Land"
  | 3 => .object "NightHouses$Land"
  | 4 => .object "NightHouses$Reader"
  | 5 => .object "NightHouses$Night"
  | 6 => .object "NightHouses$Night"
  | 7 => .object "NightHouses$History"
  | 8 => .array (.object "NightHouses$Night")
  | 9 => .int
  | 10 => .object "NightHouses$Walks"
  | 11 => .object "NightHouses$Planner"
  | 12 => .object "NightHouses$Fencer"
  | 13 => .object "NightHouses$Sightings"
  | 14 => .int
  | 15 => .array .int
  | _ => .int
abbrev wsX110 : List Cond := u_ws RX11 TX11 17
theorem nmX11 : ∀ a, a < 17 → ∀ b, b < 17 → a ≠ b → (TX11 a).2.1 ≠ (TX11 b).2.1 := by decide +kernel
theorem tyX11_ok : ∀ k, k < 17 → parseFieldDescriptor (TX11 k).2.2.1 = some (tyX11 k) := by decide +kernel
abbrev cX11_init : ByteArray := prog_1_method_1_code
def yX11_init : MethodName := ⟨RX11, "<init>", "()V"⟩
abbrev cX11_feed : ByteArray := prog_1_method_2_code
def yX11_feed : MethodName := ⟨RX11, "feed", "(IIIII)I"⟩
abbrev cX11_putNumber : ByteArray := prog_1_method_3_code
def yX11_putNumber : MethodName := ⟨RX11, "putNumber", "(I)V"⟩
abbrev cX11_end : ByteArray := prog_1_method_4_code
def yX11_end : MethodName := ⟨RX11, "end", "(I)I"⟩
abbrev cX11_land : ByteArray := prog_1_method_5_code
def yX11_land : MethodName := ⟨RX11, "land", "()I"⟩
abbrev cX11_fault : ByteArray := prog_1_method_6_code
def yX11_fault : MethodName := ⟨RX11, "fault", "(I)I"⟩
abbrev cX11_house : ByteArray := prog_1_method_7_code
def yX11_house : MethodName := ⟨RX11, "house", "(II)I"⟩
abbrev cX11_spot : ByteArray := prog_1_method_8_code
def yX11_spot : MethodName := ⟨RX11, "spot", "(II)I"⟩
abbrev cX11_about : ByteArray := prog_1_method_9_code
def yX11_about : MethodName := ⟨RX11, "about", "(I)I"⟩
abbrev cX11_aboutKept : ByteArray := prog_1_method_10_code
def yX11_aboutKept : MethodName := ⟨RX11, "aboutKept", "(I)I"⟩
abbrev cX11_lies : ByteArray := prog_1_method_11_code
def yX11_lies : MethodName := ⟨RX11, "lies", "(I)I"⟩
abbrev cX11_hear : ByteArray := prog_1_method_12_code
def yX11_hear : MethodName := ⟨RX11, "hear", "()I"⟩
abbrev cX11_law : ByteArray := prog_1_method_13_code
def yX11_law : MethodName := ⟨RX11, "law", "(I)I"⟩
abbrev cX11_home : ByteArray := prog_1_method_14_code
def yX11_home : MethodName := ⟨RX11, "home", "()I"⟩
abbrev cX11_tilted : ByteArray := prog_1_method_15_code
def yX11_tilted : MethodName := ⟨RX11, "tilted", "()I"⟩
abbrev cX11_odds : ByteArray := prog_1_method_16_code
def yX11_odds : MethodName := ⟨RX11, "odds", "(II)I"⟩
abbrev cX11_commonDivisor : ByteArray := prog_1_method_17_code
def yX11_commonDivisor : MethodName := ⟨RX11, "commonDivisor", "(II)I"⟩
abbrev cX11_step : ByteArray := prog_1_method_18_code
def yX11_step : MethodName := ⟨RX11, "step", "(Z)I"⟩
abbrev cX11_walk : ByteArray := prog_1_method_19_code
def yX11_walk : MethodName := ⟨RX11, "walk", "(I)I"⟩
abbrev cX11_dawn : ByteArray := prog_1_method_20_code
def yX11_dawn : MethodName := ⟨RX11, "dawn", "()I"⟩
abbrev cX11_hedge : ByteArray := prog_1_method_21_code
def yX11_hedge : MethodName := ⟨RX11, "hedge", "(I)I"⟩
abbrev cX11_cut : ByteArray := prog_1_method_22_code
def yX11_cut : MethodName := ⟨RX11, "cut", "(I)I"⟩
abbrev cX11_undo : ByteArray := prog_1_method_23_code
def yX11_undo : MethodName := ⟨RX11, "undo", "()Z"⟩
abbrev cX11_redo : ByteArray := prog_1_method_24_code
def yX11_redo : MethodName := ⟨RX11, "redo", "()Z"⟩
abbrev cX11_image : ByteArray := prog_1_method_25_code
def yX11_image : MethodName := ⟨RX11, "image", "(I)I"⟩
abbrev cX11_restore : ByteArray := prog_1_method_26_code
def yX11_restore : MethodName := ⟨RX11, "restore", "(I)I"⟩
abbrev cX11_will : ByteArray := prog_1_method_27_code
def yX11_will : MethodName := ⟨RX11, "will", "(III)I"⟩
abbrev cX11_back : ByteArray := prog_1_method_28_code
def yX11_back : MethodName := ⟨RX11, "back", "(I)I"⟩
abbrev cX11_meet : ByteArray := prog_1_method_29_code
def yX11_meet : MethodName := ⟨RX11, "meet", "(II)I"⟩
abbrev cX11_plan : ByteArray := prog_1_method_30_code
def yX11_plan : MethodName := ⟨RX11, "plan", "(II)I"⟩
abbrev cX11_fence : ByteArray := prog_1_method_31_code
def yX11_fence : MethodName := ⟨RX11, "fence", "(III)I"⟩
abbrev cX11_post : ByteArray := prog_1_method_32_code
def yX11_post : MethodName := ⟨RX11, "post", "(II)I"⟩
abbrev cX11_bell : ByteArray := prog_1_method_33_code
def yX11_bell : MethodName := ⟨RX11, "bell", "(II)I"⟩
abbrev cX11_haunt : ByteArray := prog_1_method_34_code
def yX11_haunt : MethodName := ⟨RX11, "haunt", "(I)I"⟩
abbrev cX11_gather : ByteArray := prog_1_method_35_code
def yX11_gather : MethodName := ⟨RX11, "gather", "(I)I"⟩
abbrev cX11_stray : ByteArray := prog_1_method_36_code
def yX11_stray : MethodName := ⟨RX11, "stray", "(II)I"⟩
abbrev cX11_homely : ByteArray := prog_1_method_37_code
def yX11_homely : MethodName := ⟨RX11, "homely", "(IZ)I"⟩
abbrev cX11_quarrels : ByteArray := prog_1_method_38_code
def yX11_quarrels : MethodName := ⟨RX11, "quarrels", "(I)I"⟩
abbrev cX11_way : ByteArray := prog_1_method_39_code
def yX11_way : MethodName := ⟨RX11, "way", "(I)I"⟩
abbrev cX11_realm : ByteArray := prog_1_method_40_code
def yX11_realm : MethodName := ⟨RX11, "realm", "()I"⟩
abbrev cX11_fetch : ByteArray := prog_1_method_41_code
def yX11_fetch : MethodName := ⟨RX11, "fetch", "()I"⟩
abbrev cX11_lost : ByteArray := prog_1_method_42_code
def yX11_lost : MethodName := ⟨RX11, "lost", "()I"⟩
abbrev cX11_suits : ByteArray := prog_1_method_43_code
def yX11_suits : MethodName := ⟨RX11, "suits", "(I)I"⟩
abbrev cX11_chase : ByteArray := prog_1_method_44_code
def yX11_chase : MethodName := ⟨RX11, "chase", "(III)I"⟩
abbrev cX11_farthestFlight : ByteArray := prog_1_method_45_code
def yX11_farthestFlight : MethodName := ⟨RX11, "farthestFlight", "(III)I"⟩
abbrev cX11_nearestChase : ByteArray := prog_1_method_46_code
def yX11_nearestChase : MethodName := ⟨RX11, "nearestChase", "(III)I"⟩
abbrev cX11_swap : ByteArray := prog_1_method_47_code
def yX11_swap : MethodName := ⟨RX11, "swap", "(I)I"⟩
abbrev cX11_atHomeExchanged : ByteArray := prog_1_method_48_code
def yX11_atHomeExchanged : MethodName := ⟨RX11, "atHomeExchanged", "(II)I"⟩
abbrev cX11_closest : ByteArray := prog_1_method_49_code
def yX11_closest : MethodName := ⟨RX11, "closest", "(I)I"⟩
abbrev cX11_ofPair : ByteArray := prog_1_method_50_code
def yX11_ofPair : MethodName := ⟨RX11, "ofPair", "(III)I"⟩
abbrev cX11_seen : ByteArray := prog_1_method_51_code
def yX11_seen : MethodName := ⟨RX11, "seen", "(IIZ)I"⟩
abbrev cX11_untell : ByteArray := prog_1_method_52_code
def yX11_untell : MethodName := ⟨RX11, "untell", "(I)Z"⟩
abbrev cX11_later : ByteArray := prog_1_method_53_code
def yX11_later : MethodName := ⟨RX11, "later", "(I)I"⟩
abbrev cX11_fits : ByteArray := prog_1_method_54_code
def yX11_fits : MethodName := ⟨RX11, "fits", "(I)I"⟩
abbrev cX11_sure : ByteArray := prog_1_method_55_code
def yX11_sure : MethodName := ⟨RX11, "sure", "(II)I"⟩
abbrev cX11_ask : ByteArray := prog_1_method_56_code
def yX11_ask : MethodName := ⟨RX11, "ask", "(II)I"⟩
abbrev cX11_isHouse : ByteArray := prog_1_method_57_code
def yX11_isHouse : MethodName := ⟨RX11, "isHouse", "(I)Z"⟩
abbrev cX11_arePair : ByteArray := prog_1_method_58_code
def yX11_arePair : MethodName := ⟨RX11, "arePair", "(II)Z"⟩
abbrev cX11_isCell : ByteArray := prog_1_method_59_code
def yX11_isCell : MethodName := ⟨RX11, "isCell", "(I)Z"⟩
abbrev cX11_isBare : ByteArray := prog_1_method_60_code
def yX11_isBare : MethodName := ⟨RX11, "isBare", "(I)Z"⟩
abbrev cX11_bareCells : ByteArray := prog_1_method_61_code
def yX11_bareCells : MethodName := ⟨RX11, "bareCells", "()J"⟩
abbrev cX11_housesAt : ByteArray := prog_1_method_62_code
def yX11_housesAt : MethodName := ⟨RX11, "housesAt", "(I)I"⟩
abbrev cX11_tryAhead : ByteArray := prog_1_method_63_code
def yX11_tryAhead : MethodName := ⟨RX11, "tryAhead", "(IIZ)V"⟩
abbrev cX11_goOn : ByteArray := prog_1_method_64_code
def yX11_goOn : MethodName := ⟨RX11, "goOn", "(IIZ)V"⟩
def RX12 : String := "NightHousesModel"
def TX12 : u_T := fun k => match k with
  | 0 => ("NightHousesModel", "tape", "[B", true)
  | 1 => ("NightHousesModel", "text", "[B", true)
  | 2 => ("NightHousesModel", "taped", "I", false)
  | 3 => ("NightHousesModel", "size", "I", false)
  | 4 => ("NightHousesModel", "faultKind", "I", false)
  | 5 => ("NightHousesModel", "faultPlace", "I", false)
  | 6 => ("NightHousesModel", "at", "I", false)
  | 7 => ("NightHousesModel", "end", "I", false)
  | 8 => ("NightHousesModel", "token", "I", false)
  | 9 => ("NightHousesModel", "number", "I", false)
  | 10 => ("NightHousesModel", "name", "J", false)
  | 11 => ("NightHousesModel", "columns", "[I", true)
  | 12 => ("NightHousesModel", "depth", "[I", true)
  | 13 => ("NightHousesModel", "lines", "[I", true)
  | 14 => ("NightHousesModel", "hedges", "[I", true)
  | 15 => ("NightHousesModel", "houses", "[I", true)
  | 16 => ("NightHousesModel", "cat", "[I", true)
  | 17 => ("NightHousesModel", "units", "[I", true)
  | 18 => ("NightHousesModel", "calls", "[I", true)
  | 19 => ("NightHousesModel", "gale", "[I", true)
  | 20 => ("NightHousesModel", "draw", "[I", true)
  | 21 => ("NightHousesModel", "told", "[I", true)
  | 22 => ("NightHousesModel", "hedgeTold", "[I", true)
  | 23 => ("NightHousesModel", "homeTold", "[I", true)
  | 24 => ("NightHousesModel", "ruleFrom", "[I", true)
  | 25 => ("NightHousesModel", "ruleTo", "[I", true)
  | 26 => ("NightHousesModel", "hName", "[J", true)
  | 27 => ("NightHousesModel", "code", "[I", true)
  | 28 => ("NightHousesModel", "codeNumber", "[I", true)
  | 29 => ("NightHousesModel", "eWhat", "[I", true)
  | 30 => ("NightHousesModel", "eSign", "[I", true)
  | 31 => ("NightHousesModel", "pile", "[I", true)
  | 32 => ("NightHousesModel", "bank", "I", false)
  | 33 => ("NightHousesModel", "rb", "I", false)
  | 34 => ("NightHousesModel", "codes", "I", false)
  | 35 => ("NightHousesModel", "within", "I", false)
  | 36 => ("NightHousesModel", "piled", "I", false)
  | 37 => ("NightHousesModel", "unitsInRule", "I", false)
  | 38 => ("NightHousesModel", "askHouse", "I", false)
  | 39 => ("NightHousesModel", "all", "[I", true)
  | 40 => ("NightHousesModel", "thought", "I", false)
  | 41 => ("NightHousesModel", "goTo", "[I", true)
  | 42 => ("NightHousesModel", "calling", "I", false)
  | 43 => ("NightHousesModel", "was", "[I", true)
  | 44 => ("NightHousesModel", "acts", "I", false)
  | 45 => ("NightHousesModel", "undone", "I", false)
  | 46 => ("NightHousesModel", "kept", "[I", true)
  | 47 => ("NightHousesModel", "laidRow", "[I", true)
  | 48 => ("NightHousesModel", "often", "[I", true)
  | 49 => ("NightHousesModel", "laid", "I", false)
  | 50 => ("NightHousesModel", "far", "[I", true)
  | 51 => ("NightHousesModel", "begins", "I", false)
  | 52 => ("NightHousesModel", "atBy", "[I", true)
  | 53 => ("NightHousesModel", "sSteps", "[I", true)
  | 54 => ("NightHousesModel", "sSpot", "[I", true)
  | 55 => ("NightHousesModel", "sIs", "[I", true)
  | 56 => ("NightHousesModel", "sTold", "[I", true)
  | 57 => ("NightHousesModel", "sUntold", "[I", true)
  | 58 => ("NightHousesModel", "parts", "[I", true)
  | 59 => ("NightHousesModel", "isThought", "[Z", true)
  | 60 => ("NightHousesModel", "seens", "I", false)
  | 61 => ("NightHousesModel", "time", "I", false)
  | 62 => ("NightHousesModel", "boxAll", "[I", true)
  | _ => ("NightHousesModel", "isBoxed", "[Z", true)
def tyX12 : Nat → FieldType := fun k => match k with
  | 0 => .array .byte
  | 1 => .array .byte
  | 2 => .int
  | 3 => .int
  | 4 => .int
  | 5 => .int
  | 6 => .int
  | 7 => .int
  | 8 => .int
  | 9 => .int
  | 10 => .long
  | 11 => .array .int
  | 12 => .array .int
  | 13 => .array .int
  | 14 => .array .int
  | 15 => .array .int
  | 16 => .array .int
  | 17 => .array .int
  | 18 => .array .int
  | 19 => .array .int
  | 20 => .array .int
  | 21 => .array .int
  | 22 => .array .int
  | 23 => .array .int
  | 24 => .array .int
  | 25 => .array .int
  | 26 => .array .long
  | 27 => .array .int
  | 28 => .array .int
  | 29 => .array .int
  | 30 => .array .int
  | 31 => .array .int
  | 32 => .int
  | 33 => .int
  | 34 => .int
  | 35 => .int
  | 36 => .int
  | 37 => .int
  | 38 => .int
  | 39 => .array .int
  | 40 => .int
  | 41 => .array .int
  | 42 => .int
  | 43 => .array .int
  | 44 => .int
  | 45 => .int
  | 46 => .array .int
  | 47 => .array .int
  | 48 => .array .int
  | 49 => .int
  | 50 => .array .int
  | 51 => .int
  | 52 => .array .int
  | 53 => .array .int
  | 54 => .array .int
  | 55 => .array .int
  | 56 => .array .int
  | 57 => .array .int
  | 58 => .array .int
  | 59 => .array .boolean
  | 60 => .int
  | 61 => .int
  | 62 => .array .int
  | _ => .array .boolean
abbrev wsX120 : List Cond := u_ws RX12 TX12 64
theorem nmX12 : ∀ a, a < 64 → ∀ b, b < 64 → a ≠ b → (TX12 a).2.1 ≠ (TX12 b).2.1 := by decide +kernel
theorem tyX12_ok : ∀ k, k < 64 → parseFieldDescriptor (TX12 k).2.2.1 = some (tyX12 k) := by decide +kernel
abbrev cX12_init : ByteArray := prog_14_method_1_code
def yX12_init : MethodName := ⟨RX12, "<init>", "()V"⟩
abbrev cX12_sign : ByteArray := prog_14_method_2_code
def yX12_sign : MethodName := ⟨RX12, "sign", "(I)I"⟩
abbrev cX12_isLetter : ByteArray := prog_14_method_3_code
def yX12_isLetter : MethodName := ⟨RX12, "isLetter", "(I)Z"⟩
abbrev cX12_isDigit : ByteArray := prog_14_method_4_code
def yX12_isDigit : MethodName := ⟨RX12, "isDigit", "(I)Z"⟩
abbrev cX12_fails : ByteArray := prog_14_method_5_code
def yX12_fails : MethodName := ⟨RX12, "fails", "(II)V"⟩
abbrev cX12_isGood : ByteArray := prog_14_method_6_code
def yX12_isGood : MethodName := ⟨RX12, "isGood", "()Z"⟩
abbrev cX12_isKept : ByteArray := prog_14_method_7_code
def yX12_isKept : MethodName := ⟨RX12, "isKept", "(J)Z"⟩
abbrev cX12_isSign : ByteArray := prog_14_method_8_code
def yX12_isSign : MethodName := ⟨RX12, "isSign", "(I)Z"⟩
abbrev cX12_goOn : ByteArray := prog_14_method_9_code
def yX12_goOn : MethodName := ⟨RX12, "goOn", "()V"⟩
abbrev cX12_isSignHere : ByteArray := prog_14_method_10_code
def yX12_isSignHere : MethodName := ⟨RX12, "isSignHere", "(I)Z"⟩
abbrev cX12_isWord : ByteArray := prog_14_method_11_code
def yX12_isWord : MethodName := ⟨RX12, "isWord", "(J)Z"⟩
abbrev cX12_misplaced : ByteArray := prog_14_method_12_code
def yX12_misplaced : MethodName := ⟨RX12, "misplaced", "()V"⟩
abbrev cX12_must : ByteArray := prog_14_method_13_code
def yX12_must : MethodName := ⟨RX12, "must", "(Z)V"⟩
abbrev cX12_numeral : ByteArray := prog_14_method_14_code
def yX12_numeral : MethodName := ⟨RX12, "numeral", "(II)I"⟩
abbrev cX12_clearBank : ByteArray := prog_14_method_15_code
def yX12_clearBank : MethodName := ⟨RX12, "clearBank", "()V"⟩
abbrev cX12_land : ByteArray := prog_14_method_16_code
def yX12_land : MethodName := ⟨RX12, "land", "()I"⟩
abbrev cX12_isHedgeTold : ByteArray := prog_14_method_17_code
def yX12_isHedgeTold : MethodName := ⟨RX12, "isHedgeTold", "(I)Z"⟩
abbrev cX12_isHouseTold : ByteArray := prog_14_method_18_code
def yX12_isHouseTold : MethodName := ⟨RX12, "isHouseTold", "(I)Z"⟩
abbrev cX12_firstFree : ByteArray := prog_14_method_19_code
def yX12_firstFree : MethodName := ⟨RX12, "firstFree", "()I"⟩
abbrev cX12_isFull : ByteArray := prog_14_method_20_code
def yX12_isFull : MethodName := ⟨RX12, "isFull", "()Z"⟩
abbrev cX12_once : ByteArray := prog_14_method_21_code
def yX12_once : MethodName := ⟨RX12, "once", "(II)I"⟩
abbrev cX12_readLine : ByteArray := prog_14_method_22_code
def yX12_readLine : MethodName := ⟨RX12, "readLine", "()V"⟩
abbrev cX12_readCell : ByteArray := prog_14_method_23_code
def yX12_readCell : MethodName := ⟨RX12, "readCell", "(Z)I"⟩
abbrev cX12_readHouse : ByteArray := prog_14_method_24_code
def yX12_readHouse : MethodName := ⟨RX12, "readHouse", "()V"⟩
abbrev cX12_readRule : ByteArray := prog_14_method_25_code
def yX12_readRule : MethodName := ⟨RX12, "readRule", "()V"⟩
abbrev cX12_emit : ByteArray := prog_14_method_26_code
def yX12_emit : MethodName := ⟨RX12, "emit", "(II)V"⟩
abbrev cX12_pushE : ByteArray := prog_14_method_27_code
def yX12_pushE : MethodName := ⟨RX12, "pushE", "(II)V"⟩
abbrev cX12_e : ByteArray := prog_14_method_28_code
def yX12_e : MethodName := ⟨RX12, "e", "()V"⟩
abbrev cX12_wordHere : ByteArray := prog_14_method_29_code
def yX12_wordHere : MethodName := ⟨RX12, "wordHere", "()I"⟩
abbrev cX12_unit : ByteArray := prog_14_method_30_code
def yX12_unit : MethodName := ⟨RX12, "unit", "()Z"⟩
abbrev cX12_rankHere : ByteArray := prog_14_method_31_code
def yX12_rankHere : MethodName := ⟨RX12, "rankHere", "()I"⟩
abbrev cX12_isCompared : ByteArray := prog_14_method_32_code
def yX12_isCompared : MethodName := ⟨RX12, "isCompared", "()Z"⟩
abbrev cX12_behindUnit : ByteArray := prog_14_method_33_code
def yX12_behindUnit : MethodName := ⟨RX12, "behindUnit", "()Z"⟩
abbrev cX12_two : ByteArray := prog_14_method_34_code
def yX12_two : MethodName := ⟨RX12, "two", "(III)I"⟩
abbrev cX12_asked : ByteArray := prog_14_method_35_code
def yX12_asked : MethodName := ⟨RX12, "asked", "(II)I"⟩
abbrev cX12_comes : ByteArray := prog_14_method_36_code
def yX12_comes : MethodName := ⟨RX12, "comes", "()I"⟩
abbrev cX12_fault : ByteArray := prog_14_method_37_code
def yX12_fault : MethodName := ⟨RX12, "fault", "(I)I"⟩
abbrev cX12_isIn : ByteArray := prog_14_method_38_code
def yX12_isIn : MethodName := ⟨RX12, "isIn", "(III)Z"⟩
abbrev cX12_absolute : ByteArray := prog_14_method_39_code
def yX12_absolute : MethodName := ⟨RX12, "absolute", "(I)I"⟩
abbrev cX12_bit : ByteArray := prog_14_method_40_code
def yX12_bit : MethodName := ⟨RX12, "bit", "(II)Z"⟩
abbrev cX12_bitsOf : ByteArray := prog_14_method_41_code
def yX12_bitsOf : MethodName := ⟨RX12, "bitsOf", "(I)I"⟩
abbrev cX12_divisor : ByteArray := prog_14_method_42_code
def yX12_divisor : MethodName := ⟨RX12, "divisor", "(II)I"⟩
abbrev cX12_power : ByteArray := prog_14_method_43_code
def yX12_power : MethodName := ⟨RX12, "power", "(II)I"⟩
abbrev cX12_many : ByteArray := prog_14_method_44_code
def yX12_many : MethodName := ⟨RX12, "many", "()I"⟩
abbrev cX12_spots : ByteArray := prog_14_method_45_code
def yX12_spots : MethodName := ⟨RX12, "spots", "()I"⟩
abbrev cX12_isHouse : ByteArray := prog_14_method_46_code
def yX12_isHouse : MethodName := ⟨RX12, "isHouse", "(I)Z"⟩
abbrev cX12_isSpot : ByteArray := prog_14_method_47_code
def yX12_isSpot : MethodName := ⟨RX12, "isSpot", "(I)Z"⟩
abbrev cX12_homeOf : ByteArray := prog_14_method_48_code
def yX12_homeOf : MethodName := ⟨RX12, "homeOf", "(I)I"⟩
abbrev cX12_isAhead : ByteArray := prog_14_method_49_code
def yX12_isAhead : MethodName := ⟨RX12, "isAhead", "(I)Z"⟩
abbrev cX12_startAnew : ByteArray := prog_14_method_50_code
def yX12_startAnew : MethodName := ⟨RX12, "startAnew", "()V"⟩
abbrev cX12_layTold : ByteArray := prog_14_method_51_code
def yX12_layTold : MethodName := ⟨RX12, "layTold", "()V"⟩
abbrev cX12_farOf : ByteArray := prog_14_method_52_code
def yX12_farOf : MethodName := ⟨RX12, "farOf", "(II)I"⟩
abbrev cX12_goBy : ByteArray := prog_14_method_53_code
def yX12_goBy : MethodName := ⟨RX12, "goBy", "(II)I"⟩
abbrev cX12_wayOf : ByteArray := prog_14_method_54_code
def yX12_wayOf : MethodName := ⟨RX12, "wayOf", "(I)I"⟩
abbrev cX12_comeTo : ByteArray := prog_14_method_55_code
def yX12_comeTo : MethodName := ⟨RX12, "comeTo", "(II)I"⟩
abbrev cX12_housesAt : ByteArray := prog_14_method_56_code
def yX12_housesAt : MethodName := ⟨RX12, "housesAt", "(I)I"⟩
abbrev cX12_homeNow : ByteArray := prog_14_method_57_code
def yX12_homeNow : MethodName := ⟨RX12, "homeNow", "()I"⟩
abbrev cX12_hearBy : ByteArray := prog_14_method_58_code
def yX12_hearBy : MethodName := ⟨RX12, "hearBy", "(I)I"⟩
abbrev cX12_hedgesNow : ByteArray := prog_14_method_59_code
def yX12_hedgesNow : MethodName := ⟨RX12, "hedgesNow", "()I"⟩
abbrev cX12_goAll : ByteArray := prog_14_method_60_code
def yX12_goAll : MethodName := ⟨RX12, "goAll", "(Z)V"⟩
abbrev cX12_endStep : ByteArray := prog_14_method_61_code
def yX12_endStep : MethodName := ⟨RX12, "endStep", "()I"⟩
abbrev cX12_goStep : ByteArray := prog_14_method_62_code
def yX12_goStep : MethodName := ⟨RX12, "goStep", "(Z)I"⟩
abbrev cX12_goInEarnest : ByteArray := prog_14_method_63_code
def yX12_goInEarnest : MethodName := ⟨RX12, "goInEarnest", "(Z)I"⟩
abbrev cX12_house : ByteArray := prog_14_method_64_code
def yX12_house : MethodName := ⟨RX12, "house", "(II)I"⟩
abbrev cX12_spot : ByteArray := prog_14_method_65_code
def yX12_spot : MethodName := ⟨RX12, "spot", "(II)I"⟩
abbrev cX12_hear : ByteArray := prog_14_method_66_code
def yX12_hear : MethodName := ⟨RX12, "hear", "()I"⟩
abbrev cX12_law : ByteArray := prog_14_method_67_code
def yX12_law : MethodName := ⟨RX12, "law", "(I)I"⟩
abbrev cX12_home : ByteArray := prog_14_method_68_code
def yX12_home : MethodName := ⟨RX12, "home", "()I"⟩
abbrev cX12_tilted : ByteArray := prog_14_method_69_code
def yX12_tilted : MethodName := ⟨RX12, "tilted", "()I"⟩
abbrev cX12_suits : ByteArray := prog_14_method_70_code
def yX12_suits : MethodName := ⟨RX12, "suits", "(I)I"⟩
abbrev cX12_closest : ByteArray := prog_14_method_71_code
def yX12_closest : MethodName := ⟨RX12, "closest", "(I)I"⟩
abbrev cX12_exchange : ByteArray := prog_14_method_72_code
def yX12_exchange : MethodName := ⟨RX12, "exchange", "(II)V"⟩
abbrev cX12_swap : ByteArray := prog_14_method_73_code
def yX12_swap : MethodName := ⟨RX12, "swap", "(I)I"⟩
abbrev cX12_keepAct : ByteArray := prog_14_method_74_code
def yX12_keepAct : MethodName := ⟨RX12, "keepAct", "()V"⟩
abbrev cX12_swapAll : ByteArray := prog_14_method_75_code
def yX12_swapAll : MethodName := ⟨RX12, "swapAll", "()V"⟩
abbrev cX12_step : ByteArray := prog_14_method_76_code
def yX12_step : MethodName := ⟨RX12, "step", "(Z)I"⟩
abbrev cX12_walk : ByteArray := prog_14_method_77_code
def yX12_walk : MethodName := ⟨RX12, "walk", "(I)I"⟩
abbrev cX12_dawn : ByteArray := prog_14_method_78_code
def yX12_dawn : MethodName := ⟨RX12, "dawn", "()I"⟩
abbrev cX12_isBare : ByteArray := prog_14_method_79_code
def yX12_isBare : MethodName := ⟨RX12, "isBare", "(I)Z"⟩
abbrev cX12_hedge : ByteArray := prog_14_method_80_code
def yX12_hedge : MethodName := ⟨RX12, "hedge", "(I)I"⟩
abbrev cX12_cut : ByteArray := prog_14_method_81_code
def yX12_cut : MethodName := ⟨RX12, "cut", "(I)I"⟩
abbrev cX12_undo : ByteArray := prog_14_method_82_code
def yX12_undo : MethodName := ⟨RX12, "undo", "()Z"⟩
abbrev cX12_redo : ByteArray := prog_14_method_83_code
def yX12_redo : MethodName := ⟨RX12, "redo", "()Z"⟩
abbrev cX12_lies : ByteArray := prog_14_method_84_code
def yX12_lies : MethodName := ⟨RX12, "lies", "(I)I"⟩
abbrev cX12_keepNow : ByteArray := prog_14_method_85_code
def yX12_keepNow : MethodName := ⟨RX12, "keepNow", "()V"⟩
abbrev cX12_bringBack : ByteArray := prog_14_method_86_code
def yX12_bringBack : MethodName := ⟨RX12, "bringBack", "()V"⟩
abbrev cX12_goSteps : ByteArray := prog_14_method_87_code
def yX12_goSteps : MethodName := ⟨RX12, "goSteps", "(IZ)V"⟩
abbrev cX12_will : ByteArray := prog_14_method_88_code
def yX12_will : MethodName := ⟨RX12, "will", "(III)I"⟩
abbrev cX12_back : ByteArray := prog_14_method_89_code
def yX12_back : MethodName := ⟨RX12, "back", "(I)I"⟩
abbrev cX12_meet : ByteArray := prog_14_method_90_code
def yX12_meet : MethodName := ⟨RX12, "meet", "(II)I"⟩
abbrev cX12_homely : ByteArray := prog_14_method_91_code
def yX12_homely : MethodName := ⟨RX12, "homely", "(IZ)I"⟩
abbrev cX12_tiltNow : ByteArray := prog_14_method_92_code
def yX12_tiltNow : MethodName := ⟨RX12, "tiltNow", "()I"⟩
abbrev cX12_quarrels : ByteArray := prog_14_method_93_code
def yX12_quarrels : MethodName := ⟨RX12, "quarrels", "(I)I"⟩
abbrev cX12_stray : ByteArray := prog_14_method_94_code
def yX12_stray : MethodName := ⟨RX12, "stray", "(II)I"⟩
abbrev cX12_oftenest : ByteArray := prog_14_method_95_code
def yX12_oftenest : MethodName := ⟨RX12, "oftenest", "()I"⟩
abbrev cX12_countHouses : ByteArray := prog_14_method_96_code
def yX12_countHouses : MethodName := ⟨RX12, "countHouses", "()V"⟩
abbrev cX12_haunt : ByteArray := prog_14_method_97_code
def yX12_haunt : MethodName := ⟨RX12, "haunt", "(I)I"⟩
abbrev cX12_gather : ByteArray := prog_14_method_98_code
def yX12_gather : MethodName := ⟨RX12, "gather", "(I)I"⟩
abbrev cX12_plan : ByteArray := prog_14_method_99_code
def yX12_plan : MethodName := ⟨RX12, "plan", "(II)I"⟩
abbrev cX12_doMeetIn : ByteArray := prog_14_method_100_code
def yX12_doMeetIn : MethodName := ⟨RX12, "doMeetIn", "(III)Z"⟩
abbrev cX12_fence : ByteArray := prog_14_method_101_code
def yX12_fence : MethodName := ⟨RX12, "fence", "(III)I"⟩
abbrev cX12_post : ByteArray := prog_14_method_102_code
def yX12_post : MethodName := ⟨RX12, "post", "(II)I"⟩
abbrev cX12_bell : ByteArray := prog_14_method_103_code
def yX12_bell : MethodName := ⟨RX12, "bell", "(II)I"⟩
abbrev cX12_layFar : ByteArray := prog_14_method_104_code
def yX12_layFar : MethodName := ⟨RX12, "layFar", "(I)V"⟩
abbrev cX12_way : ByteArray := prog_14_method_105_code
def yX12_way : MethodName := ⟨RX12, "way", "(I)I"⟩
abbrev cX12_realm : ByteArray := prog_14_method_106_code
def yX12_realm : MethodName := ⟨RX12, "realm", "()I"⟩
abbrev cX12_fetch : ByteArray := prog_14_method_107_code
def yX12_fetch : MethodName := ⟨RX12, "fetch", "()I"⟩
abbrev cX12_lost : ByteArray := prog_14_method_108_code
def yX12_lost : MethodName := ⟨RX12, "lost", "()I"⟩
abbrev cX12_chaseOne : ByteArray := prog_14_method_109_code
def yX12_chaseOne : MethodName := ⟨RX12, "chaseOne", "(II)I"⟩
abbrev cX12_chaseTwo : ByteArray := prog_14_method_110_code
def yX12_chaseTwo : MethodName := ⟨RX12, "chaseTwo", "(II)I"⟩
abbrev cX12_chaseThree : ByteArray := prog_14_method_111_code
def yX12_chaseThree : MethodName := ⟨RX12, "chaseThree", "(II)I"⟩
abbrev cX12_chase : ByteArray := prog_14_method_112_code
def yX12_chase : MethodName := ⟨RX12, "chase", "(III)I"⟩
abbrev cX12_odds : ByteArray := prog_14_method_113_code
def yX12_odds : MethodName := ⟨RX12, "odds", "(II)I"⟩
abbrev cX12_seen : ByteArray := prog_14_method_114_code
def yX12_seen : MethodName := ⟨RX12, "seen", "(IIZ)I"⟩
abbrev cX12_untell : ByteArray := prog_14_method_115_code
def yX12_untell : MethodName := ⟨RX12, "untell", "(I)Z"⟩
abbrev cX12_later : ByteArray := prog_14_method_116_code
def yX12_later : MethodName := ⟨RX12, "later", "(I)I"⟩
abbrev cX12_layPaths : ByteArray := prog_14_method_117_code
def yX12_layPaths : MethodName := ⟨RX12, "layPaths", "()V"⟩
abbrev cX12_doesFit : ByteArray := prog_14_method_118_code
def yX12_doesFit : MethodName := ⟨RX12, "doesFit", "(II)Z"⟩
abbrev cX12_fits : ByteArray := prog_14_method_119_code
def yX12_fits : MethodName := ⟨RX12, "fits", "(I)I"⟩
abbrev cX12_sure : ByteArray := prog_14_method_120_code
def yX12_sure : MethodName := ⟨RX12, "sure", "(II)I"⟩
abbrev cX12_mostBehind : ByteArray := prog_14_method_121_code
def yX12_mostBehind : MethodName := ⟨RX12, "mostBehind", "(II)I"⟩
abbrev cX12_ask : ByteArray := prog_14_method_122_code
def yX12_ask : MethodName := ⟨RX12, "ask", "(II)I"⟩
abbrev cX12_image : ByteArray := prog_14_method_123_code
def yX12_image : MethodName := ⟨RX12, "image", "(I)I"⟩
abbrev cX12_restore : ByteArray := prog_14_method_124_code
def yX12_restore : MethodName := ⟨RX12, "restore", "(I)I"⟩
abbrev cX12_about : ByteArray := prog_14_method_125_code
def yX12_about : MethodName := ⟨RX12, "about", "(I)I"⟩
abbrev cX12_feed : ByteArray := prog_14_method_126_code
def yX12_feed : MethodName := ⟨RX12, "feed", "(IIIII)I"⟩
abbrev cX12_end : ByteArray := prog_14_method_127_code
def yX12_end : MethodName := ⟨RX12, "end", "(I)I"⟩
def RJx145de : String := "java/io/Serializable"
def TJx145de : u_T := fun k => match k with
  | _ => ("", "", "", false)
def tyJx145de : Nat → FieldType := fun k => match k with
  | _ => .int
abbrev wsJx145de0 : List Cond := u_ws RJx145de TJx145de 0
theorem nmJx145de : ∀ a, a < 0 → ∀ b, b < 0 → a ≠ b → (TJx145de a).2.1 ≠ (TJx145de b).2.1 := by decide +kernel
theorem tyJx145de_ok : ∀ k, k < 0 → parseFieldDescriptor (TJx145de k).2.2.1 = some (tyJx145de k) := by decide +kernel
def RJx9f9b0 : String := "java/lang/CharSequence"
def TJx9f9b0 : u_T := fun k => match k with
  | _ => ("", "", "", false)
def tyJx9f9b0 : Nat → FieldType := fun k => match k with
  | _ => .int
abbrev wsJx9f9b00 : List Cond := u_ws RJx9f9b0 TJx9f9b0 0
theorem nmJx9f9b0 : ∀ a, a < 0 → ∀ b, b < 0 → a ≠ b → (TJx9f9b0 a).2.1 ≠ (TJx9f9b0 b).2.1 := by decide +kernel
theorem tyJx9f9b0_ok : ∀ k, k < 0 → parseFieldDescriptor (TJx9f9b0 k).2.2.1 = some (tyJx9f9b0 k) := by decide +kernel
def RJ11 : String := "java/lang/Character"
def TJ11 : u_T := fun k => match k with
  | _ => ("", "", "", false)
def tyJ11 : Nat → FieldType := fun k => match k with
  | _ => .int
abbrev wsJ110 : List Cond := u_ws RJ11 TJ11 0
theorem nmJ11 : ∀ a, a < 0 → ∀ b, b < 0 → a ≠ b → (TJ11 a).2.1 ≠ (TJ11 b).2.1 := by decide +kernel
theorem tyJ11_ok : ∀ k, k < 0 → parseFieldDescriptor (TJ11 k).2.2.1 = some (tyJ11 k) := by decide +kernel
abbrev cJ11_isValidCodePoint_9a6ad : ByteArray := prog_15_method_11_code
def yJ11_isValidCodePoint_9a6ad : MethodName := ⟨RJ11, "isValidCodePoint", "(I)Z"⟩
abbrev cJ11_highSurrogate_5068e : ByteArray := prog_15_method_28_code
def yJ11_highSurrogate_5068e : MethodName := ⟨RJ11, "highSurrogate", "(I)C"⟩
abbrev cJ11_lowSurrogate_5068e : ByteArray := prog_15_method_29_code
def yJ11_lowSurrogate_5068e : MethodName := ⟨RJ11, "lowSurrogate", "(I)C"⟩
def RJxb160c : String := "java/lang/Comparable"
def TJxb160c : u_T := fun k => match k with
  | _ => ("", "", "", false)
def tyJxb160c : Nat → FieldType := fun k => match k with
  | _ => .int
abbrev wsJxb160c0 : List Cond := u_ws RJxb160c TJxb160c 0
theorem nmJxb160c : ∀ a, a < 0 → ∀ b, b < 0 → a ≠ b → (TJxb160c a).2.1 ≠ (TJxb160c b).2.1 := by decide +kernel
theorem tyJxb160c_ok : ∀ k, k < 0 → parseFieldDescriptor (TJxb160c k).2.2.1 = some (tyJxb160c k) := by decide +kernel
def RJ6 : String := "java/lang/Integer"
def TJ6 : u_T := fun k => match k with
  | _ => ("", "", "", false)
def tyJ6 : Nat → FieldType := fun k => match k with
  | _ => .int
abbrev wsJ60 : List Cond := u_ws RJ6 TJ6 0
theorem nmJ6 : ∀ a, a < 0 → ∀ b, b < 0 → a ≠ b → (TJ6 a).2.1 ≠ (TJ6 b).2.1 := by decide +kernel
theorem tyJ6_ok : ∀ k, k < 0 → parseFieldDescriptor (TJ6 k).2.2.1 = some (tyJ6 k) := by decide +kernel
abbrev cJ6_numberOfLeadingZeros_0f7a4 : ByteArray := prog_16_method_47_code
def yJ6_numberOfLeadingZeros_0f7a4 : MethodName := ⟨RJ6, "numberOfLeadingZeros", "(I)I"⟩
abbrev cJ6_numberOfTrailingZeros_0f7a4 : ByteArray := prog_16_method_48_code
def yJ6_numberOfTrailingZeros_0f7a4 : MethodName := ⟨RJ6, "numberOfTrailingZeros", "(I)I"⟩
abbrev cJ6_bitCount_0f7a4 : ByteArray := prog_16_method_49_code
def yJ6_bitCount_0f7a4 : MethodName := ⟨RJ6, "bitCount", "(I)I"⟩
def RJ13 : String := "java/lang/Long"
def TJ13 : u_T := fun k => match k with
  | _ => ("", "", "", false)
def tyJ13 : Nat → FieldType := fun k => match k with
  | _ => .int
abbrev wsJ130 : List Cond := u_ws RJ13 TJ13 0
theorem nmJ13 : ∀ a, a < 0 → ∀ b, b < 0 → a ≠ b → (TJ13 a).2.1 ≠ (TJ13 b).2.1 := by decide +kernel
theorem tyJ13_ok : ∀ k, k < 0 → parseFieldDescriptor (TJ13 k).2.2.1 = some (tyJ13 k) := by decide +kernel
abbrev cJ13_numberOfLeadingZeros_95d88 : ByteArray := prog_17_method_48_code
def yJ13_numberOfLeadingZeros_95d88 : MethodName := ⟨RJ13, "numberOfLeadingZeros", "(J)I"⟩
abbrev cJ13_numberOfTrailingZeros_95d88 : ByteArray := prog_17_method_49_code
def yJ13_numberOfTrailingZeros_95d88 : MethodName := ⟨RJ13, "numberOfTrailingZeros", "(J)I"⟩
abbrev cJ13_bitCount_95d88 : ByteArray := prog_17_method_50_code
def yJ13_bitCount_95d88 : MethodName := ⟨RJ13, "bitCount", "(J)I"⟩
def RJ9 : String := "java/lang/Math"
def TJ9 : u_T := fun k => match k with
  | _ => ("", "", "", false)
def tyJ9 : Nat → FieldType := fun k => match k with
  | _ => .int
abbrev wsJ90 : List Cond := u_ws RJ9 TJ9 0
theorem nmJ9 : ∀ a, a < 0 → ∀ b, b < 0 → a ≠ b → (TJ9 a).2.1 ≠ (TJ9 b).2.1 := by decide +kernel
theorem tyJ9_ok : ∀ k, k < 0 → parseFieldDescriptor (TJ9 k).2.2.1 = some (tyJ9 k) := by decide +kernel
abbrev cJ9_floorMod_7cf53 : ByteArray := prog_18_method_50_code
def yJ9_floorMod_7cf53 : MethodName := ⟨RJ9, "floorMod", "(II)I"⟩
abbrev cJ9_abs_0f7a4 : ByteArray := prog_18_method_59_code
def yJ9_abs_0f7a4 : MethodName := ⟨RJ9, "abs", "(I)I"⟩
abbrev cJ9_max_7cf53 : ByteArray := prog_18_method_65_code
def yJ9_max_7cf53 : MethodName := ⟨RJ9, "max", "(II)I"⟩
abbrev cJ9_min_7cf53 : ByteArray := prog_18_method_69_code
def yJ9_min_7cf53 : MethodName := ⟨RJ9, "min", "(II)I"⟩
def RJxd2413 : String := "java/lang/Number"
def TJxd2413 : u_T := fun k => match k with
  | _ => ("", "", "", false)
def tyJxd2413 : Nat → FieldType := fun k => match k with
  | _ => .int
abbrev wsJxd24130 : List Cond := u_ws RJxd2413 TJxd2413 0
theorem nmJxd2413 : ∀ a, a < 0 → ∀ b, b < 0 → a ≠ b → (TJxd2413 a).2.1 ≠ (TJxd2413 b).2.1 := by decide +kernel
theorem tyJxd2413_ok : ∀ k, k < 0 → parseFieldDescriptor (TJxd2413 k).2.2.1 = some (tyJxd2413 k) := by decide +kernel
def RJ0 : String := "java/lang/String"
def TJ0 : u_T := fun k => match k with
  | _ => ("", "", "", false)
def tyJ0 : Nat → FieldType := fun k => match k with
  | _ => .int
abbrev wsJ00 : List Cond := u_ws RJ0 TJ0 0
theorem nmJ0 : ∀ a, a < 0 → ∀ b, b < 0 → a ≠ b → (TJ0 a).2.1 ≠ (TJ0 b).2.1 := by decide +kernel
theorem tyJ0_ok : ∀ k, k < 0 → parseFieldDescriptor (TJ0 k).2.2.1 = some (tyJ0 k) := by decide +kernel
abbrev cJ0_length_8abf5 : ByteArray := prog_20_method_54_code
def yJ0_length_8abf5 : MethodName := ⟨RJ0, "length", "()I"⟩
abbrev cJ0_charAt_5068e : ByteArray := prog_20_method_56_code
def yJ0_charAt_5068e : MethodName := ⟨RJ0, "charAt", "(I)C"⟩
abbrev cJ0_indexOf_0f7a4 : ByteArray := prog_20_method_79_code
def yJ0_indexOf_0f7a4 : MethodName := ⟨RJ0, "indexOf", "(I)I"⟩
abbrev cJ0_indexOf_7cf53 : ByteArray := prog_20_method_80_code
def yJ0_indexOf_7cf53 : MethodName := ⟨RJ0, "indexOf", "(II)I"⟩
abbrev cJ0_coder_7d493 : ByteArray := prog_20_method_152_code
def yJ0_coder_7d493 : MethodName := ⟨RJ0, "coder", "()B"⟩
abbrev cJ0_isLatin1_aae02 : ByteArray := prog_20_method_154_code
def yJ0_isLatin1_aae02 : MethodName := ⟨RJ0, "isLatin1", "()Z"⟩
abbrev cJ0_checkIndex_df160 : ByteArray := prog_20_method_155_code
def yJ0_checkIndex_df160 : MethodName := ⟨RJ0, "checkIndex", "(II)V"⟩
abbrev cJ0_checkBoundsBeginEnd_23922 : ByteArray := prog_20_method_158_code
def yJ0_checkBoundsBeginEnd_23922 : MethodName := ⟨RJ0, "checkBoundsBeginEnd", "(III)V"⟩
def RJ1 : String := "java/lang/StringLatin1"
def TJ1 : u_T := fun k => match k with
  | _ => ("", "", "", false)
def tyJ1 : Nat → FieldType := fun k => match k with
  | _ => .int
abbrev wsJ10 : List Cond := u_ws RJ1 TJ1 0
theorem nmJ1 : ∀ a, a < 0 → ∀ b, b < 0 → a ≠ b → (TJ1 a).2.1 ≠ (TJ1 b).2.1 := by decide +kernel
theorem tyJ1_ok : ∀ k, k < 0 → parseFieldDescriptor (TJ1 k).2.2.1 = some (tyJ1 k) := by decide +kernel
abbrev cJ1_charAt_3b067 : ByteArray := prog_21_method_2_code
def yJ1_charAt_3b067 : MethodName := ⟨RJ1, "charAt", "([BI)C"⟩
abbrev cJ1_canEncode_9a6ad : ByteArray := prog_21_method_4_code
def yJ1_canEncode_9a6ad : MethodName := ⟨RJ1, "canEncode", "(I)Z"⟩
abbrev cJ1_indexOf_4cfef : ByteArray := prog_21_method_22_code
def yJ1_indexOf_4cfef : MethodName := ⟨RJ1, "indexOf", "([BIII)I"⟩
abbrev cJ1_indexOfChar_4cfef : ByteArray := prog_21_method_23_code
def yJ1_indexOfChar_4cfef : MethodName := ⟨RJ1, "indexOfChar", "([BIII)I"⟩
def RJ2 : String := "java/lang/StringUTF16"
def TJ2 : u_T := fun k => match k with
  | _ => ("", "", "", false)
def tyJ2 : Nat → FieldType := fun k => match k with
  | _ => .int
abbrev wsJ20 : List Cond := u_ws RJ2 TJ2 0
theorem nmJ2 : ∀ a, a < 0 → ∀ b, b < 0 → a ≠ b → (TJ2 a).2.1 ≠ (TJ2 b).2.1 := by decide +kernel
theorem tyJ2_ok : ∀ k, k < 0 → parseFieldDescriptor (TJ2 k).2.2.1 = some (tyJ2 k) := by decide +kernel
abbrev cJ2_getChar_3b067 : ByteArray := prog_22_method_5_code
def yJ2_getChar_3b067 : MethodName := ⟨RJ2, "getChar", "([BI)C"⟩
abbrev cJ2_length_9d52b : ByteArray := prog_22_method_6_code
def yJ2_length_9d52b : MethodName := ⟨RJ2, "length", "([B)I"⟩
abbrev cJ2_indexOf_4cfef : ByteArray := prog_22_method_40_code
def yJ2_indexOf_4cfef : MethodName := ⟨RJ2, "indexOf", "([BIII)I"⟩
abbrev cJ2_indexOfChar_4cfef : ByteArray := prog_22_method_47_code
def yJ2_indexOfChar_4cfef : MethodName := ⟨RJ2, "indexOfChar", "([BIII)I"⟩
abbrev cJ2_indexOfCharUnsafe_4cfef : ByteArray := prog_22_method_48_code
def yJ2_indexOfCharUnsafe_4cfef : MethodName := ⟨RJ2, "indexOfCharUnsafe", "([BIII)I"⟩
abbrev cJ2_indexOfSupplementary_4cfef : ByteArray := prog_22_method_49_code
def yJ2_indexOfSupplementary_4cfef : MethodName := ⟨RJ2, "indexOfSupplementary", "([BIII)I"⟩
abbrev cJ2_charAt_3b067 : ByteArray := prog_22_method_83_code
def yJ2_charAt_3b067 : MethodName := ⟨RJ2, "charAt", "([BI)C"⟩
abbrev cJ2_checkIndex_2214a : ByteArray := prog_22_method_91_code
def yJ2_checkIndex_2214a : MethodName := ⟨RJ2, "checkIndex", "(I[B)V"⟩
abbrev cJ2_checkBoundsBeginEnd_d044e : ByteArray := prog_22_method_93_code
def yJ2_checkBoundsBeginEnd_d044e : MethodName := ⟨RJ2, "checkBoundsBeginEnd", "(II[B)V"⟩
def RJ10 : String := "java/lang/System"
def TJ10 : u_T := fun k => match k with
  | _ => ("", "", "", false)
def tyJ10 : Nat → FieldType := fun k => match k with
  | _ => .int
abbrev wsJ100 : List Cond := u_ws RJ10 TJ10 0
theorem nmJ10 : ∀ a, a < 0 → ∀ b, b < 0 → a ≠ b → (TJ10 a).2.1 ≠ (TJ10 b).2.1 := by decide +kernel
theorem tyJ10_ok : ∀ k, k < 0 → parseFieldDescriptor (TJ10 k).2.2.1 = some (tyJ10 k) := by decide +kernel
def RJxfd54e : String := "java/lang/constant/Constable"
def TJxfd54e : u_T := fun k => match k with
  | _ => ("", "", "", false)
def tyJxfd54e : Nat → FieldType := fun k => match k with
  | _ => .int
abbrev wsJxfd54e0 : List Cond := u_ws RJxfd54e TJxfd54e 0
theorem nmJxfd54e : ∀ a, a < 0 → ∀ b, b < 0 → a ≠ b → (TJxfd54e a).2.1 ≠ (TJxfd54e b).2.1 := by decide +kernel
theorem tyJxfd54e_ok : ∀ k, k < 0 → parseFieldDescriptor (TJxfd54e k).2.2.1 = some (tyJxfd54e k) := by decide +kernel
def RJx3cf43 : String := "java/lang/constant/ConstantDesc"
def TJx3cf43 : u_T := fun k => match k with
  | _ => ("", "", "", false)
def tyJx3cf43 : Nat → FieldType := fun k => match k with
  | _ => .int
abbrev wsJx3cf430 : List Cond := u_ws RJx3cf43 TJx3cf43 0
theorem nmJx3cf43 : ∀ a, a < 0 → ∀ b, b < 0 → a ≠ b → (TJx3cf43 a).2.1 ≠ (TJx3cf43 b).2.1 := by decide +kernel
theorem tyJx3cf43_ok : ∀ k, k < 0 → parseFieldDescriptor (TJx3cf43 k).2.2.1 = some (tyJx3cf43 k) := by decide +kernel
def RJ7 : String := "java/util/Arrays"
def TJ7 : u_T := fun k => match k with
  | _ => ("", "", "", false)
def tyJ7 : Nat → FieldType := fun k => match k with
  | _ => .int
abbrev wsJ70 : List Cond := u_ws RJ7 TJ7 0
theorem nmJ7 : ∀ a, a < 0 → ∀ b, b < 0 → a ≠ b → (TJ7 a).2.1 ≠ (TJ7 b).2.1 := by decide +kernel
theorem tyJ7_ok : ∀ k, k < 0 → parseFieldDescriptor (TJ7 k).2.2.1 = some (tyJ7 k) := by decide +kernel
abbrev cJ7_fill_53178 : ByteArray := prog_24_method_103_code
def yJ7_fill_53178 : MethodName := ⟨RJ7, "fill", "([II)V"⟩
def RJ3 : String := "jdk/internal/util/Preconditions"
def TJ3 : u_T := fun k => match k with
  | _ => ("", "", "", false)
def tyJ3 : Nat → FieldType := fun k => match k with
  | _ => .int
abbrev wsJ30 : List Cond := u_ws RJ3 TJ3 0
theorem nmJ3 : ∀ a, a < 0 → ∀ b, b < 0 → a ≠ b → (TJ3 a).2.1 ≠ (TJ3 b).2.1 := by decide +kernel
theorem tyJ3_ok : ∀ k, k < 0 → parseFieldDescriptor (TJ3 k).2.2.1 = some (tyJ3 k) := by decide +kernel
abbrev cJ3_checkIndex_8e157 : ByteArray := prog_25_method_11_code
def yJ3_checkIndex_8e157 : MethodName := ⟨RJ3, "checkIndex", "(IILjava/util/function/BiFunction;)I"⟩
abbrev cJ3_checkFromToIndex_8c36e : ByteArray := prog_25_method_12_code
def yJ3_checkFromToIndex_8c36e : MethodName := ⟨RJ3, "checkFromToIndex", "(IIILjava/util/function/BiFunction;)I"⟩
def RL : String := "NightHousesLaw"
abbrev cL_law : ByteArray := code
def yL_law : MethodName := ⟨RL, "law", "([I)Z"⟩
end
section
/-! plain facts on ints (begun from the kit's COUNTS, NUMBERS and BITS rows) -/
theorem fb_rng (x : Int32) : -2147483648 ≤ x.toInt ∧ x.toInt < 2147483648 := by
  have h1 := Int32.le_toInt x
  have h2 := Int32.toInt_lt x
  omega
theorem fb_bmod {z : Int} (h1 : -2147483648 ≤ z) (h2 : z < 2147483648) : z.bmod (2 ^ 32) = z := by
  rw [Int.bmod_eq_of_le (by omega) (by omega)]
theorem fb_addI {x y : Int32} (h1 : -2147483648 ≤ x.toInt + y.toInt) (h2 : x.toInt + y.toInt < 2147483648) : (x + y).toInt = x.toInt + y.toInt := by
  rw [Int32.toInt_add, fb_bmod h1 h2]
theorem fb_subI {x y : Int32} (h1 : -2147483648 ≤ x.toInt - y.toInt) (h2 : x.toInt - y.toInt < 2147483648) : (x - y).toInt = x.toInt - y.toInt := by
  rw [Int32.toInt_sub, fb_bmod h1 h2]
theorem fb_mulI {x y : Int32} (h1 : -2147483648 ≤ x.toInt * y.toInt) (h2 : x.toInt * y.toInt < 2147483648) : (x * y).toInt = x.toInt * y.toInt := by
  rw [Int32.toInt_mul, fb_bmod h1 h2]
theorem fb_negI {x : Int32} (h : x.toInt ≠ -2147483648) : (-x).toInt = -x.toInt := by
  have := fb_rng x
  rw [Int32.toInt_neg, fb_bmod (by omega) (by omega)]
theorem fb_ofI {z : Int} (h1 : -2147483648 ≤ z) (h2 : z < 2147483648) : (Int32.ofInt z).toInt = z := by
  rw [Int32.toInt_ofInt, fb_bmod h1 h2]
theorem fb_asI (x : Int32) : Int32.ofInt x.toInt = x := Int32.ofInt_toInt x
theorem fb_rngL (x : Int64) : -9223372036854775808 ≤ x.toInt ∧ x.toInt < 9223372036854775808 := by
  have h1 := Int64.le_toInt x
  have h2 := Int64.toInt_lt x
  omega
theorem s_l : ∀ n, n < 32 → ((nI n &&& 31).toBitVec.smod 32).toNat = n := by decide +kernel
theorem fa_or (a b : Nat) : nI a ||| nI b = nI (a ||| b) := by
  apply Int32.toBitVec_inj.1
  show BitVec.ofNat 32 a ||| BitVec.ofNat 32 b = BitVec.ofNat 32 (a ||| b)
  apply BitVec.eq_of_getLsbD_eq
  intro i hi
  simp [hi]
theorem fa_and (a b : Nat) : nI a &&& nI b = nI (a &&& b) := by
  apply Int32.toBitVec_inj.1
  show BitVec.ofNat 32 a &&& BitVec.ofNat 32 b = BitVec.ofNat 32 (a &&& b)
  apply BitVec.eq_of_getLsbD_eq
  intro i hi
  simp [hi]
theorem fb_xorI (a b : Nat) : nI a ^^^ nI b = nI (a ^^^ b) := by
  apply Int32.toBitVec_inj.1
  show BitVec.ofNat 32 a ^^^ BitVec.ofNat 32 b = BitVec.ofNat 32 (a ^^^ b)
  apply BitVec.eq_of_getLsbD_eq
  intro i hi
  simp [hi]
theorem nh_nI {x : Int32} (h : 0 ≤ x.toInt) : ∃ j : Nat, j < 2 ^ 31 ∧ x = nI j ∧ x.toInt = (j : Int) := by
  obtain ⟨j, hj, e⟩ := nI_of (x := x) (fun q => by have := (Int32.lt_iff_toInt_lt).mp q; simp at this; omega)
  exact ⟨j, hj, e, by rw [e]; exact nI_toInt hj⟩
theorem nh_any (x : Int32) : ∃ j : Nat, j < 2 ^ 32 ∧ x = nI j := by
  refine ⟨x.toBitVec.toNat, x.toBitVec.isLt, ?_⟩
  apply Int32.toBitVec_inj.1
  show x.toBitVec = BitVec.ofNat 32 x.toBitVec.toNat
  simp
theorem nh_andR (x : Int32) {y : Int32} (h : 0 ≤ y.toInt) : 0 ≤ (x &&& y).toInt ∧ (x &&& y).toInt ≤ y.toInt := by
  obtain ⟨j, hj, e, ej⟩ := nh_nI h
  obtain ⟨i, hi, e2⟩ := nh_any x
  have hle : i &&& j ≤ j := Nat.and_le_right
  rw [ej, e, e2, fa_and, nI_toInt (by omega)]
  omega
theorem nh_andL {x : Int32} (y : Int32) (h : 0 ≤ x.toInt) : 0 ≤ (x &&& y).toInt ∧ (x &&& y).toInt ≤ x.toInt := by
  obtain ⟨j, hj, e, ej⟩ := nh_nI h
  obtain ⟨i, hi, e2⟩ := nh_any y
  have hle : j &&& i ≤ j := Nat.and_le_left
  rw [ej, e, e2, fa_and, nI_toInt (by omega)]
  omega
theorem nh_or {x y : Int32} {k : Nat} (hk : k ≤ 31) (hx : 0 ≤ x.toInt) (hy : 0 ≤ y.toInt) (hx2 : x.toInt < 2 ^ k) (hy2 : y.toInt < 2 ^ k) : 0 ≤ (x ||| y).toInt ∧ (x ||| y).toInt < 2 ^ k := by
  obtain ⟨i, hi, e, ei⟩ := nh_nI hx
  obtain ⟨j, hj, e2, ej⟩ := nh_nI hy
  have h1 : i < 2 ^ k := by rw [ei] at hx2; exact_mod_cast hx2
  have h2 : j < 2 ^ k := by rw [ej] at hy2; exact_mod_cast hy2
  have h3 : i ||| j < 2 ^ k := Nat.or_lt_two_pow h1 h2
  have h4 : 2 ^ k ≤ 2 ^ 31 := Nat.pow_le_pow_right (by omega) hk
  rw [e, e2, fa_or, nI_toInt (by omega)]
  exact ⟨by omega, by exact_mod_cast h3⟩
theorem nh_xor {x y : Int32} {k : Nat} (hk : k ≤ 31) (hx : 0 ≤ x.toInt) (hy : 0 ≤ y.toInt) (hx2 : x.toInt < 2 ^ k) (hy2 : y.toInt < 2 ^ k) : 0 ≤ (x ^^^ y).toInt ∧ (x ^^^ y).toInt < 2 ^ k := by
  obtain ⟨i, hi, e, ei⟩ := nh_nI hx
  obtain ⟨j, hj, e2, ej⟩ := nh_nI hy
  have h1 : i < 2 ^ k := by rw [ei] at hx2; exact_mod_cast hx2
  have h2 : j < 2 ^ k := by rw [ej] at hy2; exact_mod_cast hy2
  have h3 : i ^^^ j < 2 ^ k := Nat.xor_lt_two_pow h1 h2
  have h4 : 2 ^ k ≤ 2 ^ 31 := Nat.pow_le_pow_right (by omega) hk
  rw [e, e2, fb_xorI, nI_toInt (by omega)]
  exact ⟨by omega, by exact_mod_cast h3⟩
theorem nh_cnt (y : Int32) : ∃ k : Nat, k < 32 ∧ ((y &&& 31).toBitVec.smod 32).toNat = k := by
  obtain ⟨j, hj, e⟩ := pk_andE y (m := 31) 5 (by decide)
  refine ⟨j, by omega, ?_⟩
  have h := s_l j (by omega)
  have h31 : nI j &&& 31 = nI j := by
    have := pk_andN (n := j) (by omega) (m := 31) 5 (by decide)
    rw [this, Nat.mod_eq_of_lt (by omega)]
  rw [h31] at h
  rw [e]; exact h
theorem nh_shr {x : Int32} (y : Int32) (h : 0 ≤ x.toInt) : 0 ≤ (x >>> (y &&& 31)).toInt ∧ (x >>> (y &&& 31)).toInt ≤ x.toInt := by
  obtain ⟨j, hj, e, ej⟩ := nh_nI h
  obtain ⟨k, hk, ek⟩ := nh_cnt y
  have hd : j / 2 ^ k ≤ j := Nat.div_le_self _ _
  rw [ej, e, pk_shrN hj _ k ek, nI_toInt (by omega)]
  exact ⟨Int.natCast_nonneg _, Int.ofNat_le.mpr hd⟩
theorem nh_shl {x y : Int32} {d : Nat} (hd : d < 32) (hx : 0 ≤ x.toInt) (hy : 0 ≤ y.toInt) (hy2 : y.toInt ≤ d) (hb : x.toInt * 2 ^ d ≤ 2147483647) : 0 ≤ (x <<< (y &&& 31)).toInt ∧ (x <<< (y &&& 31)).toInt ≤ x.toInt * 2 ^ d := by
  obtain ⟨i, hi, e, ei⟩ := nh_nI hx
  obtain ⟨j, hj, e2, ej⟩ := nh_nI hy
  have hjd : j ≤ d := by rw [ej] at hy2; exact_mod_cast hy2
  have h1 : i * 2 ^ j ≤ i * 2 ^ d := Nat.mul_le_mul_left _ (Nat.pow_le_pow_right (by omega) hjd)
  have hc : ((i * 2 ^ d : Nat) : Int) = (i : Int) * 2 ^ d := by rw [Int.natCast_mul, Int.natCast_pow]; rfl
  have h2 : i * 2 ^ d ≤ 2147483647 := by
    rw [ei, ← hc] at hb
    omega
  rw [ei, e, e2, pk_shlN _ j (s_l j (by omega)) (by omega), nI_toInt (by omega), ← hc]
  exact ⟨Int.natCast_nonneg _, Int.ofNat_le.mpr h1⟩
theorem nh_div {x y : Int32} (hx : 0 ≤ x.toInt) (hy : 1 ≤ y.toInt) : (x / y).toInt = x.toInt / y.toInt := by
  obtain ⟨i, hi, e, ei⟩ := nh_nI hx
  obtain ⟨j, hj, e2, ej⟩ := nh_nI (x := y) (by omega)
  have hle : i / j ≤ i := Nat.div_le_self _ _
  rw [ei, ej, e, e2, pk_div hi (by omega) hj, nI_toInt (by omega)]
  exact_mod_cast rfl
theorem nh_eqI {x : Int32} {a : Int} (h1 : a ≤ x.toInt) (h2 : x.toInt ≤ a) : x = Int32.ofInt a := by
  rw [← fb_asI x]
  congr 1
  omega
theorem nh_eqL {x : Int64} {a : Int} (h1 : a ≤ x.toInt) (h2 : x.toInt ≤ a) : x = Int64.ofInt a := by
  rw [← Int64.ofInt_toInt x]
  congr 1
  omega
end
section
/-! A CHECKER BY REFLECTION. Abstract values: (tag, lo, hi): 0 an int within, 1 a long within, 2 a reference of kind lo, 3 the same or null, 4 the ghost int number lo, 9 anything -/
abbrev nhV : Type := Nat × Int × Int
def nh_fl : nhV := (0, -2147483648, 2147483647)
def nh_fL : nhV := (1, -9223372036854775808, 9223372036854775807)
def nhOk (Γ : Nat → Int) (g : Nat → Int32) (v : nhV) (x : Value) : Prop :=
  match v.1 with
  | 0 => ∃ a : Int32, x = .int a ∧ v.2.1 ≤ a.toInt ∧ a.toInt ≤ v.2.2
  | 1 => ∃ a : Int64, x = .long a ∧ v.2.1 ≤ a.toInt ∧ a.toInt ≤ v.2.2
  | 2 => ∃ a : Nat, x = .ref a ∧ Γ a = v.2.1
  | 3 => x = .null ∨ ∃ a : Nat, x = .ref a ∧ Γ a = v.2.1
  | 4 => x = .int (g v.2.1.toNat)
  | _ => True
def nh_le (u v : nhV) : Bool :=
  match v.1 with
  | 0 => (u.1 == 0 && decide (v.2.1 ≤ u.2.1) && decide (u.2.2 ≤ v.2.2)) || (u.1 == 4 && decide (v.2.1 ≤ -2147483648) && decide (2147483647 ≤ v.2.2))
  | 1 => u.1 == 1 && decide (v.2.1 ≤ u.2.1) && decide (u.2.2 ≤ v.2.2)
  | 2 => u.1 == 2 && u.2.1 == v.2.1
  | 3 => (u.1 == 2 || u.1 == 3) && u.2.1 == v.2.1
  | 4 => u.1 == 4 && u.2.1 == v.2.1
  | 9 => true
  | _ => false
theorem nh_le_ok {Γ : Nat → Int} {g : Nat → Int32} {u v : nhV} {x : Value} (h : nh_le u v = true) (hu : nhOk Γ g u x) : nhOk Γ g v x := by
  obtain ⟨t, a, b⟩ := u
  obtain ⟨t', a', b'⟩ := v
  unfold nh_le at h
  dsimp only at h
  split at h
  · simp only [Bool.or_eq_true, Bool.and_eq_true, beq_iff_eq, decide_eq_true_eq] at h
    rcases h with ⟨⟨rfl, h1⟩, h2⟩ | ⟨⟨rfl, h1⟩, h2⟩
    · obtain ⟨z, e, q1, q2⟩ := hu
      exact ⟨z, e, by dsimp only at q1 ⊢; omega, by dsimp only at q2 ⊢; omega⟩
    · have hr := fb_rng (g a.toNat)
      exact ⟨g a.toNat, hu, by dsimp only; omega, by dsimp only; omega⟩
  · simp only [Bool.and_eq_true, beq_iff_eq, decide_eq_true_eq] at h
    obtain ⟨⟨rfl, h1⟩, h2⟩ := h
    obtain ⟨z, e, q1, q2⟩ := hu
    exact ⟨z, e, by dsimp only at q1 ⊢; omega, by dsimp only at q2 ⊢; omega⟩
  · simp only [Bool.and_eq_true, beq_iff_eq] at h
    obtain ⟨rfl, rfl⟩ := h
    exact hu
  · simp only [Bool.and_eq_true, Bool.or_eq_true, beq_iff_eq] at h
    obtain ⟨rfl | rfl, rfl⟩ := h
    · exact Or.inr hu
    · exact hu
  · simp only [Bool.and_eq_true, beq_iff_eq] at h
    obtain ⟨rfl, rfl⟩ := h
    exact hu
  · trivial
  · cases h
/-- the interval of an int -/
def nh_iv (v : nhV) : Option (Int × Int) := match v.1 with
  | 0 => some v.2
  | 4 => some (-2147483648, 2147483647)
  | _ => none
theorem nh_iv_ok {Γ : Nat → Int} {g : Nat → Int32} {v : nhV} {x : Value} {q : Int × Int} (h : nh_iv v = some q) (hv : nhOk Γ g v x) : ∃ a : Int32, x = .int a ∧ q.1 ≤ a.toInt ∧ a.toInt ≤ q.2 := by
  obtain ⟨t, lo, hi⟩ := v
  unfold nh_iv at h
  dsimp only at h
  split at h
  · cases h
    exact hv
  · cases h
    have hr := fb_rng (g lo.toNat)
    exact ⟨_, hv, by dsimp only; omega, by dsimp only; omega⟩
  · cases h
def nh_lv (v : nhV) : Option (Int × Int) := match v.1 with
  | 1 => some v.2
  | _ => none
theorem nh_lv_ok {Γ : Nat → Int} {g : Nat → Int32} {v : nhV} {x : Value} {q : Int × Int} (h : nh_lv v = some q) (hv : nhOk Γ g v x) : ∃ a : Int64, x = .long a ∧ q.1 ≤ a.toInt ∧ a.toInt ≤ q.2 := by
  obtain ⟨t, lo, hi⟩ := v
  unfold nh_lv at h
  dsimp only at h
  split at h
  · cases h
    exact hv
  · cases h
def nh_mk (lo hi : Int) : nhV := if -2147483648 ≤ lo ∧ hi ≤ 2147483647 then (0, lo, hi) else nh_fl
theorem nh_fl_ok (Γ : Nat → Int) (g : Nat → Int32) (a : Int32) : nhOk Γ g nh_fl (.int a) := by
  have hr := fb_rng a
  exact ⟨a, rfl, by dsimp only [nh_fl]; omega, by dsimp only [nh_fl]; omega⟩
theorem nh_fL_ok (Γ : Nat → Int) (g : Nat → Int32) (a : Int64) : nhOk Γ g nh_fL (.long a) := by
  have hr := fb_rngL a
  exact ⟨a, rfl, by dsimp only [nh_fL]; omega, by dsimp only [nh_fL]; omega⟩
/-- binary int operations: what the machine does -/
def nh_bS (i : Instr) (x y : Int32) : Option Int32 := match i with
  | .iadd => some (x + y)
  | .isub => some (x - y)
  | .imul => some (x * y)
  | .iand => some (x &&& y)
  | .ior => some (x ||| y)
  | .ixor => some (x ^^^ y)
  | .ishl => some (x <<< (y &&& 31))
  | .ishr => some (x >>> (y &&& 31))
  | .iushr => some ((x.toUInt32 >>> (y.toUInt32 &&& Int32.toUInt32 31)).toInt32)
  | .idiv => if y = 0 then none else some (x / y)
  | .irem => if y = 0 then none else some (x - x / y * y)
  | _ => none
def nh_pw (n : Int) : Nat := (List.range 32).find? (fun k => decide (n < 2 ^ k)) |>.getD 99
def nh_bI (i : Instr) (a b c d : Int) : Option nhV := match i with
  | .iadd => some (nh_mk (a + c) (b + d))
  | .isub => some (nh_mk (a - d) (b - c))
  | .imul => if 0 ≤ a ∧ 0 ≤ c then some (nh_mk (a * c) (b * d)) else some nh_fl
  | .iand => if 0 ≤ c then (if 0 ≤ a ∧ b ≤ d then some (0, 0, b) else some (0, 0, d)) else if 0 ≤ a then some (0, 0, b) else some nh_fl
  | .ior => if 0 ≤ a ∧ 0 ≤ c ∧ b < 2 ^ nh_pw (max b d) ∧ d < 2 ^ nh_pw (max b d) ∧ nh_pw (max b d) ≤ 31 then some (0, 0, 2 ^ nh_pw (max b d) - 1) else some nh_fl
  | .ixor => if 0 ≤ a ∧ 0 ≤ c ∧ b < 2 ^ nh_pw (max b d) ∧ d < 2 ^ nh_pw (max b d) ∧ nh_pw (max b d) ≤ 31 then some (0, 0, 2 ^ nh_pw (max b d) - 1) else some nh_fl
  | .ishl => if 0 ≤ a ∧ 0 ≤ c ∧ d ≤ 30 ∧ b * 2 ^ d.toNat ≤ 2147483647 then some (0, 0, b * 2 ^ d.toNat) else some nh_fl
  | .ishr => if 0 ≤ a then some (0, 0, b) else some nh_fl
  | .iushr => some nh_fl
  | .idiv => if 0 ≤ a ∧ 1 ≤ c then some (0, a / d, b / c) else if 1 ≤ c ∨ d ≤ -1 then some nh_fl else none
  | .irem => if 1 ≤ c then (if 0 ≤ a then (if b ≤ d - 1 then some (0, 0, b) else some (0, 0, d - 1)) else some (0, -(d - 1), d - 1)) else if d ≤ -1 then some nh_fl else none
  | _ => none
def nh_b (i : Instr) (a b c d : Int) : Option nhV :=
  if a = b ∧ c = d then (match nh_bS i (Int32.ofInt a) (Int32.ofInt c) with | some r => some (0, r.toInt, r.toInt) | none => none)
  else nh_bI i a b c d
theorem nh_mk_ok {Γ : Nat → Int} {g : Nat → Int32} {lo hi : Int} {r : Int32} (h : -2147483648 ≤ lo → hi ≤ 2147483647 → lo ≤ r.toInt ∧ r.toInt ≤ hi) : nhOk Γ g (nh_mk lo hi) (.int r) := by
  unfold nh_mk
  split
  · rename_i q
    exact ⟨r, rfl, h q.1 q.2⟩
  · exact nh_fl_ok Γ g r
theorem nh_bI_ok {Γ : Nat → Int} {g : Nat → Int32} {i : Instr} {a b c d : Int} {v : nhV} {x y : Int32} (h : nh_bI i a b c d = some v) (h1 : a ≤ x.toInt) (h2 : x.toInt ≤ b) (h3 : c ≤ y.toInt) (h4 : y.toInt ≤ d) :
    ∃ r, nh_bS i x y = some r ∧ nhOk Γ g v (.int r) := by
  have rx := fb_rng x
  have ry := fb_rng y
  have ne0 : ∀ {z : Int32}, (1 ≤ z.toInt ∨ z.toInt ≤ -1) → ¬ z = 0 := fun hz e => by rw [e] at hz; simp at hz
  unfold nh_bI at h
  split at h
  · cases h
    exact ⟨_, rfl, nh_mk_ok fun q1 q2 => by rw [fb_addI (by omega) (by omega)]; omega⟩
  · cases h
    exact ⟨_, rfl, nh_mk_ok fun q1 q2 => by rw [fb_subI (by omega) (by omega)]; omega⟩
  · split at h
    · rename_i q
      cases h
      refine ⟨_, rfl, nh_mk_ok fun q1 q2 => ?_⟩
      have e1 : a * c ≤ x.toInt * y.toInt := Int.mul_le_mul h1 h3 q.2 (by omega)
      have e2 : x.toInt * y.toInt ≤ b * d := Int.mul_le_mul h2 h4 (by omega) (by omega)
      rw [fb_mulI (by omega) (by omega)]
      exact ⟨e1, e2⟩
    · cases h
      exact ⟨_, rfl, nh_fl_ok Γ g _⟩
  · split at h
    · rename_i q
      have e1 := nh_andR x (y := y) (by omega)
      split at h
      · rename_i q2
        cases h
        have e2 := nh_andL (x := x) y (by omega)
        exact ⟨_, rfl, _, rfl, e1.1, by dsimp only; omega⟩
      · cases h
        exact ⟨_, rfl, _, rfl, e1.1, by dsimp only; omega⟩
    · split at h
      · cases h
        have e2 := nh_andL (x := x) y (by omega)
        exact ⟨_, rfl, _, rfl, e2.1, by dsimp only; omega⟩
      · cases h
        exact ⟨_, rfl, nh_fl_ok Γ g _⟩
  · split at h
    · rename_i q
      cases h
      have e1 := nh_or (k := nh_pw (max b d)) q.2.2.2.2 (x := x) (y := y) (by omega) (by omega) (by omega) (by omega)
      exact ⟨_, rfl, _, rfl, e1.1, by dsimp only; omega⟩
    · cases h
      exact ⟨_, rfl, nh_fl_ok Γ g _⟩
  · split at h
    · rename_i q
      cases h
      have e1 := nh_xor (k := nh_pw (max b d)) q.2.2.2.2 (x := x) (y := y) (by omega) (by omega) (by omega) (by omega)
      exact ⟨_, rfl, _, rfl, e1.1, by dsimp only; omega⟩
    · cases h
      exact ⟨_, rfl, nh_fl_ok Γ g _⟩
  · split at h
    · rename_i q
      cases h
      have hp : (0 : Int) ≤ 2 ^ d.toNat := Int.pow_nonneg (by omega)
      have e0 : x.toInt * 2 ^ d.toNat ≤ b * 2 ^ d.toNat := Int.mul_le_mul_of_nonneg_right h2 hp
      have e1 := nh_shl (x := x) (y := y) (d := d.toNat) (by omega) (by omega) (by omega) (by omega) (by omega)
      exact ⟨_, rfl, _, rfl, e1.1, by dsimp only; omega⟩
    · cases h
      exact ⟨_, rfl, nh_fl_ok Γ g _⟩
  · split at h
    · cases h
      have e1 := nh_shr (x := x) y (by omega)
      exact ⟨_, rfl, _, rfl, e1.1, by dsimp only; omega⟩
    · cases h
      exact ⟨_, rfl, nh_fl_ok Γ g _⟩
  · cases h
    exact ⟨_, rfl, nh_fl_ok Γ g _⟩
  · split at h
    · rename_i q
      cases h
      refine ⟨x / y, by simp only [nh_bS]; rw [if_neg (ne0 (by omega))], _, rfl, ?_⟩
      dsimp only
      rw [nh_div (by omega) (by omega)]
      constructor
      · refine Int.le_trans (Int.ediv_le_ediv (by omega) h1) ?_
        refine Int.le_ediv_of_mul_le (by omega) ?_
        have k1 : x.toInt / d * y.toInt ≤ x.toInt / d * d := Int.mul_le_mul_of_nonneg_left h4 (Int.ediv_nonneg (by omega) (by omega))
        have k2 : x.toInt / d * d ≤ x.toInt := Int.ediv_mul_le _ (by omega)
        omega
      · refine Int.le_trans (Int.ediv_le_ediv (by omega) h2) ?_
        refine Int.le_ediv_of_mul_le (by omega) ?_
        have k1 : b / y.toInt * c ≤ b / y.toInt * y.toInt := Int.mul_le_mul_of_nonneg_left h3 (Int.ediv_nonneg (by omega) (by omega))
        have k2 : b / y.toInt * y.toInt ≤ b := Int.ediv_mul_le _ (by omega)
        omega
    · split at h
      · rename_i q
        cases h
        exact ⟨_, by simp only [nh_bS]; rw [if_neg (ne0 (by omega))], nh_fl_ok Γ g _⟩
      · cases h
  · split at h
    · rename_i q
      have hb := tmod_bounds (a := x.toInt) (M := y.toInt) (by omega)
      have hn : nh_bS .irem x y = some (x - x / y * y) := by simp only [nh_bS]; rw [if_neg (ne0 (by omega))]
      have hr := rem_toInt x y
      split at h
      · have h0 : 0 ≤ x.toInt.tmod y.toInt ∧ x.toInt.tmod y.toInt ≤ x.toInt := by
          rw [Int.tmod_eq_emod_of_nonneg (by omega)]
          exact ⟨Int.emod_nonneg _ (by omega), by
            have := Int.ediv_nonneg (a := x.toInt) (b := y.toInt) (by omega) (by omega)
            have k := Int.mul_ediv_add_emod x.toInt y.toInt
            have k2 : 0 ≤ y.toInt * (x.toInt / y.toInt) := Int.mul_nonneg (by omega) this
            omega⟩
        split at h
        · cases h
          exact ⟨_, hn, _, rfl, by dsimp only; omega, by dsimp only; omega⟩
        · cases h
          exact ⟨_, hn, _, rfl, by dsimp only; omega, by dsimp only; omega⟩
      · cases h
        exact ⟨_, hn, _, rfl, by dsimp only; omega, by dsimp only; omega⟩
    · split at h
      · rename_i q
        cases h
        exact ⟨_, by simp only [nh_bS]; rw [if_neg (ne0 (by omega))], nh_fl_ok Γ g _⟩
      · cases h
  · cases h
theorem nh_b_ok {Γ : Nat → Int} {g : Nat → Int32} {i : Instr} {a b c d : Int} {v : nhV} {x y : Int32} (h : nh_b i a b c d = some v) (h1 : a ≤ x.toInt) (h2 : x.toInt ≤ b) (h3 : c ≤ y.toInt) (h4 : y.toInt ≤ d) :
    ∃ r, nh_bS i x y = some r ∧ nhOk Γ g v (.int r) := by
  unfold nh_b at h
  split at h
  · rename_i q
    obtain ⟨rfl, rfl⟩ := q
    rw [← nh_eqI h1 h2, ← nh_eqI h3 h4] at h
    split at h
    · rename_i r hr
      cases h
      exact ⟨r, hr, r, rfl, by dsimp only; omega, by dsimp only; omega⟩
    · cases h
  · exact nh_bI_ok h h1 h2 h3 h4
end
section
/-! the classes, the array types; kinds of cells: (0, class, number of fields, fields) or (1, array type, length, elements: one for all, or one for each) -/
abbrev nhCl : List vw_C := [(RX0, TX0, 9), (RX1, TX1, 5), (RX2, TX2, 4), (RX3, TX3, 14), (RX4, TX4, 8), (RX5, TX5, 7), (RX6, TX6, 13), (RX7, TX7, 10), (RX11, TX8, 0), (RX9, TX9, 7), (RX10, TX10, 4), (RX11, TX11, 17), (RX12, TX12, 64)]
abbrev nhTy : List FieldType := [.int, .byte, .long, .boolean, .object "NightHouses$Night"]
abbrev nhD : Type := (Nat → ClassId) × (Nat → Nat → Nat) × (Nat → ClassId)
abbrev nhKd : Type := Nat × Nat × Nat × List nhV
def nh_el (l : List nhV) (j : Nat) : nhV := match l with
  | [x] => x
  | _ => l.getD j (8, 0, 0)
def nhCell (D : nhD) (Γ : Nat → Int) (g : Nat → Int32) (k : nhKd) (a : Nat) (H : Heap) : Prop := match k.1 with
  | 0 => ∃ V : Nat → Value, t_OB a (D.1 k.2.1) k.2.2.1 (D.2.1 k.2.1) H V ∧ ∀ j, j < k.2.2.1 → nhOk Γ g (k.2.2.2.getD j (8, 0, 0)) (V j)
  | 1 => ∃ z : Nat → Value, H[a]? = some (arrV (D.2.2 k.2.1) k.2.2.1 z) ∧ ∀ j, j < k.2.2.1 → nhOk Γ g (nh_el k.2.2.2 j) (z j)
  | _ => False
def nhH (D : nhD) (kd : List nhKd) (Γ : Nat → Int) (g : Nat → Int32) (H : Heap) : Prop := ∀ a : Nat, 0 ≤ Γ a → ∃ k, kd[(Γ a).toNat]? = some k ∧ nhCell D Γ g k a H
def nhK (D : nhD) (U : State) : Prop := (∀ (c : Nat) (q : vw_C), nhCl[c]? = some q → u_Kn U q.1 q.2.1 q.2.2 (D.1 c) (D.2.1 c)) ∧ ∀ (k : Nat) (ty : FieldType), nhTy[k]? = some ty → ArrOfT U (D.2.2 k) ty ∧ va_RA U (D.2.2 k) ty
theorem nhK.moved {D : nhD} {u U : State} (hvm : u.vm.Alike U.vm) (h : nhK D u) : nhK D U := ⟨fun c q hq => u_Kn_moved hvm (h.1 c q hq), fun k q hk => ⟨arrOfT_moved hvm (h.2 k q hk).1, (h.2 k q hk).2.moved hvm⟩⟩
/-- a state: variables, locals (slot, variable), stack, fields that are known (class, field, object, value), differences (w ≤ x + c), what an answer says (r, whether r ≠ 0, then w is within) -/
abbrev nhMm : Type := Nat × Nat × Nat × Nat
abbrev nhDf : Type := Nat × Nat × Int
abbrev nhCo : Type := Nat × Bool × Nat × Int × Int
abbrev nhS : Type := List nhV × List (Nat × Nat) × List Nat × List nhMm × List nhDf × List nhCo
def nhAll (Γ : Nat → Int) (g : Nat → Int32) (vs : List nhV) (ρ : List Value) : Prop := ρ.length = vs.length ∧ ∀ (i : Nat) (v : nhV), vs[i]? = some v → ∃ x, ρ[i]? = some x ∧ nhOk Γ g v x
def nhLo (ρ : List Value) (lo : List (Nat × Nat)) (ls : Array Slot) : Prop := ∀ q ∈ lo, ∃ x, ρ[q.2]? = some x ∧ ls[q.1]? = some (.val x)
def nhSt (ρ : List Value) : List Nat → List Value → Prop
  | [], [] => True
  | i :: is, x :: xs => ρ[i]? = some x ∧ nhSt ρ is xs
  | _, _ => False
def nhMe (D : nhD) (ρ : List Value) (H : Heap) (me : List nhMm) : Prop := ∀ q ∈ me, ∃ (a : Nat) (x : Value) (cell : Cell), ρ[q.2.2.1]? = some (.ref a) ∧ ρ[q.2.2.2]? = some x ∧ H[a]? = some cell ∧ cell.slots[D.2.1 q.1 q.2.1]? = some x
def nhDi (ρ : List Value) (di : List nhDf) : Prop := ∀ q ∈ di, ∃ a b : Int32, ρ[q.1]? = some (.int a) ∧ ρ[q.2.1]? = some (.int b) ∧ a.toInt ≤ b.toInt + q.2.2
def nhCn (ρ : List Value) (co : List nhCo) : Prop := ∀ q ∈ co, ∃ r a : Int32, ρ[q.1]? = some (.int r) ∧ ρ[q.2.2.1]? = some (.int a) ∧ (decide (r ≠ 0) = q.2.1 → q.2.2.2.1 ≤ a.toInt ∧ a.toInt ≤ q.2.2.2.2)
def nhFr (Γ : Nat → Int) (pu : Bool) (H0 H : Heap) (locs : List Loc) : Prop := H.size = H0.size ∧ (∀ q : Nat, Γ q < 0 → H[q]? = H0[q]?) ∧ (∀ l ∈ locs, 0 ≤ Γ l.base) ∧ (pu = true → H = H0)
/-- the tuple of what holds of all heaps and names; then the relation -/
abbrev nhE : Type := nhD × List nhKd × (Nat → Int) × (Nat → Int32)
def nhR (E : nhE) (nL : Nat) (pu : Bool) (H0 : Heap) (S : nhS) (ρ : List Value) (H : Heap) (locs : List Loc) (ls : Array Slot) (st : List Value) : Prop :=
  nhAll E.2.2.1 E.2.2.2 S.1 ρ ∧ (ls.size = nL ∧ lv_wf ls ∧ nhLo ρ S.2.1 ls) ∧ nhSt ρ S.2.2.1 st ∧ nhMe E.1 ρ H S.2.2.2.1 ∧ nhDi ρ S.2.2.2.2.1 ∧ nhCn ρ S.2.2.2.2.2 ∧ nhH E.1 E.2.1 E.2.2.1 E.2.2.2 H ∧ nhFr E.2.2.1 pu H0 H locs
/-- more variables -/
def nhX (ρ ρ' : List Value) : Prop := ∀ (i : Nat) (x : Value), ρ[i]? = some x → ρ'[i]? = some x
theorem nhX.rf (ρ : List Value) : nhX ρ ρ := fun _ _ h => h
theorem nhX.tr {a b c : List Value} (h : nhX a b) (k : nhX b c) : nhX a c := fun i x q => k i x (h i x q)
theorem nhX.push (ρ : List Value) (v : Value) : nhX ρ (ρ ++ [v]) := fun i x h => by
  rw [List.getElem?_append_left (List.getElem?_eq_some_iff.mp h).1]; exact h
theorem nhX.last (ρ : List Value) (v : Value) : (ρ ++ [v])[ρ.length]? = some v := by simp
theorem nhLo.mono {ρ ρ' : List Value} {lo : List (Nat × Nat)} {ls : Array Slot} (hx : nhX ρ ρ') (h : nhLo ρ lo ls) : nhLo ρ' lo ls := fun q hq => by
  obtain ⟨x, h1, h2⟩ := h q hq
  exact ⟨x, hx _ _ h1, h2⟩
theorem nhSt.mono {ρ ρ' : List Value} (hx : nhX ρ ρ') : ∀ {is : List Nat} {xs : List Value}, nhSt ρ is xs → nhSt ρ' is xs
  | [], [], _ => trivial
  | _ :: _, _ :: _, h => ⟨hx _ _ h.1, nhSt.mono hx h.2⟩
  | [], _ :: _, h => h
  | _ :: _, [], h => h
theorem nhMe.mono {D : nhD} {ρ ρ' : List Value} {H : Heap} {me : List nhMm} (hx : nhX ρ ρ') (h : nhMe D ρ H me) : nhMe D ρ' H me := fun q hq => by
  obtain ⟨a, x, cell, h1, h2, h3⟩ := h q hq
  exact ⟨a, x, cell, hx _ _ h1, hx _ _ h2, h3⟩
theorem nhDi.mono {ρ ρ' : List Value} {di : List nhDf} (hx : nhX ρ ρ') (h : nhDi ρ di) : nhDi ρ' di := fun q hq => by
  obtain ⟨a, b, h1, h2, h3⟩ := h q hq
  exact ⟨a, b, hx _ _ h1, hx _ _ h2, h3⟩
theorem nhCn.mono {ρ ρ' : List Value} {co : List nhCo} (hx : nhX ρ ρ') (h : nhCn ρ co) : nhCn ρ' co := fun q hq => by
  obtain ⟨a, b, h1, h2, h3⟩ := h q hq
  exact ⟨a, b, hx _ _ h1, hx _ _ h2, h3⟩
theorem nhAll.push {Γ : Nat → Int} {g : Nat → Int32} {vs : List nhV} {ρ : List Value} {v : nhV} {x : Value} (h : nhAll Γ g vs ρ) (hv : nhOk Γ g v x) : nhAll Γ g (vs ++ [v]) (ρ ++ [x]) := by
  obtain ⟨h1, h2⟩ := h
  refine ⟨by simp [h1], fun i w hi => ?_⟩
  by_cases hl : i < vs.length
  · rw [List.getElem?_append_left hl] at hi
    obtain ⟨y, q1, q2⟩ := h2 i w hi
    exact ⟨y, nhX.push ρ x _ _ q1, q2⟩
  · rw [List.getElem?_append_right (by omega)] at hi
    have hz : i - vs.length < 1 := (List.getElem?_eq_some_iff.mp hi).1
    have e : i = ρ.length := by omega
    rw [show i - vs.length = 0 by omega] at hi
    cases hi
    rw [e]
    exact ⟨x, nhX.last ρ x, hv⟩
theorem nhSt.len {ρ : List Value} : ∀ {is : List Nat} {xs : List Value}, nhSt ρ is xs → is.length = xs.length
  | [], [], _ => rfl
  | _ :: _, _ :: _, h => by simp [nhSt.len h.2]
  | [], _ :: _, h => h.elim
  | _ :: _, [], h => h.elim
theorem nhSt.inv1 {ρ : List Value} {i : Nat} {is : List Nat} {st : List Value} (h : nhSt ρ (i :: is) st) : ∃ x xs, st = x :: xs ∧ ρ[i]? = some x ∧ nhSt ρ is xs := by
  cases st with
  | nil => exact h.elim
  | cons x xs => exact ⟨x, xs, rfl, h.1, h.2⟩
/-- a new variable on the stack -/
def nh_push (S : nhS) (rest : List Nat) (v : nhV) : nhS := (S.1 ++ [v], S.2.1, S.1.length :: rest, S.2.2.2)
theorem nh_push_ok {E : nhE} {nL : Nat} {pu : Bool} {H0 : Heap} {S : nhS} {ρ : List Value} {H : Heap} {locs : List Loc} {ls : Array Slot} {st : List Value} {rest : List Nat} {v : nhV} {x : Value} {xs : List Value}
    (h : nhR E nL pu H0 S ρ H locs ls st) (hr : nhSt ρ rest xs) (hv : nhOk E.2.2.1 E.2.2.2 v x) : nhR E nL pu H0 (nh_push S rest v) (ρ ++ [x]) H locs ls (x :: xs) := by
  obtain ⟨h1, ⟨h2, h3, h4⟩, h5, h6, h7, h8, h9⟩ := h
  have hx := nhX.push ρ x
  exact ⟨h1.push hv, ⟨h2, h3, h4.mono hx⟩, ⟨by show (ρ ++ [x])[S.1.length]? = some x; rw [← h1.1]; exact nhX.last ρ x, nhSt.mono hx hr⟩, h6.mono hx, h7.mono hx, h8.mono hx, h9⟩
/-- another stack -/
theorem nh_stack_ok {E : nhE} {nL : Nat} {pu : Bool} {H0 : Heap} {S : nhS} {ρ : List Value} {H : Heap} {locs : List Loc} {ls : Array Slot} {st : List Value} {is : List Nat} {xs : List Value}
    (h : nhR E nL pu H0 S ρ H locs ls st) (hr : nhSt ρ is xs) : nhR E nL pu H0 (S.1, S.2.1, is, S.2.2.2) ρ H locs ls xs := by
  obtain ⟨h1, h2, h5, h6⟩ := h
  exact ⟨h1, h2, hr, h6⟩
/-- more differences -/
theorem nh_dif_ok {E : nhE} {nL : Nat} {pu : Bool} {H0 : Heap} {S : nhS} {ρ : List Value} {H : Heap} {locs : List Loc} {ls : Array Slot} {st : List Value} {l : List nhDf}
    (h : nhR E nL pu H0 S ρ H locs ls st) (hl : nhDi ρ l) : nhR E nL pu H0 (S.1, S.2.1, S.2.2.1, S.2.2.2.1, l ++ S.2.2.2.2.1, S.2.2.2.2.2) ρ H locs ls st := by
  obtain ⟨h1, h2, h5, h6, h7, h8⟩ := h
  refine ⟨h1, h2, h5, h6, fun q hq => ?_, h8⟩
  rcases List.mem_append.mp hq with h | h
  · exact hl q h
  · exact h7 q h
/-- a variable's bounds, known better -/
def nh_set (S : nhS) (i : Nat) (v : nhV) : nhS := (S.1.set i v, S.2)
theorem nh_set_ok {E : nhE} {nL : Nat} {pu : Bool} {H0 : Heap} {S : nhS} {ρ : List Value} {H : Heap} {locs : List Loc} {ls : Array Slot} {st : List Value} {i : Nat} {v : nhV} {x : Value}
    (h : nhR E nL pu H0 S ρ H locs ls st) (hx : ρ[i]? = some x) (hv : nhOk E.2.2.1 E.2.2.2 v x) : nhR E nL pu H0 (nh_set S i v) ρ H locs ls st := by
  obtain ⟨h1, h2⟩ := h
  refine ⟨⟨by simp [nh_set, h1.1], fun j w hj => ?_⟩, h2⟩
  have hj' : (S.1.set i v)[j]? = some w := hj
  by_cases e : j = i
  · subst e
    have hl : j < S.1.length := by rw [← h1.1]; exact (List.getElem?_eq_some_iff.mp hx).1
    rw [List.getElem?_set_self hl] at hj'
    cases hj'
    exact ⟨x, hx, hv⟩
  · rw [List.getElem?_set_ne (Ne.symm e)] at hj'
    exact h1.2 j w hj'
/-- x is within: none if it can't be -/
def nh_ref (S : nhS) (i : Nat) (lo hi : Int) : Option nhS := match S.1[i]? with
  | some (0, a, b) => if max a lo ≤ min b hi then some (nh_set S i (0, max a lo, min b hi)) else none
  | _ => some S
theorem nh_ref_ok {E : nhE} {nL : Nat} {pu : Bool} {H0 : Heap} {S : nhS} {ρ : List Value} {H : Heap} {locs : List Loc} {ls : Array Slot} {st : List Value} {i : Nat} {lo hi : Int} {a : Int32}
    (h : nhR E nL pu H0 S ρ H locs ls st) (hx : ρ[i]? = some (.int a)) (h1 : lo ≤ a.toInt) (h2 : a.toInt ≤ hi) : ∃ S', nh_ref S i lo hi = some S' ∧ nhR E nL pu H0 S' ρ H locs ls st := by
  unfold nh_ref
  split
  · rename_i u v hv
    obtain ⟨x, q1, z, q2, q3, q4⟩ := h.1.2 i _ hv
    rw [hx] at q1
    cases q1
    cases q2
    dsimp only at q3 q4
    have hm : max u lo ≤ a.toInt ∧ a.toInt ≤ min v hi := ⟨by omega, by omega⟩
    rw [if_pos (by omega)]
    exact ⟨_, rfl, nh_set_ok h hx ⟨a, rfl, hm⟩⟩
  · exact ⟨S, rfl, h⟩
end
section
/-! pure operations -/
def nh_c32 (r : Int32) : nhV := (0, r.toInt, r.toInt)
def nh_c64 (r : Int64) : nhV := (1, r.toInt, r.toInt)
theorem nh_c32_ok (Γ : Nat → Int) (g : Nat → Int32) (r : Int32) : nhOk Γ g (nh_c32 r) (.int r) := ⟨r, rfl, Int.le_refl _, Int.le_refl _⟩
theorem nh_c64_ok (Γ : Nat → Int) (g : Nat → Int32) (r : Int64) : nhOk Γ g (nh_c64 r) (.long r) := ⟨r, rfl, Int.le_refl _, Int.le_refl _⟩
/-- binary long operations -/
def nh_lS (i : Instr) (x y : Int64) : Option Int64 := match i with
  | .ladd => some (x + y)
  | .lsub => some (x - y)
  | .lmul => some (x * y)
  | .land => some (x &&& y)
  | .lor => some (x ||| y)
  | .lxor => some (x ^^^ y)
  | _ => none
def nh_l (i : Instr) (a b c d : Int) : Option nhV :=
  if a = b ∧ c = d then (match nh_lS i (Int64.ofInt a) (Int64.ofInt c) with | some r => some (nh_c64 r) | none => none)
  else if i = .land ∧ ((a = 0 ∧ b = 0) ∨ (c = 0 ∧ d = 0)) then some (1, 0, 0)
  else if (nh_lS i 0 0).isSome then some nh_fL else none
theorem nh_l_ok {Γ : Nat → Int} {g : Nat → Int32} {i : Instr} {a b c d : Int} {v : nhV} {x y : Int64} (h : nh_l i a b c d = some v) (h1 : a ≤ x.toInt) (h2 : x.toInt ≤ b) (h3 : c ≤ y.toInt) (h4 : y.toInt ≤ d) :
    ∃ r, nh_lS i x y = some r ∧ nhOk Γ g v (.long r) := by
  unfold nh_l at h
  split at h
  · rename_i q
    obtain ⟨rfl, rfl⟩ := q
    rw [← nh_eqL h1 h2, ← nh_eqL h3 h4] at h
    split at h
    · rename_i r hr
      cases h
      exact ⟨r, hr, nh_c64_ok Γ g r⟩
    · cases h
  · split at h
    · rename_i q
      cases h
      obtain ⟨rfl, q⟩ := q
      refine ⟨x &&& y, rfl, ?_⟩
      have e : x &&& y = 0 := by
        rcases q with ⟨rfl, rfl⟩ | ⟨rfl, rfl⟩
        · rw [nh_eqL h1 h2]; exact Int64.zero_and
        · rw [nh_eqL h3 h4]; exact Int64.and_zero
      rw [e]
      exact ⟨0, rfl, by decide, by decide⟩
    · split at h
      · rename_i q
        cases h
        cases hr : nh_lS i x y with
        | some r => exact ⟨r, rfl, nh_fL_ok Γ g r⟩
        | none =>
          unfold nh_lS at q hr
          split at hr
          all_goals first | (cases hr) | skip
          simp at q
      · cases h
/-- shifts of longs -/
def nh_hS (i : Instr) (x : Int64) (y : Int32) : Option Int64 := match i with
  | .lshl => some (x <<< (y.toInt64 &&& 63))
  | .lshr => some (x >>> (y.toInt64 &&& 63))
  | .lushr => some ((x.toUInt64 >>> (y.toInt64.toUInt64 &&& Int64.toUInt64 63)).toInt64)
  | _ => none
def nh_h (i : Instr) (a b c d : Int) : Option nhV :=
  if a = b ∧ c = d then (match nh_hS i (Int64.ofInt a) (Int32.ofInt c) with | some r => some (nh_c64 r) | none => none)
  else if i = .lushr ∧ a = 0 ∧ b = 0 then some (1, 0, 0)
  else if (nh_hS i 0 0).isSome then some nh_fL else none
theorem nh_h_ok {Γ : Nat → Int} {g : Nat → Int32} {i : Instr} {a b c d : Int} {v : nhV} {x : Int64} {y : Int32} (h : nh_h i a b c d = some v) (h1 : a ≤ x.toInt) (h2 : x.toInt ≤ b) (h3 : c ≤ y.toInt) (h4 : y.toInt ≤ d) :
    ∃ r, nh_hS i x y = some r ∧ nhOk Γ g v (.long r) := by
  unfold nh_h at h
  split at h
  · rename_i q
    obtain ⟨rfl, rfl⟩ := q
    rw [← nh_eqL h1 h2, ← nh_eqI h3 h4] at h
    split at h
    · rename_i r hr
      cases h
      exact ⟨r, hr, nh_c64_ok Γ g r⟩
    · cases h
  · split at h
    · rename_i q
      cases h
      obtain ⟨rfl, rfl, rfl⟩ := q
      refine ⟨_, rfl, ?_⟩
      have e : x = 0 := nh_eqL h1 h2
      rw [e]
      have e2 : (((0 : Int64).toUInt64 >>> (y.toInt64.toUInt64 &&& Int64.toUInt64 63)).toInt64) = 0 := by
        have : (0 : Int64).toUInt64 = 0 := rfl
        rw [this, UInt64.zero_shiftRight]
        rfl
      rw [e2]
      exact ⟨0, rfl, by decide, by decide⟩
    · split at h
      · rename_i q
        cases h
        cases hr : nh_hS i x y with
        | some r => exact ⟨r, rfl, nh_fL_ok Γ g r⟩
        | none =>
          unfold nh_hS at q hr
          split at hr
          all_goals first | (cases hr) | skip
          simp at q
      · cases h
def nh_cmpV (a b c d : Int) : nhV := if b < c then (0, -1, -1) else if d < a then (0, 1, 1) else if a = b ∧ c = d ∧ a = c then (0, 0, 0) else (0, -1, 1)
theorem nh_cmp_ok {Γ : Nat → Int} {g : Nat → Int32} {a b c d : Int} {x y : Int64} (h1 : a ≤ x.toInt) (h2 : x.toInt ≤ b) (h3 : c ≤ y.toInt) (h4 : y.toInt ≤ d) : nhOk Γ g (nh_cmpV a b c d) (.int (lg_cmp x y)) := by
  unfold nh_cmpV lg_cmp
  have e1 : (x > y) ↔ y.toInt < x.toInt := by rw [gt_iff_lt, Int64.lt_iff_toInt_lt]
  have e2 : x = y ↔ x.toInt = y.toInt := by rw [Int64.toInt_inj]
  simp only [e1, e2]
  split
  · rw [if_neg (by omega), if_neg (by omega)]
    exact ⟨-1, rfl, by decide, by decide⟩
  · split
    · rw [if_pos (by omega)]
      exact ⟨1, rfl, by decide, by decide⟩
    · split
      · rename_i q
        rw [if_neg (by omega), if_pos (by omega)]
        exact ⟨0, rfl, by decide, by decide⟩
      · split
        · exact ⟨1, rfl, by decide, by decide⟩
        · split
          · exact ⟨0, rfl, by decide, by decide⟩
          · exact ⟨-1, rfl, by decide, by decide⟩
def nh_op2 (i : Instr) (x y : nhV) : Option nhV := match nh_iv x with
  | some q => match nh_iv y with
    | some r => nh_b i q.1 q.2 r.1 r.2
    | none => none
  | none => match nh_lv x with
    | some q => match nh_lv y with
      | some r => nh_l i q.1 q.2 r.1 r.2
      | none => match nh_iv y with
        | some r => nh_h i q.1 q.2 r.1 r.2
        | none => none
    | none => none
/-- what an operation makes of the stack's top: how many it takes, what it leaves -/
def nh_op (i : Instr) (len : Nat) (st : List nhV) : Option (Nat × nhV) :=
  match i with
  | .iconst n => if len = 1 then some (0, nh_c32 (Int32.ofInt n)) else none
  | .bipush n => if len = 2 then some (0, nh_c32 (Int8.ofInt n).toInt32) else none
  | .sipush n => if len = 3 then some (0, nh_c32 (Int16.ofInt n).toInt32) else none
  | .lconst n => if len = 1 then some (0, nh_c64 (Int64.ofNat (n : Nat))) else none
  | .ineg => match st with
    | x :: _ => match nh_iv x with
      | some (a, b) => if len = 1 then (if -2147483648 < a then some (1, (0, -b, -a)) else some (1, nh_fl)) else none
      | none => none
    | _ => none
  | .i2b => match st with
    | x :: _ => if len = 1 ∧ (nh_iv x).isSome then some (1, (0, -128, 127)) else none
    | _ => none
  | .i2c => match st with
    | x :: _ => match nh_iv x with
      | some (a, b) => if len = 1 then (if 0 ≤ a ∧ b ≤ 65535 then some (1, (0, a, b)) else some (1, (0, 0, 65535))) else none
      | none => none
    | _ => none
  | .i2l => match st with
    | x :: _ => match nh_iv x with
      | some (a, b) => if len = 1 then some (1, (1, a, b)) else none
      | none => none
    | _ => none
  | .l2i => match st with
    | x :: _ => match nh_lv x with
      | some (a, b) => if len = 1 then (if -2147483648 ≤ a ∧ b ≤ 2147483647 then some (1, (0, a, b)) else some (1, nh_fl)) else none
      | none => none
    | _ => none
  | .lcmp => match st with
    | y :: x :: _ => match nh_lv x, nh_lv y with
      | some (a, b), some (c, d) => if len = 1 then some (2, nh_cmpV a b c d) else none
      | _, _ => none
    | _ => none
  | i => match st with
    | y :: x :: _ => if len = 1 then (nh_op2 i x y).map (fun v => (2, v)) else none
    | _ => none
end
section
section NH7
variable {p : Program} {l : Launch} {e : Env} {R : Room} {s : State} {m : MethodId} {args : Array Value} {below : List Frame} {meth : Method} {c : Code} {H : Heap} {locs : List Loc} {cells slots : Nat} {Q : State → Prop}
variable {cc : ByteArray} {pc : Nat} {ls : Array Slot} {rest : List Value}
theorem nh_bW (hx : p.tables.exec = Jvm.exec) (hb : c.code = cc) {i : Instr} {x y r : Int32} (h : nh_bS i x y = some r) (hd : decode cc pc = .ok (i, 1))
    (k : W p l e R s m args below meth c H locs cells slots Q (F0 m (pc + 1) ls (.int r :: rest))) : W p l e R s m args below meth c H locs cells slots Q (F0 m pc ls (.int y :: .int x :: rest)) := by
  unfold nh_bS at h
  split at h
  · cases h; exact lv_iadd hx hb hd k
  · cases h; exact lv_isub hx hb hd k
  · cases h; exact lv_imul hx hb hd k
  · cases h; exact lv_iand hx hb hd k
  · cases h; exact lv_ior hx hb hd k
  · cases h; exact lv_ixor hx hb hd k
  · cases h; exact lv_ishl hx hb hd k
  · cases h; exact lv_ishr hx hb hd k
  · cases h; exact lv_iushr hx hb hd rfl k
  · split at h
    · cases h
    · rename_i hne; cases h; exact lv_idiv hx hb hd hne k
  · split at h
    · cases h
    · rename_i hne; cases h; exact lv_irem hx hb hd hne k
  · cases h
theorem nh_lW (hx : p.tables.exec = Jvm.exec) (hb : c.code = cc) {i : Instr} {x y r : Int64} (h : nh_lS i x y = some r) (hd : decode cc pc = .ok (i, 1))
    (k : W p l e R s m args below meth c H locs cells slots Q (F0 m (pc + 1) ls (.long r :: rest))) : W p l e R s m args below meth c H locs cells slots Q (F0 m pc ls (.long y :: .long x :: rest)) := by
  unfold nh_lS at h
  split at h
  · cases h; exact lv_ladd hx hb hd k
  · cases h; exact lv_lsub hx hb hd k
  · cases h; exact lv_lmul hx hb hd k
  · cases h; exact lv_land hx hb hd k
  · cases h; exact lv_lor hx hb hd k
  · cases h; exact lv_lxor hx hb hd k
  · cases h
theorem nh_hW (hx : p.tables.exec = Jvm.exec) (hb : c.code = cc) {i : Instr} {x r : Int64} {y : Int32} (h : nh_hS i x y = some r) (hd : decode cc pc = .ok (i, 1))
    (k : W p l e R s m args below meth c H locs cells slots Q (F0 m (pc + 1) ls (.long r :: rest))) : W p l e R s m args below meth c H locs cells slots Q (F0 m pc ls (.int y :: .long x :: rest)) := by
  unfold nh_hS at h
  split at h
  · cases h; exact lv_lshl hx hb hd rfl k
  · cases h; exact lv_lshr hx hb hd rfl k
  · cases h; exact lv_lushr hx hb hd rfl k
  · cases h
theorem nh_op2_ok {Γ : Nat → Int} {g : Nat → Int32} (hx : p.tables.exec = Jvm.exec) (hb : c.code = cc) {i : Instr} {u w v : nhV} (h : nh_op2 i u w = some v) (hd : decode cc pc = .ok (i, 1)) {x y : Value} (hu : nhOk Γ g u x) (hw : nhOk Γ g w y) :
    ∃ r, nhOk Γ g v r ∧ (W p l e R s m args below meth c H locs cells slots Q (F0 m (pc + 1) ls (r :: rest)) → W p l e R s m args below meth c H locs cells slots Q (F0 m pc ls (y :: x :: rest))) := by
  unfold nh_op2 at h
  cases e1 : nh_iv u with
  | some q =>
    rw [e1] at h
    obtain ⟨a, rfl, q1, q2⟩ := nh_iv_ok e1 hu
    cases e2 : nh_iv w with
    | some q' =>
      rw [e2] at h
      obtain ⟨b, rfl, q3, q4⟩ := nh_iv_ok e2 hw
      obtain ⟨r, hr1, hr2⟩ := nh_b_ok (Γ := Γ) (g := g) h q1 q2 q3 q4
      exact ⟨_, hr2, fun k => nh_bW hx hb hr1 hd k⟩
    | none => rw [e2] at h; cases h
  | none =>
    rw [e1] at h
    cases e2 : nh_lv u with
    | none => rw [e2] at h; cases h
    | some q =>
      rw [e2] at h
      obtain ⟨a, rfl, q1, q2⟩ := nh_lv_ok e2 hu
      cases e3 : nh_lv w with
      | some q' =>
        rw [e3] at h
        obtain ⟨b, rfl, q3, q4⟩ := nh_lv_ok e3 hw
        obtain ⟨r, hr1, hr2⟩ := nh_l_ok (Γ := Γ) (g := g) h q1 q2 q3 q4
        exact ⟨_, hr2, fun k => nh_lW hx hb hr1 hd k⟩
      | none =>
        rw [e3] at h
        cases e4 : nh_iv w with
        | none => rw [e4] at h; cases h
        | some q' =>
          rw [e4] at h
          obtain ⟨b, rfl, q3, q4⟩ := nh_iv_ok e4 hw
          obtain ⟨r, hr1, hr2⟩ := nh_h_ok (Γ := Γ) (g := g) h q1 q2 q3 q4
          exact ⟨_, hr2, fun k => nh_hW hx hb hr1 hd k⟩
/-- the values on the stack are as their abstract values say -/
def nhVs (Γ : Nat → Int) (g : Nat → Int32) : List nhV → List Value → Prop
  | [], _ => True
  | v :: vs, x :: xs => nhOk Γ g v x ∧ nhVs Γ g vs xs
  | _ :: _, [] => False
theorem nh_i2b_rng (x : Int32) : -128 ≤ (x.toInt8.toInt32).toInt ∧ (x.toInt8.toInt32).toInt ≤ 127 := by
  rw [Int8.toInt_toInt32]
  have h1 := Int8.le_toInt x.toInt8
  have h2 := Int8.toInt_lt x.toInt8
  omega
theorem nh_i2c_rng (x : Int32) : 0 ≤ ((x.toUInt32 % 65536).toInt32).toInt ∧ ((x.toUInt32 % 65536).toInt32).toInt ≤ 65535 := by
  rw [pk_char x]
  have h : x.toBitVec.toNat % 65536 < 65536 := Nat.mod_lt _ (by omega)
  rw [nI_toInt (by omega)]
  omega
theorem nh_i2c_id {x : Int32} (h1 : 0 ≤ x.toInt) (h2 : x.toInt ≤ 65535) : (x.toUInt32 % 65536).toInt32 = x := by
  obtain ⟨j, hj, ex, ej⟩ := nh_nI h1
  rw [pk_char x, ex, pk_tn (by omega), Nat.mod_eq_of_lt (by omega)]
/-- THE PURE OPERATIONS -/
theorem nh_op_ok {Γ : Nat → Int} {g : Nat → Int32} (hx : p.tables.exec = Jvm.exec) (hb : c.code = cc) {i : Instr} {len n : Nat} {vs : List nhV} {v : nhV} (h : nh_op i len vs = some (n, v)) (hd : decode cc pc = .ok (i, len)) {xs : List Value} (hv : nhVs Γ g vs xs) :
    n ≤ vs.length ∧ ∃ r, nhOk Γ g v r ∧ (W p l e R s m args below meth c H locs cells slots Q (F0 m (pc + len) ls (r :: xs.drop n)) → W p l e R s m args below meth c H locs cells slots Q (F0 m pc ls xs)) := by
  unfold nh_op at h
  split at h
  · split at h
    · rename_i q
      cases h; subst q
      exact ⟨Nat.zero_le _, _, nh_c32_ok Γ g _, fun k => lv_iconst hx hb hd rfl k⟩
    · cases h
  · split at h
    · rename_i q
      cases h; subst q
      exact ⟨Nat.zero_le _, _, nh_c32_ok Γ g _, fun k => lv_bipush hx hb hd rfl k⟩
    · cases h
  · split at h
    · rename_i q
      cases h; subst q
      exact ⟨Nat.zero_le _, _, nh_c32_ok Γ g _, fun k => lv_sipush hx hb hd rfl k⟩
    · cases h
  · split at h
    · rename_i q
      cases h; subst q
      exact ⟨Nat.zero_le _, _, nh_c64_ok Γ g _, fun k => lv_lconst hx hb hd rfl k⟩
    · cases h
  · split at h
    · rename_i x vs
      cases xs with
      | nil => exact hv.elim
      | cons y ys =>
        split at h
        · rename_i a b ha
          obtain ⟨z, rfl, q1, q2⟩ := nh_iv_ok ha hv.1
          dsimp only at q1 q2
          split at h
          · rename_i q
            subst q
            split at h
            · rename_i q3
              cases h
              refine ⟨by simp, .int (-z), ⟨-z, rfl, ?_, ?_⟩, fun k => lv_ineg hx hb hd k⟩
              · dsimp only; rw [fb_negI (by omega)]; omega
              · dsimp only; rw [fb_negI (by omega)]; omega
            · cases h
              exact ⟨by simp, .int (-z), nh_fl_ok Γ g _, fun k => lv_ineg hx hb hd k⟩
          · cases h
        · cases h
    · cases h
  · split at h
    · rename_i x vs
      cases xs with
      | nil => exact hv.elim
      | cons y ys =>
        split at h
        · rename_i q
          cases h
          obtain ⟨rfl, q⟩ := q
          obtain ⟨⟨a, b⟩, ha⟩ := Option.isSome_iff_exists.mp q
          obtain ⟨z, rfl, q1, q2⟩ := nh_iv_ok ha hv.1
          have hr := nh_i2b_rng z
          exact ⟨by simp, .int (z.toInt8.toInt32), ⟨_, rfl, hr.1, hr.2⟩, fun k => lv_i2b hx hb hd rfl k⟩
        · cases h
    · cases h
  · split at h
    · rename_i x vs
      cases xs with
      | nil => exact hv.elim
      | cons y ys =>
        split at h
        · rename_i a b ha
          obtain ⟨z, rfl, q1, q2⟩ := nh_iv_ok ha hv.1
          dsimp only at q1 q2
          split at h
          · rename_i q
            subst q
            split at h
            · rename_i q3
              cases h
              refine ⟨by simp, .int z, ⟨z, rfl, q1, q2⟩, fun k => lv_i2c hx hb hd (nh_i2c_id (by omega) (by omega)) k⟩
            · cases h
              have hr := nh_i2c_rng z
              exact ⟨by simp, .int _, ⟨_, rfl, hr.1, hr.2⟩, fun k => lv_i2c hx hb hd rfl k⟩
          · cases h
        · cases h
    · cases h
  · split at h
    · rename_i x vs
      cases xs with
      | nil => exact hv.elim
      | cons y ys =>
        split at h
        · rename_i a b ha
          obtain ⟨z, rfl, q1, q2⟩ := nh_iv_ok ha hv.1
          dsimp only at q1 q2
          split at h
          · rename_i q
            subst q
            cases h
            refine ⟨by simp, .long z.toInt64, ⟨_, rfl, ?_, ?_⟩, fun k => lv_i2l hx hb hd rfl k⟩
            · rw [Int32.toInt_toInt64]; exact q1
            · rw [Int32.toInt_toInt64]; exact q2
          · cases h
        · cases h
    · cases h
  · split at h
    · rename_i x vs
      cases xs with
      | nil => exact hv.elim
      | cons y ys =>
        split at h
        · rename_i a b ha
          obtain ⟨z, rfl, q1, q2⟩ := nh_lv_ok ha hv.1
          dsimp only at q1 q2
          split at h
          · rename_i q
            subst q
            split at h
            · rename_i q3
              cases h
              have e1 : (z.toInt32).toInt = z.toInt := by
                rw [Int64.toInt_toInt32, fb_bmod (by omega) (by omega)]
              exact ⟨by simp, .int z.toInt32, ⟨_, rfl, by dsimp only; omega, by dsimp only; omega⟩, fun k => lv_l2i hx hb hd rfl k⟩
            · cases h
              exact ⟨by simp, .int z.toInt32, nh_fl_ok Γ g _, fun k => lv_l2i hx hb hd rfl k⟩
          · cases h
        · cases h
    · cases h
  · split at h
    · rename_i y x vs
      match xs, hv with
      | [], hv => exact hv.elim
      | [_], hv => exact hv.2.elim
      | y1 :: x1 :: ys, hv =>
        split at h
        · rename_i a b c' d ha hc
          obtain ⟨z, rfl, q1, q2⟩ := nh_lv_ok ha hv.2.1
          obtain ⟨w, rfl, q3, q4⟩ := nh_lv_ok hc hv.1
          split at h
          · rename_i q
            subst q
            cases h
            exact ⟨by simp, _, nh_cmp_ok q1 q2 q3 q4, fun k => W.lcmp hx hb hd k⟩
          · cases h
        · cases h
    · cases h
  · split at h
    · rename_i y x vs
      match xs, hv with
      | [], hv => exact hv.elim
      | [_], hv => exact hv.2.elim
      | y1 :: x1 :: ys, hv =>
        split at h
        · rename_i q
          subst q
          obtain ⟨v', hv', e'⟩ := Option.map_eq_some_iff.mp h
          cases e'
          obtain ⟨r, hr, hw⟩ := nh_op2_ok (H := H) (locs := locs) (cells := cells) (slots := slots) (Q := Q) (p := p) (l := l) (e := e) (R := R) (s := s) (m := m) (args := args) (below := below) (meth := meth) (pc := pc) (ls := ls) (rest := ys) hx hb hv' hd hv.2.1 hv.1
          exact ⟨by simp, r, hr, hw⟩
        · cases h
    · cases h
end NH7
end
section
def nhGo (p : Program) (l : Launch) (e : Env) (R : Room) (s : State) (m : MethodId) (args : Array Value) (below : List Frame) (meth : Method) (c : Code) (Q : State → Prop) (E : nhE) (nL : Nat) (pu : Bool) (pc : Nat) (S : nhS) (ρ0 : List Value) : Prop :=
  ∀ (ρ : List Value) (H : Heap) (locs : List Loc) (ls : Array Slot) (st : List Value), nhX ρ0 ρ → nhR E nL pu s.heap S ρ H locs ls st → W p l e R s m args below meth c H locs 0 0 Q (F0 m pc ls st)
def nh_top (vs : List nhV) (is : List Nat) : List nhV := match is with
  | y :: r => match vs[y]? with
    | some a => match r with
      | x :: _ => match vs[x]? with
        | some b => [a, b]
        | none => [a]
      | [] => [a]
    | none => []
  | [] => []
theorem nh_top_ok {Γ : Nat → Int} {g : Nat → Int32} {vs : List nhV} {ρ : List Value} {is : List Nat} {st : List Value} (h : nhAll Γ g vs ρ) (hs : nhSt ρ is st) : nhVs Γ g (nh_top vs is) st := by
  unfold nh_top
  cases is with
  | nil => trivial
  | cons y r =>
    obtain ⟨x, xs, rfl, h1, h2⟩ := hs.inv1
    dsimp only
    cases e1 : vs[y]? with
    | none => trivial
    | some a =>
      obtain ⟨x', q1, q2⟩ := h.2 y a e1
      rw [h1] at q1
      cases q1
      cases r with
      | nil => exact ⟨q2, trivial⟩
      | cons z r =>
        obtain ⟨w, ws, rfl, h3, h4⟩ := h2.inv1
        dsimp only
        cases e2 : vs[z]? with
        | none => exact ⟨q2, trivial⟩
        | some b =>
          obtain ⟨x', q3, q4⟩ := h.2 z b e2
          rw [h3] at q3
          cases q3
          exact ⟨q2, q4, trivial⟩
theorem nhSt.drop {ρ : List Value} : ∀ (n : Nat) {is : List Nat} {st : List Value}, nhSt ρ is st → nhSt ρ (is.drop n) (st.drop n)
  | 0, _, _, h => h
  | n + 1, [], [], h => by simpa using h
  | n + 1, _ :: _, _ :: _, h => nhSt.drop n h.2
  | n + 1, [], _ :: _, h => h.elim
  | n + 1, _ :: _, [], h => h.elim
/-- differences that an operation's answer n has to what it took -/
def nh_d0 (i : Instr) (x y n : Nat) (a b c d : Int) : List nhDf := match i with
  | .iadd => if -2147483648 ≤ a + c ∧ b + d ≤ 2147483647 then (if c = d then [(n, x, c), (x, n, -c)] else []) ++ (if a = b then [(n, y, a), (y, n, -a)] else []) else []
  | .isub => if -2147483648 ≤ a - d ∧ b - c ≤ 2147483647 then (if c = d then [(n, x, -c), (x, n, c)] else []) else []
  | .iand => (if 0 ≤ c then [(n, y, 0)] else []) ++ (if 0 ≤ a then [(n, x, 0)] else [])
  | .irem => if 1 ≤ c then [(n, y, -1)] else []
  | _ => []
def nh_tc (l di : List nhDf) : List nhDf := l ++ l.flatMap (fun q => di.filterMap (fun r => if r.1 == q.2.1 then some (q.1, r.2.1, q.2.2 + r.2.2) else none))
theorem nh_tc_ok {ρ : List Value} {l di : List nhDf} (h1 : nhDi ρ l) (h2 : nhDi ρ di) : nhDi ρ (nh_tc l di) := by
  intro q hq
  rcases List.mem_append.mp hq with h | h
  · exact h1 q h
  · obtain ⟨r, hr, h⟩ := List.mem_flatMap.mp h
    obtain ⟨t, ht, h⟩ := List.mem_filterMap.mp h
    split at h
    · rename_i e
      cases h
      obtain ⟨a, b, a1, a2, a3⟩ := h1 r hr
      obtain ⟨b', d, b1, b2, b3⟩ := h2 t ht
      have e' : t.1 = r.2.1 := by simpa using e
      rw [e', a2] at b1
      cases b1
      exact ⟨a, d, a1, b2, by dsimp only; omega⟩
    · cases h
theorem nh_d0_ok {ρ : List Value} {i : Instr} {x y n : Nat} {a b c d : Int} {u w r : Int32} (hr : nh_bS i u w = some r) (hx : ρ[x]? = some (.int u)) (hy : ρ[y]? = some (.int w)) (hn : ρ[n]? = some (.int r)) (h1 : a ≤ u.toInt) (h2 : u.toInt ≤ b) (h3 : c ≤ w.toInt) (h4 : w.toInt ≤ d) : nhDi ρ (nh_d0 i x y n a b c d) := by
  have ru := fb_rng u
  have rw' := fb_rng w
  intro q hq
  unfold nh_d0 at hq
  split at hq
  · cases hr
    split at hq
    · have e := fb_addI (x := u) (y := w) (by omega) (by omega)
      rcases List.mem_append.mp hq with hq | hq
      · split at hq
        · simp only [List.mem_cons, List.not_mem_nil, or_false] at hq
          rcases hq with rfl | rfl
          · exact ⟨_, _, hn, hx, by dsimp only; omega⟩
          · exact ⟨_, _, hx, hn, by dsimp only; omega⟩
        · cases hq
      · split at hq
        · simp only [List.mem_cons, List.not_mem_nil, or_false] at hq
          rcases hq with rfl | rfl
          · exact ⟨_, _, hn, hy, by dsimp only; omega⟩
          · exact ⟨_, _, hy, hn, by dsimp only; omega⟩
        · cases hq
    · cases hq
  · cases hr
    split at hq
    · have e := fb_subI (x := u) (y := w) (by omega) (by omega)
      split at hq
      · simp only [List.mem_cons, List.not_mem_nil, or_false] at hq
        rcases hq with rfl | rfl
        · exact ⟨_, _, hn, hx, by dsimp only; omega⟩
        · exact ⟨_, _, hx, hn, by dsimp only; omega⟩
      · cases hq
    · cases hq
  · cases hr
    rcases List.mem_append.mp hq with hq | hq
    · split at hq
      · simp only [List.mem_cons, List.not_mem_nil, or_false] at hq
        subst hq
        have e := nh_andR u (y := w) (by omega)
        exact ⟨_, _, hn, hy, by dsimp only; omega⟩
      · cases hq
    · split at hq
      · simp only [List.mem_cons, List.not_mem_nil, or_false] at hq
        subst hq
        have e := nh_andL (x := u) w (by omega)
        exact ⟨_, _, hn, hx, by dsimp only; omega⟩
      · cases hq
  · split at hq
    · simp only [List.mem_cons, List.not_mem_nil, or_false] at hq
      subst hq
      have hb := tmod_bounds (a := u.toInt) (M := w.toInt) (by omega)
      have e := rem_toInt u w
      simp only [nh_bS] at hr
      split at hr
      · cases hr
      · cases hr
        exact ⟨_, _, hn, hy, by dsimp only; omega⟩
    · cases hq
  · cases hq
def nh_isD (i : Instr) : Bool := match i with
  | .iadd => true
  | .isub => true
  | .iand => true
  | .irem => true
  | _ => false
/-- a pure operation's new state -/
def nh_sOp (S : nhS) (i : Instr) (len : Nat) : Option nhS :=
  if nh_isD i = true then match S.2.2.1 with
    | y :: x :: rest => match S.1[x]?, S.1[y]? with
      | some u, some w => match nh_iv u, nh_iv w with
        | some q, some r => if len = 1 then (match nh_b i q.1 q.2 r.1 r.2 with
          | some v => some (S.1 ++ [v], S.2.1, S.1.length :: rest, S.2.2.2.1, nh_tc (nh_d0 i x y S.1.length q.1 q.2 r.1 r.2) S.2.2.2.2.1 ++ S.2.2.2.2.1, S.2.2.2.2.2)
          | none => none) else none
        | _, _ => none
      | _, _ => none
    | _ => none
  else match nh_op i len (nh_top S.1 S.2.2.1) with
    | some (n, v) => some (nh_push S (S.2.2.1.drop n) v)
    | none => none
section NH8
variable {p : Program} {l : Launch} {e : Env} {R : Room} {s : State} {m : MethodId} {args : Array Value} {below : List Frame} {meth : Method} {c : Code} {Q : State → Prop}
variable {cc : ByteArray} {E : nhE} {nL : Nat} {pu : Bool} {pc : Nat} {S : nhS} {ρ0 : List Value}
theorem nh_sOp_ok (hx : p.tables.exec = Jvm.exec) (hb : c.code = cc) {i : Instr} {len : Nat} (hd : decode cc pc = .ok (i, len)) {S' : nhS} (h : nh_sOp S i len = some S')
    (k : nhGo p l e R s m args below meth c Q E nL pu (pc + len) S' ρ0) : nhGo p l e R s m args below meth c Q E nL pu pc S ρ0 := by
  intro ρ H locs ls st hρ hR
  unfold nh_sOp at h
  split at h
  · split at h
    · rename_i y x rest hst
      split at h
      · rename_i u w hu hw
        split at h
        · rename_i q r hq hr
          split at h
          · rename_i hl
            subst hl
            split at h
            · rename_i v hv
              cases h
              have hs := hR.2.2.1
              rw [hst] at hs
              obtain ⟨vy, st1, rfl, hy, hs1⟩ := hs.inv1
              obtain ⟨vx, st2, rfl, hx1, hs2⟩ := hs1.inv1
              obtain ⟨x', g1, g2⟩ := hR.1.2 x u hu
              rw [hx1] at g1; cases g1
              obtain ⟨y', g3, g4⟩ := hR.1.2 y w hw
              rw [hy] at g3; cases g3
              obtain ⟨a, rfl, a1, a2⟩ := nh_iv_ok hq g2
              obtain ⟨b, rfl, b1, b2⟩ := nh_iv_ok hr g4
              obtain ⟨z, hz1, hz2⟩ := nh_b_ok (Γ := E.2.2.1) (g := E.2.2.2) hv a1 a2 b1 b2
              refine nh_bW hx hb hz1 hd (k (ρ ++ [.int z]) H locs ls _ (hρ.tr (nhX.push ρ _)) ?_)
              have h1 := nh_push_ok (v := v) hR hs2 hz2
              have hX := nhX.push ρ (.int z)
              have hn : (ρ ++ [Value.int z])[S.1.length]? = some (.int z) := by rw [← hR.1.1]; exact nhX.last ρ _
              exact nh_dif_ok h1 (nh_tc_ok (nh_d0_ok hz1 (hX _ _ hx1) (hX _ _ hy) hn a1 a2 b1 b2) (hR.2.2.2.2.1.mono hX))
            · cases h
          · cases h
        · cases h
      · cases h
    · cases h
  · split at h
    · rename_i n v hv
      cases h
      obtain ⟨h1, r, h2, h3⟩ := nh_op_ok (H := H) (locs := locs) (cells := 0) (slots := 0) (Q := Q) (p := p) (l := l) (e := e) (R := R) (s := s) (m := m) (args := args) (below := below) (meth := meth) (pc := pc) (ls := ls) hx hb hv hd (nh_top_ok hR.1 hR.2.2.1)
      exact h3 (k (ρ ++ [r]) H locs ls _ (hρ.tr (nhX.push ρ _)) (nh_push_ok hR (hR.2.2.1.drop n) h2))
    · cases h
/-- loads -/
def nh_ldI (i : Instr) (len : Nat) : Option (Nat × Nat) := match i with
  | .iload n => if len = 2 then some (n, 0) else none
  | .iload_n n => if len = 1 then some (n, 0) else none
  | .lload n => if len = 2 then some (n, 1) else none
  | .lload_n n => if len = 1 then some (n, 1) else none
  | .aload n => if len = 2 then some (n, 2) else none
  | .aload_n n => if len = 1 then some (n, 2) else none
  | _ => none
def nh_cat (v : nhV) : Nat := match v.1 with
  | 0 => 0
  | 4 => 0
  | 1 => 1
  | 2 => 2
  | 3 => 2
  | _ => 9
theorem nh_cat_ok {Γ : Nat → Int} {g : Nat → Int32} {v : nhV} {x : Value} (h : nhOk Γ g v x) : (nh_cat v = 0 → ∃ a : Int32, x = .int a) ∧ (nh_cat v = 1 → ∃ a : Int64, x = .long a) ∧ (nh_cat v = 2 → x = .null ∨ ∃ a : Nat, x = .ref a) := by
  obtain ⟨t, a, b⟩ := v
  unfold nh_cat
  unfold nhOk at h
  dsimp only at h ⊢
  split
  · obtain ⟨z, e, -⟩ := h
    exact ⟨fun _ => ⟨z, e⟩, fun q => absurd q (by decide), fun q => absurd q (by decide)⟩
  · exact ⟨fun _ => ⟨_, h⟩, fun q => absurd q (by decide), fun q => absurd q (by decide)⟩
  · obtain ⟨z, e, -⟩ := h
    exact ⟨fun q => absurd q (by decide), fun _ => ⟨z, e⟩, fun q => absurd q (by decide)⟩
  · obtain ⟨z, e, -⟩ := h
    exact ⟨fun q => absurd q (by decide), fun q => absurd q (by decide), fun _ => Or.inr ⟨z, e⟩⟩
  · refine ⟨fun q => absurd q (by decide), fun q => absurd q (by decide), fun _ => ?_⟩
    rcases h with h | ⟨z, e, -⟩
    · exact Or.inl h
    · exact Or.inr ⟨z, e⟩
  · exact ⟨fun q => absurd q (by decide), fun q => absurd q (by decide), fun q => absurd q (by decide)⟩
theorem nh_ldW {H : Heap} {locs : List Loc} {ls : Array Slot} {rest : List Value} {cells slots : Nat} (hx : p.tables.exec = Jvm.exec) (hb : c.code = cc) {i : Instr} {len n t : Nat} (h : nh_ldI i len = some (n, t)) (hd : decode cc pc = .ok (i, len)) {x : Value} (hl : ls[n]? = some (.val x))
    (h0 : t = 0 → ∃ a : Int32, x = .int a) (h1 : t = 1 → ∃ a : Int64, x = .long a) (h2 : t = 2 → x = .null ∨ ∃ a : Nat, x = .ref a)
    (k : W p l e R s m args below meth c H locs cells slots Q (F0 m (pc + len) ls (x :: rest))) : W p l e R s m args below meth c H locs cells slots Q (F0 m pc ls rest) := by
  unfold nh_ldI at h
  split at h
  · split at h
    · rename_i q; cases h; subst q
      obtain ⟨a, rfl⟩ := h0 rfl
      exact lv_iload hx hb hd hl k
    · cases h
  · split at h
    · rename_i q; cases h; subst q
      obtain ⟨a, rfl⟩ := h0 rfl
      exact lv_iload_n hx hb hd rfl hl k
    · cases h
  · split at h
    · rename_i q; cases h; subst q
      obtain ⟨a, rfl⟩ := h1 rfl
      exact lv_lload hx hb hd hl k
    · cases h
  · split at h
    · rename_i q; cases h; subst q
      obtain ⟨a, rfl⟩ := h1 rfl
      exact lv_lload_n hx hb hd rfl hl k
    · cases h
  · split at h
    · rename_i q; cases h; subst q
      rcases h2 rfl with rfl | ⟨a, rfl⟩
      · exact lv_aloadN hx hb hd hl k
      · exact lv_aload hx hb hd hl k
    · cases h
  · split at h
    · rename_i q; cases h; subst q
      rcases h2 rfl with rfl | ⟨a, rfl⟩
      · exact lv_aload_nN hx hb hd rfl hl k
      · exact lv_aload_n hx hb hd rfl hl k
    · cases h
  · cases h
def nh_find (lo : List (Nat × Nat)) (n : Nat) : Option Nat := match lo with
  | [] => none
  | q :: r => if q.1 == n then some q.2 else nh_find r n
theorem nh_find_ok {lo : List (Nat × Nat)} {n i : Nat} (h : nh_find lo n = some i) : (n, i) ∈ lo := by
  induction lo with
  | nil => cases h
  | cons q r ih =>
    unfold nh_find at h
    split at h
    · rename_i e1
      cases h
      have : q.1 = n := by simpa using e1
      rw [← this]
      exact List.mem_cons_self
    · exact List.mem_cons_of_mem _ (ih h)
def nh_sLd (S : nhS) (i : Instr) (len : Nat) : Option nhS := match nh_ldI i len with
  | some (n, t) => match nh_find S.2.1 n with
    | some j => match S.1[j]? with
      | some v => if nh_cat v = t then some (S.1, S.2.1, j :: S.2.2.1, S.2.2.2) else none
      | none => none
    | none => none
  | none => none
theorem nh_sLd_ok (hx : p.tables.exec = Jvm.exec) (hb : c.code = cc) {i : Instr} {len : Nat} (hd : decode cc pc = .ok (i, len)) {S' : nhS} (h : nh_sLd S i len = some S')
    (k : nhGo p l e R s m args below meth c Q E nL pu (pc + len) S' ρ0) : nhGo p l e R s m args below meth c Q E nL pu pc S ρ0 := by
  intro ρ H locs ls st hρ hR
  unfold nh_sLd at h
  split at h
  · rename_i n t hi
    split at h
    · rename_i j hj
      split at h
      · rename_i v hv
        split at h
        · rename_i hc
          cases h
          obtain ⟨x, h1, h2⟩ := hR.2.1.2.2 _ (nh_find_ok hj)
          obtain ⟨x', g1, g2⟩ := hR.1.2 j v hv
          dsimp only at h1 h2
          rw [h1] at g1; cases g1
          have hcat := nh_cat_ok g2
          rw [hc] at hcat
          exact nh_ldW hx hb hi hd h2 hcat.1 hcat.2.1 hcat.2.2 (k ρ H locs ls _ hρ (nh_stack_ok (is := j :: S.2.2.1) hR ⟨h1, hR.2.2.1⟩))
        · cases h
      · cases h
    · cases h
  · cases h
end NH8
end
section
/-! stores, iinc, the stack's own moves -/
theorem nh_lvh {ρ : List Value} {lo : List (Nat × Nat)} {ls : Array Slot} {nL : Nat} (h1 : ls.size = nL) (h2 : lv_wf ls) (h3 : nhLo ρ lo ls) : lv_has ls nL (lo.filterMap (fun q => (ρ[q.2]?).map (fun x => (q.1, x)))) := by
  refine ⟨h1, h2, fun q hq => ?_⟩
  obtain ⟨r, hr, e⟩ := List.mem_filterMap.mp hq
  obtain ⟨x, g1, g2⟩ := h3 r hr
  rw [g1] at e
  cases e
  exact g2
/-- which locals stay when slot n is written (two slots: w) -/
def nh_keep (vs : List nhV) (n : Nat) (w : Bool) (q : Nat × Nat) : Bool := !(q.1 == n) && !(w && q.1 == n + 1) && (!(q.1 + 1 == n) || (match vs[q.2]? with
  | some v => nh_cat v == 0 || nh_cat v == 2
  | none => false))
def nh_w (t : Nat) : Nat := if t = 1 then 1 else 0
def nh_stI (i : Instr) (len : Nat) : Option (Nat × Nat) := match i with
  | .istore n => if len = 2 then some (n, 0) else none
  | .istore_n n => if len = 1 then some (n, 0) else none
  | .lstore n => if len = 2 then some (n, 1) else none
  | .lstore_n n => if len = 1 then some (n, 1) else none
  | .astore n => if len = 2 then some (n, 2) else none
  | .astore_n n => if len = 1 then some (n, 2) else none
  | _ => none
def nh_sSt (S : nhS) (nL : Nat) (i : Instr) (len : Nat) : Option nhS := match nh_stI i len with
  | some (n, t) => match S.2.2.1 with
    | j :: rest => match S.1[j]? with
      | some v => if nh_cat v = t ∧ n + nh_w t < nL then some (S.1, (n, j) :: S.2.1.filter (nh_keep S.1 n (t == 1)), rest, S.2.2.2) else none
      | none => none
    | _ => none
  | none => none
theorem nh_cat1 {Γ : Nat → Int} {g : Nat → Int32} {v : nhV} {x : Value} (h : nhOk Γ g v x) (hc : nh_cat v = 0 ∨ nh_cat v = 2) : x.category = 1 := by
  have h1 := nh_cat_ok h
  rcases hc with hc | hc
  · obtain ⟨a, rfl⟩ := h1.1 hc
    rfl
  · rcases h1.2.2 hc with rfl | ⟨a, rfl⟩ <;> rfl
section NH9
variable {p : Program} {l : Launch} {e : Env} {R : Room} {s : State} {m : MethodId} {args : Array Value} {below : List Frame} {meth : Method} {c : Code} {Q : State → Prop}
variable {cc : ByteArray} {E : nhE} {nL : Nat} {pu : Bool} {pc : Nat} {S : nhS} {ρ0 : List Value}
theorem nh_stW {H : Heap} {locs : List Loc} {ls : Array Slot} {rest : List Value} {cells slots : Nat} (hx : p.tables.exec = Jvm.exec) (hb : c.code = cc) {i : Instr} {len n t : Nat} (h : nh_stI i len = some (n, t)) (hd : decode cc pc = .ok (i, len)) {x : Value} {lv : List (Nat × Value)} (hl : lv_has ls nL lv) (hn : n + nh_w t < nL)
    (h0 : t = 0 → ∃ a : Int32, x = .int a) (h1 : t = 1 → ∃ a : Int64, x = .long a) (h2 : t = 2 → x = .null ∨ ∃ a : Nat, x = .ref a)
    (k : ∀ ls' : Array Slot, lv_has ls' nL ((n, x) :: lv.filter (fun q => !(q.1 == n) && (!(t == 1 && q.1 == n + 1) && !(q.1 + 1 == n && q.2.category == 2)))) → W p l e R s m args below meth c H locs cells slots Q (F0 m (pc + len) ls' rest)) : W p l e R s m args below meth c H locs cells slots Q (F0 m pc ls (x :: rest)) := by
  unfold nh_stI at h
  split at h
  · split at h
    · rename_i q; cases h; subst q
      obtain ⟨a, rfl⟩ := h0 rfl
      exact lv_istore hx hb hd hl (by simpa [nh_w] using hn) rfl (fun ls' h => k ls' (by simpa using h))
    · cases h
  · split at h
    · rename_i q; cases h; subst q
      obtain ⟨a, rfl⟩ := h0 rfl
      exact lv_istore_n hx hb hd rfl hl (by simpa [nh_w] using hn) rfl (fun ls' h => k ls' (by simpa using h))
    · cases h
  · split at h
    · rename_i q; cases h; subst q
      obtain ⟨a, rfl⟩ := h1 rfl
      exact lv_lstore hx hb hd hl (by simpa [nh_w] using hn) rfl (fun ls' h => k ls' (by simpa using h))
    · cases h
  · split at h
    · rename_i q; cases h; subst q
      obtain ⟨a, rfl⟩ := h1 rfl
      exact lv_lstore_n hx hb hd rfl hl (by simpa [nh_w] using hn) rfl (fun ls' h => k ls' (by simpa using h))
    · cases h
  · split at h
    · rename_i q; cases h; subst q
      rcases h2 rfl with rfl | ⟨a, rfl⟩
      · exact lv_astoreN hx hb hd hl (by simpa [nh_w] using hn) rfl (fun ls' h => k ls' (by simpa using h))
      · exact lv_astore hx hb hd hl (by simpa [nh_w] using hn) rfl (fun ls' h => k ls' (by simpa using h))
    · cases h
  · split at h
    · rename_i q; cases h; subst q
      rcases h2 rfl with rfl | ⟨a, rfl⟩
      · exact lv_astore_nN hx hb hd rfl hl (by simpa [nh_w] using hn) rfl (fun ls' h => k ls' (by simpa using h))
      · exact lv_astore_n hx hb hd rfl hl (by simpa [nh_w] using hn) rfl (fun ls' h => k ls' (by simpa using h))
    · cases h
  · cases h
/-- the locals behind a write -/
theorem nh_lo_put {Γ : Nat → Int} {g : Nat → Int32} {vs : List nhV} {ρ : List Value} {lo : List (Nat × Nat)} {ls' : Array Slot} {n j : Nat} {w : Bool} {x : Value} (hA : nhAll Γ g vs ρ) {lv : List (Nat × Value)} (hlv : lv = lo.filterMap (fun q => (ρ[q.2]?).map (fun x => (q.1, x)))) (hL : ∀ q ∈ lo, ∃ x, ρ[q.2]? = some x)
    (h : lv_has ls' nL ((n, x) :: lv.filter (fun q => !(q.1 == n) && (!(w && q.1 == n + 1) && !(q.1 + 1 == n && q.2.category == 2))))) (hj : ρ[j]? = some x) : ls'.size = nL ∧ lv_wf ls' ∧ nhLo ρ ((n, j) :: lo.filter (nh_keep vs n w)) ls' := by
  refine ⟨h.1, h.2.1, fun q hq => ?_⟩
  rcases List.mem_cons.mp hq with rfl | hq
  · exact ⟨x, hj, h.2.2 (n, x) List.mem_cons_self⟩
  · obtain ⟨h1, h2⟩ := List.mem_filter.mp hq
    obtain ⟨y, hy⟩ := hL q h1
    refine ⟨y, hy, h.2.2 (q.1, y) (List.mem_cons_of_mem _ (List.mem_filter.mpr ⟨?_, ?_⟩))⟩
    · rw [hlv]
      exact List.mem_filterMap.mpr ⟨q, h1, by rw [hy]; rfl⟩
    · unfold nh_keep at h2
      simp only [Bool.and_eq_true, Bool.or_eq_true, Bool.not_eq_true', beq_eq_false_iff_ne, ne_eq] at h2 ⊢
      refine ⟨h2.1.1, h2.1.2, ?_⟩
      rcases h2.2 with h3 | h3
      · simp [h3]
      · split at h3
        · rename_i v hv
          obtain ⟨y', g1, g2⟩ := hA.2 _ v hv
          rw [hy] at g1; cases g1
          have := nh_cat1 g2 (by simpa using h3)
          simp [this]
        · cases h3
theorem nh_sSt_ok (hx : p.tables.exec = Jvm.exec) (hb : c.code = cc) {i : Instr} {len : Nat} (hd : decode cc pc = .ok (i, len)) {S' : nhS} (h : nh_sSt S nL i len = some S')
    (k : nhGo p l e R s m args below meth c Q E nL pu (pc + len) S' ρ0) : nhGo p l e R s m args below meth c Q E nL pu pc S ρ0 := by
  intro ρ H locs ls st hρ hR
  unfold nh_sSt at h
  split at h
  · rename_i n t hi
    split at h
    · rename_i j rest hst
      split at h
      · rename_i v hv
        split at h
        · rename_i hc
          cases h
          have hs := hR.2.2.1
          rw [hst] at hs
          obtain ⟨x, st1, rfl, hj, hs1⟩ := hs.inv1
          obtain ⟨x', g1, g2⟩ := hR.1.2 j v hv
          rw [hj] at g1; cases g1
          have hcat := nh_cat_ok g2
          rw [hc.1] at hcat
          obtain ⟨h1, ⟨h2, h3, h4⟩, h5, h6⟩ := hR
          refine nh_stW hx hb hi hd (nh_lvh h2 h3 h4) hc.2 hcat.1 hcat.2.1 hcat.2.2 (fun ls' hl' => k ρ H locs ls' st1 hρ ⟨h1, ?_, hs1, h6⟩)
          exact nh_lo_put (w := (t == 1)) h1 rfl (fun q hq => (h4 q hq).imp (fun x hx => hx.1)) hl' hj
        · cases h
      · cases h
    · cases h
  · cases h
/-- iinc -/
def nh_sInc (S : nhS) (nL : Nat) (i : Instr) (len : Nat) : Option nhS := match i with
  | .iinc n k => match nh_find S.2.1 n with
    | some j => match S.1[j]? with
      | some v => match nh_iv v with
        | some q => if len = 3 ∧ n < nL ∧ -2147483648 ≤ k ∧ k ≤ 2147483647 then (match nh_b .iadd q.1 q.2 k k with
          | some w => some (S.1 ++ [w], (n, S.1.length) :: S.2.1.filter (nh_keep S.1 n false), S.2.2.1, S.2.2.2.1, (if -2147483648 ≤ q.1 + k ∧ q.2 + k ≤ 2147483647 then nh_tc [(S.1.length, j, k), (j, S.1.length, -k)] S.2.2.2.2.1 else []) ++ S.2.2.2.2.1, S.2.2.2.2.2)
          | none => none) else none
        | none => none
      | none => none
    | none => none
  | _ => none
theorem nh_sInc_ok (hx : p.tables.exec = Jvm.exec) (hb : c.code = cc) {i : Instr} {len : Nat} (hd : decode cc pc = .ok (i, len)) {S' : nhS} (h : nh_sInc S nL i len = some S')
    (k : nhGo p l e R s m args below meth c Q E nL pu (pc + len) S' ρ0) : nhGo p l e R s m args below meth c Q E nL pu pc S ρ0 := by
  intro ρ H locs ls st hρ hR
  unfold nh_sInc at h
  split at h
  · rename_i n kk
    split at h
    · rename_i j hj
      split at h
      · rename_i v hv
        split at h
        · rename_i q hq
          split at h
          · rename_i hl
            obtain ⟨rfl, hn, hk1, hk2⟩ := hl
            split at h
            · rename_i w hw
              cases h
              obtain ⟨x, h1, h2⟩ := hR.2.1.2.2 _ (nh_find_ok hj)
              dsimp only at h1 h2
              obtain ⟨x', g1, g2⟩ := hR.1.2 j v hv
              rw [h1] at g1; cases g1
              obtain ⟨a, rfl, a1, a2⟩ := nh_iv_ok hq g2
              have ek : (Int32.ofInt kk).toInt = kk := fb_ofI (by omega) (by omega)
              obtain ⟨z, hz1, hz2⟩ := nh_b_ok (Γ := E.2.2.1) (g := E.2.2.2) (y := Int32.ofInt kk) hw a1 a2 (by omega) (by omega)
              cases hz1
              obtain ⟨hA, ⟨hL1, hL2, hL3⟩, hS1, hM, hD, hC, hH⟩ := hR
              have hlv := nh_lvh hL1 hL2 hL3
              have hmem : (n, Value.int a) ∈ S.2.1.filterMap (fun q => (ρ[q.2]?).map (fun x => (q.1, x))) := List.mem_filterMap.mpr ⟨(n, j), nh_find_ok hj, by dsimp only; rw [h1]; rfl⟩
              obtain ⟨kx, hkx⟩ := List.getElem?_of_mem hmem
              refine lv_iinc hx hb hd hlv hkx rfl hn rfl (fun ls' hl' => ?_)
              have hX := nhX.push ρ (.int (a + Int32.ofInt kk))
              have hnew : (ρ ++ [Value.int (a + Int32.ofInt kk)])[S.1.length]? = some (.int (a + Int32.ofInt kk)) := by rw [← hA.1]; exact nhX.last ρ _
              refine k (ρ ++ [.int (a + Int32.ofInt kk)]) H locs ls' st (hρ.tr hX) ⟨hA.push hz2, ?_, nhSt.mono hX hS1, hM.mono hX, ?_, hC.mono hX, hH⟩
              · have h9 := nh_lo_put (nL := nL) (w := false) (j := S.1.length) (ρ := ρ ++ [.int (a + Int32.ofInt kk)]) (vs := S.1 ++ [w]) (n := n) (lo := S.2.1) (hA.push hz2) rfl (fun q hq => by
                  obtain ⟨y, hy, -⟩ := hL3 q hq
                  exact ⟨y, hX _ _ hy⟩) (x := .int (a + Int32.ofInt kk)) (ls' := ls') (by
                  refine ⟨hl'.1, hl'.2.1, fun q hq => hl'.2.2 q ?_⟩
                  rcases List.mem_cons.mp hq with rfl | hq
                  · exact List.mem_cons_self
                  · refine List.mem_cons_of_mem _ ?_
                    obtain ⟨m1, m2⟩ := List.mem_filter.mp hq
                    refine List.mem_filter.mpr ⟨?_, by simpa using m2⟩
                    obtain ⟨r, hr, er⟩ := List.mem_filterMap.mp m1
                    obtain ⟨y, hy, -⟩ := hL3 r hr
                    rw [hX _ _ hy] at er
                    cases er
                    exact List.mem_filterMap.mpr ⟨r, hr, by rw [hy]; rfl⟩) hnew
                refine ⟨h9.1, h9.2.1, fun q hq => h9.2.2 q ?_⟩
                rcases List.mem_cons.mp hq with rfl | hq
                · exact List.mem_cons_self
                · obtain ⟨m1, m2⟩ := List.mem_filter.mp hq
                  refine List.mem_cons_of_mem _ (List.mem_filter.mpr ⟨m1, ?_⟩)
                  obtain ⟨y, hy, -⟩ := hL3 q m1
                  have hlt : q.2 < S.1.length := by rw [← hA.1]; exact (List.getElem?_eq_some_iff.mp hy).1
                  unfold nh_keep at m2 ⊢
                  rw [List.getElem?_append_left hlt]
                  exact m2
              · intro d hd'
                rcases List.mem_append.mp hd' with hd' | hd'
                · split at hd'
                  · rename_i hov
                    have es := fb_addI (x := a) (y := Int32.ofInt kk) (by omega) (by omega)
                    refine nh_tc_ok (fun d hd => ?_) (hD.mono hX) d hd'
                    simp only [List.mem_cons, List.not_mem_nil, or_false] at hd
                    rcases hd with rfl | rfl
                    · exact ⟨_, _, hnew, hX _ _ h1, by dsimp only; omega⟩
                    · exact ⟨_, _, hX _ _ h1, hnew, by dsimp only; omega⟩
                  · cases hd'
                · exact hD.mono hX d hd'
            · cases h
          · cases h
        · cases h
      · cases h
    · cases h
  · cases h
/-- the stack's own moves -/
def nh_sSk (S : nhS) (i : Instr) (len : Nat) : Option nhS := if len = 1 then (match i with
  | .dup => match S.2.2.1 with
    | x :: rest => match S.1[x]? with
      | some v => if nh_cat v = 0 ∨ nh_cat v = 2 then some (S.1, S.2.1, x :: x :: rest, S.2.2.2) else none
      | none => none
    | _ => none
  | .pop => match S.2.2.1 with
    | x :: rest => match S.1[x]? with
      | some v => if nh_cat v = 0 ∨ nh_cat v = 2 then some (S.1, S.2.1, rest, S.2.2.2) else none
      | none => none
    | _ => none
  | .dup2 => match S.2.2.1 with
    | x :: y :: rest => match S.1[x]?, S.1[y]? with
      | some v, some w => if (nh_cat v = 0 ∨ nh_cat v = 2) ∧ (nh_cat w = 0 ∨ nh_cat w = 2) then some (S.1, S.2.1, x :: y :: x :: y :: rest, S.2.2.2) else none
      | _, _ => none
    | _ => none
  | _ => none) else none
theorem nh_sSk_ok (hx : p.tables.exec = Jvm.exec) (hb : c.code = cc) {i : Instr} {len : Nat} (hd : decode cc pc = .ok (i, len)) {S' : nhS} (h : nh_sSk S i len = some S')
    (k : nhGo p l e R s m args below meth c Q E nL pu (pc + len) S' ρ0) : nhGo p l e R s m args below meth c Q E nL pu pc S ρ0 := by
  intro ρ H locs ls st hρ hR
  have hs := hR.2.2.1
  unfold nh_sSk at h
  split at h
  · rename_i hl
    subst hl
    split at h
    · split at h
      · rename_i x rest hst
        rw [hst] at hs
        obtain ⟨vx, st1, rfl, hx1, hs1⟩ := hs.inv1
        split at h
        · rename_i v hv
          split at h
          · rename_i hc
            cases h
            obtain ⟨x', g1, g2⟩ := hR.1.2 x v hv
            rw [hx1] at g1; cases g1
            exact lv_dup hx hb hd (nh_cat1 g2 hc) (k ρ H locs ls _ hρ (nh_stack_ok hR ⟨hx1, hx1, hs1⟩))
          · cases h
        · cases h
      · cases h
    · split at h
      · rename_i x rest hst
        rw [hst] at hs
        obtain ⟨vx, st1, rfl, hx1, hs1⟩ := hs.inv1
        split at h
        · rename_i v hv
          split at h
          · rename_i hc
            cases h
            obtain ⟨x', g1, g2⟩ := hR.1.2 x v hv
            rw [hx1] at g1; cases g1
            exact lv_pop hx hb hd (nh_cat1 g2 hc) (k ρ H locs ls _ hρ (nh_stack_ok hR hs1))
          · cases h
        · cases h
      · cases h
    · split at h
      · rename_i x y rest hst
        rw [hst] at hs
        obtain ⟨vx, st1, rfl, hx1, hs1⟩ := hs.inv1
        obtain ⟨vy, st2, rfl, hy1, hs2⟩ := hs1.inv1
        split at h
        · rename_i v w hv hw
          split at h
          · rename_i hc
            cases h
            obtain ⟨x', g1, g2⟩ := hR.1.2 x v hv
            rw [hx1] at g1; cases g1
            obtain ⟨y', g3, g4⟩ := hR.1.2 y w hw
            rw [hy1] at g3; cases g3
            exact lv_dup2_11 hx hb hd (nh_cat1 g2 hc.1) (nh_cat1 g4 hc.2) (k ρ H locs ls _ hρ (nh_stack_ok hR ⟨hx1, hy1, hx1, hy1, hs2⟩))
          · cases h
        · cases h
      · cases h
    · cases h
  · cases h
end NH9
end
section
/-! branches -/
abbrev nhSu : Type := List (nhS × Nat)
/-- x ≤ y + c is taken in -/
def nh_asm (S : nhS) (x y : Nat) (c : Int) : Option nhS := match S.1[x]?, S.1[y]? with
  | some u, some w => match nh_iv u, nh_iv w with
    | some q, some r => match nh_ref S x q.1 (r.2 + c) with
      | some S1 => match nh_ref S1 y (q.1 - c) r.2 with
        | some S2 => some (S2.1, S2.2.1, S2.2.2.1, S2.2.2.2.1, [(x, y, c)] ++ S2.2.2.2.2.1, S2.2.2.2.2.2)
        | none => none
      | none => none
    | _, _ => some S
  | _, _ => some S
theorem nh_asm_ok {E : nhE} {nL : Nat} {pu : Bool} {H0 : Heap} {S : nhS} {ρ : List Value} {H : Heap} {locs : List Loc} {ls : Array Slot} {st : List Value} {x y : Nat} {c : Int} {a b : Int32}
    (h : nhR E nL pu H0 S ρ H locs ls st) (hx : ρ[x]? = some (.int a)) (hy : ρ[y]? = some (.int b)) (hc : a.toInt ≤ b.toInt + c) : ∃ S', nh_asm S x y c = some S' ∧ nhR E nL pu H0 S' ρ H locs ls st := by
  unfold nh_asm
  split
  · rename_i u w hu hw
    split
    · rename_i q r hq hr
      obtain ⟨x', g1, g2⟩ := h.1.2 x u hu
      rw [hx] at g1; cases g1
      obtain ⟨y', g3, g4⟩ := h.1.2 y w hw
      rw [hy] at g3; cases g3
      obtain ⟨a', e1, a1, a2⟩ := nh_iv_ok hq g2
      cases e1
      obtain ⟨b', e2, b1, b2⟩ := nh_iv_ok hr g4
      cases e2
      obtain ⟨S1, k1, k2⟩ := nh_ref_ok h hx a1 (show a.toInt ≤ r.2 + c by omega)
      obtain ⟨S2, k3, k4⟩ := nh_ref_ok k2 hy (show q.1 - c ≤ b.toInt by omega) b2
      rw [k1]
      dsimp only
      rw [k3]
      refine ⟨_, rfl, nh_dif_ok (l := [(x, y, c)]) k4 (fun d hd => ?_)⟩
      rw [List.mem_singleton] at hd
      subst hd
      exact ⟨a, b, hx, hy, hc⟩
    · exact ⟨S, rfl, h⟩
  · exact ⟨S, rfl, h⟩
def nh_nes (S : nhS) (x y : Nat) : Option nhS := match S.1[x]?, S.1[y]? with
  | some (0, a, b), some (0, c, d) =>
    if c = d ∧ a = c then nh_ref S x (a + 1) b
    else if c = d ∧ b = c then nh_ref S x a (b - 1)
    else if a = b ∧ c = a then nh_ref S y (c + 1) d
    else if a = b ∧ d = a then nh_ref S y c (d - 1)
    else some S
  | _, _ => some S
theorem nh_nes_ok {E : nhE} {nL : Nat} {pu : Bool} {H0 : Heap} {S : nhS} {ρ : List Value} {H : Heap} {locs : List Loc} {ls : Array Slot} {st : List Value} {x y : Nat} {a b : Int32}
    (h : nhR E nL pu H0 S ρ H locs ls st) (hx : ρ[x]? = some (.int a)) (hy : ρ[y]? = some (.int b)) (hc : a.toInt ≠ b.toInt) : ∃ S', nh_nes S x y = some S' ∧ nhR E nL pu H0 S' ρ H locs ls st := by
  unfold nh_nes
  split
  · rename_i u v w z hu hw
    obtain ⟨x', g1, a', e1, a1, a2⟩ := h.1.2 x _ hu
    rw [hx] at g1; cases g1; cases e1
    obtain ⟨y', g3, b', e2, b1, b2⟩ := h.1.2 y _ hw
    rw [hy] at g3; cases g3; cases e2
    dsimp only at a1 a2 b1 b2
    split
    · exact nh_ref_ok h hx (by omega) (by omega)
    · split
      · exact nh_ref_ok h hx (by omega) (by omega)
      · split
        · exact nh_ref_ok h hy (by omega) (by omega)
        · split
          · exact nh_ref_ok h hy (by omega) (by omega)
          · exact ⟨S, rfl, h⟩
  · exact ⟨S, rfl, h⟩
def nh_app (co : List nhCo) (r : Nat) (nz : Bool) (S : nhS) : Option nhS := match co with
  | [] => some S
  | q :: t => if q.1 == r && q.2.1 == nz then (match nh_ref S q.2.2.1 q.2.2.2.1 q.2.2.2.2 with
    | some S' => nh_app t r nz S'
    | none => none) else nh_app t r nz S
theorem nh_app_ok {E : nhE} {nL : Nat} {pu : Bool} {H0 : Heap} {ρ : List Value} {H : Heap} {locs : List Loc} {ls : Array Slot} {st : List Value} {r : Nat} {nz : Bool} {a : Int32} (hr : ρ[r]? = some (.int a)) (hz : decide (a ≠ 0) = nz) :
    ∀ {co : List nhCo} {S : nhS}, nhCn ρ co → nhR E nL pu H0 S ρ H locs ls st → ∃ S', nh_app co r nz S = some S' ∧ nhR E nL pu H0 S' ρ H locs ls st
  | [], S, _, h => ⟨S, rfl, h⟩
  | q :: t, S, hc, h => by
    have ht : nhCn ρ t := fun q hq => hc q (List.mem_cons_of_mem _ hq)
    unfold nh_app
    split
    · rename_i e
      simp only [Bool.and_eq_true, beq_iff_eq] at e
      obtain ⟨r', b, g1, g2, g3⟩ := hc q List.mem_cons_self
      rw [e.1, hr] at g1; cases g1
      have g4 := g3 (by rw [hz, e.2])
      obtain ⟨S1, k1, k2⟩ := nh_ref_ok h g2 g4.1 g4.2
      rw [k1]
      exact nh_app_ok hr hz ht k2
    · exact nh_app_ok hr hz ht h
/-- a condition on two ints -/
def nh_cr (cd : ClassFile.Cond) (a b : Int) : Bool := match cd with
  | .eq => decide (a = b)
  | .ne => decide (a ≠ b)
  | .lt => decide (a < b)
  | .ge => decide (b ≤ a)
  | .gt => decide (b < a)
  | .le => decide (a ≤ b)
def nh_neg (cd : ClassFile.Cond) : ClassFile.Cond := match cd with
  | .eq => .ne
  | .ne => .eq
  | .lt => .ge
  | .ge => .lt
  | .gt => .le
  | .le => .gt
theorem nh_neg_ok (cd : ClassFile.Cond) {a b : Int} (h : nh_cr cd a b = false) : nh_cr (nh_neg cd) a b = true := by
  cases cd <;> simp only [nh_cr, nh_neg, decide_eq_false_iff_not, decide_eq_true_eq] at h ⊢ <;> omega
def nh_cs (S : nhS) (cd : ClassFile.Cond) (x y : Nat) : Option nhS := match cd with
  | .lt => nh_asm S x y (-1)
  | .le => nh_asm S x y 0
  | .gt => nh_asm S y x (-1)
  | .ge => nh_asm S y x 0
  | .eq => match nh_asm S x y 0 with
    | some S1 => nh_asm S1 y x 0
    | none => none
  | .ne => nh_nes S x y
theorem nh_cs_ok {E : nhE} {nL : Nat} {pu : Bool} {H0 : Heap} {S : nhS} {ρ : List Value} {H : Heap} {locs : List Loc} {ls : Array Slot} {st : List Value} {cd : ClassFile.Cond} {x y : Nat} {a b : Int32}
    (h : nhR E nL pu H0 S ρ H locs ls st) (hx : ρ[x]? = some (.int a)) (hy : ρ[y]? = some (.int b)) (hc : nh_cr cd a.toInt b.toInt = true) : ∃ S', nh_cs S cd x y = some S' ∧ nhR E nL pu H0 S' ρ H locs ls st := by
  cases cd <;> simp only [nh_cr, decide_eq_true_eq] at hc <;> unfold nh_cs <;> dsimp only
  · obtain ⟨S1, k1, k2⟩ := nh_asm_ok (c := 0) h hx hy (by omega)
    rw [k1]
    exact nh_asm_ok k2 hy hx (by omega)
  · exact nh_nes_ok h hx hy hc
  · exact nh_asm_ok h hx hy (by omega)
  · exact nh_asm_ok h hy hx (by omega)
  · exact nh_asm_ok h hy hx (by omega)
  · exact nh_asm_ok h hx hy (by omega)
def nh_zs (S : nhS) (cd : ClassFile.Cond) (x : Nat) : Option nhS := match cd with
  | .lt => nh_ref S x (-2147483648) (-1)
  | .le => nh_ref S x (-2147483648) 0
  | .gt => nh_ref S x 1 2147483647
  | .ge => nh_ref S x 0 2147483647
  | .eq => match nh_ref S x 0 0 with
    | some S1 => nh_app S1.2.2.2.2.2 x false S1
    | none => none
  | .ne => match S.1[x]? with
    | some (0, a, b) => match (if a = 0 then nh_ref S x 1 b else if b = 0 then nh_ref S x a (-1) else some S) with
      | some S1 => nh_app S1.2.2.2.2.2 x true S1
      | none => none
    | _ => nh_app S.2.2.2.2.2 x true S
theorem nh_zs_ok {E : nhE} {nL : Nat} {pu : Bool} {H0 : Heap} {S : nhS} {ρ : List Value} {H : Heap} {locs : List Loc} {ls : Array Slot} {st : List Value} {cd : ClassFile.Cond} {x : Nat} {a : Int32}
    (h : nhR E nL pu H0 S ρ H locs ls st) (hx : ρ[x]? = some (.int a)) (hc : nh_cr cd a.toInt 0 = true) : ∃ S', nh_zs S cd x = some S' ∧ nhR E nL pu H0 S' ρ H locs ls st := by
  have hr := fb_rng a
  have z0 : a = 0 ↔ a.toInt = 0 := by rw [← Int32.toInt_inj]; rfl
  cases cd <;> simp only [nh_cr, decide_eq_true_eq] at hc <;> unfold nh_zs <;> dsimp only
  · obtain ⟨S1, k1, k2⟩ := nh_ref_ok (lo := 0) (hi := 0) h hx (by omega) (by omega)
    rw [k1]
    exact nh_app_ok hx (by simp [z0, hc]) k2.2.2.2.2.2.1 k2
  · have hnz : decide (a ≠ 0) = true := by simp [z0, hc]
    split
    · rename_i u v hu
      obtain ⟨x', g1, a', e1, a1, a2⟩ := h.1.2 x _ hu
      rw [hx] at g1; cases g1; cases e1
      dsimp only at a1 a2
      split
      · rename_i S1 q
        have : nhR E nL pu H0 S1 ρ H locs ls st := by
          split at q
          · obtain ⟨S2, k1, k2⟩ := nh_ref_ok (lo := 1) (hi := v) h hx (by omega) (by omega)
            rw [k1] at q; cases q; exact k2
          · split at q
            · obtain ⟨S2, k1, k2⟩ := nh_ref_ok (lo := u) (hi := -1) h hx (by omega) (by omega)
              rw [k1] at q; cases q; exact k2
            · cases q; exact h
        exact nh_app_ok hx hnz this.2.2.2.2.2.1 this
      · rename_i q
        exfalso
        split at q
        · obtain ⟨S2, k1, k2⟩ := nh_ref_ok (lo := 1) (hi := v) h hx (by omega) (by omega)
          rw [k1] at q; cases q
        · split at q
          · obtain ⟨S2, k1, k2⟩ := nh_ref_ok (lo := u) (hi := -1) h hx (by omega) (by omega)
            rw [k1] at q; cases q
          · cases q
    · exact nh_app_ok hx hnz h.2.2.2.2.2.1 h
  · exact nh_ref_ok h hx (by omega) (by omega)
  · exact nh_ref_ok h hx (by omega) (by omega)
  · exact nh_ref_ok h hx (by omega) (by omega)
  · exact nh_ref_ok h hx (by omega) (by omega)
def nh_isI (S : nhS) (x : Nat) : Bool := match S.1[x]? with
  | some v => nh_cat v == 0
  | none => false
theorem nh_isI_ok {E : nhE} {nL : Nat} {pu : Bool} {H0 : Heap} {S : nhS} {ρ : List Value} {H : Heap} {locs : List Loc} {ls : Array Slot} {st : List Value} {x : Nat} {v : Value} (h : nhR E nL pu H0 S ρ H locs ls st) (hi : nh_isI S x = true) (hv : ρ[x]? = some v) : ∃ a : Int32, v = .int a := by
  unfold nh_isI at hi
  split at hi
  · rename_i w hw
    obtain ⟨x', g1, g2⟩ := h.1.2 x w hw
    rw [hv] at g1; cases g1
    exact (nh_cat_ok g2).1 (by simpa using hi)
  · cases hi
/-- where a jump goes -/
def nh_tg (pc : Nat) (off : Int) : Option Nat := if 0 ≤ (pc : Int) + off then some ((pc : Int) + off).toNat else none
theorem nh_tg_ok {pc t : Nat} {off : Int} (h : nh_tg pc off = some t) : (pc : Int) + off = (t : Int) := by
  unfold nh_tg at h
  split at h
  · cases h; omega
  · cases h
def nh_at (o : Option nhS) (t : Nat) : nhSu := match o with
  | some S => [(S, t)]
  | none => []
/-- the ways of a table: those of its places from k on -/
def nh_tab (S : nhS) (x pc : Nat) (lo : Int) : Nat → List Int → Option nhSu
  | _, [] => some []
  | k, o :: r => match nh_tg pc o, nh_tab S x pc lo (k + 1) r with
    | some t, some l => some (nh_at (nh_ref S x (lo + k) (lo + k)) t ++ l)
    | _, _ => none
def nh_look (S : nhS) (x pc : Nat) : List (Int × Int) → Option nhSu
  | [] => some []
  | q :: r => match nh_tg pc q.2, nh_look S x pc r with
    | some t, some l => some (nh_at (nh_ref S x q.1 q.1) t ++ l)
    | _, _ => none
def nh_sBr (S : nhS) (pc : Nat) (i : Instr) (len : Nat) : Option nhSu := match i with
  | .if_icmp cd off => match S.2.2.1 with
    | y :: x :: rest => match nh_tg pc off with
      | some t => if len = 3 ∧ nh_isI S x = true ∧ nh_isI S y = true then some (nh_at (nh_cs (S.1, S.2.1, rest, S.2.2.2) cd x y) t ++ nh_at (nh_cs (S.1, S.2.1, rest, S.2.2.2) (nh_neg cd) x y) (pc + 3)) else none
      | none => none
    | _ => none
  | .ifCond cd off => match S.2.2.1 with
    | x :: rest => match nh_tg pc off with
      | some t => if len = 3 ∧ nh_isI S x = true then some (nh_at (nh_zs (S.1, S.2.1, rest, S.2.2.2) cd x) t ++ nh_at (nh_zs (S.1, S.2.1, rest, S.2.2.2) (nh_neg cd) x) (pc + 3)) else none
      | none => none
    | _ => none
  | .goto off => match nh_tg pc off with
    | some t => if len = 3 then some [(S, t)] else none
    | none => none
  | .ifnull off => match S.2.2.1 with
    | x :: rest => match S.1[x]?, nh_tg pc off with
      | some v, some t => if len = 3 then (if v.1 = 2 then some [((S.1, S.2.1, rest, S.2.2.2), pc + 3)] else if v.1 = 3 then some [((S.1, S.2.1, rest, S.2.2.2), t), (nh_set (S.1, S.2.1, rest, S.2.2.2) x (2, v.2), pc + 3)] else none) else none
      | _, _ => none
    | _ => none
  | .ifnonnull off => match S.2.2.1 with
    | x :: rest => match S.1[x]?, nh_tg pc off with
      | some v, some t => if len = 3 then (if v.1 = 2 then some [((S.1, S.2.1, rest, S.2.2.2), t)] else if v.1 = 3 then some [((S.1, S.2.1, rest, S.2.2.2), pc + 3), (nh_set (S.1, S.2.1, rest, S.2.2.2) x (2, v.2), t)] else none) else none
      | _, _ => none
    | _ => none
  | .tableswitch d lo hi offs => match S.2.2.1 with
    | x :: rest => match nh_tg pc d, nh_tab (S.1, S.2.1, rest, S.2.2.2) x pc lo 0 offs.toList with
      | some t, some l => if nh_isI S x = true ∧ hi < lo + offs.toList.length then some (nh_at (nh_ref (S.1, S.2.1, rest, S.2.2.2) x (-2147483648) (lo - 1)) t ++ (nh_at (nh_ref (S.1, S.2.1, rest, S.2.2.2) x (hi + 1) 2147483647) t ++ l)) else none
      | _, _ => none
    | _ => none
  | .lookupswitch d ps => match S.2.2.1 with
    | x :: rest => match nh_tg pc d, nh_look (S.1, S.2.1, rest, S.2.2.2) x pc ps.toList with
      | some t, some l => if nh_isI S x = true ∧ (ps.toList.zip (ps.toList.drop 1)).all (fun (a, next) => a.1 < next.1) = true then some (((S.1, S.2.1, rest, S.2.2.2), t) :: l) else none
      | _, _ => none
    | _ => none
  | _ => none
section NH10
variable {p : Program} {l : Launch} {e : Env} {R : Room} {s : State} {m : MethodId} {args : Array Value} {below : List Frame} {meth : Method} {c : Code} {Q : State → Prop}
variable {cc : ByteArray} {E : nhE} {nL : Nat} {pu : Bool} {pc : Nat} {S : nhS} {ρ0 : List Value}
theorem nh_icW {H : Heap} {locs : List Loc} {ls : Array Slot} {rest : List Value} {cells slots : Nat} (hx : p.tables.exec = Jvm.exec) (hb : c.code = cc) {cd : ClassFile.Cond} {off : Int} {t : Nat} (hd : decode cc pc = .ok (.if_icmp cd off, 3)) (ht : (pc : Int) + off = (t : Int)) {x y : Int32}
    (kt : nh_cr cd x.toInt y.toInt = true → W p l e R s m args below meth c H locs cells slots Q (F0 m t ls rest)) (kf : nh_cr cd x.toInt y.toInt = false → W p l e R s m args below meth c H locs cells slots Q (F0 m (pc + 3) ls rest)) : W p l e R s m args below meth c H locs cells slots Q (F0 m pc ls (.int y :: .int x :: rest)) := by
  cases cd
  · exact lv_icmp_eq hx hb hd ht (fun h => kt (by simp [nh_cr, h])) (fun h => kf (by simp only [nh_cr, decide_eq_false_iff_not]; exact fun q => h (Int32.toInt_inj.mp q)))
  · exact lv_icmp_ne hx hb hd ht (fun h => kt (by simp only [nh_cr, decide_eq_true_eq]; exact fun q => h (Int32.toInt_inj.mp q))) (fun h => kf (by simp [nh_cr, h]))
  · exact lv_icmp_lt hx hb hd ht (fun h => kt (by simp only [nh_cr, decide_eq_true_eq]; exact Int32.lt_iff_toInt_lt.mp h)) (fun h => kf (by simp only [nh_cr, decide_eq_false_iff_not]; exact fun q => h (Int32.lt_iff_toInt_lt.mpr q)))
  · exact lv_icmp_ge hx hb hd ht (fun h => kt (by simp only [nh_cr, decide_eq_true_eq]; exact Int32.le_iff_toInt_le.mp h)) (fun h => kf (by simp only [nh_cr, decide_eq_false_iff_not]; exact fun q => h (Int32.le_iff_toInt_le.mpr q)))
  · exact lv_icmp_gt hx hb hd ht (fun h => kt (by simp only [nh_cr, decide_eq_true_eq]; exact Int32.lt_iff_toInt_lt.mp h)) (fun h => kf (by simp only [nh_cr, decide_eq_false_iff_not]; exact fun q => h (Int32.lt_iff_toInt_lt.mpr q)))
  · exact lv_icmp_le hx hb hd ht (fun h => kt (by simp only [nh_cr, decide_eq_true_eq]; exact Int32.le_iff_toInt_le.mp h)) (fun h => kf (by simp only [nh_cr, decide_eq_false_iff_not]; exact fun q => h (Int32.le_iff_toInt_le.mpr q)))
theorem nh_ifW {H : Heap} {locs : List Loc} {ls : Array Slot} {rest : List Value} {cells slots : Nat} (hx : p.tables.exec = Jvm.exec) (hb : c.code = cc) {cd : ClassFile.Cond} {off : Int} {t : Nat} (hd : decode cc pc = .ok (.ifCond cd off, 3)) (ht : (pc : Int) + off = (t : Int)) {x : Int32}
    (kt : nh_cr cd x.toInt 0 = true → W p l e R s m args below meth c H locs cells slots Q (F0 m t ls rest)) (kf : nh_cr cd x.toInt 0 = false → W p l e R s m args below meth c H locs cells slots Q (F0 m (pc + 3) ls rest)) : W p l e R s m args below meth c H locs cells slots Q (F0 m pc ls (.int x :: rest)) := by
  have z0 : (0 : Int32).toInt = 0 := rfl
  rw [← z0] at kt kf
  cases cd
  · exact lv_if_eq hx hb hd ht (fun h => kt (by simp [nh_cr, h])) (fun h => kf (by simp only [nh_cr, decide_eq_false_iff_not]; exact fun q => h (Int32.toInt_inj.mp q)))
  · exact lv_if_ne hx hb hd ht (fun h => kt (by simp only [nh_cr, decide_eq_true_eq]; exact fun q => h (Int32.toInt_inj.mp q))) (fun h => kf (by simp [nh_cr, h]))
  · exact lv_if_lt hx hb hd ht (fun h => kt (by simp only [nh_cr, decide_eq_true_eq]; exact Int32.lt_iff_toInt_lt.mp h)) (fun h => kf (by simp only [nh_cr, decide_eq_false_iff_not]; exact fun q => h (Int32.lt_iff_toInt_lt.mpr q)))
  · exact lv_if_ge hx hb hd ht (fun h => kt (by simp only [nh_cr, decide_eq_true_eq]; exact Int32.le_iff_toInt_le.mp h)) (fun h => kf (by simp only [nh_cr, decide_eq_false_iff_not]; exact fun q => h (Int32.le_iff_toInt_le.mpr q)))
  · exact lv_if_gt hx hb hd ht (fun h => kt (by simp only [nh_cr, decide_eq_true_eq]; exact Int32.lt_iff_toInt_lt.mp h)) (fun h => kf (by simp only [nh_cr, decide_eq_false_iff_not]; exact fun q => h (Int32.lt_iff_toInt_lt.mpr q)))
  · exact lv_if_le hx hb hd ht (fun h => kt (by simp only [nh_cr, decide_eq_true_eq]; exact Int32.le_iff_toInt_le.mp h)) (fun h => kf (by simp only [nh_cr, decide_eq_false_iff_not]; exact fun q => h (Int32.le_iff_toInt_le.mpr q)))
theorem nh_at_mem {S' : nhS} {o : Option nhS} {t : Nat} (h : o = some S') : (S', t) ∈ nh_at o t := by
  subst h; exact List.mem_cons_self
theorem nh_tab_mem {S' : nhS} {x pc : Nat} {lo : Int} : ∀ {offs : List Int} {k : Nat} {l : nhSu} {j : Nat} {o : Int}, nh_tab S x pc lo k offs = some l → offs[j]? = some o → nh_ref S x (lo + (k + j : Nat)) (lo + (k + j : Nat)) = some S' → ∃ t, nh_tg pc o = some t ∧ (S', t) ∈ l
  | [], k, l, j, o, _, h, _ => by simp at h
  | o' :: r, k, l, j, o, h, hj, hr => by
    unfold nh_tab at h
    split at h
    · rename_i t l' ht hl
      cases h
      cases j with
      | zero =>
        rw [List.getElem?_cons_zero] at hj
        cases hj
        exact ⟨t, ht, List.mem_append_left _ (nh_at_mem hr)⟩
      | succ j =>
        rw [List.getElem?_cons_succ] at hj
        obtain ⟨t', h1, h2⟩ := nh_tab_mem hl hj (by rw [show k + 1 + j = k + (j + 1) by omega]; exact hr)
        exact ⟨t', h1, List.mem_append_right _ h2⟩
    · cases h
theorem nh_look_ok {ρ : List Value} {H : Heap} {locs : List Loc} {ls : Array Slot} {st : List Value} {x : Nat} {a : Int32} (hR : nhR E nL pu s.heap S ρ H locs ls st) (hx : ρ[x]? = some (.int a)) (d : Int) :
    ∀ {ps : List (Int × Int)} {l : nhSu}, nh_look S x pc ps = some l → Op.lookupswitch.offset ps d a.toInt = d ∨ ∃ (t : Nat) (S' : nhS), (pc : Int) + Op.lookupswitch.offset ps d a.toInt = (t : Int) ∧ (S', t) ∈ l ∧ nhR E nL pu s.heap S' ρ H locs ls st
  | [], l, _ => Or.inl rfl
  | q :: r, l, h => by
    unfold nh_look at h
    split at h
    · rename_i t l' ht hl
      cases h
      rw [Op.lookupswitch.offset_cons]
      split
      · rename_i hq
        obtain ⟨S1, k1, k2⟩ := nh_ref_ok (lo := q.1) (hi := q.1) hR hx (by omega) (by omega)
        exact Or.inr ⟨t, S1, nh_tg_ok ht, List.mem_append_left _ (nh_at_mem k1), k2⟩
      · rcases nh_look_ok hR hx d hl with h1 | ⟨t', S', h1, h2, h3⟩
        · exact Or.inl h1
        · exact Or.inr ⟨t', S', h1, List.mem_append_right _ h2, h3⟩
    · cases h
theorem nh_sBr_ok (hx : p.tables.exec = Jvm.exec) (hb : c.code = cc) {i : Instr} {len : Nat} (hd : decode cc pc = .ok (i, len)) {L : nhSu} (h : nh_sBr S pc i len = some L)
    (k : ∀ q ∈ L, nhGo p l e R s m args below meth c Q E nL pu q.2 q.1 ρ0) : nhGo p l e R s m args below meth c Q E nL pu pc S ρ0 := by
  intro ρ H locs ls st hρ hR
  have hs := hR.2.2.1
  unfold nh_sBr at h
  split at h
  · split at h
    · rename_i y x rest hst
      rw [hst] at hs
      obtain ⟨vy, st1, rfl, hy1, hs1⟩ := hs.inv1
      obtain ⟨vx, st2, rfl, hx1, hs2⟩ := hs1.inv1
      split at h
      · rename_i t ht
        split at h
        · rename_i hc
          cases h
          obtain ⟨rfl, i1, i2⟩ := hc
          obtain ⟨a, rfl⟩ := nh_isI_ok hR i1 hx1
          obtain ⟨b, rfl⟩ := nh_isI_ok hR i2 hy1
          have hR' := nh_stack_ok hR hs2
          refine nh_icW hx hb hd (nh_tg_ok ht) (fun hc => ?_) (fun hc => ?_)
          · obtain ⟨S1, k1, k2⟩ := nh_cs_ok hR' hx1 hy1 hc
            exact k (S1, t) (List.mem_append_left _ (nh_at_mem k1)) ρ H locs ls _ hρ k2
          · obtain ⟨S1, k1, k2⟩ := nh_cs_ok hR' hx1 hy1 (nh_neg_ok _ hc)
            exact k (S1, pc + 3) (List.mem_append_right _ (nh_at_mem k1)) ρ H locs ls _ hρ k2
        · cases h
      · cases h
    · cases h
  · split at h
    · rename_i x rest hst
      rw [hst] at hs
      obtain ⟨vx, st2, rfl, hx1, hs2⟩ := hs.inv1
      split at h
      · rename_i t ht
        split at h
        · rename_i hc
          cases h
          obtain ⟨rfl, i1⟩ := hc
          obtain ⟨a, rfl⟩ := nh_isI_ok hR i1 hx1
          have hR' := nh_stack_ok hR hs2
          refine nh_ifW hx hb hd (nh_tg_ok ht) (fun hc => ?_) (fun hc => ?_)
          · obtain ⟨S1, k1, k2⟩ := nh_zs_ok hR' hx1 hc
            exact k (S1, t) (List.mem_append_left _ (nh_at_mem k1)) ρ H locs ls _ hρ k2
          · obtain ⟨S1, k1, k2⟩ := nh_zs_ok hR' hx1 (nh_neg_ok _ hc)
            exact k (S1, pc + 3) (List.mem_append_right _ (nh_at_mem k1)) ρ H locs ls _ hρ k2
        · cases h
      · cases h
    · cases h
  · split at h
    · rename_i t ht
      split at h
      · rename_i hl
        cases h
        subst hl
        exact lv_goto hx hb hd (nh_tg_ok ht) (k (S, t) List.mem_cons_self ρ H locs ls st hρ hR)
      · cases h
    · cases h
  · split at h
    · rename_i x rest hst
      rw [hst] at hs
      obtain ⟨vx, st2, rfl, hx1, hs2⟩ := hs.inv1
      have hR' := nh_stack_ok hR hs2
      split at h
      · rename_i v t hv ht
        obtain ⟨x', g1, g2⟩ := hR.1.2 x v hv
        rw [hx1] at g1; cases g1
        obtain ⟨vt, vk⟩ := v
        split at h
        · rename_i hl
          subst hl
          split at h
          · rename_i h2
            cases h
            dsimp only at h2
            subst h2
            obtain ⟨a, rfl, ha⟩ := g2
            exact lv_ifnull hx hb hd (k (_, pc + 3) List.mem_cons_self ρ H locs ls _ hρ hR')
          · split at h
            · rename_i h3
              cases h
              dsimp only at h3
              subst h3
              rcases g2 with rfl | ⟨a, rfl, ha⟩
              · exact lv_ifnullN hx hb hd (nh_tg_ok ht) (k (_, t) List.mem_cons_self ρ H locs ls _ hρ hR')
              · exact lv_ifnull hx hb hd (k (_, pc + 3) (List.mem_cons_of_mem _ List.mem_cons_self) ρ H locs ls _ hρ (nh_set_ok hR' hx1 ⟨a, rfl, ha⟩))
            · cases h
        · cases h
      · cases h
    · cases h
  · split at h
    · rename_i x rest hst
      rw [hst] at hs
      obtain ⟨vx, st2, rfl, hx1, hs2⟩ := hs.inv1
      have hR' := nh_stack_ok hR hs2
      split at h
      · rename_i v t hv ht
        obtain ⟨x', g1, g2⟩ := hR.1.2 x v hv
        rw [hx1] at g1; cases g1
        obtain ⟨vt, vk⟩ := v
        split at h
        · rename_i hl
          subst hl
          split at h
          · rename_i h2
            cases h
            dsimp only at h2
            subst h2
            obtain ⟨a, rfl, ha⟩ := g2
            exact lv_ifnonnull hx hb hd (nh_tg_ok ht) (k (_, t) List.mem_cons_self ρ H locs ls _ hρ hR')
          · split at h
            · rename_i h3
              cases h
              dsimp only at h3
              subst h3
              rcases g2 with rfl | ⟨a, rfl, ha⟩
              · exact lv_ifnonnullN hx hb hd (k (_, pc + 3) List.mem_cons_self ρ H locs ls _ hρ hR')
              · exact lv_ifnonnull hx hb hd (nh_tg_ok ht) (k (_, t) (List.mem_cons_of_mem _ List.mem_cons_self) ρ H locs ls _ hρ (nh_set_ok hR' hx1 ⟨a, rfl, ha⟩))
            · cases h
        · cases h
      · cases h
    · cases h
  · rename_i d lo hi offs
    split at h
    · rename_i x rest hst
      rw [hst] at hs
      obtain ⟨vx, st2, rfl, hx1, hs2⟩ := hs.inv1
      have hR' := nh_stack_ok hR hs2
      split at h
      · rename_i t l' ht hl'
        split at h
        · rename_i hc
          cases h
          obtain ⟨a, rfl⟩ := nh_isI_ok hR hc.1 hx1
          have hr := fb_rng a
          by_cases h1 : a.toInt < lo
          · obtain ⟨S1, k1, k2⟩ := nh_ref_ok (lo := -2147483648) (hi := lo - 1) hR' hx1 (by omega) (by omega)
            exact lv_tableOut hx hb hd (Or.inl h1) (nh_tg_ok ht) (k (S1, t) (List.mem_append_left _ (nh_at_mem k1)) ρ H locs ls _ hρ k2)
          · by_cases h2 : hi < a.toInt
            · obtain ⟨S1, k1, k2⟩ := nh_ref_ok (lo := hi + 1) (hi := 2147483647) hR' hx1 (by omega) (by omega)
              exact lv_tableOut hx hb hd (Or.inr h2) (nh_tg_ok ht) (k (S1, t) (List.mem_append_right _ (List.mem_append_left _ (nh_at_mem k1))) ρ H locs ls _ hρ k2)
            · have hlt : (a.toInt - lo).toNat < offs.toList.length := by omega
              have ho : offs.toList[(a.toInt - lo).toNat]? = some (offs.toList[(a.toInt - lo).toNat]) := List.getElem?_eq_getElem hlt
              have eq1 : lo + ((0 + (a.toInt - lo).toNat : Nat) : Int) = a.toInt := by omega
              obtain ⟨S1, k1, k2⟩ := nh_ref_ok (lo := lo + ((0 + (a.toInt - lo).toNat : Nat) : Int)) (hi := lo + ((0 + (a.toInt - lo).toNat : Nat) : Int)) hR' hx1 (by omega) (by omega)
              obtain ⟨t', m1, m2⟩ := nh_tab_mem hl' ho k1
              exact lv_tableIn hx hb hd h1 h2 (by rw [← Array.getElem?_toList]; exact ho) (nh_tg_ok m1) (k (S1, t') (List.mem_append_right _ (List.mem_append_right _ m2)) ρ H locs ls _ hρ k2)
        · cases h
      · cases h
    · cases h
  · rename_i d ps
    split at h
    · rename_i x rest hst
      rw [hst] at hs
      obtain ⟨vx, st2, rfl, hx1, hs2⟩ := hs.inv1
      have hR' := nh_stack_ok hR hs2
      split at h
      · rename_i t l' ht hl'
        split at h
        · rename_i hc
          cases h
          obtain ⟨a, rfl⟩ := nh_isI_ok hR hc.1 hx1
          rcases nh_look_ok hR' hx1 d hl' with h1 | ⟨t', S', h1, h2, h3⟩
          · exact lv_lookup hx hb hd hc.2 h1 (nh_tg_ok ht) (k (_, t) List.mem_cons_self ρ H locs ls _ hρ hR')
          · exact lv_lookup hx hb hd hc.2 rfl h1 (k (S', t') (List.mem_cons_of_mem _ h2) ρ H locs ls _ hρ h3)
        · cases h
      · cases h
    · cases h
  · cases h
end NH10
end
section
/-! tables by program: which field, which constant a number of a class's pool means, and its place among the words -/
abbrev nhOw : List String := ["NightHouses$Fencer", "NightHouses$Formula", "NightHouses$History", "NightHouses$Land", "NightHouses$Night", "NightHouses$Planner", "NightHouses$Reader", "NightHouses$Sightings", "NightHouses$Steps", "NightHouses$Tokens", "NightHouses$Walks", "NightHouses", "NightHousesModel", "java/lang/Long", "java/lang/Integer", "java/lang/Math", "java/util/Arrays", "java/lang/String", "java/lang/StringLatin1", "java/lang/StringUTF16", "NightHousesLaw"]
def nhTb : List Cond := lw_tbl.filter goodWord
theorem nhTb_mem {w : Cond} (h : w ∈ lw_tbl) (g : goodWord w = true) : w ∈ nhTb := List.mem_filter.mpr ⟨h, g⟩
theorem nhGoodIn0 : GoodIn nhTb nhTb := fun w h => ⟨h, good_of_word (List.mem_filter.mp h).2⟩
/-- the word at a place, if it is good -/
def nh_wd (i : Nat) (w : Cond) : Bool := decide (lw_tbl[i]? = some w) && goodWord w
theorem nh_wd_ok {i : Nat} {w : Cond} (h : nh_wd i w = true) : w ∈ nhTb := by
  simp only [nh_wd, Bool.and_eq_true, decide_eq_true_eq] at h
  exact nhTb_mem (List.mem_of_getElem? h.1) h.2
def nhFl : List (List (Nat × Nat × Nat × Nat)) := [[(63, 3, 7, 201), (89, 3, 8, 213), (45, 4, 0, 350), (79, 4, 3, 362), (12, 0, 0, 476), (18, 0, 1, 477), (22, 0, 2, 478), (26, 0, 3, 479), (29, 0, 4, 480), (33, 0, 5, 481), (36, 0, 6, 482), (39, 0, 7, 483), (42, 0, 8, 485)], [(9, 1, 0, 162), (13, 1, 1, 163), (16, 1, 2, 164), (19, 1, 3, 165), (23, 1, 4, 166)], [(11, 2, 0, 402), (15, 2, 1, 403), (19, 2, 2, 404), (22, 2, 3, 406)], [(9, 3, 0, 182), (18, 3, 1, 188), (22, 3, 2, 192), (25, 3, 3, 193), (28, 3, 4, 194), (58, 3, 5, 195), (61, 3, 6, 198), (64, 3, 7, 202), (38, 3, 8, 207), (42, 3, 9, 214), (46, 3, 10, 218), (49, 3, 11, 221), (52, 3, 12, 225), (55, 3, 13, 229)], [(21, 3, 0, 183), (38, 3, 9, 215), (43, 3, 10, 219), (54, 3, 13, 230), (9, 4, 0, 348), (15, 4, 1, 355), (18, 4, 2, 358), (42, 4, 3, 360), (47, 4, 4, 364), (48, 4, 5, 367), (51, 4, 6, 370), (57, 4, 7, 373)], [(56, 3, 0, 184), (87, 3, 8, 209), (78, 3, 11, 222), (53, 4, 0, 351), (9, 5, 0, 445), (15, 5, 1, 447), (20, 5, 2, 448), (25, 5, 3, 449), (29, 5, 4, 450), (39, 5, 5, 451), (42, 5, 6, 452)], [(208, 1, 4, 168), (154, 3, 0, 187), (173, 3, 1, 191), (129, 3, 5, 197), (132, 3, 6, 200), (78, 3, 8, 208), (147, 3, 9, 217), (141, 3, 10, 220), (161, 3, 11, 224), (164, 3, 12, 228), (167, 3, 13, 231), (64, 9, 3, 276), (106, 9, 4, 278), (116, 9, 5, 281), (151, 9, 6, 283), (12, 6, 0, 299), (18, 6, 1, 300), (29, 6, 2, 301), (38, 6, 3, 302), (42, 6, 4, 303), (45, 6, 5, 304), (48, 6, 6, 305), (51, 6, 7, 306), (54, 6, 8, 307), (57, 6, 9, 308), (119, 6, 10, 309), (22, 6, 11, 310), (26, 6, 12, 312)], [(54, 3, 7, 203), (49, 3, 8, 211), (72, 3, 9, 216), (61, 4, 0, 352), (11, 7, 0, 514), (15, 7, 1, 515), (18, 7, 2, 516), (22, 7, 3, 517), (25, 7, 4, 518), (28, 7, 5, 519), (31, 7, 6, 520), (37, 7, 7, 521), (41, 7, 8, 522), (45, 7, 9, 523)], [(62, 3, 0, 185), (72, 3, 1, 189), (9, 3, 8, 206), (45, 3, 12, 226), (21, 4, 0, 349), (59, 4, 1, 356), (31, 4, 3, 361), (65, 4, 4, 365), (52, 4, 5, 368), (89, 4, 6, 371), (42, 4, 7, 374)], [(7, 9, 0, 273), (19, 9, 1, 274), (23, 9, 2, 275), (36, 9, 3, 277), (33, 9, 4, 279), (69, 9, 5, 280), (63, 9, 6, 282)], [(57, 3, 7, 204), (49, 3, 8, 212), (52, 4, 0, 353), (9, 10, 0, 423), (15, 10, 1, 424), (18, 10, 2, 425), (27, 10, 3, 426)], [(210, 1, 4, 167), (137, 3, 0, 186), (206, 3, 1, 190), (169, 3, 5, 196), (172, 3, 6, 199), (297, 3, 7, 205), (121, 3, 8, 210), (215, 3, 11, 223), (218, 3, 12, 227), (124, 6, 11, 311), (127, 6, 12, 313), (134, 4, 0, 354), (140, 4, 1, 357), (143, 4, 2, 359), (175, 4, 3, 363), (162, 4, 4, 366), (185, 4, 5, 369), (188, 4, 6, 372), (191, 4, 7, 375), (197, 2, 2, 405), (200, 2, 3, 407), (329, 10, 3, 427), (274, 5, 0, 446), (291, 0, 7, 484), (294, 0, 8, 486), (203, 7, 9, 524), (9, 11, 0, 581), (13, 11, 1, 582), (20, 11, 2, 583), (24, 11, 3, 584), (30, 11, 4, 585), (37, 11, 5, 586), (41, 11, 6, 587), (47, 11, 7, 588), (51, 11, 8, 589), (55, 11, 9, 590), (61, 11, 10, 591), (68, 11, 11, 592), (75, 11, 12, 593), (82, 11, 13, 594), (86, 11, 14, 595), (89, 11, 15, 596), (93, 11, 16, 597)], [(7, 12, 0, 1402), (13, 12, 1, 1403), (244, 12, 2, 1404), (146, 12, 3, 1405), (149, 12, 4, 1406), (16, 12, 5, 1407), (193, 12, 6, 1408), (190, 12, 7, 1409), (200, 12, 8, 1410), (218, 12, 9, 1411), (207, 12, 10, 1412), (20, 12, 11, 1413), (24, 12, 12, 1414), (27, 12, 13, 1415), (30, 12, 14, 1416), (33, 12, 15, 1417), (36, 12, 16, 1418), (39, 12, 17, 1419), (42, 12, 18, 1420), (45, 12, 19, 1421), (48, 12, 20, 1422), (51, 12, 21, 1423), (54, 12, 22, 1424), (57, 12, 23, 1425), (60, 12, 24, 1426), (63, 12, 25, 1427), (66, 12, 26, 1428), (70, 12, 27, 1429), (73, 12, 28, 1430), (76, 12, 29, 1431), (79, 12, 30, 1432), (82, 12, 31, 1433), (247, 12, 32, 1434), (238, 12, 33, 1435), (241, 12, 34, 1436), (306, 12, 35, 1437), (303, 12, 36, 1438), (297, 12, 37, 1439), (330, 12, 38, 1440), (85, 12, 39, 1441), (88, 12, 40, 1442), (91, 12, 41, 1443), (380, 12, 42, 1444), (94, 12, 43, 1445), (353, 12, 44, 1446), (356, 12, 45, 1447), (97, 12, 46, 1448), (100, 12, 47, 1449), (103, 12, 48, 1450), (362, 12, 49, 1451), (106, 12, 50, 1452), (463, 12, 51, 1453), (109, 12, 52, 1454), (112, 12, 53, 1455), (115, 12, 54, 1456), (118, 12, 55, 1457), (121, 12, 56, 1458), (124, 12, 57, 1459), (127, 12, 58, 1460), (130, 12, 59, 1461), (359, 12, 60, 1462), (481, 12, 61, 1463), (134, 12, 62, 1464), (137, 12, 63, 1465)], [], [], [], [], [], [], [], []]
def nhIc : List (List (Nat × Int32 × Nat)) := [[], [], [], [], [], [], [], [], [], [], [], [(355, 100000, 1321)], [(484, 100000, 2042)], [], [(265, 1431655765, 1195), (266, 858993459, 1196), (267, 252645135, 1197), (264, 65536, 1359)], [], [], [], [], [(227, 65536, 765)], []]
def nhLc : List (List (Nat × Int64 × Nat)) := [[(53, -1, 1172)], [], [], [], [], [], [], [(76, -1, 1336)], [], [(67, 32, 676)], [], [(250, -1, 1077)], [(152, 1818324580, 1613), (154, 25209, 1614), (156, 448377677669, 1615), (158, 448546567013, 1616), (160, 24948, 1617), (162, 6513012, 1618), (164, 1735353715, 1619), (166, 426836257907, 1620), (168, 1734437989, 1621), (170, 1685217655, 1622), (172, 512852845416, 1623), (174, 1937007984, 1624), (176, 109330212154734, 1625), (178, 7499639, 1626), (180, 1953066100, 1627), (182, 474214787188, 1628), (184, 28530, 1629), (186, 6385252, 1630), (188, 7237492, 1631)], [(314, 6148914691236517205, 980), (316, 3689348814741910323, 981), (318, 1085102592571150095, 982)], [], [], [], [], [], [], []]
def nhFt (ci : Nat) : Nat → FieldType := match ci with
  | 0 => tyX0
  | 1 => tyX1
  | 2 => tyX2
  | 3 => tyX3
  | 4 => tyX4
  | 5 => tyX5
  | 6 => tyX6
  | 7 => tyX7
  | 8 => tyX8
  | 9 => tyX9
  | 10 => tyX10
  | 11 => tyX11
  | _ => tyX12
def nh_flB (o : Nat) (q : Nat × Nat × Nat × Nat) : Bool := match nhOw[o]?, nhCl[q.2.1]? with
  | some C, some r => decide (q.2.2.1 < r.2.2) && nh_wd q.2.2.2 (Cond.fieldLink C q.1 (r.2.1 q.2.2.1).1 (r.2.1 q.2.2.1).2.1 (r.2.1 q.2.2.1).2.2.1)
  | _, _ => false
def nh_icB (o : Nat) (q : Nat × Int32 × Nat) : Bool := match nhOw[o]? with
  | some C => nh_wd q.2.2 (Cond.constant C q.1 q.2.1)
  | _ => false
def nh_lcB (o : Nat) (q : Nat × Int64 × Nat) : Bool := match nhOw[o]? with
  | some C => nh_wd q.2.2 (Cond.constantLong C q.1 q.2.1)
  | _ => false
theorem nhFl_all : (List.range nhFl.length).all (fun o => (nhFl.getD o []).all (nh_flB o)) = true := by decide +kernel
theorem nhIc_all : (List.range nhIc.length).all (fun o => (nhIc.getD o []).all (nh_icB o)) = true := by decide +kernel
theorem nhLc_all : (List.range nhLc.length).all (fun o => (nhLc.getD o []).all (nh_lcB o)) = true := by decide +kernel
theorem nh_rows {α : Type} {L : List (List α)} {f : Nat → α → Bool} (h : (List.range L.length).all (fun o => (L.getD o []).all (f o)) = true) {o : Nat} {q : α} (hq : q ∈ L.getD o []) : f o q = true := by
  by_cases hl : o < L.length
  · exact List.all_eq_true.mp (List.all_eq_true.mp h o (List.mem_range.mpr hl)) q hq
  · rw [List.getD_eq_getElem?_getD, List.getElem?_eq_none (by omega)] at hq
    cases hq
theorem nhIn0 : ∀ w ∈ u_ws RX0 TX0 9, w ∈ nhTb := fun w h => by
  obtain ⟨k, hk, e⟩ := List.mem_map.mp h
  exact e ▸ nh_wd_ok (co_dec (N := 9) (P := fun k => nh_wd ([487, 489, 491, 493, 495, 497, 499, 501, 503].getD k 0) (u_lay RX0 TX0 k) = true) (by decide +kernel) (List.mem_range.mp hk))
theorem nhIn1 : ∀ w ∈ u_ws RX1 TX1 5, w ∈ nhTb := fun w h => by
  obtain ⟨k, hk, e⟩ := List.mem_map.mp h
  exact e ▸ nh_wd_ok (co_dec (N := 5) (P := fun k => nh_wd ([169, 171, 173, 175, 177].getD k 0) (u_lay RX1 TX1 k) = true) (by decide +kernel) (List.mem_range.mp hk))
theorem nhIn2 : ∀ w ∈ u_ws RX2 TX2 4, w ∈ nhTb := fun w h => by
  obtain ⟨k, hk, e⟩ := List.mem_map.mp h
  exact e ▸ nh_wd_ok (co_dec (N := 4) (P := fun k => nh_wd ([408, 410, 412, 414].getD k 0) (u_lay RX2 TX2 k) = true) (by decide +kernel) (List.mem_range.mp hk))
theorem nhIn3 : ∀ w ∈ u_ws RX3 TX3 14, w ∈ nhTb := fun w h => by
  obtain ⟨k, hk, e⟩ := List.mem_map.mp h
  exact e ▸ nh_wd_ok (co_dec (N := 14) (P := fun k => nh_wd ([232, 234, 236, 238, 240, 242, 244, 246, 248, 250, 252, 254, 256, 258].getD k 0) (u_lay RX3 TX3 k) = true) (by decide +kernel) (List.mem_range.mp hk))
theorem nhIn4 : ∀ w ∈ u_ws RX4 TX4 8, w ∈ nhTb := fun w h => by
  obtain ⟨k, hk, e⟩ := List.mem_map.mp h
  exact e ▸ nh_wd_ok (co_dec (N := 8) (P := fun k => nh_wd ([376, 378, 380, 382, 384, 386, 388, 390].getD k 0) (u_lay RX4 TX4 k) = true) (by decide +kernel) (List.mem_range.mp hk))
theorem nhIn5 : ∀ w ∈ u_ws RX5 TX5 7, w ∈ nhTb := fun w h => by
  obtain ⟨k, hk, e⟩ := List.mem_map.mp h
  exact e ▸ nh_wd_ok (co_dec (N := 7) (P := fun k => nh_wd ([453, 455, 457, 459, 461, 463, 465].getD k 0) (u_lay RX5 TX5 k) = true) (by decide +kernel) (List.mem_range.mp hk))
theorem nhIn6 : ∀ w ∈ u_ws RX6 TX6 13, w ∈ nhTb := fun w h => by
  obtain ⟨k, hk, e⟩ := List.mem_map.mp h
  exact e ▸ nh_wd_ok (co_dec (N := 13) (P := fun k => nh_wd ([314, 316, 318, 320, 322, 324, 326, 328, 330, 332, 334, 336, 338].getD k 0) (u_lay RX6 TX6 k) = true) (by decide +kernel) (List.mem_range.mp hk))
theorem nhIn7 : ∀ w ∈ u_ws RX7 TX7 10, w ∈ nhTb := fun w h => by
  obtain ⟨k, hk, e⟩ := List.mem_map.mp h
  exact e ▸ nh_wd_ok (co_dec (N := 10) (P := fun k => nh_wd ([525, 527, 529, 531, 533, 535, 537, 539, 541, 543].getD k 0) (u_lay RX7 TX7 k) = true) (by decide +kernel) (List.mem_range.mp hk))
theorem nhIn8 : ∀ w ∈ u_ws RX11 TX8 0, w ∈ nhTb := fun w h => by
  obtain ⟨k, hk, e⟩ := List.mem_map.mp h
  exact e ▸ nh_wd_ok (co_dec (N := 0) (P := fun k => nh_wd ([].getD k 0) (u_lay RX11 TX8 k) = true) (by decide +kernel) (List.mem_range.mp hk))
theorem nhIn9 : ∀ w ∈ u_ws RX9 TX9 7, w ∈ nhTb := fun w h => by
  obtain ⟨k, hk, e⟩ := List.mem_map.mp h
  exact e ▸ nh_wd_ok (co_dec (N := 7) (P := fun k => nh_wd ([284, 286, 288, 290, 292, 294, 296].getD k 0) (u_lay RX9 TX9 k) = true) (by decide +kernel) (List.mem_range.mp hk))
theorem nhIn10 : ∀ w ∈ u_ws RX10 TX10 4, w ∈ nhTb := fun w h => by
  obtain ⟨k, hk, e⟩ := List.mem_map.mp h
  exact e ▸ nh_wd_ok (co_dec (N := 4) (P := fun k => nh_wd ([428, 430, 432, 434].getD k 0) (u_lay RX10 TX10 k) = true) (by decide +kernel) (List.mem_range.mp hk))
theorem nhIn11 : ∀ w ∈ u_ws RX11 TX11 17, w ∈ nhTb := fun w h => by
  obtain ⟨k, hk, e⟩ := List.mem_map.mp h
  exact e ▸ nh_wd_ok (co_dec (N := 17) (P := fun k => nh_wd ([598, 600, 602, 604, 606, 608, 610, 612, 614, 616, 618, 620, 622, 624, 626, 628, 630].getD k 0) (u_lay RX11 TX11 k) = true) (by decide +kernel) (List.mem_range.mp hk))
theorem nhIn12 : ∀ w ∈ u_ws RX12 TX12 64, w ∈ nhTb := fun w h => by
  obtain ⟨k, hk, e⟩ := List.mem_map.mp h
  exact e ▸ nh_wd_ok (co_dec (N := 64) (P := fun k => nh_wd ([1466, 1468, 1470, 1472, 1474, 1476, 1478, 1480, 1482, 1484, 1486, 1488, 1490, 1492, 1494, 1496, 1498, 1500, 1502, 1504, 1506, 1508, 1510, 1512, 1514, 1516, 1518, 1520, 1522, 1524, 1526, 1528, 1530, 1532, 1534, 1536, 1538, 1540, 1542, 1544, 1546, 1548, 1550, 1552, 1554, 1556, 1558, 1560, 1562, 1564, 1566, 1568, 1570, 1572, 1574, 1576, 1578, 1580, 1582, 1584, 1586, 1588, 1590, 1592].getD k 0) (u_lay RX12 TX12 k) = true) (by decide +kernel) (List.mem_range.mp hk))
theorem nhCl_in {ci : Nat} {r : vw_C} (h : nhCl[ci]? = some r) : (∀ w ∈ u_ws r.1 r.2.1 r.2.2, w ∈ nhTb) ∧ (∀ k, k < r.2.2 → parseFieldDescriptor (r.2.1 k).2.2.1 = some (nhFt ci k)) ∧ ∀ a, a < r.2.2 → ∀ b, b < r.2.2 → a ≠ b → (r.2.1 a).2.1 ≠ (r.2.1 b).2.1 := by
  match ci, h with
  | 0, h => cases h; exact ⟨nhIn0, tyX0_ok, nmX0⟩
  | 1, h => cases h; exact ⟨nhIn1, tyX1_ok, nmX1⟩
  | 2, h => cases h; exact ⟨nhIn2, tyX2_ok, nmX2⟩
  | 3, h => cases h; exact ⟨nhIn3, tyX3_ok, nmX3⟩
  | 4, h => cases h; exact ⟨nhIn4, tyX4_ok, nmX4⟩
  | 5, h => cases h; exact ⟨nhIn5, tyX5_ok, nmX5⟩
  | 6, h => cases h; exact ⟨nhIn6, tyX6_ok, nmX6⟩
  | 7, h => cases h; exact ⟨nhIn7, tyX7_ok, nmX7⟩
  | 8, h => cases h; exact ⟨nhIn8, tyX8_ok, nmX8⟩
  | 9, h => cases h; exact ⟨nhIn9, tyX9_ok, nmX9⟩
  | 10, h => cases h; exact ⟨nhIn10, tyX10_ok, nmX10⟩
  | 11, h => cases h; exact ⟨nhIn11, tyX11_ok, nmX11⟩
  | 12, h => cases h; exact ⟨nhIn12, tyX12_ok, nmX12⟩
  | n + 13, h => simp at h
end
section
/-! fields, arrays, constants -/
def nhFx (p : Program) (c : Code) (s : State) (m : MethodId) (args : Array Value) (cc : ByteArray) (nL own : Nat) (D : nhD) : Prop :=
  p.tables.exec = Jvm.exec ∧ c.code = cc ∧ c.maxLocals = nL ∧ (∃ C, nhOw[own]? = some C ∧ s.vm.findClass C = some m.cls) ∧ (∀ w ∈ nhTb, w.before args s = true) ∧ nhK D s
theorem nhCell.kept {D : nhD} {Γ : Nat → Int} {g : Nat → Int32} {k : nhKd} {a : Nat} {H H' : Heap} (h : nhCell D Γ g k a H) (hq : H'[a]? = H[a]?) : nhCell D Γ g k a H' := by
  obtain ⟨t, ci, n, avs⟩ := k
  unfold nhCell at h ⊢
  dsimp only at h ⊢
  split at h
  · obtain ⟨V, h1, h2⟩ := h
    exact ⟨V, h1.kept hq, h2⟩
  · obtain ⟨z, h1, h2⟩ := h
    exact ⟨z, hq.trans h1, h2⟩
  · exact h.elim
theorem nhH.put {D : nhD} {kd : List nhKd} {Γ : Nat → Int} {g : Nat → Int32} {H H' : Heap} {a : Nat} {k : nhKd} (h : nhH D kd Γ g H) (hk : kd[(Γ a).toNat]? = some k) (hc : nhCell D Γ g k a H') (ho : ∀ q : Nat, q ≠ a → H'[q]? = H[q]?) : nhH D kd Γ g H' := by
  intro b hb
  by_cases e : b = a
  · subst e
    exact ⟨k, hk, hc⟩
  · obtain ⟨k', h1, h2⟩ := h b hb
    exact ⟨k', h1, h2.kept (ho b e)⟩
theorem nhFr.put {Γ : Nat → Int} {H0 H H' : Heap} {locs : List Loc} {a i : Nat} (h : nhFr Γ false H0 H locs) (ha : 0 ≤ Γ a) (z : H'.size = H.size) (ho : ∀ q : Nat, q ≠ a → H'[q]? = H[q]?) : nhFr Γ false H0 H' (locs ++ [⟨a, i⟩]) := by
  obtain ⟨h1, h2, h3, -⟩ := h
  refine ⟨z.trans h1, fun q hq => ?_, fun q hq => ?_, fun q => by cases q⟩
  · rw [ho q (fun e => by subst e; omega)]
    exact h2 q hq
  · rcases List.mem_append.mp hq with h | h
    · exact h3 q h
    · rw [List.mem_singleton] at h
      subst h
      exact ha
/-- the kind of what a reference shows -/
def nh_kd (kd : List nhKd) (v : nhV) : Option nhKd := if v.1 = 2 ∧ 0 ≤ v.2.1 then kd[v.2.1.toNat]? else none
theorem nh_kd_ok {D : nhD} {kd : List nhKd} {Γ : Nat → Int} {g : Nat → Int32} {H : Heap} {v : nhV} {x : Value} {k : nhKd} (h : nh_kd kd v = some k) (hv : nhOk Γ g v x) (hH : nhH D kd Γ g H) : ∃ a : Nat, x = .ref a ∧ Γ a = v.2.1 ∧ 0 ≤ Γ a ∧ kd[(Γ a).toNat]? = some k ∧ nhCell D Γ g k a H := by
  obtain ⟨t, lo, hi⟩ := v
  unfold nh_kd at h
  split at h
  · rename_i q
    obtain ⟨q1, q2⟩ := q
    dsimp only at q1 q2
    subst q1
    obtain ⟨a, rfl, ha⟩ := hv
    dsimp only at ha
    obtain ⟨k', h1, h2⟩ := hH a (by omega)
    have e : k' = k := by
      rw [ha] at h1
      exact Option.some.inj (h1.symm.trans h)
    subst e
    exact ⟨a, rfl, ha, by omega, h1, h2⟩
  · cases h
def nh_mf (me : List nhMm) (ci k o : Nat) : Option Nat := match me with
  | [] => none
  | q :: r => if q.1 == ci && q.2.1 == k && q.2.2.1 == o then some q.2.2.2 else nh_mf r ci k o
theorem nh_mf_ok {me : List nhMm} {ci k o x : Nat} (h : nh_mf me ci k o = some x) : (ci, k, o, x) ∈ me := by
  induction me with
  | nil => cases h
  | cons q r ih =>
    unfold nh_mf at h
    split at h
    · rename_i e
      cases h
      simp only [Bool.and_eq_true, beq_iff_eq] at e
      obtain ⟨⟨e1, e2⟩, e3⟩ := e
      subst e1 e2 e3
      exact List.mem_cons_self
    · exact List.mem_cons_of_mem _ (ih h)
def nh_fk (own idx : Nat) : Option (Nat × Nat × Nat × Nat) := (nhFl.getD own []).find? (fun q => q.1 == idx)
theorem nh_fk_ok {own idx : Nat} {q : Nat × Nat × Nat × Nat} (h : nh_fk own idx = some q) : q.1 = idx ∧ ∃ C r, nhOw[own]? = some C ∧ nhCl[q.2.1]? = some r ∧ q.2.2.1 < r.2.2 ∧ Cond.fieldLink C idx (r.2.1 q.2.2.1).1 (r.2.1 q.2.2.1).2.1 (r.2.1 q.2.2.1).2.2.1 ∈ nhTb := by
  have h1 : q.1 = idx := by simpa using List.find?_some h
  have h2 := nh_rows nhFl_all (List.mem_of_find?_eq_some h)
  refine ⟨h1, ?_⟩
  unfold nh_flB at h2
  split at h2
  · rename_i C r hC hr
    rw [Bool.and_eq_true] at h2
    refine ⟨C, r, hC, hr, of_decide_eq_true h2.1, ?_⟩
    rw [← h1]
    exact nh_wd_ok h2.2
  · cases h2
section NH12
variable {p : Program} {l : Launch} {e : Env} {R : Room} {s : State} {m : MethodId} {args : Array Value} {below : List Frame} {meth : Method} {c : Code} {Q : State → Prop}
variable {cc : ByteArray} {E : nhE} {nL : Nat} {pu : Bool} {pc own : Nat} {S : nhS} {ρ0 : List Value}
variable {H : Heap} {locs : List Loc} {ls : Array Slot} {rest : List Value} {cells slots : Nat} {D : nhD}
theorem nh_getW (hx : p.tables.exec = Jvm.exec) (hb : c.code = cc) (hts : ∀ w ∈ nhTb, w.before args s = true) (hK : nhK D s) {C : String} (hown : s.vm.findClass C = some m.cls) {ci k idx a : Nat} {r : vw_C} (hc : nhCl[ci]? = some r) (hk : k < r.2.2) (hl : Cond.fieldLink C idx (r.2.1 k).1 (r.2.1 k).2.1 (r.2.1 k).2.2.1 ∈ nhTb) {V : Nat → Value} (hO : t_OB a (D.1 ci) r.2.2 (D.2.1 ci) H V) (hd : decode cc pc = .ok (.getfield idx, 3))
    (kk : W p l e R s m args below meth c H locs cells slots Q (F0 m (pc + 3) ls (V k :: rest))) : W p l e R s m args below meth c H locs cells slots Q (F0 m pc ls (.ref a :: rest)) := by
  obtain ⟨C', T, N⟩ := r
  obtain ⟨cell, q1, q2, q3, q4⟩ := hO
  obtain ⟨hS, hfc, kC, hkC, hkind⟩ := hK.1 ci _ hc
  obtain ⟨cf, kf, fi, f, hi, hsl⟩ := hS k hk
  refine W.getf hx hb hown (hts _ hl) hi (u_facts hfc hkC (u_lays hts (nhCl_in hc).1 hk) hi).1 q1 (by rw [q3]; exact fun h => by cases h) (v := V k) ?_ rfl rfl hd kk
  rw [hsl]
  exact q4 k hk
theorem nh_putW (hx : p.tables.exec = Jvm.exec) (hb : c.code = cc) (hts : ∀ w ∈ nhTb, w.before args s = true) (hK : nhK D s) {C : String} (hown : s.vm.findClass C = some m.cls) {ci k idx a : Nat} {r : vw_C} (hc : nhCl[ci]? = some r) (hk : k < r.2.2) (hl : Cond.fieldLink C idx (r.2.1 k).1 (r.2.1 k).2.1 (r.2.1 k).2.2.1 ∈ nhTb) (hfin : (r.2.1 k).2.2.2 = false) {V : Nat → Value} (hO : t_OB a (D.1 ci) r.2.2 (D.2.1 ci) H V) {v : Value} (hn : narrow (nhFt ci k) v = v) (hfit : fits (nhFt ci k) v = true) (hd : decode cc pc = .ok (.putfield idx, 3))
    (kk : ∀ (H' : Heap) (cell : Cell), H[a]? = some cell → H'[a]? = some (cell.setSlot (D.2.1 ci k) v) → (∀ j, j < r.2.2 → j ≠ k → D.2.1 ci j ≠ D.2.1 ci k) → t_OB a (D.1 ci) r.2.2 (D.2.1 ci) H' (updV V k v) → H'.size = H.size → (∀ q : Nat, q ≠ a → H'[q]? = H[q]?) → W p l e R s m args below meth c H' (locs ++ [⟨a, D.2.1 ci k⟩]) cells slots Q (F0 m (pc + 3) ls rest)) : W p l e R s m args below meth c H locs cells slots Q (F0 m pc ls (v :: .ref a :: rest)) := by
  obtain ⟨C', T, N⟩ := r
  obtain ⟨hin, hty, hnm⟩ := nhCl_in hc
  have hKv : va_K (D.1, D.2.1) nhCl [] s := ⟨hK.1, fun k q h => by simp at h⟩
  have hap := va_apart (own := C) hts hin (nhFt ci) hty hnm hKv hc
  obtain ⟨cell, q1, q2, q3, q4⟩ := hO
  obtain ⟨hS, hfc, kC, hkC, hkind⟩ := hK.1 ci _ hc
  obtain ⟨cf, kf, fi, f, hi, hsl⟩ := hS k hk
  have hlay := hts _ (hin _ (u_in_lay hk))
  unfold u_lay at hlay
  rw [if_neg (by rw [hfin]; decide)] at hlay
  have hst := (u_facts hfc hkC (u_lays hts hin hk) hi).1
  have h6 := u_store hfc hkC hkind hlay hi (hty k hk) hn hfit
  refine W.putK hx hb (f := f) ⟨hown, hts _ hl, ⟨_, _, _, hi⟩, hst⟩ (by rw [q2]; exact h6) q1 q3 (by rw [hsl]; exact k2_hasslot (q4 k hk)) rfl rfl hd fun H' e1 e2 e3 => ?_
  rw [hsl] at e1 ⊢
  exact kk H' cell q1 e1 (fun j hj hne => hap j k hj hk hne) ⟨_, e1, q2, q3, t_set q4 hap hk v⟩ e2 e3
/-- getfield -/
def nh_sGet (kd : List nhKd) (own : Nat) (S : nhS) (i : Instr) (len : Nat) : Option nhS := match i with
  | .getfield idx => match S.2.2.1 with
    | o :: rest => match S.1[o]?, nh_fk own idx with
      | some v, some q => match nh_kd kd v, nhCl[q.2.1]? with
        | some k, some r => if k.1 = 0 ∧ k.2.1 = q.2.1 ∧ k.2.2.1 = r.2.2 ∧ len = 3 then (match nh_mf S.2.2.2.1 q.2.1 q.2.2.1 o with
          | some x => some (S.1, S.2.1, x :: rest, S.2.2.2)
          | none => some (S.1 ++ [k.2.2.2.getD q.2.2.1 (8, 0, 0)], S.2.1, S.1.length :: rest, (q.2.1, q.2.2.1, o, S.1.length) :: S.2.2.2.1, S.2.2.2.2)) else none
        | _, _ => none
      | _, _ => none
    | _ => none
  | _ => none
theorem nh_sGet_ok (hF : nhFx p c s m args cc nL own E.1) {i : Instr} {len : Nat} (hd : decode cc pc = .ok (i, len)) {S' : nhS} (h : nh_sGet E.2.1 own S i len = some S')
    (k : nhGo p l e R s m args below meth c Q E nL pu (pc + len) S' ρ0) : nhGo p l e R s m args below meth c Q E nL pu pc S ρ0 := by
  intro ρ H locs ls st hρ hR
  obtain ⟨hx, hb, hml, ⟨C, hC, hown⟩, hts, hK⟩ := hF
  have hs := hR.2.2.1
  unfold nh_sGet at h
  split at h
  · rename_i idx
    split at h
    · rename_i o rest hst
      rw [hst] at hs
      obtain ⟨vx, st2, rfl, ho, hs2⟩ := hs.inv1
      split at h
      · rename_i v q hv hq
        split at h
        · rename_i kk r hkk hr
          split at h
          · rename_i hc
            obtain ⟨c1, c2, c3, rfl⟩ := hc
            obtain ⟨x', g1, g2⟩ := hR.1.2 o v hv
            rw [ho] at g1; cases g1
            obtain ⟨a, rfl, ha1, ha2, ha3, ha4⟩ := nh_kd_ok hkk g2 hR.2.2.2.2.2.2.1
            obtain ⟨f1, C', r', f2, f3, f4, f5⟩ := nh_fk_ok hq
            rw [hC] at f2; cases f2
            rw [hr] at f3; cases f3
            obtain ⟨t, ci, N, avs⟩ := kk
            dsimp only at c1 c2 c3
            subst c1 c2 c3
            obtain ⟨V, hV1, hV2⟩ := ha4
            dsimp only at hV1 hV2
            split at h
            · rename_i x hm
              cases h
              obtain ⟨a', y, cell, m1, m2, m3, m4⟩ := hR.2.2.2.1 _ (nh_mf_ok hm)
              dsimp only at m1 m2 m4
              rw [ho] at m1; cases m1
              have eV : V q.2.2.1 = y := by
                obtain ⟨cell', n1, n2, n3, n4⟩ := hV1
                rw [m3] at n1; cases n1
                exact Option.some.inj ((n4 _ f4).symm.trans m4)
              refine nh_getW hx hb hts hK hown hr f4 f5 hV1 hd (k ρ H locs ls _ hρ ?_)
              rw [eV]
              exact nh_stack_ok (is := x :: rest) hR ⟨m2, hs2⟩
            · cases h
              refine nh_getW hx hb hts hK hown hr f4 f5 hV1 hd (k (ρ ++ [V q.2.2.1]) H locs ls _ (hρ.tr (nhX.push ρ _)) ?_)
              have h1 := nh_push_ok (v := avs.getD q.2.2.1 (8, 0, 0)) hR hs2 (hV2 _ f4)
              obtain ⟨b1, b2, b3, b4, b5⟩ := h1
              refine ⟨b1, b2, b3, fun w hw => ?_, b5⟩
              rcases List.mem_cons.mp hw with rfl | hw
              · obtain ⟨cell', n1, n2, n3, n4⟩ := hV1
                exact ⟨a, V q.2.2.1, cell', nhX.push ρ _ _ _ ho, by show (ρ ++ [V q.2.2.1])[S.1.length]? = _; rw [← hR.1.1]; exact nhX.last ρ _, n1, n4 _ f4⟩
              · exact b4 w hw
          · cases h
        · cases h
      · cases h
    · cases h
  · cases h
def nh_fit (ty : FieldType) (v : nhV) : Bool := match ty with
  | .int => nh_cat v == 0
  | .long => nh_cat v == 1
  | .boolean => nh_le v (0, 0, 1)
  | .object _ => nh_cat v == 2
  | .array _ => nh_cat v == 2
  | _ => false
theorem nh_fit_ok {Γ : Nat → Int} {g : Nat → Int32} {ty : FieldType} {v : nhV} {x : Value} (h : nh_fit ty v = true) (hv : nhOk Γ g v x) : narrow ty x = x ∧ fits ty x = true := by
  have hc := nh_cat_ok hv
  unfold nh_fit at h
  split at h
  · obtain ⟨a, rfl⟩ := hc.1 (by simpa using h)
    exact ⟨rfl, rfl⟩
  · obtain ⟨a, rfl⟩ := hc.2.1 (by simpa using h)
    exact ⟨rfl, rfl⟩
  · obtain ⟨a, rfl, h1, h2⟩ := nh_le_ok h hv
    dsimp only at h1 h2
    have e : a = 0 ∨ a = 1 := by
      rcases (show a.toInt = 0 ∨ a.toInt = 1 by omega) with q | q
      · exact Or.inl (Int32.toInt_inj.mp (by rw [q]; rfl))
      · exact Or.inr (Int32.toInt_inj.mp (by rw [q]; rfl))
    rcases e with rfl | rfl
    · exact ⟨rfl, rfl⟩
    · exact ⟨rfl, rfl⟩
  · rcases hc.2.2 (by simpa using h) with rfl | ⟨a, rfl⟩
    · exact ⟨rfl, rfl⟩
    · exact ⟨rfl, rfl⟩
  · rcases hc.2.2 (by simpa using h) with rfl | ⟨a, rfl⟩
    · exact ⟨rfl, rfl⟩
    · exact ⟨rfl, rfl⟩
  · cases h
/-- which fields stay known when field k of an object of kind kk is written (a class that is none: an array) -/
def nh_kpM (vs : List nhV) (kk : Int) (ci k N : Nat) (q : nhMm) : Bool := (match vs[q.2.2.1]? with
  | some v => v.1 == 2 && v.2.1 != kk
  | none => false) || (q.1 == ci && q.2.1 != k && decide (q.2.1 < N))
theorem nh_kpM_far {Γ : Nat → Int} {g : Nat → Int32} {vs : List nhV} {ρ : List Value} {kk : Int} {o a a2 : Nat} (hA : nhAll Γ g vs ρ) (h : (match vs[o]? with
  | some v => v.1 == 2 && v.2.1 != kk
  | none => false) = true) (ho : ρ[o]? = some (.ref a2)) (ha : Γ a = kk) : a2 ≠ a := by
  split at h
  · rename_i v hv
    obtain ⟨x, h1, h2⟩ := hA.2 o v hv
    rw [ho] at h1; cases h1
    simp only [Bool.and_eq_true, beq_iff_eq, bne_iff_ne, ne_eq] at h
    obtain ⟨t, lo, hi⟩ := v
    dsimp only at h
    obtain ⟨rfl, h⟩ := h
    obtain ⟨b, e1, e2⟩ := h2
    cases e1
    intro e
    subst e
    exact h (e2.symm.trans ha)
  · cases h
/-- putfield -/
def nh_sPut (kd : List nhKd) (own : Nat) (S : nhS) (i : Instr) (len : Nat) : Option nhS := match i with
  | .putfield idx => match S.2.2.1 with
    | x :: o :: rest => match S.1[o]?, S.1[x]?, nh_fk own idx with
      | some v, some w, some q => match nh_kd kd v, nhCl[q.2.1]? with
        | some k, some r => if k.1 = 0 ∧ k.2.1 = q.2.1 ∧ k.2.2.1 = r.2.2 ∧ len = 3 ∧ (r.2.1 q.2.2.1).2.2.2 = false ∧ nh_fit (nhFt q.2.1 q.2.2.1) w = true ∧ nh_le w (k.2.2.2.getD q.2.2.1 (8, 0, 0)) = true then
            some (S.1, S.2.1, rest, (q.2.1, q.2.2.1, o, x) :: S.2.2.2.1.filter (nh_kpM S.1 v.2.1 q.2.1 q.2.2.1 r.2.2), S.2.2.2.2) else none
        | _, _ => none
      | _, _, _ => none
    | _ => none
  | _ => none
theorem nh_sPut_ok (hF : nhFx p c s m args cc nL own E.1) {i : Instr} {len : Nat} (hd : decode cc pc = .ok (i, len)) {S' : nhS} (h : nh_sPut E.2.1 own S i len = some S')
    (k : nhGo p l e R s m args below meth c Q E nL false (pc + len) S' ρ0) : nhGo p l e R s m args below meth c Q E nL false pc S ρ0 := by
  intro ρ H locs ls st hρ hR
  obtain ⟨hx, hb, hml, ⟨C, hC, hown⟩, hts, hK⟩ := hF
  have hs := hR.2.2.1
  unfold nh_sPut at h
  split at h
  · rename_i idx
    split at h
    · rename_i x o rest hst
      rw [hst] at hs
      obtain ⟨vv, st1, rfl, hx1, hs1⟩ := hs.inv1
      obtain ⟨vx, st2, rfl, ho, hs2⟩ := hs1.inv1
      split at h
      · rename_i v w q hv hw hq
        split at h
        · rename_i kk r hkk hr
          split at h
          · rename_i hc
            obtain ⟨c1, c2, c3, rfl, c5, c6, c7⟩ := hc
            cases h
            obtain ⟨x', g1, g2⟩ := hR.1.2 o v hv
            rw [ho] at g1; cases g1
            obtain ⟨x', g3, g4⟩ := hR.1.2 x w hw
            rw [hx1] at g3; cases g3
            obtain ⟨a, rfl, ha1, ha2, ha3, ha4⟩ := nh_kd_ok hkk g2 hR.2.2.2.2.2.2.1
            obtain ⟨f1, C', r', f2, f3, f4, f5⟩ := nh_fk_ok hq
            rw [hC] at f2; cases f2
            rw [hr] at f3; cases f3
            obtain ⟨t, ci, N, avs⟩ := kk
            dsimp only at c1 c2 c3 c7
            subst c1 c2 c3
            obtain ⟨V, hV1, hV2⟩ := ha4
            dsimp only at hV1 hV2
            obtain ⟨n1, n2⟩ := nh_fit_ok c6 g4
            refine nh_putW hx hb hts hK hown hr f4 f5 c5 hV1 n1 n2 hd (fun H' cell e0 e1 eap e2 e3 e4 => k ρ H' _ ls st2 hρ ?_)
            obtain ⟨b1, b2, b3, b4, b5, b6, b7, b8⟩ := hR
            refine ⟨b1, b2, hs2, fun d hd' => ?_, b5, b6, ?_, b8.put ha2 e3 e4⟩
            · rcases List.mem_cons.mp hd' with rfl | hd'
              · refine ⟨a, vv, _, ho, hx1, e1, ?_⟩
                obtain ⟨cell', z1, z2, z3, z4⟩ := e2
                rw [e1] at z1; cases z1
                have := z4 _ f4
                simpa [updV] using this
              · obtain ⟨d1, d2⟩ := List.mem_filter.mp hd'
                obtain ⟨a2, y, cell2, m1, m2, m3, m4⟩ := b4 d d1
                unfold nh_kpM at d2
                rcases Bool.or_eq_true _ _ ▸ d2 with d3 | d3
                · have hne := nh_kpM_far b1 d3 m1 ha1
                  exact ⟨a2, y, cell2, m1, m2, by rw [e4 a2 hne]; exact m3, m4⟩
                · by_cases hne : a2 = a
                  · subst hne
                    rw [e0] at m3; cases m3
                    refine ⟨a2, y, _, m1, m2, e1, ?_⟩
                    simp only [Bool.and_eq_true, beq_iff_eq, bne_iff_ne, ne_eq, decide_eq_true_eq] at d3
                    rw [d3.1.1] at m4 ⊢
                    have hsl : E.1.2.1 q.2.1 d.2.1 ≠ E.1.2.1 q.2.1 q.2.2.1 := eap _ d3.2 d3.1.2
                    simp only [Cell.setSlot]
                    rw [Array.getElem?_setIfInBounds_ne (Ne.symm hsl)]
                    exact m4
                  · exact ⟨a2, y, cell2, m1, m2, by rw [e4 a2 hne]; exact m3, m4⟩
            · refine b7.put ha3 ⟨updV V q.2.2.1 vv, e2, fun j hj => ?_⟩ e4
              dsimp only
              by_cases ej : j = q.2.2.1
              · subst ej
                simp only [updV, if_true]
                exact nh_le_ok c7 g4
              · simp only [updV, if_neg ej]
                exact hV2 j hj
          · cases h
        · cases h
      · cases h
    · cases h
  · cases h
end NH12
end
section
/-! arrays, constants -/
def nh_join (u v : nhV) : nhV := if u.1 = 0 ∧ v.1 = 0 then (0, min u.2.1 v.2.1, max u.2.2 v.2.2) else u
/-- what is read of elements at lo .. hi -/
def nh_rd (els : List nhV) (lo hi : Int) : Option nhV := match els with
  | [x] => some x
  | _ => if lo = hi then some (els.getD lo.toNat (8, 0, 0)) else (match els with
    | [] => none
    | x :: r => if els.all (fun y => nh_le y (r.foldl nh_join x)) then some (r.foldl nh_join x) else none)
theorem nh_rd_ok {Γ : Nat → Int} {g : Nat → Int32} {els : List nhV} {lo hi : Int} {v : nhV} {j : Nat} {x : Value} (h : nh_rd els lo hi = some v) (h1 : lo ≤ j) (h2 : (j : Int) ≤ hi) (hl : els.length = 1 ∨ j < els.length) (hx : nhOk Γ g (nh_el els j) x) : nhOk Γ g v x := by
  unfold nh_rd at h
  split at h
  · cases h
    exact hx
  · rename_i hne
    have he : nh_el els j = els.getD j (8, 0, 0) := by
      unfold nh_el
      split
      · rename_i y
        exact absurd rfl (hne y)
      · rfl
    rw [he] at hx
    split at h
    · cases h
      rw [show lo.toNat = j by omega]
      exact hx
    · split at h
      · cases h
      · rename_i y r
        split at h
        · rename_i ha
          cases h
          have hj : j < (y :: r).length := by
            rcases hl with h | h
            · exfalso
              cases r with
              | nil => exact hne y rfl
              | cons z r => simp at h
            · exact h
          have hm : (y :: r).getD j (8, 0, 0) ∈ y :: r := by
            rw [List.getD_eq_getElem?_getD, List.getElem?_eq_getElem hj]
            exact List.getElem_mem hj
          exact nh_le_ok (List.all_eq_true.mp ha _ hm) hx
        · cases h
/-- what may be written at lo .. hi -/
def nh_wr (els : List nhV) (lo hi : Int) (w : nhV) : Bool := match els with
  | [x] => nh_le w x
  | _ => if lo = hi then nh_le w (els.getD lo.toNat (8, 0, 0)) else els.all (fun y => nh_le w y)
theorem nh_wr_ok {Γ : Nat → Int} {g : Nat → Int32} {els : List nhV} {lo hi : Int} {w : nhV} {j : Nat} {x : Value} (h : nh_wr els lo hi w = true) (h1 : lo ≤ j) (h2 : (j : Int) ≤ hi) (hl : els.length = 1 ∨ j < els.length) (hx : nhOk Γ g w x) : nhOk Γ g (nh_el els j) x := by
  unfold nh_wr at h
  split at h
  · exact nh_le_ok h hx
  · rename_i hne
    have he : nh_el els j = els.getD j (8, 0, 0) := by
      unfold nh_el
      split
      · rename_i y
        exact absurd rfl (hne y)
      · rfl
    rw [he]
    split at h
    · rw [show lo.toNat = j by omega] at h
      exact nh_le_ok h hx
    · have hj : j < els.length := by
        rcases hl with h | h
        · exfalso
          match els, h with
          | [y], _ => exact hne y rfl
        · exact h
      have hm : els.getD j (8, 0, 0) ∈ els := by
        rw [List.getD_eq_getElem?_getD, List.getElem?_eq_getElem hj]
        exact List.getElem_mem hj
      exact nh_le_ok (List.all_eq_true.mp h _ hm) hx
/-- which instruction reads, writes which array type -/
def nh_aI (i : Instr) (ti : Nat) : Bool := match i, ti with
  | .iaload, 0 => true
  | .baload, 1 => true
  | .baload, 3 => true
  | .laload, 2 => true
  | .aaload, 4 => true
  | _, _ => false
/-- what is kept of a value written by it -/
def nh_sI (i : Instr) (ti : Nat) (w : nhV) : Option nhV := match i, ti with
  | .iastore, 0 => if nh_cat w = 0 then some w else none
  | .bastore, 1 => if nh_cat w = 0 then some (0, -128, 127) else none
  | .bastore, 3 => if nh_cat w = 0 then some (0, 0, 1) else none
  | .lastore, 2 => if nh_cat w = 1 then some w else none
  | _, _ => none
theorem nh_ix {j : Int32} {n : Nat} (h1 : 0 ≤ j.toInt) (h2 : j.toInt < n) : ¬ (j < 0 ∨ n ≤ j.toNatClampNeg) ∧ (j.toNatClampNeg : Int) = j.toInt := by
  obtain ⟨k, hk, e, ek⟩ := nh_nI h1
  have hc : j.toNatClampNeg = k := by rw [e]; exact nI_clamp hk
  exact ⟨(vp_in_iff (x := j) (n := n)).mpr ⟨h1, h2⟩, by rw [hc]; omega⟩
section NH13
variable {p : Program} {l : Launch} {e : Env} {R : Room} {s : State} {m : MethodId} {args : Array Value} {below : List Frame} {meth : Method} {c : Code} {Q : State → Prop}
variable {cc : ByteArray} {E : nhE} {nL : Nat} {pu : Bool} {pc own : Nat} {S : nhS} {ρ0 : List Value}
theorem nh_aldW {H : Heap} {locs : List Loc} {ls : Array Slot} {rest : List Value} {cells slots : Nat} {D : nhD} (hx : p.tables.exec = Jvm.exec) (hb : c.code = cc) (hK : nhK D s) {i : Instr} {ti n a : Nat} (hi : nh_aI i ti = true) {z : Nat → Value} (ha : H[a]? = some (arrV (D.2.2 ti) n z)) {j : Int32} (h1 : 0 ≤ j.toInt) (h2 : j.toInt < n) (hd : decode cc pc = .ok (i, 1))
    (k : W p l e R s m args below meth c H locs cells slots Q (F0 m (pc + 1) ls (z j.toNatClampNeg :: rest))) : W p l e R s m args below meth c H locs cells slots Q (F0 m pc ls (.int j :: .ref a :: rest)) := by
  have hin := (nh_ix h1 h2).1
  have hlt : j.toNatClampNeg < n := Nat.not_le.mp fun q => hin (Or.inr q)
  have hs : ¬ (j < 0 ∨ (arrV (D.2.2 ti) n z).slots.size ≤ j.toNatClampNeg) := by rw [arrV_size]; exact hin
  have hr := arrV_read (D.2.2 ti) z hlt
  unfold nh_aI at hi
  split at hi
  · exact W.iald hx hb ha ((hK.2 0 .int rfl).1 n z) (fun q => by cases q) hs hr rfl rfl hd k
  · exact W.bald hx hb ha ((hK.2 1 .byte rfl).1 n z) (fun q => by cases q) hs hr rfl rfl hd k
  · exact W.zald hx hb ha ((hK.2 3 .boolean rfl).1 n z) (fun q => by cases q) hs hr rfl rfl hd k
  · exact W.lald hx hb ha ((hK.2 2 .long rfl).1 n z) (fun q => by cases q) hs hr rfl rfl hd k
  · exact W.aald hx hb ha ((hK.2 4 _ rfl).1 n z) rfl (fun q => by cases q) hs hr rfl rfl hd k
  · cases hi
theorem nh_and1 (x : Int32) : 0 ≤ (x &&& 1).toInt ∧ (x &&& 1).toInt ≤ 1 := nh_andR x (y := 1) (by decide)
theorem nh_astW {Γ : Nat → Int} {g : Nat → Int32} {H : Heap} {locs : List Loc} {ls : Array Slot} {rest : List Value} {cells slots : Nat} {D : nhD} (hx : p.tables.exec = Jvm.exec) (hb : c.code = cc) (hK : nhK D s) {i : Instr} {ti n a : Nat} {w w' : nhV} (hi : nh_sI i ti w = some w') {x : Value} (hw : nhOk Γ g w x) {z : Nat → Value} (ha : H[a]? = some (arrV (D.2.2 ti) n z)) {j : Int32} (h1 : 0 ≤ j.toInt) (h2 : j.toInt < n) (hd : decode cc pc = .ok (i, 1))
    (k : ∀ (H' : Heap) (x' : Value), nhOk Γ g w' x' → H'[a]? = some (arrV (D.2.2 ti) n (updV z j.toNatClampNeg x')) → H'.size = H.size → (∀ q : Nat, q ≠ a → H'[q]? = H[q]?) → W p l e R s m args below meth c H' (locs ++ [⟨a, j.toNatClampNeg⟩]) cells slots Q (F0 m (pc + 1) ls rest)) : W p l e R s m args below meth c H locs cells slots Q (F0 m pc ls (x :: .int j :: .ref a :: rest)) := by
  have hin := (nh_ix h1 h2).1
  have hs : ¬ (j < 0 ∨ (arrV (D.2.2 ti) n z).slots.size ≤ j.toNatClampNeg) := by rw [arrV_size]; exact hin
  have hc := nh_cat_ok hw
  unfold nh_sI at hi
  split at hi
  · split at hi
    · rename_i q
      cases hi
      obtain ⟨b, rfl⟩ := hc.1 q
      exact W.iast hx hb ha ((hK.2 0 .int rfl).1 n z) (fun q => by cases q) hs rfl rfl hd (fun H' e1 e2 e3 => k H' _ hw (by rw [e1, arrV_store]) e2 e3)
    · cases hi
  · split at hi
    · rename_i q
      cases hi
      obtain ⟨b, rfl⟩ := hc.1 q
      have hr := nh_i2b_rng b
      exact W.bast hx hb ha ((hK.2 1 .byte rfl).1 n z) (fun q => by cases q) hs rfl rfl hd (fun H' e1 e2 e3 => k H' (.int b.toInt8.toInt32) ⟨_, rfl, hr.1, hr.2⟩ (by rw [e1, arrV_store]; rfl) e2 e3)
    · cases hi
  · split at hi
    · rename_i q
      cases hi
      obtain ⟨b, rfl⟩ := hc.1 q
      have hr := nh_and1 b
      exact W.zast hx hb ha ((hK.2 3 .boolean rfl).1 n z) (fun q => by cases q) hs rfl rfl hd (fun H' e1 e2 e3 => k H' (.int (b &&& 1)) ⟨_, rfl, hr.1, hr.2⟩ (by rw [e1, arrV_store]; rfl) e2 e3)
    · cases hi
  · split at hi
    · rename_i q
      cases hi
      obtain ⟨b, rfl⟩ := hc.2.1 q
      exact W.last hx hb ha ((hK.2 2 .long rfl).1 n z) (fun q => by cases q) hs rfl rfl hd (fun H' e1 e2 e3 => k H' _ hw (by rw [e1, arrV_store]) e2 e3)
    · cases hi
  · cases hi
/-- an array's read -/
def nh_sAld (kd : List nhKd) (S : nhS) (i : Instr) (len : Nat) : Option nhS := match S.2.2.1 with
  | x :: o :: rest => match S.1[o]?, S.1[x]? with
    | some v, some w => match nh_kd kd v, nh_iv w with
      | some k, some q => if k.1 = 1 ∧ nh_aI i k.2.1 = true ∧ len = 1 ∧ 0 ≤ q.1 ∧ q.2 < k.2.2.1 ∧ (k.2.2.2.length = 1 ∨ k.2.2.1 ≤ k.2.2.2.length) then (match nh_rd k.2.2.2 q.1 q.2 with
        | some u => some (nh_push S rest u)
        | none => none) else none
      | _, _ => none
    | _, _ => none
  | _ => none
theorem nh_sAld_ok (hF : nhFx p c s m args cc nL own E.1) {i : Instr} {len : Nat} (hd : decode cc pc = .ok (i, len)) {S' : nhS} (h : nh_sAld E.2.1 S i len = some S')
    (k : nhGo p l e R s m args below meth c Q E nL pu (pc + len) S' ρ0) : nhGo p l e R s m args below meth c Q E nL pu pc S ρ0 := by
  intro ρ H locs ls st hρ hR
  obtain ⟨hx, hb, hml, ⟨C, hC, hown⟩, hts, hK⟩ := hF
  have hs := hR.2.2.1
  unfold nh_sAld at h
  split at h
  · rename_i x o rest hst
    rw [hst] at hs
    obtain ⟨vv, st1, rfl, hx1, hs1⟩ := hs.inv1
    obtain ⟨vx, st2, rfl, ho, hs2⟩ := hs1.inv1
    split at h
    · rename_i v w hv hw
      split at h
      · rename_i kk q hkk hq
        split at h
        · rename_i hc
          obtain ⟨c1, c2, rfl, c4, c5, c6⟩ := hc
          split at h
          · rename_i u hu
            cases h
            obtain ⟨x', g1, g2⟩ := hR.1.2 o v hv
            rw [ho] at g1; cases g1
            obtain ⟨x', g3, g4⟩ := hR.1.2 x w hw
            rw [hx1] at g3; cases g3
            obtain ⟨a, rfl, ha1, ha2, ha3, ha4⟩ := nh_kd_ok hkk g2 hR.2.2.2.2.2.2.1
            obtain ⟨j, rfl, j1, j2⟩ := nh_iv_ok hq g4
            obtain ⟨t, ti, n, els⟩ := kk
            dsimp only at c1 c2 c5 c6 hu
            subst c1
            obtain ⟨z, hz1, hz2⟩ := ha4
            dsimp only at hz1 hz2
            have hix := nh_ix (j := j) (n := n) (by omega) (by omega)
            refine nh_aldW hx hb hK c2 hz1 (by omega) (by omega) hd (k (ρ ++ [z j.toNatClampNeg]) H locs ls _ (hρ.tr (nhX.push ρ _)) (nh_push_ok hR hs2 ?_))
            exact nh_rd_ok hu (by omega) (by omega) (by omega) (hz2 _ (by omega))
          · cases h
        · cases h
      · cases h
    · cases h
  · cases h
/-- an array's write -/
def nh_sAst (kd : List nhKd) (S : nhS) (i : Instr) (len : Nat) : Option nhS := match S.2.2.1 with
  | y :: x :: o :: rest => match S.1[o]?, S.1[x]?, S.1[y]? with
    | some v, some w, some u => match nh_kd kd v, nh_iv w with
      | some k, some q => if k.1 = 1 ∧ len = 1 ∧ 0 ≤ q.1 ∧ q.2 < k.2.2.1 ∧ (k.2.2.2.length = 1 ∨ k.2.2.1 ≤ k.2.2.2.length) then (match nh_sI i k.2.1 u with
        | some u' => if nh_wr k.2.2.2 q.1 q.2 u' = true then some (S.1, S.2.1, rest, S.2.2.2.1.filter (nh_kpM S.1 v.2.1 99 0 0), S.2.2.2.2) else none
        | none => none) else none
      | _, _ => none
    | _, _, _ => none
  | _ => none
theorem nh_sAst_ok (hF : nhFx p c s m args cc nL own E.1) {i : Instr} {len : Nat} (hd : decode cc pc = .ok (i, len)) {S' : nhS} (h : nh_sAst E.2.1 S i len = some S')
    (k : nhGo p l e R s m args below meth c Q E nL false (pc + len) S' ρ0) : nhGo p l e R s m args below meth c Q E nL false pc S ρ0 := by
  intro ρ H locs ls st hρ hR
  obtain ⟨hx, hb, hml, ⟨C, hC, hown⟩, hts, hK⟩ := hF
  have hs := hR.2.2.1
  unfold nh_sAst at h
  split at h
  · rename_i y x o rest hst
    rw [hst] at hs
    obtain ⟨vy, st0, rfl, hy1, hs0⟩ := hs.inv1
    obtain ⟨vv, st1, rfl, hx1, hs1⟩ := hs0.inv1
    obtain ⟨vx, st2, rfl, ho, hs2⟩ := hs1.inv1
    split at h
    · rename_i v w u hv hw hu
      split at h
      · rename_i kk q hkk hq
        split at h
        · rename_i hc
          obtain ⟨c1, rfl, c4, c5, c6⟩ := hc
          split at h
          · rename_i u' hu'
            split at h
            · rename_i hwr
              cases h
              obtain ⟨x', g1, g2⟩ := hR.1.2 o v hv
              rw [ho] at g1; cases g1
              obtain ⟨x', g3, g4⟩ := hR.1.2 x w hw
              rw [hx1] at g3; cases g3
              obtain ⟨x', g5, g6⟩ := hR.1.2 y u hu
              rw [hy1] at g5; cases g5
              obtain ⟨a, rfl, ha1, ha2, ha3, ha4⟩ := nh_kd_ok hkk g2 hR.2.2.2.2.2.2.1
              obtain ⟨j, rfl, j1, j2⟩ := nh_iv_ok hq g4
              obtain ⟨t, ti, n, els⟩ := kk
              dsimp only at c1 c5 c6 hu' hwr
              subst c1
              obtain ⟨z, hz1, hz2⟩ := ha4
              dsimp only at hz1 hz2
              have hix := nh_ix (j := j) (n := n) (by omega) (by omega)
              refine nh_astW hx hb hK hu' g6 hz1 (by omega) (by omega) hd (fun H' x2 ok2 e1 e2 e3 => k ρ H' _ ls st2 hρ ?_)
              obtain ⟨b1, b2, b3, b4, b5, b6, b7, b8⟩ := hR
              refine ⟨b1, b2, hs2, fun d hd' => ?_, b5, b6, ?_, b8.put ha2 e2 e3⟩
              · obtain ⟨d1, d2⟩ := List.mem_filter.mp hd'
                obtain ⟨a2, y, cell2, m1, m2, m3, m4⟩ := b4 d d1
                unfold nh_kpM at d2
                rcases Bool.or_eq_true _ _ ▸ d2 with d3 | d3
                · have hne := nh_kpM_far b1 d3 m1 ha1
                  exact ⟨a2, y, cell2, m1, m2, by rw [e3 a2 hne]; exact m3, m4⟩
                · simp at d3
              · refine b7.put ha3 ⟨updV z j.toNatClampNeg x2, e1, fun i' hi' => ?_⟩ e3
                dsimp only
                by_cases ej : i' = j.toNatClampNeg
                · subst ej
                  simp only [updV, if_true]
                  exact nh_wr_ok hwr (by omega) (by omega) (by omega) ok2
                · simp only [updV, if_neg ej]
                  exact hz2 i' hi'
            · cases h
          · cases h
        · cases h
      · cases h
    · cases h
  · cases h
/-- an array's length -/
def nh_sLen (kd : List nhKd) (S : nhS) (i : Instr) (len : Nat) : Option nhS := match i with
  | .arraylength => match S.2.2.1 with
    | o :: rest => match S.1[o]? with
      | some v => match nh_kd kd v with
        | some k => if k.1 = 1 ∧ len = 1 ∧ k.2.2.1 < 2147483648 ∧ k.2.1 < 5 then some (nh_push S rest (0, k.2.2.1, k.2.2.1)) else none
        | none => none
      | none => none
    | _ => none
  | _ => none
theorem nh_sLen_ok (hF : nhFx p c s m args cc nL own E.1) {i : Instr} {len : Nat} (hd : decode cc pc = .ok (i, len)) {S' : nhS} (h : nh_sLen E.2.1 S i len = some S')
    (k : nhGo p l e R s m args below meth c Q E nL pu (pc + len) S' ρ0) : nhGo p l e R s m args below meth c Q E nL pu pc S ρ0 := by
  intro ρ H locs ls st hρ hR
  obtain ⟨hx, hb, hml, ⟨C, hC, hown⟩, hts, hK⟩ := hF
  have hs := hR.2.2.1
  unfold nh_sLen at h
  split at h
  · split at h
    · rename_i o rest hst
      rw [hst] at hs
      obtain ⟨vx, st2, rfl, ho, hs2⟩ := hs.inv1
      split at h
      · rename_i v hv
        split at h
        · rename_i kk hkk
          split at h
          · rename_i hc
            obtain ⟨c1, rfl, c3, c4⟩ := hc
            cases h
            obtain ⟨x', g1, g2⟩ := hR.1.2 o v hv
            rw [ho] at g1; cases g1
            obtain ⟨a, rfl, ha1, ha2, ha3, ha4⟩ := nh_kd_ok hkk g2 hR.2.2.2.2.2.2.1
            obtain ⟨t, ti, n, els⟩ := kk
            dsimp only at c1 c3 c4
            subst c1
            obtain ⟨z, hz1, hz2⟩ := ha4
            dsimp only at hz1 hz2
            have hn : (nI n).toInt = (n : Int) := nI_toInt (by omega)
            have hty : ∃ ty, nhTy[ti]? = some ty := by
              match ti, c4 with
              | 0, _ => exact ⟨_, rfl⟩
              | 1, _ => exact ⟨_, rfl⟩
              | 2, _ => exact ⟨_, rfl⟩
              | 3, _ => exact ⟨_, rfl⟩
              | 4, _ => exact ⟨_, rfl⟩
            obtain ⟨ty, hty⟩ := hty
            refine W.alen (n := nI n) hx hb hz1 ((hK.2 ti ty hty).1 n z) (by rw [arrV_size]; rfl) rfl rfl hd (k (ρ ++ [.int (nI n)]) H locs ls _ (hρ.tr (nhX.push ρ _)) (nh_push_ok (v := (0, (n : Int), (n : Int))) hR hs2 ⟨nI n, rfl, by dsimp only; omega, by dsimp only; omega⟩))
          · cases h
        · cases h
      · cases h
    · cases h
  · cases h
/-- constants -/
def nh_sLdc (own : Nat) (S : nhS) (i : Instr) (len : Nat) : Option nhS := match i with
  | .ldc idx => match (nhIc.getD own []).find? (fun q => q.1 == idx) with
    | some q => if len = 2 then some (nh_push S S.2.2.1 (nh_c32 q.2.1)) else none
    | none => none
  | .ldc_w idx => match (nhIc.getD own []).find? (fun q => q.1 == idx) with
    | some q => if len = 3 then some (nh_push S S.2.2.1 (nh_c32 q.2.1)) else none
    | none => none
  | .ldc2_w idx => match (nhLc.getD own []).find? (fun q => q.1 == idx) with
    | some q => if len = 3 then some (nh_push S S.2.2.1 (nh_c64 q.2.1)) else none
    | none => none
  | _ => none
theorem nh_sLdc_ok (hF : nhFx p c s m args cc nL own E.1) {i : Instr} {len : Nat} (hd : decode cc pc = .ok (i, len)) {S' : nhS} (h : nh_sLdc own S i len = some S')
    (k : nhGo p l e R s m args below meth c Q E nL pu (pc + len) S' ρ0) : nhGo p l e R s m args below meth c Q E nL pu pc S ρ0 := by
  intro ρ H locs ls st hρ hR
  obtain ⟨hx, hb, hml, ⟨C, hC, hown⟩, hts, hK⟩ := hF
  unfold nh_sLdc at h
  split at h
  · rename_i idx
    split at h
    · rename_i q hq
      split at h
      · rename_i hl
        cases h; subst hl
        have h1 : q.1 = idx := by simpa using List.find?_some hq
        have h2 := nh_rows nhIc_all (List.mem_of_find?_eq_some hq)
        unfold nh_icB at h2
        rw [hC] at h2
        have h3 := nh_wd_ok h2
        rw [h1] at h3
        exact lv_ldc hx hb hown (hts _ h3) hd (k (ρ ++ [_]) H locs ls _ (hρ.tr (nhX.push ρ _)) (nh_push_ok hR hR.2.2.1 (nh_c32_ok _ _ _)))
      · cases h
    · cases h
  · rename_i idx
    split at h
    · rename_i q hq
      split at h
      · rename_i hl
        cases h; subst hl
        have h1 : q.1 = idx := by simpa using List.find?_some hq
        have h2 := nh_rows nhIc_all (List.mem_of_find?_eq_some hq)
        unfold nh_icB at h2
        rw [hC] at h2
        have h3 := nh_wd_ok h2
        rw [h1] at h3
        exact lv_ldcw hx hb hown (hts _ h3) hd (k (ρ ++ [_]) H locs ls _ (hρ.tr (nhX.push ρ _)) (nh_push_ok hR hR.2.2.1 (nh_c32_ok _ _ _)))
      · cases h
    · cases h
  · rename_i idx
    split at h
    · rename_i q hq
      split at h
      · rename_i hl
        cases h; subst hl
        have h1 : q.1 = idx := by simpa using List.find?_some hq
        have h2 := nh_rows nhLc_all (List.mem_of_find?_eq_some hq)
        unfold nh_lcB at h2
        rw [hC] at h2
        have h3 := nh_wd_ok h2
        rw [h1] at h3
        exact lv_ldc2 hx hb hown (hts _ h3) hd (k (ρ ++ [_]) H locs ls _ (hρ.tr (nhX.push ρ _)) (nh_push_ok hR hR.2.2.1 (nh_c64_ok _ _ _)))
      · cases h
    · cases h
  · cases h
end NH13
end
section
/-! contracts: (how many arguments; variables: the arguments, then fields' values; fields that are known; the answer; what the answer says of a variable; fields known behind it; whether the heap stays) -/
abbrev nhCtr : Type := Nat × List nhV × List nhMm × Option nhV × List (Bool × Nat × Int × Int) × List (Nat × Nat × Nat × nhV) × Bool
def nhRet (Γ : Nat → Int) (g : Nat → Int32) (r : Option nhV) (v : Option Value) : Prop := match r, v with
  | none, none => True
  | some w, some x => nhOk Γ g w x
  | _, _ => False
def nhPc (E : nhE) (ct : nhCtr) (ρ : List Value) : Array Value → State → Prop := fun a U => a = (ρ.take ct.1).toArray ∧ nhAll E.2.2.1 E.2.2.2 ct.2.1 ρ ∧ nhMe E.1 ρ U.heap ct.2.2.1 ∧ nhH E.1 E.2.1 E.2.2.1 E.2.2.2 U.heap ∧ nhK E.1 U
def nhPost (E : nhE) (ct : nhCtr) (ρ : List Value) (v : Option Value) (H : Heap) : Prop :=
  nhRet E.2.2.1 E.2.2.2 ct.2.2.2.1 v ∧ (∀ q ∈ ct.2.2.2.2.1, ∃ r x : Int32, v = some (.int r) ∧ ρ[q.2.1]? = some (.int x) ∧ (decide (r ≠ 0) = q.1 → q.2.2.1 ≤ x.toInt ∧ x.toInt ≤ q.2.2.2)) ∧
  ∀ q ∈ ct.2.2.2.2.2.1, ∃ (a : Nat) (x : Value) (cell : Cell), ρ[q.2.2.1]? = some (.ref a) ∧ H[a]? = some cell ∧ cell.slots[E.1.2.1 q.1 q.2.1]? = some x ∧ nhOk E.2.2.1 E.2.2.2 q.2.2.2 x
def nhQc (E : nhE) (ct : nhCtr) (ρ : List Value) : Array Value → State → Outcome → State → Prop := fun _ st o t =>
  (∃ v : Option Value, o = .returned v ∧ nhPost E ct ρ v t.heap) ∧ nhH E.1 E.2.1 E.2.2.1 E.2.2.2 t.heap ∧ t.heap.size = st.heap.size ∧ (∀ q : Nat, E.2.2.1 q < 0 → t.heap[q]? = st.heap[q]?) ∧ (ct.2.2.2.2.2.2 = true → t.heap = st.heap)
/-- methods: name, code, number of locals, what it returns, static, number of parameters -/
abbrev nhMth : Type := MethodName × ByteArray × Nat × Option FieldType × Bool × Nat
def nhWs (y : nhMth) : List Cond := Cond.code y.1 y.2.1 y.2.2.1 y.2.2.2.1 :: nhTb
/-- an instance: a method, its contract, its frames, its locals' words -/
abbrev nhIn : Type := Nat × nhCtr × Nat × Nat
def nhRm (en : nhIn) : Room := { frames := en.2.2.1, cells := 0, slots := 0, locals := en.2.2.2 }
def nhMet (kd : List nhKd) (y : nhMth) (en : nhIn) : Prop := ∀ (l : Launch) (D : nhD) (Γ : Nat → Int) (g : Nat → Int32) (ρ : List Value), Met l y.1 (nhWs y) (nhRm en) (nhPc (D, kd, Γ, g) en.2.1 ρ) (nhQc (D, kd, Γ, g) en.2.1 ρ) 0 0 (fun a => 0 ≤ Γ a)
theorem nhPc_blind (E : nhE) (ct : nhCtr) (ρ : List Value) : FrameBlind (nhPc E ct ρ) := fun a U g mk q => by
  obtain ⟨h1, h2, h3, h4, h5⟩ := q
  exact ⟨h1, h2, h3, h4, nhK.moved (u := U) (U := U.calling g mk a) (Vm.Alike.refl U.vm) h5⟩
theorem nhGoodIn {y : nhMth} (h : Cond.code y.1 y.2.1 y.2.2.1 y.2.2.2.1 ∈ nhTb) : GoodIn nhTb (nhWs y) := by
  intro w hw
  rcases List.mem_cons.mp hw with rfl | hw
  · exact nhGoodIn0 _ h
  · exact nhGoodIn0 _ hw
/-- where the contract's variables are among a state's: the arguments, then by the fields -/
def nh_sig (me : List nhMm) : List nhMm → List Nat → Option (List Nat)
  | [], σ => some σ
  | q :: r, σ => match σ[q.2.2.1]? with
    | some o => match nh_mf me q.1 q.2.1 o with
      | some x => if q.2.2.2 = σ.length then nh_sig me r (σ ++ [x]) else none
      | none => none
    | none => none
def nh_pick (ρ : List Value) (σ : List Nat) : List Value := σ.map (fun j => (ρ[j]?).getD .null)
theorem nh_pick_at {ρ : List Value} {σ : List Nat} {i j : Nat} {x : Value} (h : σ[i]? = some j) (hx : ρ[j]? = some x) : (nh_pick ρ σ)[i]? = some x := by
  unfold nh_pick
  rw [List.getElem?_map, h]
  simp [hx]
theorem nh_sig_ok {D : nhD} {ρ : List Value} {H : Heap} {me : List nhMm} (hm : nhMe D ρ H me) : ∀ {ms : List nhMm} {σ σ' : List Nat}, nh_sig me ms σ = some σ' → (∀ j ∈ σ, ∃ x, ρ[j]? = some x) →
    (∀ (i j : Nat), σ[i]? = some j → σ'[i]? = some j) ∧ (∀ j ∈ σ', ∃ x, ρ[j]? = some x) ∧ nhMe D (nh_pick ρ σ') H ms
  | [], σ, σ', h, hj => by
    cases h
    exact ⟨fun _ _ h => h, hj, fun q hq => by cases hq⟩
  | q :: r, σ, σ', h, hj => by
    unfold nh_sig at h
    split at h
    · rename_i o ho
      split at h
      · rename_i x hx
        split at h
        · rename_i hq
          obtain ⟨a, v, cell, m1, m2, m3, m4⟩ := hm _ (nh_mf_ok hx)
          dsimp only at m1 m2 m4
          have hj' : ∀ j ∈ σ ++ [x], ∃ x, ρ[j]? = some x := fun j hjm => by
            rcases List.mem_append.mp hjm with h | h
            · exact hj j h
            · rw [List.mem_singleton] at h
              subst h
              exact ⟨v, m2⟩
          obtain ⟨k1, k2, k3⟩ := nh_sig_ok hm h hj'
          have kp : ∀ (i j : Nat), σ[i]? = some j → σ'[i]? = some j := fun i j hi => k1 i j (by rw [List.getElem?_append_left (List.getElem?_eq_some_iff.mp hi).1]; exact hi)
          refine ⟨kp, k2, fun w hw => ?_⟩
          rcases List.mem_cons.mp hw with rfl | hw
          · refine ⟨a, v, cell, nh_pick_at (kp _ _ ho) m1, nh_pick_at (k1 _ _ ?_) m2, m3, m4⟩
            rw [hq]
            simp
          · exact k3 w hw
        · cases h
      · cases h
    · cases h
/-- each is as the contract wants it -/
def nh_fitV (vs : List nhV) : List Nat → List nhV → Bool
  | [], [] => true
  | j :: σ, w :: ws => (match vs[j]? with
    | some u => nh_le u w
    | none => false) && nh_fitV vs σ ws
  | _, _ => false
theorem nh_fitV_ok {Γ : Nat → Int} {g : Nat → Int32} {vs : List nhV} {ρ : List Value} (hA : nhAll Γ g vs ρ) : ∀ {σ : List Nat} {ws : List nhV}, nh_fitV vs σ ws = true → nhAll Γ g ws (nh_pick ρ σ) ∧ ∀ j ∈ σ, ∃ x, ρ[j]? = some x
  | [], [], _ => ⟨⟨rfl, fun i v h => by simp at h⟩, fun j h => by cases h⟩
  | j :: σ, w :: ws, h => by
    unfold nh_fitV at h
    simp only [Bool.and_eq_true] at h
    obtain ⟨h1, h2⟩ := h
    obtain ⟨⟨k1, k2⟩, k3⟩ := nh_fitV_ok hA h2
    split at h1
    · rename_i u hu
      obtain ⟨x, q1, q2⟩ := hA.2 j u hu
      refine ⟨⟨by simp only [nh_pick, List.map_cons, List.length_cons] at k1 ⊢; rw [k1], fun i v hi => ?_⟩, fun j' hj' => ?_⟩
      · cases i with
        | zero =>
          rw [List.getElem?_cons_zero] at hi
          cases hi
          exact ⟨x, by simp [nh_pick, q1], nh_le_ok h1 q2⟩
        | succ i =>
          rw [List.getElem?_cons_succ] at hi
          obtain ⟨y, r1, r2⟩ := k2 i v hi
          exact ⟨y, by simpa [nh_pick] using r1, r2⟩
      · rcases List.mem_cons.mp hj' with rfl | hj'
        · exact ⟨x, q1⟩
        · exact k3 j' hj'
    · cases h1
  | [], _ :: _, h => by cases h
  | _ :: _, [], h => by cases h
/-- the state behind a call: fields known, as new variables -/
def nh_pm (σ : List Nat) : List (Nat × Nat × Nat × nhV) → nhS → Option nhS
  | [], S => some S
  | q :: r, S => match σ[q.2.2.1]? with
    | some o => nh_pm σ r (S.1 ++ [q.2.2.2], S.2.1, S.2.2.1, (q.1, q.2.1, o, S.1.length) :: S.2.2.2.1, S.2.2.2.2)
    | none => none
def nh_rc (σ : List Nat) (n : Nat) : List (Bool × Nat × Int × Int) → Option (List nhCo)
  | [] => some []
  | q :: r => match σ[q.2.1]?, nh_rc σ n r with
    | some j, some l => some ((n, q.1, j, q.2.2.1, q.2.2.2) :: l)
    | _, _ => none
theorem nh_rc_ok {ρ ρ1 : List Value} {σ : List Nat} {n : Nat} (hX : nhX ρ ρ1) {v : Option Value} {r0 : Int32} (hn : v = some (.int r0) → ρ1[n]? = some (.int r0)) (hσ : ∀ j ∈ σ, ∃ x, ρ[j]? = some x) : ∀ {rs : List (Bool × Nat × Int × Int)} {l : List nhCo}, nh_rc σ n rs = some l →
    (∀ q ∈ rs, ∃ r x : Int32, v = some (.int r) ∧ (nh_pick ρ σ)[q.2.1]? = some (.int x) ∧ (decide (r ≠ 0) = q.1 → q.2.2.1 ≤ x.toInt ∧ x.toInt ≤ q.2.2.2)) → (∀ r, v = some (.int r) → r = r0) → nhCn ρ1 l
  | [], l, h, _, _ => by
    cases h
    exact fun q hq => by cases hq
  | q :: r, l, h, hq, hr => by
    unfold nh_rc at h
    split at h
    · rename_i j l' hj hl
      cases h
      intro w hw
      rcases List.mem_cons.mp hw with rfl | hw
      · obtain ⟨r1, x, g1, g2, g3⟩ := hq q List.mem_cons_self
        have e := hr r1 g1
        subst e
        obtain ⟨y, hy⟩ := hσ j (List.mem_of_getElem? hj)
        rw [nh_pick_at hj hy] at g2
        cases g2
        exact ⟨r1, x, hn g1, hX _ _ hy, g3⟩
      · exact nh_rc_ok hX hn hσ hl (fun q hq' => hq q (List.mem_cons_of_mem _ hq')) hr w hw
    · cases h
theorem nh_pm_ok {E : nhE} {nL : Nat} {pu : Bool} {H0 : Heap} {H : Heap} {locs : List Loc} {ls : Array Slot} {st : List Value} {σ : List Nat} {ρ : List Value} (hσ : ∀ j ∈ σ, ∃ x, ρ[j]? = some x) : ∀ {ps : List (Nat × Nat × Nat × nhV)} {S S' : nhS} {ρ1 : List Value}, nh_pm σ ps S = some S' → nhX ρ ρ1 → nhR E nL pu H0 S ρ1 H locs ls st →
    (∀ q ∈ ps, ∃ (a : Nat) (x : Value) (cell : Cell), (nh_pick ρ σ)[q.2.2.1]? = some (.ref a) ∧ H[a]? = some cell ∧ cell.slots[E.1.2.1 q.1 q.2.1]? = some x ∧ nhOk E.2.2.1 E.2.2.2 q.2.2.2 x) → ∃ ρ2, nhX ρ1 ρ2 ∧ nhR E nL pu H0 S' ρ2 H locs ls st
  | [], S, S', ρ1, h, _, hR, _ => by
    cases h
    exact ⟨ρ1, nhX.rf _, hR⟩
  | q :: r, S, S', ρ1, h, hX, hR, hq => by
    unfold nh_pm at h
    split at h
    · rename_i o ho
      obtain ⟨a, x, cell, g1, g2, g3, g4⟩ := hq q List.mem_cons_self
      obtain ⟨y, hy⟩ := hσ o (List.mem_of_getElem? ho)
      rw [nh_pick_at ho hy] at g1
      cases g1
      have h1 : nhR E nL pu H0 (S.1 ++ [q.2.2.2], S.2.1, S.2.2.1, (q.1, q.2.1, o, S.1.length) :: S.2.2.2.1, S.2.2.2.2) (ρ1 ++ [x]) H locs ls st := by
        obtain ⟨b1, ⟨b2, b2', b2''⟩, b3, b4, b5, b6, b7⟩ := hR
        have hX2 := nhX.push ρ1 x
        refine ⟨b1.push g4, ⟨b2, b2', b2''.mono hX2⟩, nhSt.mono hX2 b3, fun w hw => ?_, b5.mono hX2, b6.mono hX2, b7⟩
        rcases List.mem_cons.mp hw with rfl | hw
        · exact ⟨a, x, cell, hX2 _ _ (hX _ _ hy), by show (ρ1 ++ [x])[S.1.length]? = _; rw [← b1.1]; exact nhX.last ρ1 x, g2, g3⟩
        · exact b4.mono hX2 w hw
      obtain ⟨ρ2, k1, k2⟩ := nh_pm_ok hσ h (hX.tr (nhX.push ρ1 x)) h1 (fun q hq' => hq q (List.mem_cons_of_mem _ hq'))
      exact ⟨ρ2, (nhX.push ρ1 x).tr k1, k2⟩
    · cases h
end
section
/-! methods by program: their names, codes, and the places of their words; the links -/
def nhMt_0 : List nhMth := [(⟨"NightHouses$Land", "clear", "()V"⟩, prog_5_method_2_code, 1, none, false, 0),
  (⟨"NightHouses$Land", "resize", "(II)V"⟩, prog_5_method_3_code, 3, none, false, 2),
  (⟨"NightHouses$Formula", "clear", "()V"⟩, prog_3_method_2_code, 1, none, false, 0),
  (⟨"NightHouses$Land", "finish", "()V"⟩, prog_5_method_6_code, 5, none, false, 0),
  (⟨"NightHouses$Land", "hasHedge", "(I)Z"⟩, prog_5_method_4_code, 2, (some .boolean), false, 1),
  (⟨"NightHouses$Night", "begin", "(LNightHouses$Land;)V"⟩, prog_6_method_2_code, 2, none, false, 1),
  (⟨"java/util/Arrays", "fill", "([II)V"⟩, prog_24_method_103_code, 4, none, true, 2),
  (⟨"NightHouses$Sightings", "forget", "()V"⟩, prog_9_method_2_code, 1, none, false, 0),
  (⟨"NightHouses", "feed", "(IIIII)I"⟩, prog_1_method_2_code, 6, (some .int), false, 5),
  (⟨"NightHouses", "putNumber", "(I)V"⟩, prog_1_method_3_code, 3, none, false, 1),
  (⟨"NightHouses", "end", "(I)I"⟩, prog_1_method_4_code, 2, (some .int), false, 1),
  (⟨"NightHouses", "land", "()I"⟩, prog_1_method_5_code, 2, (some .int), false, 0),
  (⟨"NightHouses$Reader", "begin", "([BILNightHouses$Land;)V"⟩, prog_8_method_2_code, 4, none, false, 3),
  (⟨"NightHouses$Tokens", "begin", "([BI)V"⟩, prog_11_method_2_code, 3, none, false, 2),
  (⟨"NightHouses$Tokens", "advance", "()V"⟩, prog_11_method_6_code, 2, none, false, 0),
  (⟨"NightHouses$Tokens", "byteAt", "(I)I"⟩, prog_11_method_3_code, 2, (some .int), false, 1),
  (⟨"NightHouses$Tokens", "isLetter", "(I)Z"⟩, prog_11_method_4_code, 1, (some .boolean), true, 1),
  (⟨"NightHouses$Tokens", "passLetters", "()V"⟩, prog_11_method_7_code, 1, none, false, 0),
  (⟨"NightHouses$Tokens", "kindOfWord", "()I"⟩, prog_11_method_9_code, 6, (some .int), false, 0),
  (⟨"NightHouses$Tokens", "isDigit", "(I)Z"⟩, prog_11_method_5_code, 1, (some .boolean), true, 1),
  (⟨"NightHouses$Tokens", "passDigits", "()V"⟩, prog_11_method_8_code, 1, none, false, 0),
  (⟨"NightHouses$Reader", "read", "()Z"⟩, prog_8_method_3_code, 3, (some .boolean), false, 0),
  (⟨"NightHouses$Reader", "passFirst", "(Z)Z"⟩, prog_8_method_7_code, 2, (some .boolean), false, 1),
  (⟨"NightHouses$Reader", "pass", "(I)Z"⟩, prog_8_method_6_code, 2, (some .boolean), false, 1),
  (⟨"NightHouses$Reader", "refuseToken", "()Z"⟩, prog_8_method_5_code, 2, (some .boolean), false, 0),
  (⟨"NightHouses$Reader", "refuse", "(II)Z"⟩, prog_8_method_4_code, 3, (some .boolean), false, 2),
  (⟨"NightHouses$Reader", "readSize", "()Z"⟩, prog_8_method_9_code, 2, (some .boolean), false, 0),
  (⟨"NightHouses$Reader", "readNumber", "(II)Z"⟩, prog_8_method_8_code, 3, (some .boolean), false, 2),
  (⟨"NightHouses$Reader", "readHedge", "()Z"⟩, prog_8_method_11_code, 1, (some .boolean), false, 0),
  (⟨"NightHouses$Reader", "readCell", "(Z)Z"⟩, prog_8_method_10_code, 5, (some .boolean), false, 1),
  (⟨"NightHouses$Land", "hasHome", "(I)Z"⟩, prog_5_method_5_code, 3, (some .boolean), false, 1),
  (⟨"NightHouses$Reader", "readHouse", "()Z"⟩, prog_8_method_12_code, 4, (some .boolean), false, 0),
  (⟨"NightHouses$Reader", "readCat", "()Z"⟩, prog_8_method_13_code, 1, (some .boolean), false, 0),
  (⟨"NightHouses$Reader", "readGoes", "()Z"⟩, prog_8_method_14_code, 1, (some .boolean), false, 0),
  (⟨"NightHouses$Reader", "readEither", "(I)Z"⟩, prog_8_method_18_code, 3, (some .boolean), false, 1),
  (⟨"NightHouses$Reader", "readBoth", "(I)Z"⟩, prog_8_method_19_code, 3, (some .boolean), false, 1),
  (⟨"NightHouses$Reader", "readOne", "(I)Z"⟩, prog_8_method_20_code, 3, (some .boolean), false, 1),
  (⟨"NightHouses$Reader", "readNot", "(I)Z"⟩, prog_8_method_21_code, 2, (some .boolean), false, 1),
  (⟨"NightHouses$Formula", "add", "(I)V"⟩, prog_3_method_3_code, 2, none, false, 1),
  (⟨"NightHouses$Reader", "readSum", "(I)Z"⟩, prog_8_method_23_code, 4, (some .boolean), false, 1)]
set_option maxRecDepth 100000 in
theorem nhCd_0 : nhMt_0.map (fun y => Cond.code y.1 y.2.1 y.2.2.1 y.2.2.2.1) = [550, 554, 558, 562, 566, 570, 576, 580, 636, 640, 644, 648, 652, 657, 664, 668, 671, 675, 680, 732, 736, 798, 802, 806, 810, 814, 819, 823, 828, 832, 837, 841, 845, 849, 853, 857, 861, 865, 869, 873].filterMap (fun i => lw_tbl[i]?) := rfl
set_option maxRecDepth 100000 in
theorem nhIw_0 : nhMt_0.map (fun y => Cond.initialized y.1.cls) = [119, 119, 120, 119, 119, 123, 130, 128, 118, 118, 118, 118, 121, 122, 122, 122, 122, 122, 122, 122, 122, 121, 121, 121, 121, 121, 121, 121, 121, 121, 119, 121, 121, 121, 121, 121, 121, 121, 120, 121].filterMap (fun i => lw_tbl[i]?) := rfl
set_option maxRecDepth 100000 in
theorem nhSw_0 : nhMt_0.map (fun y => cond y.2.2.2.2.1 (Cond.static y.1) (Cond.instanceMethod y.1)) = [548, 552, 556, 560, 564, 568, 575, 578, 634, 639, 642, 646, 650, 655, 662, 667, 670, 674, 679, 731, 735, 796, 801, 805, 809, 813, 818, 822, 827, 831, 835, 840, 844, 848, 852, 856, 860, 864, 867, 872].filterMap (fun i => lw_tbl[i]?) := rfl
set_option maxRecDepth 100000 in
theorem nhVw_0 : (nhMt_0.filter (fun y => !y.2.2.2.2.1)).map (fun y => Cond.selects y.1.cls y.1 y.1) = [549, 553, 557, 561, 565, 569, 579, 635, 0, 643, 647, 651, 656, 663, 1, 2, 3, 4, 797, 5, 6, 7, 8, 9, 10, 11, 12, 836, 13, 14, 15, 16, 17, 18, 19, 868, 20].filterMap (fun i => lw_tbl[i]?) := rfl
set_option maxRecDepth 100000 in
theorem nhDs_0 : nhMt_0.all (fun y => decide (y.1.cls ≠ "java/lang/invoke/MethodHandle" ∧ y.1.cls ≠ "java/lang/invoke/VarHandle" ∧ (parseMethodDescriptor y.1.desc).map (fun d => d.parameters.length) = some y.2.2.2.2.2) && plainName y.1.cls) = true := by decide +kernel
def nhMt_1 : List nhMth := [(⟨"NightHouses$Reader", "readTerm", "(I)Z"⟩, prog_8_method_24_code, 4, (some .boolean), false, 1),
  (⟨"NightHouses$Reader", "readUnit", "(I)Z"⟩, prog_8_method_26_code, 6, (some .boolean), false, 1),
  (⟨"NightHouses$Reader", "factOf", "(I)I"⟩, prog_8_method_27_code, 1, (some .int), true, 1),
  (⟨"NightHouses$Reader", "foldOf", "(I)I"⟩, prog_8_method_25_code, 1, (some .int), true, 1),
  (⟨"NightHouses$Reader", "relationOf", "(I)I"⟩, prog_8_method_22_code, 1, (some .int), true, 1),
  (⟨"NightHouses$Reader", "readCalls", "()Z"⟩, prog_8_method_15_code, 1, (some .boolean), false, 0),
  (⟨"NightHouses$Reader", "readGale", "()Z"⟩, prog_8_method_16_code, 1, (some .boolean), false, 0),
  (⟨"NightHouses$Reader", "readDraw", "()Z"⟩, prog_8_method_17_code, 1, (some .boolean), false, 0),
  (⟨"NightHouses$History", "clear", "()V"⟩, prog_4_method_2_code, 1, none, false, 0),
  (⟨"NightHouses", "fault", "(I)I"⟩, prog_1_method_6_code, 2, (some .int), false, 1),
  (⟨"NightHouses", "house", "(II)I"⟩, prog_1_method_7_code, 3, (some .int), false, 2),
  (⟨"NightHouses", "isHouse", "(I)Z"⟩, prog_1_method_57_code, 2, (some .boolean), false, 1),
  (⟨"NightHouses$Steps", "nextWay", "(LNightHouses$Land;LNightHouses$Night;I)I"⟩, prog_10_method_7_code, 4, (some .int), true, 3),
  (⟨"NightHouses$Land", "columnAt", "(I)I"⟩, prog_5_method_8_code, 2, (some .int), false, 1),
  (⟨"NightHouses$Land", "rowAt", "(I)I"⟩, prog_5_method_9_code, 2, (some .int), false, 1),
  (⟨"NightHouses$Formula", "setPlace", "(III)V"⟩, prog_3_method_4_code, 4, none, false, 3),
  (⟨"NightHouses$Formula", "setTimes", "(III)V"⟩, prog_3_method_5_code, 4, none, false, 3),
  (⟨"NightHouses$Formula", "worth", "()I"⟩, prog_3_method_6_code, 4, (some .int), false, 0),
  (⟨"NightHouses$Formula", "join", "(III)I"⟩, prog_3_method_7_code, 3, (some .int), true, 3),
  (⟨"NightHouses", "housesAt", "(I)I"⟩, prog_1_method_62_code, 4, (some .int), false, 1),
  (⟨"NightHouses", "spot", "(II)I"⟩, prog_1_method_8_code, 3, (some .int), false, 2),
  (⟨"NightHouses", "isCell", "(I)Z"⟩, prog_1_method_59_code, 2, (some .boolean), false, 1),
  (⟨"NightHouses$Night", "hasHedge", "(I)Z"⟩, prog_6_method_4_code, 2, (some .boolean), false, 1),
  (⟨"NightHouses$Land", "far", "(II)I"⟩, prog_5_method_10_code, 3, (some .int), false, 2),
  (⟨"NightHouses", "about", "(I)I"⟩, prog_1_method_9_code, 2, (some .int), false, 1),
  (⟨"java/lang/Long", "bitCount", "(J)I"⟩, prog_17_method_50_code, 2, (some .int), true, 1),
  (⟨"NightHouses", "aboutKept", "(I)I"⟩, prog_1_method_10_code, 2, (some .int), false, 1),
  (⟨"NightHouses", "lies", "(I)I"⟩, prog_1_method_11_code, 2, (some .int), false, 1),
  (⟨"NightHouses", "hear", "()I"⟩, prog_1_method_12_code, 3, (some .int), false, 0),
  (⟨"NightHouses$Steps", "hears", "(LNightHouses$Land;LNightHouses$Night;II)Z"⟩, prog_10_method_6_code, 4, (some .boolean), true, 4),
  (⟨"NightHouses", "law", "(I)I"⟩, prog_1_method_13_code, 4, (some .int), false, 1),
  (⟨"NightHouses", "home", "()I"⟩, prog_1_method_14_code, 1, (some .int), false, 0),
  (⟨"NightHouses$Steps", "atHome", "(LNightHouses$Land;LNightHouses$Night;)I"⟩, prog_10_method_5_code, 4, (some .int), true, 2),
  (⟨"NightHouses", "tilted", "()I"⟩, prog_1_method_15_code, 3, (some .int), false, 0),
  (⟨"NightHouses", "odds", "(II)I"⟩, prog_1_method_16_code, 6, (some .int), false, 2),
  (⟨"NightHouses", "commonDivisor", "(II)I"⟩, prog_1_method_17_code, 6, (some .int), true, 2),
  (⟨"NightHouses", "step", "(Z)I"⟩, prog_1_method_18_code, 2, (some .int), false, 1),
  (⟨"NightHouses$History", "keep", "(LNightHouses$Night;)V"⟩, prog_4_method_4_code, 2, none, false, 1),
  (⟨"NightHouses$History", "current", "()LNightHouses$Night;"⟩, prog_4_method_3_code, 1, (some (.object "NightHouses$Night")), false, 0),
  (⟨"NightHouses$Night", "copy", "(LNightHouses$Night;)V"⟩, prog_6_method_3_code, 2, none, false, 1)]
set_option maxRecDepth 100000 in
theorem nhCd_1 : nhMt_1.map (fun y => Cond.code y.1 y.2.1 y.2.2.1 y.2.2.2.1) = [877, 881, 884, 887, 890, 894, 898, 902, 906, 910, 914, 918, 921, 925, 929, 933, 937, 941, 944, 951, 955, 959, 963, 967, 976, 979, 986, 990, 994, 997, 1002, 1006, 1009, 1013, 1017, 1020, 1024, 1028, 1032, 1036].filterMap (fun i => lw_tbl[i]?) := rfl
set_option maxRecDepth 100000 in
theorem nhIw_1 : nhMt_1.map (fun y => Cond.initialized y.1.cls) = [121, 121, 121, 121, 121, 121, 121, 121, 124, 118, 118, 118, 138, 119, 119, 120, 120, 120, 120, 118, 118, 118, 123, 119, 118, 140, 118, 118, 118, 138, 118, 118, 138, 118, 118, 118, 118, 124, 124, 123].filterMap (fun i => lw_tbl[i]?) := rfl
set_option maxRecDepth 100000 in
theorem nhSw_1 : nhMt_1.map (fun y => cond y.2.2.2.2.1 (Cond.static y.1) (Cond.instanceMethod y.1)) = [876, 880, 883, 886, 889, 893, 897, 901, 904, 908, 912, 917, 920, 923, 927, 931, 935, 939, 943, 950, 953, 958, 961, 965, 974, 978, 985, 988, 992, 996, 1000, 1004, 1008, 1011, 1015, 1019, 1022, 1026, 1031, 1034].filterMap (fun i => lw_tbl[i]?) := rfl
set_option maxRecDepth 100000 in
theorem nhVw_1 : (nhMt_1.filter (fun y => !y.2.2.2.2.1)).map (fun y => Cond.selects y.1.cls y.1 y.1) = [21, 22, 23, 24, 25, 905, 909, 913, 26, 924, 928, 932, 936, 940, 27, 954, 28, 962, 966, 975, 29, 989, 993, 1001, 1005, 1012, 1016, 1023, 1027, 30, 1035].filterMap (fun i => lw_tbl[i]?) := rfl
set_option maxRecDepth 100000 in
theorem nhDs_1 : nhMt_1.all (fun y => decide (y.1.cls ≠ "java/lang/invoke/MethodHandle" ∧ y.1.cls ≠ "java/lang/invoke/VarHandle" ∧ (parseMethodDescriptor y.1.desc).map (fun d => d.parameters.length) = some y.2.2.2.2.2) && plainName y.1.cls) = true := by decide +kernel
def nhMt_2 : List nhMth := [(⟨"NightHouses$Steps", "take", "(LNightHouses$Land;LNightHouses$Night;IZ)V"⟩, prog_10_method_2_code, 5, none, true, 4),
  (⟨"NightHouses$Steps", "cellCalledTo", "(LNightHouses$Land;LNightHouses$Night;I)I"⟩, prog_10_method_8_code, 7, (some .int), true, 3),
  (⟨"NightHouses$Land", "goal", "(JII)I"⟩, prog_5_method_7_code, 6, (some .int), false, 3),
  (⟨"NightHouses$Steps", "quarrel", "(LNightHouses$Land;LNightHouses$Night;)V"⟩, prog_10_method_3_code, 4, none, true, 2),
  (⟨"NightHouses$Steps", "together", "(LNightHouses$Land;LNightHouses$Night;)I"⟩, prog_10_method_4_code, 5, (some .int), true, 2),
  (⟨"NightHouses", "walk", "(I)I"⟩, prog_1_method_19_code, 3, (some .int), false, 1),
  (⟨"NightHouses", "dawn", "()I"⟩, prog_1_method_20_code, 3, (some .int), false, 0),
  (⟨"NightHouses", "hedge", "(I)I"⟩, prog_1_method_21_code, 2, (some .int), false, 1),
  (⟨"NightHouses", "isBare", "(I)Z"⟩, prog_1_method_60_code, 2, (some .boolean), false, 1),
  (⟨"NightHouses", "cut", "(I)I"⟩, prog_1_method_22_code, 2, (some .int), false, 1),
  (⟨"NightHouses", "undo", "()Z"⟩, prog_1_method_23_code, 1, (some .boolean), false, 0),
  (⟨"NightHouses$History", "takeBack", "(LNightHouses$Night;)Z"⟩, prog_4_method_5_code, 2, (some .boolean), false, 1),
  (⟨"NightHouses", "redo", "()Z"⟩, prog_1_method_24_code, 1, (some .boolean), false, 0),
  (⟨"NightHouses$History", "doAgain", "(LNightHouses$Night;)Z"⟩, prog_4_method_6_code, 2, (some .boolean), false, 1),
  (⟨"NightHouses", "image", "(I)I"⟩, prog_1_method_25_code, 2, (some .int), false, 1),
  (⟨"NightHouses", "restore", "(I)I"⟩, prog_1_method_26_code, 2, (some .int), false, 1),
  (⟨"NightHouses", "will", "(III)I"⟩, prog_1_method_27_code, 4, (some .int), false, 3),
  (⟨"NightHouses", "tryAhead", "(IIZ)V"⟩, prog_1_method_63_code, 4, none, false, 3),
  (⟨"NightHouses", "goOn", "(IIZ)V"⟩, prog_1_method_64_code, 5, none, false, 3),
  (⟨"NightHouses", "back", "(I)I"⟩, prog_1_method_28_code, 3, (some .int), false, 1),
  (⟨"NightHouses", "meet", "(II)I"⟩, prog_1_method_29_code, 4, (some .int), false, 2),
  (⟨"NightHouses", "arePair", "(II)Z"⟩, prog_1_method_58_code, 3, (some .boolean), false, 2),
  (⟨"NightHouses", "plan", "(II)I"⟩, prog_1_method_30_code, 4, (some .int), false, 2),
  (⟨"NightHouses$Planner", "fewestCalls", "(LNightHouses$Land;LNightHouses$Night;II)I"⟩, prog_7_method_2_code, 5, (some .int), false, 4),
  (⟨"NightHouses$Planner", "seek", "(II)V"⟩, prog_7_method_3_code, 4, none, false, 2),
  (⟨"NightHouses$Planner", "seekBehind", "(IIZ)V"⟩, prog_7_method_4_code, 4, none, false, 3),
  (⟨"NightHouses$Planner", "someoneHears", "(LNightHouses$Night;)Z"⟩, prog_7_method_5_code, 3, (some .boolean), false, 1),
  (⟨"NightHouses", "fence", "(III)I"⟩, prog_1_method_31_code, 5, (some .int), false, 3),
  (⟨"NightHouses", "bareCells", "()J"⟩, prog_1_method_61_code, 4, (some .long), false, 0),
  (⟨"NightHouses$Fencer", "fewestHedges", "(LNightHouses$Land;LNightHouses$Night;IIIJ)I"⟩, prog_2_method_2_code, 10, (some .int), false, 6),
  (⟨"NightHouses$Fencer", "cellsEntered", "(J)J"⟩, prog_2_method_7_code, 7, (some .long), false, 1),
  (⟨"NightHouses$Fencer", "findOne", "(J)Z"⟩, prog_2_method_3_code, 4, (some .boolean), false, 1),
  (⟨"NightHouses$Fencer", "has", "(JI)Z"⟩, prog_2_method_6_code, 3, (some .boolean), true, 2),
  (⟨"NightHouses$Fencer", "findTwo", "(JJ)Z"⟩, prog_2_method_4_code, 7, (some .boolean), false, 2),
  (⟨"NightHouses$Fencer", "canDiffer", "(JII)Z"⟩, prog_2_method_5_code, 7, (some .boolean), false, 3),
  (⟨"NightHouses", "post", "(II)I"⟩, prog_1_method_32_code, 7, (some .int), false, 2),
  (⟨"java/lang/Integer", "bitCount", "(I)I"⟩, prog_16_method_49_code, 1, (some .int), true, 1),
  (⟨"NightHouses", "bell", "(II)I"⟩, prog_1_method_33_code, 7, (some .int), false, 2),
  (⟨"NightHouses", "haunt", "(I)I"⟩, prog_1_method_34_code, 3, (some .int), false, 1),
  (⟨"NightHouses$Walks", "clearCounts", "()V"⟩, prog_12_method_6_code, 1, none, false, 0)]
set_option maxRecDepth 100000 in
theorem nhCd_2 : nhMt_2.map (fun y => Cond.code y.1 y.2.1 y.2.2.1 y.2.2.2.1) = [1039, 1043, 1047, 1051, 1054, 1059, 1064, 1068, 1072, 1076, 1081, 1085, 1089, 1093, 1097, 1102, 1106, 1110, 1114, 1118, 1122, 1126, 1130, 1134, 1140, 1146, 1151, 1157, 1161, 1165, 1169, 1176, 1179, 1183, 1187, 1191, 1194, 1201, 1205, 1209].filterMap (fun i => lw_tbl[i]?) := rfl
set_option maxRecDepth 100000 in
theorem nhIw_2 : nhMt_2.map (fun y => Cond.initialized y.1.cls) = [138, 138, 119, 138, 138, 118, 118, 118, 118, 118, 118, 124, 118, 124, 118, 118, 118, 118, 118, 118, 118, 118, 118, 126, 126, 126, 126, 118, 118, 127, 127, 127, 127, 127, 127, 118, 141, 118, 118, 125].filterMap (fun i => lw_tbl[i]?) := rfl
set_option maxRecDepth 100000 in
theorem nhSw_2 : nhMt_2.map (fun y => cond y.2.2.2.2.1 (Cond.static y.1) (Cond.instanceMethod y.1)) = [1038, 1042, 1045, 1050, 1053, 1057, 1062, 1066, 1071, 1074, 1079, 1083, 1087, 1091, 1095, 1100, 1104, 1109, 1113, 1116, 1120, 1125, 1128, 1132, 1139, 1145, 1150, 1155, 1160, 1163, 1168, 1175, 1178, 1182, 1186, 1189, 1193, 1199, 1203, 1207].filterMap (fun i => lw_tbl[i]?) := rfl
set_option maxRecDepth 100000 in
theorem nhVw_2 : (nhMt_2.filter (fun y => !y.2.2.2.2.1)).map (fun y => Cond.selects y.1.cls y.1 y.1) = [1046, 1058, 1063, 1067, 31, 1075, 1080, 1084, 1088, 1092, 1096, 1101, 1105, 32, 33, 1117, 1121, 34, 1129, 1133, 35, 36, 37, 1156, 38, 1164, 39, 40, 41, 42, 1190, 1200, 1204, 1208].filterMap (fun i => lw_tbl[i]?) := rfl
set_option maxRecDepth 100000 in
theorem nhDs_2 : nhMt_2.all (fun y => decide (y.1.cls ≠ "java/lang/invoke/MethodHandle" ∧ y.1.cls ≠ "java/lang/invoke/VarHandle" ∧ (parseMethodDescriptor y.1.desc).map (fun d => d.parameters.length) = some y.2.2.2.2.2) && plainName y.1.cls) = true := by decide +kernel
def nhMt_3 : List nhMth := [(⟨"NightHouses$Walks", "countHouses", "(LNightHouses$Land;LNightHouses$Night;)V"⟩, prog_12_method_7_code, 5, none, false, 2),
  (⟨"NightHouses$Walks", "isCell", "(I)Z"⟩, prog_12_method_4_code, 1, (some .boolean), true, 1),
  (⟨"NightHouses$Walks", "mostCounted", "(LNightHouses$Land;)I"⟩, prog_12_method_8_code, 4, (some .int), false, 1),
  (⟨"NightHouses", "gather", "(I)I"⟩, prog_1_method_35_code, 2, (some .int), false, 1),
  (⟨"NightHouses", "stray", "(II)I"⟩, prog_1_method_36_code, 5, (some .int), false, 2),
  (⟨"NightHouses", "homely", "(IZ)I"⟩, prog_1_method_37_code, 3, (some .int), false, 2),
  (⟨"NightHouses", "quarrels", "(I)I"⟩, prog_1_method_38_code, 4, (some .int), false, 1),
  (⟨"NightHouses", "way", "(I)I"⟩, prog_1_method_39_code, 2, (some .int), false, 1),
  (⟨"NightHouses$Walks", "spread", "(LNightHouses$Land;JI)V"⟩, prog_12_method_2_code, 8, none, false, 3),
  (⟨"NightHouses$Walks", "reach", "(II)V"⟩, prog_12_method_3_code, 3, none, false, 2),
  (⟨"NightHouses$Walks", "lengthTo", "(I)I"⟩, prog_12_method_5_code, 2, (some .int), false, 1),
  (⟨"NightHouses", "realm", "()I"⟩, prog_1_method_40_code, 1, (some .int), false, 0),
  (⟨"NightHouses", "fetch", "()I"⟩, prog_1_method_41_code, 6, (some .int), false, 0),
  (⟨"NightHouses", "lost", "()I"⟩, prog_1_method_42_code, 3, (some .int), false, 0),
  (⟨"NightHouses", "suits", "(I)I"⟩, prog_1_method_43_code, 6, (some .int), false, 1),
  (⟨"NightHouses", "chase", "(III)I"⟩, prog_1_method_44_code, 10, (some .int), false, 3),
  (⟨"NightHouses", "nearestChase", "(III)I"⟩, prog_1_method_46_code, 7, (some .int), false, 3),
  (⟨"NightHouses", "farthestFlight", "(III)I"⟩, prog_1_method_45_code, 7, (some .int), false, 3),
  (⟨"NightHouses", "swap", "(I)I"⟩, prog_1_method_47_code, 7, (some .int), false, 1),
  (⟨"NightHouses", "atHomeExchanged", "(II)I"⟩, prog_1_method_48_code, 6, (some .int), false, 2),
  (⟨"NightHouses", "ofPair", "(III)I"⟩, prog_1_method_50_code, 3, (some .int), true, 3),
  (⟨"NightHouses", "closest", "(I)I"⟩, prog_1_method_49_code, 7, (some .int), false, 1),
  (⟨"NightHouses", "seen", "(IIZ)I"⟩, prog_1_method_51_code, 4, (some .int), false, 3),
  (⟨"NightHouses$Sightings", "tell", "(IIZI)I"⟩, prog_9_method_3_code, 5, (some .int), false, 4),
  (⟨"NightHouses", "untell", "(I)Z"⟩, prog_1_method_52_code, 2, (some .boolean), false, 1),
  (⟨"NightHouses$Sightings", "takeAway", "(II)Z"⟩, prog_9_method_4_code, 3, (some .boolean), false, 2),
  (⟨"NightHouses", "later", "(I)I"⟩, prog_1_method_53_code, 2, (some .int), false, 1),
  (⟨"NightHouses", "fits", "(I)I"⟩, prog_1_method_54_code, 2, (some .int), false, 1),
  (⟨"NightHouses$Sightings", "fitting", "(LNightHouses$Land;I)J"⟩, prog_9_method_8_code, 6, (some .long), false, 2),
  (⟨"NightHouses$Sightings", "makeTracks", "(LNightHouses$Land;)V"⟩, prog_9_method_6_code, 5, none, false, 1),
  (⟨"NightHouses$Sightings", "isKnown", "(II)Z"⟩, prog_9_method_5_code, 4, (some .boolean), false, 2),
  (⟨"NightHouses$Sightings", "agreeing", "(LNightHouses$Land;I)J"⟩, prog_9_method_9_code, 7, (some .long), false, 2),
  (⟨"NightHouses$Sightings", "cellBehind", "(II)I"⟩, prog_9_method_7_code, 4, (some .int), false, 2),
  (⟨"NightHouses", "sure", "(II)I"⟩, prog_1_method_55_code, 5, (some .int), false, 2),
  (⟨"java/lang/Long", "numberOfTrailingZeros", "(J)I"⟩, prog_17_method_49_code, 3, (some .int), true, 1),
  (⟨"java/lang/Integer", "numberOfTrailingZeros", "(I)I"⟩, prog_16_method_48_code, 2, (some .int), true, 1),
  (⟨"java/lang/Long", "numberOfLeadingZeros", "(J)I"⟩, prog_17_method_48_code, 3, (some .int), true, 1),
  (⟨"java/lang/Integer", "numberOfLeadingZeros", "(I)I"⟩, prog_16_method_47_code, 2, (some .int), true, 1),
  (⟨"NightHouses", "ask", "(II)I"⟩, prog_1_method_56_code, 9, (some .int), false, 2),
  (⟨"NightHouses$Sightings", "mostLeft", "(LNightHouses$Land;JI)I"⟩, prog_9_method_10_code, 8, (some .int), false, 3)]
set_option maxRecDepth 100000 in
theorem nhCd_3 : nhMt_3.map (fun y => Cond.code y.1 y.2.1 y.2.2.1 y.2.2.2.1) = [1214, 1217, 1221, 1225, 1229, 1234, 1238, 1242, 1246, 1250, 1254, 1260, 1264, 1268, 1272, 1276, 1280, 1284, 1289, 1293, 1296, 1300, 1304, 1308, 1312, 1316, 1320, 1325, 1329, 1333, 1340, 1344, 1348, 1352, 1355, 1358, 1362, 1365, 1369, 1373].filterMap (fun i => lw_tbl[i]?) := rfl
set_option maxRecDepth 100000 in
theorem nhIw_3 : nhMt_3.map (fun y => Cond.initialized y.1.cls) = [125, 125, 125, 118, 118, 118, 118, 118, 125, 125, 125, 118, 118, 118, 118, 118, 118, 118, 118, 118, 118, 118, 118, 128, 118, 128, 118, 118, 128, 128, 128, 128, 128, 118, 140, 141, 140, 141, 118, 128].filterMap (fun i => lw_tbl[i]?) := rfl
set_option maxRecDepth 100000 in
theorem nhSw_3 : nhMt_3.map (fun y => cond y.2.2.2.2.1 (Cond.static y.1) (Cond.instanceMethod y.1)) = [1212, 1216, 1219, 1223, 1227, 1232, 1236, 1240, 1244, 1249, 1252, 1258, 1262, 1266, 1270, 1274, 1279, 1283, 1287, 1292, 1295, 1298, 1302, 1306, 1310, 1314, 1318, 1323, 1327, 1332, 1339, 1343, 1347, 1350, 1354, 1357, 1361, 1364, 1367, 1371].filterMap (fun i => lw_tbl[i]?) := rfl
set_option maxRecDepth 100000 in
theorem nhVw_3 : (nhMt_3.filter (fun y => !y.2.2.2.2.1)).map (fun y => Cond.selects y.1.cls y.1 y.1) = [1213, 1220, 1224, 1228, 1233, 1237, 1241, 1245, 43, 1253, 1259, 1263, 1267, 1271, 1275, 44, 45, 1288, 46, 1299, 1303, 1307, 1311, 1315, 1319, 1324, 1328, 47, 48, 49, 50, 1351, 1368, 1372].filterMap (fun i => lw_tbl[i]?) := rfl
set_option maxRecDepth 100000 in
theorem nhDs_3 : nhMt_3.all (fun y => decide (y.1.cls ≠ "java/lang/invoke/MethodHandle" ∧ y.1.cls ≠ "java/lang/invoke/VarHandle" ∧ (parseMethodDescriptor y.1.desc).map (fun d => d.parameters.length) = some y.2.2.2.2.2) && plainName y.1.cls) = true := by decide +kernel
def nhMt_4 : List nhMth := [(⟨"NightHousesModel", "clearBank", "()V"⟩, prog_14_method_15_code, 1, none, false, 0),
  (⟨"NightHousesModel", "startAnew", "()V"⟩, prog_14_method_50_code, 2, none, false, 0),
  (⟨"NightHousesModel", "layTold", "()V"⟩, prog_14_method_51_code, 2, none, false, 0),
  (⟨"NightHousesModel", "many", "()I"⟩, prog_14_method_44_code, 1, (some .int), false, 0),
  (⟨"NightHousesModel", "homeOf", "(I)I"⟩, prog_14_method_48_code, 2, (some .int), false, 1),
  (⟨"NightHousesModel", "land", "()I"⟩, prog_14_method_16_code, 2, (some .int), false, 0),
  (⟨"NightHousesModel", "goOn", "()V"⟩, prog_14_method_9_code, 3, none, false, 0),
  (⟨"NightHousesModel", "sign", "(I)I"⟩, prog_14_method_2_code, 2, (some .int), false, 1),
  (⟨"NightHousesModel", "isLetter", "(I)Z"⟩, prog_14_method_3_code, 1, (some .boolean), true, 1),
  (⟨"NightHousesModel", "isKept", "(J)Z"⟩, prog_14_method_7_code, 3, (some .boolean), true, 1),
  (⟨"NightHousesModel", "isDigit", "(I)Z"⟩, prog_14_method_4_code, 1, (some .boolean), true, 1),
  (⟨"NightHousesModel", "isSign", "(I)Z"⟩, prog_14_method_8_code, 1, (some .boolean), true, 1),
  (⟨"NightHousesModel", "isGood", "()Z"⟩, prog_14_method_6_code, 1, (some .boolean), false, 0),
  (⟨"NightHousesModel", "readLine", "()V"⟩, prog_14_method_22_code, 3, none, false, 0),
  (⟨"NightHousesModel", "isFull", "()Z"⟩, prog_14_method_20_code, 1, (some .boolean), false, 0),
  (⟨"NightHousesModel", "isWord", "(J)Z"⟩, prog_14_method_11_code, 3, (some .boolean), false, 1),
  (⟨"NightHousesModel", "bit", "(II)Z"⟩, prog_14_method_40_code, 2, (some .boolean), true, 2),
  (⟨"NightHousesModel", "misplaced", "()V"⟩, prog_14_method_12_code, 1, none, false, 0),
  (⟨"NightHousesModel", "fails", "(II)V"⟩, prog_14_method_5_code, 3, none, false, 2),
  (⟨"NightHousesModel", "numeral", "(II)I"⟩, prog_14_method_14_code, 4, (some .int), false, 2),
  (⟨"NightHousesModel", "must", "(Z)V"⟩, prog_14_method_13_code, 2, none, false, 1),
  (⟨"NightHousesModel", "readCell", "(Z)I"⟩, prog_14_method_23_code, 6, (some .int), false, 1),
  (⟨"NightHousesModel", "isHedgeTold", "(I)Z"⟩, prog_14_method_17_code, 3, (some .boolean), false, 1),
  (⟨"NightHousesModel", "isHouseTold", "(I)Z"⟩, prog_14_method_18_code, 3, (some .boolean), false, 1),
  (⟨"NightHousesModel", "readHouse", "()V"⟩, prog_14_method_24_code, 3, none, false, 0),
  (⟨"NightHousesModel", "readRule", "()V"⟩, prog_14_method_25_code, 1, none, false, 0),
  (⟨"NightHousesModel", "e", "()V"⟩, prog_14_method_28_code, 2, none, false, 0),
  (⟨"NightHousesModel", "pushE", "(II)V"⟩, prog_14_method_27_code, 3, none, false, 2),
  (⟨"NightHousesModel", "unit", "()Z"⟩, prog_14_method_30_code, 7, (some .boolean), false, 0),
  (⟨"NightHousesModel", "isSignHere", "(I)Z"⟩, prog_14_method_10_code, 2, (some .boolean), false, 1),
  (⟨"NightHousesModel", "wordHere", "()I"⟩, prog_14_method_29_code, 1, (some .int), false, 0),
  (⟨"NightHousesModel", "emit", "(II)V"⟩, prog_14_method_26_code, 3, none, false, 2),
  (⟨"NightHousesModel", "behindUnit", "()Z"⟩, prog_14_method_33_code, 2, (some .boolean), false, 0),
  (⟨"NightHousesModel", "rankHere", "()I"⟩, prog_14_method_31_code, 1, (some .int), false, 0),
  (⟨"NightHousesModel", "isCompared", "()Z"⟩, prog_14_method_32_code, 2, (some .boolean), false, 0),
  (⟨"NightHousesModel", "once", "(II)I"⟩, prog_14_method_21_code, 3, (some .int), false, 2),
  (⟨"NightHousesModel", "firstFree", "()I"⟩, prog_14_method_19_code, 2, (some .int), false, 0),
  (⟨"NightHousesModel", "fault", "(I)I"⟩, prog_14_method_37_code, 2, (some .int), false, 1),
  (⟨"NightHousesModel", "house", "(II)I"⟩, prog_14_method_64_code, 3, (some .int), false, 2),
  (⟨"NightHousesModel", "isHouse", "(I)Z"⟩, prog_14_method_46_code, 2, (some .boolean), false, 1)]
set_option maxRecDepth 100000 in
theorem nhCd_4 : nhMt_4.map (fun y => Cond.code y.1 y.2.1 y.2.2.1 y.2.2.2.1) = [1385, 1389, 1393, 1397, 1401, 1598, 1602, 1606, 1609, 1612, 1634, 1637, 1641, 1645, 1649, 1653, 1656, 1660, 1664, 1668, 1672, 1676, 1680, 1684, 1688, 1692, 1696, 1700, 1704, 1708, 1712, 1716, 1720, 1724, 1728, 1732, 1736, 1740, 1744, 1748].filterMap (fun i => lw_tbl[i]?) := rfl
set_option maxRecDepth 100000 in
theorem nhIw_4 : nhMt_4.map (fun y => Cond.initialized y.1.cls) = [131, 131, 131, 131, 131, 131, 131, 131, 131, 131, 131, 131, 131, 131, 131, 131, 131, 131, 131, 131, 131, 131, 131, 131, 131, 131, 131, 131, 131, 131, 131, 131, 131, 131, 131, 131, 131, 131, 131, 131].filterMap (fun i => lw_tbl[i]?) := rfl
set_option maxRecDepth 100000 in
theorem nhSw_4 : nhMt_4.map (fun y => cond y.2.2.2.2.1 (Cond.static y.1) (Cond.instanceMethod y.1)) = [1384, 1388, 1392, 1396, 1400, 1596, 1601, 1605, 1608, 1611, 1633, 1636, 1640, 1644, 1648, 1652, 1655, 1659, 1663, 1667, 1671, 1675, 1679, 1683, 1687, 1691, 1695, 1699, 1703, 1707, 1711, 1715, 1719, 1723, 1727, 1731, 1735, 1738, 1742, 1747].filterMap (fun i => lw_tbl[i]?) := rfl
set_option maxRecDepth 100000 in
theorem nhVw_4 : (nhMt_4.filter (fun y => !y.2.2.2.2.1)).map (fun y => Cond.selects y.1.cls y.1 y.1) = [51, 52, 53, 54, 55, 1597, 56, 57, 58, 59, 60, 61, 62, 63, 64, 65, 66, 67, 68, 69, 70, 71, 72, 73, 74, 75, 76, 77, 78, 79, 80, 81, 1739, 1743, 82].filterMap (fun i => lw_tbl[i]?) := rfl
set_option maxRecDepth 100000 in
theorem nhDs_4 : nhMt_4.all (fun y => decide (y.1.cls ≠ "java/lang/invoke/MethodHandle" ∧ y.1.cls ≠ "java/lang/invoke/VarHandle" ∧ (parseMethodDescriptor y.1.desc).map (fun d => d.parameters.length) = some y.2.2.2.2.2) && plainName y.1.cls) = true := by decide +kernel
def nhMt_5 : List nhMth := [(⟨"NightHousesModel", "isIn", "(III)Z"⟩, prog_14_method_38_code, 3, (some .boolean), true, 3),
  (⟨"NightHousesModel", "wayOf", "(I)I"⟩, prog_14_method_54_code, 3, (some .int), false, 1),
  (⟨"NightHousesModel", "comes", "()I"⟩, prog_14_method_36_code, 4, (some .int), false, 0),
  (⟨"NightHousesModel", "asked", "(II)I"⟩, prog_14_method_35_code, 3, (some .int), false, 2),
  (⟨"NightHousesModel", "two", "(III)I"⟩, prog_14_method_34_code, 3, (some .int), true, 3),
  (⟨"NightHousesModel", "housesAt", "(I)I"⟩, prog_14_method_56_code, 4, (some .int), false, 1),
  (⟨"NightHousesModel", "spot", "(II)I"⟩, prog_14_method_65_code, 3, (some .int), false, 2),
  (⟨"NightHousesModel", "isSpot", "(I)Z"⟩, prog_14_method_47_code, 2, (some .boolean), false, 1),
  (⟨"NightHousesModel", "spots", "()I"⟩, prog_14_method_45_code, 1, (some .int), false, 0),
  (⟨"NightHousesModel", "farOf", "(II)I"⟩, prog_14_method_52_code, 3, (some .int), false, 2),
  (⟨"NightHousesModel", "absolute", "(I)I"⟩, prog_14_method_39_code, 1, (some .int), true, 1),
  (⟨"NightHousesModel", "hear", "()I"⟩, prog_14_method_66_code, 1, (some .int), false, 0),
  (⟨"NightHousesModel", "hearBy", "(I)I"⟩, prog_14_method_58_code, 4, (some .int), false, 1),
  (⟨"NightHousesModel", "law", "(I)I"⟩, prog_14_method_67_code, 2, (some .int), false, 1),
  (⟨"NightHousesModel", "bitsOf", "(I)I"⟩, prog_14_method_41_code, 3, (some .int), true, 1),
  (⟨"NightHousesModel", "home", "()I"⟩, prog_14_method_68_code, 1, (some .int), false, 0),
  (⟨"NightHousesModel", "homeNow", "()I"⟩, prog_14_method_57_code, 3, (some .int), false, 0),
  (⟨"NightHousesModel", "tilted", "()I"⟩, prog_14_method_69_code, 3, (some .int), false, 0),
  (⟨"NightHousesModel", "suits", "(I)I"⟩, prog_14_method_70_code, 4, (some .int), false, 1),
  (⟨"NightHousesModel", "goBy", "(II)I"⟩, prog_14_method_53_code, 6, (some .int), false, 2),
  (⟨"NightHousesModel", "closest", "(I)I"⟩, prog_14_method_71_code, 7, (some .int), false, 1),
  (⟨"NightHousesModel", "swap", "(I)I"⟩, prog_14_method_73_code, 8, (some .int), false, 1),
  (⟨"NightHousesModel", "exchange", "(II)V"⟩, prog_14_method_72_code, 4, none, false, 2),
  (⟨"NightHousesModel", "step", "(Z)I"⟩, prog_14_method_76_code, 2, (some .int), false, 1),
  (⟨"NightHousesModel", "keepAct", "()V"⟩, prog_14_method_74_code, 2, none, false, 0),
  (⟨"NightHousesModel", "goInEarnest", "(Z)I"⟩, prog_14_method_63_code, 3, (some .int), false, 1),
  (⟨"NightHousesModel", "goAll", "(Z)V"⟩, prog_14_method_60_code, 4, none, false, 1),
  (⟨"NightHousesModel", "comeTo", "(II)I"⟩, prog_14_method_55_code, 6, (some .int), false, 2),
  (⟨"NightHousesModel", "endStep", "()I"⟩, prog_14_method_61_code, 3, (some .int), false, 0),
  (⟨"NightHousesModel", "walk", "(I)I"⟩, prog_14_method_77_code, 2, (some .int), false, 1),
  (⟨"NightHousesModel", "dawn", "()I"⟩, prog_14_method_78_code, 3, (some .int), false, 0),
  (⟨"NightHousesModel", "hedge", "(I)I"⟩, prog_14_method_80_code, 2, (some .int), false, 1),
  (⟨"NightHousesModel", "isBare", "(I)Z"⟩, prog_14_method_79_code, 2, (some .boolean), false, 1),
  (⟨"NightHousesModel", "hedgesNow", "()I"⟩, prog_14_method_59_code, 3, (some .int), false, 0),
  (⟨"NightHousesModel", "cut", "(I)I"⟩, prog_14_method_81_code, 2, (some .int), false, 1),
  (⟨"NightHousesModel", "undo", "()Z"⟩, prog_14_method_82_code, 1, (some .boolean), false, 0),
  (⟨"NightHousesModel", "swapAll", "()V"⟩, prog_14_method_75_code, 3, none, false, 0),
  (⟨"NightHousesModel", "redo", "()Z"⟩, prog_14_method_83_code, 1, (some .boolean), false, 0),
  (⟨"NightHousesModel", "lies", "(I)I"⟩, prog_14_method_84_code, 2, (some .int), false, 1),
  (⟨"NightHousesModel", "will", "(III)I"⟩, prog_14_method_88_code, 6, (some .int), false, 3)]
set_option maxRecDepth 100000 in
theorem nhCd_5 : nhMt_5.map (fun y => Cond.code y.1 y.2.1 y.2.2.1 y.2.2.2.1) = [1751, 1755, 1759, 1763, 1766, 1770, 1774, 1778, 1782, 1786, 1789, 1793, 1797, 1801, 1804, 1808, 1812, 1816, 1820, 1824, 1828, 1832, 1836, 1840, 1844, 1848, 1852, 1856, 1860, 1864, 1868, 1872, 1876, 1880, 1884, 1888, 1892, 1896, 1900, 1904].filterMap (fun i => lw_tbl[i]?) := rfl
set_option maxRecDepth 100000 in
theorem nhIw_5 : nhMt_5.map (fun y => Cond.initialized y.1.cls) = [131, 131, 131, 131, 131, 131, 131, 131, 131, 131, 131, 131, 131, 131, 131, 131, 131, 131, 131, 131, 131, 131, 131, 131, 131, 131, 131, 131, 131, 131, 131, 131, 131, 131, 131, 131, 131, 131, 131, 131].filterMap (fun i => lw_tbl[i]?) := rfl
set_option maxRecDepth 100000 in
theorem nhSw_5 : nhMt_5.map (fun y => cond y.2.2.2.2.1 (Cond.static y.1) (Cond.instanceMethod y.1)) = [1750, 1754, 1758, 1762, 1765, 1769, 1772, 1777, 1781, 1785, 1788, 1791, 1796, 1799, 1803, 1806, 1811, 1814, 1818, 1823, 1826, 1830, 1835, 1838, 1843, 1847, 1851, 1855, 1859, 1862, 1866, 1870, 1875, 1879, 1882, 1886, 1891, 1894, 1898, 1902].filterMap (fun i => lw_tbl[i]?) := rfl
set_option maxRecDepth 100000 in
theorem nhVw_5 : (nhMt_5.filter (fun y => !y.2.2.2.2.1)).map (fun y => Cond.selects y.1.cls y.1 y.1) = [83, 84, 85, 86, 1773, 87, 88, 89, 1792, 90, 1800, 1807, 91, 1815, 1819, 92, 1827, 1831, 93, 1839, 94, 95, 96, 97, 98, 1863, 1867, 1871, 99, 100, 1883, 1887, 101, 1895, 1899, 1903].filterMap (fun i => lw_tbl[i]?) := rfl
set_option maxRecDepth 100000 in
theorem nhDs_5 : nhMt_5.all (fun y => decide (y.1.cls ≠ "java/lang/invoke/MethodHandle" ∧ y.1.cls ≠ "java/lang/invoke/VarHandle" ∧ (parseMethodDescriptor y.1.desc).map (fun d => d.parameters.length) = some y.2.2.2.2.2) && plainName y.1.cls) = true := by decide +kernel
def nhMt_6 : List nhMth := [(⟨"NightHousesModel", "isAhead", "(I)Z"⟩, prog_14_method_49_code, 1, (some .boolean), true, 1),
  (⟨"NightHousesModel", "keepNow", "()V"⟩, prog_14_method_85_code, 2, none, false, 0),
  (⟨"NightHousesModel", "goStep", "(Z)I"⟩, prog_14_method_62_code, 2, (some .int), false, 1),
  (⟨"NightHousesModel", "bringBack", "()V"⟩, prog_14_method_86_code, 2, none, false, 0),
  (⟨"NightHousesModel", "back", "(I)I"⟩, prog_14_method_89_code, 4, (some .int), false, 1),
  (⟨"NightHousesModel", "meet", "(II)I"⟩, prog_14_method_90_code, 5, (some .int), false, 2),
  (⟨"NightHousesModel", "homely", "(IZ)I"⟩, prog_14_method_91_code, 4, (some .int), false, 2),
  (⟨"NightHousesModel", "goSteps", "(IZ)V"⟩, prog_14_method_87_code, 5, none, false, 2),
  (⟨"NightHousesModel", "quarrels", "(I)I"⟩, prog_14_method_93_code, 3, (some .int), false, 1),
  (⟨"NightHousesModel", "tiltNow", "()I"⟩, prog_14_method_92_code, 3, (some .int), false, 0),
  (⟨"NightHousesModel", "stray", "(II)I"⟩, prog_14_method_94_code, 7, (some .int), false, 2),
  (⟨"NightHousesModel", "haunt", "(I)I"⟩, prog_14_method_97_code, 4, (some .int), false, 1),
  (⟨"NightHousesModel", "countHouses", "()V"⟩, prog_14_method_96_code, 2, none, false, 0),
  (⟨"NightHousesModel", "oftenest", "()I"⟩, prog_14_method_95_code, 3, (some .int), false, 0),
  (⟨"NightHousesModel", "gather", "(I)I"⟩, prog_14_method_98_code, 3, (some .int), false, 1),
  (⟨"NightHousesModel", "plan", "(II)I"⟩, prog_14_method_99_code, 7, (some .int), false, 2),
  (⟨"NightHousesModel", "fence", "(III)I"⟩, prog_14_method_101_code, 9, (some .int), false, 3),
  (⟨"NightHousesModel", "doMeetIn", "(III)Z"⟩, prog_14_method_100_code, 7, (some .boolean), false, 3),
  (⟨"NightHousesModel", "post", "(II)I"⟩, prog_14_method_102_code, 7, (some .int), false, 2),
  (⟨"NightHousesModel", "bell", "(II)I"⟩, prog_14_method_103_code, 7, (some .int), false, 2),
  (⟨"NightHousesModel", "way", "(I)I"⟩, prog_14_method_105_code, 2, (some .int), false, 1),
  (⟨"NightHousesModel", "layFar", "(I)V"⟩, prog_14_method_104_code, 5, none, false, 1),
  (⟨"NightHousesModel", "realm", "()I"⟩, prog_14_method_106_code, 3, (some .int), false, 0),
  (⟨"NightHousesModel", "fetch", "()I"⟩, prog_14_method_107_code, 3, (some .int), false, 0),
  (⟨"NightHousesModel", "lost", "()I"⟩, prog_14_method_108_code, 3, (some .int), false, 0),
  (⟨"NightHousesModel", "chase", "(III)I"⟩, prog_14_method_112_code, 7, (some .int), false, 3),
  (⟨"NightHousesModel", "chaseOne", "(II)I"⟩, prog_14_method_109_code, 9, (some .int), false, 2),
  (⟨"NightHousesModel", "chaseTwo", "(II)I"⟩, prog_14_method_110_code, 9, (some .int), false, 2),
  (⟨"NightHousesModel", "chaseThree", "(II)I"⟩, prog_14_method_111_code, 9, (some .int), false, 2),
  (⟨"NightHousesModel", "odds", "(II)I"⟩, prog_14_method_113_code, 5, (some .int), false, 2),
  (⟨"NightHousesModel", "power", "(II)I"⟩, prog_14_method_43_code, 4, (some .int), true, 2),
  (⟨"NightHousesModel", "divisor", "(II)I"⟩, prog_14_method_42_code, 5, (some .int), true, 2),
  (⟨"NightHousesModel", "seen", "(IIZ)I"⟩, prog_14_method_114_code, 4, (some .int), false, 3),
  (⟨"NightHousesModel", "untell", "(I)Z"⟩, prog_14_method_115_code, 2, (some .boolean), false, 1),
  (⟨"NightHousesModel", "later", "(I)I"⟩, prog_14_method_116_code, 2, (some .int), false, 1),
  (⟨"NightHousesModel", "fits", "(I)I"⟩, prog_14_method_119_code, 4, (some .int), false, 1),
  (⟨"NightHousesModel", "layPaths", "()V"⟩, prog_14_method_117_code, 4, none, false, 0),
  (⟨"NightHousesModel", "doesFit", "(II)Z"⟩, prog_14_method_118_code, 5, (some .boolean), false, 2),
  (⟨"NightHousesModel", "sure", "(II)I"⟩, prog_14_method_120_code, 4, (some .int), false, 2),
  (⟨"NightHousesModel", "ask", "(II)I"⟩, prog_14_method_122_code, 5, (some .int), false, 2)]
set_option maxRecDepth 100000 in
theorem nhCd_6 : nhMt_6.map (fun y => Cond.code y.1 y.2.1 y.2.2.1 y.2.2.2.1) = [1907, 1911, 1915, 1919, 1923, 1927, 1931, 1935, 1939, 1943, 1947, 1951, 1955, 1959, 1963, 1967, 1971, 1975, 1979, 1983, 1987, 1991, 1995, 1999, 2003, 2007, 2011, 2015, 2019, 2023, 2026, 2029, 2033, 2037, 2041, 2046, 2050, 2054, 2058, 2063].filterMap (fun i => lw_tbl[i]?) := rfl
set_option maxRecDepth 100000 in
theorem nhIw_6 : nhMt_6.map (fun y => Cond.initialized y.1.cls) = [131, 131, 131, 131, 131, 131, 131, 131, 131, 131, 131, 131, 131, 131, 131, 131, 131, 131, 131, 131, 131, 131, 131, 131, 131, 131, 131, 131, 131, 131, 131, 131, 131, 131, 131, 131, 131, 131, 131, 131].filterMap (fun i => lw_tbl[i]?) := rfl
set_option maxRecDepth 100000 in
theorem nhSw_6 : nhMt_6.map (fun y => cond y.2.2.2.2.1 (Cond.static y.1) (Cond.instanceMethod y.1)) = [1906, 1910, 1914, 1918, 1921, 1925, 1929, 1934, 1937, 1942, 1945, 1949, 1954, 1958, 1961, 1965, 1969, 1974, 1977, 1981, 1985, 1990, 1993, 1997, 2001, 2005, 2010, 2014, 2018, 2021, 2025, 2028, 2031, 2035, 2039, 2044, 2049, 2053, 2056, 2061].filterMap (fun i => lw_tbl[i]?) := rfl
set_option maxRecDepth 100000 in
theorem nhVw_6 : (nhMt_6.filter (fun y => !y.2.2.2.2.1)).map (fun y => Cond.selects y.1.cls y.1 y.1) = [102, 103, 104, 1922, 1926, 1930, 105, 1938, 106, 1946, 1950, 107, 108, 1962, 1966, 1970, 109, 1978, 1982, 1986, 110, 1994, 1998, 2002, 2006, 111, 112, 113, 2022, 2032, 2036, 2040, 2045, 114, 115, 2057, 2062].filterMap (fun i => lw_tbl[i]?) := rfl
set_option maxRecDepth 100000 in
theorem nhDs_6 : nhMt_6.all (fun y => decide (y.1.cls ≠ "java/lang/invoke/MethodHandle" ∧ y.1.cls ≠ "java/lang/invoke/VarHandle" ∧ (parseMethodDescriptor y.1.desc).map (fun d => d.parameters.length) = some y.2.2.2.2.2) && plainName y.1.cls) = true := by decide +kernel
def nhMt_7 : List nhMth := [(⟨"NightHousesModel", "mostBehind", "(II)I"⟩, prog_14_method_121_code, 6, (some .int), false, 2),
  (⟨"NightHousesModel", "image", "(I)I"⟩, prog_14_method_123_code, 3, (some .int), false, 1),
  (⟨"NightHousesModel", "restore", "(I)I"⟩, prog_14_method_124_code, 3, (some .int), false, 1),
  (⟨"NightHousesModel", "about", "(I)I"⟩, prog_14_method_125_code, 2, (some .int), false, 1),
  (⟨"NightHousesModel", "feed", "(IIIII)I"⟩, prog_14_method_126_code, 8, (some .int), false, 5),
  (⟨"NightHousesModel", "end", "(I)I"⟩, prog_14_method_127_code, 2, (some .int), false, 1)]
set_option maxRecDepth 100000 in
theorem nhCd_7 : nhMt_7.map (fun y => Cond.code y.1 y.2.1 y.2.2.1 y.2.2.2.1) = [2067, 2071, 2075, 2079, 2083, 2087].filterMap (fun i => lw_tbl[i]?) := rfl
set_option maxRecDepth 100000 in
theorem nhIw_7 : nhMt_7.map (fun y => Cond.initialized y.1.cls) = [131, 131, 131, 131, 131, 131].filterMap (fun i => lw_tbl[i]?) := rfl
set_option maxRecDepth 100000 in
theorem nhSw_7 : nhMt_7.map (fun y => cond y.2.2.2.2.1 (Cond.static y.1) (Cond.instanceMethod y.1)) = [2066, 2069, 2073, 2077, 2081, 2085].filterMap (fun i => lw_tbl[i]?) := rfl
set_option maxRecDepth 100000 in
theorem nhVw_7 : (nhMt_7.filter (fun y => !y.2.2.2.2.1)).map (fun y => Cond.selects y.1.cls y.1 y.1) = [116, 2070, 2074, 2078, 2082, 2086].filterMap (fun i => lw_tbl[i]?) := rfl
set_option maxRecDepth 100000 in
theorem nhDs_7 : nhMt_7.all (fun y => decide (y.1.cls ≠ "java/lang/invoke/MethodHandle" ∧ y.1.cls ≠ "java/lang/invoke/VarHandle" ∧ (parseMethodDescriptor y.1.desc).map (fun d => d.parameters.length) = some y.2.2.2.2.2) && plainName y.1.cls) = true := by decide +kernel
def nhMt : List nhMth := nhMt_0 ++ (nhMt_1 ++ (nhMt_2 ++ (nhMt_3 ++ (nhMt_4 ++ (nhMt_5 ++ (nhMt_6 ++ (nhMt_7)))))))
def nhMl : List (List (Nat × Nat × Nat)) := [[(49, 110, 1166), (75, 79, 1170), (83, 80, 1171), (55, 111, 1173), (67, 112, 1177), (59, 113, 1180), (71, 114, 1184)], [(26, 58, 942)], [(26, 78, 1029), (30, 79, 1033)], [(31, 1, 551), (35, 2, 555), (67, 4, 563), (71, 53, 968), (80, 54, 972)], [(32, 6, 574)], [(45, 79, 1136), (49, 104, 1137), (61, 63, 1141), (70, 105, 1143), (81, 80, 1147), (74, 106, 1148), (90, 69, 1152)], [(33, 0, 653), (60, 13, 654), (67, 22, 799), (102, 23, 803), (99, 24, 807), (109, 25, 811), (113, 14, 815), (71, 26, 816), (122, 27, 820), (125, 1, 824), (75, 28, 825), (144, 29, 829), (135, 4, 833), (138, 30, 834), (81, 31, 838), (84, 32, 842), (87, 33, 846), (158, 34, 850), (170, 35, 854), (183, 36, 858), (186, 37, 862), (179, 38, 866), (189, 39, 870), (196, 40, 874), (199, 41, 878), (205, 42, 882), (202, 43, 885), (192, 44, 888), (90, 45, 891), (93, 46, 895), (96, 47, 899)], [(69, 149, 1330), (57, 5, 1334), (63, 80, 1335), (78, 150, 1337), (82, 151, 1341), (86, 152, 1345), (90, 6, 1374)], [(76, 53, 922), (80, 54, 926), (83, 55, 930), (92, 56, 934), (95, 57, 938), (68, 63, 998), (15, 69, 1040), (27, 81, 1041), (38, 82, 1044), (35, 52, 1048), (48, 83, 1049), (55, 84, 1052)], [(26, 14, 661), (29, 15, 665), (39, 16, 669), (43, 17, 672), (46, 18, 677), (50, 19, 730), (53, 20, 733)], [(21, 6, 1210), (45, 121, 1215), (31, 129, 1247), (35, 130, 1251), (39, 82, 1255)], [(96, 0, 547), (99, 3, 559), (102, 5, 567), (106, 7, 577), (109, 9, 637), (113, 12, 649), (116, 21, 795), (120, 48, 903), (130, 51, 915), (146, 52, 919), (152, 59, 948), (156, 61, 956), (159, 62, 960), (165, 63, 964), (179, 65, 977), (194, 66, 983), (221, 69, 995), (225, 72, 1007), (229, 75, 1018), (232, 77, 1025), (236, 80, 1037), (240, 84, 1055), (243, 82, 1060), (247, 88, 1069), (252, 91, 1082), (256, 93, 1090), (259, 79, 1098), (262, 97, 1107), (299, 98, 1111), (266, 101, 1123), (270, 103, 1131), (283, 108, 1158), (287, 109, 1162), (302, 116, 1192), (306, 119, 1206), (309, 120, 1211), (313, 122, 1218), (322, 128, 1243), (326, 130, 1256), (332, 136, 1277), (336, 137, 1281), (342, 139, 1290), (345, 140, 1294), (348, 143, 1305), (352, 145, 1313), (356, 148, 1326), (360, 154, 1353), (363, 156, 1360), (366, 159, 1370)], [(140, 160, 1382), (143, 161, 1386), (350, 162, 1390), (340, 163, 1394), (365, 164, 1398), (232, 166, 1599), (196, 167, 1603), (203, 168, 1607), (211, 169, 1610), (215, 170, 1632), (221, 171, 1635), (228, 172, 1638), (250, 173, 1642), (271, 174, 1646), (264, 175, 1650), (253, 176, 1654), (235, 177, 1657), (224, 178, 1661), (267, 179, 1665), (274, 180, 1669), (278, 181, 1673), (261, 182, 1677), (294, 183, 1681), (282, 184, 1685), (285, 185, 1689), (300, 186, 1693), (309, 187, 1697), (312, 188, 1701), (291, 189, 1705), (318, 190, 1709), (321, 191, 1713), (315, 192, 1717), (324, 193, 1721), (327, 194, 1725), (288, 195, 1729), (257, 196, 1733), (404, 199, 1745), (343, 200, 1749), (389, 201, 1752), (371, 202, 1756), (333, 203, 1760), (336, 204, 1764), (392, 205, 1767), (407, 207, 1775), (347, 208, 1779), (377, 209, 1783), (368, 210, 1787), (383, 212, 1794), (395, 214, 1802), (410, 216, 1809), (374, 219, 1821), (413, 222, 1833), (416, 224, 1841), (419, 225, 1845), (398, 226, 1849), (386, 227, 1853), (401, 228, 1857), (422, 232, 1873), (425, 233, 1877), (428, 236, 1889), (434, 240, 1905), (437, 241, 1908), (431, 242, 1912), (440, 243, 1916), (443, 247, 1932), (447, 249, 1940), (450, 252, 1952), (453, 253, 1956), (456, 257, 1972), (459, 261, 1988), (466, 266, 2008), (469, 267, 2012), (472, 268, 2016), (475, 270, 2024), (478, 271, 2027), (485, 276, 2047), (488, 277, 2051), (491, 275, 2059), (494, 280, 2064)], [(311, 155, 1356), (308, 157, 1363)], [], [], [], [], [], [], [(13, 8, 633), (18, 10, 641), (23, 11, 645), (28, 49, 907), (32, 50, 911), (37, 60, 952), (211, 64, 973), (173, 67, 987), (136, 68, 991), (161, 70, 999), (140, 71, 1003), (149, 73, 1010), (169, 74, 1014), (41, 76, 1021), (46, 85, 1056), (50, 86, 1061), (54, 87, 1065), (58, 89, 1073), (62, 90, 1078), (67, 92, 1086), (203, 94, 1094), (207, 95, 1099), (71, 96, 1103), (76, 99, 1115), (80, 100, 1119), (84, 102, 1127), (88, 107, 1154), (92, 115, 1188), (132, 117, 1198), (108, 118, 1202), (120, 123, 1222), (112, 124, 1226), (144, 125, 1231), (153, 126, 1235), (96, 127, 1239), (165, 131, 1257), (104, 132, 1261), (124, 133, 1265), (116, 134, 1269), (100, 135, 1273), (128, 138, 1286), (157, 141, 1297), (177, 142, 1301), (182, 144, 1309), (187, 146, 1317), (191, 147, 1322), (195, 153, 1349), (199, 158, 1366), (27, 165, 1595), (31, 197, 1737), (36, 198, 1741), (40, 206, 1771), (139, 211, 1790), (164, 213, 1798), (143, 215, 1805), (152, 217, 1813), (119, 218, 1817), (160, 220, 1825), (131, 221, 1829), (45, 223, 1837), (49, 229, 1861), (53, 230, 1865), (57, 231, 1869), (61, 234, 1881), (66, 235, 1885), (70, 237, 1893), (176, 238, 1897), (75, 239, 1901), (79, 244, 1920), (83, 245, 1924), (148, 246, 1928), (156, 248, 1936), (115, 250, 1944), (111, 251, 1948), (123, 254, 1960), (87, 255, 1964), (91, 256, 1968), (95, 258, 1976), (135, 259, 1980), (99, 260, 1984), (168, 262, 1992), (107, 263, 1996), (127, 264, 2000), (103, 265, 2004), (172, 269, 2020), (181, 272, 2030), (186, 273, 2034), (190, 274, 2038), (194, 275, 2043), (198, 278, 2055), (202, 279, 2060), (206, 281, 2068), (210, 282, 2072), (214, 283, 2076), (17, 284, 2080), (22, 285, 2084)]]
def nh_mlB (o : Nat) (q : Nat × Nat × Nat) : Bool := match nhOw[o]?, nhMt[q.2.1]? with
  | some C, some y => nh_wd q.2.2 (Cond.methodLink C q.1 y.1)
  | _, _ => false
theorem nhCd0 {f : nhMth → Cond} {M : List nhMth} {ps : List Nat} (h : M.map f = ps.filterMap (fun i => lw_tbl[i]?)) (hg : ∀ y, goodWord (f y) = true) {y : nhMth} (hy : y ∈ M) : f y ∈ nhTb := by
  have h1 : f y ∈ M.map f := List.mem_map.mpr ⟨y, hy, rfl⟩
  rw [h] at h1
  obtain ⟨i, -, hi⟩ := List.mem_filterMap.mp h1
  exact nhTb_mem (List.mem_of_getElem? hi) (hg y)
def nh_mtP (y : nhMth) : Prop := Cond.code y.1 y.2.1 y.2.2.1 y.2.2.2.1 ∈ nhTb ∧ Cond.initialized y.1.cls ∈ nhTb ∧ (y.2.2.2.2.1 = true → Cond.static y.1 ∈ nhTb) ∧ (y.2.2.2.2.1 = false → Cond.instanceMethod y.1 ∈ nhTb ∧ Cond.selects y.1.cls y.1 y.1 ∈ nhTb) ∧ (y.1.cls ≠ "java/lang/invoke/MethodHandle" ∧ y.1.cls ≠ "java/lang/invoke/VarHandle" ∧ (parseMethodDescriptor y.1.desc).map (fun d => d.parameters.length) = some y.2.2.2.2.2) ∧ plainName y.1.cls = true
theorem nhMt0 {M : List nhMth} {p1 p2 p3 p4 : List Nat} (h1 : M.map (fun y => Cond.code y.1 y.2.1 y.2.2.1 y.2.2.2.1) = p1.filterMap (fun i => lw_tbl[i]?)) (h2 : M.map (fun y => Cond.initialized y.1.cls) = p2.filterMap (fun i => lw_tbl[i]?)) (h3 : M.map (fun y => cond y.2.2.2.2.1 (Cond.static y.1) (Cond.instanceMethod y.1)) = p3.filterMap (fun i => lw_tbl[i]?)) (h4 : (M.filter (fun y => !y.2.2.2.2.1)).map (fun y => Cond.selects y.1.cls y.1 y.1) = p4.filterMap (fun i => lw_tbl[i]?))
    (h5 : M.all (fun y => decide (y.1.cls ≠ "java/lang/invoke/MethodHandle" ∧ y.1.cls ≠ "java/lang/invoke/VarHandle" ∧ (parseMethodDescriptor y.1.desc).map (fun d => d.parameters.length) = some y.2.2.2.2.2) && plainName y.1.cls) = true) {y : nhMth} (hy : y ∈ M) : nh_mtP y := by
  have h6 := List.all_eq_true.mp h5 y hy
  simp only [Bool.and_eq_true, decide_eq_true_eq] at h6
  have h7 := nhCd0 h3 (fun y => by cases y.2.2.2.2.1 <;> rfl) hy
  refine ⟨nhCd0 h1 (fun _ => rfl) hy, nhCd0 h2 (fun _ => rfl) hy, fun e => ?_, fun e => ⟨?_, ?_⟩, h6.1, h6.2⟩
  · rw [e] at h7; exact h7
  · rw [e] at h7; exact h7
  · exact nhCd0 h4 (fun _ => rfl) (List.mem_filter.mpr ⟨hy, by rw [e]; rfl⟩)
theorem nhMt1 {y : nhMth} (h : y ∈ nhMt) : nh_mtP y := by
  unfold nhMt at h
  simp only [List.mem_append] at h
  rcases h with h | h | h | h | h | h | h | h
  · exact nhMt0 nhCd_0 nhIw_0 nhSw_0 nhVw_0 nhDs_0 h
  · exact nhMt0 nhCd_1 nhIw_1 nhSw_1 nhVw_1 nhDs_1 h
  · exact nhMt0 nhCd_2 nhIw_2 nhSw_2 nhVw_2 nhDs_2 h
  · exact nhMt0 nhCd_3 nhIw_3 nhSw_3 nhVw_3 nhDs_3 h
  · exact nhMt0 nhCd_4 nhIw_4 nhSw_4 nhVw_4 nhDs_4 h
  · exact nhMt0 nhCd_5 nhIw_5 nhSw_5 nhVw_5 nhDs_5 h
  · exact nhMt0 nhCd_6 nhIw_6 nhSw_6 nhVw_6 nhDs_6 h
  · exact nhMt0 nhCd_7 nhIw_7 nhSw_7 nhVw_7 nhDs_7 h
theorem nh_mt_ok {mn : Nat} {y : nhMth} (h : nhMt[mn]? = some y) : nh_mtP y := nhMt1 (List.mem_of_getElem? h)
end
section
/-! the methods' instructions, by program; each row is decoded once -/
abbrev nhDt : Type := List (Nat × Instr × Nat)
def nh_dk (dt : nhDt) (pc : Nat) : Option (Instr × Nat) := match dt with
  | [] => none
  | q :: r => if q.1 == pc then some q.2 else nh_dk r pc
def nh_dtB (cc : ByteArray) (dt : nhDt) : Bool := dt.all (fun q => match decode cc q.1 with
  | .ok r => decide (r = q.2)
  | .error _ => false)
theorem nh_dk_ok {cc : ByteArray} {dt : nhDt} (h : nh_dtB cc dt = true) {pc : Nat} {q : Instr × Nat} (hq : nh_dk dt pc = some q) : decode cc pc = .ok q := by
  induction dt with
  | nil => cases hq
  | cons w r ih =>
    unfold nh_dtB at h
    rw [List.all_cons, Bool.and_eq_true] at h
    unfold nh_dk at hq
    split at hq
    · rename_i e
      cases hq
      have e' : w.1 = pc := by simpa using e
      rw [e'] at h
      split at h
      · rename_i r' hr
        rw [hr, of_decide_eq_true h.1]
      · exact absurd h.1 (by decide)
    · exact ih h.2 hq
def nhZ : List nhMth → List nhDt → Prop
  | y :: ys, d :: ds => nh_dtB y.2.1 d = true ∧ nhZ ys ds
  | [], [] => True
  | _, _ => False
theorem nhZ.app : ∀ {a b : List nhMth} {c d : List nhDt}, nhZ a c → nhZ b d → nhZ (a ++ b) (c ++ d)
  | [], _, [], _, _, h => h
  | _ :: _, _, _ :: _, _, h, k => ⟨h.1, nhZ.app h.2 k⟩
  | [], _, _ :: _, _, h, _ => h.elim
  | _ :: _, _, [], _, h, _ => h.elim
theorem nhZ.at : ∀ {a : List nhMth} {c : List nhDt} {k : Nat} {y : nhMth}, nhZ a c → a[k]? = some y → nh_dtB y.2.1 (c.getD k []) = true
  | y :: ys, d :: ds, 0, w, h, e => by cases e; exact h.1
  | y :: ys, d :: ds, k + 1, w, h, e => by
    have := nhZ.at (k := k) h.2 (by simpa using e)
    simpa using this
  | [], _, k, w, _, e => by simp at e
  | _ :: _, [], _, _, h, _ => h.elim
def nhD_0 : nhDt := [(0, .aload_n 0, 1), (1, .bipush 6, 2), (3, .bipush 6, 2), (5, .invokevirtual 31, 3), (8, .aload_n 0, 1), (9, .getfield 18, 3), (12, .invokevirtual 35, 3), (15, .aload_n 0, 1), (16, .iconst 0, 1), (17, .putfield 38, 3), (20, .aload_n 0, 1), (21, .lconst 0, 1), (22, .putfield 42, 3), (25, .aload_n 0, 1), (26, .iconst (-1), 1), (27, .putfield 46, 3), (30, .aload_n 0, 1), (31, .iconst 2, 1), (32, .putfield 49, 3), (35, .aload_n 0, 1), (36, .iconst 0, 1), (37, .putfield 52, 3), (40, .aload_n 0, 1), (41, .iconst 0, 1), (42, .putfield 55, 3), (45, .return_, 1)]
set_option maxRecDepth 100000 in
theorem nhD_0_ok : nh_dtB prog_5_method_2_code nhD_0 = true := by decide +kernel
def nhD_1 : nhDt := [(0, .aload_n 0, 1), (1, .iload_n 1, 1), (2, .putfield 58, 3), (5, .aload_n 0, 1), (6, .iload_n 2, 1), (7, .putfield 61, 3), (10, .aload_n 0, 1), (11, .iload_n 1, 1), (12, .iload_n 2, 1), (13, .imul, 1), (14, .putfield 64, 3), (17, .return_, 1)]
set_option maxRecDepth 100000 in
theorem nhD_1_ok : nh_dtB prog_5_method_3_code nhD_1 = true := by decide +kernel
def nhD_2 : nhDt := [(0, .aload_n 0, 1), (1, .iconst 0, 1), (2, .putfield 19, 3), (5, .aload_n 0, 1), (6, .iconst 0, 1), (7, .putfield 23, 3), (10, .return_, 1)]
set_option maxRecDepth 100000 in
theorem nhD_2_ok : nh_dtB prog_3_method_2_code nhD_2 = true := by decide +kernel
def nhD_3 : nhDt := [(0, .iconst 0, 1), (1, .istore_n 1, 1), (2, .iload_n 1, 1), (3, .aload_n 0, 1), (4, .getfield 64, 3), (7, .if_icmp .ge 30, 3), (10, .aload_n 0, 1), (11, .getfield 46, 3), (14, .iconst (-1), 1), (15, .if_icmp .ne 22, 3), (18, .aload_n 0, 1), (19, .iload_n 1, 1), (20, .invokevirtual 67, 3), (23, .ifCond .ne 8, 3), (26, .aload_n 0, 1), (27, .iload_n 1, 1), (28, .putfield 46, 3), (31, .iinc 1 1, 3), (34, .goto (-32), 3), (37, .aload_n 0, 1), (38, .getfield 46, 3), (41, .iconst (-1), 1), (42, .if_icmp .ne 8, 3), (45, .aload_n 0, 1), (46, .iconst 0, 1), (47, .putfield 46, 3), (50, .iconst 0, 1), (51, .istore_n 1, 1), (52, .iconst 0, 1), (53, .istore_n 2, 1), (54, .iload_n 2, 1), (55, .aload_n 0, 1), (56, .getfield 61, 3), (59, .if_icmp .ge 159, 3), (62, .iconst 0, 1), (63, .istore_n 3, 1), (64, .iload_n 3, 1), (65, .aload_n 0, 1), (66, .getfield 58, 3), (69, .if_icmp .ge 143, 3), (72, .iload_n 1, 1), (73, .bipush 36, 2), (75, .if_icmp .ge 137, 3), (78, .aload_n 0, 1), (79, .getfield 22, 3), (82, .iload_n 1, 1), (83, .iload_n 3, 1), (84, .iastore, 1), (85, .aload_n 0, 1), (86, .getfield 25, 3), (89, .iload_n 1, 1), (90, .iload_n 2, 1), (91, .iastore, 1), (92, .iload_n 1, 1), (93, .iconst 5, 1), (94, .imul, 1), (95, .istore 4, 2), (97, .aload_n 0, 1), (98, .getfield 28, 3), (101, .iload 4, 2), (103, .iload_n 1, 1), (104, .iastore, 1), (105, .aload_n 0, 1), (106, .getfield 28, 3), (109, .iload 4, 2), (111, .iconst 1, 1), (112, .iadd, 1), (113, .iload_n 2, 1), (114, .ifCond .le 12, 3), (117, .iload_n 1, 1), (118, .aload_n 0, 1), (119, .getfield 58, 3), (122, .isub, 1), (123, .goto 4, 3), (126, .iload_n 1, 1), (127, .iastore, 1), (128, .aload_n 0, 1), (129, .getfield 28, 3), (132, .iload 4, 2), (134, .iconst 2, 1), (135, .iadd, 1), (136, .iload_n 3, 1), (137, .aload_n 0, 1), (138, .getfield 58, 3), (141, .iconst 1, 1), (142, .isub, 1), (143, .if_icmp .ge 9, 3), (146, .iload_n 1, 1), (147, .iconst 1, 1), (148, .iadd, 1), (149, .goto 4, 3), (152, .iload_n 1, 1), (153, .iastore, 1), (154, .aload_n 0, 1), (155, .getfield 28, 3), (158, .iload 4, 2), (160, .iconst 3, 1), (161, .iadd, 1), (162, .iload_n 2, 1), (163, .aload_n 0, 1), (164, .getfield 61, 3), (167, .iconst 1, 1), (168, .isub, 1), (169, .if_icmp .ge 12, 3), (172, .iload_n 1, 1), (173, .aload_n 0, 1), (174, .getfield 58, 3), (177, .iadd, 1), (178, .goto 4, 3), (181, .iload_n 1, 1), (182, .iastore, 1), (183, .aload_n 0, 1), (184, .getfield 28, 3), (187, .iload 4, 2), (189, .iconst 4, 1), (190, .iadd, 1), (191, .iload_n 3, 1), (192, .ifCond .le 9, 3), (195, .iload_n 1, 1), (196, .iconst 1, 1), (197, .isub, 1), (198, .goto 4, 3), (201, .iload_n 1, 1), (202, .iastore, 1), (203, .iinc 1 1, 3), (206, .iinc 3 1, 3), (209, .goto (-145), 3), (212, .iinc 2 1, 3), (215, .goto (-161), 3), (218, .return_, 1)]
set_option maxRecDepth 100000 in
theorem nhD_3_ok : nh_dtB prog_5_method_6_code nhD_3 = true := by decide +kernel
def nhD_4 : nhDt := [(0, .aload_n 0, 1), (1, .getfield 42, 3), (4, .iload_n 1, 1), (5, .lushr, 1), (6, .lconst 1, 1), (7, .land, 1), (8, .lconst 0, 1), (9, .lcmp, 1), (10, .ifCond .eq 7, 3), (13, .iconst 1, 1), (14, .goto 4, 3), (17, .iconst 0, 1), (18, .ireturn, 1)]
set_option maxRecDepth 100000 in
theorem nhD_4_ok : nh_dtB prog_5_method_4_code nhD_4 = true := by decide +kernel
def nhD_5 : nhDt := [(0, .aload_n 1, 1), (1, .getfield 21, 3), (4, .iconst 0, 1), (5, .aload_n 0, 1), (6, .getfield 9, 3), (9, .iconst 0, 1), (10, .iconst 5, 1), (11, .invokestatic 26, 3), (14, .aload_n 0, 1), (15, .getfield 15, 3), (18, .iconst 0, 1), (19, .invokestatic 32, 3), (22, .aload_n 0, 1), (23, .getfield 18, 3), (26, .iconst 0, 1), (27, .invokestatic 32, 3), (30, .aload_n 0, 1), (31, .aload_n 1, 1), (32, .getfield 38, 3), (35, .putfield 42, 3), (38, .aload_n 0, 1), (39, .aload_n 1, 1), (40, .getfield 43, 3), (43, .putfield 47, 3), (46, .aload_n 0, 1), (47, .iconst 0, 1), (48, .putfield 48, 3), (51, .aload_n 0, 1), (52, .iconst 0, 1), (53, .putfield 51, 3), (56, .aload_n 0, 1), (57, .aload_n 1, 1), (58, .getfield 54, 3), (61, .putfield 57, 3), (64, .return_, 1)]
set_option maxRecDepth 100000 in
theorem nhD_5_ok : nh_dtB prog_6_method_2_code nhD_5 = true := by decide +kernel
def nhD_6 : nhDt := [(0, .iconst 0, 1), (1, .istore_n 2, 1), (2, .aload_n 0, 1), (3, .arraylength, 1), (4, .istore_n 3, 1), (5, .iload_n 2, 1), (6, .iload_n 3, 1), (7, .if_icmp .ge 13, 3), (10, .aload_n 0, 1), (11, .iload_n 2, 1), (12, .iload_n 1, 1), (13, .iastore, 1), (14, .iinc 2 1, 3), (17, .goto (-12), 3), (20, .return_, 1)]
set_option maxRecDepth 100000 in
theorem nhD_6_ok : nh_dtB prog_24_method_103_code nhD_6 = true := by decide +kernel
def nhD_7 : nhDt := [(0, .aload_n 0, 1), (1, .iconst 0, 1), (2, .putfield 45, 3), (5, .aload_n 0, 1), (6, .iconst 0, 1), (7, .putfield 41, 3), (10, .return_, 1)]
set_option maxRecDepth 100000 in
theorem nhD_7_ok : nh_dtB prog_9_method_2_code nhD_7 = true := by decide +kernel
def nhD_8 : nhDt := [(0, .aload_n 0, 1), (1, .getfield 13, 3), (4, .bipush 20, 2), (6, .iadd, 1), (7, .sipush 1600, 3), (10, .if_icmp .le 5, 3), (13, .iconst (-1), 1), (14, .ireturn, 1), (15, .aload_n 0, 1), (16, .iload_n 1, 1), (17, .invokevirtual 109, 3), (20, .aload_n 0, 1), (21, .iload_n 2, 1), (22, .invokevirtual 109, 3), (25, .aload_n 0, 1), (26, .iload_n 3, 1), (27, .invokevirtual 109, 3), (30, .aload_n 0, 1), (31, .iload 4, 2), (33, .invokevirtual 109, 3), (36, .aload_n 0, 1), (37, .iload 5, 2), (39, .invokevirtual 109, 3), (42, .aload_n 0, 1), (43, .getfield 13, 3), (46, .ireturn, 1)]
set_option maxRecDepth 100000 in
theorem nhD_8_ok : nh_dtB prog_1_method_2_code nhD_8 = true := by decide +kernel
def nhD_9 : nhDt := [(0, .bipush 24, 2), (2, .istore_n 2, 1), (3, .iload_n 2, 1), (4, .ifCond .lt 42, 3), (7, .aload_n 0, 1), (8, .getfield 13, 3), (11, .sipush 1600, 3), (14, .if_icmp .ge 32, 3), (17, .aload_n 0, 1), (18, .getfield 9, 3), (21, .aload_n 0, 1), (22, .getfield 13, 3), (25, .iload_n 1, 1), (26, .iload_n 2, 1), (27, .iushr, 1), (28, .i2b, 1), (29, .bastore, 1), (30, .aload_n 0, 1), (31, .dup, 1), (32, .getfield 13, 3), (35, .iconst 1, 1), (36, .iadd, 1), (37, .putfield 13, 3), (40, .iinc 2 (-8), 3), (43, .goto (-40), 3), (46, .return_, 1)]
set_option maxRecDepth 100000 in
theorem nhD_9_ok : nh_dtB prog_1_method_3_code nhD_9 = true := by decide +kernel
def nhD_10 : nhDt := [(0, .iload_n 1, 1), (1, .ifCond .lt 11, 3), (4, .iload_n 1, 1), (5, .aload_n 0, 1), (6, .getfield 13, 3), (9, .if_icmp .le 5, 3), (12, .iconst (-1), 1), (13, .ireturn, 1), (14, .aload_n 0, 1), (15, .iload_n 1, 1), (16, .putfield 13, 3), (19, .iload_n 1, 1), (20, .ireturn, 1)]
set_option maxRecDepth 100000 in
theorem nhD_10_ok : nh_dtB prog_1_method_4_code nhD_10 = true := by decide +kernel
def nhD_11 : nhDt := [(0, .aload_n 0, 1), (1, .getfield 30, 3), (4, .aload_n 0, 1), (5, .getfield 9, 3), (8, .aload_n 0, 1), (9, .getfield 13, 3), (12, .aload_n 0, 1), (13, .getfield 24, 3), (16, .invokevirtual 113, 3), (19, .aload_n 0, 1), (20, .getfield 30, 3), (23, .invokevirtual 116, 3), (26, .ifCond .ne 5, 3), (29, .iconst (-1), 1), (30, .ireturn, 1), (31, .aload_n 0, 1), (32, .getfield 24, 3), (35, .invokevirtual 99, 3), (38, .aload_n 0, 1), (39, .getfield 20, 3), (42, .astore_n 1, 1), (43, .aload_n 0, 1), (44, .aload_n 0, 1), (45, .getfield 24, 3), (48, .putfield 20, 3), (51, .aload_n 0, 1), (52, .aload_n 1, 1), (53, .putfield 24, 3), (56, .aload_n 0, 1), (57, .iconst 0, 1), (58, .putfield 13, 3), (61, .aload_n 0, 1), (62, .getfield 37, 3), (65, .aload_n 0, 1), (66, .getfield 20, 3), (69, .invokevirtual 102, 3), (72, .aload_n 0, 1), (73, .getfield 47, 3), (76, .invokevirtual 120, 3), (79, .aload_n 0, 1), (80, .getfield 82, 3), (83, .invokevirtual 106, 3), (86, .aload_n 0, 1), (87, .iconst 0, 1), (88, .putfield 93, 3), (91, .aload_n 0, 1), (92, .iconst 0, 1), (93, .putfield 55, 3), (96, .aload_n 0, 1), (97, .getfield 20, 3), (100, .getfield 121, 3), (103, .ireturn, 1)]
set_option maxRecDepth 100000 in
theorem nhD_11_ok : nh_dtB prog_1_method_5_code nhD_11 = true := by decide +kernel
def nhD_12 : nhDt := [(0, .aload_n 0, 1), (1, .aload_n 3, 1), (2, .putfield 29, 3), (5, .aload_n 0, 1), (6, .getfield 29, 3), (9, .invokevirtual 33, 3), (12, .aload_n 0, 1), (13, .iconst 0, 1), (14, .putfield 38, 3), (17, .aload_n 0, 1), (18, .iconst 0, 1), (19, .putfield 42, 3), (22, .aload_n 0, 1), (23, .iconst 0, 1), (24, .putfield 45, 3), (27, .aload_n 0, 1), (28, .iconst 0, 1), (29, .putfield 48, 3), (32, .aload_n 0, 1), (33, .iconst 0, 1), (34, .putfield 51, 3), (37, .aload_n 0, 1), (38, .iconst 0, 1), (39, .putfield 54, 3), (42, .aload_n 0, 1), (43, .iconst 0, 1), (44, .putfield 57, 3), (47, .aload_n 0, 1), (48, .iconst 0, 1), (49, .putfield 22, 3), (52, .aload_n 0, 1), (53, .iconst (-1), 1), (54, .putfield 26, 3), (57, .aload_n 0, 1), (58, .getfield 12, 3), (61, .aload_n 1, 1), (62, .iload_n 2, 1), (63, .invokevirtual 60, 3), (66, .return_, 1)]
set_option maxRecDepth 100000 in
theorem nhD_12_ok : nh_dtB prog_8_method_2_code nhD_12 = true := by decide +kernel
def nhD_13 : nhDt := [(0, .aload_n 0, 1), (1, .aload_n 1, 1), (2, .putfield 7, 3), (5, .aload_n 0, 1), (6, .aload_n 1, 1), (7, .ifnonnull 7, 3), (10, .iconst 0, 1), (11, .goto 9, 3), (14, .iload_n 2, 1), (15, .aload_n 1, 1), (16, .arraylength, 1), (17, .invokestatic 13, 3), (20, .putfield 19, 3), (23, .aload_n 0, 1), (24, .iconst 0, 1), (25, .putfield 23, 3), (28, .aload_n 0, 1), (29, .invokevirtual 26, 3), (32, .return_, 1)]
set_option maxRecDepth 100000 in
theorem nhD_13_ok : nh_dtB prog_11_method_2_code nhD_13 = true := by decide +kernel
def nhD_14 : nhDt := [(0, .aload_n 0, 1), (1, .getfield 23, 3), (4, .aload_n 0, 1), (5, .getfield 19, 3), (8, .if_icmp .ge 42, 3), (11, .aload_n 0, 1), (12, .aload_n 0, 1), (13, .getfield 23, 3), (16, .invokevirtual 29, 3), (19, .bipush 32, 2), (21, .if_icmp .eq 16, 3), (24, .aload_n 0, 1), (25, .aload_n 0, 1), (26, .getfield 23, 3), (29, .invokevirtual 29, 3), (32, .bipush 10, 2), (34, .if_icmp .ne 16, 3), (37, .aload_n 0, 1), (38, .dup, 1), (39, .getfield 23, 3), (42, .iconst 1, 1), (43, .iadd, 1), (44, .putfield 23, 3), (47, .goto (-47), 3), (50, .aload_n 0, 1), (51, .aload_n 0, 1), (52, .getfield 23, 3), (55, .putfield 33, 3), (58, .aload_n 0, 1), (59, .aload_n 0, 1), (60, .getfield 23, 3), (63, .invokevirtual 29, 3), (66, .istore_n 1, 1), (67, .aload_n 0, 1), (68, .getfield 23, 3), (71, .aload_n 0, 1), (72, .getfield 19, 3), (75, .if_icmp .lt 13, 3), (78, .aload_n 0, 1), (79, .sipush 303, 3), (82, .putfield 36, 3), (85, .goto 130, 3), (88, .iload_n 1, 1), (89, .invokestatic 39, 3), (92, .ifCond .eq 38, 3), (95, .aload_n 0, 1), (96, .invokevirtual 43, 3), (99, .aload_n 0, 1), (100, .aload_n 0, 1), (101, .getfield 23, 3), (104, .aload_n 0, 1), (105, .getfield 33, 3), (108, .isub, 1), (109, .bipush 8, 2), (111, .if_icmp .le 9, 3), (114, .sipush 302, 3), (117, .goto 7, 3), (120, .aload_n 0, 1), (121, .invokevirtual 46, 3), (124, .putfield 36, 3), (127, .goto 88, 3), (130, .iload_n 1, 1), (131, .invokestatic 50, 3), (134, .ifCond .eq 50, 3), (137, .aload_n 0, 1), (138, .invokevirtual 53, 3), (141, .aload_n 0, 1), (142, .aload_n 0, 1), (143, .getfield 23, 3), (146, .aload_n 0, 1), (147, .getfield 33, 3), (150, .isub, 1), (151, .iconst 4, 1), (152, .if_icmp .gt 17, 3), (155, .aload_n 0, 1), (156, .aload_n 0, 1), (157, .getfield 23, 3), (160, .invokevirtual 29, 3), (163, .invokestatic 39, 3), (166, .ifCond .eq 9, 3), (169, .sipush 302, 3), (172, .goto 6, 3), (175, .sipush 301, 3), (178, .putfield 36, 3), (181, .goto 34, 3), (184, .aload_n 0, 1), (185, .ldc 56, 2), (187, .iload_n 1, 1), (188, .i2c, 1), (189, .invokevirtual 58, 3), (192, .ifCond .lt 7, 3), (195, .iload_n 1, 1), (196, .goto 6, 3), (199, .sipush 302, 3), (202, .putfield 36, 3), (205, .aload_n 0, 1), (206, .dup, 1), (207, .getfield 23, 3), (210, .iconst 1, 1), (211, .iadd, 1), (212, .putfield 23, 3), (215, .return_, 1)]
set_option maxRecDepth 100000 in
theorem nhD_14_ok : nh_dtB prog_11_method_6_code nhD_14 = true := by decide +kernel
def nhD_15 : nhDt := [(0, .iload_n 1, 1), (1, .ifCond .lt 31, 3), (4, .iload_n 1, 1), (5, .aload_n 0, 1), (6, .getfield 19, 3), (9, .if_icmp .ge 23, 3), (12, .aload_n 0, 1), (13, .getfield 7, 3), (16, .ifnull 16, 3), (19, .aload_n 0, 1), (20, .getfield 7, 3), (23, .iload_n 1, 1), (24, .baload, 1), (25, .sipush 255, 3), (28, .iand, 1), (29, .goto 4, 3), (32, .iconst 0, 1), (33, .ireturn, 1)]
set_option maxRecDepth 100000 in
theorem nhD_15_ok : nh_dtB prog_11_method_3_code nhD_15 = true := by decide +kernel
def nhD_16 : nhDt := [(0, .iload_n 0, 1), (1, .bipush 97, 2), (3, .if_icmp .lt 13, 3), (6, .iload_n 0, 1), (7, .bipush 122, 2), (9, .if_icmp .gt 7, 3), (12, .iconst 1, 1), (13, .goto 4, 3), (16, .iconst 0, 1), (17, .ireturn, 1)]
set_option maxRecDepth 100000 in
theorem nhD_16_ok : nh_dtB prog_11_method_4_code nhD_16 = true := by decide +kernel
def nhD_17 : nhDt := [(0, .aload_n 0, 1), (1, .lconst 0, 1), (2, .putfield 63, 3), (5, .aload_n 0, 1), (6, .getfield 23, 3), (9, .aload_n 0, 1), (10, .getfield 19, 3), (13, .if_icmp .ge 57, 3), (16, .aload_n 0, 1), (17, .aload_n 0, 1), (18, .getfield 23, 3), (21, .invokevirtual 29, 3), (24, .invokestatic 39, 3), (27, .ifCond .eq 43, 3), (30, .aload_n 0, 1), (31, .aload_n 0, 1), (32, .getfield 63, 3), (35, .ldc2_w 67, 3), (38, .lmul, 1), (39, .aload_n 0, 1), (40, .aload_n 0, 1), (41, .getfield 23, 3), (44, .invokevirtual 29, 3), (47, .bipush 97, 2), (49, .isub, 1), (50, .iconst 1, 1), (51, .iadd, 1), (52, .i2l, 1), (53, .ladd, 1), (54, .putfield 63, 3), (57, .aload_n 0, 1), (58, .dup, 1), (59, .getfield 23, 3), (62, .iconst 1, 1), (63, .iadd, 1), (64, .putfield 23, 3), (67, .goto (-62), 3), (70, .return_, 1)]
set_option maxRecDepth 100000 in
theorem nhD_17_ok : nh_dtB prog_11_method_7_code nhD_17 = true := by decide +kernel
def nhD_18 : nhDt := [(0, .lconst 0, 1), (1, .lstore_n 1, 1), (2, .sipush 256, 3), (5, .istore_n 3, 1), (6, .iconst 0, 1), (7, .istore 4, 2), (9, .iload 4, 2), (11, .ldc 72, 2), (13, .invokevirtual 74, 3), (16, .if_icmp .ge 59, 3), (19, .ldc 72, 2), (21, .iload 4, 2), (23, .invokevirtual 76, 3), (26, .istore 5, 2), (28, .iload 5, 2), (30, .bipush 32, 2), (32, .if_icmp .eq 21, 3), (35, .lload_n 1, 1), (36, .ldc2_w 67, 3), (39, .lmul, 1), (40, .iload 5, 2), (42, .bipush 97, 2), (44, .isub, 1), (45, .iconst 1, 1), (46, .iadd, 1), (47, .i2l, 1), (48, .ladd, 1), (49, .lstore_n 1, 1), (50, .goto 19, 3), (53, .lload_n 1, 1), (54, .aload_n 0, 1), (55, .getfield 63, 3), (58, .lcmp, 1), (59, .ifCond .ne 5, 3), (62, .iload_n 3, 1), (63, .ireturn, 1), (64, .lconst 0, 1), (65, .lstore_n 1, 1), (66, .iinc 3 1, 3), (69, .iinc 4 1, 3), (72, .goto (-63), 3), (75, .sipush 300, 3), (78, .ireturn, 1)]
set_option maxRecDepth 100000 in
theorem nhD_18_ok : nh_dtB prog_11_method_9_code nhD_18 = true := by decide +kernel
def nhD_19 : nhDt := [(0, .iload_n 0, 1), (1, .bipush 48, 2), (3, .if_icmp .lt 13, 3), (6, .iload_n 0, 1), (7, .bipush 57, 2), (9, .if_icmp .gt 7, 3), (12, .iconst 1, 1), (13, .goto 4, 3), (16, .iconst 0, 1), (17, .ireturn, 1)]
set_option maxRecDepth 100000 in
theorem nhD_19_ok : nh_dtB prog_11_method_5_code nhD_19 = true := by decide +kernel
def nhD_20 : nhDt := [(0, .aload_n 0, 1), (1, .iconst 0, 1), (2, .putfield 69, 3), (5, .aload_n 0, 1), (6, .getfield 23, 3), (9, .aload_n 0, 1), (10, .getfield 19, 3), (13, .if_icmp .ge 53, 3), (16, .aload_n 0, 1), (17, .aload_n 0, 1), (18, .getfield 23, 3), (21, .invokevirtual 29, 3), (24, .invokestatic 50, 3), (27, .ifCond .eq 39, 3), (30, .aload_n 0, 1), (31, .aload_n 0, 1), (32, .getfield 69, 3), (35, .bipush 10, 2), (37, .imul, 1), (38, .aload_n 0, 1), (39, .aload_n 0, 1), (40, .getfield 23, 3), (43, .invokevirtual 29, 3), (46, .bipush 48, 2), (48, .isub, 1), (49, .iadd, 1), (50, .putfield 69, 3), (53, .aload_n 0, 1), (54, .dup, 1), (55, .getfield 23, 3), (58, .iconst 1, 1), (59, .iadd, 1), (60, .putfield 23, 3), (63, .goto (-58), 3), (66, .return_, 1)]
set_option maxRecDepth 100000 in
theorem nhD_20_ok : nh_dtB prog_11_method_8_code nhD_20 = true := by decide +kernel
def nhD_21 : nhDt := [(0, .aload_n 0, 1), (1, .getfield 29, 3), (4, .ifnull 7, 3), (7, .iconst 1, 1), (8, .goto 4, 3), (11, .iconst 0, 1), (12, .istore_n 1, 1), (13, .iconst 0, 1), (14, .istore_n 2, 1), (15, .iload_n 1, 1), (16, .ifCond .eq 397, 3), (19, .iload_n 2, 1), (20, .sipush 1600, 3), (23, .if_icmp .gt 390, 3), (26, .aload_n 0, 1), (27, .getfield 12, 3), (30, .getfield 64, 3), (33, .sipush 303, 3), (36, .if_icmp .eq 377, 3), (39, .aload_n 0, 1), (40, .getfield 12, 3), (43, .getfield 64, 3), (46, .tableswitch 337 256 265 #[54, 337, 86, 123, 337, 162, 197, 232, 267, 302], 54), (100, .aload_n 0, 1), (101, .iload_n 2, 1), (102, .ifCond .ne 7, 3), (105, .iconst 1, 1), (106, .goto 4, 3), (109, .iconst 0, 1), (110, .invokevirtual 67, 3), (113, .ifCond .eq 14, 3), (116, .aload_n 0, 1), (117, .invokevirtual 71, 3), (120, .ifCond .eq 7, 3), (123, .iconst 1, 1), (124, .goto 4, 3), (127, .iconst 0, 1), (128, .istore_n 1, 1), (129, .goto 259, 3), (132, .aload_n 0, 1), (133, .aload_n 0, 1), (134, .getfield 54, 3), (137, .bipush 8, 2), (139, .if_icmp .ge 7, 3), (142, .iconst 1, 1), (143, .goto 4, 3), (146, .iconst 0, 1), (147, .invokevirtual 67, 3), (150, .ifCond .eq 14, 3), (153, .aload_n 0, 1), (154, .invokevirtual 75, 3), (157, .ifCond .eq 7, 3), (160, .iconst 1, 1), (161, .goto 4, 3), (164, .iconst 0, 1), (165, .istore_n 1, 1), (166, .goto 222, 3), (169, .aload_n 0, 1), (170, .aload_n 0, 1), (171, .getfield 29, 3), (174, .getfield 78, 3), (177, .iconst 5, 1), (178, .if_icmp .ge 7, 3), (181, .iconst 1, 1), (182, .goto 4, 3), (185, .iconst 0, 1), (186, .invokevirtual 67, 3), (189, .ifCond .eq 14, 3), (192, .aload_n 0, 1), (193, .invokevirtual 81, 3), (196, .ifCond .eq 7, 3), (199, .iconst 1, 1), (200, .goto 4, 3), (203, .iconst 0, 1), (204, .istore_n 1, 1), (205, .goto 183, 3), (208, .aload_n 0, 1), (209, .aload_n 0, 1), (210, .getfield 38, 3), (213, .ifCond .ne 7, 3), (216, .iconst 1, 1), (217, .goto 4, 3), (220, .iconst 0, 1), (221, .invokevirtual 67, 3), (224, .ifCond .eq 14, 3), (227, .aload_n 0, 1), (228, .invokevirtual 84, 3), (231, .ifCond .eq 7, 3), (234, .iconst 1, 1), (235, .goto 4, 3), (238, .iconst 0, 1), (239, .istore_n 1, 1), (240, .goto 148, 3), (243, .aload_n 0, 1), (244, .aload_n 0, 1), (245, .getfield 42, 3), (248, .ifCond .ne 7, 3), (251, .iconst 1, 1), (252, .goto 4, 3), (255, .iconst 0, 1), (256, .invokevirtual 67, 3), (259, .ifCond .eq 14, 3), (262, .aload_n 0, 1), (263, .invokevirtual 87, 3), (266, .ifCond .eq 7, 3), (269, .iconst 1, 1), (270, .goto 4, 3), (273, .iconst 0, 1), (274, .istore_n 1, 1), (275, .goto 113, 3), (278, .aload_n 0, 1), (279, .aload_n 0, 1), (280, .getfield 45, 3), (283, .ifCond .ne 7, 3), (286, .iconst 1, 1), (287, .goto 4, 3), (290, .iconst 0, 1), (291, .invokevirtual 67, 3), (294, .ifCond .eq 14, 3), (297, .aload_n 0, 1), (298, .invokevirtual 90, 3), (301, .ifCond .eq 7, 3), (304, .iconst 1, 1), (305, .goto 4, 3), (308, .iconst 0, 1), (309, .istore_n 1, 1), (310, .goto 78, 3), (313, .aload_n 0, 1), (314, .aload_n 0, 1), (315, .getfield 48, 3), (318, .ifCond .ne 7, 3), (321, .iconst 1, 1), (322, .goto 4, 3), (325, .iconst 0, 1), (326, .invokevirtual 67, 3), (329, .ifCond .eq 14, 3), (332, .aload_n 0, 1), (333, .invokevirtual 93, 3), (336, .ifCond .eq 7, 3), (339, .iconst 1, 1), (340, .goto 4, 3), (343, .iconst 0, 1), (344, .istore_n 1, 1), (345, .goto 43, 3), (348, .aload_n 0, 1), (349, .aload_n 0, 1), (350, .getfield 51, 3), (353, .ifCond .ne 7, 3), (356, .iconst 1, 1), (357, .goto 4, 3), (360, .iconst 0, 1), (361, .invokevirtual 67, 3), (364, .ifCond .eq 14, 3), (367, .aload_n 0, 1), (368, .invokevirtual 96, 3), (371, .ifCond .eq 7, 3), (374, .iconst 1, 1), (375, .goto 4, 3), (378, .iconst 0, 1), (379, .istore_n 1, 1), (380, .goto 8, 3), (383, .aload_n 0, 1), (384, .invokevirtual 99, 3), (387, .istore_n 1, 1), (388, .iload_n 1, 1), (389, .ifCond .eq 16, 3), (392, .aload_n 0, 1), (393, .bipush 59, 2), (395, .invokevirtual 102, 3), (398, .ifCond .eq 7, 3), (401, .iconst 1, 1), (402, .goto 4, 3), (405, .iconst 0, 1), (406, .istore_n 1, 1), (407, .iinc 2 1, 3), (410, .goto (-395), 3), (413, .iload_n 1, 1), (414, .ireturn, 1)]
set_option maxRecDepth 100000 in
theorem nhD_21_ok : nh_dtB prog_8_method_3_code nhD_21 = true := by decide +kernel
def nhD_22 : nhDt := [(0, .iload_n 1, 1), (1, .ifCond .eq 17, 3), (4, .aload_n 0, 1), (5, .aload_n 0, 1), (6, .getfield 12, 3), (9, .getfield 64, 3), (12, .invokevirtual 102, 3), (15, .goto 7, 3), (18, .aload_n 0, 1), (19, .invokevirtual 99, 3), (22, .ireturn, 1)]
set_option maxRecDepth 100000 in
theorem nhD_22_ok : nh_dtB prog_8_method_7_code nhD_22 = true := by decide +kernel
def nhD_23 : nhDt := [(0, .aload_n 0, 1), (1, .getfield 12, 3), (4, .getfield 64, 3), (7, .iload_n 1, 1), (8, .if_icmp .eq 8, 3), (11, .aload_n 0, 1), (12, .invokevirtual 99, 3), (15, .ireturn, 1), (16, .aload_n 0, 1), (17, .getfield 12, 3), (20, .invokevirtual 113, 3), (23, .iconst 1, 1), (24, .ireturn, 1)]
set_option maxRecDepth 100000 in
theorem nhD_23_ok : nh_dtB prog_8_method_6_code nhD_23 = true := by decide +kernel
def nhD_24 : nhDt := [(0, .aload_n 0, 1), (1, .getfield 12, 3), (4, .getfield 64, 3), (7, .sipush 302, 3), (10, .if_icmp .ne 7, 3), (13, .iconst 1, 1), (14, .goto 4, 3), (17, .iconst 0, 1), (18, .istore_n 1, 1), (19, .aload_n 0, 1), (20, .iload_n 1, 1), (21, .ifCond .eq 7, 3), (24, .iconst 1, 1), (25, .goto 4, 3), (28, .iconst 2, 1), (29, .aload_n 0, 1), (30, .getfield 12, 3), (33, .getfield 106, 3), (36, .invokevirtual 109, 3), (39, .ireturn, 1)]
set_option maxRecDepth 100000 in
theorem nhD_24_ok : nh_dtB prog_8_method_5_code nhD_24 = true := by decide +kernel
def nhD_25 : nhDt := [(0, .aload_n 0, 1), (1, .iload_n 1, 1), (2, .putfield 22, 3), (5, .aload_n 0, 1), (6, .iload_n 2, 1), (7, .putfield 26, 3), (10, .iconst 0, 1), (11, .ireturn, 1)]
set_option maxRecDepth 100000 in
theorem nhD_25_ok : nh_dtB prog_8_method_4_code nhD_25 = true := by decide +kernel
def nhD_26 : nhDt := [(0, .aload_n 0, 1), (1, .iconst 1, 1), (2, .bipush 6, 2), (4, .invokevirtual 122, 3), (7, .ifCond .eq 13, 3), (10, .aload_n 0, 1), (11, .sipush 257, 3), (14, .invokevirtual 102, 3), (17, .ifCond .ne 5, 3), (20, .iconst 0, 1), (21, .ireturn, 1), (22, .aload_n 0, 1), (23, .getfield 119, 3), (26, .istore_n 1, 1), (27, .aload_n 0, 1), (28, .iconst 1, 1), (29, .bipush 6, 2), (31, .invokevirtual 122, 3), (34, .ifCond .ne 5, 3), (37, .iconst 0, 1), (38, .ireturn, 1), (39, .aload_n 0, 1), (40, .getfield 29, 3), (43, .iload_n 1, 1), (44, .aload_n 0, 1), (45, .getfield 119, 3), (48, .invokevirtual 125, 3), (51, .iconst 1, 1), (52, .ireturn, 1)]
set_option maxRecDepth 100000 in
theorem nhD_26_ok : nh_dtB prog_8_method_9_code nhD_26 = true := by decide +kernel
def nhD_27 : nhDt := [(0, .aload_n 0, 1), (1, .getfield 12, 3), (4, .getfield 64, 3), (7, .sipush 301, 3), (10, .if_icmp .eq 8, 3), (13, .aload_n 0, 1), (14, .invokevirtual 99, 3), (17, .ireturn, 1), (18, .aload_n 0, 1), (19, .getfield 12, 3), (22, .getfield 116, 3), (25, .iload_n 1, 1), (26, .if_icmp .lt 14, 3), (29, .aload_n 0, 1), (30, .getfield 12, 3), (33, .getfield 116, 3), (36, .iload_n 2, 1), (37, .if_icmp .le 16, 3), (40, .aload_n 0, 1), (41, .iconst 4, 1), (42, .aload_n 0, 1), (43, .getfield 12, 3), (46, .getfield 106, 3), (49, .invokevirtual 109, 3), (52, .ireturn, 1), (53, .aload_n 0, 1), (54, .aload_n 0, 1), (55, .getfield 12, 3), (58, .getfield 116, 3), (61, .putfield 119, 3), (64, .aload_n 0, 1), (65, .getfield 12, 3), (68, .invokevirtual 113, 3), (71, .iconst 1, 1), (72, .ireturn, 1)]
set_option maxRecDepth 100000 in
theorem nhD_27_ok : nh_dtB prog_8_method_8_code nhD_27 = true := by decide +kernel
def nhD_28 : nhDt := [(0, .aload_n 0, 1), (1, .iconst 1, 1), (2, .invokevirtual 144, 3), (5, .ifCond .ne 5, 3), (8, .iconst 0, 1), (9, .ireturn, 1), (10, .aload_n 0, 1), (11, .getfield 29, 3), (14, .dup, 1), (15, .getfield 147, 3), (18, .lconst 1, 1), (19, .aload_n 0, 1), (20, .getfield 119, 3), (23, .lshl, 1), (24, .lor, 1), (25, .putfield 147, 3), (28, .aload_n 0, 1), (29, .dup, 1), (30, .getfield 54, 3), (33, .iconst 1, 1), (34, .iadd, 1), (35, .putfield 54, 3), (38, .iconst 1, 1), (39, .ireturn, 1)]
set_option maxRecDepth 100000 in
theorem nhD_28_ok : nh_dtB prog_8_method_11_code nhD_28 = true := by decide +kernel
def nhD_29 : nhDt := [(0, .aload_n 0, 1), (1, .iconst 0, 1), (2, .aload_n 0, 1), (3, .getfield 29, 3), (6, .getfield 129, 3), (9, .iconst 1, 1), (10, .isub, 1), (11, .invokevirtual 122, 3), (14, .ifCond .ne 5, 3), (17, .iconst 0, 1), (18, .ireturn, 1), (19, .aload_n 0, 1), (20, .getfield 119, 3), (23, .istore_n 2, 1), (24, .aload_n 0, 1), (25, .getfield 12, 3), (28, .getfield 106, 3), (31, .istore_n 3, 1), (32, .aload_n 0, 1), (33, .iconst 0, 1), (34, .aload_n 0, 1), (35, .getfield 29, 3), (38, .getfield 132, 3), (41, .iconst 1, 1), (42, .isub, 1), (43, .invokevirtual 122, 3), (46, .ifCond .ne 5, 3), (49, .iconst 0, 1), (50, .ireturn, 1), (51, .aload_n 0, 1), (52, .aload_n 0, 1), (53, .getfield 119, 3), (56, .aload_n 0, 1), (57, .getfield 29, 3), (60, .getfield 129, 3), (63, .imul, 1), (64, .iload_n 2, 1), (65, .iadd, 1), (66, .putfield 119, 3), (69, .aload_n 0, 1), (70, .getfield 29, 3), (73, .aload_n 0, 1), (74, .getfield 119, 3), (77, .invokevirtual 135, 3), (80, .ifCond .ne 35, 3), (83, .iload_n 1, 1), (84, .ifCond .eq 35, 3), (87, .aload_n 0, 1), (88, .getfield 29, 3), (91, .aload_n 0, 1), (92, .getfield 119, 3), (95, .invokevirtual 138, 3), (98, .ifCond .ne 17, 3), (101, .aload_n 0, 1), (102, .getfield 29, 3), (105, .getfield 141, 3), (108, .aload_n 0, 1), (109, .getfield 119, 3), (112, .if_icmp .ne 7, 3), (115, .iconst 1, 1), (116, .goto 4, 3), (119, .iconst 0, 1), (120, .istore 4, 2), (122, .iload 4, 2), (124, .ifCond .eq 12, 3), (127, .aload_n 0, 1), (128, .iconst 3, 1), (129, .iload_n 3, 1), (130, .invokevirtual 109, 3), (133, .ifCond .eq 7, 3), (136, .iconst 1, 1), (137, .goto 4, 3), (140, .iconst 0, 1), (141, .ireturn, 1)]
set_option maxRecDepth 100000 in
theorem nhD_29_ok : nh_dtB prog_8_method_10_code nhD_29 = true := by decide +kernel
def nhD_30 : nhDt := [(0, .iconst 0, 1), (1, .istore_n 2, 1), (2, .iload_n 2, 1), (3, .aload_n 0, 1), (4, .getfield 38, 3), (7, .if_icmp .ge 21, 3), (10, .aload_n 0, 1), (11, .getfield 9, 3), (14, .iload_n 2, 1), (15, .iaload, 1), (16, .iload_n 1, 1), (17, .if_icmp .ne 5, 3), (20, .iconst 1, 1), (21, .ireturn, 1), (22, .iinc 2 1, 3), (25, .goto (-23), 3), (28, .iconst 0, 1), (29, .ireturn, 1)]
set_option maxRecDepth 100000 in
theorem nhD_30_ok : nh_dtB prog_5_method_5_code nhD_30 = true := by decide +kernel
def nhD_31 : nhDt := [(0, .aload_n 0, 1), (1, .getfield 12, 3), (4, .getfield 64, 3), (7, .sipush 300, 3), (10, .if_icmp .eq 8, 3), (13, .aload_n 0, 1), (14, .invokevirtual 99, 3), (17, .ireturn, 1), (18, .aload_n 0, 1), (19, .getfield 12, 3), (22, .getfield 151, 3), (25, .lstore_n 1, 1), (26, .iconst 0, 1), (27, .istore_n 3, 1), (28, .iload_n 3, 1), (29, .aload_n 0, 1), (30, .getfield 29, 3), (33, .getfield 78, 3), (36, .if_icmp .ge 33, 3), (39, .aload_n 0, 1), (40, .getfield 18, 3), (43, .iload_n 3, 1), (44, .laload, 1), (45, .lload_n 1, 1), (46, .lcmp, 1), (47, .ifCond .ne 16, 3), (50, .aload_n 0, 1), (51, .iconst 3, 1), (52, .aload_n 0, 1), (53, .getfield 12, 3), (56, .getfield 106, 3), (59, .invokevirtual 109, 3), (62, .ireturn, 1), (63, .iinc 3 1, 3), (66, .goto (-38), 3), (69, .aload_n 0, 1), (70, .getfield 12, 3), (73, .invokevirtual 113, 3), (76, .aload_n 0, 1), (77, .sipush 260, 3), (80, .invokevirtual 102, 3), (83, .ifCond .eq 22, 3), (86, .aload_n 0, 1), (87, .iconst 0, 1), (88, .invokevirtual 144, 3), (91, .ifCond .eq 14, 3), (94, .aload_n 0, 1), (95, .getfield 29, 3), (98, .getfield 78, 3), (101, .iconst 5, 1), (102, .if_icmp .lt 5, 3), (105, .iconst 0, 1), (106, .ireturn, 1), (107, .aload_n 0, 1), (108, .getfield 18, 3), (111, .aload_n 0, 1), (112, .getfield 29, 3), (115, .getfield 78, 3), (118, .lload_n 1, 1), (119, .lastore, 1), (120, .aload_n 0, 1), (121, .getfield 29, 3), (124, .getfield 154, 3), (127, .aload_n 0, 1), (128, .getfield 29, 3), (131, .getfield 78, 3), (134, .aload_n 0, 1), (135, .getfield 119, 3), (138, .iastore, 1), (139, .aload_n 0, 1), (140, .getfield 29, 3), (143, .dup, 1), (144, .getfield 78, 3), (147, .iconst 1, 1), (148, .iadd, 1), (149, .putfield 78, 3), (152, .iconst 1, 1), (153, .ireturn, 1)]
set_option maxRecDepth 100000 in
theorem nhD_31_ok : nh_dtB prog_8_method_12_code nhD_31 = true := by decide +kernel
def nhD_32 : nhDt := [(0, .aload_n 0, 1), (1, .iconst 0, 1), (2, .invokevirtual 144, 3), (5, .ifCond .ne 5, 3), (8, .iconst 0, 1), (9, .ireturn, 1), (10, .aload_n 0, 1), (11, .getfield 29, 3), (14, .aload_n 0, 1), (15, .getfield 119, 3), (18, .putfield 141, 3), (21, .aload_n 0, 1), (22, .iconst 1, 1), (23, .putfield 38, 3), (26, .iconst 1, 1), (27, .ireturn, 1)]
set_option maxRecDepth 100000 in
theorem nhD_32_ok : nh_dtB prog_8_method_13_code nhD_32 = true := by decide +kernel
def nhD_33 : nhDt := [(0, .aload_n 0, 1), (1, .iconst 1, 1), (2, .putfield 42, 3), (5, .aload_n 0, 1), (6, .iconst 0, 1), (7, .invokevirtual 158, 3), (10, .ireturn, 1)]
set_option maxRecDepth 100000 in
theorem nhD_33_ok : nh_dtB prog_8_method_14_code nhD_33 = true := by decide +kernel
def nhD_34 : nhDt := [(0, .aload_n 0, 1), (1, .iload_n 1, 1), (2, .invokevirtual 170, 3), (5, .ifCond .ne 5, 3), (8, .iconst 0, 1), (9, .ireturn, 1), (10, .iconst 0, 1), (11, .istore_n 2, 1), (12, .iload_n 2, 1), (13, .sipush 1600, 3), (16, .if_icmp .ge 51, 3), (19, .aload_n 0, 1), (20, .getfield 12, 3), (23, .getfield 64, 3), (26, .sipush 266, 3), (29, .if_icmp .ne 38, 3), (32, .aload_n 0, 1), (33, .getfield 12, 3), (36, .invokevirtual 113, 3), (39, .aload_n 0, 1), (40, .iload_n 1, 1), (41, .invokevirtual 170, 3), (44, .ifCond .ne 5, 3), (47, .iconst 0, 1), (48, .ireturn, 1), (49, .aload_n 0, 1), (50, .getfield 29, 3), (53, .getfield 173, 3), (56, .bipush (-7), 2), (58, .invokevirtual 179, 3), (61, .iinc 2 1, 3), (64, .goto (-52), 3), (67, .iconst 1, 1), (68, .ireturn, 1)]
set_option maxRecDepth 100000 in
theorem nhD_34_ok : nh_dtB prog_8_method_18_code nhD_34 = true := by decide +kernel
def nhD_35 : nhDt := [(0, .aload_n 0, 1), (1, .iload_n 1, 1), (2, .invokevirtual 183, 3), (5, .ifCond .ne 5, 3), (8, .iconst 0, 1), (9, .ireturn, 1), (10, .iconst 0, 1), (11, .istore_n 2, 1), (12, .iload_n 2, 1), (13, .sipush 1600, 3), (16, .if_icmp .ge 51, 3), (19, .aload_n 0, 1), (20, .getfield 12, 3), (23, .getfield 64, 3), (26, .sipush 267, 3), (29, .if_icmp .ne 38, 3), (32, .aload_n 0, 1), (33, .getfield 12, 3), (36, .invokevirtual 113, 3), (39, .aload_n 0, 1), (40, .iload_n 1, 1), (41, .invokevirtual 183, 3), (44, .ifCond .ne 5, 3), (47, .iconst 0, 1), (48, .ireturn, 1), (49, .aload_n 0, 1), (50, .getfield 29, 3), (53, .getfield 173, 3), (56, .bipush (-8), 2), (58, .invokevirtual 179, 3), (61, .iinc 2 1, 3), (64, .goto (-52), 3), (67, .iconst 1, 1), (68, .ireturn, 1)]
set_option maxRecDepth 100000 in
theorem nhD_35_ok : nh_dtB prog_8_method_19_code nhD_35 = true := by decide +kernel
def nhD_36 : nhDt := [(0, .aload_n 0, 1), (1, .getfield 12, 3), (4, .getfield 64, 3), (7, .sipush 268, 3), (10, .if_icmp .ne 9, 3), (13, .aload_n 0, 1), (14, .iload_n 1, 1), (15, .invokevirtual 186, 3), (18, .ireturn, 1), (19, .aload_n 0, 1), (20, .iload_n 1, 1), (21, .invokevirtual 189, 3), (24, .ifCond .ne 5, 3), (27, .iconst 0, 1), (28, .ireturn, 1), (29, .aload_n 0, 1), (30, .getfield 12, 3), (33, .getfield 64, 3), (36, .invokestatic 192, 3), (39, .istore_n 2, 1), (40, .iload_n 2, 1), (41, .ifCond .ne 5, 3), (44, .iconst 1, 1), (45, .ireturn, 1), (46, .aload_n 0, 1), (47, .getfield 12, 3), (50, .invokevirtual 113, 3), (53, .aload_n 0, 1), (54, .iload_n 1, 1), (55, .invokevirtual 189, 3), (58, .ifCond .ne 5, 3), (61, .iconst 0, 1), (62, .ireturn, 1), (63, .aload_n 0, 1), (64, .getfield 29, 3), (67, .getfield 173, 3), (70, .iload_n 2, 1), (71, .invokevirtual 179, 3), (74, .iconst 1, 1), (75, .ireturn, 1)]
set_option maxRecDepth 100000 in
theorem nhD_36_ok : nh_dtB prog_8_method_20_code nhD_36 = true := by decide +kernel
def nhD_37 : nhDt := [(0, .iload_n 1, 1), (1, .bipush 7, 2), (3, .if_icmp .lt 8, 3), (6, .aload_n 0, 1), (7, .invokevirtual 99, 3), (10, .ireturn, 1), (11, .aload_n 0, 1), (12, .getfield 12, 3), (15, .invokevirtual 113, 3), (18, .aload_n 0, 1), (19, .iload_n 1, 1), (20, .iconst 1, 1), (21, .iadd, 1), (22, .invokevirtual 183, 3), (25, .ifCond .ne 5, 3), (28, .iconst 0, 1), (29, .ireturn, 1), (30, .aload_n 0, 1), (31, .getfield 29, 3), (34, .getfield 173, 3), (37, .bipush (-9), 2), (39, .invokevirtual 179, 3), (42, .iconst 1, 1), (43, .ireturn, 1)]
set_option maxRecDepth 100000 in
theorem nhD_37_ok : nh_dtB prog_8_method_21_code nhD_37 = true := by decide +kernel
def nhD_38 : nhDt := [(0, .aload_n 0, 1), (1, .getfield 19, 3), (4, .sipush 300, 3), (7, .if_icmp .ge 23, 3), (10, .aload_n 0, 1), (11, .getfield 9, 3), (14, .aload_n 0, 1), (15, .getfield 19, 3), (18, .iload_n 1, 1), (19, .iastore, 1), (20, .aload_n 0, 1), (21, .dup, 1), (22, .getfield 19, 3), (25, .iconst 1, 1), (26, .iadd, 1), (27, .putfield 19, 3), (30, .return_, 1)]
set_option maxRecDepth 100000 in
theorem nhD_38_ok : nh_dtB prog_3_method_3_code nhD_38 = true := by decide +kernel
def nhD_39 : nhDt := [(0, .aload_n 0, 1), (1, .iload_n 1, 1), (2, .invokevirtual 196, 3), (5, .ifCond .ne 5, 3), (8, .iconst 0, 1), (9, .ireturn, 1), (10, .iconst 0, 1), (11, .istore_n 2, 1), (12, .iload_n 2, 1), (13, .sipush 1600, 3), (16, .if_icmp .ge 81, 3), (19, .aload_n 0, 1), (20, .getfield 12, 3), (23, .getfield 64, 3), (26, .bipush 43, 2), (28, .if_icmp .eq 15, 3), (31, .aload_n 0, 1), (32, .getfield 12, 3), (35, .getfield 64, 3), (38, .bipush 45, 2), (40, .if_icmp .ne 57, 3), (43, .aload_n 0, 1), (44, .getfield 12, 3), (47, .getfield 64, 3), (50, .bipush 43, 2), (52, .if_icmp .ne 8, 3), (55, .bipush (-13), 2), (57, .goto 5, 3), (60, .bipush (-14), 2), (62, .istore_n 3, 1), (63, .aload_n 0, 1), (64, .getfield 12, 3), (67, .invokevirtual 113, 3), (70, .aload_n 0, 1), (71, .iload_n 1, 1), (72, .invokevirtual 196, 3), (75, .ifCond .ne 5, 3), (78, .iconst 0, 1), (79, .ireturn, 1), (80, .aload_n 0, 1), (81, .getfield 29, 3), (84, .getfield 173, 3), (87, .iload_n 3, 1), (88, .invokevirtual 179, 3), (91, .iinc 2 1, 3), (94, .goto (-82), 3), (97, .iconst 1, 1), (98, .ireturn, 1)]
set_option maxRecDepth 100000 in
theorem nhD_39_ok : nh_dtB prog_8_method_23_code nhD_39 = true := by decide +kernel
def nhDc_0 : List nhDt := [nhD_0, nhD_1, nhD_2, nhD_3, nhD_4, nhD_5, nhD_6, nhD_7, nhD_8, nhD_9, nhD_10, nhD_11, nhD_12, nhD_13, nhD_14, nhD_15, nhD_16, nhD_17, nhD_18, nhD_19, nhD_20, nhD_21, nhD_22, nhD_23, nhD_24, nhD_25, nhD_26, nhD_27, nhD_28, nhD_29, nhD_30, nhD_31, nhD_32, nhD_33, nhD_34, nhD_35, nhD_36, nhD_37, nhD_38, nhD_39]
set_option maxRecDepth 100000 in
theorem nhDz_0 : nhZ nhMt_0 nhDc_0 := ⟨nhD_0_ok, nhD_1_ok, nhD_2_ok, nhD_3_ok, nhD_4_ok, nhD_5_ok, nhD_6_ok, nhD_7_ok, nhD_8_ok, nhD_9_ok, nhD_10_ok, nhD_11_ok, nhD_12_ok, nhD_13_ok, nhD_14_ok, nhD_15_ok, nhD_16_ok, nhD_17_ok, nhD_18_ok, nhD_19_ok, nhD_20_ok, nhD_21_ok, nhD_22_ok, nhD_23_ok, nhD_24_ok, nhD_25_ok, nhD_26_ok, nhD_27_ok, nhD_28_ok, nhD_29_ok, nhD_30_ok, nhD_31_ok, nhD_32_ok, nhD_33_ok, nhD_34_ok, nhD_35_ok, nhD_36_ok, nhD_37_ok, nhD_38_ok, nhD_39_ok, trivial⟩
def nhD_40 : nhDt := [(0, .aload_n 0, 1), (1, .iload_n 1, 1), (2, .invokevirtual 199, 3), (5, .ifCond .ne 5, 3), (8, .iconst 0, 1), (9, .ireturn, 1), (10, .iconst 0, 1), (11, .istore_n 2, 1), (12, .iload_n 2, 1), (13, .sipush 1600, 3), (16, .if_icmp .ge 61, 3), (19, .aload_n 0, 1), (20, .getfield 12, 3), (23, .getfield 64, 3), (26, .invokestatic 202, 3), (29, .ifCond .eq 48, 3), (32, .aload_n 0, 1), (33, .getfield 12, 3), (36, .getfield 64, 3), (39, .invokestatic 202, 3), (42, .istore_n 3, 1), (43, .aload_n 0, 1), (44, .getfield 12, 3), (47, .invokevirtual 113, 3), (50, .aload_n 0, 1), (51, .iload_n 1, 1), (52, .invokevirtual 199, 3), (55, .ifCond .ne 5, 3), (58, .iconst 0, 1), (59, .ireturn, 1), (60, .aload_n 0, 1), (61, .getfield 29, 3), (64, .getfield 173, 3), (67, .iload_n 3, 1), (68, .invokevirtual 179, 3), (71, .iinc 2 1, 3), (74, .goto (-62), 3), (77, .iconst 1, 1), (78, .ireturn, 1)]
set_option maxRecDepth 100000 in
theorem nhD_40_ok : nh_dtB prog_8_method_24_code nhD_40 = true := by decide +kernel
def nhD_41 : nhDt := [(0, .aload_n 0, 1), (1, .getfield 12, 3), (4, .getfield 64, 3), (7, .bipush 40, 2), (9, .if_icmp .ne 7, 3), (12, .iconst 1, 1), (13, .goto 4, 3), (16, .iconst 0, 1), (17, .istore_n 2, 1), (18, .aload_n 0, 1), (19, .getfield 12, 3), (22, .getfield 64, 3), (25, .sipush 301, 3), (28, .if_icmp .ne 7, 3), (31, .iconst 1, 1), (32, .goto 4, 3), (35, .iconst 0, 1), (36, .istore_n 3, 1), (37, .aload_n 0, 1), (38, .getfield 12, 3), (41, .getfield 64, 3), (44, .invokestatic 205, 3), (47, .istore 4, 2), (49, .aload_n 0, 1), (50, .getfield 57, 3), (53, .bipush 30, 2), (55, .if_icmp .ge 18, 3), (58, .aload_n 0, 1), (59, .getfield 29, 3), (62, .getfield 173, 3), (65, .getfield 208, 3), (68, .bipush 60, 2), (70, .if_icmp .lt 7, 3), (73, .iconst 1, 1), (74, .goto 4, 3), (77, .iconst 0, 1), (78, .istore 5, 2), (80, .iload 5, 2), (82, .ifCond .ne 26, 3), (85, .iload_n 2, 1), (86, .ifCond .ne 12, 3), (89, .iload_n 3, 1), (90, .ifCond .ne 8, 3), (93, .iload 4, 2), (95, .ifCond .eq 13, 3), (98, .iload_n 2, 1), (99, .ifCond .eq 14, 3), (102, .iload_n 1, 1), (103, .bipush 7, 2), (105, .if_icmp .lt 8, 3), (108, .aload_n 0, 1), (109, .invokevirtual 99, 3), (112, .ireturn, 1), (113, .aload_n 0, 1), (114, .dup, 1), (115, .getfield 57, 3), (118, .iconst 1, 1), (119, .iadd, 1), (120, .putfield 57, 3), (123, .aload_n 0, 1), (124, .getfield 29, 3), (127, .getfield 173, 3), (130, .dup, 1), (131, .getfield 208, 3), (134, .iconst 1, 1), (135, .iadd, 1), (136, .putfield 208, 3), (139, .iload_n 2, 1), (140, .ifCond .ne 29, 3), (143, .aload_n 0, 1), (144, .getfield 29, 3), (147, .getfield 173, 3), (150, .iload_n 3, 1), (151, .ifCond .eq 13, 3), (154, .aload_n 0, 1), (155, .getfield 12, 3), (158, .getfield 116, 3), (161, .goto 5, 3), (164, .iload 4, 2), (166, .invokevirtual 179, 3), (169, .aload_n 0, 1), (170, .getfield 12, 3), (173, .invokevirtual 113, 3), (176, .iload_n 2, 1), (177, .ifCond .eq 22, 3), (180, .aload_n 0, 1), (181, .iload_n 1, 1), (182, .iconst 1, 1), (183, .iadd, 1), (184, .invokevirtual 158, 3), (187, .ifCond .eq 16, 3), (190, .aload_n 0, 1), (191, .bipush 41, 2), (193, .invokevirtual 102, 3), (196, .ifCond .eq 7, 3), (199, .iconst 1, 1), (200, .goto 4, 3), (203, .iconst 0, 1), (204, .ireturn, 1)]
set_option maxRecDepth 100000 in
theorem nhD_41_ok : nh_dtB prog_8_method_26_code nhD_41 = true := by decide +kernel
def nhD_42 : nhDt := [(0, .iload_n 0, 1), (1, .tableswitch 56 269 274 #[39, 41, 44, 47, 50, 53], 39), (40, .iconst (-1), 1), (41, .ireturn, 1), (42, .bipush (-2), 2), (44, .ireturn, 1), (45, .bipush (-3), 2), (47, .ireturn, 1), (48, .bipush (-4), 2), (50, .ireturn, 1), (51, .bipush (-5), 2), (53, .ireturn, 1), (54, .bipush (-6), 2), (56, .ireturn, 1), (57, .iconst 0, 1), (58, .ireturn, 1)]
set_option maxRecDepth 100000 in
theorem nhD_42_ok : nh_dtB prog_8_method_27_code nhD_42 = true := by decide +kernel
def nhD_43 : nhDt := [(0, .iload_n 0, 1), (1, .bipush 42, 2), (3, .if_icmp .ne 8, 3), (6, .bipush (-15), 2), (8, .goto 26, 3), (11, .iload_n 0, 1), (12, .bipush 47, 2), (14, .if_icmp .ne 8, 3), (17, .bipush (-16), 2), (19, .goto 15, 3), (22, .iload_n 0, 1), (23, .bipush 37, 2), (25, .if_icmp .ne 8, 3), (28, .bipush (-17), 2), (30, .goto 4, 3), (33, .iconst 0, 1), (34, .ireturn, 1)]
set_option maxRecDepth 100000 in
theorem nhD_43_ok : nh_dtB prog_8_method_25_code nhD_43 = true := by decide +kernel
def nhD_44 : nhDt := [(0, .iload_n 0, 1), (1, .bipush 60, 2), (3, .if_icmp .ne 8, 3), (6, .bipush (-10), 2), (8, .goto 26, 3), (11, .iload_n 0, 1), (12, .bipush 62, 2), (14, .if_icmp .ne 8, 3), (17, .bipush (-11), 2), (19, .goto 15, 3), (22, .iload_n 0, 1), (23, .bipush 61, 2), (25, .if_icmp .ne 8, 3), (28, .bipush (-12), 2), (30, .goto 4, 3), (33, .iconst 0, 1), (34, .ireturn, 1)]
set_option maxRecDepth 100000 in
theorem nhD_44_ok : nh_dtB prog_8_method_22_code nhD_44 = true := by decide +kernel
def nhD_45 : nhDt := [(0, .aload_n 0, 1), (1, .iconst 0, 1), (2, .bipush 10, 2), (4, .invokevirtual 122, 3), (7, .ifCond .ne 5, 3), (10, .iconst 0, 1), (11, .ireturn, 1), (12, .aload_n 0, 1), (13, .getfield 29, 3), (16, .aload_n 0, 1), (17, .getfield 119, 3), (20, .putfield 161, 3), (23, .aload_n 0, 1), (24, .iconst 1, 1), (25, .putfield 45, 3), (28, .iconst 1, 1), (29, .ireturn, 1)]
set_option maxRecDepth 100000 in
theorem nhD_45_ok : nh_dtB prog_8_method_15_code nhD_45 = true := by decide +kernel
def nhD_46 : nhDt := [(0, .aload_n 0, 1), (1, .iconst 0, 1), (2, .bipush 100, 2), (4, .invokevirtual 122, 3), (7, .ifCond .ne 5, 3), (10, .iconst 0, 1), (11, .ireturn, 1), (12, .aload_n 0, 1), (13, .getfield 29, 3), (16, .aload_n 0, 1), (17, .getfield 119, 3), (20, .putfield 164, 3), (23, .aload_n 0, 1), (24, .iconst 1, 1), (25, .putfield 48, 3), (28, .iconst 1, 1), (29, .ireturn, 1)]
set_option maxRecDepth 100000 in
theorem nhD_46_ok : nh_dtB prog_8_method_16_code nhD_46 = true := by decide +kernel
def nhD_47 : nhDt := [(0, .aload_n 0, 1), (1, .iconst 0, 1), (2, .sipush 999, 3), (5, .invokevirtual 122, 3), (8, .ifCond .ne 5, 3), (11, .iconst 0, 1), (12, .ireturn, 1), (13, .aload_n 0, 1), (14, .getfield 29, 3), (17, .aload_n 0, 1), (18, .getfield 119, 3), (21, .putfield 167, 3), (24, .aload_n 0, 1), (25, .iconst 1, 1), (26, .putfield 51, 3), (29, .iconst 1, 1), (30, .ireturn, 1)]
set_option maxRecDepth 100000 in
theorem nhD_47_ok : nh_dtB prog_8_method_17_code nhD_47 = true := by decide +kernel
def nhD_48 : nhDt := [(0, .aload_n 0, 1), (1, .iconst 0, 1), (2, .putfield 19, 3), (5, .aload_n 0, 1), (6, .iconst 0, 1), (7, .putfield 22, 3), (10, .return_, 1)]
set_option maxRecDepth 100000 in
theorem nhD_48_ok : nh_dtB prog_4_method_2_code nhD_48 = true := by decide +kernel
def nhD_49 : nhDt := [(0, .iload_n 1, 1), (1, .lookupswitch 43 #[(0, 27), (1, 35)], 27), (28, .aload_n 0, 1), (29, .getfield 30, 3), (32, .getfield 124, 3), (35, .ireturn, 1), (36, .aload_n 0, 1), (37, .getfield 30, 3), (40, .getfield 127, 3), (43, .ireturn, 1), (44, .iconst (-1), 1), (45, .ireturn, 1)]
set_option maxRecDepth 100000 in
theorem nhD_49_ok : nh_dtB prog_1_method_6_code nhD_49 = true := by decide +kernel
def nhD_50 : nhDt := [(0, .aload_n 0, 1), (1, .iload_n 1, 1), (2, .invokevirtual 130, 3), (5, .ifCond .ne 5, 3), (8, .iconst (-1), 1), (9, .ireturn, 1), (10, .iload_n 2, 1), (11, .tableswitch 104 0 5 #[37, 47, 57, 67, 77, 90], 37), (48, .aload_n 0, 1), (49, .getfield 37, 3), (52, .getfield 134, 3), (55, .iload_n 1, 1), (56, .iaload, 1), (57, .ireturn, 1), (58, .aload_n 0, 1), (59, .getfield 20, 3), (62, .getfield 137, 3), (65, .iload_n 1, 1), (66, .iaload, 1), (67, .ireturn, 1), (68, .aload_n 0, 1), (69, .getfield 37, 3), (72, .getfield 140, 3), (75, .iload_n 1, 1), (76, .iaload, 1), (77, .ireturn, 1), (78, .aload_n 0, 1), (79, .getfield 37, 3), (82, .getfield 143, 3), (85, .iload_n 1, 1), (86, .iaload, 1), (87, .ireturn, 1), (88, .aload_n 0, 1), (89, .getfield 20, 3), (92, .aload_n 0, 1), (93, .getfield 37, 3), (96, .iload_n 1, 1), (97, .invokestatic 146, 3), (100, .ireturn, 1), (101, .aload_n 0, 1), (102, .aload_n 0, 1), (103, .getfield 37, 3), (106, .getfield 134, 3), (109, .iload_n 1, 1), (110, .iaload, 1), (111, .invokevirtual 152, 3), (114, .ireturn, 1), (115, .iconst (-1), 1), (116, .ireturn, 1)]
set_option maxRecDepth 100000 in
theorem nhD_50_ok : nh_dtB prog_1_method_7_code nhD_50 = true := by decide +kernel
def nhD_51 : nhDt := [(0, .iload_n 1, 1), (1, .ifCond .lt 18, 3), (4, .iload_n 1, 1), (5, .aload_n 0, 1), (6, .getfield 20, 3), (9, .getfield 121, 3), (12, .if_icmp .ge 7, 3), (15, .iconst 1, 1), (16, .goto 4, 3), (19, .iconst 0, 1), (20, .ireturn, 1)]
set_option maxRecDepth 100000 in
theorem nhD_51_ok : nh_dtB prog_1_method_57_code nhD_51 = true := by decide +kernel
def nhD_52 : nhDt := [(0, .aload_n 1, 1), (1, .getfield 21, 3), (4, .iload_n 2, 1), (5, .iaload, 1), (6, .istore_n 3, 1), (7, .aload_n 0, 1), (8, .getfield 72, 3), (11, .iload_n 2, 1), (12, .aload_n 0, 1), (13, .iload_n 3, 1), (14, .invokevirtual 76, 3), (17, .aload_n 0, 1), (18, .iload_n 3, 1), (19, .invokevirtual 80, 3), (22, .invokevirtual 83, 3), (25, .aload_n 0, 1), (26, .getfield 72, 3), (29, .aload_n 1, 1), (30, .getfield 52, 3), (33, .aload_n 1, 1), (34, .getfield 59, 3), (37, .iload_n 2, 1), (38, .iaload, 1), (39, .aload_n 1, 1), (40, .getfield 89, 3), (43, .invokevirtual 92, 3), (46, .aload_n 0, 1), (47, .getfield 72, 3), (50, .invokevirtual 95, 3), (53, .iconst 5, 1), (54, .invokestatic 99, 3), (57, .ireturn, 1)]
set_option maxRecDepth 100000 in
theorem nhD_52_ok : nh_dtB prog_10_method_7_code nhD_52 = true := by decide +kernel
def nhD_53 : nhDt := [(0, .iload_n 1, 1), (1, .ifCond .lt 18, 3), (4, .iload_n 1, 1), (5, .bipush 36, 2), (7, .if_icmp .ge 12, 3), (10, .aload_n 0, 1), (11, .getfield 22, 3), (14, .iload_n 1, 1), (15, .iaload, 1), (16, .goto 4, 3), (19, .iconst 0, 1), (20, .ireturn, 1)]
set_option maxRecDepth 100000 in
theorem nhD_53_ok : nh_dtB prog_5_method_8_code nhD_53 = true := by decide +kernel
def nhD_54 : nhDt := [(0, .iload_n 1, 1), (1, .ifCond .lt 18, 3), (4, .iload_n 1, 1), (5, .bipush 36, 2), (7, .if_icmp .ge 12, 3), (10, .aload_n 0, 1), (11, .getfield 25, 3), (14, .iload_n 1, 1), (15, .iaload, 1), (16, .goto 4, 3), (19, .iconst 0, 1), (20, .ireturn, 1)]
set_option maxRecDepth 100000 in
theorem nhD_54_ok : nh_dtB prog_5_method_9_code nhD_54 = true := by decide +kernel
def nhD_55 : nhDt := [(0, .aload_n 0, 1), (1, .getfield 13, 3), (4, .iconst 0, 1), (5, .iload_n 1, 1), (6, .iastore, 1), (7, .aload_n 0, 1), (8, .getfield 13, 3), (11, .iconst 2, 1), (12, .iload_n 2, 1), (13, .iastore, 1), (14, .aload_n 0, 1), (15, .getfield 13, 3), (18, .iconst 3, 1), (19, .iload_n 3, 1), (20, .iastore, 1), (21, .return_, 1)]
set_option maxRecDepth 100000 in
theorem nhD_55_ok : nh_dtB prog_3_method_4_code nhD_55 = true := by decide +kernel
def nhD_56 : nhDt := [(0, .aload_n 0, 1), (1, .getfield 13, 3), (4, .iconst 1, 1), (5, .iload_n 1, 1), (6, .iastore, 1), (7, .aload_n 0, 1), (8, .getfield 13, 3), (11, .iconst 4, 1), (12, .iload_n 2, 1), (13, .iastore, 1), (14, .aload_n 0, 1), (15, .getfield 13, 3), (18, .iconst 5, 1), (19, .iload_n 3, 1), (20, .iastore, 1), (21, .return_, 1)]
set_option maxRecDepth 100000 in
theorem nhD_56_ok : nh_dtB prog_3_method_5_code nhD_56 = true := by decide +kernel
def nhD_57 : nhDt := [(0, .iconst 0, 1), (1, .istore_n 1, 1), (2, .iconst 0, 1), (3, .istore_n 2, 1), (4, .iload_n 2, 1), (5, .aload_n 0, 1), (6, .getfield 19, 3), (9, .if_icmp .ge 127, 3), (12, .aload_n 0, 1), (13, .getfield 9, 3), (16, .iload_n 2, 1), (17, .iaload, 1), (18, .istore_n 3, 1), (19, .iload_n 3, 1), (20, .bipush (-6), 2), (22, .if_icmp .lt 37, 3), (25, .iload_n 1, 1), (26, .bipush 60, 2), (28, .if_icmp .ge 31, 3), (31, .aload_n 0, 1), (32, .getfield 16, 3), (35, .iload_n 1, 1), (36, .iload_n 3, 1), (37, .ifCond .lt 7, 3), (40, .iload_n 3, 1), (41, .goto 11, 3), (44, .aload_n 0, 1), (45, .getfield 13, 3), (48, .iconst (-1), 1), (49, .iload_n 3, 1), (50, .isub, 1), (51, .iaload, 1), (52, .iastore, 1), (53, .iinc 1 1, 3), (56, .goto 74, 3), (59, .iload_n 3, 1), (60, .bipush (-9), 2), (62, .if_icmp .ne 34, 3), (65, .iload_n 1, 1), (66, .ifCond .le 30, 3), (69, .aload_n 0, 1), (70, .getfield 16, 3), (73, .iload_n 1, 1), (74, .iconst 1, 1), (75, .isub, 1), (76, .aload_n 0, 1), (77, .getfield 16, 3), (80, .iload_n 1, 1), (81, .iconst 1, 1), (82, .isub, 1), (83, .iaload, 1), (84, .ifCond .ne 7, 3), (87, .iconst 1, 1), (88, .goto 4, 3), (91, .iconst 0, 1), (92, .iastore, 1), (93, .goto 37, 3), (96, .iload_n 1, 1), (97, .iconst 1, 1), (98, .if_icmp .le 32, 3), (101, .iinc 1 (-1), 3), (104, .aload_n 0, 1), (105, .getfield 16, 3), (108, .iload_n 1, 1), (109, .iconst 1, 1), (110, .isub, 1), (111, .iload_n 3, 1), (112, .aload_n 0, 1), (113, .getfield 16, 3), (116, .iload_n 1, 1), (117, .iconst 1, 1), (118, .isub, 1), (119, .iaload, 1), (120, .aload_n 0, 1), (121, .getfield 16, 3), (124, .iload_n 1, 1), (125, .iaload, 1), (126, .invokestatic 26, 3), (129, .iastore, 1), (130, .iinc 2 1, 3), (133, .goto (-129), 3), (136, .iload_n 1, 1), (137, .iconst 1, 1), (138, .if_icmp .ge 7, 3), (141, .iconst 0, 1), (142, .goto 9, 3), (145, .aload_n 0, 1), (146, .getfield 16, 3), (149, .iconst 0, 1), (150, .iaload, 1), (151, .ireturn, 1)]
set_option maxRecDepth 100000 in
theorem nhD_57_ok : nh_dtB prog_3_method_6_code nhD_57 = true := by decide +kernel
def nhD_58 : nhDt := [(0, .iload_n 0, 1), (1, .tableswitch 156 (-17) (-7) #[144, 132, 128, 124, 120, 109, 98, 87, 156, 73, 59], 59), (60, .iload_n 1, 1), (61, .ifCond .ne 7, 3), (64, .iload_n 2, 1), (65, .ifCond .eq 7, 3), (68, .iconst 1, 1), (69, .goto 4, 3), (72, .iconst 0, 1), (73, .ireturn, 1), (74, .iload_n 1, 1), (75, .ifCond .eq 11, 3), (78, .iload_n 2, 1), (79, .ifCond .eq 7, 3), (82, .iconst 1, 1), (83, .goto 4, 3), (86, .iconst 0, 1), (87, .ireturn, 1), (88, .iload_n 1, 1), (89, .iload_n 2, 1), (90, .if_icmp .ge 7, 3), (93, .iconst 1, 1), (94, .goto 4, 3), (97, .iconst 0, 1), (98, .ireturn, 1), (99, .iload_n 1, 1), (100, .iload_n 2, 1), (101, .if_icmp .le 7, 3), (104, .iconst 1, 1), (105, .goto 4, 3), (108, .iconst 0, 1), (109, .ireturn, 1), (110, .iload_n 1, 1), (111, .iload_n 2, 1), (112, .if_icmp .ne 7, 3), (115, .iconst 1, 1), (116, .goto 4, 3), (119, .iconst 0, 1), (120, .ireturn, 1), (121, .iload_n 1, 1), (122, .iload_n 2, 1), (123, .iadd, 1), (124, .ireturn, 1), (125, .iload_n 1, 1), (126, .iload_n 2, 1), (127, .isub, 1), (128, .ireturn, 1), (129, .iload_n 1, 1), (130, .iload_n 2, 1), (131, .imul, 1), (132, .ireturn, 1), (133, .iload_n 2, 1), (134, .ifCond .ne 7, 3), (137, .iconst 0, 1), (138, .goto 6, 3), (141, .iload_n 1, 1), (142, .iload_n 2, 1), (143, .idiv, 1), (144, .ireturn, 1), (145, .iload_n 2, 1), (146, .ifCond .ne 7, 3), (149, .iconst 0, 1), (150, .goto 6, 3), (153, .iload_n 1, 1), (154, .iload_n 2, 1), (155, .irem, 1), (156, .ireturn, 1), (157, .iconst 0, 1), (158, .ireturn, 1)]
set_option maxRecDepth 100000 in
theorem nhD_58_ok : nh_dtB prog_3_method_7_code nhD_58 = true := by decide +kernel
def nhD_59 : nhDt := [(0, .iconst 0, 1), (1, .istore_n 2, 1), (2, .iconst 0, 1), (3, .istore_n 3, 1), (4, .iload_n 3, 1), (5, .aload_n 0, 1), (6, .getfield 20, 3), (9, .getfield 121, 3), (12, .if_icmp .ge 28, 3), (15, .aload_n 0, 1), (16, .getfield 37, 3), (19, .getfield 134, 3), (22, .iload_n 3, 1), (23, .iaload, 1), (24, .iload_n 1, 1), (25, .if_icmp .ne 9, 3), (28, .iload_n 2, 1), (29, .iconst 1, 1), (30, .iload_n 3, 1), (31, .ishl, 1), (32, .ior, 1), (33, .istore_n 2, 1), (34, .iinc 3 1, 3), (37, .goto (-33), 3), (40, .iload_n 2, 1), (41, .ireturn, 1)]
set_option maxRecDepth 100000 in
theorem nhD_59_ok : nh_dtB prog_1_method_62_code nhD_59 = true := by decide +kernel
def nhD_60 : nhDt := [(0, .aload_n 0, 1), (1, .iload_n 1, 1), (2, .invokevirtual 156, 3), (5, .ifCond .ne 5, 3), (8, .iconst (-1), 1), (9, .ireturn, 1), (10, .iload_n 2, 1), (11, .tableswitch 64 0 2 #[25, 42, 48], 25), (36, .aload_n 0, 1), (37, .getfield 37, 3), (40, .iload_n 1, 1), (41, .invokevirtual 159, 3), (44, .ifCond .eq 7, 3), (47, .iconst 1, 1), (48, .goto 4, 3), (51, .iconst 0, 1), (52, .ireturn, 1), (53, .aload_n 0, 1), (54, .iload_n 1, 1), (55, .invokevirtual 152, 3), (58, .ireturn, 1), (59, .aload_n 0, 1), (60, .getfield 20, 3), (63, .iload_n 1, 1), (64, .aload_n 0, 1), (65, .getfield 37, 3), (68, .getfield 162, 3), (71, .invokevirtual 165, 3), (74, .ireturn, 1), (75, .iconst (-1), 1), (76, .ireturn, 1)]
set_option maxRecDepth 100000 in
theorem nhD_60_ok : nh_dtB prog_1_method_8_code nhD_60 = true := by decide +kernel
def nhD_61 : nhDt := [(0, .iload_n 1, 1), (1, .ifCond .lt 18, 3), (4, .iload_n 1, 1), (5, .aload_n 0, 1), (6, .getfield 20, 3), (9, .getfield 297, 3), (12, .if_icmp .ge 7, 3), (15, .iconst 1, 1), (16, .goto 4, 3), (19, .iconst 0, 1), (20, .ireturn, 1)]
set_option maxRecDepth 100000 in
theorem nhD_61_ok : nh_dtB prog_1_method_59_code nhD_61 = true := by decide +kernel
def nhD_62 : nhDt := [(0, .aload_n 0, 1), (1, .getfield 42, 3), (4, .iload_n 1, 1), (5, .lushr, 1), (6, .lconst 1, 1), (7, .land, 1), (8, .lconst 0, 1), (9, .lcmp, 1), (10, .ifCond .eq 7, 3), (13, .iconst 1, 1), (14, .goto 4, 3), (17, .iconst 0, 1), (18, .ireturn, 1)]
set_option maxRecDepth 100000 in
theorem nhD_62_ok : nh_dtB prog_6_method_4_code nhD_62 = true := by decide +kernel
def nhD_63 : nhDt := [(0, .aload_n 0, 1), (1, .iload_n 1, 1), (2, .invokevirtual 71, 3), (5, .aload_n 0, 1), (6, .iload_n 2, 1), (7, .invokevirtual 71, 3), (10, .isub, 1), (11, .invokestatic 75, 3), (14, .aload_n 0, 1), (15, .iload_n 1, 1), (16, .invokevirtual 80, 3), (19, .aload_n 0, 1), (20, .iload_n 2, 1), (21, .invokevirtual 80, 3), (24, .isub, 1), (25, .invokestatic 75, 3), (28, .iadd, 1), (29, .ireturn, 1)]
set_option maxRecDepth 100000 in
theorem nhD_63_ok : nh_dtB prog_5_method_10_code nhD_63 = true := by decide +kernel
def nhD_64 : nhDt := [(0, .iload_n 1, 1), (1, .tableswitch 114 0 7 #[47, 55, 63, 71, 82, 90, 98, 106], 47), (48, .aload_n 0, 1), (49, .getfield 20, 3), (52, .getfield 121, 3), (55, .ireturn, 1), (56, .aload_n 0, 1), (57, .getfield 20, 3), (60, .getfield 169, 3), (63, .ireturn, 1), (64, .aload_n 0, 1), (65, .getfield 20, 3), (68, .getfield 172, 3), (71, .ireturn, 1), (72, .aload_n 0, 1), (73, .getfield 37, 3), (76, .getfield 175, 3), (79, .invokestatic 179, 3), (82, .ireturn, 1), (83, .aload_n 0, 1), (84, .getfield 37, 3), (87, .getfield 162, 3), (90, .ireturn, 1), (91, .aload_n 0, 1), (92, .getfield 37, 3), (95, .getfield 185, 3), (98, .ireturn, 1), (99, .aload_n 0, 1), (100, .getfield 37, 3), (103, .getfield 188, 3), (106, .ireturn, 1), (107, .aload_n 0, 1), (108, .getfield 37, 3), (111, .getfield 191, 3), (114, .ireturn, 1), (115, .aload_n 0, 1), (116, .iload_n 1, 1), (117, .invokevirtual 194, 3), (120, .ireturn, 1)]
set_option maxRecDepth 100000 in
theorem nhD_64_ok : nh_dtB prog_1_method_9_code nhD_64 = true := by decide +kernel
def nhD_65 : nhDt := [(0, .lload_n 0, 1), (1, .lload_n 0, 1), (2, .iconst 1, 1), (3, .lushr, 1), (4, .ldc2_w 314, 3), (7, .land, 1), (8, .lsub, 1), (9, .lstore_n 0, 1), (10, .lload_n 0, 1), (11, .ldc2_w 316, 3), (14, .land, 1), (15, .lload_n 0, 1), (16, .iconst 2, 1), (17, .lushr, 1), (18, .ldc2_w 316, 3), (21, .land, 1), (22, .ladd, 1), (23, .lstore_n 0, 1), (24, .lload_n 0, 1), (25, .lload_n 0, 1), (26, .iconst 4, 1), (27, .lushr, 1), (28, .ladd, 1), (29, .ldc2_w 318, 3), (32, .land, 1), (33, .lstore_n 0, 1), (34, .lload_n 0, 1), (35, .lload_n 0, 1), (36, .bipush 8, 2), (38, .lushr, 1), (39, .ladd, 1), (40, .lstore_n 0, 1), (41, .lload_n 0, 1), (42, .lload_n 0, 1), (43, .bipush 16, 2), (45, .lushr, 1), (46, .ladd, 1), (47, .lstore_n 0, 1), (48, .lload_n 0, 1), (49, .lload_n 0, 1), (50, .bipush 32, 2), (52, .lushr, 1), (53, .ladd, 1), (54, .lstore_n 0, 1), (55, .lload_n 0, 1), (56, .l2i, 1), (57, .bipush 127, 2), (59, .iand, 1), (60, .ireturn, 1)]
set_option maxRecDepth 100000 in
theorem nhD_65_ok : nh_dtB prog_17_method_50_code nhD_65 = true := by decide +kernel
def nhD_66 : nhDt := [(0, .iload_n 1, 1), (1, .tableswitch 117 8 16 #[51, 59, 67, 75, 80, 85, 96, 101, 109], 51), (52, .aload_n 0, 1), (53, .getfield 47, 3), (56, .getfield 197, 3), (59, .ireturn, 1), (60, .aload_n 0, 1), (61, .getfield 47, 3), (64, .getfield 200, 3), (67, .ireturn, 1), (68, .aload_n 0, 1), (69, .getfield 82, 3), (72, .getfield 203, 3), (75, .ireturn, 1), (76, .aload_n 0, 1), (77, .getfield 86, 3), (80, .ireturn, 1), (81, .aload_n 0, 1), (82, .getfield 13, 3), (85, .ireturn, 1), (86, .aload_n 0, 1), (87, .getfield 20, 3), (90, .getfield 206, 3), (93, .getfield 210, 3), (96, .ireturn, 1), (97, .aload_n 0, 1), (98, .getfield 93, 3), (101, .ireturn, 1), (102, .aload_n 0, 1), (103, .getfield 20, 3), (106, .getfield 215, 3), (109, .ireturn, 1), (110, .aload_n 0, 1), (111, .getfield 20, 3), (114, .getfield 218, 3), (117, .ireturn, 1), (118, .iconst (-1), 1), (119, .ireturn, 1)]
set_option maxRecDepth 100000 in
theorem nhD_66_ok : nh_dtB prog_1_method_10_code nhD_66 = true := by decide +kernel
def nhD_67 : nhDt := [(0, .iload_n 1, 1), (1, .ifCond .lt 20, 3), (4, .iload_n 1, 1), (5, .aload_n 0, 1), (6, .getfield 93, 3), (9, .if_icmp .ge 12, 3), (12, .aload_n 0, 1), (13, .getfield 89, 3), (16, .iload_n 1, 1), (17, .iaload, 1), (18, .goto 4, 3), (21, .iconst (-1), 1), (22, .ireturn, 1)]
set_option maxRecDepth 100000 in
theorem nhD_67_ok : nh_dtB prog_1_method_11_code nhD_67 = true := by decide +kernel
def nhD_68 : nhDt := [(0, .iconst 0, 1), (1, .istore_n 1, 1), (2, .iconst 0, 1), (3, .istore_n 2, 1), (4, .iload_n 2, 1), (5, .aload_n 0, 1), (6, .getfield 20, 3), (9, .getfield 121, 3), (12, .if_icmp .ge 37, 3), (15, .aload_n 0, 1), (16, .getfield 20, 3), (19, .aload_n 0, 1), (20, .getfield 37, 3), (23, .iload_n 2, 1), (24, .aload_n 0, 1), (25, .getfield 20, 3), (28, .getfield 215, 3), (31, .invokestatic 221, 3), (34, .ifCond .eq 9, 3), (37, .iload_n 1, 1), (38, .iconst 1, 1), (39, .iload_n 2, 1), (40, .ishl, 1), (41, .ior, 1), (42, .istore_n 1, 1), (43, .iinc 2 1, 3), (46, .goto (-42), 3), (49, .iload_n 1, 1), (50, .ireturn, 1)]
set_option maxRecDepth 100000 in
theorem nhD_68_ok : nh_dtB prog_1_method_12_code nhD_68 = true := by decide +kernel
def nhD_69 : nhDt := [(0, .iload_n 3, 1), (1, .ifCond .lt 25, 3), (4, .aload_n 0, 1), (5, .aload_n 1, 1), (6, .getfield 21, 3), (9, .iload_n 2, 1), (10, .iaload, 1), (11, .aload_n 1, 1), (12, .getfield 65, 3), (15, .invokevirtual 68, 3), (18, .iload_n 3, 1), (19, .if_icmp .gt 7, 3), (22, .iconst 1, 1), (23, .goto 4, 3), (26, .iconst 0, 1), (27, .ireturn, 1)]
set_option maxRecDepth 100000 in
theorem nhD_69_ok : nh_dtB prog_10_method_6_code nhD_69 = true := by decide +kernel
def nhD_70 : nhDt := [(0, .iload_n 1, 1), (1, .ifCond .lt 9, 3), (4, .iload_n 1, 1), (5, .bipush 99, 2), (7, .if_icmp .le 5, 3), (10, .iconst (-1), 1), (11, .ireturn, 1), (12, .iconst 0, 1), (13, .istore_n 2, 1), (14, .iconst 0, 1), (15, .istore_n 3, 1), (16, .iload_n 3, 1), (17, .aload_n 0, 1), (18, .getfield 20, 3), (21, .getfield 121, 3), (24, .if_icmp .ge 28, 3), (27, .aload_n 0, 1), (28, .getfield 20, 3), (31, .aload_n 0, 1), (32, .getfield 37, 3), (35, .iload_n 3, 1), (36, .iload_n 1, 1), (37, .invokestatic 221, 3), (40, .ifCond .eq 6, 3), (43, .iinc 2 1, 3), (46, .iinc 3 1, 3), (49, .goto (-33), 3), (52, .iload_n 2, 1), (53, .ireturn, 1)]
set_option maxRecDepth 100000 in
theorem nhD_70_ok : nh_dtB prog_1_method_13_code nhD_70 = true := by decide +kernel
def nhD_71 : nhDt := [(0, .aload_n 0, 1), (1, .getfield 20, 3), (4, .aload_n 0, 1), (5, .getfield 37, 3), (8, .invokestatic 225, 3), (11, .ireturn, 1)]
set_option maxRecDepth 100000 in
theorem nhD_71_ok : nh_dtB prog_1_method_14_code nhD_71 = true := by decide +kernel
def nhD_72 : nhDt := [(0, .iconst 0, 1), (1, .istore_n 2, 1), (2, .iconst 0, 1), (3, .istore_n 3, 1), (4, .iload_n 3, 1), (5, .aload_n 0, 1), (6, .getfield 9, 3), (9, .if_icmp .ge 30, 3), (12, .aload_n 1, 1), (13, .getfield 21, 3), (16, .iload_n 3, 1), (17, .iaload, 1), (18, .aload_n 0, 1), (19, .getfield 62, 3), (22, .iload_n 3, 1), (23, .iaload, 1), (24, .if_icmp .ne 9, 3), (27, .iload_n 2, 1), (28, .iconst 1, 1), (29, .iload_n 3, 1), (30, .ishl, 1), (31, .ior, 1), (32, .istore_n 2, 1), (33, .iinc 3 1, 3), (36, .goto (-32), 3), (39, .iload_n 2, 1), (40, .ireturn, 1)]
set_option maxRecDepth 100000 in
theorem nhD_72_ok : nh_dtB prog_10_method_5_code nhD_72 = true := by decide +kernel
def nhD_73 : nhDt := [(0, .iconst (-1), 1), (1, .istore_n 1, 1), (2, .iconst 0, 1), (3, .istore_n 2, 1), (4, .iload_n 2, 1), (5, .aload_n 0, 1), (6, .getfield 20, 3), (9, .getfield 121, 3), (12, .if_icmp .ge 37, 3), (15, .iload_n 1, 1), (16, .iconst (-1), 1), (17, .if_icmp .eq 24, 3), (20, .aload_n 0, 1), (21, .getfield 37, 3), (24, .getfield 140, 3), (27, .iload_n 2, 1), (28, .iaload, 1), (29, .aload_n 0, 1), (30, .getfield 37, 3), (33, .getfield 140, 3), (36, .iload_n 1, 1), (37, .iaload, 1), (38, .if_icmp .le 5, 3), (41, .iload_n 2, 1), (42, .istore_n 1, 1), (43, .iinc 2 1, 3), (46, .goto (-42), 3), (49, .iload_n 1, 1), (50, .ireturn, 1)]
set_option maxRecDepth 100000 in
theorem nhD_73_ok : nh_dtB prog_1_method_15_code nhD_73 = true := by decide +kernel
def nhD_74 : nhDt := [(0, .iload_n 1, 1), (1, .ifCond .lt 17, 3), (4, .iload_n 1, 1), (5, .iconst 4, 1), (6, .if_icmp .gt 12, 3), (9, .iload_n 2, 1), (10, .ifCond .lt 8, 3), (13, .iload_n 2, 1), (14, .iconst 1, 1), (15, .if_icmp .le 5, 3), (18, .iconst (-1), 1), (19, .ireturn, 1), (20, .iconst 1, 1), (21, .istore_n 3, 1), (22, .iconst 1, 1), (23, .istore 4, 2), (25, .iconst 0, 1), (26, .istore 5, 2), (28, .iload 5, 2), (30, .iload_n 1, 1), (31, .if_icmp .ge 29, 3), (34, .iload_n 3, 1), (35, .bipush 100, 2), (37, .aload_n 0, 1), (38, .getfield 20, 3), (41, .getfield 218, 3), (44, .isub, 1), (45, .imul, 1), (46, .istore_n 3, 1), (47, .iload 4, 2), (49, .bipush 100, 2), (51, .imul, 1), (52, .istore 4, 2), (54, .iinc 5 1, 3), (57, .goto (-29), 3), (60, .iload 4, 2), (62, .iload_n 3, 1), (63, .invokestatic 229, 3), (66, .istore 5, 2), (68, .iload 5, 2), (70, .iconst 1, 1), (71, .if_icmp .ge 5, 3), (74, .iconst (-1), 1), (75, .ireturn, 1), (76, .iload_n 2, 1), (77, .ifCond .ne 7, 3), (80, .iload_n 3, 1), (81, .goto 5, 3), (84, .iload 4, 2), (86, .iload 5, 2), (88, .idiv, 1), (89, .ireturn, 1)]
set_option maxRecDepth 100000 in
theorem nhD_74_ok : nh_dtB prog_1_method_16_code nhD_74 = true := by decide +kernel
def nhD_75 : nhDt := [(0, .iload_n 0, 1), (1, .istore_n 2, 1), (2, .iload_n 1, 1), (3, .istore_n 3, 1), (4, .iconst 0, 1), (5, .istore 4, 2), (7, .iload 4, 2), (9, .bipush 100, 2), (11, .if_icmp .ge 23, 3), (14, .iload_n 3, 1), (15, .ifCond .eq 19, 3), (18, .iload_n 2, 1), (19, .iload_n 3, 1), (20, .irem, 1), (21, .istore 5, 2), (23, .iload_n 3, 1), (24, .istore_n 2, 1), (25, .iload 5, 2), (27, .istore_n 3, 1), (28, .iinc 4 1, 3), (31, .goto (-24), 3), (34, .iload_n 2, 1), (35, .ireturn, 1)]
set_option maxRecDepth 100000 in
theorem nhD_75_ok : nh_dtB prog_1_method_17_code nhD_75 = true := by decide +kernel
def nhD_76 : nhDt := [(0, .aload_n 0, 1), (1, .getfield 37, 3), (4, .getfield 185, 3), (7, .sipush 999, 3), (10, .if_icmp .lt 5, 3), (13, .iconst (-1), 1), (14, .ireturn, 1), (15, .aload_n 0, 1), (16, .getfield 47, 3), (19, .aload_n 0, 1), (20, .getfield 37, 3), (23, .invokevirtual 232, 3), (26, .aload_n 0, 1), (27, .getfield 20, 3), (30, .aload_n 0, 1), (31, .getfield 37, 3), (34, .iload_n 1, 1), (35, .ifCond .eq 13, 3), (38, .aload_n 0, 1), (39, .getfield 20, 3), (42, .getfield 215, 3), (45, .goto 4, 3), (48, .iconst (-1), 1), (49, .iconst 1, 1), (50, .invokestatic 236, 3), (53, .aload_n 0, 1), (54, .getfield 20, 3), (57, .aload_n 0, 1), (58, .getfield 37, 3), (61, .invokestatic 240, 3), (64, .ireturn, 1)]
set_option maxRecDepth 100000 in
theorem nhD_76_ok : nh_dtB prog_1_method_18_code nhD_76 = true := by decide +kernel
def nhD_77 : nhDt := [(0, .aload_n 0, 1), (1, .invokevirtual 26, 3), (4, .aload_n 1, 1), (5, .invokevirtual 30, 3), (8, .aload_n 0, 1), (9, .iconst 0, 1), (10, .putfield 22, 3), (13, .aload_n 0, 1), (14, .getfield 19, 3), (17, .bipush 40, 2), (19, .if_icmp .ge 16, 3), (22, .aload_n 0, 1), (23, .dup, 1), (24, .getfield 19, 3), (27, .iconst 1, 1), (28, .iadd, 1), (29, .putfield 19, 3), (32, .goto 16, 3), (35, .aload_n 0, 1), (36, .aload_n 0, 1), (37, .getfield 15, 3), (40, .iconst 1, 1), (41, .iadd, 1), (42, .bipush 41, 2), (44, .irem, 1), (45, .putfield 15, 3), (48, .return_, 1)]
set_option maxRecDepth 100000 in
theorem nhD_77_ok : nh_dtB prog_4_method_4_code nhD_77 = true := by decide +kernel
def nhD_78 : nhDt := [(0, .aload_n 0, 1), (1, .getfield 11, 3), (4, .aload_n 0, 1), (5, .getfield 15, 3), (8, .aload_n 0, 1), (9, .getfield 19, 3), (12, .iadd, 1), (13, .bipush 41, 2), (15, .irem, 1), (16, .aaload, 1), (17, .areturn, 1)]
set_option maxRecDepth 100000 in
theorem nhD_78_ok : nh_dtB prog_4_method_3_code nhD_78 = true := by decide +kernel
def nhD_79 : nhDt := [(0, .aload_n 1, 1), (1, .getfield 9, 3), (4, .iconst 0, 1), (5, .aload_n 0, 1), (6, .getfield 9, 3), (9, .iconst 0, 1), (10, .iconst 5, 1), (11, .invokestatic 26, 3), (14, .aload_n 1, 1), (15, .getfield 15, 3), (18, .iconst 0, 1), (19, .aload_n 0, 1), (20, .getfield 15, 3), (23, .iconst 0, 1), (24, .iconst 5, 1), (25, .invokestatic 26, 3), (28, .aload_n 1, 1), (29, .getfield 18, 3), (32, .iconst 0, 1), (33, .aload_n 0, 1), (34, .getfield 18, 3), (37, .iconst 0, 1), (38, .iconst 5, 1), (39, .invokestatic 26, 3), (42, .aload_n 0, 1), (43, .aload_n 1, 1), (44, .getfield 42, 3), (47, .putfield 42, 3), (50, .aload_n 0, 1), (51, .aload_n 1, 1), (52, .getfield 47, 3), (55, .putfield 47, 3), (58, .aload_n 0, 1), (59, .aload_n 1, 1), (60, .getfield 48, 3), (63, .putfield 48, 3), (66, .aload_n 0, 1), (67, .aload_n 1, 1), (68, .getfield 51, 3), (71, .putfield 51, 3), (74, .aload_n 0, 1), (75, .aload_n 1, 1), (76, .getfield 57, 3), (79, .putfield 57, 3), (82, .return_, 1)]
set_option maxRecDepth 100000 in
theorem nhD_79_ok : nh_dtB prog_6_method_3_code nhD_79 = true := by decide +kernel
def nhDc_1 : List nhDt := [nhD_40, nhD_41, nhD_42, nhD_43, nhD_44, nhD_45, nhD_46, nhD_47, nhD_48, nhD_49, nhD_50, nhD_51, nhD_52, nhD_53, nhD_54, nhD_55, nhD_56, nhD_57, nhD_58, nhD_59, nhD_60, nhD_61, nhD_62, nhD_63, nhD_64, nhD_65, nhD_66, nhD_67, nhD_68, nhD_69, nhD_70, nhD_71, nhD_72, nhD_73, nhD_74, nhD_75, nhD_76, nhD_77, nhD_78, nhD_79]
set_option maxRecDepth 100000 in
theorem nhDz_1 : nhZ nhMt_1 nhDc_1 := ⟨nhD_40_ok, nhD_41_ok, nhD_42_ok, nhD_43_ok, nhD_44_ok, nhD_45_ok, nhD_46_ok, nhD_47_ok, nhD_48_ok, nhD_49_ok, nhD_50_ok, nhD_51_ok, nhD_52_ok, nhD_53_ok, nhD_54_ok, nhD_55_ok, nhD_56_ok, nhD_57_ok, nhD_58_ok, nhD_59_ok, nhD_60_ok, nhD_61_ok, nhD_62_ok, nhD_63_ok, nhD_64_ok, nhD_65_ok, nhD_66_ok, nhD_67_ok, nhD_68_ok, nhD_69_ok, nhD_70_ok, nhD_71_ok, nhD_72_ok, nhD_73_ok, nhD_74_ok, nhD_75_ok, nhD_76_ok, nhD_77_ok, nhD_78_ok, nhD_79_ok, trivial⟩
def nhD_80 : nhDt := [(0, .iconst 0, 1), (1, .istore 4, 2), (3, .iload 4, 2), (5, .aload_n 0, 1), (6, .getfield 9, 3), (9, .if_icmp .ge 66, 3), (12, .aload_n 0, 1), (13, .aload_n 1, 1), (14, .iload 4, 2), (16, .iload_n 2, 1), (17, .invokestatic 15, 3), (20, .ifCond .eq 20, 3), (23, .aload_n 1, 1), (24, .getfield 21, 3), (27, .iload 4, 2), (29, .aload_n 0, 1), (30, .aload_n 1, 1), (31, .iload 4, 2), (33, .invokestatic 27, 3), (36, .iastore, 1), (37, .goto 32, 3), (40, .aload_n 1, 1), (41, .getfield 21, 3), (44, .iload 4, 2), (46, .aload_n 0, 1), (47, .aload_n 1, 1), (48, .getfield 31, 3), (51, .aload_n 1, 1), (52, .getfield 21, 3), (55, .iload 4, 2), (57, .iaload, 1), (58, .aload_n 0, 1), (59, .aload_n 1, 1), (60, .iload 4, 2), (62, .invokestatic 35, 3), (65, .invokevirtual 38, 3), (68, .iastore, 1), (69, .iinc 4 1, 3), (72, .goto (-69), 3), (75, .iconst 0, 1), (76, .istore 4, 2), (78, .iload_n 3, 1), (79, .ifCond .eq 80, 3), (82, .iload 4, 2), (84, .aload_n 0, 1), (85, .getfield 9, 3), (88, .if_icmp .ge 71, 3), (91, .aload_n 1, 1), (92, .aload_n 1, 1), (93, .getfield 42, 3), (96, .sipush 137, 3), (99, .imul, 1), (100, .bipush 71, 2), (102, .iadd, 1), (103, .sipush 1000, 3), (106, .irem, 1), (107, .putfield 42, 3), (110, .aload_n 1, 1), (111, .getfield 42, 3), (114, .bipush 100, 2), (116, .irem, 1), (117, .aload_n 0, 1), (118, .getfield 45, 3), (121, .if_icmp .ge 32, 3), (124, .aload_n 1, 1), (125, .getfield 21, 3), (128, .iload 4, 2), (130, .aload_n 0, 1), (131, .aload_n 1, 1), (132, .getfield 31, 3), (135, .aload_n 1, 1), (136, .getfield 21, 3), (139, .iload 4, 2), (141, .iaload, 1), (142, .aload_n 0, 1), (143, .aload_n 1, 1), (144, .iload 4, 2), (146, .invokestatic 35, 3), (149, .invokevirtual 38, 3), (152, .iastore, 1), (153, .iinc 4 1, 3), (156, .goto (-78), 3), (159, .aload_n 0, 1), (160, .aload_n 1, 1), (161, .invokestatic 48, 3), (164, .aload_n 1, 1), (165, .dup, 1), (166, .getfield 52, 3), (169, .iconst 1, 1), (170, .iadd, 1), (171, .putfield 52, 3), (174, .return_, 1)]
set_option maxRecDepth 100000 in
theorem nhD_80_ok : nh_dtB prog_10_method_2_code nhD_80 = true := by decide +kernel
def nhD_81 : nhDt := [(0, .aload_n 1, 1), (1, .getfield 21, 3), (4, .iload_n 2, 1), (5, .iaload, 1), (6, .istore_n 3, 1), (7, .aload_n 0, 1), (8, .aload_n 1, 1), (9, .getfield 65, 3), (12, .invokevirtual 76, 3), (15, .aload_n 0, 1), (16, .iload_n 3, 1), (17, .invokevirtual 76, 3), (20, .isub, 1), (21, .istore 4, 2), (23, .aload_n 0, 1), (24, .aload_n 1, 1), (25, .getfield 65, 3), (28, .invokevirtual 80, 3), (31, .aload_n 0, 1), (32, .iload_n 3, 1), (33, .invokevirtual 80, 3), (36, .isub, 1), (37, .istore 5, 2), (39, .iload 4, 2), (41, .ifCond .eq 33, 3), (44, .aload_n 0, 1), (45, .aload_n 1, 1), (46, .getfield 31, 3), (49, .iload_n 3, 1), (50, .iload 4, 2), (52, .ifCond .le 7, 3), (55, .iconst 2, 1), (56, .goto 4, 3), (59, .iconst 4, 1), (60, .invokevirtual 38, 3), (63, .istore 6, 2), (65, .iload 6, 2), (67, .iload_n 3, 1), (68, .if_icmp .eq 6, 3), (71, .iload 6, 2), (73, .ireturn, 1), (74, .iload 5, 2), (76, .ifCond .ne 7, 3), (79, .iload_n 3, 1), (80, .goto 22, 3), (83, .aload_n 0, 1), (84, .aload_n 1, 1), (85, .getfield 31, 3), (88, .iload_n 3, 1), (89, .iload 5, 2), (91, .ifCond .le 7, 3), (94, .iconst 3, 1), (95, .goto 4, 3), (98, .iconst 1, 1), (99, .invokevirtual 38, 3), (102, .ireturn, 1)]
set_option maxRecDepth 100000 in
theorem nhD_81_ok : nh_dtB prog_10_method_8_code nhD_81 = true := by decide +kernel
def nhD_82 : nhDt := [(0, .iload_n 3, 1), (1, .ifCond .lt 20, 3), (4, .iload_n 3, 1), (5, .bipush 36, 2), (7, .if_icmp .ge 14, 3), (10, .iload 4, 2), (12, .ifCond .lt 9, 3), (15, .iload 4, 2), (17, .iconst 5, 1), (18, .if_icmp .lt 5, 3), (21, .iload_n 3, 1), (22, .ireturn, 1), (23, .aload_n 0, 1), (24, .getfield 28, 3), (27, .iload_n 3, 1), (28, .iconst 5, 1), (29, .imul, 1), (30, .iload 4, 2), (32, .iadd, 1), (33, .iaload, 1), (34, .istore 5, 2), (36, .lload_n 1, 1), (37, .iload 5, 2), (39, .lushr, 1), (40, .lconst 1, 1), (41, .land, 1), (42, .lconst 0, 1), (43, .lcmp, 1), (44, .ifCond .eq 7, 3), (47, .iload_n 3, 1), (48, .goto 5, 3), (51, .iload 5, 2), (53, .ireturn, 1)]
set_option maxRecDepth 100000 in
theorem nhD_82_ok : nh_dtB prog_5_method_7_code nhD_82 = true := by decide +kernel
def nhD_83 : nhDt := [(0, .aload_n 0, 1), (1, .aload_n 1, 1), (2, .invokestatic 55, 3), (5, .istore_n 2, 1), (6, .iconst 0, 1), (7, .istore_n 3, 1), (8, .iload_n 3, 1), (9, .aload_n 0, 1), (10, .getfield 9, 3), (13, .if_icmp .ge 38, 3), (16, .iload_n 2, 1), (17, .iload_n 3, 1), (18, .ishr, 1), (19, .iconst 1, 1), (20, .iand, 1), (21, .ifCond .eq 24, 3), (24, .aload_n 1, 1), (25, .getfield 59, 3), (28, .iload_n 3, 1), (29, .iaload, 1), (30, .bipush 99, 2), (32, .if_icmp .ge 13, 3), (35, .aload_n 1, 1), (36, .getfield 59, 3), (39, .iload_n 3, 1), (40, .dup2, 1), (41, .iaload, 1), (42, .iconst 1, 1), (43, .iadd, 1), (44, .iastore, 1), (45, .iinc 3 1, 3), (48, .goto (-40), 3), (51, .return_, 1)]
set_option maxRecDepth 100000 in
theorem nhD_83_ok : nh_dtB prog_10_method_3_code nhD_83 = true := by decide +kernel
def nhD_84 : nhDt := [(0, .iconst 0, 1), (1, .istore_n 2, 1), (2, .iconst 0, 1), (3, .istore_n 3, 1), (4, .iload_n 3, 1), (5, .aload_n 0, 1), (6, .getfield 9, 3), (9, .if_icmp .ge 56, 3), (12, .iload_n 3, 1), (13, .iconst 1, 1), (14, .iadd, 1), (15, .istore 4, 2), (17, .iload 4, 2), (19, .aload_n 0, 1), (20, .getfield 9, 3), (23, .if_icmp .ge 36, 3), (26, .aload_n 1, 1), (27, .getfield 21, 3), (30, .iload_n 3, 1), (31, .iaload, 1), (32, .aload_n 1, 1), (33, .getfield 21, 3), (36, .iload 4, 2), (38, .iaload, 1), (39, .if_icmp .ne 14, 3), (42, .iload_n 2, 1), (43, .iconst 1, 1), (44, .iload_n 3, 1), (45, .ishl, 1), (46, .iconst 1, 1), (47, .iload 4, 2), (49, .ishl, 1), (50, .ior, 1), (51, .ior, 1), (52, .istore_n 2, 1), (53, .iinc 4 1, 3), (56, .goto (-39), 3), (59, .iinc 3 1, 3), (62, .goto (-58), 3), (65, .iload_n 2, 1), (66, .ireturn, 1)]
set_option maxRecDepth 100000 in
theorem nhD_84_ok : nh_dtB prog_10_method_4_code nhD_84 = true := by decide +kernel
def nhD_85 : nhDt := [(0, .iload_n 1, 1), (1, .iconst 1, 1), (2, .if_icmp .lt 8, 3), (5, .iload_n 1, 1), (6, .iconst 5, 1), (7, .if_icmp .lt 5, 3), (10, .iconst (-1), 1), (11, .ireturn, 1), (12, .aload_n 0, 1), (13, .getfield 20, 3), (16, .aload_n 0, 1), (17, .getfield 37, 3), (20, .getfield 175, 3), (23, .aload_n 0, 1), (24, .getfield 37, 3), (27, .getfield 162, 3), (30, .iload_n 1, 1), (31, .invokevirtual 243, 3), (34, .istore_n 2, 1), (35, .iload_n 2, 1), (36, .aload_n 0, 1), (37, .getfield 37, 3), (40, .getfield 162, 3), (43, .if_icmp .ne 5, 3), (46, .iconst (-1), 1), (47, .ireturn, 1), (48, .aload_n 0, 1), (49, .getfield 47, 3), (52, .aload_n 0, 1), (53, .getfield 37, 3), (56, .invokevirtual 232, 3), (59, .aload_n 0, 1), (60, .getfield 37, 3), (63, .iload_n 2, 1), (64, .putfield 162, 3), (67, .iload_n 2, 1), (68, .ireturn, 1)]
set_option maxRecDepth 100000 in
theorem nhD_85_ok : nh_dtB prog_1_method_19_code nhD_85 = true := by decide +kernel
def nhD_86 : nhDt := [(0, .aload_n 0, 1), (1, .getfield 37, 3), (4, .getfield 188, 3), (7, .sipush 999, 3), (10, .if_icmp .lt 5, 3), (13, .iconst (-1), 1), (14, .ireturn, 1), (15, .aload_n 0, 1), (16, .getfield 47, 3), (19, .aload_n 0, 1), (20, .getfield 37, 3), (23, .invokevirtual 232, 3), (26, .aload_n 0, 1), (27, .getfield 37, 3), (30, .iconst 0, 1), (31, .putfield 185, 3), (34, .aload_n 0, 1), (35, .getfield 37, 3), (38, .dup, 1), (39, .getfield 188, 3), (42, .iconst 1, 1), (43, .iadd, 1), (44, .putfield 188, 3), (47, .iconst 1, 1), (48, .aload_n 0, 1), (49, .getfield 20, 3), (52, .getfield 121, 3), (55, .ishl, 1), (56, .iconst 1, 1), (57, .isub, 1), (58, .aload_n 0, 1), (59, .getfield 20, 3), (62, .aload_n 0, 1), (63, .getfield 37, 3), (66, .invokestatic 225, 3), (69, .iconst (-1), 1), (70, .ixor, 1), (71, .iand, 1), (72, .istore_n 1, 1), (73, .iconst 0, 1), (74, .istore_n 2, 1), (75, .iload_n 2, 1), (76, .aload_n 0, 1), (77, .getfield 20, 3), (80, .getfield 121, 3), (83, .if_icmp .ge 44, 3), (86, .iload_n 1, 1), (87, .iload_n 2, 1), (88, .ishr, 1), (89, .iconst 1, 1), (90, .iand, 1), (91, .ifCond .eq 30, 3), (94, .aload_n 0, 1), (95, .getfield 37, 3), (98, .getfield 143, 3), (101, .iload_n 2, 1), (102, .iaload, 1), (103, .bipush 99, 2), (105, .if_icmp .ge 16, 3), (108, .aload_n 0, 1), (109, .getfield 37, 3), (112, .getfield 143, 3), (115, .iload_n 2, 1), (116, .dup2, 1), (117, .iaload, 1), (118, .iconst 1, 1), (119, .iadd, 1), (120, .iastore, 1), (121, .iinc 2 1, 3), (124, .goto (-49), 3), (127, .iload_n 1, 1), (128, .ireturn, 1)]
set_option maxRecDepth 100000 in
theorem nhD_86_ok : nh_dtB prog_1_method_20_code nhD_86 = true := by decide +kernel
def nhD_87 : nhDt := [(0, .aload_n 0, 1), (1, .iload_n 1, 1), (2, .invokevirtual 156, 3), (5, .ifCond .eq 26, 3), (8, .aload_n 0, 1), (9, .iload_n 1, 1), (10, .invokevirtual 247, 3), (13, .ifCond .eq 18, 3), (16, .aload_n 0, 1), (17, .getfield 37, 3), (20, .getfield 175, 3), (23, .invokestatic 179, 3), (26, .bipush 12, 2), (28, .if_icmp .lt 5, 3), (31, .iconst (-1), 1), (32, .ireturn, 1), (33, .aload_n 0, 1), (34, .getfield 47, 3), (37, .aload_n 0, 1), (38, .getfield 37, 3), (41, .invokevirtual 232, 3), (44, .aload_n 0, 1), (45, .getfield 37, 3), (48, .dup, 1), (49, .getfield 175, 3), (52, .lconst 1, 1), (53, .iload_n 1, 1), (54, .lshl, 1), (55, .lor, 1), (56, .putfield 175, 3), (59, .aload_n 0, 1), (60, .getfield 37, 3), (63, .getfield 175, 3), (66, .invokestatic 179, 3), (69, .ireturn, 1)]
set_option maxRecDepth 100000 in
theorem nhD_87_ok : nh_dtB prog_1_method_21_code nhD_87 = true := by decide +kernel
def nhD_88 : nhDt := [(0, .aload_n 0, 1), (1, .getfield 37, 3), (4, .iload_n 1, 1), (5, .invokevirtual 159, 3), (8, .ifCond .ne 26, 3), (11, .iload_n 1, 1), (12, .aload_n 0, 1), (13, .getfield 37, 3), (16, .getfield 162, 3), (19, .if_icmp .eq 15, 3), (22, .aload_n 0, 1), (23, .iload_n 1, 1), (24, .invokevirtual 152, 3), (27, .ifCond .ne 7, 3), (30, .iconst 1, 1), (31, .goto 4, 3), (34, .iconst 0, 1), (35, .ireturn, 1)]
set_option maxRecDepth 100000 in
theorem nhD_88_ok : nh_dtB prog_1_method_60_code nhD_88 = true := by decide +kernel
def nhD_89 : nhDt := [(0, .aload_n 0, 1), (1, .iload_n 1, 1), (2, .invokevirtual 156, 3), (5, .ifCond .eq 14, 3), (8, .aload_n 0, 1), (9, .getfield 37, 3), (12, .iload_n 1, 1), (13, .invokevirtual 159, 3), (16, .ifCond .ne 5, 3), (19, .iconst (-1), 1), (20, .ireturn, 1), (21, .aload_n 0, 1), (22, .getfield 47, 3), (25, .aload_n 0, 1), (26, .getfield 37, 3), (29, .invokevirtual 232, 3), (32, .aload_n 0, 1), (33, .getfield 37, 3), (36, .dup, 1), (37, .getfield 175, 3), (40, .lconst 1, 1), (41, .iload_n 1, 1), (42, .lshl, 1), (43, .ldc2_w 250, 3), (46, .lxor, 1), (47, .land, 1), (48, .putfield 175, 3), (51, .aload_n 0, 1), (52, .getfield 37, 3), (55, .getfield 175, 3), (58, .invokestatic 179, 3), (61, .ireturn, 1)]
set_option maxRecDepth 100000 in
theorem nhD_89_ok : nh_dtB prog_1_method_22_code nhD_89 = true := by decide +kernel
def nhD_90 : nhDt := [(0, .aload_n 0, 1), (1, .getfield 47, 3), (4, .aload_n 0, 1), (5, .getfield 37, 3), (8, .invokevirtual 252, 3), (11, .ireturn, 1)]
set_option maxRecDepth 100000 in
theorem nhD_90_ok : nh_dtB prog_1_method_23_code nhD_90 = true := by decide +kernel
def nhD_91 : nhDt := [(0, .aload_n 0, 1), (1, .getfield 19, 3), (4, .ifCond .ne 5, 3), (7, .iconst 0, 1), (8, .ireturn, 1), (9, .aload_n 0, 1), (10, .invokevirtual 26, 3), (13, .aload_n 1, 1), (14, .invokevirtual 30, 3), (17, .aload_n 0, 1), (18, .dup, 1), (19, .getfield 19, 3), (22, .iconst 1, 1), (23, .isub, 1), (24, .putfield 19, 3), (27, .aload_n 0, 1), (28, .dup, 1), (29, .getfield 22, 3), (32, .iconst 1, 1), (33, .iadd, 1), (34, .putfield 22, 3), (37, .aload_n 1, 1), (38, .aload_n 0, 1), (39, .invokevirtual 26, 3), (42, .invokevirtual 30, 3), (45, .iconst 1, 1), (46, .ireturn, 1)]
set_option maxRecDepth 100000 in
theorem nhD_91_ok : nh_dtB prog_4_method_5_code nhD_91 = true := by decide +kernel
def nhD_92 : nhDt := [(0, .aload_n 0, 1), (1, .getfield 47, 3), (4, .aload_n 0, 1), (5, .getfield 37, 3), (8, .invokevirtual 256, 3), (11, .ireturn, 1)]
set_option maxRecDepth 100000 in
theorem nhD_92_ok : nh_dtB prog_1_method_24_code nhD_92 = true := by decide +kernel
def nhD_93 : nhDt := [(0, .aload_n 0, 1), (1, .getfield 22, 3), (4, .ifCond .ne 5, 3), (7, .iconst 0, 1), (8, .ireturn, 1), (9, .aload_n 0, 1), (10, .dup, 1), (11, .getfield 22, 3), (14, .iconst 1, 1), (15, .isub, 1), (16, .putfield 22, 3), (19, .aload_n 0, 1), (20, .dup, 1), (21, .getfield 19, 3), (24, .iconst 1, 1), (25, .iadd, 1), (26, .putfield 19, 3), (29, .aload_n 1, 1), (30, .aload_n 0, 1), (31, .invokevirtual 26, 3), (34, .invokevirtual 30, 3), (37, .iconst 1, 1), (38, .ireturn, 1)]
set_option maxRecDepth 100000 in
theorem nhD_93_ok : nh_dtB prog_4_method_6_code nhD_93 = true := by decide +kernel
def nhD_94 : nhDt := [(0, .iload_n 1, 1), (1, .ifCond .lt 8, 3), (4, .iload_n 1, 1), (5, .iconst 3, 1), (6, .if_icmp .lt 5, 3), (9, .iconst (-1), 1), (10, .ireturn, 1), (11, .aload_n 0, 1), (12, .getfield 51, 3), (15, .iload_n 1, 1), (16, .aaload, 1), (17, .aload_n 0, 1), (18, .getfield 37, 3), (21, .invokevirtual 259, 3), (24, .aload_n 0, 1), (25, .dup, 1), (26, .getfield 55, 3), (29, .iconst 1, 1), (30, .iload_n 1, 1), (31, .ishl, 1), (32, .ior, 1), (33, .putfield 55, 3), (36, .aload_n 0, 1), (37, .getfield 37, 3), (40, .getfield 188, 3), (43, .ireturn, 1)]
set_option maxRecDepth 100000 in
theorem nhD_94_ok : nh_dtB prog_1_method_25_code nhD_94 = true := by decide +kernel
def nhD_95 : nhDt := [(0, .iload_n 1, 1), (1, .ifCond .lt 19, 3), (4, .iload_n 1, 1), (5, .iconst 3, 1), (6, .if_icmp .ge 14, 3), (9, .aload_n 0, 1), (10, .getfield 55, 3), (13, .iload_n 1, 1), (14, .ishr, 1), (15, .iconst 1, 1), (16, .iand, 1), (17, .ifCond .ne 5, 3), (20, .iconst (-1), 1), (21, .ireturn, 1), (22, .aload_n 0, 1), (23, .getfield 37, 3), (26, .aload_n 0, 1), (27, .getfield 51, 3), (30, .iload_n 1, 1), (31, .aaload, 1), (32, .invokevirtual 259, 3), (35, .aload_n 0, 1), (36, .getfield 47, 3), (39, .invokevirtual 120, 3), (42, .aload_n 0, 1), (43, .getfield 37, 3), (46, .getfield 188, 3), (49, .ireturn, 1)]
set_option maxRecDepth 100000 in
theorem nhD_95_ok : nh_dtB prog_1_method_26_code nhD_95 = true := by decide +kernel
def nhD_96 : nhDt := [(0, .aload_n 0, 1), (1, .iload_n 1, 1), (2, .invokevirtual 130, 3), (5, .ifCond .eq 22, 3), (8, .iload_n 2, 1), (9, .ifCond .lt 18, 3), (12, .iload_n 2, 1), (13, .bipush 60, 2), (15, .if_icmp .gt 12, 3), (18, .iload_n 3, 1), (19, .ifCond .lt 8, 3), (22, .iload_n 3, 1), (23, .iconst 2, 1), (24, .if_icmp .le 5, 3), (27, .iconst (-1), 1), (28, .ireturn, 1), (29, .aload_n 0, 1), (30, .iload_n 2, 1), (31, .iload_n 3, 1), (32, .iconst 2, 1), (33, .if_icmp .ne 13, 3), (36, .aload_n 0, 1), (37, .getfield 20, 3), (40, .getfield 215, 3), (43, .goto 4, 3), (46, .iconst (-1), 1), (47, .iload_n 3, 1), (48, .iconst 1, 1), (49, .if_icmp .ne 7, 3), (52, .iconst 1, 1), (53, .goto 4, 3), (56, .iconst 0, 1), (57, .invokevirtual 262, 3), (60, .aload_n 0, 1), (61, .getfield 41, 3), (64, .getfield 134, 3), (67, .iload_n 1, 1), (68, .iaload, 1), (69, .ireturn, 1)]
set_option maxRecDepth 100000 in
theorem nhD_96_ok : nh_dtB prog_1_method_27_code nhD_96 = true := by decide +kernel
def nhD_97 : nhDt := [(0, .aload_n 0, 1), (1, .getfield 41, 3), (4, .aload_n 0, 1), (5, .getfield 37, 3), (8, .invokevirtual 259, 3), (11, .aload_n 0, 1), (12, .iload_n 1, 1), (13, .iload_n 2, 1), (14, .iload_n 3, 1), (15, .invokevirtual 299, 3), (18, .return_, 1)]
set_option maxRecDepth 100000 in
theorem nhD_97_ok : nh_dtB prog_1_method_63_code nhD_97 = true := by decide +kernel
def nhD_98 : nhDt := [(0, .iconst 0, 1), (1, .istore 4, 2), (3, .iload 4, 2), (5, .iload_n 1, 1), (6, .if_icmp .ge 22, 3), (9, .aload_n 0, 1), (10, .getfield 20, 3), (13, .aload_n 0, 1), (14, .getfield 41, 3), (17, .iload_n 2, 1), (18, .iload_n 3, 1), (19, .invokestatic 236, 3), (22, .iinc 4 1, 3), (25, .goto (-22), 3), (28, .return_, 1)]
set_option maxRecDepth 100000 in
theorem nhD_98_ok : nh_dtB prog_1_method_64_code nhD_98 = true := by decide +kernel
def nhD_99 : nhDt := [(0, .aload_n 0, 1), (1, .iload_n 1, 1), (2, .invokevirtual 130, 3), (5, .ifCond .ne 5, 3), (8, .iconst (-1), 1), (9, .ireturn, 1), (10, .aload_n 0, 1), (11, .getfield 41, 3), (14, .aload_n 0, 1), (15, .getfield 37, 3), (18, .invokevirtual 259, 3), (21, .iconst 0, 1), (22, .istore_n 2, 1), (23, .iload_n 2, 1), (24, .bipush 99, 2), (26, .if_icmp .gt 45, 3), (29, .aload_n 0, 1), (30, .getfield 41, 3), (33, .getfield 134, 3), (36, .iload_n 1, 1), (37, .iaload, 1), (38, .aload_n 0, 1), (39, .getfield 20, 3), (42, .getfield 137, 3), (45, .iload_n 1, 1), (46, .iaload, 1), (47, .if_icmp .ne 5, 3), (50, .iload_n 2, 1), (51, .ireturn, 1), (52, .aload_n 0, 1), (53, .getfield 20, 3), (56, .aload_n 0, 1), (57, .getfield 41, 3), (60, .iconst (-1), 1), (61, .iconst 0, 1), (62, .invokestatic 236, 3), (65, .iinc 2 1, 3), (68, .goto (-45), 3), (71, .iconst (-1), 1), (72, .ireturn, 1)]
set_option maxRecDepth 100000 in
theorem nhD_99_ok : nh_dtB prog_1_method_28_code nhD_99 = true := by decide +kernel
def nhD_100 : nhDt := [(0, .aload_n 0, 1), (1, .iload_n 1, 1), (2, .iload_n 2, 1), (3, .invokevirtual 266, 3), (6, .ifCond .ne 5, 3), (9, .iconst (-1), 1), (10, .ireturn, 1), (11, .aload_n 0, 1), (12, .getfield 41, 3), (15, .aload_n 0, 1), (16, .getfield 37, 3), (19, .invokevirtual 259, 3), (22, .iconst 0, 1), (23, .istore_n 3, 1), (24, .iload_n 3, 1), (25, .bipush 99, 2), (27, .if_icmp .gt 45, 3), (30, .aload_n 0, 1), (31, .getfield 41, 3), (34, .getfield 134, 3), (37, .iload_n 1, 1), (38, .iaload, 1), (39, .aload_n 0, 1), (40, .getfield 41, 3), (43, .getfield 134, 3), (46, .iload_n 2, 1), (47, .iaload, 1), (48, .if_icmp .ne 5, 3), (51, .iload_n 3, 1), (52, .ireturn, 1), (53, .aload_n 0, 1), (54, .getfield 20, 3), (57, .aload_n 0, 1), (58, .getfield 41, 3), (61, .iconst (-1), 1), (62, .iconst 0, 1), (63, .invokestatic 236, 3), (66, .iinc 3 1, 3), (69, .goto (-45), 3), (72, .iconst (-1), 1), (73, .ireturn, 1)]
set_option maxRecDepth 100000 in
theorem nhD_100_ok : nh_dtB prog_1_method_29_code nhD_100 = true := by decide +kernel
def nhD_101 : nhDt := [(0, .aload_n 0, 1), (1, .iload_n 1, 1), (2, .invokevirtual 130, 3), (5, .ifCond .eq 20, 3), (8, .aload_n 0, 1), (9, .iload_n 2, 1), (10, .invokevirtual 130, 3), (13, .ifCond .eq 12, 3), (16, .iload_n 1, 1), (17, .iload_n 2, 1), (18, .if_icmp .eq 7, 3), (21, .iconst 1, 1), (22, .goto 4, 3), (25, .iconst 0, 1), (26, .ireturn, 1)]
set_option maxRecDepth 100000 in
theorem nhD_101_ok : nh_dtB prog_1_method_58_code nhD_101 = true := by decide +kernel
def nhD_102 : nhDt := [(0, .aload_n 0, 1), (1, .iconst 0, 1), (2, .putfield 93, 3), (5, .aload_n 0, 1), (6, .iload_n 1, 1), (7, .invokevirtual 130, 3), (10, .ifCond .eq 13, 3), (13, .iload_n 2, 1), (14, .ifCond .lt 9, 3), (17, .iload_n 2, 1), (18, .bipush 10, 2), (20, .if_icmp .le 5, 3), (23, .iconst (-1), 1), (24, .ireturn, 1), (25, .aload_n 0, 1), (26, .getfield 68, 3), (29, .aload_n 0, 1), (30, .getfield 20, 3), (33, .aload_n 0, 1), (34, .getfield 37, 3), (37, .iload_n 1, 1), (38, .iload_n 2, 1), (39, .invokevirtual 270, 3), (42, .istore_n 3, 1), (43, .iload_n 3, 1), (44, .iconst (-1), 1), (45, .if_icmp .eq 25, 3), (48, .aload_n 0, 1), (49, .getfield 68, 3), (52, .getfield 274, 3), (55, .iconst 0, 1), (56, .aload_n 0, 1), (57, .getfield 89, 3), (60, .iconst 0, 1), (61, .iload_n 2, 1), (62, .invokestatic 277, 3), (65, .aload_n 0, 1), (66, .iload_n 2, 1), (67, .putfield 93, 3), (70, .iload_n 3, 1), (71, .ireturn, 1)]
set_option maxRecDepth 100000 in
theorem nhD_102_ok : nh_dtB prog_1_method_30_code nhD_102 = true := by decide +kernel
def nhD_103 : nhDt := [(0, .aload_n 0, 1), (1, .aload_n 1, 1), (2, .putfield 25, 3), (5, .aload_n 0, 1), (6, .iload_n 3, 1), (7, .putfield 29, 3), (10, .aload_n 0, 1), (11, .iload 4, 2), (13, .bipush 10, 2), (15, .invokestatic 33, 3), (18, .putfield 39, 3), (21, .aload_n 0, 1), (22, .aload_n 0, 1), (23, .getfield 39, 3), (26, .iconst 1, 1), (27, .iadd, 1), (28, .putfield 42, 3), (31, .aload_n 0, 1), (32, .getfield 20, 3), (35, .iconst 0, 1), (36, .aaload, 1), (37, .aload_n 2, 1), (38, .invokevirtual 45, 3), (41, .aload_n 0, 1), (42, .iconst 0, 1), (43, .iconst 0, 1), (44, .invokevirtual 49, 3), (47, .aload_n 0, 1), (48, .getfield 42, 3), (51, .aload_n 0, 1), (52, .getfield 39, 3), (55, .if_icmp .le 7, 3), (58, .iconst (-1), 1), (59, .goto 7, 3), (62, .aload_n 0, 1), (63, .getfield 42, 3), (66, .ireturn, 1)]
set_option maxRecDepth 100000 in
theorem nhD_103_ok : nh_dtB prog_7_method_2_code nhD_103 = true := by decide +kernel
def nhD_104 : nhDt := [(0, .iload_n 1, 1), (1, .ifCond .lt 19, 3), (4, .iload_n 1, 1), (5, .aload_n 0, 1), (6, .getfield 39, 3), (9, .if_icmp .gt 11, 3), (12, .iload_n 2, 1), (13, .aload_n 0, 1), (14, .getfield 42, 3), (17, .if_icmp .lt 4, 3), (20, .return_, 1), (21, .aload_n 0, 1), (22, .getfield 25, 3), (25, .aload_n 0, 1), (26, .getfield 20, 3), (29, .iload_n 1, 1), (30, .aaload, 1), (31, .getfield 53, 3), (34, .aload_n 0, 1), (35, .getfield 29, 3), (38, .iaload, 1), (39, .aload_n 0, 1), (40, .getfield 25, 3), (43, .getfield 56, 3), (46, .aload_n 0, 1), (47, .getfield 29, 3), (50, .iaload, 1), (51, .invokevirtual 61, 3), (54, .istore_n 3, 1), (55, .iload_n 3, 1), (56, .aload_n 0, 1), (57, .getfield 39, 3), (60, .iload_n 1, 1), (61, .isub, 1), (62, .if_icmp .le 4, 3), (65, .return_, 1), (66, .iload_n 1, 1), (67, .aload_n 0, 1), (68, .getfield 39, 3), (71, .if_icmp .lt 26, 3), (74, .aload_n 0, 1), (75, .iload_n 2, 1), (76, .putfield 42, 3), (79, .aload_n 0, 1), (80, .getfield 15, 3), (83, .iconst 0, 1), (84, .aload_n 0, 1), (85, .getfield 9, 3), (88, .iconst 0, 1), (89, .aload_n 0, 1), (90, .getfield 39, 3), (93, .invokestatic 64, 3), (96, .return_, 1), (97, .aload_n 0, 1), (98, .iload_n 1, 1), (99, .iload_n 2, 1), (100, .iconst 0, 1), (101, .invokevirtual 70, 3), (104, .iload_n 2, 1), (105, .iconst 1, 1), (106, .iadd, 1), (107, .aload_n 0, 1), (108, .getfield 42, 3), (111, .if_icmp .ge 25, 3), (114, .aload_n 0, 1), (115, .aload_n 0, 1), (116, .getfield 20, 3), (119, .iload_n 1, 1), (120, .aaload, 1), (121, .invokevirtual 74, 3), (124, .ifCond .eq 12, 3), (127, .aload_n 0, 1), (128, .iload_n 1, 1), (129, .iload_n 2, 1), (130, .iconst 1, 1), (131, .iadd, 1), (132, .iconst 1, 1), (133, .invokevirtual 70, 3), (136, .return_, 1)]
set_option maxRecDepth 100000 in
theorem nhD_104_ok : nh_dtB prog_7_method_3_code nhD_104 = true := by decide +kernel
def nhD_105 : nhDt := [(0, .aload_n 0, 1), (1, .getfield 15, 3), (4, .iload_n 1, 1), (5, .iload_n 3, 1), (6, .ifCond .eq 7, 3), (9, .iconst 1, 1), (10, .goto 4, 3), (13, .iconst 0, 1), (14, .iastore, 1), (15, .aload_n 0, 1), (16, .getfield 20, 3), (19, .iload_n 1, 1), (20, .iconst 1, 1), (21, .iadd, 1), (22, .aaload, 1), (23, .aload_n 0, 1), (24, .getfield 20, 3), (27, .iload_n 1, 1), (28, .aaload, 1), (29, .invokevirtual 45, 3), (32, .aload_n 0, 1), (33, .getfield 25, 3), (36, .aload_n 0, 1), (37, .getfield 20, 3), (40, .iload_n 1, 1), (41, .iconst 1, 1), (42, .iadd, 1), (43, .aaload, 1), (44, .iload_n 3, 1), (45, .ifCond .eq 13, 3), (48, .aload_n 0, 1), (49, .getfield 25, 3), (52, .getfield 78, 3), (55, .goto 4, 3), (58, .iconst (-1), 1), (59, .iconst 0, 1), (60, .invokestatic 81, 3), (63, .aload_n 0, 1), (64, .iload_n 1, 1), (65, .iconst 1, 1), (66, .iadd, 1), (67, .iload_n 2, 1), (68, .invokevirtual 49, 3), (71, .return_, 1)]
set_option maxRecDepth 100000 in
theorem nhD_105_ok : nh_dtB prog_7_method_4_code nhD_105 = true := by decide +kernel
def nhD_106 : nhDt := [(0, .iconst 0, 1), (1, .istore_n 2, 1), (2, .iload_n 2, 1), (3, .aload_n 0, 1), (4, .getfield 25, 3), (7, .getfield 87, 3), (10, .if_icmp .ge 30, 3), (13, .aload_n 0, 1), (14, .getfield 25, 3), (17, .aload_n 1, 1), (18, .iload_n 2, 1), (19, .aload_n 0, 1), (20, .getfield 25, 3), (23, .getfield 78, 3), (26, .invokestatic 90, 3), (29, .ifCond .eq 5, 3), (32, .iconst 1, 1), (33, .ireturn, 1), (34, .iinc 2 1, 3), (37, .goto (-35), 3), (40, .iconst 0, 1), (41, .ireturn, 1)]
set_option maxRecDepth 100000 in
theorem nhD_106_ok : nh_dtB prog_7_method_5_code nhD_106 = true := by decide +kernel
def nhD_107 : nhDt := [(0, .aload_n 0, 1), (1, .iconst 0, 1), (2, .putfield 93, 3), (5, .aload_n 0, 1), (6, .iload_n 1, 1), (7, .iload_n 2, 1), (8, .invokevirtual 266, 3), (11, .ifCond .eq 13, 3), (14, .iload_n 3, 1), (15, .ifCond .lt 9, 3), (18, .iload_n 3, 1), (19, .bipush 20, 2), (21, .if_icmp .le 5, 3), (24, .iconst (-1), 1), (25, .ireturn, 1), (26, .aload_n 0, 1), (27, .getfield 75, 3), (30, .aload_n 0, 1), (31, .getfield 20, 3), (34, .aload_n 0, 1), (35, .getfield 37, 3), (38, .iload_n 1, 1), (39, .iload_n 2, 1), (40, .iload_n 3, 1), (41, .aload_n 0, 1), (42, .invokevirtual 283, 3), (45, .invokevirtual 287, 3), (48, .istore 4, 2), (50, .iload 4, 2), (52, .iconst (-1), 1), (53, .if_icmp .eq 35, 3), (56, .aload_n 0, 1), (57, .getfield 89, 3), (60, .iconst 0, 1), (61, .aload_n 0, 1), (62, .getfield 75, 3), (65, .getfield 291, 3), (68, .iastore, 1), (69, .aload_n 0, 1), (70, .getfield 89, 3), (73, .iconst 1, 1), (74, .aload_n 0, 1), (75, .getfield 75, 3), (78, .getfield 294, 3), (81, .iastore, 1), (82, .aload_n 0, 1), (83, .iload 4, 2), (85, .putfield 93, 3), (88, .iload 4, 2), (90, .ireturn, 1)]
set_option maxRecDepth 100000 in
theorem nhD_107_ok : nh_dtB prog_1_method_31_code nhD_107 = true := by decide +kernel
def nhD_108 : nhDt := [(0, .lconst 0, 1), (1, .lstore_n 1, 1), (2, .iconst 0, 1), (3, .istore_n 3, 1), (4, .iload_n 3, 1), (5, .aload_n 0, 1), (6, .getfield 20, 3), (9, .getfield 297, 3), (12, .if_icmp .ge 23, 3), (15, .aload_n 0, 1), (16, .iload_n 3, 1), (17, .invokevirtual 247, 3), (20, .ifCond .eq 9, 3), (23, .lload_n 1, 1), (24, .lconst 1, 1), (25, .iload_n 3, 1), (26, .lshl, 1), (27, .lor, 1), (28, .lstore_n 1, 1), (29, .iinc 3 1, 3), (32, .goto (-28), 3), (35, .lload_n 1, 1), (36, .lreturn, 1)]
set_option maxRecDepth 100000 in
theorem nhD_108_ok : nh_dtB prog_1_method_61_code nhD_108 = true := by decide +kernel
def nhD_109 : nhDt := [(0, .aload_n 0, 1), (1, .aload_n 1, 1), (2, .putfield 22, 3), (5, .aload_n 0, 1), (6, .aload_n 2, 1), (7, .putfield 26, 3), (10, .aload_n 0, 1), (11, .iload_n 3, 1), (12, .putfield 29, 3), (15, .aload_n 0, 1), (16, .iload 4, 2), (18, .putfield 33, 3), (21, .aload_n 0, 1), (22, .iload 5, 2), (24, .putfield 36, 3), (27, .aload_n 0, 1), (28, .iconst (-1), 1), (29, .putfield 39, 3), (32, .aload_n 0, 1), (33, .iconst (-1), 1), (34, .putfield 42, 3), (37, .aload_n 0, 1), (38, .getfield 26, 3), (41, .getfield 45, 3), (44, .aload_n 0, 1), (45, .getfield 29, 3), (48, .iaload, 1), (49, .aload_n 0, 1), (50, .getfield 26, 3), (53, .getfield 45, 3), (56, .aload_n 0, 1), (57, .getfield 33, 3), (60, .iaload, 1), (61, .if_icmp .ne 5, 3), (64, .iconst (-1), 1), (65, .ireturn, 1), (66, .aload_n 0, 1), (67, .lconst 0, 1), (68, .invokevirtual 49, 3), (71, .lstore 8, 2), (73, .lload 8, 2), (75, .ldc2_w 53, 3), (78, .lcmp, 1), (79, .ifCond .ne 5, 3), (82, .iconst 0, 1), (83, .ireturn, 1), (84, .aload_n 0, 1), (85, .lload 8, 2), (87, .lload 6, 2), (89, .land, 1), (90, .invokevirtual 55, 3), (93, .ifCond .eq 5, 3), (96, .iconst 1, 1), (97, .ireturn, 1), (98, .aload_n 0, 1), (99, .lload 8, 2), (101, .lload 6, 2), (103, .land, 1), (104, .lload 6, 2), (106, .invokevirtual 59, 3), (109, .ifCond .eq 7, 3), (112, .iconst 2, 1), (113, .goto 4, 3), (116, .iconst (-1), 1), (117, .ireturn, 1)]
set_option maxRecDepth 100000 in
theorem nhD_109_ok : nh_dtB prog_2_method_2_code nhD_109 = true := by decide +kernel
def nhD_110 : nhDt := [(0, .aload_n 0, 1), (1, .getfield 12, 3), (4, .aload_n 0, 1), (5, .getfield 26, 3), (8, .invokevirtual 75, 3), (11, .aload_n 0, 1), (12, .getfield 12, 3), (15, .dup, 1), (16, .getfield 79, 3), (19, .lload_n 1, 1), (20, .lor, 1), (21, .putfield 79, 3), (24, .lconst 0, 1), (25, .lstore_n 3, 1), (26, .iconst 0, 1), (27, .istore 5, 2), (29, .iload 5, 2), (31, .aload_n 0, 1), (32, .getfield 36, 3), (35, .if_icmp .ge 87, 3), (38, .aload_n 0, 1), (39, .getfield 22, 3), (42, .aload_n 0, 1), (43, .getfield 12, 3), (46, .iconst (-1), 1), (47, .iconst 0, 1), (48, .invokestatic 83, 3), (51, .iconst 0, 1), (52, .istore 6, 2), (54, .iload 6, 2), (56, .aload_n 0, 1), (57, .getfield 22, 3), (60, .getfield 89, 3), (63, .if_icmp .ge 24, 3), (66, .lload_n 3, 1), (67, .lconst 1, 1), (68, .aload_n 0, 1), (69, .getfield 12, 3), (72, .getfield 45, 3), (75, .iload 6, 2), (77, .iaload, 1), (78, .lshl, 1), (79, .lor, 1), (80, .lstore_n 3, 1), (81, .iinc 6 1, 3), (84, .goto (-30), 3), (87, .aload_n 0, 1), (88, .getfield 12, 3), (91, .getfield 45, 3), (94, .aload_n 0, 1), (95, .getfield 29, 3), (98, .iaload, 1), (99, .aload_n 0, 1), (100, .getfield 12, 3), (103, .getfield 45, 3), (106, .aload_n 0, 1), (107, .getfield 33, 3), (110, .iaload, 1), (111, .if_icmp .ne 5, 3), (114, .lload_n 3, 1), (115, .lreturn, 1), (116, .iinc 5 1, 3), (119, .goto (-90), 3), (122, .ldc2_w 53, 3), (125, .lreturn, 1)]
set_option maxRecDepth 100000 in
theorem nhD_110_ok : nh_dtB prog_2_method_7_code nhD_110 = true := by decide +kernel
def nhD_111 : nhDt := [(0, .iconst 0, 1), (1, .istore_n 3, 1), (2, .iload_n 3, 1), (3, .aload_n 0, 1), (4, .getfield 22, 3), (7, .getfield 63, 3), (10, .if_icmp .ge 53, 3), (13, .lload_n 1, 1), (14, .iload_n 3, 1), (15, .invokestatic 67, 3), (18, .ifCond .ne 6, 3), (21, .goto 36, 3), (24, .aload_n 0, 1), (25, .getfield 18, 3), (28, .iload_n 3, 1), (29, .aload_n 0, 1), (30, .lconst 1, 1), (31, .iload_n 3, 1), (32, .lshl, 1), (33, .invokevirtual 49, 3), (36, .lastore, 1), (37, .aload_n 0, 1), (38, .getfield 18, 3), (41, .iload_n 3, 1), (42, .laload, 1), (43, .ldc2_w 53, 3), (46, .lcmp, 1), (47, .ifCond .ne 10, 3), (50, .aload_n 0, 1), (51, .iload_n 3, 1), (52, .putfield 39, 3), (55, .iconst 1, 1), (56, .ireturn, 1), (57, .iinc 3 1, 3), (60, .goto (-58), 3), (63, .iconst 0, 1), (64, .ireturn, 1)]
set_option maxRecDepth 100000 in
theorem nhD_111_ok : nh_dtB prog_2_method_3_code nhD_111 = true := by decide +kernel
def nhD_112 : nhDt := [(0, .lload_n 0, 1), (1, .iload_n 2, 1), (2, .lushr, 1), (3, .lconst 1, 1), (4, .land, 1), (5, .lconst 0, 1), (6, .lcmp, 1), (7, .ifCond .eq 7, 3), (10, .iconst 1, 1), (11, .goto 4, 3), (14, .iconst 0, 1), (15, .ireturn, 1)]
set_option maxRecDepth 100000 in
theorem nhD_112_ok : nh_dtB prog_2_method_6_code nhD_112 = true := by decide +kernel
def nhD_113 : nhDt := [(0, .iconst 0, 1), (1, .istore 5, 2), (3, .iload 5, 2), (5, .aload_n 0, 1), (6, .getfield 22, 3), (9, .getfield 63, 3), (12, .if_icmp .ge 97, 3), (15, .iload 5, 2), (17, .iconst 1, 1), (18, .iadd, 1), (19, .istore 6, 2), (21, .iload 6, 2), (23, .aload_n 0, 1), (24, .getfield 22, 3), (27, .getfield 63, 3), (30, .if_icmp .ge 73, 3), (33, .lload_n 3, 1), (34, .iload 5, 2), (36, .invokestatic 67, 3), (39, .ifCond .eq 58, 3), (42, .lload_n 3, 1), (43, .iload 6, 2), (45, .invokestatic 67, 3), (48, .ifCond .eq 49, 3), (51, .aload_n 0, 1), (52, .lload_n 1, 1), (53, .iload 5, 2), (55, .iload 6, 2), (57, .invokevirtual 71, 3), (60, .ifCond .eq 37, 3), (63, .aload_n 0, 1), (64, .lconst 1, 1), (65, .iload 5, 2), (67, .lshl, 1), (68, .lconst 1, 1), (69, .iload 6, 2), (71, .lshl, 1), (72, .lor, 1), (73, .invokevirtual 49, 3), (76, .ldc2_w 53, 3), (79, .lcmp, 1), (80, .ifCond .ne 17, 3), (83, .aload_n 0, 1), (84, .iload 5, 2), (86, .putfield 39, 3), (89, .aload_n 0, 1), (90, .iload 6, 2), (92, .putfield 42, 3), (95, .iconst 1, 1), (96, .ireturn, 1), (97, .iinc 6 1, 3), (100, .goto (-79), 3), (103, .iinc 5 1, 3), (106, .goto (-103), 3), (109, .iconst 0, 1), (110, .ireturn, 1)]
set_option maxRecDepth 100000 in
theorem nhD_113_ok : nh_dtB prog_2_method_4_code nhD_113 = true := by decide +kernel
def nhD_114 : nhDt := [(0, .lload_n 1, 1), (1, .iload_n 3, 1), (2, .invokestatic 67, 3), (5, .istore 5, 2), (7, .lload_n 1, 1), (8, .iload 4, 2), (10, .invokestatic 67, 3), (13, .istore 6, 2), (15, .iload 5, 2), (17, .ifCond .ne 8, 3), (20, .iload 6, 2), (22, .ifCond .eq 45, 3), (25, .iload 5, 2), (27, .ifCond .eq 17, 3), (30, .aload_n 0, 1), (31, .getfield 18, 3), (34, .iload_n 3, 1), (35, .laload, 1), (36, .iload 4, 2), (38, .invokestatic 67, 3), (41, .ifCond .eq 26, 3), (44, .iload 6, 2), (46, .ifCond .eq 17, 3), (49, .aload_n 0, 1), (50, .getfield 18, 3), (53, .iload 4, 2), (55, .laload, 1), (56, .iload_n 3, 1), (57, .invokestatic 67, 3), (60, .ifCond .eq 7, 3), (63, .iconst 1, 1), (64, .goto 4, 3), (67, .iconst 0, 1), (68, .ireturn, 1)]
set_option maxRecDepth 100000 in
theorem nhD_114_ok : nh_dtB prog_2_method_5_code nhD_114 = true := by decide +kernel
def nhD_115 : nhDt := [(0, .iload_n 1, 1), (1, .ifCond .lt 18, 3), (4, .iload_n 1, 1), (5, .bipush 20, 2), (7, .if_icmp .gt 12, 3), (10, .iload_n 2, 1), (11, .ifCond .lt 8, 3), (14, .iload_n 2, 1), (15, .iconst 1, 1), (16, .if_icmp .le 5, 3), (19, .iconst (-1), 1), (20, .ireturn, 1), (21, .iconst (-1), 1), (22, .istore_n 3, 1), (23, .iconst (-1), 1), (24, .istore 4, 2), (26, .iconst 0, 1), (27, .istore 5, 2), (29, .iload 5, 2), (31, .aload_n 0, 1), (32, .getfield 20, 3), (35, .getfield 297, 3), (38, .if_icmp .ge 87, 3), (41, .aload_n 0, 1), (42, .getfield 37, 3), (45, .iload 5, 2), (47, .invokevirtual 159, 3), (50, .ifCond .eq 6, 3), (53, .goto 66, 3), (56, .aload_n 0, 1), (57, .getfield 41, 3), (60, .aload_n 0, 1), (61, .getfield 37, 3), (64, .invokevirtual 259, 3), (67, .aload_n 0, 1), (68, .getfield 41, 3), (71, .iload 5, 2), (73, .putfield 162, 3), (76, .aload_n 0, 1), (77, .iload_n 1, 1), (78, .aload_n 0, 1), (79, .getfield 20, 3), (82, .getfield 215, 3), (85, .iconst 0, 1), (86, .invokevirtual 299, 3), (89, .aload_n 0, 1), (90, .getfield 20, 3), (93, .aload_n 0, 1), (94, .getfield 41, 3), (97, .invokestatic 225, 3), (100, .invokestatic 302, 3), (103, .istore 6, 2), (105, .iload 6, 2), (107, .iload 4, 2), (109, .if_icmp .le 10, 3), (112, .iload 6, 2), (114, .istore 4, 2), (116, .iload 5, 2), (118, .istore_n 3, 1), (119, .iinc 5 1, 3), (122, .goto (-93), 3), (125, .iload_n 2, 1), (126, .ifCond .ne 7, 3), (129, .iload_n 3, 1), (130, .goto 5, 3), (133, .iload 4, 2), (135, .ireturn, 1)]
set_option maxRecDepth 100000 in
theorem nhD_115_ok : nh_dtB prog_1_method_32_code nhD_115 = true := by decide +kernel
def nhD_116 : nhDt := [(0, .iload_n 0, 1), (1, .iload_n 0, 1), (2, .iconst 1, 1), (3, .iushr, 1), (4, .ldc_w 265, 3), (7, .iand, 1), (8, .isub, 1), (9, .istore_n 0, 1), (10, .iload_n 0, 1), (11, .ldc_w 266, 3), (14, .iand, 1), (15, .iload_n 0, 1), (16, .iconst 2, 1), (17, .iushr, 1), (18, .ldc_w 266, 3), (21, .iand, 1), (22, .iadd, 1), (23, .istore_n 0, 1), (24, .iload_n 0, 1), (25, .iload_n 0, 1), (26, .iconst 4, 1), (27, .iushr, 1), (28, .iadd, 1), (29, .ldc_w 267, 3), (32, .iand, 1), (33, .istore_n 0, 1), (34, .iload_n 0, 1), (35, .iload_n 0, 1), (36, .bipush 8, 2), (38, .iushr, 1), (39, .iadd, 1), (40, .istore_n 0, 1), (41, .iload_n 0, 1), (42, .iload_n 0, 1), (43, .bipush 16, 2), (45, .iushr, 1), (46, .iadd, 1), (47, .istore_n 0, 1), (48, .iload_n 0, 1), (49, .bipush 63, 2), (51, .iand, 1), (52, .ireturn, 1)]
set_option maxRecDepth 100000 in
theorem nhD_116_ok : nh_dtB prog_16_method_49_code nhD_116 = true := by decide +kernel
def nhD_117 : nhDt := [(0, .iload_n 1, 1), (1, .ifCond .lt 18, 3), (4, .iload_n 1, 1), (5, .bipush 20, 2), (7, .if_icmp .gt 12, 3), (10, .iload_n 2, 1), (11, .ifCond .lt 8, 3), (14, .iload_n 2, 1), (15, .iconst 1, 1), (16, .if_icmp .le 5, 3), (19, .iconst (-1), 1), (20, .ireturn, 1), (21, .iconst (-1), 1), (22, .istore_n 3, 1), (23, .iconst (-1), 1), (24, .istore 4, 2), (26, .iconst 0, 1), (27, .istore 5, 2), (29, .iload 5, 2), (31, .bipush 10, 2), (33, .if_icmp .gt 47, 3), (36, .aload_n 0, 1), (37, .iload_n 1, 1), (38, .iload 5, 2), (40, .iconst 0, 1), (41, .invokevirtual 262, 3), (44, .aload_n 0, 1), (45, .getfield 20, 3), (48, .aload_n 0, 1), (49, .getfield 41, 3), (52, .invokestatic 225, 3), (55, .invokestatic 302, 3), (58, .istore 6, 2), (60, .iload 6, 2), (62, .iload 4, 2), (64, .if_icmp .le 10, 3), (67, .iload 6, 2), (69, .istore 4, 2), (71, .iload 5, 2), (73, .istore_n 3, 1), (74, .iinc 5 1, 3), (77, .goto (-48), 3), (80, .iload_n 2, 1), (81, .ifCond .ne 7, 3), (84, .iload_n 3, 1), (85, .goto 5, 3), (88, .iload 4, 2), (90, .ireturn, 1)]
set_option maxRecDepth 100000 in
theorem nhD_117_ok : nh_dtB prog_1_method_33_code nhD_117 = true := by decide +kernel
def nhD_118 : nhDt := [(0, .iload_n 1, 1), (1, .iconst 1, 1), (2, .if_icmp .lt 19, 3), (5, .iload_n 1, 1), (6, .bipush 60, 2), (8, .if_icmp .gt 13, 3), (11, .aload_n 0, 1), (12, .getfield 20, 3), (15, .getfield 121, 3), (18, .ifCond .ne 5, 3), (21, .iconst (-1), 1), (22, .ireturn, 1), (23, .aload_n 0, 1), (24, .getfield 61, 3), (27, .invokevirtual 306, 3), (30, .aload_n 0, 1), (31, .getfield 41, 3), (34, .aload_n 0, 1), (35, .getfield 37, 3), (38, .invokevirtual 259, 3), (41, .iconst 0, 1), (42, .istore_n 2, 1), (43, .iload_n 2, 1), (44, .iload_n 1, 1), (45, .if_icmp .ge 37, 3), (48, .aload_n 0, 1), (49, .getfield 20, 3), (52, .aload_n 0, 1), (53, .getfield 41, 3), (56, .iconst (-1), 1), (57, .iconst 0, 1), (58, .invokestatic 236, 3), (61, .aload_n 0, 1), (62, .getfield 61, 3), (65, .aload_n 0, 1), (66, .getfield 20, 3), (69, .aload_n 0, 1), (70, .getfield 41, 3), (73, .invokevirtual 309, 3), (76, .iinc 2 1, 3), (79, .goto (-36), 3), (82, .aload_n 0, 1), (83, .getfield 61, 3), (86, .aload_n 0, 1), (87, .getfield 20, 3), (90, .invokevirtual 313, 3), (93, .ireturn, 1)]
set_option maxRecDepth 100000 in
theorem nhD_118_ok : nh_dtB prog_1_method_34_code nhD_118 = true := by decide +kernel
def nhD_119 : nhDt := [(0, .aload_n 0, 1), (1, .getfield 18, 3), (4, .iconst 0, 1), (5, .invokestatic 21, 3), (8, .return_, 1)]
set_option maxRecDepth 100000 in
theorem nhD_119_ok : nh_dtB prog_12_method_6_code nhD_119 = true := by decide +kernel
def nhDc_2 : List nhDt := [nhD_80, nhD_81, nhD_82, nhD_83, nhD_84, nhD_85, nhD_86, nhD_87, nhD_88, nhD_89, nhD_90, nhD_91, nhD_92, nhD_93, nhD_94, nhD_95, nhD_96, nhD_97, nhD_98, nhD_99, nhD_100, nhD_101, nhD_102, nhD_103, nhD_104, nhD_105, nhD_106, nhD_107, nhD_108, nhD_109, nhD_110, nhD_111, nhD_112, nhD_113, nhD_114, nhD_115, nhD_116, nhD_117, nhD_118, nhD_119]
set_option maxRecDepth 100000 in
theorem nhDz_2 : nhZ nhMt_2 nhDc_2 := ⟨nhD_80_ok, nhD_81_ok, nhD_82_ok, nhD_83_ok, nhD_84_ok, nhD_85_ok, nhD_86_ok, nhD_87_ok, nhD_88_ok, nhD_89_ok, nhD_90_ok, nhD_91_ok, nhD_92_ok, nhD_93_ok, nhD_94_ok, nhD_95_ok, nhD_96_ok, nhD_97_ok, nhD_98_ok, nhD_99_ok, nhD_100_ok, nhD_101_ok, nhD_102_ok, nhD_103_ok, nhD_104_ok, nhD_105_ok, nhD_106_ok, nhD_107_ok, nhD_108_ok, nhD_109_ok, nhD_110_ok, nhD_111_ok, nhD_112_ok, nhD_113_ok, nhD_114_ok, nhD_115_ok, nhD_116_ok, nhD_117_ok, nhD_118_ok, nhD_119_ok, trivial⟩
def nhD_120 : nhDt := [(0, .iconst 0, 1), (1, .istore_n 3, 1), (2, .iload_n 3, 1), (3, .aload_n 1, 1), (4, .getfield 49, 3), (7, .if_icmp .ge 36, 3), (10, .aload_n 2, 1), (11, .getfield 52, 3), (14, .iload_n 3, 1), (15, .iaload, 1), (16, .istore 4, 2), (18, .iload 4, 2), (20, .invokestatic 45, 3), (23, .ifCond .eq 14, 3), (26, .aload_n 0, 1), (27, .getfield 18, 3), (30, .iload 4, 2), (32, .dup2, 1), (33, .iaload, 1), (34, .iconst 1, 1), (35, .iadd, 1), (36, .iastore, 1), (37, .iinc 3 1, 3), (40, .goto (-38), 3), (43, .return_, 1)]
set_option maxRecDepth 100000 in
theorem nhD_120_ok : nh_dtB prog_12_method_7_code nhD_120 = true := by decide +kernel
def nhD_121 : nhDt := [(0, .iload_n 0, 1), (1, .ifCond .lt 13, 3), (4, .iload_n 0, 1), (5, .bipush 36, 2), (7, .if_icmp .ge 7, 3), (10, .iconst 1, 1), (11, .goto 4, 3), (14, .iconst 0, 1), (15, .ireturn, 1)]
set_option maxRecDepth 100000 in
theorem nhD_121_ok : nh_dtB prog_12_method_4_code nhD_121 = true := by decide +kernel
def nhD_122 : nhDt := [(0, .iconst 0, 1), (1, .istore_n 2, 1), (2, .iconst 1, 1), (3, .istore_n 3, 1), (4, .iload_n 3, 1), (5, .aload_n 1, 1), (6, .getfield 57, 3), (9, .if_icmp .ge 26, 3), (12, .aload_n 0, 1), (13, .getfield 18, 3), (16, .iload_n 3, 1), (17, .iaload, 1), (18, .aload_n 0, 1), (19, .getfield 18, 3), (22, .iload_n 2, 1), (23, .iaload, 1), (24, .if_icmp .le 5, 3), (27, .iload_n 3, 1), (28, .istore_n 2, 1), (29, .iinc 3 1, 3), (32, .goto (-28), 3), (35, .iload_n 2, 1), (36, .ireturn, 1)]
set_option maxRecDepth 100000 in
theorem nhD_122_ok : nh_dtB prog_12_method_8_code nhD_122 = true := by decide +kernel
def nhD_123 : nhDt := [(0, .iload_n 1, 1), (1, .ifCond .lt 19, 3), (4, .iload_n 1, 1), (5, .bipush 60, 2), (7, .if_icmp .gt 13, 3), (10, .aload_n 0, 1), (11, .getfield 20, 3), (14, .getfield 121, 3), (17, .ifCond .ne 5, 3), (20, .iconst (-1), 1), (21, .ireturn, 1), (22, .aload_n 0, 1), (23, .iload_n 1, 1), (24, .iconst (-1), 1), (25, .iconst 0, 1), (26, .invokevirtual 262, 3), (29, .aload_n 0, 1), (30, .getfield 61, 3), (33, .invokevirtual 306, 3), (36, .aload_n 0, 1), (37, .getfield 61, 3), (40, .aload_n 0, 1), (41, .getfield 20, 3), (44, .aload_n 0, 1), (45, .getfield 41, 3), (48, .invokevirtual 309, 3), (51, .aload_n 0, 1), (52, .getfield 61, 3), (55, .aload_n 0, 1), (56, .getfield 20, 3), (59, .invokevirtual 313, 3), (62, .ireturn, 1)]
set_option maxRecDepth 100000 in
theorem nhD_123_ok : nh_dtB prog_1_method_35_code nhD_123 = true := by decide +kernel
def nhD_124 : nhDt := [(0, .aload_n 0, 1), (1, .iload_n 1, 1), (2, .invokevirtual 130, 3), (5, .ifCond .eq 13, 3), (8, .iload_n 2, 1), (9, .ifCond .lt 9, 3), (12, .iload_n 2, 1), (13, .bipush 60, 2), (15, .if_icmp .le 5, 3), (18, .iconst (-1), 1), (19, .ireturn, 1), (20, .aload_n 0, 1), (21, .getfield 41, 3), (24, .aload_n 0, 1), (25, .getfield 37, 3), (28, .invokevirtual 259, 3), (31, .aload_n 0, 1), (32, .getfield 20, 3), (35, .aload_n 0, 1), (36, .getfield 41, 3), (39, .getfield 134, 3), (42, .iload_n 1, 1), (43, .iaload, 1), (44, .aload_n 0, 1), (45, .getfield 20, 3), (48, .getfield 137, 3), (51, .iload_n 1, 1), (52, .iaload, 1), (53, .invokevirtual 165, 3), (56, .istore_n 3, 1), (57, .iconst 0, 1), (58, .istore 4, 2), (60, .iload 4, 2), (62, .iload_n 2, 1), (63, .if_icmp .ge 52, 3), (66, .aload_n 0, 1), (67, .getfield 20, 3), (70, .aload_n 0, 1), (71, .getfield 41, 3), (74, .iconst (-1), 1), (75, .iconst 0, 1), (76, .invokestatic 236, 3), (79, .iload_n 3, 1), (80, .aload_n 0, 1), (81, .getfield 20, 3), (84, .aload_n 0, 1), (85, .getfield 41, 3), (88, .getfield 134, 3), (91, .iload_n 1, 1), (92, .iaload, 1), (93, .aload_n 0, 1), (94, .getfield 20, 3), (97, .getfield 137, 3), (100, .iload_n 1, 1), (101, .iaload, 1), (102, .invokevirtual 165, 3), (105, .invokestatic 317, 3), (108, .istore_n 3, 1), (109, .iinc 4 1, 3), (112, .goto (-52), 3), (115, .iload_n 3, 1), (116, .ireturn, 1)]
set_option maxRecDepth 100000 in
theorem nhD_124_ok : nh_dtB prog_1_method_36_code nhD_124 = true := by decide +kernel
def nhD_125 : nhDt := [(0, .iload_n 1, 1), (1, .ifCond .lt 9, 3), (4, .iload_n 1, 1), (5, .bipush 60, 2), (7, .if_icmp .le 5, 3), (10, .iconst (-1), 1), (11, .ireturn, 1), (12, .aload_n 0, 1), (13, .iload_n 1, 1), (14, .iload_n 2, 1), (15, .ifCond .eq 13, 3), (18, .aload_n 0, 1), (19, .getfield 20, 3), (22, .getfield 215, 3), (25, .goto 4, 3), (28, .iconst (-1), 1), (29, .iconst 0, 1), (30, .invokevirtual 262, 3), (33, .aload_n 0, 1), (34, .getfield 20, 3), (37, .aload_n 0, 1), (38, .getfield 41, 3), (41, .invokestatic 225, 3), (44, .invokestatic 302, 3), (47, .ireturn, 1)]
set_option maxRecDepth 100000 in
theorem nhD_125_ok : nh_dtB prog_1_method_37_code nhD_125 = true := by decide +kernel
def nhD_126 : nhDt := [(0, .iload_n 1, 1), (1, .ifCond .lt 9, 3), (4, .iload_n 1, 1), (5, .bipush 60, 2), (7, .if_icmp .le 5, 3), (10, .iconst (-1), 1), (11, .ireturn, 1), (12, .aload_n 0, 1), (13, .iload_n 1, 1), (14, .iconst (-1), 1), (15, .iconst 0, 1), (16, .invokevirtual 262, 3), (19, .iconst 0, 1), (20, .istore_n 2, 1), (21, .iconst 0, 1), (22, .istore_n 3, 1), (23, .iload_n 3, 1), (24, .aload_n 0, 1), (25, .getfield 20, 3), (28, .getfield 121, 3), (31, .if_icmp .ge 31, 3), (34, .iload_n 2, 1), (35, .aload_n 0, 1), (36, .getfield 41, 3), (39, .getfield 140, 3), (42, .iload_n 3, 1), (43, .iaload, 1), (44, .aload_n 0, 1), (45, .getfield 37, 3), (48, .getfield 140, 3), (51, .iload_n 3, 1), (52, .iaload, 1), (53, .isub, 1), (54, .iadd, 1), (55, .istore_n 2, 1), (56, .iinc 3 1, 3), (59, .goto (-36), 3), (62, .iload_n 2, 1), (63, .ireturn, 1)]
set_option maxRecDepth 100000 in
theorem nhD_126_ok : nh_dtB prog_1_method_38_code nhD_126 = true := by decide +kernel
def nhD_127 : nhDt := [(0, .aload_n 0, 1), (1, .iload_n 1, 1), (2, .invokevirtual 156, 3), (5, .ifCond .ne 5, 3), (8, .iconst (-1), 1), (9, .ireturn, 1), (10, .aload_n 0, 1), (11, .getfield 61, 3), (14, .aload_n 0, 1), (15, .getfield 20, 3), (18, .aload_n 0, 1), (19, .getfield 37, 3), (22, .getfield 175, 3), (25, .aload_n 0, 1), (26, .getfield 37, 3), (29, .getfield 162, 3), (32, .invokevirtual 322, 3), (35, .aload_n 0, 1), (36, .getfield 61, 3), (39, .iload_n 1, 1), (40, .invokevirtual 326, 3), (43, .ireturn, 1)]
set_option maxRecDepth 100000 in
theorem nhD_127_ok : nh_dtB prog_1_method_39_code nhD_127 = true := by decide +kernel
def nhD_128 : nhDt := [(0, .aload_n 0, 1), (1, .getfield 9, 3), (4, .iconst (-1), 1), (5, .invokestatic 21, 3), (8, .aload_n 0, 1), (9, .iconst 0, 1), (10, .putfield 27, 3), (13, .aload_n 0, 1), (14, .iload 4, 2), (16, .iconst 0, 1), (17, .invokevirtual 31, 3), (20, .iconst 0, 1), (21, .istore 5, 2), (23, .iload 5, 2), (25, .aload_n 0, 1), (26, .getfield 27, 3), (29, .if_icmp .ge 66, 3), (32, .iload 5, 2), (34, .bipush 36, 2), (36, .if_icmp .ge 59, 3), (39, .aload_n 0, 1), (40, .aload_n 0, 1), (41, .getfield 15, 3), (44, .iload 5, 2), (46, .iaload, 1), (47, .invokevirtual 35, 3), (50, .iconst 1, 1), (51, .iadd, 1), (52, .istore 6, 2), (54, .iconst 1, 1), (55, .istore 7, 2), (57, .iload 7, 2), (59, .iconst 5, 1), (60, .if_icmp .ge 29, 3), (63, .aload_n 0, 1), (64, .aload_n 1, 1), (65, .lload_n 2, 1), (66, .aload_n 0, 1), (67, .getfield 15, 3), (70, .iload 5, 2), (72, .iaload, 1), (73, .iload 7, 2), (75, .invokevirtual 39, 3), (78, .iload 6, 2), (80, .invokevirtual 31, 3), (83, .iinc 7 1, 3), (86, .goto (-29), 3), (89, .iinc 5 1, 3), (92, .goto (-69), 3), (95, .return_, 1)]
set_option maxRecDepth 100000 in
theorem nhD_128_ok : nh_dtB prog_12_method_2_code nhD_128 = true := by decide +kernel
def nhD_129 : nhDt := [(0, .iload_n 1, 1), (1, .invokestatic 45, 3), (4, .ifCond .eq 49, 3), (7, .aload_n 0, 1), (8, .getfield 9, 3), (11, .iload_n 1, 1), (12, .iaload, 1), (13, .iconst (-1), 1), (14, .if_icmp .ne 39, 3), (17, .aload_n 0, 1), (18, .getfield 27, 3), (21, .bipush 36, 2), (23, .if_icmp .ge 30, 3), (26, .aload_n 0, 1), (27, .getfield 9, 3), (30, .iload_n 1, 1), (31, .iload_n 2, 1), (32, .iastore, 1), (33, .aload_n 0, 1), (34, .getfield 15, 3), (37, .aload_n 0, 1), (38, .getfield 27, 3), (41, .iload_n 1, 1), (42, .iastore, 1), (43, .aload_n 0, 1), (44, .dup, 1), (45, .getfield 27, 3), (48, .iconst 1, 1), (49, .iadd, 1), (50, .putfield 27, 3), (53, .return_, 1)]
set_option maxRecDepth 100000 in
theorem nhD_129_ok : nh_dtB prog_12_method_3_code nhD_129 = true := by decide +kernel
def nhD_130 : nhDt := [(0, .iload_n 1, 1), (1, .invokestatic 45, 3), (4, .ifCond .eq 12, 3), (7, .aload_n 0, 1), (8, .getfield 9, 3), (11, .iload_n 1, 1), (12, .iaload, 1), (13, .goto 4, 3), (16, .iconst (-1), 1), (17, .ireturn, 1)]
set_option maxRecDepth 100000 in
theorem nhD_130_ok : nh_dtB prog_12_method_5_code nhD_130 = true := by decide +kernel
def nhD_131 : nhDt := [(0, .aload_n 0, 1), (1, .getfield 61, 3), (4, .aload_n 0, 1), (5, .getfield 20, 3), (8, .aload_n 0, 1), (9, .getfield 37, 3), (12, .getfield 175, 3), (15, .aload_n 0, 1), (16, .getfield 37, 3), (19, .getfield 162, 3), (22, .invokevirtual 322, 3), (25, .aload_n 0, 1), (26, .getfield 61, 3), (29, .getfield 329, 3), (32, .ireturn, 1)]
set_option maxRecDepth 100000 in
theorem nhD_131_ok : nh_dtB prog_1_method_40_code nhD_131 = true := by decide +kernel
def nhD_132 : nhDt := [(0, .aload_n 0, 1), (1, .getfield 61, 3), (4, .aload_n 0, 1), (5, .getfield 20, 3), (8, .aload_n 0, 1), (9, .getfield 37, 3), (12, .getfield 175, 3), (15, .aload_n 0, 1), (16, .getfield 37, 3), (19, .getfield 162, 3), (22, .invokevirtual 322, 3), (25, .iconst (-1), 1), (26, .istore_n 1, 1), (27, .bipush 36, 2), (29, .istore_n 2, 1), (30, .iconst 0, 1), (31, .istore_n 3, 1), (32, .iload_n 3, 1), (33, .aload_n 0, 1), (34, .getfield 20, 3), (37, .getfield 121, 3), (40, .if_icmp .ge 77, 3), (43, .aload_n 0, 1), (44, .getfield 61, 3), (47, .aload_n 0, 1), (48, .getfield 37, 3), (51, .getfield 134, 3), (54, .iload_n 3, 1), (55, .iaload, 1), (56, .invokevirtual 326, 3), (59, .istore 4, 2), (61, .aload_n 0, 1), (62, .getfield 37, 3), (65, .getfield 134, 3), (68, .iload_n 3, 1), (69, .iaload, 1), (70, .aload_n 0, 1), (71, .getfield 20, 3), (74, .getfield 137, 3), (77, .iload_n 3, 1), (78, .iaload, 1), (79, .if_icmp .eq 7, 3), (82, .iconst 1, 1), (83, .goto 4, 3), (86, .iconst 0, 1), (87, .istore 5, 2), (89, .iload 5, 2), (91, .ifCond .eq 20, 3), (94, .iload 4, 2), (96, .iconst (-1), 1), (97, .if_icmp .eq 14, 3), (100, .iload 4, 2), (102, .iload_n 2, 1), (103, .if_icmp .ge 8, 3), (106, .iload 4, 2), (108, .istore_n 2, 1), (109, .iload_n 3, 1), (110, .istore_n 1, 1), (111, .iinc 3 1, 3), (114, .goto (-82), 3), (117, .iload_n 1, 1), (118, .ireturn, 1)]
set_option maxRecDepth 100000 in
theorem nhD_132_ok : nh_dtB prog_1_method_41_code nhD_132 = true := by decide +kernel
def nhD_133 : nhDt := [(0, .iconst 0, 1), (1, .istore_n 1, 1), (2, .iconst 0, 1), (3, .istore_n 2, 1), (4, .iload_n 2, 1), (5, .aload_n 0, 1), (6, .getfield 20, 3), (9, .getfield 121, 3), (12, .if_icmp .ge 62, 3), (15, .aload_n 0, 1), (16, .getfield 61, 3), (19, .aload_n 0, 1), (20, .getfield 20, 3), (23, .aload_n 0, 1), (24, .getfield 37, 3), (27, .getfield 175, 3), (30, .aload_n 0, 1), (31, .getfield 37, 3), (34, .getfield 134, 3), (37, .iload_n 2, 1), (38, .iaload, 1), (39, .invokevirtual 322, 3), (42, .aload_n 0, 1), (43, .getfield 61, 3), (46, .aload_n 0, 1), (47, .getfield 20, 3), (50, .getfield 137, 3), (53, .iload_n 2, 1), (54, .iaload, 1), (55, .invokevirtual 326, 3), (58, .iconst (-1), 1), (59, .if_icmp .ne 9, 3), (62, .iload_n 1, 1), (63, .iconst 1, 1), (64, .iload_n 2, 1), (65, .ishl, 1), (66, .ior, 1), (67, .istore_n 1, 1), (68, .iinc 2 1, 3), (71, .goto (-67), 3), (74, .iload_n 1, 1), (75, .ireturn, 1)]
set_option maxRecDepth 100000 in
theorem nhD_133_ok : nh_dtB prog_1_method_42_code nhD_133 = true := by decide +kernel
def nhD_134 : nhDt := [(0, .aload_n 0, 1), (1, .iload_n 1, 1), (2, .invokevirtual 130, 3), (5, .ifCond .ne 5, 3), (8, .iconst (-1), 1), (9, .ireturn, 1), (10, .aload_n 0, 1), (11, .getfield 37, 3), (14, .getfield 134, 3), (17, .iload_n 1, 1), (18, .iaload, 1), (19, .istore_n 2, 1), (20, .aload_n 0, 1), (21, .getfield 20, 3), (24, .getfield 137, 3), (27, .iload_n 1, 1), (28, .iaload, 1), (29, .istore_n 3, 1), (30, .iconst 0, 1), (31, .istore 4, 2), (33, .iconst 0, 1), (34, .istore 5, 2), (36, .iload 5, 2), (38, .iconst 5, 1), (39, .if_icmp .ge 55, 3), (42, .aload_n 0, 1), (43, .getfield 20, 3), (46, .aload_n 0, 1), (47, .getfield 20, 3), (50, .aload_n 0, 1), (51, .getfield 37, 3), (54, .getfield 175, 3), (57, .iload_n 2, 1), (58, .iload 5, 2), (60, .invokevirtual 243, 3), (63, .iload_n 3, 1), (64, .invokevirtual 165, 3), (67, .aload_n 0, 1), (68, .getfield 20, 3), (71, .iload_n 2, 1), (72, .iload_n 3, 1), (73, .invokevirtual 165, 3), (76, .if_icmp .ge 12, 3), (79, .iload 4, 2), (81, .iconst 1, 1), (82, .iload 5, 2), (84, .ishl, 1), (85, .ior, 1), (86, .istore 4, 2), (88, .iinc 5 1, 3), (91, .goto (-55), 3), (94, .iload 4, 2), (96, .ireturn, 1)]
set_option maxRecDepth 100000 in
theorem nhD_134_ok : nh_dtB prog_1_method_43_code nhD_134 = true := by decide +kernel
def nhD_135 : nhDt := [(0, .aload_n 0, 1), (1, .iload_n 1, 1), (2, .invokevirtual 130, 3), (5, .ifCond .eq 22, 3), (8, .iload_n 2, 1), (9, .iconst 1, 1), (10, .if_icmp .lt 17, 3), (13, .iload_n 2, 1), (14, .iconst 3, 1), (15, .if_icmp .gt 12, 3), (18, .iload_n 3, 1), (19, .ifCond .lt 8, 3), (22, .iload_n 3, 1), (23, .iconst 1, 1), (24, .if_icmp .le 5, 3), (27, .iconst (-1), 1), (28, .ireturn, 1), (29, .aload_n 0, 1), (30, .getfield 37, 3), (33, .getfield 134, 3), (36, .iload_n 1, 1), (37, .iaload, 1), (38, .istore 4, 2), (40, .iconst (-1), 1), (41, .istore 5, 2), (43, .iconst (-1), 1), (44, .istore 6, 2), (46, .iconst 0, 1), (47, .istore 7, 2), (49, .iload 7, 2), (51, .iconst 5, 1), (52, .if_icmp .ge 76, 3), (55, .aload_n 0, 1), (56, .getfield 20, 3), (59, .aload_n 0, 1), (60, .getfield 37, 3), (63, .getfield 175, 3), (66, .iload 4, 2), (68, .iload 7, 2), (70, .invokevirtual 243, 3), (73, .istore 8, 2), (75, .iload 7, 2), (77, .ifCond .le 14, 3), (80, .iload 8, 2), (82, .iload 4, 2), (84, .if_icmp .ne 7, 3), (87, .iconst (-1), 1), (88, .goto 17, 3), (91, .aload_n 0, 1), (92, .iload 8, 2), (94, .aload_n 0, 1), (95, .getfield 37, 3), (98, .getfield 162, 3), (101, .iload_n 2, 1), (102, .invokevirtual 332, 3), (105, .istore 9, 2), (107, .iload 9, 2), (109, .iload 5, 2), (111, .if_icmp .le 11, 3), (114, .iload 9, 2), (116, .istore 5, 2), (118, .iload 7, 2), (120, .istore 6, 2), (122, .iinc 7 1, 3), (125, .goto (-76), 3), (128, .iload_n 3, 1), (129, .ifCond .ne 8, 3), (132, .iload 5, 2), (134, .goto 5, 3), (137, .iload 6, 2), (139, .ireturn, 1)]
set_option maxRecDepth 100000 in
theorem nhD_135_ok : nh_dtB prog_1_method_44_code nhD_135 = true := by decide +kernel
def nhD_136 : nhDt := [(0, .bipush 36, 2), (2, .istore 4, 2), (4, .iconst 0, 1), (5, .istore 5, 2), (7, .iload 5, 2), (9, .iconst 5, 1), (10, .if_icmp .ge 56, 3), (13, .aload_n 0, 1), (14, .getfield 20, 3), (17, .aload_n 0, 1), (18, .getfield 37, 3), (21, .getfield 175, 3), (24, .iload_n 2, 1), (25, .iload 5, 2), (27, .invokevirtual 243, 3), (30, .istore 6, 2), (32, .iload 5, 2), (34, .ifCond .eq 9, 3), (37, .iload 6, 2), (39, .iload_n 2, 1), (40, .if_icmp .eq 20, 3), (43, .iload 4, 2), (45, .aload_n 0, 1), (46, .iload_n 1, 1), (47, .iload 6, 2), (49, .iload_n 3, 1), (50, .iconst 1, 1), (51, .isub, 1), (52, .invokevirtual 336, 3), (55, .invokestatic 339, 3), (58, .istore 4, 2), (60, .iinc 5 1, 3), (63, .goto (-56), 3), (66, .iload 4, 2), (68, .ireturn, 1)]
set_option maxRecDepth 100000 in
theorem nhD_136_ok : nh_dtB prog_1_method_46_code nhD_136 = true := by decide +kernel
def nhD_137 : nhDt := [(0, .iload_n 3, 1), (1, .iconst 1, 1), (2, .if_icmp .ge 13, 3), (5, .aload_n 0, 1), (6, .getfield 20, 3), (9, .iload_n 1, 1), (10, .iload_n 2, 1), (11, .invokevirtual 165, 3), (14, .ireturn, 1), (15, .iconst (-1), 1), (16, .istore 4, 2), (18, .iconst 0, 1), (19, .istore 5, 2), (21, .iload 5, 2), (23, .iconst 5, 1), (24, .if_icmp .ge 54, 3), (27, .aload_n 0, 1), (28, .getfield 20, 3), (31, .aload_n 0, 1), (32, .getfield 37, 3), (35, .getfield 175, 3), (38, .iload_n 1, 1), (39, .iload 5, 2), (41, .invokevirtual 243, 3), (44, .istore 6, 2), (46, .iload 5, 2), (48, .ifCond .eq 9, 3), (51, .iload 6, 2), (53, .iload_n 1, 1), (54, .if_icmp .eq 18, 3), (57, .iload 4, 2), (59, .aload_n 0, 1), (60, .iload 6, 2), (62, .iload_n 2, 1), (63, .iload_n 3, 1), (64, .invokevirtual 332, 3), (67, .invokestatic 317, 3), (70, .istore 4, 2), (72, .iinc 5 1, 3), (75, .goto (-54), 3), (78, .iload 4, 2), (80, .ireturn, 1)]
set_option maxRecDepth 100000 in
theorem nhD_137_ok : nh_dtB prog_1_method_45_code nhD_137 = true := by decide +kernel
def nhD_138 : nhDt := [(0, .aload_n 0, 1), (1, .getfield 20, 3), (4, .aload_n 0, 1), (5, .getfield 37, 3), (8, .invokestatic 225, 3), (11, .invokestatic 302, 3), (14, .istore_n 2, 1), (15, .iconst (-1), 1), (16, .istore_n 3, 1), (17, .iconst 0, 1), (18, .istore 4, 2), (20, .iload 4, 2), (22, .aload_n 0, 1), (23, .getfield 20, 3), (26, .getfield 121, 3), (29, .if_icmp .ge 60, 3), (32, .iload 4, 2), (34, .iconst 1, 1), (35, .iadd, 1), (36, .istore 5, 2), (38, .iload 5, 2), (40, .aload_n 0, 1), (41, .getfield 20, 3), (44, .getfield 121, 3), (47, .if_icmp .ge 36, 3), (50, .aload_n 0, 1), (51, .iload 4, 2), (53, .iload 5, 2), (55, .invokevirtual 342, 3), (58, .istore 6, 2), (60, .iload 6, 2), (62, .iload_n 2, 1), (63, .if_icmp .le 14, 3), (66, .iload 6, 2), (68, .istore_n 2, 1), (69, .iload 4, 2), (71, .iconst 5, 1), (72, .imul, 1), (73, .iload 5, 2), (75, .iadd, 1), (76, .istore_n 3, 1), (77, .iinc 5 1, 3), (80, .goto (-42), 3), (83, .iinc 4 1, 3), (86, .goto (-66), 3), (89, .iload_n 3, 1), (90, .iload_n 1, 1), (91, .iload_n 2, 1), (92, .invokestatic 345, 3), (95, .ireturn, 1)]
set_option maxRecDepth 100000 in
theorem nhD_138_ok : nh_dtB prog_1_method_47_code nhD_138 = true := by decide +kernel
def nhD_139 : nhDt := [(0, .iconst 0, 1), (1, .istore_n 3, 1), (2, .iconst 0, 1), (3, .istore 4, 2), (5, .iload 4, 2), (7, .aload_n 0, 1), (8, .getfield 20, 3), (11, .getfield 121, 3), (14, .if_icmp .ge 59, 3), (17, .iload 4, 2), (19, .iload_n 1, 1), (20, .if_icmp .ne 7, 3), (23, .iload_n 2, 1), (24, .goto 15, 3), (27, .iload 4, 2), (29, .iload_n 2, 1), (30, .if_icmp .ne 7, 3), (33, .iload_n 1, 1), (34, .goto 5, 3), (37, .iload 4, 2), (39, .istore 5, 2), (41, .aload_n 0, 1), (42, .getfield 37, 3), (45, .getfield 134, 3), (48, .iload 5, 2), (50, .iaload, 1), (51, .aload_n 0, 1), (52, .getfield 20, 3), (55, .getfield 137, 3), (58, .iload 4, 2), (60, .iaload, 1), (61, .if_icmp .ne 6, 3), (64, .iinc 3 1, 3), (67, .iinc 4 1, 3), (70, .goto (-65), 3), (73, .iload_n 3, 1), (74, .ireturn, 1)]
set_option maxRecDepth 100000 in
theorem nhD_139_ok : nh_dtB prog_1_method_48_code nhD_139 = true := by decide +kernel
def nhD_140 : nhDt := [(0, .iload_n 0, 1), (1, .iconst (-1), 1), (2, .if_icmp .ne 5, 3), (5, .iconst (-1), 1), (6, .ireturn, 1), (7, .iload_n 1, 1), (8, .tableswitch 38 0 2 #[28, 32, 36], 28), (36, .iload_n 0, 1), (37, .iconst 5, 1), (38, .idiv, 1), (39, .ireturn, 1), (40, .iload_n 0, 1), (41, .iconst 5, 1), (42, .irem, 1), (43, .ireturn, 1), (44, .iload_n 2, 1), (45, .ireturn, 1), (46, .iconst (-1), 1), (47, .ireturn, 1)]
set_option maxRecDepth 100000 in
theorem nhD_140_ok : nh_dtB prog_1_method_50_code nhD_140 = true := by decide +kernel
def nhD_141 : nhDt := [(0, .bipush 36, 2), (2, .istore_n 2, 1), (3, .iconst (-1), 1), (4, .istore_n 3, 1), (5, .iconst 0, 1), (6, .istore 4, 2), (8, .iload 4, 2), (10, .aload_n 0, 1), (11, .getfield 20, 3), (14, .getfield 121, 3), (17, .if_icmp .ge 79, 3), (20, .iload 4, 2), (22, .iconst 1, 1), (23, .iadd, 1), (24, .istore 5, 2), (26, .iload 5, 2), (28, .aload_n 0, 1), (29, .getfield 20, 3), (32, .getfield 121, 3), (35, .if_icmp .ge 55, 3), (38, .aload_n 0, 1), (39, .getfield 20, 3), (42, .aload_n 0, 1), (43, .getfield 37, 3), (46, .getfield 134, 3), (49, .iload 4, 2), (51, .iaload, 1), (52, .aload_n 0, 1), (53, .getfield 37, 3), (56, .getfield 134, 3), (59, .iload 5, 2), (61, .iaload, 1), (62, .invokevirtual 165, 3), (65, .istore 6, 2), (67, .iload 6, 2), (69, .iload_n 2, 1), (70, .if_icmp .ge 14, 3), (73, .iload 6, 2), (75, .istore_n 2, 1), (76, .iload 4, 2), (78, .iconst 5, 1), (79, .imul, 1), (80, .iload 5, 2), (82, .iadd, 1), (83, .istore_n 3, 1), (84, .iinc 5 1, 3), (87, .goto (-61), 3), (90, .iinc 4 1, 3), (93, .goto (-85), 3), (96, .iload_n 3, 1), (97, .iload_n 1, 1), (98, .iload_n 2, 1), (99, .invokestatic 345, 3), (102, .ireturn, 1)]
set_option maxRecDepth 100000 in
theorem nhD_141_ok : nh_dtB prog_1_method_49_code nhD_141 = true := by decide +kernel
def nhD_142 : nhDt := [(0, .aload_n 0, 1), (1, .getfield 20, 3), (4, .getfield 121, 3), (7, .ifCond .eq 21, 3), (10, .iload_n 1, 1), (11, .ifCond .lt 17, 3), (14, .iload_n 1, 1), (15, .bipush 12, 2), (17, .if_icmp .gt 11, 3), (20, .aload_n 0, 1), (21, .iload_n 2, 1), (22, .invokevirtual 156, 3), (25, .ifCond .ne 5, 3), (28, .iconst (-1), 1), (29, .ireturn, 1), (30, .aload_n 0, 1), (31, .getfield 82, 3), (34, .iload_n 1, 1), (35, .iload_n 2, 1), (36, .iload_n 3, 1), (37, .aload_n 0, 1), (38, .getfield 86, 3), (41, .invokevirtual 348, 3), (44, .ireturn, 1)]
set_option maxRecDepth 100000 in
theorem nhD_142_ok : nh_dtB prog_1_method_51_code nhD_142 = true := by decide +kernel
def nhD_143 : nhDt := [(0, .aload_n 0, 1), (1, .getfield 45, 3), (4, .bipush 30, 2), (6, .if_icmp .lt 5, 3), (9, .iconst (-1), 1), (10, .ireturn, 1), (11, .aload_n 0, 1), (12, .getfield 11, 3), (15, .aload_n 0, 1), (16, .getfield 45, 3), (19, .iload_n 1, 1), (20, .iastore, 1), (21, .aload_n 0, 1), (22, .getfield 15, 3), (25, .aload_n 0, 1), (26, .getfield 45, 3), (29, .iload_n 2, 1), (30, .iastore, 1), (31, .aload_n 0, 1), (32, .getfield 18, 3), (35, .aload_n 0, 1), (36, .getfield 45, 3), (39, .iload_n 3, 1), (40, .bastore, 1), (41, .aload_n 0, 1), (42, .getfield 22, 3), (45, .aload_n 0, 1), (46, .getfield 45, 3), (49, .iload 4, 2), (51, .iastore, 1), (52, .aload_n 0, 1), (53, .getfield 25, 3), (56, .aload_n 0, 1), (57, .getfield 45, 3), (60, .iconst (-1), 1), (61, .iastore, 1), (62, .aload_n 0, 1), (63, .dup, 1), (64, .getfield 45, 3), (67, .iconst 1, 1), (68, .iadd, 1), (69, .putfield 45, 3), (72, .aload_n 0, 1), (73, .getfield 45, 3), (76, .iconst 1, 1), (77, .isub, 1), (78, .ireturn, 1)]
set_option maxRecDepth 100000 in
theorem nhD_143_ok : nh_dtB prog_9_method_3_code nhD_143 = true := by decide +kernel
def nhD_144 : nhDt := [(0, .aload_n 0, 1), (1, .getfield 82, 3), (4, .iload_n 1, 1), (5, .aload_n 0, 1), (6, .getfield 86, 3), (9, .invokevirtual 352, 3), (12, .ireturn, 1)]
set_option maxRecDepth 100000 in
theorem nhD_144_ok : nh_dtB prog_1_method_52_code nhD_144 = true := by decide +kernel
def nhD_145 : nhDt := [(0, .iload_n 1, 1), (1, .ifCond .lt 21, 3), (4, .iload_n 1, 1), (5, .aload_n 0, 1), (6, .getfield 45, 3), (9, .if_icmp .ge 13, 3), (12, .aload_n 0, 1), (13, .getfield 25, 3), (16, .iload_n 1, 1), (17, .iaload, 1), (18, .iconst (-1), 1), (19, .if_icmp .eq 5, 3), (22, .iconst 0, 1), (23, .ireturn, 1), (24, .aload_n 0, 1), (25, .getfield 25, 3), (28, .iload_n 1, 1), (29, .iload_n 2, 1), (30, .iastore, 1), (31, .iconst 1, 1), (32, .ireturn, 1)]
set_option maxRecDepth 100000 in
theorem nhD_145_ok : nh_dtB prog_9_method_4_code nhD_145 = true := by decide +kernel
def nhD_146 : nhDt := [(0, .iload_n 1, 1), (1, .ifCond .lt 22, 3), (4, .iload_n 1, 1), (5, .sipush 1000, 3), (8, .if_icmp .gt 15, 3), (11, .aload_n 0, 1), (12, .getfield 86, 3), (15, .iload_n 1, 1), (16, .iadd, 1), (17, .ldc_w 355, 3), (20, .if_icmp .le 5, 3), (23, .iconst (-1), 1), (24, .ireturn, 1), (25, .aload_n 0, 1), (26, .dup, 1), (27, .getfield 86, 3), (30, .iload_n 1, 1), (31, .iadd, 1), (32, .putfield 86, 3), (35, .aload_n 0, 1), (36, .getfield 86, 3), (39, .ireturn, 1)]
set_option maxRecDepth 100000 in
theorem nhD_146_ok : nh_dtB prog_1_method_53_code nhD_146 = true := by decide +kernel
def nhD_147 : nhDt := [(0, .aload_n 0, 1), (1, .getfield 82, 3), (4, .aload_n 0, 1), (5, .getfield 20, 3), (8, .iload_n 1, 1), (9, .invokevirtual 356, 3), (12, .invokestatic 179, 3), (15, .ireturn, 1)]
set_option maxRecDepth 100000 in
theorem nhD_147_ok : nh_dtB prog_1_method_54_code nhD_147 = true := by decide +kernel
def nhD_148 : nhDt := [(0, .aload_n 1, 1), (1, .getfield 49, 3), (4, .ifCond .ne 5, 3), (7, .lconst 0, 1), (8, .lreturn, 1), (9, .aload_n 0, 1), (10, .aload_n 1, 1), (11, .invokevirtual 69, 3), (14, .lconst 1, 1), (15, .aload_n 1, 1), (16, .getfield 54, 3), (19, .lshl, 1), (20, .lconst 1, 1), (21, .lsub, 1), (22, .aload_n 1, 1), (23, .getfield 72, 3), (26, .ldc2_w 76, 3), (29, .lxor, 1), (30, .land, 1), (31, .lstore_n 3, 1), (32, .iconst 0, 1), (33, .istore 5, 2), (35, .iload 5, 2), (37, .aload_n 0, 1), (38, .getfield 45, 3), (41, .if_icmp .ge 29, 3), (44, .aload_n 0, 1), (45, .iload 5, 2), (47, .iload_n 2, 1), (48, .invokevirtual 78, 3), (51, .ifCond .eq 13, 3), (54, .lload_n 3, 1), (55, .aload_n 0, 1), (56, .aload_n 1, 1), (57, .iload 5, 2), (59, .invokevirtual 82, 3), (62, .land, 1), (63, .lstore_n 3, 1), (64, .iinc 5 1, 3), (67, .goto (-32), 3), (70, .lload_n 3, 1), (71, .lreturn, 1)]
set_option maxRecDepth 100000 in
theorem nhD_148_ok : nh_dtB prog_9_method_8_code nhD_148 = true := by decide +kernel
def nhD_149 : nhDt := [(0, .aload_n 1, 1), (1, .getfield 49, 3), (4, .iconst 1, 1), (5, .isub, 1), (6, .istore_n 2, 1), (7, .aload_n 0, 1), (8, .getfield 41, 3), (11, .ifCond .ne 7, 3), (14, .iload_n 2, 1), (15, .ifCond .ge 4, 3), (18, .return_, 1), (19, .iconst 0, 1), (20, .istore_n 3, 1), (21, .iload_n 3, 1), (22, .aload_n 1, 1), (23, .getfield 54, 3), (26, .if_icmp .ge 84, 3), (29, .aload_n 0, 1), (30, .getfield 37, 3), (33, .aload_n 1, 1), (34, .invokevirtual 57, 3), (37, .aload_n 0, 1), (38, .getfield 37, 3), (41, .getfield 61, 3), (44, .iload_n 2, 1), (45, .iload_n 3, 1), (46, .iastore, 1), (47, .aload_n 0, 1), (48, .getfield 28, 3), (51, .iload_n 3, 1), (52, .bipush 13, 2), (54, .imul, 1), (55, .iload_n 3, 1), (56, .iastore, 1), (57, .iconst 1, 1), (58, .istore 4, 2), (60, .iload 4, 2), (62, .bipush 13, 2), (64, .if_icmp .ge 40, 3), (67, .aload_n 1, 1), (68, .aload_n 0, 1), (69, .getfield 37, 3), (72, .iconst (-1), 1), (73, .iconst 0, 1), (74, .invokestatic 63, 3), (77, .aload_n 0, 1), (78, .getfield 28, 3), (81, .iload_n 3, 1), (82, .bipush 13, 2), (84, .imul, 1), (85, .iload 4, 2), (87, .iadd, 1), (88, .aload_n 0, 1), (89, .getfield 37, 3), (92, .getfield 61, 3), (95, .iload_n 2, 1), (96, .iaload, 1), (97, .iastore, 1), (98, .iinc 4 1, 3), (101, .goto (-41), 3), (104, .iinc 3 1, 3), (107, .goto (-86), 3), (110, .aload_n 0, 1), (111, .iconst 1, 1), (112, .putfield 41, 3), (115, .return_, 1)]
set_option maxRecDepth 100000 in
theorem nhD_149_ok : nh_dtB prog_9_method_6_code nhD_149 = true := by decide +kernel
def nhD_150 : nhDt := [(0, .aload_n 0, 1), (1, .getfield 25, 3), (4, .iload_n 1, 1), (5, .iaload, 1), (6, .iconst (-1), 1), (7, .if_icmp .eq 17, 3), (10, .aload_n 0, 1), (11, .getfield 25, 3), (14, .iload_n 1, 1), (15, .iaload, 1), (16, .iload_n 2, 1), (17, .if_icmp .gt 7, 3), (20, .iconst 1, 1), (21, .goto 4, 3), (24, .iconst 0, 1), (25, .istore_n 3, 1), (26, .aload_n 0, 1), (27, .getfield 22, 3), (30, .iload_n 1, 1), (31, .iaload, 1), (32, .iload_n 2, 1), (33, .if_icmp .gt 11, 3), (36, .iload_n 3, 1), (37, .ifCond .ne 7, 3), (40, .iconst 1, 1), (41, .goto 4, 3), (44, .iconst 0, 1), (45, .ireturn, 1)]
set_option maxRecDepth 100000 in
theorem nhD_150_ok : nh_dtB prog_9_method_5_code nhD_150 = true := by decide +kernel
def nhD_151 : nhDt := [(0, .lconst 0, 1), (1, .lstore_n 3, 1), (2, .iconst 0, 1), (3, .istore 5, 2), (5, .iload 5, 2), (7, .aload_n 1, 1), (8, .getfield 54, 3), (11, .if_icmp .ge 55, 3), (14, .aload_n 0, 1), (15, .iload 5, 2), (17, .aload_n 0, 1), (18, .getfield 11, 3), (21, .iload_n 2, 1), (22, .iaload, 1), (23, .invokevirtual 86, 3), (26, .aload_n 0, 1), (27, .getfield 15, 3), (30, .iload_n 2, 1), (31, .iaload, 1), (32, .if_icmp .ne 7, 3), (35, .iconst 1, 1), (36, .goto 4, 3), (39, .iconst 0, 1), (40, .istore 6, 2), (42, .iload 6, 2), (44, .aload_n 0, 1), (45, .getfield 18, 3), (48, .iload_n 2, 1), (49, .baload, 1), (50, .if_icmp .ne 10, 3), (53, .lload_n 3, 1), (54, .lconst 1, 1), (55, .iload 5, 2), (57, .lshl, 1), (58, .lor, 1), (59, .lstore_n 3, 1), (60, .iinc 5 1, 3), (63, .goto (-58), 3), (66, .lload_n 3, 1), (67, .lreturn, 1)]
set_option maxRecDepth 100000 in
theorem nhD_151_ok : nh_dtB prog_9_method_9_code nhD_151 = true := by decide +kernel
def nhD_152 : nhDt := [(0, .iload_n 1, 1), (1, .bipush 13, 2), (3, .imul, 1), (4, .iload_n 2, 1), (5, .iadd, 1), (6, .istore_n 3, 1), (7, .iload_n 3, 1), (8, .ifCond .lt 21, 3), (11, .iload_n 3, 1), (12, .aload_n 0, 1), (13, .getfield 28, 3), (16, .arraylength, 1), (17, .if_icmp .ge 12, 3), (20, .aload_n 0, 1), (21, .getfield 28, 3), (24, .iload_n 3, 1), (25, .iaload, 1), (26, .goto 4, 3), (29, .iconst 0, 1), (30, .ireturn, 1)]
set_option maxRecDepth 100000 in
theorem nhD_152_ok : nh_dtB prog_9_method_7_code nhD_152 = true := by decide +kernel
def nhD_153 : nhDt := [(0, .aload_n 0, 1), (1, .getfield 82, 3), (4, .aload_n 0, 1), (5, .getfield 20, 3), (8, .iload_n 2, 1), (9, .invokevirtual 356, 3), (12, .lstore_n 3, 1), (13, .lload_n 3, 1), (14, .lconst 0, 1), (15, .lcmp, 1), (16, .ifCond .ne 5, 3), (19, .iconst (-1), 1), (20, .ireturn, 1), (21, .iload_n 1, 1), (22, .lookupswitch 39 #[(0, 26), (1, 31)], 26), (48, .lload_n 3, 1), (49, .invokestatic 360, 3), (52, .ireturn, 1), (53, .bipush 63, 2), (55, .lload_n 3, 1), (56, .invokestatic 363, 3), (59, .isub, 1), (60, .ireturn, 1), (61, .iconst (-1), 1), (62, .ireturn, 1)]
set_option maxRecDepth 100000 in
theorem nhD_153_ok : nh_dtB prog_1_method_55_code nhD_153 = true := by decide +kernel
def nhD_154 : nhDt := [(0, .lload_n 0, 1), (1, .l2i, 1), (2, .istore_n 2, 1), (3, .iload_n 2, 1), (4, .ifCond .ne 17, 3), (7, .bipush 32, 2), (9, .lload_n 0, 1), (10, .bipush 32, 2), (12, .lushr, 1), (13, .l2i, 1), (14, .invokestatic 311, 3), (17, .iadd, 1), (18, .goto 7, 3), (21, .iload_n 2, 1), (22, .invokestatic 311, 3), (25, .ireturn, 1)]
set_option maxRecDepth 100000 in
theorem nhD_154_ok : nh_dtB prog_17_method_49_code nhD_154 = true := by decide +kernel
def nhD_155 : nhDt := [(0, .iload_n 0, 1), (1, .iconst (-1), 1), (2, .ixor, 1), (3, .iload_n 0, 1), (4, .iconst 1, 1), (5, .isub, 1), (6, .iand, 1), (7, .istore_n 0, 1), (8, .iload_n 0, 1), (9, .ifCond .gt 8, 3), (12, .iload_n 0, 1), (13, .bipush 32, 2), (15, .iand, 1), (16, .ireturn, 1), (17, .iconst 1, 1), (18, .istore_n 1, 1), (19, .iload_n 0, 1), (20, .ldc_w 264, 3), (23, .if_icmp .le 11, 3), (26, .iinc 1 16, 3), (29, .iload_n 0, 1), (30, .bipush 16, 2), (32, .iushr, 1), (33, .istore_n 0, 1), (34, .iload_n 0, 1), (35, .sipush 256, 3), (38, .if_icmp .le 11, 3), (41, .iinc 1 8, 3), (44, .iload_n 0, 1), (45, .bipush 8, 2), (47, .iushr, 1), (48, .istore_n 0, 1), (49, .iload_n 0, 1), (50, .bipush 16, 2), (52, .if_icmp .le 10, 3), (55, .iinc 1 4, 3), (58, .iload_n 0, 1), (59, .iconst 4, 1), (60, .iushr, 1), (61, .istore_n 0, 1), (62, .iload_n 0, 1), (63, .iconst 4, 1), (64, .if_icmp .le 10, 3), (67, .iinc 1 2, 3), (70, .iload_n 0, 1), (71, .iconst 2, 1), (72, .iushr, 1), (73, .istore_n 0, 1), (74, .iload_n 1, 1), (75, .iload_n 0, 1), (76, .iconst 1, 1), (77, .iushr, 1), (78, .iadd, 1), (79, .ireturn, 1)]
set_option maxRecDepth 100000 in
theorem nhD_155_ok : nh_dtB prog_16_method_48_code nhD_155 = true := by decide +kernel
def nhD_156 : nhDt := [(0, .lload_n 0, 1), (1, .bipush 32, 2), (3, .lushr, 1), (4, .l2i, 1), (5, .istore_n 2, 1), (6, .iload_n 2, 1), (7, .ifCond .ne 14, 3), (10, .bipush 32, 2), (12, .lload_n 0, 1), (13, .l2i, 1), (14, .invokestatic 308, 3), (17, .iadd, 1), (18, .goto 7, 3), (21, .iload_n 2, 1), (22, .invokestatic 308, 3), (25, .ireturn, 1)]
set_option maxRecDepth 100000 in
theorem nhD_156_ok : nh_dtB prog_17_method_48_code nhD_156 = true := by decide +kernel
def nhD_157 : nhDt := [(0, .iload_n 0, 1), (1, .ifCond .gt 14, 3), (4, .iload_n 0, 1), (5, .ifCond .ne 8, 3), (8, .bipush 32, 2), (10, .goto 4, 3), (13, .iconst 0, 1), (14, .ireturn, 1), (15, .bipush 31, 2), (17, .istore_n 1, 1), (18, .iload_n 0, 1), (19, .ldc_w 264, 3), (22, .if_icmp .lt 11, 3), (25, .iinc 1 (-16), 3), (28, .iload_n 0, 1), (29, .bipush 16, 2), (31, .iushr, 1), (32, .istore_n 0, 1), (33, .iload_n 0, 1), (34, .sipush 256, 3), (37, .if_icmp .lt 11, 3), (40, .iinc 1 (-8), 3), (43, .iload_n 0, 1), (44, .bipush 8, 2), (46, .iushr, 1), (47, .istore_n 0, 1), (48, .iload_n 0, 1), (49, .bipush 16, 2), (51, .if_icmp .lt 10, 3), (54, .iinc 1 (-4), 3), (57, .iload_n 0, 1), (58, .iconst 4, 1), (59, .iushr, 1), (60, .istore_n 0, 1), (61, .iload_n 0, 1), (62, .iconst 4, 1), (63, .if_icmp .lt 10, 3), (66, .iinc 1 (-2), 3), (69, .iload_n 0, 1), (70, .iconst 2, 1), (71, .iushr, 1), (72, .istore_n 0, 1), (73, .iload_n 1, 1), (74, .iload_n 0, 1), (75, .iconst 1, 1), (76, .iushr, 1), (77, .isub, 1), (78, .ireturn, 1)]
set_option maxRecDepth 100000 in
theorem nhD_157_ok : nh_dtB prog_16_method_47_code nhD_157 = true := by decide +kernel
def nhD_158 : nhDt := [(0, .aload_n 0, 1), (1, .getfield 82, 3), (4, .aload_n 0, 1), (5, .getfield 20, 3), (8, .iload_n 2, 1), (9, .invokevirtual 356, 3), (12, .lstore_n 3, 1), (13, .lload_n 3, 1), (14, .lconst 0, 1), (15, .lcmp, 1), (16, .ifCond .eq 12, 3), (19, .iload_n 1, 1), (20, .ifCond .lt 8, 3), (23, .iload_n 1, 1), (24, .iconst 1, 1), (25, .if_icmp .le 5, 3), (28, .iconst (-1), 1), (29, .ireturn, 1), (30, .iconst (-1), 1), (31, .istore 5, 2), (33, .bipush 37, 2), (35, .istore 6, 2), (37, .iconst 0, 1), (38, .istore 7, 2), (40, .iload 7, 2), (42, .bipush 12, 2), (44, .if_icmp .gt 40, 3), (47, .aload_n 0, 1), (48, .getfield 82, 3), (51, .aload_n 0, 1), (52, .getfield 20, 3), (55, .lload_n 3, 1), (56, .iload 7, 2), (58, .invokevirtual 366, 3), (61, .istore 8, 2), (63, .iload 8, 2), (65, .iload 6, 2), (67, .if_icmp .ge 11, 3), (70, .iload 8, 2), (72, .istore 6, 2), (74, .iload 7, 2), (76, .istore 5, 2), (78, .iinc 7 1, 3), (81, .goto (-41), 3), (84, .iload_n 1, 1), (85, .ifCond .ne 8, 3), (88, .iload 5, 2), (90, .goto 5, 3), (93, .iload 6, 2), (95, .ireturn, 1)]
set_option maxRecDepth 100000 in
theorem nhD_158_ok : nh_dtB prog_1_method_56_code nhD_158 = true := by decide +kernel
def nhD_159 : nhDt := [(0, .aload_n 0, 1), (1, .getfield 31, 3), (4, .iconst 0, 1), (5, .invokestatic 90, 3), (8, .iconst 0, 1), (9, .istore 5, 2), (11, .iconst 0, 1), (12, .istore 6, 2), (14, .iload 6, 2), (16, .aload_n 1, 1), (17, .getfield 54, 3), (20, .if_icmp .ge 67, 3), (23, .aload_n 0, 1), (24, .iload 6, 2), (26, .iload 4, 2), (28, .invokevirtual 86, 3), (31, .istore 7, 2), (33, .lload_n 2, 1), (34, .iload 6, 2), (36, .lushr, 1), (37, .lconst 1, 1), (38, .land, 1), (39, .lconst 0, 1), (40, .lcmp, 1), (41, .ifCond .eq 40, 3), (44, .iload 7, 2), (46, .ifCond .lt 35, 3), (49, .iload 7, 2), (51, .bipush 36, 2), (53, .if_icmp .ge 28, 3), (56, .aload_n 0, 1), (57, .getfield 31, 3), (60, .iload 7, 2), (62, .dup2, 1), (63, .iaload, 1), (64, .iconst 1, 1), (65, .iadd, 1), (66, .iastore, 1), (67, .iload 5, 2), (69, .aload_n 0, 1), (70, .getfield 31, 3), (73, .iload 7, 2), (75, .iaload, 1), (76, .invokestatic 96, 3), (79, .istore 5, 2), (81, .iinc 6 1, 3), (84, .goto (-70), 3), (87, .iload 5, 2), (89, .ireturn, 1)]
set_option maxRecDepth 100000 in
theorem nhD_159_ok : nh_dtB prog_9_method_10_code nhD_159 = true := by decide +kernel
def nhDc_3 : List nhDt := [nhD_120, nhD_121, nhD_122, nhD_123, nhD_124, nhD_125, nhD_126, nhD_127, nhD_128, nhD_129, nhD_130, nhD_131, nhD_132, nhD_133, nhD_134, nhD_135, nhD_136, nhD_137, nhD_138, nhD_139, nhD_140, nhD_141, nhD_142, nhD_143, nhD_144, nhD_145, nhD_146, nhD_147, nhD_148, nhD_149, nhD_150, nhD_151, nhD_152, nhD_153, nhD_154, nhD_155, nhD_156, nhD_157, nhD_158, nhD_159]
set_option maxRecDepth 100000 in
theorem nhDz_3 : nhZ nhMt_3 nhDc_3 := ⟨nhD_120_ok, nhD_121_ok, nhD_122_ok, nhD_123_ok, nhD_124_ok, nhD_125_ok, nhD_126_ok, nhD_127_ok, nhD_128_ok, nhD_129_ok, nhD_130_ok, nhD_131_ok, nhD_132_ok, nhD_133_ok, nhD_134_ok, nhD_135_ok, nhD_136_ok, nhD_137_ok, nhD_138_ok, nhD_139_ok, nhD_140_ok, nhD_141_ok, nhD_142_ok, nhD_143_ok, nhD_144_ok, nhD_145_ok, nhD_146_ok, nhD_147_ok, nhD_148_ok, nhD_149_ok, nhD_150_ok, nhD_151_ok, nhD_152_ok, nhD_153_ok, nhD_154_ok, nhD_155_ok, nhD_156_ok, nhD_157_ok, nhD_158_ok, nhD_159_ok, trivial⟩
def nhD_160 : nhDt := [(0, .aload_n 0, 1), (1, .getfield 20, 3), (4, .aload_n 0, 1), (5, .getfield 238, 3), (8, .bipush 6, 2), (10, .iastore, 1), (11, .aload_n 0, 1), (12, .getfield 24, 3), (15, .aload_n 0, 1), (16, .getfield 238, 3), (19, .bipush 6, 2), (21, .iastore, 1), (22, .aload_n 0, 1), (23, .getfield 27, 3), (26, .aload_n 0, 1), (27, .getfield 238, 3), (30, .iconst 0, 1), (31, .iastore, 1), (32, .aload_n 0, 1), (33, .getfield 30, 3), (36, .aload_n 0, 1), (37, .getfield 238, 3), (40, .iconst 0, 1), (41, .iastore, 1), (42, .aload_n 0, 1), (43, .getfield 33, 3), (46, .aload_n 0, 1), (47, .getfield 238, 3), (50, .iconst 0, 1), (51, .iastore, 1), (52, .aload_n 0, 1), (53, .getfield 36, 3), (56, .aload_n 0, 1), (57, .getfield 238, 3), (60, .iconst 0, 1), (61, .iastore, 1), (62, .aload_n 0, 1), (63, .getfield 39, 3), (66, .aload_n 0, 1), (67, .getfield 238, 3), (70, .iconst 0, 1), (71, .iastore, 1), (72, .aload_n 0, 1), (73, .getfield 42, 3), (76, .aload_n 0, 1), (77, .getfield 238, 3), (80, .iconst 2, 1), (81, .iastore, 1), (82, .aload_n 0, 1), (83, .getfield 45, 3), (86, .aload_n 0, 1), (87, .getfield 238, 3), (90, .iconst 0, 1), (91, .iastore, 1), (92, .aload_n 0, 1), (93, .getfield 48, 3), (96, .aload_n 0, 1), (97, .getfield 238, 3), (100, .iconst 0, 1), (101, .iastore, 1), (102, .aload_n 0, 1), (103, .getfield 51, 3), (106, .aload_n 0, 1), (107, .getfield 238, 3), (110, .iconst 0, 1), (111, .iastore, 1), (112, .aload_n 0, 1), (113, .sipush 560, 3), (116, .aload_n 0, 1), (117, .getfield 238, 3), (120, .imul, 1), (121, .putfield 241, 3), (124, .return_, 1)]
set_option maxRecDepth 100000 in
theorem nhD_160_ok : nh_dtB prog_14_method_15_code nhD_160 = true := by decide +kernel
def nhD_161 : nhDt := [(0, .aload_n 0, 1), (1, .invokevirtual 350, 3), (4, .aload_n 0, 1), (5, .iconst 0, 1), (6, .putfield 353, 3), (9, .aload_n 0, 1), (10, .iconst 0, 1), (11, .putfield 356, 3), (14, .aload_n 0, 1), (15, .iconst 0, 1), (16, .putfield 359, 3), (19, .aload_n 0, 1), (20, .iconst 0, 1), (21, .putfield 362, 3), (24, .iconst 0, 1), (25, .istore_n 1, 1), (26, .iload_n 1, 1), (27, .iconst 3, 1), (28, .if_icmp .ge 16, 3), (31, .aload_n 0, 1), (32, .getfield 137, 3), (35, .iload_n 1, 1), (36, .iconst 0, 1), (37, .bastore, 1), (38, .iinc 1 1, 3), (41, .goto (-15), 3), (44, .return_, 1)]
set_option maxRecDepth 100000 in
theorem nhD_161_ok : nh_dtB prog_14_method_50_code nhD_161 = true := by decide +kernel
def nhD_162 : nhDt := [(0, .iconst 0, 1), (1, .istore_n 1, 1), (2, .iload_n 1, 1), (3, .bipush 55, 2), (5, .if_icmp .ge 16, 3), (8, .aload_n 0, 1), (9, .getfield 85, 3), (12, .iload_n 1, 1), (13, .iconst 0, 1), (14, .iastore, 1), (15, .iinc 1 1, 3), (18, .goto (-16), 3), (21, .iconst 0, 1), (22, .istore_n 1, 1), (23, .iload_n 1, 1), (24, .aload_n 0, 1), (25, .invokevirtual 340, 3), (28, .if_icmp .ge 46, 3), (31, .aload_n 0, 1), (32, .getfield 85, 3), (35, .iconst 0, 1), (36, .iload_n 1, 1), (37, .iadd, 1), (38, .aload_n 0, 1), (39, .getfield 88, 3), (42, .ifCond .lt 20, 3), (45, .iload_n 1, 1), (46, .aload_n 0, 1), (47, .invokevirtual 340, 3), (50, .iconst 1, 1), (51, .isub, 1), (52, .if_icmp .ne 10, 3), (55, .aload_n 0, 1), (56, .getfield 88, 3), (59, .goto 8, 3), (62, .aload_n 0, 1), (63, .iload_n 1, 1), (64, .invokevirtual 365, 3), (67, .iastore, 1), (68, .iinc 1 1, 3), (71, .goto (-48), 3), (74, .iconst 0, 1), (75, .istore_n 1, 1), (76, .iload_n 1, 1), (77, .aload_n 0, 1), (78, .getfield 30, 3), (81, .aload_n 0, 1), (82, .getfield 247, 3), (85, .iaload, 1), (86, .if_icmp .ge 32, 3), (89, .aload_n 0, 1), (90, .getfield 85, 3), (93, .bipush 19, 2), (95, .aload_n 0, 1), (96, .getfield 54, 3), (99, .bipush 8, 2), (101, .aload_n 0, 1), (102, .getfield 247, 3), (105, .imul, 1), (106, .iload_n 1, 1), (107, .iadd, 1), (108, .iaload, 1), (109, .iadd, 1), (110, .iconst 1, 1), (111, .iastore, 1), (112, .iinc 1 1, 3), (115, .goto (-39), 3), (118, .aload_n 0, 1), (119, .getfield 85, 3), (122, .bipush 15, 2), (124, .aload_n 0, 1), (125, .getfield 36, 3), (128, .aload_n 0, 1), (129, .getfield 247, 3), (132, .iaload, 1), (133, .iastore, 1), (134, .aload_n 0, 1), (135, .getfield 85, 3), (138, .bipush 18, 2), (140, .aload_n 0, 1), (141, .getfield 48, 3), (144, .aload_n 0, 1), (145, .getfield 247, 3), (148, .iaload, 1), (149, .iastore, 1), (150, .return_, 1)]
set_option maxRecDepth 100000 in
theorem nhD_162_ok : nh_dtB prog_14_method_51_code nhD_162 = true := by decide +kernel
def nhD_163 : nhDt := [(0, .aload_n 0, 1), (1, .getfield 33, 3), (4, .aload_n 0, 1), (5, .getfield 247, 3), (8, .iaload, 1), (9, .ireturn, 1)]
set_option maxRecDepth 100000 in
theorem nhD_163_ok : nh_dtB prog_14_method_44_code nhD_163 = true := by decide +kernel
def nhD_164 : nhDt := [(0, .aload_n 0, 1), (1, .getfield 57, 3), (4, .iconst 5, 1), (5, .aload_n 0, 1), (6, .getfield 247, 3), (9, .imul, 1), (10, .iload_n 1, 1), (11, .iadd, 1), (12, .iaload, 1), (13, .ireturn, 1)]
set_option maxRecDepth 100000 in
theorem nhD_164_ok : nh_dtB prog_14_method_48_code nhD_164 = true := by decide +kernel
def nhD_165 : nhDt := [(0, .aload_n 0, 1), (1, .iconst 0, 1), (2, .putfield 149, 3), (5, .aload_n 0, 1), (6, .iconst (-1), 1), (7, .putfield 16, 3), (10, .aload_n 0, 1), (11, .aload_n 0, 1), (12, .getfield 244, 3), (15, .putfield 146, 3), (18, .iconst 0, 1), (19, .istore_n 1, 1), (20, .iload_n 1, 1), (21, .aload_n 0, 1), (22, .getfield 146, 3), (25, .if_icmp .ge 21, 3), (28, .aload_n 0, 1), (29, .getfield 13, 3), (32, .iload_n 1, 1), (33, .aload_n 0, 1), (34, .getfield 7, 3), (37, .iload_n 1, 1), (38, .baload, 1), (39, .bastore, 1), (40, .iinc 1 1, 3), (43, .goto (-23), 3), (46, .aload_n 0, 1), (47, .iconst 0, 1), (48, .putfield 244, 3), (51, .aload_n 0, 1), (52, .iconst 0, 1), (53, .putfield 190, 3), (56, .aload_n 0, 1), (57, .iconst 1, 1), (58, .aload_n 0, 1), (59, .getfield 247, 3), (62, .isub, 1), (63, .putfield 238, 3), (66, .aload_n 0, 1), (67, .invokevirtual 140, 3), (70, .aload_n 0, 1), (71, .invokevirtual 232, 3), (74, .aload_n 0, 1), (75, .invokevirtual 228, 3), (78, .ifCond .eq 17, 3), (81, .aload_n 0, 1), (82, .getfield 200, 3), (85, .ifCond .eq 10, 3), (88, .aload_n 0, 1), (89, .invokevirtual 250, 3), (92, .goto (-18), 3), (95, .aload_n 0, 1), (96, .invokevirtual 228, 3), (99, .ifCond .ne 5, 3), (102, .iconst (-1), 1), (103, .ireturn, 1), (104, .aload_n 0, 1), (105, .getfield 51, 3), (108, .aload_n 0, 1), (109, .getfield 238, 3), (112, .iaload, 1), (113, .iconst 1, 1), (114, .invokestatic 253, 3), (117, .ifCond .ne 16, 3), (120, .aload_n 0, 1), (121, .getfield 36, 3), (124, .aload_n 0, 1), (125, .getfield 238, 3), (128, .aload_n 0, 1), (129, .invokevirtual 257, 3), (132, .iastore, 1), (133, .aload_n 0, 1), (134, .aload_n 0, 1), (135, .getfield 238, 3), (138, .putfield 247, 3), (141, .aload_n 0, 1), (142, .invokevirtual 143, 3), (145, .aload_n 0, 1), (146, .getfield 33, 3), (149, .aload_n 0, 1), (150, .getfield 247, 3), (153, .iaload, 1), (154, .ireturn, 1)]
set_option maxRecDepth 100000 in
theorem nhD_165_ok : nh_dtB prog_14_method_16_code nhD_165 = true := by decide +kernel
def nhD_166 : nhDt := [(0, .aload_n 0, 1), (1, .aload_n 0, 1), (2, .getfield 190, 3), (5, .putfield 193, 3), (8, .aload_n 0, 1), (9, .getfield 193, 3), (12, .aload_n 0, 1), (13, .getfield 146, 3), (16, .if_icmp .ge 42, 3), (19, .aload_n 0, 1), (20, .aload_n 0, 1), (21, .getfield 193, 3), (24, .invokevirtual 196, 3), (27, .bipush 32, 2), (29, .if_icmp .eq 16, 3), (32, .aload_n 0, 1), (33, .aload_n 0, 1), (34, .getfield 193, 3), (37, .invokevirtual 196, 3), (40, .bipush 10, 2), (42, .if_icmp .ne 16, 3), (45, .aload_n 0, 1), (46, .dup, 1), (47, .getfield 193, 3), (50, .iconst 1, 1), (51, .iadd, 1), (52, .putfield 193, 3), (55, .goto (-47), 3), (58, .aload_n 0, 1), (59, .aload_n 0, 1), (60, .getfield 193, 3), (63, .invokevirtual 196, 3), (66, .istore_n 1, 1), (67, .aload_n 0, 1), (68, .aload_n 0, 1), (69, .getfield 193, 3), (72, .iconst 1, 1), (73, .iadd, 1), (74, .putfield 190, 3), (77, .aload_n 0, 1), (78, .getfield 193, 3), (81, .aload_n 0, 1), (82, .getfield 146, 3), (85, .if_icmp .lt 27, 3), (88, .aload_n 0, 1), (89, .iconst 0, 1), (90, .putfield 200, 3), (93, .aload_n 0, 1), (94, .aload_n 0, 1), (95, .getfield 146, 3), (98, .putfield 193, 3), (101, .aload_n 0, 1), (102, .aload_n 0, 1), (103, .getfield 146, 3), (106, .putfield 190, 3), (109, .goto 268, 3), (112, .iload_n 1, 1), (113, .invokestatic 203, 3), (116, .ifCond .eq 123, 3), (119, .aload_n 0, 1), (120, .aload_n 0, 1), (121, .getfield 190, 3), (124, .invokevirtual 196, 3), (127, .invokestatic 203, 3), (130, .ifCond .eq 16, 3), (133, .aload_n 0, 1), (134, .dup, 1), (135, .getfield 190, 3), (138, .iconst 1, 1), (139, .iadd, 1), (140, .putfield 190, 3), (143, .goto (-24), 3), (146, .aload_n 0, 1), (147, .lconst 0, 1), (148, .putfield 207, 3), (151, .aload_n 0, 1), (152, .getfield 193, 3), (155, .istore_n 2, 1), (156, .iload_n 2, 1), (157, .aload_n 0, 1), (158, .getfield 190, 3), (161, .if_icmp .ge 38, 3), (164, .iload_n 2, 1), (165, .aload_n 0, 1), (166, .getfield 193, 3), (169, .bipush 8, 2), (171, .iadd, 1), (172, .if_icmp .ge 27, 3), (175, .aload_n 0, 1), (176, .aload_n 0, 1), (177, .getfield 207, 3), (180, .bipush 8, 2), (182, .lshl, 1), (183, .aload_n 0, 1), (184, .iload_n 2, 1), (185, .invokevirtual 196, 3), (188, .i2l, 1), (189, .lor, 1), (190, .putfield 207, 3), (193, .iinc 2 1, 3), (196, .goto (-40), 3), (199, .aload_n 0, 1), (200, .aload_n 0, 1), (201, .getfield 190, 3), (204, .aload_n 0, 1), (205, .getfield 193, 3), (208, .isub, 1), (209, .bipush 8, 2), (211, .if_icmp .le 7, 3), (214, .iconst 1, 1), (215, .goto 18, 3), (218, .aload_n 0, 1), (219, .getfield 207, 3), (222, .invokestatic 211, 3), (225, .ifCond .eq 7, 3), (228, .iconst 3, 1), (229, .goto 4, 3), (232, .iconst 2, 1), (233, .putfield 200, 3), (236, .goto 141, 3), (239, .iload_n 1, 1), (240, .invokestatic 215, 3), (243, .ifCond .eq 118, 3), (246, .aload_n 0, 1), (247, .iconst 0, 1), (248, .putfield 218, 3), (251, .aload_n 0, 1), (252, .aload_n 0, 1), (253, .getfield 193, 3), (256, .putfield 190, 3), (259, .aload_n 0, 1), (260, .aload_n 0, 1), (261, .getfield 190, 3), (264, .invokevirtual 196, 3), (267, .invokestatic 215, 3), (270, .ifCond .eq 52, 3), (273, .aload_n 0, 1), (274, .getfield 190, 3), (277, .aload_n 0, 1), (278, .getfield 193, 3), (281, .isub, 1), (282, .iconst 4, 1), (283, .if_icmp .ge 26, 3), (286, .aload_n 0, 1), (287, .bipush 10, 2), (289, .aload_n 0, 1), (290, .getfield 218, 3), (293, .imul, 1), (294, .aload_n 0, 1), (295, .aload_n 0, 1), (296, .getfield 190, 3), (299, .invokevirtual 196, 3), (302, .iadd, 1), (303, .bipush 48, 2), (305, .isub, 1), (306, .putfield 218, 3), (309, .aload_n 0, 1), (310, .dup, 1), (311, .getfield 190, 3), (314, .iconst 1, 1), (315, .iadd, 1), (316, .putfield 190, 3), (319, .goto (-60), 3), (322, .aload_n 0, 1), (323, .aload_n 0, 1), (324, .getfield 190, 3), (327, .aload_n 0, 1), (328, .getfield 193, 3), (331, .isub, 1), (332, .iconst 4, 1), (333, .if_icmp .gt 17, 3), (336, .aload_n 0, 1), (337, .aload_n 0, 1), (338, .getfield 190, 3), (341, .invokevirtual 196, 3), (344, .invokestatic 203, 3), (347, .ifCond .eq 7, 3), (350, .iconst 1, 1), (351, .goto 4, 3), (354, .iconst 4, 1), (355, .putfield 200, 3), (358, .goto 19, 3), (361, .aload_n 0, 1), (362, .iload_n 1, 1), (363, .invokestatic 221, 3), (366, .ifCond .eq 7, 3), (369, .iconst 5, 1), (370, .goto 4, 3), (373, .iconst 1, 1), (374, .putfield 200, 3), (377, .return_, 1)]
set_option maxRecDepth 100000 in
theorem nhD_166_ok : nh_dtB prog_14_method_9_code nhD_166 = true := by decide +kernel
def nhD_167 : nhDt := [(0, .iload_n 1, 1), (1, .aload_n 0, 1), (2, .getfield 146, 3), (5, .if_icmp .ge 16, 3), (8, .aload_n 0, 1), (9, .getfield 13, 3), (12, .iload_n 1, 1), (13, .baload, 1), (14, .sipush 255, 3), (17, .iand, 1), (18, .goto 4, 3), (21, .iconst 0, 1), (22, .ireturn, 1)]
set_option maxRecDepth 100000 in
theorem nhD_167_ok : nh_dtB prog_14_method_2_code nhD_167 = true := by decide +kernel
def nhD_168 : nhDt := [(0, .iload_n 0, 1), (1, .bipush 97, 2), (3, .if_icmp .lt 13, 3), (6, .iload_n 0, 1), (7, .bipush 122, 2), (9, .if_icmp .gt 7, 3), (12, .iconst 1, 1), (13, .goto 4, 3), (16, .iconst 0, 1), (17, .ireturn, 1)]
set_option maxRecDepth 100000 in
theorem nhD_168_ok : nh_dtB prog_14_method_3_code nhD_168 = true := by decide +kernel
def nhD_169 : nhDt := [(0, .lload_n 0, 1), (1, .ldc2_w 152, 3), (4, .lcmp, 1), (5, .ifCond .eq 75, 3), (8, .lload_n 0, 1), (9, .ldc2_w 154, 3), (12, .lcmp, 1), (13, .ifCond .eq 67, 3), (16, .lload_n 0, 1), (17, .ldc2_w 156, 3), (20, .lcmp, 1), (21, .ifCond .eq 59, 3), (24, .lload_n 0, 1), (25, .ldc2_w 158, 3), (28, .lcmp, 1), (29, .ifCond .eq 51, 3), (32, .lload_n 0, 1), (33, .ldc2_w 160, 3), (36, .lcmp, 1), (37, .ifCond .eq 43, 3), (40, .lload_n 0, 1), (41, .ldc2_w 162, 3), (44, .lcmp, 1), (45, .ifCond .eq 35, 3), (48, .lload_n 0, 1), (49, .ldc2_w 164, 3), (52, .lcmp, 1), (53, .ifCond .eq 27, 3), (56, .lload_n 0, 1), (57, .ldc2_w 166, 3), (60, .lcmp, 1), (61, .ifCond .eq 19, 3), (64, .lload_n 0, 1), (65, .ldc2_w 168, 3), (68, .lcmp, 1), (69, .ifCond .eq 11, 3), (72, .lload_n 0, 1), (73, .ldc2_w 170, 3), (76, .lcmp, 1), (77, .ifCond .ne 7, 3), (80, .iconst 1, 1), (81, .goto 4, 3), (84, .iconst 0, 1), (85, .istore_n 2, 1), (86, .iload_n 2, 1), (87, .ifCond .ne 75, 3), (90, .lload_n 0, 1), (91, .ldc2_w 172, 3), (94, .lcmp, 1), (95, .ifCond .eq 67, 3), (98, .lload_n 0, 1), (99, .ldc2_w 174, 3), (102, .lcmp, 1), (103, .ifCond .eq 59, 3), (106, .lload_n 0, 1), (107, .ldc2_w 176, 3), (110, .lcmp, 1), (111, .ifCond .eq 51, 3), (114, .lload_n 0, 1), (115, .ldc2_w 178, 3), (118, .lcmp, 1), (119, .ifCond .eq 43, 3), (122, .lload_n 0, 1), (123, .ldc2_w 180, 3), (126, .lcmp, 1), (127, .ifCond .eq 35, 3), (130, .lload_n 0, 1), (131, .ldc2_w 182, 3), (134, .lcmp, 1), (135, .ifCond .eq 27, 3), (138, .lload_n 0, 1), (139, .ldc2_w 184, 3), (142, .lcmp, 1), (143, .ifCond .eq 19, 3), (146, .lload_n 0, 1), (147, .ldc2_w 186, 3), (150, .lcmp, 1), (151, .ifCond .eq 11, 3), (154, .lload_n 0, 1), (155, .ldc2_w 188, 3), (158, .lcmp, 1), (159, .ifCond .ne 7, 3), (162, .iconst 1, 1), (163, .goto 4, 3), (166, .iconst 0, 1), (167, .ireturn, 1)]
set_option maxRecDepth 100000 in
theorem nhD_169_ok : nh_dtB prog_14_method_7_code nhD_169 = true := by decide +kernel
def nhD_170 : nhDt := [(0, .iload_n 0, 1), (1, .bipush 48, 2), (3, .if_icmp .lt 13, 3), (6, .iload_n 0, 1), (7, .bipush 57, 2), (9, .if_icmp .gt 7, 3), (12, .iconst 1, 1), (13, .goto 4, 3), (16, .iconst 0, 1), (17, .ireturn, 1)]
set_option maxRecDepth 100000 in
theorem nhD_170_ok : nh_dtB prog_14_method_4_code nhD_170 = true := by decide +kernel
def nhD_171 : nhDt := [(0, .iload_n 0, 1), (1, .bipush 59, 2), (3, .if_icmp .eq 63, 3), (6, .iload_n 0, 1), (7, .bipush 40, 2), (9, .if_icmp .eq 57, 3), (12, .iload_n 0, 1), (13, .bipush 41, 2), (15, .if_icmp .eq 51, 3), (18, .iload_n 0, 1), (19, .bipush 60, 2), (21, .if_icmp .eq 45, 3), (24, .iload_n 0, 1), (25, .bipush 62, 2), (27, .if_icmp .eq 39, 3), (30, .iload_n 0, 1), (31, .bipush 61, 2), (33, .if_icmp .eq 33, 3), (36, .iload_n 0, 1), (37, .bipush 43, 2), (39, .if_icmp .eq 27, 3), (42, .iload_n 0, 1), (43, .bipush 45, 2), (45, .if_icmp .eq 21, 3), (48, .iload_n 0, 1), (49, .bipush 42, 2), (51, .if_icmp .eq 15, 3), (54, .iload_n 0, 1), (55, .bipush 47, 2), (57, .if_icmp .eq 9, 3), (60, .iload_n 0, 1), (61, .bipush 37, 2), (63, .if_icmp .ne 7, 3), (66, .iconst 1, 1), (67, .goto 4, 3), (70, .iconst 0, 1), (71, .ireturn, 1)]
set_option maxRecDepth 100000 in
theorem nhD_171_ok : nh_dtB prog_14_method_8_code nhD_171 = true := by decide +kernel
def nhD_172 : nhDt := [(0, .aload_n 0, 1), (1, .getfield 149, 3), (4, .ifCond .ne 7, 3), (7, .iconst 1, 1), (8, .goto 4, 3), (11, .iconst 0, 1), (12, .ireturn, 1)]
set_option maxRecDepth 100000 in
theorem nhD_172_ok : nh_dtB prog_14_method_6_code nhD_172 = true := by decide +kernel
def nhD_173 : nhDt := [(0, .aload_n 0, 1), (1, .getfield 207, 3), (4, .lstore_n 1, 1), (5, .aload_n 0, 1), (6, .getfield 200, 3), (9, .iconst 3, 1), (10, .if_icmp .ne 10, 3), (13, .aload_n 0, 1), (14, .invokevirtual 271, 3), (17, .ifCond .eq 7, 3), (20, .aload_n 0, 1), (21, .invokevirtual 235, 3), (24, .aload_n 0, 1), (25, .invokevirtual 228, 3), (28, .ifCond .ne 4, 3), (31, .return_, 1), (32, .aload_n 0, 1), (33, .getfield 27, 3), (36, .aload_n 0, 1), (37, .getfield 238, 3), (40, .dup2, 1), (41, .iaload, 1), (42, .iconst 1, 1), (43, .iadd, 1), (44, .iastore, 1), (45, .aload_n 0, 1), (46, .invokevirtual 232, 3), (49, .lload_n 1, 1), (50, .ldc2_w 152, 3), (53, .lcmp, 1), (54, .ifCond .ne 46, 3), (57, .aload_n 0, 1), (58, .getfield 20, 3), (61, .aload_n 0, 1), (62, .getfield 238, 3), (65, .aload_n 0, 1), (66, .iconst 1, 1), (67, .bipush 6, 2), (69, .invokevirtual 267, 3), (72, .iastore, 1), (73, .aload_n 0, 1), (74, .aload_n 0, 1), (75, .ldc2_w 154, 3), (78, .invokevirtual 264, 3), (81, .invokevirtual 274, 3), (84, .aload_n 0, 1), (85, .getfield 24, 3), (88, .aload_n 0, 1), (89, .getfield 238, 3), (92, .aload_n 0, 1), (93, .iconst 1, 1), (94, .bipush 6, 2), (96, .invokevirtual 267, 3), (99, .iastore, 1), (100, .lload_n 1, 1), (101, .ldc2_w 156, 3), (104, .lcmp, 1), (105, .ifCond .ne 43, 3), (108, .aload_n 0, 1), (109, .getfield 54, 3), (112, .bipush 8, 2), (114, .aload_n 0, 1), (115, .getfield 238, 3), (118, .imul, 1), (119, .aload_n 0, 1), (120, .getfield 30, 3), (123, .aload_n 0, 1), (124, .getfield 238, 3), (127, .iaload, 1), (128, .iadd, 1), (129, .aload_n 0, 1), (130, .iconst 1, 1), (131, .invokevirtual 278, 3), (134, .iastore, 1), (135, .aload_n 0, 1), (136, .getfield 30, 3), (139, .aload_n 0, 1), (140, .getfield 238, 3), (143, .dup2, 1), (144, .iaload, 1), (145, .iconst 1, 1), (146, .iadd, 1), (147, .iastore, 1), (148, .lload_n 1, 1), (149, .ldc2_w 158, 3), (152, .lcmp, 1), (153, .ifCond .ne 7, 3), (156, .aload_n 0, 1), (157, .invokevirtual 282, 3), (160, .lload_n 1, 1), (161, .ldc2_w 162, 3), (164, .lcmp, 1), (165, .ifCond .ne 30, 3), (168, .aload_n 0, 1), (169, .getfield 36, 3), (172, .aload_n 0, 1), (173, .getfield 238, 3), (176, .aload_n 0, 1), (177, .iconst 0, 1), (178, .invokevirtual 278, 3), (181, .iastore, 1), (182, .aload_n 0, 1), (183, .getfield 51, 3), (186, .aload_n 0, 1), (187, .getfield 238, 3), (190, .dup2, 1), (191, .iaload, 1), (192, .iconst 2, 1), (193, .ior, 1), (194, .iastore, 1), (195, .lload_n 1, 1), (196, .ldc2_w 164, 3), (199, .lcmp, 1), (200, .ifCond .ne 7, 3), (203, .aload_n 0, 1), (204, .invokevirtual 285, 3), (207, .lload_n 1, 1), (208, .ldc2_w 166, 3), (211, .lcmp, 1), (212, .ifCond .ne 19, 3), (215, .aload_n 0, 1), (216, .getfield 42, 3), (219, .aload_n 0, 1), (220, .getfield 238, 3), (223, .aload_n 0, 1), (224, .iconst 2, 1), (225, .bipush 10, 2), (227, .invokevirtual 288, 3), (230, .iastore, 1), (231, .lload_n 1, 1), (232, .ldc2_w 168, 3), (235, .lcmp, 1), (236, .ifCond .ne 19, 3), (239, .aload_n 0, 1), (240, .getfield 45, 3), (243, .aload_n 0, 1), (244, .getfield 238, 3), (247, .aload_n 0, 1), (248, .iconst 3, 1), (249, .bipush 100, 2), (251, .invokevirtual 288, 3), (254, .iastore, 1), (255, .lload_n 1, 1), (256, .ldc2_w 170, 3), (259, .lcmp, 1), (260, .ifCond .ne 20, 3), (263, .aload_n 0, 1), (264, .getfield 48, 3), (267, .aload_n 0, 1), (268, .getfield 238, 3), (271, .aload_n 0, 1), (272, .iconst 4, 1), (273, .sipush 999, 3), (276, .invokevirtual 288, 3), (279, .iastore, 1), (280, .aload_n 0, 1), (281, .aload_n 0, 1), (282, .bipush 59, 2), (284, .invokevirtual 291, 3), (287, .invokevirtual 274, 3), (290, .return_, 1)]
set_option maxRecDepth 100000 in
theorem nhD_173_ok : nh_dtB prog_14_method_22_code nhD_173 = true := by decide +kernel
def nhD_174 : nhDt := [(0, .aload_n 0, 1), (1, .ldc2_w 152, 3), (4, .invokevirtual 264, 3), (7, .ifCond .eq 21, 3), (10, .aload_n 0, 1), (11, .getfield 27, 3), (14, .aload_n 0, 1), (15, .getfield 238, 3), (18, .iaload, 1), (19, .ifCond .le 7, 3), (22, .iconst 1, 1), (23, .goto 4, 3), (26, .iconst 0, 1), (27, .ireturn, 1), (28, .aload_n 0, 1), (29, .ldc2_w 156, 3), (32, .invokevirtual 264, 3), (35, .ifCond .eq 23, 3), (38, .aload_n 0, 1), (39, .getfield 30, 3), (42, .aload_n 0, 1), (43, .getfield 238, 3), (46, .iaload, 1), (47, .bipush 8, 2), (49, .if_icmp .ne 7, 3), (52, .iconst 1, 1), (53, .goto 4, 3), (56, .iconst 0, 1), (57, .ireturn, 1), (58, .aload_n 0, 1), (59, .ldc2_w 158, 3), (62, .invokevirtual 264, 3), (65, .ifCond .eq 22, 3), (68, .aload_n 0, 1), (69, .getfield 33, 3), (72, .aload_n 0, 1), (73, .getfield 238, 3), (76, .iaload, 1), (77, .iconst 5, 1), (78, .if_icmp .ne 7, 3), (81, .iconst 1, 1), (82, .goto 4, 3), (85, .iconst 0, 1), (86, .ireturn, 1), (87, .aload_n 0, 1), (88, .ldc2_w 162, 3), (91, .invokevirtual 264, 3), (94, .ifCond .eq 17, 3), (97, .aload_n 0, 1), (98, .getfield 51, 3), (101, .aload_n 0, 1), (102, .getfield 238, 3), (105, .iaload, 1), (106, .iconst 1, 1), (107, .invokestatic 253, 3), (110, .ireturn, 1), (111, .aload_n 0, 1), (112, .ldc2_w 164, 3), (115, .invokevirtual 264, 3), (118, .ifCond .eq 17, 3), (121, .aload_n 0, 1), (122, .getfield 51, 3), (125, .aload_n 0, 1), (126, .getfield 238, 3), (129, .iaload, 1), (130, .iconst 0, 1), (131, .invokestatic 253, 3), (134, .ireturn, 1), (135, .aload_n 0, 1), (136, .ldc2_w 166, 3), (139, .invokevirtual 264, 3), (142, .ifCond .eq 17, 3), (145, .aload_n 0, 1), (146, .getfield 51, 3), (149, .aload_n 0, 1), (150, .getfield 238, 3), (153, .iaload, 1), (154, .iconst 2, 1), (155, .invokestatic 253, 3), (158, .ireturn, 1), (159, .aload_n 0, 1), (160, .ldc2_w 168, 3), (163, .invokevirtual 264, 3), (166, .ifCond .eq 17, 3), (169, .aload_n 0, 1), (170, .getfield 51, 3), (173, .aload_n 0, 1), (174, .getfield 238, 3), (177, .iaload, 1), (178, .iconst 3, 1), (179, .invokestatic 253, 3), (182, .ireturn, 1), (183, .aload_n 0, 1), (184, .ldc2_w 170, 3), (187, .invokevirtual 264, 3), (190, .ifCond .eq 19, 3), (193, .aload_n 0, 1), (194, .getfield 51, 3), (197, .aload_n 0, 1), (198, .getfield 238, 3), (201, .iaload, 1), (202, .iconst 4, 1), (203, .invokestatic 253, 3), (206, .ifCond .eq 7, 3), (209, .iconst 1, 1), (210, .goto 4, 3), (213, .iconst 0, 1), (214, .ireturn, 1)]
set_option maxRecDepth 100000 in
theorem nhD_174_ok : nh_dtB prog_14_method_20_code nhD_174 = true := by decide +kernel
def nhD_175 : nhDt := [(0, .aload_n 0, 1), (1, .getfield 200, 3), (4, .iconst 3, 1), (5, .if_icmp .ne 16, 3), (8, .aload_n 0, 1), (9, .getfield 207, 3), (12, .lload_n 1, 1), (13, .lcmp, 1), (14, .ifCond .ne 7, 3), (17, .iconst 1, 1), (18, .goto 4, 3), (21, .iconst 0, 1), (22, .ireturn, 1)]
set_option maxRecDepth 100000 in
theorem nhD_175_ok : nh_dtB prog_14_method_11_code nhD_175 = true := by decide +kernel
def nhD_176 : nhDt := [(0, .iload_n 0, 1), (1, .iload_n 1, 1), (2, .ishr, 1), (3, .iconst 1, 1), (4, .iand, 1), (5, .iconst 1, 1), (6, .if_icmp .ne 7, 3), (9, .iconst 1, 1), (10, .goto 4, 3), (13, .iconst 0, 1), (14, .ireturn, 1)]
set_option maxRecDepth 100000 in
theorem nhD_176_ok : nh_dtB prog_14_method_40_code nhD_176 = true := by decide +kernel
def nhD_177 : nhDt := [(0, .aload_n 0, 1), (1, .aload_n 0, 1), (2, .getfield 200, 3), (5, .iconst 1, 1), (6, .if_icmp .ne 7, 3), (9, .iconst 1, 1), (10, .goto 4, 3), (13, .iconst 2, 1), (14, .aload_n 0, 1), (15, .getfield 193, 3), (18, .invokevirtual 224, 3), (21, .return_, 1)]
set_option maxRecDepth 100000 in
theorem nhD_177_ok : nh_dtB prog_14_method_12_code nhD_177 = true := by decide +kernel
def nhD_178 : nhDt := [(0, .aload_n 0, 1), (1, .getfield 149, 3), (4, .ifCond .le 4, 3), (7, .return_, 1), (8, .aload_n 0, 1), (9, .iload_n 1, 1), (10, .putfield 149, 3), (13, .aload_n 0, 1), (14, .iload_n 2, 1), (15, .putfield 16, 3), (18, .return_, 1)]
set_option maxRecDepth 100000 in
theorem nhD_178_ok : nh_dtB prog_14_method_5_code nhD_178 = true := by decide +kernel
def nhD_179 : nhDt := [(0, .aload_n 0, 1), (1, .invokevirtual 228, 3), (4, .ifCond .ne 5, 3), (7, .iload_n 1, 1), (8, .ireturn, 1), (9, .aload_n 0, 1), (10, .getfield 200, 3), (13, .iconst 4, 1), (14, .if_icmp .eq 7, 3), (17, .aload_n 0, 1), (18, .invokevirtual 235, 3), (21, .aload_n 0, 1), (22, .invokevirtual 228, 3), (25, .ifCond .eq 28, 3), (28, .aload_n 0, 1), (29, .getfield 218, 3), (32, .iload_n 1, 1), (33, .if_icmp .lt 11, 3), (36, .aload_n 0, 1), (37, .getfield 218, 3), (40, .iload_n 2, 1), (41, .if_icmp .le 12, 3), (44, .aload_n 0, 1), (45, .iconst 4, 1), (46, .aload_n 0, 1), (47, .getfield 193, 3), (50, .invokevirtual 224, 3), (53, .aload_n 0, 1), (54, .getfield 218, 3), (57, .istore_n 3, 1), (58, .aload_n 0, 1), (59, .invokevirtual 228, 3), (62, .ifCond .eq 7, 3), (65, .aload_n 0, 1), (66, .invokevirtual 232, 3), (69, .aload_n 0, 1), (70, .invokevirtual 228, 3), (73, .ifCond .eq 7, 3), (76, .iload_n 3, 1), (77, .goto 4, 3), (80, .iload_n 1, 1), (81, .ireturn, 1)]
set_option maxRecDepth 100000 in
theorem nhD_179_ok : nh_dtB prog_14_method_14_code nhD_179 = true := by decide +kernel
def nhD_180 : nhDt := [(0, .aload_n 0, 1), (1, .invokevirtual 228, 3), (4, .ifCond .ne 4, 3), (7, .return_, 1), (8, .iload_n 1, 1), (9, .ifCond .eq 10, 3), (12, .aload_n 0, 1), (13, .invokevirtual 232, 3), (16, .goto 7, 3), (19, .aload_n 0, 1), (20, .invokevirtual 235, 3), (23, .return_, 1)]
set_option maxRecDepth 100000 in
theorem nhD_180_ok : nh_dtB prog_14_method_13_code nhD_180 = true := by decide +kernel
def nhD_181 : nhDt := [(0, .aload_n 0, 1), (1, .iconst 0, 1), (2, .aload_n 0, 1), (3, .getfield 20, 3), (6, .aload_n 0, 1), (7, .getfield 238, 3), (10, .iaload, 1), (11, .iconst 1, 1), (12, .isub, 1), (13, .invokevirtual 267, 3), (16, .istore_n 2, 1), (17, .aload_n 0, 1), (18, .getfield 193, 3), (21, .istore_n 3, 1), (22, .aload_n 0, 1), (23, .iconst 0, 1), (24, .aload_n 0, 1), (25, .getfield 24, 3), (28, .aload_n 0, 1), (29, .getfield 238, 3), (32, .iaload, 1), (33, .iconst 1, 1), (34, .isub, 1), (35, .invokevirtual 267, 3), (38, .aload_n 0, 1), (39, .getfield 20, 3), (42, .aload_n 0, 1), (43, .getfield 238, 3), (46, .iaload, 1), (47, .imul, 1), (48, .iload_n 2, 1), (49, .iadd, 1), (50, .istore 4, 2), (52, .aload_n 0, 1), (53, .iload 4, 2), (55, .invokevirtual 261, 3), (58, .ifCond .ne 46, 3), (61, .iload_n 1, 1), (62, .ifCond .eq 46, 3), (65, .aload_n 0, 1), (66, .iload 4, 2), (68, .invokevirtual 294, 3), (71, .ifCond .ne 33, 3), (74, .aload_n 0, 1), (75, .getfield 51, 3), (78, .aload_n 0, 1), (79, .getfield 238, 3), (82, .iaload, 1), (83, .iconst 1, 1), (84, .invokestatic 253, 3), (87, .ifCond .eq 21, 3), (90, .aload_n 0, 1), (91, .getfield 36, 3), (94, .aload_n 0, 1), (95, .getfield 238, 3), (98, .iaload, 1), (99, .iload 4, 2), (101, .if_icmp .ne 7, 3), (104, .iconst 1, 1), (105, .goto 4, 3), (108, .iconst 0, 1), (109, .istore 5, 2), (111, .aload_n 0, 1), (112, .invokevirtual 228, 3), (115, .ifCond .eq 14, 3), (118, .iload 5, 2), (120, .ifCond .eq 9, 3), (123, .aload_n 0, 1), (124, .iconst 3, 1), (125, .iload_n 3, 1), (126, .invokevirtual 224, 3), (129, .iload 4, 2), (131, .ireturn, 1)]
set_option maxRecDepth 100000 in
theorem nhD_181_ok : nh_dtB prog_14_method_23_code nhD_181 = true := by decide +kernel
def nhD_182 : nhDt := [(0, .iconst 0, 1), (1, .istore_n 2, 1), (2, .iload_n 2, 1), (3, .aload_n 0, 1), (4, .getfield 30, 3), (7, .aload_n 0, 1), (8, .getfield 238, 3), (11, .iaload, 1), (12, .if_icmp .ge 29, 3), (15, .aload_n 0, 1), (16, .getfield 54, 3), (19, .bipush 8, 2), (21, .aload_n 0, 1), (22, .getfield 238, 3), (25, .imul, 1), (26, .iload_n 2, 1), (27, .iadd, 1), (28, .iaload, 1), (29, .iload_n 1, 1), (30, .if_icmp .ne 5, 3), (33, .iconst 1, 1), (34, .ireturn, 1), (35, .iinc 2 1, 3), (38, .goto (-36), 3), (41, .iconst 0, 1), (42, .ireturn, 1)]
set_option maxRecDepth 100000 in
theorem nhD_182_ok : nh_dtB prog_14_method_17_code nhD_182 = true := by decide +kernel
def nhD_183 : nhDt := [(0, .iconst 0, 1), (1, .istore_n 2, 1), (2, .iload_n 2, 1), (3, .aload_n 0, 1), (4, .getfield 33, 3), (7, .aload_n 0, 1), (8, .getfield 238, 3), (11, .iaload, 1), (12, .if_icmp .ge 28, 3), (15, .aload_n 0, 1), (16, .getfield 57, 3), (19, .iconst 5, 1), (20, .aload_n 0, 1), (21, .getfield 238, 3), (24, .imul, 1), (25, .iload_n 2, 1), (26, .iadd, 1), (27, .iaload, 1), (28, .iload_n 1, 1), (29, .if_icmp .ne 5, 3), (32, .iconst 1, 1), (33, .ireturn, 1), (34, .iinc 2 1, 3), (37, .goto (-35), 3), (40, .iconst 0, 1), (41, .ireturn, 1)]
set_option maxRecDepth 100000 in
theorem nhD_183_ok : nh_dtB prog_14_method_18_code nhD_183 = true := by decide +kernel
def nhD_184 : nhDt := [(0, .iconst 5, 1), (1, .aload_n 0, 1), (2, .getfield 238, 3), (5, .imul, 1), (6, .aload_n 0, 1), (7, .getfield 33, 3), (10, .aload_n 0, 1), (11, .getfield 238, 3), (14, .iaload, 1), (15, .iadd, 1), (16, .istore_n 1, 1), (17, .iconst 0, 1), (18, .istore_n 2, 1), (19, .iload_n 2, 1), (20, .aload_n 0, 1), (21, .getfield 33, 3), (24, .aload_n 0, 1), (25, .getfield 238, 3), (28, .iaload, 1), (29, .if_icmp .ge 47, 3), (32, .aload_n 0, 1), (33, .getfield 200, 3), (36, .iconst 2, 1), (37, .if_icmp .ne 33, 3), (40, .aload_n 0, 1), (41, .getfield 66, 3), (44, .iconst 5, 1), (45, .aload_n 0, 1), (46, .getfield 238, 3), (49, .imul, 1), (50, .iload_n 2, 1), (51, .iadd, 1), (52, .laload, 1), (53, .aload_n 0, 1), (54, .getfield 207, 3), (57, .lcmp, 1), (58, .ifCond .ne 12, 3), (61, .aload_n 0, 1), (62, .iconst 3, 1), (63, .aload_n 0, 1), (64, .getfield 193, 3), (67, .invokevirtual 224, 3), (70, .iinc 2 1, 3), (73, .goto (-54), 3), (76, .aload_n 0, 1), (77, .getfield 66, 3), (80, .iload_n 1, 1), (81, .aload_n 0, 1), (82, .getfield 207, 3), (85, .lastore, 1), (86, .aload_n 0, 1), (87, .aload_n 0, 1), (88, .getfield 200, 3), (91, .iconst 2, 1), (92, .if_icmp .ne 7, 3), (95, .iconst 1, 1), (96, .goto 4, 3), (99, .iconst 0, 1), (100, .invokevirtual 274, 3), (103, .aload_n 0, 1), (104, .aload_n 0, 1), (105, .ldc2_w 160, 3), (108, .invokevirtual 264, 3), (111, .invokevirtual 274, 3), (114, .aload_n 0, 1), (115, .getfield 57, 3), (118, .iload_n 1, 1), (119, .aload_n 0, 1), (120, .iconst 0, 1), (121, .invokevirtual 278, 3), (124, .iastore, 1), (125, .aload_n 0, 1), (126, .getfield 33, 3), (129, .aload_n 0, 1), (130, .getfield 238, 3), (133, .dup2, 1), (134, .iaload, 1), (135, .iconst 1, 1), (136, .iadd, 1), (137, .iastore, 1), (138, .return_, 1)]
set_option maxRecDepth 100000 in
theorem nhD_184_ok : nh_dtB prog_14_method_24_code nhD_184 = true := by decide +kernel
def nhD_185 : nhDt := [(0, .aload_n 0, 1), (1, .getfield 51, 3), (4, .aload_n 0, 1), (5, .getfield 238, 3), (8, .dup2, 1), (9, .iaload, 1), (10, .iconst 1, 1), (11, .ior, 1), (12, .iastore, 1), (13, .aload_n 0, 1), (14, .iconst 0, 1), (15, .putfield 297, 3), (18, .aload_n 0, 1), (19, .getfield 60, 3), (22, .aload_n 0, 1), (23, .getfield 238, 3), (26, .aload_n 0, 1), (27, .getfield 241, 3), (30, .iastore, 1), (31, .aload_n 0, 1), (32, .invokevirtual 300, 3), (35, .aload_n 0, 1), (36, .getfield 63, 3), (39, .aload_n 0, 1), (40, .getfield 238, 3), (43, .aload_n 0, 1), (44, .getfield 241, 3), (47, .iastore, 1), (48, .return_, 1)]
set_option maxRecDepth 100000 in
theorem nhD_185_ok : nh_dtB prog_14_method_25_code nhD_185 = true := by decide +kernel
def nhD_186 : nhDt := [(0, .aload_n 0, 1), (1, .iconst 0, 1), (2, .putfield 303, 3), (5, .aload_n 0, 1), (6, .iconst 0, 1), (7, .putfield 306, 3), (10, .aload_n 0, 1), (11, .bipush 8, 2), (13, .iconst 0, 1), (14, .invokevirtual 309, 3), (17, .iconst 1, 1), (18, .istore_n 1, 1), (19, .aload_n 0, 1), (20, .invokevirtual 228, 3), (23, .ifCond .eq 29, 3), (26, .aload_n 0, 1), (27, .getfield 303, 3), (30, .ifCond .le 22, 3), (33, .iload_n 1, 1), (34, .ifCond .eq 10, 3), (37, .aload_n 0, 1), (38, .invokevirtual 312, 3), (41, .goto 7, 3), (44, .aload_n 0, 1), (45, .invokevirtual 315, 3), (48, .istore_n 1, 1), (49, .goto (-30), 3), (52, .return_, 1)]
set_option maxRecDepth 100000 in
theorem nhD_186_ok : nh_dtB prog_14_method_28_code nhD_186 = true := by decide +kernel
def nhD_187 : nhDt := [(0, .aload_n 0, 1), (1, .getfield 76, 3), (4, .aload_n 0, 1), (5, .getfield 303, 3), (8, .iload_n 1, 1), (9, .iastore, 1), (10, .aload_n 0, 1), (11, .getfield 79, 3), (14, .aload_n 0, 1), (15, .getfield 303, 3), (18, .iload_n 2, 1), (19, .iastore, 1), (20, .aload_n 0, 1), (21, .dup, 1), (22, .getfield 303, 3), (25, .iconst 1, 1), (26, .iadd, 1), (27, .putfield 303, 3), (30, .return_, 1)]
set_option maxRecDepth 100000 in
theorem nhD_187_ok : nh_dtB prog_14_method_27_code nhD_187 = true := by decide +kernel
def nhD_188 : nhDt := [(0, .aload_n 0, 1), (1, .getfield 76, 3), (4, .aload_n 0, 1), (5, .getfield 303, 3), (8, .iconst 1, 1), (9, .isub, 1), (10, .iaload, 1), (11, .iconst 3, 1), (12, .if_icmp .le 19, 3), (15, .aload_n 0, 1), (16, .getfield 76, 3), (19, .aload_n 0, 1), (20, .getfield 303, 3), (23, .iconst 1, 1), (24, .isub, 1), (25, .iaload, 1), (26, .bipush 7, 2), (28, .if_icmp .lt 7, 3), (31, .iconst 1, 1), (32, .goto 4, 3), (35, .iconst 0, 1), (36, .istore_n 1, 1), (37, .iload_n 1, 1), (38, .ifCond .eq 17, 3), (41, .aload_n 0, 1), (42, .ldc2_w 188, 3), (45, .invokevirtual 264, 3), (48, .ifCond .eq 7, 3), (51, .iconst 1, 1), (52, .goto 4, 3), (55, .iconst 0, 1), (56, .istore_n 2, 1), (57, .aload_n 0, 1), (58, .bipush 40, 2), (60, .invokevirtual 291, 3), (63, .istore_n 3, 1), (64, .aload_n 0, 1), (65, .invokevirtual 318, 3), (68, .istore 4, 2), (70, .aload_n 0, 1), (71, .getfield 39, 3), (74, .aload_n 0, 1), (75, .getfield 238, 3), (78, .iaload, 1), (79, .bipush 60, 2), (81, .if_icmp .eq 12, 3), (84, .aload_n 0, 1), (85, .getfield 297, 3), (88, .bipush 30, 2), (90, .if_icmp .ne 7, 3), (93, .iconst 1, 1), (94, .goto 4, 3), (97, .iconst 0, 1), (98, .istore 5, 2), (100, .iload_n 2, 1), (101, .ifCond .ne 25, 3), (104, .iload 4, 2), (106, .ifCond .ne 15, 3), (109, .aload_n 0, 1), (110, .getfield 200, 3), (113, .iconst 4, 1), (114, .if_icmp .eq 7, 3), (117, .iload_n 3, 1), (118, .ifCond .eq 25, 3), (121, .iload 5, 2), (123, .ifCond .ne 20, 3), (126, .iload_n 2, 1), (127, .ifCond .ne 7, 3), (130, .iload_n 3, 1), (131, .ifCond .eq 16, 3), (134, .aload_n 0, 1), (135, .getfield 306, 3), (138, .bipush 7, 2), (140, .if_icmp .ne 7, 3), (143, .aload_n 0, 1), (144, .invokevirtual 235, 3), (147, .aload_n 0, 1), (148, .invokevirtual 228, 3), (151, .ifCond .ne 5, 3), (154, .iconst 1, 1), (155, .ireturn, 1), (156, .aload_n 0, 1), (157, .getfield 39, 3), (160, .aload_n 0, 1), (161, .getfield 238, 3), (164, .dup2, 1), (165, .iaload, 1), (166, .iload_n 2, 1), (167, .ifCond .eq 7, 3), (170, .iconst 0, 1), (171, .goto 4, 3), (174, .iconst 1, 1), (175, .iadd, 1), (176, .iastore, 1), (177, .aload_n 0, 1), (178, .dup, 1), (179, .getfield 297, 3), (182, .iload_n 2, 1), (183, .ifCond .eq 7, 3), (186, .iconst 0, 1), (187, .goto 4, 3), (190, .iconst 1, 1), (191, .iadd, 1), (192, .putfield 297, 3), (195, .iload 4, 2), (197, .ifCond .ne 10, 3), (200, .aload_n 0, 1), (201, .getfield 218, 3), (204, .goto 4, 3), (207, .iconst 0, 1), (208, .istore 6, 2), (210, .aload_n 0, 1), (211, .invokevirtual 232, 3), (214, .iload_n 2, 1), (215, .ifCond .ne 7, 3), (218, .iload_n 3, 1), (219, .ifCond .eq 31, 3), (222, .aload_n 0, 1), (223, .iload_n 2, 1), (224, .ifCond .eq 7, 3), (227, .iconst 3, 1), (228, .goto 5, 3), (231, .bipush 7, 2), (233, .bipush 126, 2), (235, .invokevirtual 309, 3), (238, .aload_n 0, 1), (239, .dup, 1), (240, .getfield 306, 3), (243, .iconst 1, 1), (244, .iadd, 1), (245, .putfield 306, 3), (248, .iconst 1, 1), (249, .ireturn, 1), (250, .aload_n 0, 1), (251, .iload 4, 2), (253, .ifCond .ne 8, 3), (256, .bipush 110, 2), (258, .goto 5, 3), (261, .iload 4, 2), (263, .iload 6, 2), (265, .invokevirtual 321, 3), (268, .iconst 0, 1), (269, .ireturn, 1)]
set_option maxRecDepth 100000 in
theorem nhD_188_ok : nh_dtB prog_14_method_30_code nhD_188 = true := by decide +kernel
def nhD_189 : nhDt := [(0, .aload_n 0, 1), (1, .getfield 200, 3), (4, .iconst 5, 1), (5, .if_icmp .ne 19, 3), (8, .aload_n 0, 1), (9, .aload_n 0, 1), (10, .getfield 193, 3), (13, .invokevirtual 196, 3), (16, .iload_n 1, 1), (17, .if_icmp .ne 7, 3), (20, .iconst 1, 1), (21, .goto 4, 3), (24, .iconst 0, 1), (25, .ireturn, 1)]
set_option maxRecDepth 100000 in
theorem nhD_189_ok : nh_dtB prog_14_method_10_code nhD_189 = true := by decide +kernel
def nhD_190 : nhDt := [(0, .aload_n 0, 1), (1, .ldc2_w 172, 3), (4, .invokevirtual 264, 3), (7, .ifCond .eq 6, 3), (10, .bipush 119, 2), (12, .ireturn, 1), (13, .aload_n 0, 1), (14, .ldc2_w 174, 3), (17, .invokevirtual 264, 3), (20, .ifCond .eq 6, 3), (23, .bipush 115, 2), (25, .ireturn, 1), (26, .aload_n 0, 1), (27, .ldc2_w 176, 3), (30, .invokevirtual 264, 3), (33, .ifCond .eq 6, 3), (36, .bipush 99, 2), (38, .ireturn, 1), (39, .aload_n 0, 1), (40, .ldc2_w 178, 3), (43, .invokevirtual 264, 3), (46, .ifCond .eq 6, 3), (49, .bipush 114, 2), (51, .ireturn, 1), (52, .aload_n 0, 1), (53, .ldc2_w 180, 3), (56, .invokevirtual 264, 3), (59, .ifCond .eq 6, 3), (62, .bipush 116, 2), (64, .ireturn, 1), (65, .aload_n 0, 1), (66, .ldc2_w 182, 3), (69, .invokevirtual 264, 3), (72, .ifCond .eq 8, 3), (75, .bipush 105, 2), (77, .goto 4, 3), (80, .iconst 0, 1), (81, .ireturn, 1)]
set_option maxRecDepth 100000 in
theorem nhD_190_ok : nh_dtB prog_14_method_29_code nhD_190 = true := by decide +kernel
def nhD_191 : nhDt := [(0, .aload_n 0, 1), (1, .getfield 70, 3), (4, .aload_n 0, 1), (5, .getfield 241, 3), (8, .iload_n 1, 1), (9, .iastore, 1), (10, .aload_n 0, 1), (11, .getfield 73, 3), (14, .aload_n 0, 1), (15, .getfield 241, 3), (18, .iload_n 2, 1), (19, .iastore, 1), (20, .aload_n 0, 1), (21, .dup, 1), (22, .getfield 241, 3), (25, .iconst 1, 1), (26, .iadd, 1), (27, .putfield 241, 3), (30, .return_, 1)]
set_option maxRecDepth 100000 in
theorem nhD_191_ok : nh_dtB prog_14_method_26_code nhD_191 = true := by decide +kernel
def nhD_192 : nhDt := [(0, .aload_n 0, 1), (1, .invokevirtual 324, 3), (4, .istore_n 1, 1), (5, .iload_n 1, 1), (6, .iconst 4, 1), (7, .if_icmp .ne 16, 3), (10, .aload_n 0, 1), (11, .invokevirtual 327, 3), (14, .ifCond .eq 9, 3), (17, .aload_n 0, 1), (18, .invokevirtual 235, 3), (21, .iconst 1, 1), (22, .ireturn, 1), (23, .aload_n 0, 1), (24, .getfield 76, 3), (27, .aload_n 0, 1), (28, .getfield 303, 3), (31, .iconst 1, 1), (32, .isub, 1), (33, .iaload, 1), (34, .bipush 6, 2), (36, .if_icmp .gt 68, 3), (39, .aload_n 0, 1), (40, .getfield 76, 3), (43, .aload_n 0, 1), (44, .getfield 303, 3), (47, .iconst 1, 1), (48, .isub, 1), (49, .iaload, 1), (50, .iload_n 1, 1), (51, .if_icmp .lt 53, 3), (54, .aload_n 0, 1), (55, .dup, 1), (56, .getfield 303, 3), (59, .iconst 1, 1), (60, .isub, 1), (61, .putfield 303, 3), (64, .aload_n 0, 1), (65, .getfield 76, 3), (68, .aload_n 0, 1), (69, .getfield 303, 3), (72, .iaload, 1), (73, .iconst 3, 1), (74, .if_icmp .ne 13, 3), (77, .aload_n 0, 1), (78, .dup, 1), (79, .getfield 306, 3), (82, .iconst 1, 1), (83, .isub, 1), (84, .putfield 306, 3), (87, .aload_n 0, 1), (88, .aload_n 0, 1), (89, .getfield 79, 3), (92, .aload_n 0, 1), (93, .getfield 303, 3), (96, .iaload, 1), (97, .iconst 0, 1), (98, .invokevirtual 321, 3), (101, .goto (-78), 3), (104, .iload_n 1, 1), (105, .ifCond .le 42, 3), (108, .aload_n 0, 1), (109, .iload_n 1, 1), (110, .iload_n 1, 1), (111, .iconst 2, 1), (112, .if_icmp .ne 8, 3), (115, .bipush 38, 2), (117, .goto 21, 3), (120, .iload_n 1, 1), (121, .iconst 1, 1), (122, .if_icmp .ne 8, 3), (125, .bipush 124, 2), (127, .goto 11, 3), (130, .aload_n 0, 1), (131, .aload_n 0, 1), (132, .getfield 193, 3), (135, .invokevirtual 196, 3), (138, .invokevirtual 309, 3), (141, .aload_n 0, 1), (142, .invokevirtual 232, 3), (145, .iconst 1, 1), (146, .ireturn, 1), (147, .aload_n 0, 1), (148, .dup, 1), (149, .getfield 303, 3), (152, .iconst 1, 1), (153, .isub, 1), (154, .putfield 303, 3), (157, .aload_n 0, 1), (158, .getfield 76, 3), (161, .aload_n 0, 1), (162, .getfield 303, 3), (165, .iaload, 1), (166, .bipush 7, 2), (168, .if_icmp .ne 23, 3), (171, .aload_n 0, 1), (172, .dup, 1), (173, .getfield 306, 3), (176, .iconst 1, 1), (177, .isub, 1), (178, .putfield 306, 3), (181, .aload_n 0, 1), (182, .aload_n 0, 1), (183, .bipush 41, 2), (185, .invokevirtual 291, 3), (188, .invokevirtual 274, 3), (191, .iconst 0, 1), (192, .ireturn, 1)]
set_option maxRecDepth 100000 in
theorem nhD_192_ok : nh_dtB prog_14_method_33_code nhD_192 = true := by decide +kernel
def nhD_193 : nhDt := [(0, .aload_n 0, 1), (1, .ldc2_w 186, 3), (4, .invokevirtual 264, 3), (7, .ifCond .eq 5, 3), (10, .iconst 2, 1), (11, .ireturn, 1), (12, .aload_n 0, 1), (13, .ldc2_w 184, 3), (16, .invokevirtual 264, 3), (19, .ifCond .eq 5, 3), (22, .iconst 1, 1), (23, .ireturn, 1), (24, .aload_n 0, 1), (25, .bipush 60, 2), (27, .invokevirtual 291, 3), (30, .ifCond .ne 21, 3), (33, .aload_n 0, 1), (34, .bipush 62, 2), (36, .invokevirtual 291, 3), (39, .ifCond .ne 12, 3), (42, .aload_n 0, 1), (43, .bipush 61, 2), (45, .invokevirtual 291, 3), (48, .ifCond .eq 5, 3), (51, .iconst 4, 1), (52, .ireturn, 1), (53, .aload_n 0, 1), (54, .bipush 43, 2), (56, .invokevirtual 291, 3), (59, .ifCond .ne 12, 3), (62, .aload_n 0, 1), (63, .bipush 45, 2), (65, .invokevirtual 291, 3), (68, .ifCond .eq 5, 3), (71, .iconst 5, 1), (72, .ireturn, 1), (73, .aload_n 0, 1), (74, .bipush 42, 2), (76, .invokevirtual 291, 3), (79, .ifCond .ne 21, 3), (82, .aload_n 0, 1), (83, .bipush 47, 2), (85, .invokevirtual 291, 3), (88, .ifCond .ne 12, 3), (91, .aload_n 0, 1), (92, .bipush 37, 2), (94, .invokevirtual 291, 3), (97, .ifCond .eq 8, 3), (100, .bipush 6, 2), (102, .goto 4, 3), (105, .iconst 0, 1), (106, .ireturn, 1)]
set_option maxRecDepth 100000 in
theorem nhD_193_ok : nh_dtB prog_14_method_31_code nhD_193 = true := by decide +kernel
def nhD_194 : nhDt := [(0, .aload_n 0, 1), (1, .getfield 303, 3), (4, .iconst 1, 1), (5, .isub, 1), (6, .istore_n 1, 1), (7, .aload_n 0, 1), (8, .getfield 76, 3), (11, .iload_n 1, 1), (12, .iaload, 1), (13, .iconst 5, 1), (14, .if_icmp .eq 14, 3), (17, .aload_n 0, 1), (18, .getfield 76, 3), (21, .iload_n 1, 1), (22, .iaload, 1), (23, .bipush 6, 2), (25, .if_icmp .ne 9, 3), (28, .iinc 1 (-1), 3), (31, .goto (-24), 3), (34, .aload_n 0, 1), (35, .getfield 76, 3), (38, .iload_n 1, 1), (39, .iaload, 1), (40, .iconst 4, 1), (41, .if_icmp .ne 7, 3), (44, .iconst 1, 1), (45, .goto 4, 3), (48, .iconst 0, 1), (49, .ireturn, 1)]
set_option maxRecDepth 100000 in
theorem nhD_194_ok : nh_dtB prog_14_method_32_code nhD_194 = true := by decide +kernel
def nhD_195 : nhDt := [(0, .aload_n 0, 1), (1, .getfield 51, 3), (4, .aload_n 0, 1), (5, .getfield 238, 3), (8, .dup2, 1), (9, .iaload, 1), (10, .iconst 1, 1), (11, .iload_n 1, 1), (12, .ishl, 1), (13, .ior, 1), (14, .iastore, 1), (15, .aload_n 0, 1), (16, .iconst 0, 1), (17, .iload_n 2, 1), (18, .invokevirtual 267, 3), (21, .ireturn, 1)]
set_option maxRecDepth 100000 in
theorem nhD_195_ok : nh_dtB prog_14_method_21_code nhD_195 = true := by decide +kernel
def nhD_196 : nhDt := [(0, .iconst 0, 1), (1, .istore_n 1, 1), (2, .iload_n 1, 1), (3, .aload_n 0, 1), (4, .getfield 20, 3), (7, .aload_n 0, 1), (8, .getfield 238, 3), (11, .iaload, 1), (12, .aload_n 0, 1), (13, .getfield 24, 3), (16, .aload_n 0, 1), (17, .getfield 238, 3), (20, .iaload, 1), (21, .imul, 1), (22, .if_icmp .ge 19, 3), (25, .aload_n 0, 1), (26, .iload_n 1, 1), (27, .invokevirtual 261, 3), (30, .ifCond .ne 5, 3), (33, .iload_n 1, 1), (34, .ireturn, 1), (35, .iinc 1 1, 3), (38, .goto (-36), 3), (41, .iconst 0, 1), (42, .ireturn, 1)]
set_option maxRecDepth 100000 in
theorem nhD_196_ok : nh_dtB prog_14_method_19_code nhD_196 = true := by decide +kernel
def nhD_197 : nhDt := [(0, .iload_n 1, 1), (1, .ifCond .ne 10, 3), (4, .aload_n 0, 1), (5, .getfield 149, 3), (8, .goto 16, 3), (11, .iload_n 1, 1), (12, .iconst 1, 1), (13, .if_icmp .ne 10, 3), (16, .aload_n 0, 1), (17, .getfield 16, 3), (20, .goto 4, 3), (23, .iconst (-1), 1), (24, .ireturn, 1)]
set_option maxRecDepth 100000 in
theorem nhD_197_ok : nh_dtB prog_14_method_37_code nhD_197 = true := by decide +kernel
def nhD_198 : nhDt := [(0, .aload_n 0, 1), (1, .iload_n 1, 1), (2, .invokevirtual 404, 3), (5, .ifCond .ne 5, 3), (8, .iconst (-1), 1), (9, .ireturn, 1), (10, .iload_n 2, 1), (11, .tableswitch 90 0 5 #[37, 46, 52, 61, 71, 77], 37), (48, .aload_n 0, 1), (49, .getfield 85, 3), (52, .iconst 0, 1), (53, .iload_n 1, 1), (54, .iadd, 1), (55, .iaload, 1), (56, .ireturn, 1), (57, .aload_n 0, 1), (58, .iload_n 1, 1), (59, .invokevirtual 365, 3), (62, .ireturn, 1), (63, .aload_n 0, 1), (64, .getfield 85, 3), (67, .iconst 5, 1), (68, .iload_n 1, 1), (69, .iadd, 1), (70, .iaload, 1), (71, .ireturn, 1), (72, .aload_n 0, 1), (73, .getfield 85, 3), (76, .bipush 10, 2), (78, .iload_n 1, 1), (79, .iadd, 1), (80, .iaload, 1), (81, .ireturn, 1), (82, .aload_n 0, 1), (83, .iload_n 1, 1), (84, .invokevirtual 389, 3), (87, .ireturn, 1), (88, .aload_n 0, 1), (89, .aload_n 0, 1), (90, .getfield 85, 3), (93, .iconst 0, 1), (94, .iload_n 1, 1), (95, .iadd, 1), (96, .iaload, 1), (97, .invokevirtual 392, 3), (100, .ireturn, 1), (101, .iconst (-1), 1), (102, .ireturn, 1)]
set_option maxRecDepth 100000 in
theorem nhD_198_ok : nh_dtB prog_14_method_64_code nhD_198 = true := by decide +kernel
def nhD_199 : nhDt := [(0, .iload_n 1, 1), (1, .iconst 0, 1), (2, .aload_n 0, 1), (3, .invokevirtual 340, 3), (6, .iconst 1, 1), (7, .isub, 1), (8, .invokestatic 343, 3), (11, .ireturn, 1)]
set_option maxRecDepth 100000 in
theorem nhD_199_ok : nh_dtB prog_14_method_46_code nhD_199 = true := by decide +kernel
def nhDc_4 : List nhDt := [nhD_160, nhD_161, nhD_162, nhD_163, nhD_164, nhD_165, nhD_166, nhD_167, nhD_168, nhD_169, nhD_170, nhD_171, nhD_172, nhD_173, nhD_174, nhD_175, nhD_176, nhD_177, nhD_178, nhD_179, nhD_180, nhD_181, nhD_182, nhD_183, nhD_184, nhD_185, nhD_186, nhD_187, nhD_188, nhD_189, nhD_190, nhD_191, nhD_192, nhD_193, nhD_194, nhD_195, nhD_196, nhD_197, nhD_198, nhD_199]
set_option maxRecDepth 100000 in
theorem nhDz_4 : nhZ nhMt_4 nhDc_4 := ⟨nhD_160_ok, nhD_161_ok, nhD_162_ok, nhD_163_ok, nhD_164_ok, nhD_165_ok, nhD_166_ok, nhD_167_ok, nhD_168_ok, nhD_169_ok, nhD_170_ok, nhD_171_ok, nhD_172_ok, nhD_173_ok, nhD_174_ok, nhD_175_ok, nhD_176_ok, nhD_177_ok, nhD_178_ok, nhD_179_ok, nhD_180_ok, nhD_181_ok, nhD_182_ok, nhD_183_ok, nhD_184_ok, nhD_185_ok, nhD_186_ok, nhD_187_ok, nhD_188_ok, nhD_189_ok, nhD_190_ok, nhD_191_ok, nhD_192_ok, nhD_193_ok, nhD_194_ok, nhD_195_ok, nhD_196_ok, nhD_197_ok, nhD_198_ok, nhD_199_ok, trivial⟩
def nhD_200 : nhDt := [(0, .iload_n 0, 1), (1, .iload_n 1, 1), (2, .if_icmp .lt 12, 3), (5, .iload_n 0, 1), (6, .iload_n 2, 1), (7, .if_icmp .gt 7, 3), (10, .iconst 1, 1), (11, .goto 4, 3), (14, .iconst 0, 1), (15, .ireturn, 1)]
set_option maxRecDepth 100000 in
theorem nhD_200_ok : nh_dtB prog_14_method_38_code nhD_200 = true := by decide +kernel
def nhD_201 : nhDt := [(0, .aload_n 0, 1), (1, .iload_n 1, 1), (2, .putfield 330, 3), (5, .aload_n 0, 1), (6, .getfield 51, 3), (9, .aload_n 0, 1), (10, .getfield 247, 3), (13, .iaload, 1), (14, .iconst 0, 1), (15, .invokestatic 253, 3), (18, .ifCond .eq 12, 3), (21, .aload_n 0, 1), (22, .invokevirtual 371, 3), (25, .iconst 5, 1), (26, .irem, 1), (27, .goto 4, 3), (30, .iconst 0, 1), (31, .istore_n 2, 1), (32, .iload_n 2, 1), (33, .ifCond .ge 9, 3), (36, .iload_n 2, 1), (37, .iconst 5, 1), (38, .iadd, 1), (39, .goto 4, 3), (42, .iload_n 2, 1), (43, .ireturn, 1)]
set_option maxRecDepth 100000 in
theorem nhD_201_ok : nh_dtB prog_14_method_54_code nhD_201 = true := by decide +kernel
def nhD_202 : nhDt := [(0, .iconst 0, 1), (1, .istore_n 1, 1), (2, .aload_n 0, 1), (3, .getfield 60, 3), (6, .aload_n 0, 1), (7, .getfield 247, 3), (10, .iaload, 1), (11, .istore_n 2, 1), (12, .iload_n 2, 1), (13, .aload_n 0, 1), (14, .getfield 63, 3), (17, .aload_n 0, 1), (18, .getfield 247, 3), (21, .iaload, 1), (22, .if_icmp .ge 108, 3), (25, .aload_n 0, 1), (26, .getfield 70, 3), (29, .iload_n 2, 1), (30, .iaload, 1), (31, .istore_n 3, 1), (32, .iload_n 3, 1), (33, .bipush 126, 2), (35, .if_icmp .ne 30, 3), (38, .aload_n 0, 1), (39, .getfield 82, 3), (42, .iload_n 1, 1), (43, .iconst 1, 1), (44, .isub, 1), (45, .aload_n 0, 1), (46, .getfield 82, 3), (49, .iload_n 1, 1), (50, .iconst 1, 1), (51, .isub, 1), (52, .iaload, 1), (53, .ifCond .ne 7, 3), (56, .iconst 1, 1), (57, .goto 4, 3), (60, .iconst 0, 1), (61, .iastore, 1), (62, .goto 62, 3), (65, .iload_n 3, 1), (66, .invokestatic 203, 3), (69, .ifCond .eq 26, 3), (72, .aload_n 0, 1), (73, .getfield 82, 3), (76, .iload_n 1, 1), (77, .aload_n 0, 1), (78, .iload_n 3, 1), (79, .aload_n 0, 1), (80, .getfield 73, 3), (83, .iload_n 2, 1), (84, .iaload, 1), (85, .invokevirtual 333, 3), (88, .iastore, 1), (89, .iinc 1 1, 3), (92, .goto 32, 3), (95, .iinc 1 (-1), 3), (98, .aload_n 0, 1), (99, .getfield 82, 3), (102, .iload_n 1, 1), (103, .iconst 1, 1), (104, .isub, 1), (105, .iload_n 3, 1), (106, .aload_n 0, 1), (107, .getfield 82, 3), (110, .iload_n 1, 1), (111, .iconst 1, 1), (112, .isub, 1), (113, .iaload, 1), (114, .aload_n 0, 1), (115, .getfield 82, 3), (118, .iload_n 1, 1), (119, .iaload, 1), (120, .invokestatic 336, 3), (123, .iastore, 1), (124, .iinc 2 1, 3), (127, .goto (-115), 3), (130, .aload_n 0, 1), (131, .getfield 82, 3), (134, .iconst 0, 1), (135, .iaload, 1), (136, .ireturn, 1)]
set_option maxRecDepth 100000 in
theorem nhD_202_ok : nh_dtB prog_14_method_36_code nhD_202 = true := by decide +kernel
def nhD_203 : nhDt := [(0, .iload_n 1, 1), (1, .lookupswitch 136 #[(99, 72), (105, 128), (114, 94), (115, 64), (116, 116), (119, 59)], 59), (60, .aload_n 0, 1), (61, .getfield 330, 3), (64, .ireturn, 1), (65, .aload_n 0, 1), (66, .getfield 85, 3), (69, .bipush 16, 2), (71, .iaload, 1), (72, .ireturn, 1), (73, .aload_n 0, 1), (74, .getfield 85, 3), (77, .iconst 0, 1), (78, .aload_n 0, 1), (79, .getfield 330, 3), (82, .iadd, 1), (83, .iaload, 1), (84, .aload_n 0, 1), (85, .getfield 20, 3), (88, .aload_n 0, 1), (89, .getfield 247, 3), (92, .iaload, 1), (93, .irem, 1), (94, .ireturn, 1), (95, .aload_n 0, 1), (96, .getfield 85, 3), (99, .iconst 0, 1), (100, .aload_n 0, 1), (101, .getfield 330, 3), (104, .iadd, 1), (105, .iaload, 1), (106, .aload_n 0, 1), (107, .getfield 20, 3), (110, .aload_n 0, 1), (111, .getfield 247, 3), (114, .iaload, 1), (115, .idiv, 1), (116, .ireturn, 1), (117, .aload_n 0, 1), (118, .getfield 85, 3), (121, .iconst 5, 1), (122, .aload_n 0, 1), (123, .getfield 330, 3), (126, .iadd, 1), (127, .iaload, 1), (128, .ireturn, 1), (129, .aload_n 0, 1), (130, .getfield 85, 3), (133, .bipush 17, 2), (135, .iaload, 1), (136, .ireturn, 1), (137, .iload_n 2, 1), (138, .ireturn, 1)]
set_option maxRecDepth 100000 in
theorem nhD_203_ok : nh_dtB prog_14_method_35_code nhD_203 = true := by decide +kernel
def nhD_204 : nhDt := [(0, .iload_n 0, 1), (1, .tableswitch 202 37 62 #[143, 188, 202, 202, 202, 127, 119, 202, 123, 202, 131, 202, 202, 202, 202, 202, 202, 202, 202, 202, 202, 202, 202, 155, 177, 166], 119), (120, .iload_n 1, 1), (121, .iload_n 2, 1), (122, .iadd, 1), (123, .ireturn, 1), (124, .iload_n 1, 1), (125, .iload_n 2, 1), (126, .isub, 1), (127, .ireturn, 1), (128, .iload_n 1, 1), (129, .iload_n 2, 1), (130, .imul, 1), (131, .ireturn, 1), (132, .iload_n 2, 1), (133, .ifCond .ne 7, 3), (136, .iconst 0, 1), (137, .goto 6, 3), (140, .iload_n 1, 1), (141, .iload_n 2, 1), (142, .idiv, 1), (143, .ireturn, 1), (144, .iload_n 2, 1), (145, .ifCond .ne 7, 3), (148, .iconst 0, 1), (149, .goto 6, 3), (152, .iload_n 1, 1), (153, .iload_n 2, 1), (154, .irem, 1), (155, .ireturn, 1), (156, .iload_n 1, 1), (157, .iload_n 2, 1), (158, .if_icmp .ge 7, 3), (161, .iconst 1, 1), (162, .goto 4, 3), (165, .iconst 0, 1), (166, .ireturn, 1), (167, .iload_n 1, 1), (168, .iload_n 2, 1), (169, .if_icmp .le 7, 3), (172, .iconst 1, 1), (173, .goto 4, 3), (176, .iconst 0, 1), (177, .ireturn, 1), (178, .iload_n 1, 1), (179, .iload_n 2, 1), (180, .if_icmp .ne 7, 3), (183, .iconst 1, 1), (184, .goto 4, 3), (187, .iconst 0, 1), (188, .ireturn, 1), (189, .iload_n 1, 1), (190, .ifCond .eq 11, 3), (193, .iload_n 2, 1), (194, .ifCond .eq 7, 3), (197, .iconst 1, 1), (198, .goto 4, 3), (201, .iconst 0, 1), (202, .ireturn, 1), (203, .iload_n 1, 1), (204, .ifCond .ne 7, 3), (207, .iload_n 2, 1), (208, .ifCond .eq 7, 3), (211, .iconst 1, 1), (212, .goto 4, 3), (215, .iconst 0, 1), (216, .ireturn, 1)]
set_option maxRecDepth 100000 in
theorem nhD_204_ok : nh_dtB prog_14_method_34_code nhD_204 = true := by decide +kernel
def nhD_205 : nhDt := [(0, .iconst 0, 1), (1, .istore_n 2, 1), (2, .iconst 0, 1), (3, .istore_n 3, 1), (4, .iload_n 3, 1), (5, .aload_n 0, 1), (6, .invokevirtual 340, 3), (9, .if_icmp .ge 27, 3), (12, .aload_n 0, 1), (13, .getfield 85, 3), (16, .iconst 0, 1), (17, .iload_n 3, 1), (18, .iadd, 1), (19, .iaload, 1), (20, .iload_n 1, 1), (21, .if_icmp .ne 9, 3), (24, .iload_n 2, 1), (25, .iconst 1, 1), (26, .iload_n 3, 1), (27, .ishl, 1), (28, .ior, 1), (29, .istore_n 2, 1), (30, .iinc 3 1, 3), (33, .goto (-29), 3), (36, .iload_n 2, 1), (37, .ireturn, 1)]
set_option maxRecDepth 100000 in
theorem nhD_205_ok : nh_dtB prog_14_method_56_code nhD_205 = true := by decide +kernel
def nhD_206 : nhDt := [(0, .aload_n 0, 1), (1, .iload_n 1, 1), (2, .invokevirtual 407, 3), (5, .ifCond .ne 5, 3), (8, .iconst (-1), 1), (9, .ireturn, 1), (10, .iload_n 2, 1), (11, .tableswitch 54 0 2 #[25, 35, 41], 25), (36, .aload_n 0, 1), (37, .getfield 85, 3), (40, .bipush 19, 2), (42, .iload_n 1, 1), (43, .iadd, 1), (44, .iaload, 1), (45, .ireturn, 1), (46, .aload_n 0, 1), (47, .iload_n 1, 1), (48, .invokevirtual 392, 3), (51, .ireturn, 1), (52, .aload_n 0, 1), (53, .iload_n 1, 1), (54, .aload_n 0, 1), (55, .getfield 85, 3), (58, .bipush 15, 2), (60, .iaload, 1), (61, .invokevirtual 377, 3), (64, .ireturn, 1), (65, .iconst (-1), 1), (66, .ireturn, 1)]
set_option maxRecDepth 100000 in
theorem nhD_206_ok : nh_dtB prog_14_method_65_code nhD_206 = true := by decide +kernel
def nhD_207 : nhDt := [(0, .iload_n 1, 1), (1, .iconst 0, 1), (2, .aload_n 0, 1), (3, .invokevirtual 347, 3), (6, .iconst 1, 1), (7, .isub, 1), (8, .invokestatic 343, 3), (11, .ireturn, 1)]
set_option maxRecDepth 100000 in
theorem nhD_207_ok : nh_dtB prog_14_method_47_code nhD_207 = true := by decide +kernel
def nhD_208 : nhDt := [(0, .aload_n 0, 1), (1, .getfield 20, 3), (4, .aload_n 0, 1), (5, .getfield 247, 3), (8, .iaload, 1), (9, .aload_n 0, 1), (10, .getfield 24, 3), (13, .aload_n 0, 1), (14, .getfield 247, 3), (17, .iaload, 1), (18, .imul, 1), (19, .ireturn, 1)]
set_option maxRecDepth 100000 in
theorem nhD_208_ok : nh_dtB prog_14_method_45_code nhD_208 = true := by decide +kernel
def nhD_209 : nhDt := [(0, .iload_n 1, 1), (1, .aload_n 0, 1), (2, .getfield 20, 3), (5, .aload_n 0, 1), (6, .getfield 247, 3), (9, .iaload, 1), (10, .irem, 1), (11, .iload_n 2, 1), (12, .aload_n 0, 1), (13, .getfield 20, 3), (16, .aload_n 0, 1), (17, .getfield 247, 3), (20, .iaload, 1), (21, .irem, 1), (22, .isub, 1), (23, .invokestatic 368, 3), (26, .iload_n 1, 1), (27, .aload_n 0, 1), (28, .getfield 20, 3), (31, .aload_n 0, 1), (32, .getfield 247, 3), (35, .iaload, 1), (36, .idiv, 1), (37, .iload_n 2, 1), (38, .aload_n 0, 1), (39, .getfield 20, 3), (42, .aload_n 0, 1), (43, .getfield 247, 3), (46, .iaload, 1), (47, .idiv, 1), (48, .isub, 1), (49, .invokestatic 368, 3), (52, .iadd, 1), (53, .ireturn, 1)]
set_option maxRecDepth 100000 in
theorem nhD_209_ok : nh_dtB prog_14_method_52_code nhD_209 = true := by decide +kernel
def nhD_210 : nhDt := [(0, .iload_n 0, 1), (1, .ifCond .ge 8, 3), (4, .iload_n 0, 1), (5, .ineg, 1), (6, .goto 4, 3), (9, .iload_n 0, 1), (10, .ireturn, 1)]
set_option maxRecDepth 100000 in
theorem nhD_210_ok : nh_dtB prog_14_method_39_code nhD_210 = true := by decide +kernel
def nhD_211 : nhDt := [(0, .aload_n 0, 1), (1, .aload_n 0, 1), (2, .getfield 42, 3), (5, .aload_n 0, 1), (6, .getfield 247, 3), (9, .iaload, 1), (10, .invokevirtual 383, 3), (13, .ireturn, 1)]
set_option maxRecDepth 100000 in
theorem nhD_211_ok : nh_dtB prog_14_method_66_code nhD_211 = true := by decide +kernel
def nhD_212 : nhDt := [(0, .iconst 0, 1), (1, .istore_n 2, 1), (2, .iconst 0, 1), (3, .istore_n 3, 1), (4, .iload_n 3, 1), (5, .aload_n 0, 1), (6, .invokevirtual 340, 3), (9, .if_icmp .ge 38, 3), (12, .aload_n 0, 1), (13, .aload_n 0, 1), (14, .getfield 85, 3), (17, .iconst 0, 1), (18, .iload_n 3, 1), (19, .iadd, 1), (20, .iaload, 1), (21, .aload_n 0, 1), (22, .getfield 85, 3), (25, .bipush 15, 2), (27, .iaload, 1), (28, .invokevirtual 377, 3), (31, .iload_n 1, 1), (32, .if_icmp .gt 9, 3), (35, .iload_n 2, 1), (36, .iconst 1, 1), (37, .iload_n 3, 1), (38, .ishl, 1), (39, .ior, 1), (40, .istore_n 2, 1), (41, .iinc 3 1, 3), (44, .goto (-40), 3), (47, .iload_n 2, 1), (48, .ireturn, 1)]
set_option maxRecDepth 100000 in
theorem nhD_212_ok : nh_dtB prog_14_method_58_code nhD_212 = true := by decide +kernel
def nhD_213 : nhDt := [(0, .iload_n 1, 1), (1, .iconst 0, 1), (2, .bipush 99, 2), (4, .invokestatic 343, 3), (7, .ifCond .eq 14, 3), (10, .aload_n 0, 1), (11, .iload_n 1, 1), (12, .invokevirtual 383, 3), (15, .invokestatic 395, 3), (18, .goto 4, 3), (21, .iconst (-1), 1), (22, .ireturn, 1)]
set_option maxRecDepth 100000 in
theorem nhD_213_ok : nh_dtB prog_14_method_67_code nhD_213 = true := by decide +kernel
def nhD_214 : nhDt := [(0, .iconst 0, 1), (1, .istore_n 1, 1), (2, .iload_n 0, 1), (3, .istore_n 2, 1), (4, .iload_n 2, 1), (5, .ifCond .eq 15, 3), (8, .iinc 1 1, 3), (11, .iload_n 2, 1), (12, .iload_n 2, 1), (13, .iconst 1, 1), (14, .isub, 1), (15, .iand, 1), (16, .istore_n 2, 1), (17, .goto (-13), 3), (20, .iload_n 1, 1), (21, .ireturn, 1)]
set_option maxRecDepth 100000 in
theorem nhD_214_ok : nh_dtB prog_14_method_41_code nhD_214 = true := by decide +kernel
def nhD_215 : nhDt := [(0, .aload_n 0, 1), (1, .invokevirtual 410, 3), (4, .ireturn, 1)]
set_option maxRecDepth 100000 in
theorem nhD_215_ok : nh_dtB prog_14_method_68_code nhD_215 = true := by decide +kernel
def nhD_216 : nhDt := [(0, .iconst 0, 1), (1, .istore_n 1, 1), (2, .iconst 0, 1), (3, .istore_n 2, 1), (4, .iload_n 2, 1), (5, .aload_n 0, 1), (6, .invokevirtual 340, 3), (9, .if_icmp .ge 31, 3), (12, .aload_n 0, 1), (13, .getfield 85, 3), (16, .iconst 0, 1), (17, .iload_n 2, 1), (18, .iadd, 1), (19, .iaload, 1), (20, .aload_n 0, 1), (21, .iload_n 2, 1), (22, .invokevirtual 365, 3), (25, .if_icmp .ne 9, 3), (28, .iload_n 1, 1), (29, .iconst 1, 1), (30, .iload_n 2, 1), (31, .ishl, 1), (32, .ior, 1), (33, .istore_n 1, 1), (34, .iinc 2 1, 3), (37, .goto (-33), 3), (40, .iload_n 1, 1), (41, .ireturn, 1)]
set_option maxRecDepth 100000 in
theorem nhD_216_ok : nh_dtB prog_14_method_57_code nhD_216 = true := by decide +kernel
def nhD_217 : nhDt := [(0, .iconst (-1), 1), (1, .istore_n 1, 1), (2, .iconst 0, 1), (3, .istore_n 2, 1), (4, .iload_n 2, 1), (5, .aload_n 0, 1), (6, .invokevirtual 340, 3), (9, .if_icmp .ge 34, 3), (12, .iload_n 1, 1), (13, .ifCond .lt 22, 3), (16, .aload_n 0, 1), (17, .getfield 85, 3), (20, .iconst 5, 1), (21, .iload_n 2, 1), (22, .iadd, 1), (23, .iaload, 1), (24, .aload_n 0, 1), (25, .getfield 85, 3), (28, .iconst 5, 1), (29, .iload_n 1, 1), (30, .iadd, 1), (31, .iaload, 1), (32, .if_icmp .le 5, 3), (35, .iload_n 2, 1), (36, .istore_n 1, 1), (37, .iinc 2 1, 3), (40, .goto (-36), 3), (43, .iload_n 1, 1), (44, .ireturn, 1)]
set_option maxRecDepth 100000 in
theorem nhD_217_ok : nh_dtB prog_14_method_69_code nhD_217 = true := by decide +kernel
def nhD_218 : nhDt := [(0, .aload_n 0, 1), (1, .iload_n 1, 1), (2, .invokevirtual 404, 3), (5, .ifCond .ne 5, 3), (8, .iconst (-1), 1), (9, .ireturn, 1), (10, .iconst 0, 1), (11, .istore_n 2, 1), (12, .iconst 0, 1), (13, .istore_n 3, 1), (14, .iload_n 3, 1), (15, .iconst 5, 1), (16, .if_icmp .ge 57, 3), (19, .aload_n 0, 1), (20, .aload_n 0, 1), (21, .aload_n 0, 1), (22, .getfield 85, 3), (25, .iconst 0, 1), (26, .iload_n 1, 1), (27, .iadd, 1), (28, .iaload, 1), (29, .iload_n 3, 1), (30, .invokevirtual 374, 3), (33, .aload_n 0, 1), (34, .iload_n 1, 1), (35, .invokevirtual 365, 3), (38, .invokevirtual 377, 3), (41, .aload_n 0, 1), (42, .aload_n 0, 1), (43, .getfield 85, 3), (46, .iconst 0, 1), (47, .iload_n 1, 1), (48, .iadd, 1), (49, .iaload, 1), (50, .aload_n 0, 1), (51, .iload_n 1, 1), (52, .invokevirtual 365, 3), (55, .invokevirtual 377, 3), (58, .if_icmp .ge 9, 3), (61, .iload_n 2, 1), (62, .iconst 1, 1), (63, .iload_n 3, 1), (64, .ishl, 1), (65, .ior, 1), (66, .istore_n 2, 1), (67, .iinc 3 1, 3), (70, .goto (-56), 3), (73, .iload_n 2, 1), (74, .ireturn, 1)]
set_option maxRecDepth 100000 in
theorem nhD_218_ok : nh_dtB prog_14_method_70_code nhD_218 = true := by decide +kernel
def nhD_219 : nhDt := [(0, .iload_n 1, 1), (1, .aload_n 0, 1), (2, .getfield 20, 3), (5, .aload_n 0, 1), (6, .getfield 247, 3), (9, .iaload, 1), (10, .irem, 1), (11, .iload_n 2, 1), (12, .iconst 2, 1), (13, .if_icmp .ne 7, 3), (16, .iconst 1, 1), (17, .goto 13, 3), (20, .iload_n 2, 1), (21, .iconst 4, 1), (22, .if_icmp .ne 7, 3), (25, .iconst (-1), 1), (26, .goto 4, 3), (29, .iconst 0, 1), (30, .iadd, 1), (31, .istore_n 3, 1), (32, .iload_n 1, 1), (33, .aload_n 0, 1), (34, .getfield 20, 3), (37, .aload_n 0, 1), (38, .getfield 247, 3), (41, .iaload, 1), (42, .idiv, 1), (43, .iload_n 2, 1), (44, .iconst 3, 1), (45, .if_icmp .ne 7, 3), (48, .iconst 1, 1), (49, .goto 13, 3), (52, .iload_n 2, 1), (53, .iconst 1, 1), (54, .if_icmp .ne 7, 3), (57, .iconst (-1), 1), (58, .goto 4, 3), (61, .iconst 0, 1), (62, .iadd, 1), (63, .istore 4, 2), (65, .iload_n 3, 1), (66, .iconst 0, 1), (67, .aload_n 0, 1), (68, .getfield 20, 3), (71, .aload_n 0, 1), (72, .getfield 247, 3), (75, .iaload, 1), (76, .iconst 1, 1), (77, .isub, 1), (78, .invokestatic 343, 3), (81, .ifCond .eq 23, 3), (84, .iload 4, 2), (86, .iconst 0, 1), (87, .aload_n 0, 1), (88, .getfield 24, 3), (91, .aload_n 0, 1), (92, .getfield 247, 3), (95, .iaload, 1), (96, .iconst 1, 1), (97, .isub, 1), (98, .invokestatic 343, 3), (101, .ifCond .ne 5, 3), (104, .iload_n 1, 1), (105, .ireturn, 1), (106, .iload 4, 2), (108, .aload_n 0, 1), (109, .getfield 20, 3), (112, .aload_n 0, 1), (113, .getfield 247, 3), (116, .iaload, 1), (117, .imul, 1), (118, .iload_n 3, 1), (119, .iadd, 1), (120, .istore 5, 2), (122, .aload_n 0, 1), (123, .getfield 85, 3), (126, .bipush 19, 2), (128, .iload 5, 2), (130, .iadd, 1), (131, .iaload, 1), (132, .iconst 1, 1), (133, .if_icmp .ne 7, 3), (136, .iload_n 1, 1), (137, .goto 5, 3), (140, .iload 5, 2), (142, .ireturn, 1)]
set_option maxRecDepth 100000 in
theorem nhD_219_ok : nh_dtB prog_14_method_53_code nhD_219 = true := by decide +kernel
def nhD_220 : nhDt := [(0, .iload_n 1, 1), (1, .iconst 0, 1), (2, .iconst 2, 1), (3, .invokestatic 343, 3), (6, .ifCond .ne 5, 3), (9, .iconst (-1), 1), (10, .ireturn, 1), (11, .iconst (-1), 1), (12, .istore_n 2, 1), (13, .sipush 1000, 3), (16, .istore_n 3, 1), (17, .iconst 0, 1), (18, .istore 4, 2), (20, .iload 4, 2), (22, .bipush 25, 2), (24, .if_icmp .ge 92, 3), (27, .iload 4, 2), (29, .iconst 5, 1), (30, .idiv, 1), (31, .istore 5, 2), (33, .iload 4, 2), (35, .iconst 5, 1), (36, .irem, 1), (37, .istore 6, 2), (39, .iload 5, 2), (41, .iload 6, 2), (43, .if_icmp .ge 67, 3), (46, .aload_n 0, 1), (47, .iload 6, 2), (49, .invokevirtual 404, 3), (52, .ifCond .eq 58, 3), (55, .aload_n 0, 1), (56, .aload_n 0, 1), (57, .getfield 85, 3), (60, .iconst 0, 1), (61, .iload 5, 2), (63, .iadd, 1), (64, .iaload, 1), (65, .aload_n 0, 1), (66, .getfield 85, 3), (69, .iconst 0, 1), (70, .iload 6, 2), (72, .iadd, 1), (73, .iaload, 1), (74, .invokevirtual 377, 3), (77, .iload_n 3, 1), (78, .if_icmp .lt 6, 3), (81, .goto 29, 3), (84, .iload 4, 2), (86, .istore_n 2, 1), (87, .aload_n 0, 1), (88, .aload_n 0, 1), (89, .getfield 85, 3), (92, .iconst 0, 1), (93, .iload 5, 2), (95, .iadd, 1), (96, .iaload, 1), (97, .aload_n 0, 1), (98, .getfield 85, 3), (101, .iconst 0, 1), (102, .iload 6, 2), (104, .iadd, 1), (105, .iaload, 1), (106, .invokevirtual 377, 3), (109, .istore_n 3, 1), (110, .iinc 4 1, 3), (113, .goto (-93), 3), (116, .iload_n 2, 1), (117, .ifCond .ge 7, 3), (120, .iconst (-1), 1), (121, .goto 25, 3), (124, .iload_n 1, 1), (125, .ifCond .ne 9, 3), (128, .iload_n 2, 1), (129, .iconst 5, 1), (130, .idiv, 1), (131, .goto 15, 3), (134, .iload_n 1, 1), (135, .iconst 1, 1), (136, .if_icmp .ne 9, 3), (139, .iload_n 2, 1), (140, .iconst 5, 1), (141, .irem, 1), (142, .goto 4, 3), (145, .iload_n 3, 1), (146, .ireturn, 1)]
set_option maxRecDepth 100000 in
theorem nhD_220_ok : nh_dtB prog_14_method_71_code nhD_220 = true := by decide +kernel
def nhD_221 : nhDt := [(0, .iload_n 1, 1), (1, .iconst 0, 1), (2, .iconst 2, 1), (3, .invokestatic 343, 3), (6, .ifCond .ne 5, 3), (9, .iconst (-1), 1), (10, .ireturn, 1), (11, .iconst (-1), 1), (12, .istore_n 2, 1), (13, .aload_n 0, 1), (14, .invokevirtual 410, 3), (17, .invokestatic 395, 3), (20, .istore_n 3, 1), (21, .iconst 0, 1), (22, .istore 4, 2), (24, .iload 4, 2), (26, .bipush 25, 2), (28, .if_icmp .ge 80, 3), (31, .iload 4, 2), (33, .iconst 5, 1), (34, .idiv, 1), (35, .istore 5, 2), (37, .iload 4, 2), (39, .iconst 5, 1), (40, .irem, 1), (41, .istore 6, 2), (43, .iload 5, 2), (45, .iload 6, 2), (47, .if_icmp .ge 55, 3), (50, .aload_n 0, 1), (51, .iload 6, 2), (53, .invokevirtual 404, 3), (56, .ifCond .ne 6, 3), (59, .goto 43, 3), (62, .aload_n 0, 1), (63, .iload 5, 2), (65, .iload 6, 2), (67, .invokevirtual 413, 3), (70, .aload_n 0, 1), (71, .invokevirtual 410, 3), (74, .invokestatic 395, 3), (77, .istore 7, 2), (79, .aload_n 0, 1), (80, .iload 5, 2), (82, .iload 6, 2), (84, .invokevirtual 413, 3), (87, .iload 7, 2), (89, .iload_n 3, 1), (90, .if_icmp .gt 6, 3), (93, .goto 9, 3), (96, .iload 4, 2), (98, .istore_n 2, 1), (99, .iload 7, 2), (101, .istore_n 3, 1), (102, .iinc 4 1, 3), (105, .goto (-81), 3), (108, .iload_n 2, 1), (109, .ifCond .ge 7, 3), (112, .iconst (-1), 1), (113, .goto 25, 3), (116, .iload_n 1, 1), (117, .ifCond .ne 9, 3), (120, .iload_n 2, 1), (121, .iconst 5, 1), (122, .idiv, 1), (123, .goto 15, 3), (126, .iload_n 1, 1), (127, .iconst 1, 1), (128, .if_icmp .ne 9, 3), (131, .iload_n 2, 1), (132, .iconst 5, 1), (133, .irem, 1), (134, .goto 4, 3), (137, .iload_n 3, 1), (138, .ireturn, 1)]
set_option maxRecDepth 100000 in
theorem nhD_221_ok : nh_dtB prog_14_method_73_code nhD_221 = true := by decide +kernel
def nhD_222 : nhDt := [(0, .aload_n 0, 1), (1, .getfield 85, 3), (4, .iconst 0, 1), (5, .iload_n 1, 1), (6, .iadd, 1), (7, .iaload, 1), (8, .istore_n 3, 1), (9, .aload_n 0, 1), (10, .getfield 85, 3), (13, .iconst 0, 1), (14, .iload_n 1, 1), (15, .iadd, 1), (16, .aload_n 0, 1), (17, .getfield 85, 3), (20, .iconst 0, 1), (21, .iload_n 2, 1), (22, .iadd, 1), (23, .iaload, 1), (24, .iastore, 1), (25, .aload_n 0, 1), (26, .getfield 85, 3), (29, .iconst 0, 1), (30, .iload_n 2, 1), (31, .iadd, 1), (32, .iload_n 3, 1), (33, .iastore, 1), (34, .return_, 1)]
set_option maxRecDepth 100000 in
theorem nhD_222_ok : nh_dtB prog_14_method_72_code nhD_222 = true := by decide +kernel
def nhD_223 : nhDt := [(0, .aload_n 0, 1), (1, .getfield 85, 3), (4, .bipush 16, 2), (6, .iaload, 1), (7, .sipush 999, 3), (10, .if_icmp .ne 5, 3), (13, .iconst (-1), 1), (14, .ireturn, 1), (15, .aload_n 0, 1), (16, .invokevirtual 416, 3), (19, .aload_n 0, 1), (20, .aload_n 0, 1), (21, .getfield 42, 3), (24, .aload_n 0, 1), (25, .getfield 247, 3), (28, .iaload, 1), (29, .putfield 380, 3), (32, .aload_n 0, 1), (33, .iload_n 1, 1), (34, .invokevirtual 419, 3), (37, .ireturn, 1)]
set_option maxRecDepth 100000 in
theorem nhD_223_ok : nh_dtB prog_14_method_76_code nhD_223 = true := by decide +kernel
def nhD_224 : nhDt := [(0, .aload_n 0, 1), (1, .getfield 353, 3), (4, .bipush 40, 2), (6, .if_icmp .ne 43, 3), (9, .iconst 0, 1), (10, .istore_n 1, 1), (11, .iload_n 1, 1), (12, .sipush 2200, 3), (15, .if_icmp .ge 24, 3), (18, .aload_n 0, 1), (19, .getfield 94, 3), (22, .iload_n 1, 1), (23, .aload_n 0, 1), (24, .getfield 94, 3), (27, .iload_n 1, 1), (28, .bipush 55, 2), (30, .iadd, 1), (31, .iaload, 1), (32, .iastore, 1), (33, .iinc 1 1, 3), (36, .goto (-25), 3), (39, .aload_n 0, 1), (40, .dup, 1), (41, .getfield 353, 3), (44, .iconst 1, 1), (45, .isub, 1), (46, .putfield 353, 3), (49, .iconst 0, 1), (50, .istore_n 1, 1), (51, .iload_n 1, 1), (52, .bipush 55, 2), (54, .if_icmp .ge 29, 3), (57, .aload_n 0, 1), (58, .getfield 94, 3), (61, .bipush 55, 2), (63, .aload_n 0, 1), (64, .getfield 353, 3), (67, .imul, 1), (68, .iload_n 1, 1), (69, .iadd, 1), (70, .aload_n 0, 1), (71, .getfield 85, 3), (74, .iload_n 1, 1), (75, .iaload, 1), (76, .iastore, 1), (77, .iinc 1 1, 3), (80, .goto (-29), 3), (83, .aload_n 0, 1), (84, .dup, 1), (85, .getfield 353, 3), (88, .iconst 1, 1), (89, .iadd, 1), (90, .putfield 353, 3), (93, .aload_n 0, 1), (94, .iconst 0, 1), (95, .putfield 356, 3), (98, .return_, 1)]
set_option maxRecDepth 100000 in
theorem nhD_224_ok : nh_dtB prog_14_method_74_code nhD_224 = true := by decide +kernel
def nhD_225 : nhDt := [(0, .aload_n 0, 1), (1, .iload_n 1, 1), (2, .invokevirtual 398, 3), (5, .iconst 0, 1), (6, .istore_n 2, 1), (7, .iload_n 2, 1), (8, .aload_n 0, 1), (9, .invokevirtual 340, 3), (12, .if_icmp .ge 81, 3), (15, .aload_n 0, 1), (16, .getfield 85, 3), (19, .bipush 18, 2), (21, .sipush 137, 3), (24, .aload_n 0, 1), (25, .getfield 85, 3), (28, .bipush 18, 2), (30, .iaload, 1), (31, .imul, 1), (32, .bipush 71, 2), (34, .iadd, 1), (35, .sipush 1000, 3), (38, .irem, 1), (39, .iastore, 1), (40, .aload_n 0, 1), (41, .getfield 85, 3), (44, .bipush 18, 2), (46, .iaload, 1), (47, .bipush 100, 2), (49, .irem, 1), (50, .aload_n 0, 1), (51, .getfield 45, 3), (54, .aload_n 0, 1), (55, .getfield 247, 3), (58, .iaload, 1), (59, .if_icmp .ge 28, 3), (62, .aload_n 0, 1), (63, .getfield 85, 3), (66, .iconst 0, 1), (67, .iload_n 2, 1), (68, .iadd, 1), (69, .aload_n 0, 1), (70, .aload_n 0, 1), (71, .getfield 85, 3), (74, .iconst 0, 1), (75, .iload_n 2, 1), (76, .iadd, 1), (77, .iaload, 1), (78, .aload_n 0, 1), (79, .iload_n 2, 1), (80, .invokevirtual 389, 3), (83, .invokevirtual 374, 3), (86, .iastore, 1), (87, .iinc 2 1, 3), (90, .goto (-83), 3), (93, .aload_n 0, 1), (94, .invokevirtual 401, 3), (97, .ireturn, 1)]
set_option maxRecDepth 100000 in
theorem nhD_225_ok : nh_dtB prog_14_method_63_code nhD_225 = true := by decide +kernel
def nhD_226 : nhDt := [(0, .iload_n 1, 1), (1, .ifCond .eq 14, 3), (4, .aload_n 0, 1), (5, .aload_n 0, 1), (6, .getfield 380, 3), (9, .invokevirtual 383, 3), (12, .goto 4, 3), (15, .iconst 0, 1), (16, .istore_n 2, 1), (17, .iconst 0, 1), (18, .istore_n 3, 1), (19, .iload_n 3, 1), (20, .aload_n 0, 1), (21, .invokevirtual 340, 3), (24, .if_icmp .ge 62, 3), (27, .aload_n 0, 1), (28, .getfield 91, 3), (31, .iload_n 3, 1), (32, .iload_n 2, 1), (33, .iload_n 3, 1), (34, .invokestatic 253, 3), (37, .ifCond .eq 25, 3), (40, .aload_n 0, 1), (41, .aload_n 0, 1), (42, .getfield 85, 3), (45, .iconst 0, 1), (46, .iload_n 3, 1), (47, .iadd, 1), (48, .iaload, 1), (49, .aload_n 0, 1), (50, .getfield 85, 3), (53, .bipush 15, 2), (55, .iaload, 1), (56, .invokevirtual 386, 3), (59, .goto 20, 3), (62, .aload_n 0, 1), (63, .aload_n 0, 1), (64, .getfield 85, 3), (67, .iconst 0, 1), (68, .iload_n 3, 1), (69, .iadd, 1), (70, .iaload, 1), (71, .aload_n 0, 1), (72, .iload_n 3, 1), (73, .invokevirtual 389, 3), (76, .invokevirtual 374, 3), (79, .iastore, 1), (80, .iinc 3 1, 3), (83, .goto (-64), 3), (86, .iconst 0, 1), (87, .istore_n 3, 1), (88, .iload_n 3, 1), (89, .aload_n 0, 1), (90, .invokevirtual 340, 3), (93, .if_icmp .ge 23, 3), (96, .aload_n 0, 1), (97, .getfield 85, 3), (100, .iconst 0, 1), (101, .iload_n 3, 1), (102, .iadd, 1), (103, .aload_n 0, 1), (104, .getfield 91, 3), (107, .iload_n 3, 1), (108, .iaload, 1), (109, .iastore, 1), (110, .iinc 3 1, 3), (113, .goto (-25), 3), (116, .return_, 1)]
set_option maxRecDepth 100000 in
theorem nhD_226_ok : nh_dtB prog_14_method_60_code nhD_226 = true := by decide +kernel
def nhD_227 : nhDt := [(0, .iload_n 2, 1), (1, .aload_n 0, 1), (2, .getfield 20, 3), (5, .aload_n 0, 1), (6, .getfield 247, 3), (9, .iaload, 1), (10, .irem, 1), (11, .iload_n 1, 1), (12, .aload_n 0, 1), (13, .getfield 20, 3), (16, .aload_n 0, 1), (17, .getfield 247, 3), (20, .iaload, 1), (21, .irem, 1), (22, .isub, 1), (23, .istore_n 3, 1), (24, .iload_n 2, 1), (25, .aload_n 0, 1), (26, .getfield 20, 3), (29, .aload_n 0, 1), (30, .getfield 247, 3), (33, .iaload, 1), (34, .idiv, 1), (35, .iload_n 1, 1), (36, .aload_n 0, 1), (37, .getfield 20, 3), (40, .aload_n 0, 1), (41, .getfield 247, 3), (44, .iaload, 1), (45, .idiv, 1), (46, .isub, 1), (47, .istore 4, 2), (49, .iload_n 3, 1), (50, .ifCond .ne 7, 3), (53, .iload_n 1, 1), (54, .goto 17, 3), (57, .aload_n 0, 1), (58, .iload_n 1, 1), (59, .iload_n 3, 1), (60, .ifCond .le 7, 3), (63, .iconst 2, 1), (64, .goto 4, 3), (67, .iconst 4, 1), (68, .invokevirtual 374, 3), (71, .istore 5, 2), (73, .iload 5, 2), (75, .iload_n 1, 1), (76, .if_icmp .ne 8, 3), (79, .iload 4, 2), (81, .ifCond .ne 6, 3), (84, .iload 5, 2), (86, .ireturn, 1), (87, .aload_n 0, 1), (88, .iload_n 1, 1), (89, .iload 4, 2), (91, .ifCond .le 7, 3), (94, .iconst 3, 1), (95, .goto 4, 3), (98, .iconst 1, 1), (99, .invokevirtual 374, 3), (102, .ireturn, 1)]
set_option maxRecDepth 100000 in
theorem nhD_227_ok : nh_dtB prog_14_method_55_code nhD_227 = true := by decide +kernel
def nhD_228 : nhDt := [(0, .iconst 0, 1), (1, .istore_n 1, 1), (2, .iconst 0, 1), (3, .istore_n 2, 1), (4, .iload_n 2, 1), (5, .aload_n 0, 1), (6, .invokevirtual 340, 3), (9, .if_icmp .ge 62, 3), (12, .aload_n 0, 1), (13, .aload_n 0, 1), (14, .getfield 85, 3), (17, .iconst 0, 1), (18, .iload_n 2, 1), (19, .iadd, 1), (20, .iaload, 1), (21, .invokevirtual 392, 3), (24, .invokestatic 395, 3), (27, .iconst 2, 1), (28, .if_icmp .ge 6, 3), (31, .goto 34, 3), (34, .iload_n 1, 1), (35, .iconst 1, 1), (36, .iload_n 2, 1), (37, .ishl, 1), (38, .ior, 1), (39, .istore_n 1, 1), (40, .aload_n 0, 1), (41, .getfield 85, 3), (44, .iconst 5, 1), (45, .iload_n 2, 1), (46, .iadd, 1), (47, .iaload, 1), (48, .bipush 99, 2), (50, .if_icmp .ge 15, 3), (53, .aload_n 0, 1), (54, .getfield 85, 3), (57, .iconst 5, 1), (58, .iload_n 2, 1), (59, .iadd, 1), (60, .dup2, 1), (61, .iaload, 1), (62, .iconst 1, 1), (63, .iadd, 1), (64, .iastore, 1), (65, .iinc 2 1, 3), (68, .goto (-64), 3), (71, .aload_n 0, 1), (72, .getfield 85, 3), (75, .bipush 16, 2), (77, .dup2, 1), (78, .iaload, 1), (79, .iconst 1, 1), (80, .iadd, 1), (81, .iastore, 1), (82, .iload_n 1, 1), (83, .ireturn, 1)]
set_option maxRecDepth 100000 in
theorem nhD_228_ok : nh_dtB prog_14_method_61_code nhD_228 = true := by decide +kernel
def nhD_229 : nhDt := [(0, .iload_n 1, 1), (1, .iconst 1, 1), (2, .iconst 4, 1), (3, .invokestatic 343, 3), (6, .ifCond .eq 25, 3), (9, .aload_n 0, 1), (10, .aload_n 0, 1), (11, .getfield 85, 3), (14, .bipush 15, 2), (16, .iaload, 1), (17, .iload_n 1, 1), (18, .invokevirtual 374, 3), (21, .aload_n 0, 1), (22, .getfield 85, 3), (25, .bipush 15, 2), (27, .iaload, 1), (28, .if_icmp .ne 5, 3), (31, .iconst (-1), 1), (32, .ireturn, 1), (33, .aload_n 0, 1), (34, .invokevirtual 416, 3), (37, .aload_n 0, 1), (38, .getfield 85, 3), (41, .bipush 15, 2), (43, .aload_n 0, 1), (44, .aload_n 0, 1), (45, .getfield 85, 3), (48, .bipush 15, 2), (50, .iaload, 1), (51, .iload_n 1, 1), (52, .invokevirtual 374, 3), (55, .iastore, 1), (56, .aload_n 0, 1), (57, .getfield 85, 3), (60, .bipush 15, 2), (62, .iaload, 1), (63, .ireturn, 1)]
set_option maxRecDepth 100000 in
theorem nhD_229_ok : nh_dtB prog_14_method_77_code nhD_229 = true := by decide +kernel
def nhD_230 : nhDt := [(0, .aload_n 0, 1), (1, .getfield 85, 3), (4, .bipush 17, 2), (6, .iaload, 1), (7, .sipush 999, 3), (10, .if_icmp .ne 5, 3), (13, .iconst (-1), 1), (14, .ireturn, 1), (15, .aload_n 0, 1), (16, .invokevirtual 416, 3), (19, .iconst 1, 1), (20, .aload_n 0, 1), (21, .invokevirtual 340, 3), (24, .ishl, 1), (25, .iconst 1, 1), (26, .isub, 1), (27, .aload_n 0, 1), (28, .invokevirtual 410, 3), (31, .iconst (-1), 1), (32, .ixor, 1), (33, .iand, 1), (34, .istore_n 1, 1), (35, .iconst 0, 1), (36, .istore_n 2, 1), (37, .iload_n 2, 1), (38, .aload_n 0, 1), (39, .invokevirtual 340, 3), (42, .if_icmp .ge 44, 3), (45, .iload_n 1, 1), (46, .iload_n 2, 1), (47, .invokestatic 253, 3), (50, .ifCond .eq 30, 3), (53, .aload_n 0, 1), (54, .getfield 85, 3), (57, .bipush 10, 2), (59, .iload_n 2, 1), (60, .iadd, 1), (61, .iaload, 1), (62, .bipush 99, 2), (64, .if_icmp .ge 16, 3), (67, .aload_n 0, 1), (68, .getfield 85, 3), (71, .bipush 10, 2), (73, .iload_n 2, 1), (74, .iadd, 1), (75, .dup2, 1), (76, .iaload, 1), (77, .iconst 1, 1), (78, .iadd, 1), (79, .iastore, 1), (80, .iinc 2 1, 3), (83, .goto (-46), 3), (86, .aload_n 0, 1), (87, .getfield 85, 3), (90, .bipush 16, 2), (92, .iconst 0, 1), (93, .iastore, 1), (94, .aload_n 0, 1), (95, .getfield 85, 3), (98, .bipush 17, 2), (100, .dup2, 1), (101, .iaload, 1), (102, .iconst 1, 1), (103, .iadd, 1), (104, .iastore, 1), (105, .iload_n 1, 1), (106, .ireturn, 1)]
set_option maxRecDepth 100000 in
theorem nhD_230_ok : nh_dtB prog_14_method_78_code nhD_230 = true := by decide +kernel
def nhD_231 : nhDt := [(0, .aload_n 0, 1), (1, .iload_n 1, 1), (2, .invokevirtual 407, 3), (5, .ifCond .eq 20, 3), (8, .aload_n 0, 1), (9, .iload_n 1, 1), (10, .invokevirtual 422, 3), (13, .ifCond .eq 12, 3), (16, .aload_n 0, 1), (17, .invokevirtual 425, 3), (20, .bipush 12, 2), (22, .if_icmp .ne 5, 3), (25, .iconst (-1), 1), (26, .ireturn, 1), (27, .aload_n 0, 1), (28, .invokevirtual 416, 3), (31, .aload_n 0, 1), (32, .getfield 85, 3), (35, .bipush 19, 2), (37, .iload_n 1, 1), (38, .iadd, 1), (39, .iconst 1, 1), (40, .iastore, 1), (41, .aload_n 0, 1), (42, .invokevirtual 425, 3), (45, .ireturn, 1)]
set_option maxRecDepth 100000 in
theorem nhD_231_ok : nh_dtB prog_14_method_80_code nhD_231 = true := by decide +kernel
def nhD_232 : nhDt := [(0, .aload_n 0, 1), (1, .getfield 85, 3), (4, .bipush 19, 2), (6, .iload_n 1, 1), (7, .iadd, 1), (8, .iaload, 1), (9, .ifCond .ne 26, 3), (12, .aload_n 0, 1), (13, .iload_n 1, 1), (14, .invokevirtual 392, 3), (17, .ifCond .ne 18, 3), (20, .aload_n 0, 1), (21, .getfield 85, 3), (24, .bipush 15, 2), (26, .iaload, 1), (27, .iload_n 1, 1), (28, .if_icmp .eq 7, 3), (31, .iconst 1, 1), (32, .goto 4, 3), (35, .iconst 0, 1), (36, .ireturn, 1)]
set_option maxRecDepth 100000 in
theorem nhD_232_ok : nh_dtB prog_14_method_79_code nhD_232 = true := by decide +kernel
def nhD_233 : nhDt := [(0, .iconst 0, 1), (1, .istore_n 1, 1), (2, .iconst 0, 1), (3, .istore_n 2, 1), (4, .iload_n 2, 1), (5, .bipush 36, 2), (7, .if_icmp .ge 21, 3), (10, .iload_n 1, 1), (11, .aload_n 0, 1), (12, .getfield 85, 3), (15, .bipush 19, 2), (17, .iload_n 2, 1), (18, .iadd, 1), (19, .iaload, 1), (20, .iadd, 1), (21, .istore_n 1, 1), (22, .iinc 2 1, 3), (25, .goto (-21), 3), (28, .iload_n 1, 1), (29, .ireturn, 1)]
set_option maxRecDepth 100000 in
theorem nhD_233_ok : nh_dtB prog_14_method_59_code nhD_233 = true := by decide +kernel
def nhD_234 : nhDt := [(0, .aload_n 0, 1), (1, .iload_n 1, 1), (2, .invokevirtual 407, 3), (5, .ifCond .eq 15, 3), (8, .aload_n 0, 1), (9, .getfield 85, 3), (12, .bipush 19, 2), (14, .iload_n 1, 1), (15, .iadd, 1), (16, .iaload, 1), (17, .ifCond .ne 5, 3), (20, .iconst (-1), 1), (21, .ireturn, 1), (22, .aload_n 0, 1), (23, .invokevirtual 416, 3), (26, .aload_n 0, 1), (27, .getfield 85, 3), (30, .bipush 19, 2), (32, .iload_n 1, 1), (33, .iadd, 1), (34, .iconst 0, 1), (35, .iastore, 1), (36, .aload_n 0, 1), (37, .invokevirtual 425, 3), (40, .ireturn, 1)]
set_option maxRecDepth 100000 in
theorem nhD_234_ok : nh_dtB prog_14_method_81_code nhD_234 = true := by decide +kernel
def nhD_235 : nhDt := [(0, .aload_n 0, 1), (1, .getfield 353, 3), (4, .ifCond .ne 5, 3), (7, .iconst 0, 1), (8, .ireturn, 1), (9, .aload_n 0, 1), (10, .dup, 1), (11, .getfield 353, 3), (14, .iconst 1, 1), (15, .isub, 1), (16, .putfield 353, 3), (19, .aload_n 0, 1), (20, .dup, 1), (21, .getfield 356, 3), (24, .iconst 1, 1), (25, .iadd, 1), (26, .putfield 356, 3), (29, .aload_n 0, 1), (30, .invokevirtual 428, 3), (33, .iconst 1, 1), (34, .ireturn, 1)]
set_option maxRecDepth 100000 in
theorem nhD_235_ok : nh_dtB prog_14_method_82_code nhD_235 = true := by decide +kernel
def nhD_236 : nhDt := [(0, .iconst 0, 1), (1, .istore_n 1, 1), (2, .iload_n 1, 1), (3, .bipush 55, 2), (5, .if_icmp .ge 51, 3), (8, .aload_n 0, 1), (9, .getfield 94, 3), (12, .bipush 55, 2), (14, .aload_n 0, 1), (15, .getfield 353, 3), (18, .imul, 1), (19, .iload_n 1, 1), (20, .iadd, 1), (21, .iaload, 1), (22, .istore_n 2, 1), (23, .aload_n 0, 1), (24, .getfield 94, 3), (27, .bipush 55, 2), (29, .aload_n 0, 1), (30, .getfield 353, 3), (33, .imul, 1), (34, .iload_n 1, 1), (35, .iadd, 1), (36, .aload_n 0, 1), (37, .getfield 85, 3), (40, .iload_n 1, 1), (41, .iaload, 1), (42, .iastore, 1), (43, .aload_n 0, 1), (44, .getfield 85, 3), (47, .iload_n 1, 1), (48, .iload_n 2, 1), (49, .iastore, 1), (50, .iinc 1 1, 3), (53, .goto (-51), 3), (56, .return_, 1)]
set_option maxRecDepth 100000 in
theorem nhD_236_ok : nh_dtB prog_14_method_75_code nhD_236 = true := by decide +kernel
def nhD_237 : nhDt := [(0, .aload_n 0, 1), (1, .getfield 356, 3), (4, .ifCond .ne 5, 3), (7, .iconst 0, 1), (8, .ireturn, 1), (9, .aload_n 0, 1), (10, .invokevirtual 428, 3), (13, .aload_n 0, 1), (14, .dup, 1), (15, .getfield 353, 3), (18, .iconst 1, 1), (19, .iadd, 1), (20, .putfield 353, 3), (23, .aload_n 0, 1), (24, .dup, 1), (25, .getfield 356, 3), (28, .iconst 1, 1), (29, .isub, 1), (30, .putfield 356, 3), (33, .iconst 1, 1), (34, .ireturn, 1)]
set_option maxRecDepth 100000 in
theorem nhD_237_ok : nh_dtB prog_14_method_83_code nhD_237 = true := by decide +kernel
def nhD_238 : nhDt := [(0, .iload_n 1, 1), (1, .iconst 0, 1), (2, .aload_n 0, 1), (3, .getfield 362, 3), (6, .iconst 1, 1), (7, .isub, 1), (8, .invokestatic 343, 3), (11, .ifCond .eq 12, 3), (14, .aload_n 0, 1), (15, .getfield 100, 3), (18, .iload_n 1, 1), (19, .iaload, 1), (20, .goto 4, 3), (23, .iconst (-1), 1), (24, .ireturn, 1)]
set_option maxRecDepth 100000 in
theorem nhD_238_ok : nh_dtB prog_14_method_84_code nhD_238 = true := by decide +kernel
def nhD_239 : nhDt := [(0, .aload_n 0, 1), (1, .iload_n 1, 1), (2, .invokevirtual 404, 3), (5, .ifCond .eq 19, 3), (8, .iload_n 2, 1), (9, .invokestatic 434, 3), (12, .ifCond .eq 12, 3), (15, .iload_n 3, 1), (16, .iconst 0, 1), (17, .iconst 2, 1), (18, .invokestatic 343, 3), (21, .ifCond .ne 5, 3), (24, .iconst (-1), 1), (25, .ireturn, 1), (26, .aload_n 0, 1), (27, .invokevirtual 437, 3), (30, .iconst 0, 1), (31, .istore 4, 2), (33, .iconst 0, 1), (34, .istore 5, 2), (36, .iload 5, 2), (38, .iload_n 2, 1), (39, .if_icmp .ge 38, 3), (42, .iload_n 3, 1), (43, .iconst 1, 1), (44, .if_icmp .ne 11, 3), (47, .aload_n 0, 1), (48, .iconst 0, 1), (49, .invokevirtual 419, 3), (52, .goto 17, 3), (55, .aload_n 0, 1), (56, .iload_n 3, 1), (57, .iconst 2, 1), (58, .if_icmp .ne 7, 3), (61, .iconst 1, 1), (62, .goto 4, 3), (65, .iconst 0, 1), (66, .invokevirtual 431, 3), (69, .istore 4, 2), (71, .iinc 5 1, 3), (74, .goto (-38), 3), (77, .aload_n 0, 1), (78, .getfield 85, 3), (81, .iconst 0, 1), (82, .iload_n 1, 1), (83, .iadd, 1), (84, .iaload, 1), (85, .istore 5, 2), (87, .aload_n 0, 1), (88, .invokevirtual 440, 3), (91, .iload 5, 2), (93, .ireturn, 1)]
set_option maxRecDepth 100000 in
theorem nhD_239_ok : nh_dtB prog_14_method_88_code nhD_239 = true := by decide +kernel
def nhDc_5 : List nhDt := [nhD_200, nhD_201, nhD_202, nhD_203, nhD_204, nhD_205, nhD_206, nhD_207, nhD_208, nhD_209, nhD_210, nhD_211, nhD_212, nhD_213, nhD_214, nhD_215, nhD_216, nhD_217, nhD_218, nhD_219, nhD_220, nhD_221, nhD_222, nhD_223, nhD_224, nhD_225, nhD_226, nhD_227, nhD_228, nhD_229, nhD_230, nhD_231, nhD_232, nhD_233, nhD_234, nhD_235, nhD_236, nhD_237, nhD_238, nhD_239]
set_option maxRecDepth 100000 in
theorem nhDz_5 : nhZ nhMt_5 nhDc_5 := ⟨nhD_200_ok, nhD_201_ok, nhD_202_ok, nhD_203_ok, nhD_204_ok, nhD_205_ok, nhD_206_ok, nhD_207_ok, nhD_208_ok, nhD_209_ok, nhD_210_ok, nhD_211_ok, nhD_212_ok, nhD_213_ok, nhD_214_ok, nhD_215_ok, nhD_216_ok, nhD_217_ok, nhD_218_ok, nhD_219_ok, nhD_220_ok, nhD_221_ok, nhD_222_ok, nhD_223_ok, nhD_224_ok, nhD_225_ok, nhD_226_ok, nhD_227_ok, nhD_228_ok, nhD_229_ok, nhD_230_ok, nhD_231_ok, nhD_232_ok, nhD_233_ok, nhD_234_ok, nhD_235_ok, nhD_236_ok, nhD_237_ok, nhD_238_ok, nhD_239_ok, trivial⟩
def nhD_240 : nhDt := [(0, .iload_n 0, 1), (1, .ifCond .lt 13, 3), (4, .iload_n 0, 1), (5, .bipush 60, 2), (7, .if_icmp .gt 7, 3), (10, .iconst 1, 1), (11, .goto 4, 3), (14, .iconst 0, 1), (15, .ireturn, 1)]
set_option maxRecDepth 100000 in
theorem nhD_240_ok : nh_dtB prog_14_method_49_code nhD_240 = true := by decide +kernel
def nhD_241 : nhDt := [(0, .iconst 0, 1), (1, .istore_n 1, 1), (2, .iload_n 1, 1), (3, .bipush 55, 2), (5, .if_icmp .ge 21, 3), (8, .aload_n 0, 1), (9, .getfield 97, 3), (12, .iload_n 1, 1), (13, .aload_n 0, 1), (14, .getfield 85, 3), (17, .iload_n 1, 1), (18, .iaload, 1), (19, .iastore, 1), (20, .iinc 1 1, 3), (23, .goto (-21), 3), (26, .aload_n 0, 1), (27, .aload_n 0, 1), (28, .getfield 42, 3), (31, .aload_n 0, 1), (32, .getfield 247, 3), (35, .iaload, 1), (36, .putfield 380, 3), (39, .return_, 1)]
set_option maxRecDepth 100000 in
theorem nhD_241_ok : nh_dtB prog_14_method_85_code nhD_241 = true := by decide +kernel
def nhD_242 : nhDt := [(0, .aload_n 0, 1), (1, .iload_n 1, 1), (2, .invokevirtual 398, 3), (5, .aload_n 0, 1), (6, .invokevirtual 401, 3), (9, .ireturn, 1)]
set_option maxRecDepth 100000 in
theorem nhD_242_ok : nh_dtB prog_14_method_62_code nhD_242 = true := by decide +kernel
def nhD_243 : nhDt := [(0, .iconst 0, 1), (1, .istore_n 1, 1), (2, .iload_n 1, 1), (3, .bipush 55, 2), (5, .if_icmp .ge 21, 3), (8, .aload_n 0, 1), (9, .getfield 85, 3), (12, .iload_n 1, 1), (13, .aload_n 0, 1), (14, .getfield 97, 3), (17, .iload_n 1, 1), (18, .iaload, 1), (19, .iastore, 1), (20, .iinc 1 1, 3), (23, .goto (-21), 3), (26, .return_, 1)]
set_option maxRecDepth 100000 in
theorem nhD_243_ok : nh_dtB prog_14_method_86_code nhD_243 = true := by decide +kernel
def nhD_244 : nhDt := [(0, .aload_n 0, 1), (1, .iload_n 1, 1), (2, .invokevirtual 404, 3), (5, .ifCond .ne 5, 3), (8, .iconst (-1), 1), (9, .ireturn, 1), (10, .aload_n 0, 1), (11, .invokevirtual 437, 3), (14, .iconst 0, 1), (15, .istore_n 2, 1), (16, .iload_n 2, 1), (17, .bipush 99, 2), (19, .if_icmp .gt 31, 3), (22, .aload_n 0, 1), (23, .getfield 85, 3), (26, .iconst 0, 1), (27, .iload_n 1, 1), (28, .iadd, 1), (29, .iaload, 1), (30, .aload_n 0, 1), (31, .iload_n 1, 1), (32, .invokevirtual 365, 3), (35, .if_icmp .eq 15, 3), (38, .aload_n 0, 1), (39, .iconst 0, 1), (40, .invokevirtual 431, 3), (43, .istore_n 3, 1), (44, .iinc 2 1, 3), (47, .goto (-31), 3), (50, .aload_n 0, 1), (51, .invokevirtual 440, 3), (54, .iload_n 2, 1), (55, .bipush 99, 2), (57, .if_icmp .gt 7, 3), (60, .iload_n 2, 1), (61, .goto 4, 3), (64, .iconst (-1), 1), (65, .ireturn, 1)]
set_option maxRecDepth 100000 in
theorem nhD_244_ok : nh_dtB prog_14_method_89_code nhD_244 = true := by decide +kernel
def nhD_245 : nhDt := [(0, .aload_n 0, 1), (1, .iload_n 1, 1), (2, .invokevirtual 404, 3), (5, .ifCond .eq 16, 3), (8, .aload_n 0, 1), (9, .iload_n 2, 1), (10, .invokevirtual 404, 3), (13, .ifCond .eq 8, 3), (16, .iload_n 1, 1), (17, .iload_n 2, 1), (18, .if_icmp .ne 5, 3), (21, .iconst (-1), 1), (22, .ireturn, 1), (23, .aload_n 0, 1), (24, .invokevirtual 437, 3), (27, .iconst 0, 1), (28, .istore_n 3, 1), (29, .iload_n 3, 1), (30, .bipush 99, 2), (32, .if_icmp .gt 35, 3), (35, .aload_n 0, 1), (36, .getfield 85, 3), (39, .iconst 0, 1), (40, .iload_n 1, 1), (41, .iadd, 1), (42, .iaload, 1), (43, .aload_n 0, 1), (44, .getfield 85, 3), (47, .iconst 0, 1), (48, .iload_n 2, 1), (49, .iadd, 1), (50, .iaload, 1), (51, .if_icmp .eq 16, 3), (54, .aload_n 0, 1), (55, .iconst 0, 1), (56, .invokevirtual 431, 3), (59, .istore 4, 2), (61, .iinc 3 1, 3), (64, .goto (-35), 3), (67, .aload_n 0, 1), (68, .invokevirtual 440, 3), (71, .iload_n 3, 1), (72, .bipush 99, 2), (74, .if_icmp .gt 7, 3), (77, .iload_n 3, 1), (78, .goto 4, 3), (81, .iconst (-1), 1), (82, .ireturn, 1)]
set_option maxRecDepth 100000 in
theorem nhD_245_ok : nh_dtB prog_14_method_90_code nhD_245 = true := by decide +kernel
def nhD_246 : nhDt := [(0, .iload_n 1, 1), (1, .invokestatic 434, 3), (4, .ifCond .ne 5, 3), (7, .iconst (-1), 1), (8, .ireturn, 1), (9, .aload_n 0, 1), (10, .invokevirtual 437, 3), (13, .aload_n 0, 1), (14, .iload_n 1, 1), (15, .iload_n 2, 1), (16, .invokevirtual 443, 3), (19, .aload_n 0, 1), (20, .invokevirtual 410, 3), (23, .invokestatic 395, 3), (26, .istore_n 3, 1), (27, .aload_n 0, 1), (28, .invokevirtual 440, 3), (31, .iload_n 3, 1), (32, .ireturn, 1)]
set_option maxRecDepth 100000 in
theorem nhD_246_ok : nh_dtB prog_14_method_91_code nhD_246 = true := by decide +kernel
def nhD_247 : nhDt := [(0, .iconst 0, 1), (1, .istore_n 3, 1), (2, .iload_n 3, 1), (3, .iload_n 1, 1), (4, .if_icmp .ge 16, 3), (7, .aload_n 0, 1), (8, .iload_n 2, 1), (9, .invokevirtual 431, 3), (12, .istore 4, 2), (14, .iinc 3 1, 3), (17, .goto (-15), 3), (20, .return_, 1)]
set_option maxRecDepth 100000 in
theorem nhD_247_ok : nh_dtB prog_14_method_87_code nhD_247 = true := by decide +kernel
def nhD_248 : nhDt := [(0, .iload_n 1, 1), (1, .invokestatic 434, 3), (4, .ifCond .ne 5, 3), (7, .iconst (-1), 1), (8, .ireturn, 1), (9, .aload_n 0, 1), (10, .invokevirtual 437, 3), (13, .aload_n 0, 1), (14, .invokevirtual 447, 3), (17, .ineg, 1), (18, .istore_n 2, 1), (19, .aload_n 0, 1), (20, .iload_n 1, 1), (21, .iconst 0, 1), (22, .invokevirtual 443, 3), (25, .iload_n 2, 1), (26, .aload_n 0, 1), (27, .invokevirtual 447, 3), (30, .iadd, 1), (31, .istore_n 2, 1), (32, .aload_n 0, 1), (33, .invokevirtual 440, 3), (36, .iload_n 2, 1), (37, .ireturn, 1)]
set_option maxRecDepth 100000 in
theorem nhD_248_ok : nh_dtB prog_14_method_93_code nhD_248 = true := by decide +kernel
def nhD_249 : nhDt := [(0, .iconst 0, 1), (1, .istore_n 1, 1), (2, .iconst 0, 1), (3, .istore_n 2, 1), (4, .iload_n 2, 1), (5, .aload_n 0, 1), (6, .invokevirtual 340, 3), (9, .if_icmp .ge 20, 3), (12, .iload_n 1, 1), (13, .aload_n 0, 1), (14, .getfield 85, 3), (17, .iconst 5, 1), (18, .iload_n 2, 1), (19, .iadd, 1), (20, .iaload, 1), (21, .iadd, 1), (22, .istore_n 1, 1), (23, .iinc 2 1, 3), (26, .goto (-22), 3), (29, .iload_n 1, 1), (30, .ireturn, 1)]
set_option maxRecDepth 100000 in
theorem nhD_249_ok : nh_dtB prog_14_method_92_code nhD_249 = true := by decide +kernel
def nhD_250 : nhDt := [(0, .aload_n 0, 1), (1, .iload_n 1, 1), (2, .invokevirtual 404, 3), (5, .ifCond .eq 10, 3), (8, .iload_n 2, 1), (9, .invokestatic 434, 3), (12, .ifCond .ne 5, 3), (15, .iconst (-1), 1), (16, .ireturn, 1), (17, .aload_n 0, 1), (18, .invokevirtual 437, 3), (21, .iconst 0, 1), (22, .istore_n 3, 1), (23, .iconst 0, 1), (24, .istore 4, 2), (26, .iload 4, 2), (28, .iload_n 2, 1), (29, .if_icmp .gt 44, 3), (32, .aload_n 0, 1), (33, .aload_n 0, 1), (34, .getfield 85, 3), (37, .iconst 0, 1), (38, .iload_n 1, 1), (39, .iadd, 1), (40, .iaload, 1), (41, .aload_n 0, 1), (42, .iload_n 1, 1), (43, .invokevirtual 365, 3), (46, .invokevirtual 377, 3), (49, .istore 5, 2), (51, .iload 5, 2), (53, .iload_n 3, 1), (54, .if_icmp .le 6, 3), (57, .iload 5, 2), (59, .istore_n 3, 1), (60, .aload_n 0, 1), (61, .iconst 0, 1), (62, .invokevirtual 431, 3), (65, .istore 6, 2), (67, .iinc 4 1, 3), (70, .goto (-44), 3), (73, .aload_n 0, 1), (74, .invokevirtual 440, 3), (77, .iload_n 3, 1), (78, .ireturn, 1)]
set_option maxRecDepth 100000 in
theorem nhD_250_ok : nh_dtB prog_14_method_94_code nhD_250 = true := by decide +kernel
def nhD_251 : nhDt := [(0, .aload_n 0, 1), (1, .invokevirtual 340, 3), (4, .ifCond .eq 13, 3), (7, .iload_n 1, 1), (8, .iconst 1, 1), (9, .bipush 60, 2), (11, .invokestatic 343, 3), (14, .ifCond .ne 5, 3), (17, .iconst (-1), 1), (18, .ireturn, 1), (19, .iconst 0, 1), (20, .istore_n 2, 1), (21, .iload_n 2, 1), (22, .bipush 36, 2), (24, .if_icmp .ge 16, 3), (27, .aload_n 0, 1), (28, .getfield 103, 3), (31, .iload_n 2, 1), (32, .iconst 0, 1), (33, .iastore, 1), (34, .iinc 2 1, 3), (37, .goto (-16), 3), (40, .aload_n 0, 1), (41, .invokevirtual 437, 3), (44, .iconst 0, 1), (45, .istore_n 2, 1), (46, .iload_n 2, 1), (47, .iload_n 1, 1), (48, .if_icmp .ge 19, 3), (51, .aload_n 0, 1), (52, .iconst 0, 1), (53, .invokevirtual 431, 3), (56, .istore_n 3, 1), (57, .aload_n 0, 1), (58, .invokevirtual 450, 3), (61, .iinc 2 1, 3), (64, .goto (-18), 3), (67, .aload_n 0, 1), (68, .invokevirtual 440, 3), (71, .aload_n 0, 1), (72, .invokevirtual 453, 3), (75, .ireturn, 1)]
set_option maxRecDepth 100000 in
theorem nhD_251_ok : nh_dtB prog_14_method_97_code nhD_251 = true := by decide +kernel
def nhD_252 : nhDt := [(0, .iconst 0, 1), (1, .istore_n 1, 1), (2, .iload_n 1, 1), (3, .aload_n 0, 1), (4, .invokevirtual 340, 3), (7, .if_icmp .ge 26, 3), (10, .aload_n 0, 1), (11, .getfield 103, 3), (14, .aload_n 0, 1), (15, .getfield 85, 3), (18, .iconst 0, 1), (19, .iload_n 1, 1), (20, .iadd, 1), (21, .iaload, 1), (22, .dup2, 1), (23, .iaload, 1), (24, .iconst 1, 1), (25, .iadd, 1), (26, .iastore, 1), (27, .iinc 1 1, 3), (30, .goto (-28), 3), (33, .return_, 1)]
set_option maxRecDepth 100000 in
theorem nhD_252_ok : nh_dtB prog_14_method_96_code nhD_252 = true := by decide +kernel
def nhD_253 : nhDt := [(0, .iconst 0, 1), (1, .istore_n 1, 1), (2, .iconst 1, 1), (3, .istore_n 2, 1), (4, .iload_n 2, 1), (5, .aload_n 0, 1), (6, .invokevirtual 347, 3), (9, .if_icmp .ge 26, 3), (12, .aload_n 0, 1), (13, .getfield 103, 3), (16, .iload_n 2, 1), (17, .iaload, 1), (18, .aload_n 0, 1), (19, .getfield 103, 3), (22, .iload_n 1, 1), (23, .iaload, 1), (24, .if_icmp .le 5, 3), (27, .iload_n 2, 1), (28, .istore_n 1, 1), (29, .iinc 2 1, 3), (32, .goto (-28), 3), (35, .iload_n 1, 1), (36, .ireturn, 1)]
set_option maxRecDepth 100000 in
theorem nhD_253_ok : nh_dtB prog_14_method_95_code nhD_253 = true := by decide +kernel
def nhD_254 : nhDt := [(0, .aload_n 0, 1), (1, .invokevirtual 340, 3), (4, .ifCond .eq 10, 3), (7, .iload_n 1, 1), (8, .invokestatic 434, 3), (11, .ifCond .ne 5, 3), (14, .iconst (-1), 1), (15, .ireturn, 1), (16, .iconst 0, 1), (17, .istore_n 2, 1), (18, .iload_n 2, 1), (19, .bipush 36, 2), (21, .if_icmp .ge 16, 3), (24, .aload_n 0, 1), (25, .getfield 103, 3), (28, .iload_n 2, 1), (29, .iconst 0, 1), (30, .iastore, 1), (31, .iinc 2 1, 3), (34, .goto (-16), 3), (37, .aload_n 0, 1), (38, .invokevirtual 437, 3), (41, .aload_n 0, 1), (42, .iload_n 1, 1), (43, .iconst 0, 1), (44, .invokevirtual 443, 3), (47, .aload_n 0, 1), (48, .invokevirtual 450, 3), (51, .aload_n 0, 1), (52, .invokevirtual 440, 3), (55, .aload_n 0, 1), (56, .invokevirtual 453, 3), (59, .ireturn, 1)]
set_option maxRecDepth 100000 in
theorem nhD_254_ok : nh_dtB prog_14_method_98_code nhD_254 = true := by decide +kernel
def nhD_255 : nhDt := [(0, .aload_n 0, 1), (1, .iconst 0, 1), (2, .putfield 362, 3), (5, .aload_n 0, 1), (6, .iload_n 1, 1), (7, .invokevirtual 404, 3), (10, .ifCond .eq 13, 3), (13, .iload_n 2, 1), (14, .iconst 0, 1), (15, .bipush 10, 2), (17, .invokestatic 343, 3), (20, .ifCond .ne 5, 3), (23, .iconst (-1), 1), (24, .ireturn, 1), (25, .iconst (-1), 1), (26, .istore_n 3, 1), (27, .iconst 0, 1), (28, .istore 4, 2), (30, .iload 4, 2), (32, .iconst 1, 1), (33, .iload_n 2, 1), (34, .ishl, 1), (35, .if_icmp .ge 84, 3), (38, .iload_n 3, 1), (39, .ifCond .lt 18, 3), (42, .iload 4, 2), (44, .invokestatic 395, 3), (47, .iload_n 3, 1), (48, .invokestatic 395, 3), (51, .if_icmp .lt 6, 3), (54, .goto 59, 3), (57, .aload_n 0, 1), (58, .invokevirtual 437, 3), (61, .iload_n 2, 1), (62, .iconst 1, 1), (63, .isub, 1), (64, .istore 5, 2), (66, .iload 5, 2), (68, .ifCond .lt 22, 3), (71, .aload_n 0, 1), (72, .iload 4, 2), (74, .iload 5, 2), (76, .invokestatic 253, 3), (79, .invokevirtual 431, 3), (82, .istore 6, 2), (84, .iinc 5 (-1), 3), (87, .goto (-21), 3), (90, .aload_n 0, 1), (91, .getfield 85, 3), (94, .iconst 0, 1), (95, .iload_n 1, 1), (96, .iadd, 1), (97, .iaload, 1), (98, .aload_n 0, 1), (99, .iload_n 1, 1), (100, .invokevirtual 365, 3), (103, .if_icmp .ne 6, 3), (106, .iload 4, 2), (108, .istore_n 3, 1), (109, .aload_n 0, 1), (110, .invokevirtual 440, 3), (113, .iinc 4 1, 3), (116, .goto (-86), 3), (119, .iload_n 3, 1), (120, .ifCond .ge 5, 3), (123, .iconst (-1), 1), (124, .ireturn, 1), (125, .iconst 0, 1), (126, .istore 4, 2), (128, .iload 4, 2), (130, .iload_n 2, 1), (131, .if_icmp .ge 26, 3), (134, .aload_n 0, 1), (135, .getfield 100, 3), (138, .iload 4, 2), (140, .iload_n 3, 1), (141, .iload_n 2, 1), (142, .iconst 1, 1), (143, .isub, 1), (144, .iload 4, 2), (146, .isub, 1), (147, .ishr, 1), (148, .iconst 1, 1), (149, .iand, 1), (150, .iastore, 1), (151, .iinc 4 1, 3), (154, .goto (-26), 3), (157, .aload_n 0, 1), (158, .iload_n 2, 1), (159, .putfield 362, 3), (162, .iload_n 3, 1), (163, .invokestatic 395, 3), (166, .ireturn, 1)]
set_option maxRecDepth 100000 in
theorem nhD_255_ok : nh_dtB prog_14_method_99_code nhD_255 = true := by decide +kernel
def nhD_256 : nhDt := [(0, .aload_n 0, 1), (1, .iconst 0, 1), (2, .putfield 362, 3), (5, .aload_n 0, 1), (6, .iload_n 1, 1), (7, .invokevirtual 404, 3), (10, .ifCond .eq 26, 3), (13, .aload_n 0, 1), (14, .iload_n 2, 1), (15, .invokevirtual 404, 3), (18, .ifCond .eq 18, 3), (21, .iload_n 1, 1), (22, .iload_n 2, 1), (23, .if_icmp .eq 13, 3), (26, .iload_n 3, 1), (27, .iconst 0, 1), (28, .bipush 20, 2), (30, .invokestatic 343, 3), (33, .ifCond .ne 5, 3), (36, .iconst (-1), 1), (37, .ireturn, 1), (38, .aload_n 0, 1), (39, .iload_n 1, 1), (40, .iload_n 2, 1), (41, .iload_n 3, 1), (42, .invokevirtual 456, 3), (45, .ifCond .ne 5, 3), (48, .iconst 0, 1), (49, .ireturn, 1), (50, .iconst 0, 1), (51, .istore 4, 2), (53, .iload 4, 2), (55, .iconst 2, 1), (56, .if_icmp .ge 202, 3), (59, .iconst 0, 1), (60, .istore 5, 2), (62, .iload 5, 2), (64, .sipush 1296, 3), (67, .if_icmp .ge 185, 3), (70, .iload 5, 2), (72, .bipush 36, 2), (74, .idiv, 1), (75, .istore 6, 2), (77, .iload 5, 2), (79, .bipush 36, 2), (81, .irem, 1), (82, .istore 7, 2), (84, .iload 4, 2), (86, .ifCond .ne 13, 3), (89, .iload 6, 2), (91, .iload 7, 2), (93, .if_icmp .eq 16, 3), (96, .goto 150, 3), (99, .iload 6, 2), (101, .iload 7, 2), (103, .if_icmp .lt 6, 3), (106, .goto 140, 3), (109, .aload_n 0, 1), (110, .iload 6, 2), (112, .invokevirtual 407, 3), (115, .ifCond .eq 131, 3), (118, .aload_n 0, 1), (119, .iload 7, 2), (121, .invokevirtual 407, 3), (124, .ifCond .eq 122, 3), (127, .aload_n 0, 1), (128, .iload 6, 2), (130, .invokevirtual 422, 3), (133, .ifCond .eq 113, 3), (136, .aload_n 0, 1), (137, .iload 7, 2), (139, .invokevirtual 422, 3), (142, .ifCond .ne 6, 3), (145, .goto 101, 3), (148, .aload_n 0, 1), (149, .getfield 85, 3), (152, .bipush 19, 2), (154, .iload 6, 2), (156, .iadd, 1), (157, .iconst 1, 1), (158, .iastore, 1), (159, .aload_n 0, 1), (160, .getfield 85, 3), (163, .bipush 19, 2), (165, .iload 7, 2), (167, .iadd, 1), (168, .iconst 1, 1), (169, .iastore, 1), (170, .aload_n 0, 1), (171, .iload_n 1, 1), (172, .iload_n 2, 1), (173, .iload_n 3, 1), (174, .invokevirtual 456, 3), (177, .ifCond .ne 7, 3), (180, .iconst 1, 1), (181, .goto 4, 3), (184, .iconst 0, 1), (185, .istore 8, 2), (187, .aload_n 0, 1), (188, .getfield 85, 3), (191, .bipush 19, 2), (193, .iload 6, 2), (195, .iadd, 1), (196, .iconst 0, 1), (197, .iastore, 1), (198, .aload_n 0, 1), (199, .getfield 85, 3), (202, .bipush 19, 2), (204, .iload 7, 2), (206, .iadd, 1), (207, .iconst 0, 1), (208, .iastore, 1), (209, .iload 8, 2), (211, .ifCond .ne 6, 3), (214, .goto 32, 3), (217, .aload_n 0, 1), (218, .getfield 100, 3), (221, .iconst 0, 1), (222, .iload 6, 2), (224, .iastore, 1), (225, .aload_n 0, 1), (226, .getfield 100, 3), (229, .iconst 1, 1), (230, .iload 7, 2), (232, .iastore, 1), (233, .aload_n 0, 1), (234, .iload 4, 2), (236, .iconst 1, 1), (237, .iadd, 1), (238, .putfield 362, 3), (241, .aload_n 0, 1), (242, .getfield 362, 3), (245, .ireturn, 1), (246, .iinc 5 1, 3), (249, .goto (-187), 3), (252, .iinc 4 1, 3), (255, .goto (-202), 3), (258, .iconst (-1), 1), (259, .ireturn, 1)]
set_option maxRecDepth 100000 in
theorem nhD_256_ok : nh_dtB prog_14_method_101_code nhD_256 = true := by decide +kernel
def nhD_257 : nhDt := [(0, .aload_n 0, 1), (1, .invokevirtual 437, 3), (4, .aload_n 0, 1), (5, .getfield 85, 3), (8, .iconst 0, 1), (9, .iload_n 1, 1), (10, .iadd, 1), (11, .iaload, 1), (12, .aload_n 0, 1), (13, .getfield 85, 3), (16, .iconst 0, 1), (17, .iload_n 2, 1), (18, .iadd, 1), (19, .iaload, 1), (20, .if_icmp .ne 7, 3), (23, .iconst 1, 1), (24, .goto 4, 3), (27, .iconst 0, 1), (28, .istore 4, 2), (30, .iconst 0, 1), (31, .istore 5, 2), (33, .iload 5, 2), (35, .iload_n 3, 1), (36, .if_icmp .ge 47, 3), (39, .iload 4, 2), (41, .ifCond .ne 42, 3), (44, .aload_n 0, 1), (45, .iconst 0, 1), (46, .invokevirtual 431, 3), (49, .istore 6, 2), (51, .aload_n 0, 1), (52, .getfield 85, 3), (55, .iconst 0, 1), (56, .iload_n 1, 1), (57, .iadd, 1), (58, .iaload, 1), (59, .aload_n 0, 1), (60, .getfield 85, 3), (63, .iconst 0, 1), (64, .iload_n 2, 1), (65, .iadd, 1), (66, .iaload, 1), (67, .if_icmp .ne 7, 3), (70, .iconst 1, 1), (71, .goto 4, 3), (74, .iconst 0, 1), (75, .istore 4, 2), (77, .iinc 5 1, 3), (80, .goto (-47), 3), (83, .aload_n 0, 1), (84, .invokevirtual 440, 3), (87, .iload 4, 2), (89, .ireturn, 1)]
set_option maxRecDepth 100000 in
theorem nhD_257_ok : nh_dtB prog_14_method_100_code nhD_257 = true := by decide +kernel
def nhD_258 : nhDt := [(0, .iload_n 1, 1), (1, .iconst 0, 1), (2, .bipush 20, 2), (4, .invokestatic 343, 3), (7, .ifCond .eq 12, 3), (10, .iload_n 2, 1), (11, .iconst 0, 1), (12, .iconst 1, 1), (13, .invokestatic 343, 3), (16, .ifCond .ne 5, 3), (19, .iconst (-1), 1), (20, .ireturn, 1), (21, .iconst (-1), 1), (22, .istore_n 3, 1), (23, .iconst (-1), 1), (24, .istore 4, 2), (26, .iconst 0, 1), (27, .istore 5, 2), (29, .iload 5, 2), (31, .aload_n 0, 1), (32, .invokevirtual 347, 3), (35, .if_icmp .ge 75, 3), (38, .aload_n 0, 1), (39, .getfield 85, 3), (42, .bipush 19, 2), (44, .iload 5, 2), (46, .iadd, 1), (47, .iaload, 1), (48, .iconst 1, 1), (49, .if_icmp .ne 6, 3), (52, .goto 52, 3), (55, .aload_n 0, 1), (56, .invokevirtual 437, 3), (59, .aload_n 0, 1), (60, .getfield 85, 3), (63, .bipush 15, 2), (65, .iload 5, 2), (67, .iastore, 1), (68, .aload_n 0, 1), (69, .iload_n 1, 1), (70, .iconst 1, 1), (71, .invokevirtual 443, 3), (74, .aload_n 0, 1), (75, .invokevirtual 410, 3), (78, .invokestatic 395, 3), (81, .istore 6, 2), (83, .aload_n 0, 1), (84, .invokevirtual 440, 3), (87, .iload 6, 2), (89, .iload 4, 2), (91, .if_icmp .gt 6, 3), (94, .goto 10, 3), (97, .iload 5, 2), (99, .istore_n 3, 1), (100, .iload 6, 2), (102, .istore 4, 2), (104, .iinc 5 1, 3), (107, .goto (-78), 3), (110, .iload_n 2, 1), (111, .ifCond .ne 7, 3), (114, .iload_n 3, 1), (115, .goto 5, 3), (118, .iload 4, 2), (120, .ireturn, 1)]
set_option maxRecDepth 100000 in
theorem nhD_258_ok : nh_dtB prog_14_method_102_code nhD_258 = true := by decide +kernel
def nhD_259 : nhDt := [(0, .iload_n 1, 1), (1, .iconst 0, 1), (2, .bipush 20, 2), (4, .invokestatic 343, 3), (7, .ifCond .eq 12, 3), (10, .iload_n 2, 1), (11, .iconst 0, 1), (12, .iconst 1, 1), (13, .invokestatic 343, 3), (16, .ifCond .ne 5, 3), (19, .iconst (-1), 1), (20, .ireturn, 1), (21, .iconst (-1), 1), (22, .istore_n 3, 1), (23, .iconst (-1), 1), (24, .istore 4, 2), (26, .iconst 0, 1), (27, .istore 5, 2), (29, .iload 5, 2), (31, .bipush 10, 2), (33, .if_icmp .gt 55, 3), (36, .aload_n 0, 1), (37, .invokevirtual 437, 3), (40, .aload_n 0, 1), (41, .iload 5, 2), (43, .putfield 380, 3), (46, .aload_n 0, 1), (47, .iload_n 1, 1), (48, .iconst 1, 1), (49, .invokevirtual 443, 3), (52, .aload_n 0, 1), (53, .invokevirtual 410, 3), (56, .invokestatic 395, 3), (59, .istore 6, 2), (61, .aload_n 0, 1), (62, .invokevirtual 440, 3), (65, .iload 6, 2), (67, .iload 4, 2), (69, .if_icmp .gt 6, 3), (72, .goto 10, 3), (75, .iload 5, 2), (77, .istore_n 3, 1), (78, .iload 6, 2), (80, .istore 4, 2), (82, .iinc 5 1, 3), (85, .goto (-56), 3), (88, .iload_n 2, 1), (89, .ifCond .ne 7, 3), (92, .iload_n 3, 1), (93, .goto 5, 3), (96, .iload 4, 2), (98, .ireturn, 1)]
set_option maxRecDepth 100000 in
theorem nhD_259_ok : nh_dtB prog_14_method_103_code nhD_259 = true := by decide +kernel
def nhD_260 : nhDt := [(0, .aload_n 0, 1), (1, .iload_n 1, 1), (2, .invokevirtual 407, 3), (5, .ifCond .ne 5, 3), (8, .iconst (-1), 1), (9, .ireturn, 1), (10, .aload_n 0, 1), (11, .aload_n 0, 1), (12, .getfield 85, 3), (15, .bipush 15, 2), (17, .iaload, 1), (18, .invokevirtual 459, 3), (21, .aload_n 0, 1), (22, .getfield 106, 3), (25, .iload_n 1, 1), (26, .iaload, 1), (27, .sipush 1000, 3), (30, .if_icmp .ne 7, 3), (33, .iconst (-1), 1), (34, .goto 9, 3), (37, .aload_n 0, 1), (38, .getfield 106, 3), (41, .iload_n 1, 1), (42, .iaload, 1), (43, .ireturn, 1)]
set_option maxRecDepth 100000 in
theorem nhD_260_ok : nh_dtB prog_14_method_105_code nhD_260 = true := by decide +kernel
def nhD_261 : nhDt := [(0, .iconst 0, 1), (1, .istore_n 2, 1), (2, .iload_n 2, 1), (3, .bipush 36, 2), (5, .if_icmp .ge 27, 3), (8, .aload_n 0, 1), (9, .getfield 106, 3), (12, .iload_n 2, 1), (13, .iload_n 2, 1), (14, .iload_n 1, 1), (15, .if_icmp .ne 7, 3), (18, .iconst 0, 1), (19, .goto 6, 3), (22, .sipush 1000, 3), (25, .iastore, 1), (26, .iinc 2 1, 3), (29, .goto (-27), 3), (32, .iconst 0, 1), (33, .istore_n 2, 1), (34, .iload_n 2, 1), (35, .aload_n 0, 1), (36, .invokevirtual 347, 3), (39, .if_icmp .ge 83, 3), (42, .iconst 0, 1), (43, .istore_n 3, 1), (44, .iload_n 3, 1), (45, .aload_n 0, 1), (46, .invokevirtual 347, 3), (49, .if_icmp .ge 67, 3), (52, .iconst 1, 1), (53, .istore 4, 2), (55, .iload 4, 2), (57, .iconst 5, 1), (58, .if_icmp .ge 52, 3), (61, .aload_n 0, 1), (62, .getfield 106, 3), (65, .iload_n 3, 1), (66, .iaload, 1), (67, .iload_n 2, 1), (68, .if_icmp .ne 42, 3), (71, .aload_n 0, 1), (72, .getfield 106, 3), (75, .aload_n 0, 1), (76, .iload_n 3, 1), (77, .iload 4, 2), (79, .invokevirtual 374, 3), (82, .iaload, 1), (83, .sipush 1000, 3), (86, .if_icmp .ne 18, 3), (89, .aload_n 0, 1), (90, .getfield 106, 3), (93, .aload_n 0, 1), (94, .iload_n 3, 1), (95, .iload 4, 2), (97, .invokevirtual 374, 3), (100, .iload_n 2, 1), (101, .iconst 1, 1), (102, .iadd, 1), (103, .iastore, 1), (104, .iinc 4 1, 3), (107, .goto (-52), 3), (110, .iinc 3 1, 3), (113, .goto (-69), 3), (116, .iinc 2 1, 3), (119, .goto (-85), 3), (122, .return_, 1)]
set_option maxRecDepth 100000 in
theorem nhD_261_ok : nh_dtB prog_14_method_104_code nhD_261 = true := by decide +kernel
def nhD_262 : nhDt := [(0, .aload_n 0, 1), (1, .aload_n 0, 1), (2, .getfield 85, 3), (5, .bipush 15, 2), (7, .iaload, 1), (8, .invokevirtual 459, 3), (11, .iconst 0, 1), (12, .istore_n 1, 1), (13, .iconst 0, 1), (14, .istore_n 2, 1), (15, .iload_n 2, 1), (16, .aload_n 0, 1), (17, .invokevirtual 347, 3), (20, .if_icmp .ge 29, 3), (23, .iload_n 1, 1), (24, .aload_n 0, 1), (25, .getfield 106, 3), (28, .iload_n 2, 1), (29, .iaload, 1), (30, .sipush 1000, 3), (33, .if_icmp .ge 7, 3), (36, .iconst 1, 1), (37, .goto 4, 3), (40, .iconst 0, 1), (41, .iadd, 1), (42, .istore_n 1, 1), (43, .iinc 2 1, 3), (46, .goto (-31), 3), (49, .iload_n 1, 1), (50, .ireturn, 1)]
set_option maxRecDepth 100000 in
theorem nhD_262_ok : nh_dtB prog_14_method_106_code nhD_262 = true := by decide +kernel
def nhD_263 : nhDt := [(0, .aload_n 0, 1), (1, .aload_n 0, 1), (2, .getfield 85, 3), (5, .bipush 15, 2), (7, .iaload, 1), (8, .invokevirtual 459, 3), (11, .iconst (-1), 1), (12, .istore_n 1, 1), (13, .iconst 0, 1), (14, .istore_n 2, 1), (15, .iload_n 2, 1), (16, .aload_n 0, 1), (17, .invokevirtual 340, 3), (20, .if_icmp .ge 82, 3), (23, .aload_n 0, 1), (24, .getfield 85, 3), (27, .iconst 0, 1), (28, .iload_n 2, 1), (29, .iadd, 1), (30, .iaload, 1), (31, .aload_n 0, 1), (32, .iload_n 2, 1), (33, .invokevirtual 365, 3), (36, .if_icmp .eq 60, 3), (39, .aload_n 0, 1), (40, .getfield 106, 3), (43, .aload_n 0, 1), (44, .getfield 85, 3), (47, .iconst 0, 1), (48, .iload_n 2, 1), (49, .iadd, 1), (50, .iaload, 1), (51, .iaload, 1), (52, .sipush 1000, 3), (55, .if_icmp .ne 6, 3), (58, .goto 38, 3), (61, .iload_n 1, 1), (62, .ifCond .lt 32, 3), (65, .aload_n 0, 1), (66, .getfield 106, 3), (69, .aload_n 0, 1), (70, .getfield 85, 3), (73, .iconst 0, 1), (74, .iload_n 2, 1), (75, .iadd, 1), (76, .iaload, 1), (77, .iaload, 1), (78, .aload_n 0, 1), (79, .getfield 106, 3), (82, .aload_n 0, 1), (83, .getfield 85, 3), (86, .iconst 0, 1), (87, .iload_n 1, 1), (88, .iadd, 1), (89, .iaload, 1), (90, .iaload, 1), (91, .if_icmp .ge 5, 3), (94, .iload_n 2, 1), (95, .istore_n 1, 1), (96, .iinc 2 1, 3), (99, .goto (-84), 3), (102, .iload_n 1, 1), (103, .ireturn, 1)]
set_option maxRecDepth 100000 in
theorem nhD_263_ok : nh_dtB prog_14_method_107_code nhD_263 = true := by decide +kernel
def nhD_264 : nhDt := [(0, .iconst 0, 1), (1, .istore_n 1, 1), (2, .iconst 0, 1), (3, .istore_n 2, 1), (4, .iload_n 2, 1), (5, .aload_n 0, 1), (6, .invokevirtual 340, 3), (9, .if_icmp .ge 43, 3), (12, .aload_n 0, 1), (13, .aload_n 0, 1), (14, .getfield 85, 3), (17, .iconst 0, 1), (18, .iload_n 2, 1), (19, .iadd, 1), (20, .iaload, 1), (21, .invokevirtual 459, 3), (24, .aload_n 0, 1), (25, .getfield 106, 3), (28, .aload_n 0, 1), (29, .iload_n 2, 1), (30, .invokevirtual 365, 3), (33, .iaload, 1), (34, .sipush 1000, 3), (37, .if_icmp .ne 9, 3), (40, .iload_n 1, 1), (41, .iconst 1, 1), (42, .iload_n 2, 1), (43, .ishl, 1), (44, .ior, 1), (45, .istore_n 1, 1), (46, .iinc 2 1, 3), (49, .goto (-45), 3), (52, .iload_n 1, 1), (53, .ireturn, 1)]
set_option maxRecDepth 100000 in
theorem nhD_264_ok : nh_dtB prog_14_method_108_code nhD_264 = true := by decide +kernel
def nhD_265 : nhDt := [(0, .aload_n 0, 1), (1, .iload_n 1, 1), (2, .invokevirtual 404, 3), (5, .ifCond .eq 21, 3), (8, .iload_n 2, 1), (9, .iconst 1, 1), (10, .iconst 3, 1), (11, .invokestatic 343, 3), (14, .ifCond .eq 12, 3), (17, .iload_n 3, 1), (18, .iconst 0, 1), (19, .iconst 1, 1), (20, .invokestatic 343, 3), (23, .ifCond .ne 5, 3), (26, .iconst (-1), 1), (27, .ireturn, 1), (28, .aload_n 0, 1), (29, .getfield 85, 3), (32, .iconst 0, 1), (33, .iload_n 1, 1), (34, .iadd, 1), (35, .iaload, 1), (36, .istore 4, 2), (38, .aload_n 0, 1), (39, .getfield 85, 3), (42, .bipush 15, 2), (44, .iaload, 1), (45, .istore 5, 2), (47, .iload_n 2, 1), (48, .iconst 1, 1), (49, .if_icmp .ne 14, 3), (52, .aload_n 0, 1), (53, .iload 4, 2), (55, .iload 5, 2), (57, .invokevirtual 466, 3), (60, .goto 27, 3), (63, .iload_n 2, 1), (64, .iconst 2, 1), (65, .if_icmp .ne 14, 3), (68, .aload_n 0, 1), (69, .iload 4, 2), (71, .iload 5, 2), (73, .invokevirtual 469, 3), (76, .goto 11, 3), (79, .aload_n 0, 1), (80, .iload 4, 2), (82, .iload 5, 2), (84, .invokevirtual 472, 3), (87, .istore 6, 2), (89, .iload_n 3, 1), (90, .ifCond .ne 8, 3), (93, .iload 6, 2), (95, .goto 7, 3), (98, .aload_n 0, 1), (99, .getfield 463, 3), (102, .ireturn, 1)]
set_option maxRecDepth 100000 in
theorem nhD_265_ok : nh_dtB prog_14_method_112_code nhD_265 = true := by decide +kernel
def nhD_266 : nhDt := [(0, .iconst (-1), 1), (1, .istore_n 3, 1), (2, .iconst 0, 1), (3, .istore 4, 2), (5, .iconst 0, 1), (6, .istore 5, 2), (8, .iload 5, 2), (10, .iconst 5, 1), (11, .if_icmp .ge 76, 3), (14, .sipush 1000, 3), (17, .istore 6, 2), (19, .iconst 0, 1), (20, .istore 7, 2), (22, .iload 7, 2), (24, .iconst 5, 1), (25, .if_icmp .ge 40, 3), (28, .aload_n 0, 1), (29, .aload_n 0, 1), (30, .iload_n 1, 1), (31, .iload 5, 2), (33, .invokevirtual 374, 3), (36, .aload_n 0, 1), (37, .iload_n 2, 1), (38, .iload 7, 2), (40, .invokevirtual 374, 3), (43, .invokevirtual 377, 3), (46, .istore 8, 2), (48, .iload 8, 2), (50, .iload 6, 2), (52, .if_icmp .ge 7, 3), (55, .iload 8, 2), (57, .istore 6, 2), (59, .iinc 7 1, 3), (62, .goto (-40), 3), (65, .iload 6, 2), (67, .iload_n 3, 1), (68, .if_icmp .gt 6, 3), (71, .goto 10, 3), (74, .iload 6, 2), (76, .istore_n 3, 1), (77, .iload 5, 2), (79, .istore 4, 2), (81, .iinc 5 1, 3), (84, .goto (-76), 3), (87, .aload_n 0, 1), (88, .iload 4, 2), (90, .putfield 463, 3), (93, .iload_n 3, 1), (94, .ireturn, 1)]
set_option maxRecDepth 100000 in
theorem nhD_266_ok : nh_dtB prog_14_method_109_code nhD_266 = true := by decide +kernel
def nhD_267 : nhDt := [(0, .iconst (-1), 1), (1, .istore_n 3, 1), (2, .iconst 0, 1), (3, .istore 4, 2), (5, .iconst 0, 1), (6, .istore 5, 2), (8, .iload 5, 2), (10, .iconst 5, 1), (11, .if_icmp .ge 76, 3), (14, .sipush 1000, 3), (17, .istore 6, 2), (19, .iconst 0, 1), (20, .istore 7, 2), (22, .iload 7, 2), (24, .iconst 5, 1), (25, .if_icmp .ge 40, 3), (28, .aload_n 0, 1), (29, .aload_n 0, 1), (30, .iload_n 1, 1), (31, .iload 5, 2), (33, .invokevirtual 374, 3), (36, .aload_n 0, 1), (37, .iload_n 2, 1), (38, .iload 7, 2), (40, .invokevirtual 374, 3), (43, .invokevirtual 466, 3), (46, .istore 8, 2), (48, .iload 8, 2), (50, .iload 6, 2), (52, .if_icmp .ge 7, 3), (55, .iload 8, 2), (57, .istore 6, 2), (59, .iinc 7 1, 3), (62, .goto (-40), 3), (65, .iload 6, 2), (67, .iload_n 3, 1), (68, .if_icmp .gt 6, 3), (71, .goto 10, 3), (74, .iload 6, 2), (76, .istore_n 3, 1), (77, .iload 5, 2), (79, .istore 4, 2), (81, .iinc 5 1, 3), (84, .goto (-76), 3), (87, .aload_n 0, 1), (88, .iload 4, 2), (90, .putfield 463, 3), (93, .iload_n 3, 1), (94, .ireturn, 1)]
set_option maxRecDepth 100000 in
theorem nhD_267_ok : nh_dtB prog_14_method_110_code nhD_267 = true := by decide +kernel
def nhD_268 : nhDt := [(0, .iconst (-1), 1), (1, .istore_n 3, 1), (2, .iconst 0, 1), (3, .istore 4, 2), (5, .iconst 0, 1), (6, .istore 5, 2), (8, .iload 5, 2), (10, .iconst 5, 1), (11, .if_icmp .ge 76, 3), (14, .sipush 1000, 3), (17, .istore 6, 2), (19, .iconst 0, 1), (20, .istore 7, 2), (22, .iload 7, 2), (24, .iconst 5, 1), (25, .if_icmp .ge 40, 3), (28, .aload_n 0, 1), (29, .aload_n 0, 1), (30, .iload_n 1, 1), (31, .iload 5, 2), (33, .invokevirtual 374, 3), (36, .aload_n 0, 1), (37, .iload_n 2, 1), (38, .iload 7, 2), (40, .invokevirtual 374, 3), (43, .invokevirtual 469, 3), (46, .istore 8, 2), (48, .iload 8, 2), (50, .iload 6, 2), (52, .if_icmp .ge 7, 3), (55, .iload 8, 2), (57, .istore 6, 2), (59, .iinc 7 1, 3), (62, .goto (-40), 3), (65, .iload 6, 2), (67, .iload_n 3, 1), (68, .if_icmp .gt 6, 3), (71, .goto 10, 3), (74, .iload 6, 2), (76, .istore_n 3, 1), (77, .iload 5, 2), (79, .istore 4, 2), (81, .iinc 5 1, 3), (84, .goto (-76), 3), (87, .aload_n 0, 1), (88, .iload 4, 2), (90, .putfield 463, 3), (93, .iload_n 3, 1), (94, .ireturn, 1)]
set_option maxRecDepth 100000 in
theorem nhD_268_ok : nh_dtB prog_14_method_111_code nhD_268 = true := by decide +kernel
def nhD_269 : nhDt := [(0, .iload_n 1, 1), (1, .iconst 0, 1), (2, .iconst 4, 1), (3, .invokestatic 343, 3), (6, .ifCond .eq 12, 3), (9, .iload_n 2, 1), (10, .iconst 0, 1), (11, .iconst 1, 1), (12, .invokestatic 343, 3), (15, .ifCond .ne 5, 3), (18, .iconst (-1), 1), (19, .ireturn, 1), (20, .bipush 100, 2), (22, .aload_n 0, 1), (23, .getfield 45, 3), (26, .aload_n 0, 1), (27, .getfield 247, 3), (30, .iaload, 1), (31, .isub, 1), (32, .iload_n 1, 1), (33, .invokestatic 475, 3), (36, .istore_n 3, 1), (37, .bipush 100, 2), (39, .iload_n 1, 1), (40, .invokestatic 475, 3), (43, .istore 4, 2), (45, .iload_n 2, 1), (46, .ifCond .ne 7, 3), (49, .iload_n 3, 1), (50, .goto 5, 3), (53, .iload 4, 2), (55, .iload 4, 2), (57, .iload_n 3, 1), (58, .invokestatic 478, 3), (61, .idiv, 1), (62, .ireturn, 1)]
set_option maxRecDepth 100000 in
theorem nhD_269_ok : nh_dtB prog_14_method_113_code nhD_269 = true := by decide +kernel
def nhD_270 : nhDt := [(0, .iconst 1, 1), (1, .istore_n 2, 1), (2, .iconst 0, 1), (3, .istore_n 3, 1), (4, .iload_n 3, 1), (5, .iload_n 1, 1), (6, .if_icmp .ge 13, 3), (9, .iload_n 2, 1), (10, .iload_n 0, 1), (11, .imul, 1), (12, .istore_n 2, 1), (13, .iinc 3 1, 3), (16, .goto (-12), 3), (19, .iload_n 2, 1), (20, .ireturn, 1)]
set_option maxRecDepth 100000 in
theorem nhD_270_ok : nh_dtB prog_14_method_43_code nhD_270 = true := by decide +kernel
def nhD_271 : nhDt := [(0, .iload_n 0, 1), (1, .istore_n 2, 1), (2, .iload_n 1, 1), (3, .istore_n 3, 1), (4, .iload_n 3, 1), (5, .ifCond .le 16, 3), (8, .iload_n 2, 1), (9, .iload_n 3, 1), (10, .irem, 1), (11, .istore 4, 2), (13, .iload_n 3, 1), (14, .istore_n 2, 1), (15, .iload 4, 2), (17, .istore_n 3, 1), (18, .goto (-14), 3), (21, .iload_n 2, 1), (22, .ireturn, 1)]
set_option maxRecDepth 100000 in
theorem nhD_271_ok : nh_dtB prog_14_method_42_code nhD_271 = true := by decide +kernel
def nhD_272 : nhDt := [(0, .iload_n 1, 1), (1, .iconst 0, 1), (2, .bipush 12, 2), (4, .invokestatic 343, 3), (7, .ifCond .eq 27, 3), (10, .aload_n 0, 1), (11, .iload_n 2, 1), (12, .invokevirtual 407, 3), (15, .ifCond .eq 19, 3), (18, .aload_n 0, 1), (19, .getfield 359, 3), (22, .bipush 30, 2), (24, .if_icmp .eq 10, 3), (27, .aload_n 0, 1), (28, .invokevirtual 340, 3), (31, .ifCond .ne 5, 3), (34, .iconst (-1), 1), (35, .ireturn, 1), (36, .aload_n 0, 1), (37, .getfield 112, 3), (40, .aload_n 0, 1), (41, .getfield 359, 3), (44, .iload_n 1, 1), (45, .iastore, 1), (46, .aload_n 0, 1), (47, .getfield 115, 3), (50, .aload_n 0, 1), (51, .getfield 359, 3), (54, .iload_n 2, 1), (55, .iastore, 1), (56, .aload_n 0, 1), (57, .getfield 118, 3), (60, .aload_n 0, 1), (61, .getfield 359, 3), (64, .iload_n 3, 1), (65, .ifCond .eq 7, 3), (68, .iconst 1, 1), (69, .goto 4, 3), (72, .iconst 0, 1), (73, .iastore, 1), (74, .aload_n 0, 1), (75, .getfield 121, 3), (78, .aload_n 0, 1), (79, .getfield 359, 3), (82, .aload_n 0, 1), (83, .getfield 481, 3), (86, .iastore, 1), (87, .aload_n 0, 1), (88, .getfield 124, 3), (91, .aload_n 0, 1), (92, .getfield 359, 3), (95, .iconst (-1), 1), (96, .iastore, 1), (97, .aload_n 0, 1), (98, .dup, 1), (99, .getfield 359, 3), (102, .iconst 1, 1), (103, .iadd, 1), (104, .putfield 359, 3), (107, .aload_n 0, 1), (108, .getfield 359, 3), (111, .iconst 1, 1), (112, .isub, 1), (113, .ireturn, 1)]
set_option maxRecDepth 100000 in
theorem nhD_272_ok : nh_dtB prog_14_method_114_code nhD_272 = true := by decide +kernel
def nhD_273 : nhDt := [(0, .iload_n 1, 1), (1, .iconst 0, 1), (2, .aload_n 0, 1), (3, .getfield 359, 3), (6, .iconst 1, 1), (7, .isub, 1), (8, .invokestatic 343, 3), (11, .ifCond .eq 12, 3), (14, .aload_n 0, 1), (15, .getfield 124, 3), (18, .iload_n 1, 1), (19, .iaload, 1), (20, .ifCond .lt 5, 3), (23, .iconst 0, 1), (24, .ireturn, 1), (25, .aload_n 0, 1), (26, .getfield 124, 3), (29, .iload_n 1, 1), (30, .aload_n 0, 1), (31, .getfield 481, 3), (34, .iastore, 1), (35, .iconst 1, 1), (36, .ireturn, 1)]
set_option maxRecDepth 100000 in
theorem nhD_273_ok : nh_dtB prog_14_method_115_code nhD_273 = true := by decide +kernel
def nhD_274 : nhDt := [(0, .iload_n 1, 1), (1, .iconst 0, 1), (2, .sipush 1000, 3), (5, .invokestatic 343, 3), (8, .ifCond .eq 15, 3), (11, .aload_n 0, 1), (12, .getfield 481, 3), (15, .iload_n 1, 1), (16, .iadd, 1), (17, .ldc_w 484, 3), (20, .if_icmp .le 5, 3), (23, .iconst (-1), 1), (24, .ireturn, 1), (25, .aload_n 0, 1), (26, .dup, 1), (27, .getfield 481, 3), (30, .iload_n 1, 1), (31, .iadd, 1), (32, .putfield 481, 3), (35, .aload_n 0, 1), (36, .getfield 481, 3), (39, .ireturn, 1)]
set_option maxRecDepth 100000 in
theorem nhD_274_ok : nh_dtB prog_14_method_116_code nhD_274 = true := by decide +kernel
def nhD_275 : nhDt := [(0, .aload_n 0, 1), (1, .invokevirtual 340, 3), (4, .ifCond .ne 5, 3), (7, .iconst 0, 1), (8, .ireturn, 1), (9, .aload_n 0, 1), (10, .invokevirtual 485, 3), (13, .iconst 0, 1), (14, .istore_n 2, 1), (15, .iconst 0, 1), (16, .istore_n 3, 1), (17, .iload_n 3, 1), (18, .aload_n 0, 1), (19, .invokevirtual 347, 3), (22, .if_icmp .ge 26, 3), (25, .iload_n 2, 1), (26, .aload_n 0, 1), (27, .iload_n 3, 1), (28, .iload_n 1, 1), (29, .invokevirtual 488, 3), (32, .ifCond .eq 7, 3), (35, .iconst 1, 1), (36, .goto 4, 3), (39, .iconst 0, 1), (40, .iadd, 1), (41, .istore_n 2, 1), (42, .iinc 3 1, 3), (45, .goto (-28), 3), (48, .iload_n 2, 1), (49, .ireturn, 1)]
set_option maxRecDepth 100000 in
theorem nhD_275_ok : nh_dtB prog_14_method_119_code nhD_275 = true := by decide +kernel
def nhD_276 : nhDt := [(0, .aload_n 0, 1), (1, .invokevirtual 437, 3), (4, .iconst 0, 1), (5, .istore_n 1, 1), (6, .iload_n 1, 1), (7, .aload_n 0, 1), (8, .invokevirtual 347, 3), (11, .if_icmp .ge 85, 3), (14, .aload_n 0, 1), (15, .iload_n 1, 1), (16, .putfield 88, 3), (19, .aload_n 0, 1), (20, .invokevirtual 350, 3), (23, .aload_n 0, 1), (24, .getfield 130, 3), (27, .iload_n 1, 1), (28, .aload_n 0, 1), (29, .getfield 85, 3), (32, .bipush 19, 2), (34, .iload_n 1, 1), (35, .iadd, 1), (36, .iaload, 1), (37, .ifCond .ne 7, 3), (40, .iconst 1, 1), (41, .goto 4, 3), (44, .iconst 0, 1), (45, .bastore, 1), (46, .iconst 0, 1), (47, .istore_n 2, 1), (48, .iload_n 2, 1), (49, .bipush 12, 2), (51, .if_icmp .gt 39, 3), (54, .aload_n 0, 1), (55, .getfield 109, 3), (58, .bipush 13, 2), (60, .iload_n 1, 1), (61, .imul, 1), (62, .iload_n 2, 1), (63, .iadd, 1), (64, .aload_n 0, 1), (65, .getfield 85, 3), (68, .iconst 0, 1), (69, .aload_n 0, 1), (70, .invokevirtual 340, 3), (73, .iadd, 1), (74, .iconst 1, 1), (75, .isub, 1), (76, .iaload, 1), (77, .iastore, 1), (78, .aload_n 0, 1), (79, .iconst 0, 1), (80, .invokevirtual 431, 3), (83, .istore_n 3, 1), (84, .iinc 2 1, 3), (87, .goto (-39), 3), (90, .iinc 1 1, 3), (93, .goto (-87), 3), (96, .aload_n 0, 1), (97, .iconst (-1), 1), (98, .putfield 88, 3), (101, .aload_n 0, 1), (102, .invokevirtual 440, 3), (105, .return_, 1)]
set_option maxRecDepth 100000 in
theorem nhD_276_ok : nh_dtB prog_14_method_117_code nhD_276 = true := by decide +kernel
def nhD_277 : nhDt := [(0, .aload_n 0, 1), (1, .getfield 130, 3), (4, .iload_n 1, 1), (5, .baload, 1), (6, .ifCond .ne 5, 3), (9, .iconst 0, 1), (10, .ireturn, 1), (11, .iconst 0, 1), (12, .istore_n 3, 1), (13, .iload_n 3, 1), (14, .aload_n 0, 1), (15, .getfield 359, 3), (18, .if_icmp .ge 86, 3), (21, .aload_n 0, 1), (22, .getfield 121, 3), (25, .iload_n 3, 1), (26, .iaload, 1), (27, .iload_n 2, 1), (28, .if_icmp .gt 70, 3), (31, .aload_n 0, 1), (32, .getfield 124, 3), (35, .iload_n 3, 1), (36, .iaload, 1), (37, .ifCond .lt 16, 3), (40, .aload_n 0, 1), (41, .getfield 124, 3), (44, .iload_n 3, 1), (45, .iaload, 1), (46, .iload_n 2, 1), (47, .if_icmp .gt 6, 3), (50, .goto 48, 3), (53, .aload_n 0, 1), (54, .getfield 109, 3), (57, .bipush 13, 2), (59, .iload_n 1, 1), (60, .imul, 1), (61, .aload_n 0, 1), (62, .getfield 112, 3), (65, .iload_n 3, 1), (66, .iaload, 1), (67, .iadd, 1), (68, .iaload, 1), (69, .aload_n 0, 1), (70, .getfield 115, 3), (73, .iload_n 3, 1), (74, .iaload, 1), (75, .if_icmp .ne 7, 3), (78, .iconst 1, 1), (79, .goto 4, 3), (82, .iconst 0, 1), (83, .istore 4, 2), (85, .iload 4, 2), (87, .aload_n 0, 1), (88, .getfield 118, 3), (91, .iload_n 3, 1), (92, .iaload, 1), (93, .if_icmp .eq 5, 3), (96, .iconst 0, 1), (97, .ireturn, 1), (98, .iinc 3 1, 3), (101, .goto (-88), 3), (104, .iconst 1, 1), (105, .ireturn, 1)]
set_option maxRecDepth 100000 in
theorem nhD_277_ok : nh_dtB prog_14_method_118_code nhD_277 = true := by decide +kernel
def nhD_278 : nhDt := [(0, .iload_n 1, 1), (1, .iconst 0, 1), (2, .iconst 1, 1), (3, .invokestatic 343, 3), (6, .ifCond .eq 11, 3), (9, .aload_n 0, 1), (10, .iload_n 2, 1), (11, .invokevirtual 491, 3), (14, .ifCond .ne 5, 3), (17, .iconst (-1), 1), (18, .ireturn, 1), (19, .iload_n 1, 1), (20, .ifCond .ne 7, 3), (23, .iconst 0, 1), (24, .goto 9, 3), (27, .aload_n 0, 1), (28, .invokevirtual 347, 3), (31, .iconst 1, 1), (32, .isub, 1), (33, .istore_n 3, 1), (34, .aload_n 0, 1), (35, .iload_n 3, 1), (36, .iload_n 2, 1), (37, .invokevirtual 488, 3), (40, .ifCond .ne 18, 3), (43, .iload_n 3, 1), (44, .iload_n 1, 1), (45, .ifCond .ne 7, 3), (48, .iconst 1, 1), (49, .goto 4, 3), (52, .iconst (-1), 1), (53, .iadd, 1), (54, .istore_n 3, 1), (55, .goto (-21), 3), (58, .iload_n 3, 1), (59, .ireturn, 1)]
set_option maxRecDepth 100000 in
theorem nhD_278_ok : nh_dtB prog_14_method_120_code nhD_278 = true := by decide +kernel
def nhD_279 : nhDt := [(0, .iload_n 1, 1), (1, .iconst 0, 1), (2, .iconst 1, 1), (3, .invokestatic 343, 3), (6, .ifCond .eq 11, 3), (9, .aload_n 0, 1), (10, .iload_n 2, 1), (11, .invokevirtual 491, 3), (14, .ifCond .ne 5, 3), (17, .iconst (-1), 1), (18, .ireturn, 1), (19, .iconst 0, 1), (20, .istore_n 3, 1), (21, .iconst 1, 1), (22, .istore 4, 2), (24, .iload 4, 2), (26, .bipush 12, 2), (28, .if_icmp .gt 28, 3), (31, .aload_n 0, 1), (32, .iload 4, 2), (34, .iload_n 2, 1), (35, .invokevirtual 494, 3), (38, .aload_n 0, 1), (39, .iload_n 3, 1), (40, .iload_n 2, 1), (41, .invokevirtual 494, 3), (44, .if_icmp .ge 6, 3), (47, .iload 4, 2), (49, .istore_n 3, 1), (50, .iinc 4 1, 3), (53, .goto (-29), 3), (56, .iload_n 1, 1), (57, .ifCond .ne 7, 3), (60, .iload_n 3, 1), (61, .goto 9, 3), (64, .aload_n 0, 1), (65, .iload_n 3, 1), (66, .iload_n 2, 1), (67, .invokevirtual 494, 3), (70, .ireturn, 1)]
set_option maxRecDepth 100000 in
theorem nhD_279_ok : nh_dtB prog_14_method_122_code nhD_279 = true := by decide +kernel
def nhDc_6 : List nhDt := [nhD_240, nhD_241, nhD_242, nhD_243, nhD_244, nhD_245, nhD_246, nhD_247, nhD_248, nhD_249, nhD_250, nhD_251, nhD_252, nhD_253, nhD_254, nhD_255, nhD_256, nhD_257, nhD_258, nhD_259, nhD_260, nhD_261, nhD_262, nhD_263, nhD_264, nhD_265, nhD_266, nhD_267, nhD_268, nhD_269, nhD_270, nhD_271, nhD_272, nhD_273, nhD_274, nhD_275, nhD_276, nhD_277, nhD_278, nhD_279]
set_option maxRecDepth 100000 in
theorem nhDz_6 : nhZ nhMt_6 nhDc_6 := ⟨nhD_240_ok, nhD_241_ok, nhD_242_ok, nhD_243_ok, nhD_244_ok, nhD_245_ok, nhD_246_ok, nhD_247_ok, nhD_248_ok, nhD_249_ok, nhD_250_ok, nhD_251_ok, nhD_252_ok, nhD_253_ok, nhD_254_ok, nhD_255_ok, nhD_256_ok, nhD_257_ok, nhD_258_ok, nhD_259_ok, nhD_260_ok, nhD_261_ok, nhD_262_ok, nhD_263_ok, nhD_264_ok, nhD_265_ok, nhD_266_ok, nhD_267_ok, nhD_268_ok, nhD_269_ok, nhD_270_ok, nhD_271_ok, nhD_272_ok, nhD_273_ok, nhD_274_ok, nhD_275_ok, nhD_276_ok, nhD_277_ok, nhD_278_ok, nhD_279_ok, trivial⟩
def nhD_280 : nhDt := [(0, .iconst 0, 1), (1, .istore_n 3, 1), (2, .iload_n 3, 1), (3, .bipush 36, 2), (5, .if_icmp .ge 16, 3), (8, .aload_n 0, 1), (9, .getfield 127, 3), (12, .iload_n 3, 1), (13, .iconst 0, 1), (14, .iastore, 1), (15, .iinc 3 1, 3), (18, .goto (-16), 3), (21, .iconst 0, 1), (22, .istore_n 3, 1), (23, .iconst 0, 1), (24, .istore 4, 2), (26, .iload 4, 2), (28, .aload_n 0, 1), (29, .invokevirtual 347, 3), (32, .if_icmp .ge 66, 3), (35, .aload_n 0, 1), (36, .iload 4, 2), (38, .iload_n 2, 1), (39, .invokevirtual 488, 3), (42, .ifCond .ne 6, 3), (45, .goto 47, 3), (48, .aload_n 0, 1), (49, .getfield 109, 3), (52, .bipush 13, 2), (54, .iload 4, 2), (56, .imul, 1), (57, .iload_n 1, 1), (58, .iadd, 1), (59, .iaload, 1), (60, .istore 5, 2), (62, .aload_n 0, 1), (63, .getfield 127, 3), (66, .iload 5, 2), (68, .dup2, 1), (69, .iaload, 1), (70, .iconst 1, 1), (71, .iadd, 1), (72, .iastore, 1), (73, .aload_n 0, 1), (74, .getfield 127, 3), (77, .iload 5, 2), (79, .iaload, 1), (80, .iload_n 3, 1), (81, .if_icmp .le 11, 3), (84, .aload_n 0, 1), (85, .getfield 127, 3), (88, .iload 5, 2), (90, .iaload, 1), (91, .istore_n 3, 1), (92, .iinc 4 1, 3), (95, .goto (-69), 3), (98, .iload_n 3, 1), (99, .ireturn, 1)]
set_option maxRecDepth 100000 in
theorem nhD_280_ok : nh_dtB prog_14_method_121_code nhD_280 = true := by decide +kernel
def nhD_281 : nhDt := [(0, .iload_n 1, 1), (1, .iconst 0, 1), (2, .iconst 2, 1), (3, .invokestatic 343, 3), (6, .ifCond .ne 5, 3), (9, .iconst (-1), 1), (10, .ireturn, 1), (11, .iconst 0, 1), (12, .istore_n 2, 1), (13, .iload_n 2, 1), (14, .bipush 55, 2), (16, .if_icmp .ge 26, 3), (19, .aload_n 0, 1), (20, .getfield 134, 3), (23, .bipush 55, 2), (25, .iload_n 1, 1), (26, .imul, 1), (27, .iload_n 2, 1), (28, .iadd, 1), (29, .aload_n 0, 1), (30, .getfield 85, 3), (33, .iload_n 2, 1), (34, .iaload, 1), (35, .iastore, 1), (36, .iinc 2 1, 3), (39, .goto (-26), 3), (42, .aload_n 0, 1), (43, .getfield 137, 3), (46, .iload_n 1, 1), (47, .iconst 1, 1), (48, .bastore, 1), (49, .aload_n 0, 1), (50, .getfield 85, 3), (53, .bipush 17, 2), (55, .iaload, 1), (56, .ireturn, 1)]
set_option maxRecDepth 100000 in
theorem nhD_281_ok : nh_dtB prog_14_method_123_code nhD_281 = true := by decide +kernel
def nhD_282 : nhDt := [(0, .iload_n 1, 1), (1, .iconst 0, 1), (2, .iconst 2, 1), (3, .invokestatic 343, 3), (6, .ifCond .eq 12, 3), (9, .aload_n 0, 1), (10, .getfield 137, 3), (13, .iload_n 1, 1), (14, .baload, 1), (15, .ifCond .ne 5, 3), (18, .iconst (-1), 1), (19, .ireturn, 1), (20, .iconst 0, 1), (21, .istore_n 2, 1), (22, .iload_n 2, 1), (23, .bipush 55, 2), (25, .if_icmp .ge 26, 3), (28, .aload_n 0, 1), (29, .getfield 85, 3), (32, .iload_n 2, 1), (33, .aload_n 0, 1), (34, .getfield 134, 3), (37, .bipush 55, 2), (39, .iload_n 1, 1), (40, .imul, 1), (41, .iload_n 2, 1), (42, .iadd, 1), (43, .iaload, 1), (44, .iastore, 1), (45, .iinc 2 1, 3), (48, .goto (-26), 3), (51, .aload_n 0, 1), (52, .iconst 0, 1), (53, .putfield 353, 3), (56, .aload_n 0, 1), (57, .iconst 0, 1), (58, .putfield 356, 3), (61, .aload_n 0, 1), (62, .getfield 85, 3), (65, .bipush 17, 2), (67, .iaload, 1), (68, .ireturn, 1)]
set_option maxRecDepth 100000 in
theorem nhD_282_ok : nh_dtB prog_14_method_124_code nhD_282 = true := by decide +kernel
def nhD_283 : nhDt := [(0, .iload_n 1, 1), (1, .tableswitch 205 0 16 #[83, 88, 98, 108, 113, 121, 129, 137, 145, 150, 155, 160, 165, 170, 180, 185, 195], 83), (84, .aload_n 0, 1), (85, .invokevirtual 340, 3), (88, .ireturn, 1), (89, .aload_n 0, 1), (90, .getfield 20, 3), (93, .aload_n 0, 1), (94, .getfield 247, 3), (97, .iaload, 1), (98, .ireturn, 1), (99, .aload_n 0, 1), (100, .getfield 24, 3), (103, .aload_n 0, 1), (104, .getfield 247, 3), (107, .iaload, 1), (108, .ireturn, 1), (109, .aload_n 0, 1), (110, .invokevirtual 425, 3), (113, .ireturn, 1), (114, .aload_n 0, 1), (115, .getfield 85, 3), (118, .bipush 15, 2), (120, .iaload, 1), (121, .ireturn, 1), (122, .aload_n 0, 1), (123, .getfield 85, 3), (126, .bipush 16, 2), (128, .iaload, 1), (129, .ireturn, 1), (130, .aload_n 0, 1), (131, .getfield 85, 3), (134, .bipush 17, 2), (136, .iaload, 1), (137, .ireturn, 1), (138, .aload_n 0, 1), (139, .getfield 85, 3), (142, .bipush 18, 2), (144, .iaload, 1), (145, .ireturn, 1), (146, .aload_n 0, 1), (147, .getfield 353, 3), (150, .ireturn, 1), (151, .aload_n 0, 1), (152, .getfield 356, 3), (155, .ireturn, 1), (156, .aload_n 0, 1), (157, .getfield 359, 3), (160, .ireturn, 1), (161, .aload_n 0, 1), (162, .getfield 481, 3), (165, .ireturn, 1), (166, .aload_n 0, 1), (167, .getfield 244, 3), (170, .ireturn, 1), (171, .aload_n 0, 1), (172, .getfield 39, 3), (175, .aload_n 0, 1), (176, .getfield 247, 3), (179, .iaload, 1), (180, .ireturn, 1), (181, .aload_n 0, 1), (182, .getfield 362, 3), (185, .ireturn, 1), (186, .aload_n 0, 1), (187, .getfield 42, 3), (190, .aload_n 0, 1), (191, .getfield 247, 3), (194, .iaload, 1), (195, .ireturn, 1), (196, .aload_n 0, 1), (197, .getfield 45, 3), (200, .aload_n 0, 1), (201, .getfield 247, 3), (204, .iaload, 1), (205, .ireturn, 1), (206, .iconst (-1), 1), (207, .ireturn, 1)]
set_option maxRecDepth 100000 in
theorem nhD_283_ok : nh_dtB prog_14_method_125_code nhD_283 = true := by decide +kernel
def nhD_284 : nhDt := [(0, .aload_n 0, 1), (1, .getfield 244, 3), (4, .bipush 20, 2), (6, .iadd, 1), (7, .sipush 1600, 3), (10, .if_icmp .le 5, 3), (13, .iconst (-1), 1), (14, .ireturn, 1), (15, .iconst 0, 1), (16, .istore 6, 2), (18, .iload 6, 2), (20, .bipush 20, 2), (22, .if_icmp .ge 83, 3), (25, .iload 6, 2), (27, .iconst 4, 1), (28, .if_icmp .ge 7, 3), (31, .iload_n 1, 1), (32, .goto 39, 3), (35, .iload 6, 2), (37, .bipush 8, 2), (39, .if_icmp .ge 7, 3), (42, .iload_n 2, 1), (43, .goto 28, 3), (46, .iload 6, 2), (48, .bipush 12, 2), (50, .if_icmp .ge 7, 3), (53, .iload_n 3, 1), (54, .goto 17, 3), (57, .iload 6, 2), (59, .bipush 16, 2), (61, .if_icmp .ge 8, 3), (64, .iload 4, 2), (66, .goto 5, 3), (69, .iload 5, 2), (71, .istore 7, 2), (73, .aload_n 0, 1), (74, .getfield 7, 3), (77, .aload_n 0, 1), (78, .getfield 244, 3), (81, .iload 6, 2), (83, .iadd, 1), (84, .iload 7, 2), (86, .bipush 24, 2), (88, .bipush 8, 2), (90, .iload 6, 2), (92, .iconst 3, 1), (93, .iand, 1), (94, .imul, 1), (95, .isub, 1), (96, .ishr, 1), (97, .i2b, 1), (98, .bastore, 1), (99, .iinc 6 1, 3), (102, .goto (-84), 3), (105, .aload_n 0, 1), (106, .dup, 1), (107, .getfield 244, 3), (110, .bipush 20, 2), (112, .iadd, 1), (113, .putfield 244, 3), (116, .aload_n 0, 1), (117, .getfield 244, 3), (120, .ireturn, 1)]
set_option maxRecDepth 100000 in
theorem nhD_284_ok : nh_dtB prog_14_method_126_code nhD_284 = true := by decide +kernel
def nhD_285 : nhDt := [(0, .iload_n 1, 1), (1, .ifCond .lt 11, 3), (4, .iload_n 1, 1), (5, .aload_n 0, 1), (6, .getfield 244, 3), (9, .if_icmp .le 5, 3), (12, .iconst (-1), 1), (13, .ireturn, 1), (14, .aload_n 0, 1), (15, .iload_n 1, 1), (16, .putfield 244, 3), (19, .iload_n 1, 1), (20, .ireturn, 1)]
set_option maxRecDepth 100000 in
theorem nhD_285_ok : nh_dtB prog_14_method_127_code nhD_285 = true := by decide +kernel
def nhDc_7 : List nhDt := [nhD_280, nhD_281, nhD_282, nhD_283, nhD_284, nhD_285]
set_option maxRecDepth 100000 in
theorem nhDz_7 : nhZ nhMt_7 nhDc_7 := ⟨nhD_280_ok, nhD_281_ok, nhD_282_ok, nhD_283_ok, nhD_284_ok, nhD_285_ok, trivial⟩
def nhDa : List nhDt := nhDc_0 ++ (nhDc_1 ++ (nhDc_2 ++ (nhDc_3 ++ (nhDc_4 ++ (nhDc_5 ++ (nhDc_6 ++ (nhDc_7)))))))
theorem nhDz : nhZ nhMt nhDa := nhZ.app nhDz_0 (nhZ.app nhDz_1 (nhZ.app nhDz_2 (nhZ.app nhDz_3 (nhZ.app nhDz_4 (nhZ.app nhDz_5 (nhZ.app nhDz_6 (nhDz_7)))))))
end
section
/-! the links by program -/
def nhMl_0 : List (Nat × Nat) := [(49, 110), (75, 79), (83, 80), (55, 111), (67, 112), (59, 113), (71, 114)]
set_option maxRecDepth 100000 in
theorem nhLk_0 : nhMl_0.map (fun q => (nhMt[q.2]?).map (fun y => Cond.methodLink "NightHouses$Fencer" q.1 y.1)) = ([1166, 1170, 1171, 1173, 1177, 1180, 1184] : List Nat).map (fun i => lw_tbl[i]?) := rfl
def nhMl_1 : List (Nat × Nat) := [(26, 58)]
set_option maxRecDepth 100000 in
theorem nhLk_1 : nhMl_1.map (fun q => (nhMt[q.2]?).map (fun y => Cond.methodLink "NightHouses$Formula" q.1 y.1)) = ([942] : List Nat).map (fun i => lw_tbl[i]?) := rfl
def nhMl_2 : List (Nat × Nat) := [(26, 78), (30, 79)]
set_option maxRecDepth 100000 in
theorem nhLk_2 : nhMl_2.map (fun q => (nhMt[q.2]?).map (fun y => Cond.methodLink "NightHouses$History" q.1 y.1)) = ([1029, 1033] : List Nat).map (fun i => lw_tbl[i]?) := rfl
def nhMl_3 : List (Nat × Nat) := [(31, 1), (35, 2), (67, 4), (71, 53), (80, 54)]
set_option maxRecDepth 100000 in
theorem nhLk_3 : nhMl_3.map (fun q => (nhMt[q.2]?).map (fun y => Cond.methodLink "NightHouses$Land" q.1 y.1)) = ([551, 555, 563, 968, 972] : List Nat).map (fun i => lw_tbl[i]?) := rfl
def nhMl_4 : List (Nat × Nat) := [(32, 6)]
set_option maxRecDepth 100000 in
theorem nhLk_4 : nhMl_4.map (fun q => (nhMt[q.2]?).map (fun y => Cond.methodLink "NightHouses$Night" q.1 y.1)) = ([574] : List Nat).map (fun i => lw_tbl[i]?) := rfl
def nhMl_5 : List (Nat × Nat) := [(45, 79), (49, 104), (61, 63), (70, 105), (81, 80), (74, 106), (90, 69)]
set_option maxRecDepth 100000 in
theorem nhLk_5 : nhMl_5.map (fun q => (nhMt[q.2]?).map (fun y => Cond.methodLink "NightHouses$Planner" q.1 y.1)) = ([1136, 1137, 1141, 1143, 1147, 1148, 1152] : List Nat).map (fun i => lw_tbl[i]?) := rfl
def nhMl_6 : List (Nat × Nat) := [(33, 0), (60, 13), (67, 22), (102, 23), (99, 24), (109, 25), (113, 14), (71, 26), (122, 27), (125, 1), (75, 28), (144, 29), (135, 4), (138, 30), (81, 31), (84, 32), (87, 33), (158, 34), (170, 35), (183, 36), (186, 37), (179, 38), (189, 39), (196, 40), (199, 41), (205, 42), (202, 43), (192, 44), (90, 45), (93, 46), (96, 47)]
set_option maxRecDepth 100000 in
theorem nhLk_6 : nhMl_6.map (fun q => (nhMt[q.2]?).map (fun y => Cond.methodLink "NightHouses$Reader" q.1 y.1)) = ([653, 654, 799, 803, 807, 811, 815, 816, 820, 824, 825, 829, 833, 834, 838, 842, 846, 850, 854, 858, 862, 866, 870, 874, 878, 882, 885, 888, 891, 895, 899] : List Nat).map (fun i => lw_tbl[i]?) := rfl
def nhMl_7 : List (Nat × Nat) := [(69, 149), (57, 5), (63, 80), (78, 150), (82, 151), (86, 152), (90, 6)]
set_option maxRecDepth 100000 in
theorem nhLk_7 : nhMl_7.map (fun q => (nhMt[q.2]?).map (fun y => Cond.methodLink "NightHouses$Sightings" q.1 y.1)) = ([1330, 1334, 1335, 1337, 1341, 1345, 1374] : List Nat).map (fun i => lw_tbl[i]?) := rfl
def nhMl_8 : List (Nat × Nat) := [(76, 53), (80, 54), (83, 55), (92, 56), (95, 57), (68, 63), (15, 69), (27, 81), (38, 82), (35, 52), (48, 83), (55, 84)]
set_option maxRecDepth 100000 in
theorem nhLk_8 : nhMl_8.map (fun q => (nhMt[q.2]?).map (fun y => Cond.methodLink "NightHouses$Steps" q.1 y.1)) = ([922, 926, 930, 934, 938, 998, 1040, 1041, 1044, 1048, 1049, 1052] : List Nat).map (fun i => lw_tbl[i]?) := rfl
def nhMl_9 : List (Nat × Nat) := [(26, 14), (29, 15), (39, 16), (43, 17), (46, 18), (50, 19), (53, 20)]
set_option maxRecDepth 100000 in
theorem nhLk_9 : nhMl_9.map (fun q => (nhMt[q.2]?).map (fun y => Cond.methodLink "NightHouses$Tokens" q.1 y.1)) = ([661, 665, 669, 672, 677, 730, 733] : List Nat).map (fun i => lw_tbl[i]?) := rfl
def nhMl_10 : List (Nat × Nat) := [(21, 6), (45, 121), (31, 129), (35, 130), (39, 82)]
set_option maxRecDepth 100000 in
theorem nhLk_10 : nhMl_10.map (fun q => (nhMt[q.2]?).map (fun y => Cond.methodLink "NightHouses$Walks" q.1 y.1)) = ([1210, 1215, 1247, 1251, 1255] : List Nat).map (fun i => lw_tbl[i]?) := rfl
def nhMl_11 : List (Nat × Nat) := [(96, 0), (99, 3), (102, 5), (106, 7), (109, 9), (113, 12), (116, 21), (120, 48), (130, 51), (146, 52), (152, 59), (156, 61), (159, 62), (165, 63), (179, 65), (194, 66), (221, 69), (225, 72), (229, 75), (232, 77), (236, 80), (240, 84), (243, 82), (247, 88), (252, 91), (256, 93), (259, 79), (262, 97), (299, 98), (266, 101), (270, 103), (283, 108), (287, 109), (302, 116), (306, 119), (309, 120), (313, 122), (322, 128), (326, 130), (332, 136), (336, 137), (342, 139), (345, 140), (348, 143), (352, 145), (356, 148), (360, 154), (363, 156), (366, 159)]
set_option maxRecDepth 100000 in
theorem nhLk_11 : nhMl_11.map (fun q => (nhMt[q.2]?).map (fun y => Cond.methodLink "NightHouses" q.1 y.1)) = ([547, 559, 567, 577, 637, 649, 795, 903, 915, 919, 948, 956, 960, 964, 977, 983, 995, 1007, 1018, 1025, 1037, 1055, 1060, 1069, 1082, 1090, 1098, 1107, 1111, 1123, 1131, 1158, 1162, 1192, 1206, 1211, 1218, 1243, 1256, 1277, 1281, 1290, 1294, 1305, 1313, 1326, 1353, 1360, 1370] : List Nat).map (fun i => lw_tbl[i]?) := rfl
def nhMl_12 : List (Nat × Nat) := [(140, 160), (143, 161), (350, 162), (340, 163), (365, 164), (232, 166), (196, 167), (203, 168), (211, 169), (215, 170), (221, 171), (228, 172), (250, 173), (271, 174), (264, 175), (253, 176), (235, 177), (224, 178), (267, 179), (274, 180), (278, 181), (261, 182), (294, 183), (282, 184), (285, 185), (300, 186), (309, 187), (312, 188), (291, 189), (318, 190), (321, 191), (315, 192), (324, 193), (327, 194), (288, 195), (257, 196), (404, 199), (343, 200), (389, 201), (371, 202), (333, 203), (336, 204), (392, 205), (407, 207), (347, 208), (377, 209), (368, 210), (383, 212), (395, 214), (410, 216), (374, 219), (413, 222), (416, 224), (419, 225), (398, 226), (386, 227), (401, 228), (422, 232), (425, 233), (428, 236), (434, 240), (437, 241), (431, 242), (440, 243), (443, 247), (447, 249), (450, 252), (453, 253), (456, 257), (459, 261), (466, 266), (469, 267), (472, 268), (475, 270), (478, 271), (485, 276), (488, 277), (491, 275), (494, 280)]
set_option maxRecDepth 100000 in
theorem nhLk_12 : nhMl_12.map (fun q => (nhMt[q.2]?).map (fun y => Cond.methodLink "NightHousesModel" q.1 y.1)) = ([1382, 1386, 1390, 1394, 1398, 1599, 1603, 1607, 1610, 1632, 1635, 1638, 1642, 1646, 1650, 1654, 1657, 1661, 1665, 1669, 1673, 1677, 1681, 1685, 1689, 1693, 1697, 1701, 1705, 1709, 1713, 1717, 1721, 1725, 1729, 1733, 1745, 1749, 1752, 1756, 1760, 1764, 1767, 1775, 1779, 1783, 1787, 1794, 1802, 1809, 1821, 1833, 1841, 1845, 1849, 1853, 1857, 1873, 1877, 1889, 1905, 1908, 1912, 1916, 1932, 1940, 1952, 1956, 1972, 1988, 2008, 2012, 2016, 2024, 2027, 2047, 2051, 2059, 2064] : List Nat).map (fun i => lw_tbl[i]?) := rfl
def nhMl_13 : List (Nat × Nat) := [(311, 155), (308, 157)]
set_option maxRecDepth 100000 in
theorem nhLk_13 : nhMl_13.map (fun q => (nhMt[q.2]?).map (fun y => Cond.methodLink "java/lang/Long" q.1 y.1)) = ([1356, 1363] : List Nat).map (fun i => lw_tbl[i]?) := rfl
def nhMl_14 : List (Nat × Nat) := []
set_option maxRecDepth 100000 in
theorem nhLk_14 : nhMl_14.map (fun q => (nhMt[q.2]?).map (fun y => Cond.methodLink "java/lang/Integer" q.1 y.1)) = ([] : List Nat).map (fun i => lw_tbl[i]?) := rfl
def nhMl_15 : List (Nat × Nat) := []
set_option maxRecDepth 100000 in
theorem nhLk_15 : nhMl_15.map (fun q => (nhMt[q.2]?).map (fun y => Cond.methodLink "java/lang/Math" q.1 y.1)) = ([] : List Nat).map (fun i => lw_tbl[i]?) := rfl
def nhMl_16 : List (Nat × Nat) := []
set_option maxRecDepth 100000 in
theorem nhLk_16 : nhMl_16.map (fun q => (nhMt[q.2]?).map (fun y => Cond.methodLink "java/util/Arrays" q.1 y.1)) = ([] : List Nat).map (fun i => lw_tbl[i]?) := rfl
def nhMl_17 : List (Nat × Nat) := []
set_option maxRecDepth 100000 in
theorem nhLk_17 : nhMl_17.map (fun q => (nhMt[q.2]?).map (fun y => Cond.methodLink "java/lang/String" q.1 y.1)) = ([] : List Nat).map (fun i => lw_tbl[i]?) := rfl
def nhMl_18 : List (Nat × Nat) := []
set_option maxRecDepth 100000 in
theorem nhLk_18 : nhMl_18.map (fun q => (nhMt[q.2]?).map (fun y => Cond.methodLink "java/lang/StringLatin1" q.1 y.1)) = ([] : List Nat).map (fun i => lw_tbl[i]?) := rfl
def nhMl_19 : List (Nat × Nat) := []
set_option maxRecDepth 100000 in
theorem nhLk_19 : nhMl_19.map (fun q => (nhMt[q.2]?).map (fun y => Cond.methodLink "java/lang/StringUTF16" q.1 y.1)) = ([] : List Nat).map (fun i => lw_tbl[i]?) := rfl
def nhMl_20 : List (Nat × Nat) := [(13, 8), (18, 10), (23, 11), (28, 49), (32, 50), (37, 60), (211, 64), (173, 67), (136, 68), (161, 70), (140, 71), (149, 73), (169, 74), (41, 76), (46, 85), (50, 86), (54, 87), (58, 89), (62, 90), (67, 92), (203, 94), (207, 95), (71, 96), (76, 99), (80, 100), (84, 102), (88, 107), (92, 115), (132, 117), (108, 118), (120, 123), (112, 124), (144, 125), (153, 126), (96, 127), (165, 131), (104, 132), (124, 133), (116, 134), (100, 135), (128, 138), (157, 141), (177, 142), (182, 144), (187, 146), (191, 147), (195, 153), (199, 158), (27, 165), (31, 197), (36, 198), (40, 206), (139, 211), (164, 213), (143, 215), (152, 217), (119, 218), (160, 220), (131, 221), (45, 223), (49, 229), (53, 230), (57, 231), (61, 234), (66, 235), (70, 237), (176, 238), (75, 239), (79, 244), (83, 245), (148, 246), (156, 248), (115, 250), (111, 251), (123, 254), (87, 255), (91, 256), (95, 258), (135, 259), (99, 260), (168, 262), (107, 263), (127, 264), (103, 265), (172, 269), (181, 272), (186, 273), (190, 274), (194, 275), (198, 278), (202, 279), (206, 281), (210, 282), (214, 283), (17, 284), (22, 285)]
set_option maxRecDepth 100000 in
theorem nhLk_20 : nhMl_20.map (fun q => (nhMt[q.2]?).map (fun y => Cond.methodLink "NightHousesLaw" q.1 y.1)) = ([633, 641, 645, 907, 911, 952, 973, 987, 991, 999, 1003, 1010, 1014, 1021, 1056, 1061, 1065, 1073, 1078, 1086, 1094, 1099, 1103, 1115, 1119, 1127, 1154, 1188, 1198, 1202, 1222, 1226, 1231, 1235, 1239, 1257, 1261, 1265, 1269, 1273, 1286, 1297, 1301, 1309, 1317, 1322, 1349, 1366, 1595, 1737, 1741, 1771, 1790, 1798, 1805, 1813, 1817, 1825, 1829, 1837, 1861, 1865, 1869, 1881, 1885, 1893, 1897, 1901, 1920, 1924, 1928, 1936, 1944, 1948, 1960, 1964, 1968, 1976, 1980, 1984, 1992, 1996, 2000, 2004, 2020, 2030, 2034, 2038, 2043, 2055, 2060, 2068, 2072, 2076, 2080, 2084] : List Nat).map (fun i => lw_tbl[i]?) := rfl
def nhLn : List (List (Nat × Nat)) := [nhMl_0, nhMl_1, nhMl_2, nhMl_3, nhMl_4, nhMl_5, nhMl_6, nhMl_7, nhMl_8, nhMl_9, nhMl_10, nhMl_11, nhMl_12, nhMl_13, nhMl_14, nhMl_15, nhMl_16, nhMl_17, nhMl_18, nhMl_19, nhMl_20]
theorem nhLk0 {L : List (Nat × Nat)} {C : String} {ps : List Nat} (h : L.map (fun q => (nhMt[q.2]?).map (fun y => Cond.methodLink C q.1 y.1)) = ps.map (fun i => lw_tbl[i]?)) {q : Nat × Nat} (hq : q ∈ L) {y : nhMth} (hy : nhMt[q.2]? = some y) : Cond.methodLink C q.1 y.1 ∈ nhTb := by
  have h1 : (nhMt[q.2]?).map (fun y => Cond.methodLink C q.1 y.1) ∈ L.map (fun q => (nhMt[q.2]?).map (fun y => Cond.methodLink C q.1 y.1)) := List.mem_map.mpr ⟨q, hq, rfl⟩
  rw [h, hy] at h1
  obtain ⟨i, -, hi⟩ := List.mem_map.mp h1
  exact nhTb_mem (List.mem_of_getElem? hi) rfl
theorem nh_lk_ok {o : Nat} {C : String} (hC : nhOw[o]? = some C) {q : Nat × Nat} (hq : q ∈ nhLn.getD o []) {y : nhMth} (hy : nhMt[q.2]? = some y) : Cond.methodLink C q.1 y.1 ∈ nhTb := by
  match o, hC, hq with
  | 0, hC, hq => cases hC; exact nhLk0 nhLk_0 hq hy
  | 1, hC, hq => cases hC; exact nhLk0 nhLk_1 hq hy
  | 2, hC, hq => cases hC; exact nhLk0 nhLk_2 hq hy
  | 3, hC, hq => cases hC; exact nhLk0 nhLk_3 hq hy
  | 4, hC, hq => cases hC; exact nhLk0 nhLk_4 hq hy
  | 5, hC, hq => cases hC; exact nhLk0 nhLk_5 hq hy
  | 6, hC, hq => cases hC; exact nhLk0 nhLk_6 hq hy
  | 7, hC, hq => cases hC; exact nhLk0 nhLk_7 hq hy
  | 8, hC, hq => cases hC; exact nhLk0 nhLk_8 hq hy
  | 9, hC, hq => cases hC; exact nhLk0 nhLk_9 hq hy
  | 10, hC, hq => cases hC; exact nhLk0 nhLk_10 hq hy
  | 11, hC, hq => cases hC; exact nhLk0 nhLk_11 hq hy
  | 12, hC, hq => cases hC; exact nhLk0 nhLk_12 hq hy
  | 13, hC, hq => cases hC; exact nhLk0 nhLk_13 hq hy
  | 14, hC, hq => cases hC; exact nhLk0 nhLk_14 hq hy
  | 15, hC, hq => cases hC; exact nhLk0 nhLk_15 hq hy
  | 16, hC, hq => cases hC; exact nhLk0 nhLk_16 hq hy
  | 17, hC, hq => cases hC; exact nhLk0 nhLk_17 hq hy
  | 18, hC, hq => cases hC; exact nhLk0 nhLk_18 hq hy
  | 19, hC, hq => cases hC; exact nhLk0 nhLk_19 hq hy
  | 20, hC, hq => cases hC; exact nhLk0 nhLk_20 hq hy
  | n + 21, hC, _ => simp at hC
end
section
/-! calls -/
def nh_catS (vs : List nhV) : List Nat → Option Nat
  | [] => some 0
  | j :: r => match vs[j]?, nh_catS vs r with
    | some v, some n => if nh_cat v = 0 ∨ nh_cat v = 2 then some (n + 1) else if nh_cat v = 1 then some (n + 2) else none
    | _, _ => none
theorem nh_catS_ok {Γ : Nat → Int} {g : Nat → Int32} {vs : List nhV} {ρ : List Value} (hA : nhAll Γ g vs ρ) : ∀ {is : List Nat} {st : List Value} {n : Nat}, nh_catS vs is = some n → nhSt ρ is st → (st.map fun v => v.category).sum ≤ n
  | [], [], n, h, _ => by simp
  | [], _ :: _, _, _, h => h.elim
  | _ :: _, [], _, _, h => h.elim
  | j :: r, x :: st, n, h, hs => by
    unfold nh_catS at h
    split at h
    · rename_i v k hv hk
      obtain ⟨x', g1, g2⟩ := hA.2 j v hv
      rw [hs.1] at g1; cases g1
      have ih := nh_catS_ok hA hk hs.2
      simp only [List.map_cons, List.sum_cons]
      split at h
      · rename_i hc
        cases h
        rw [nh_cat1 g2 hc]
        omega
      · split at h
        · rename_i hc
          cases h
          obtain ⟨a, rfl⟩ := (nh_cat_ok g2).2.1 hc
          have : (Value.long a).category = 2 := rfl
          omega
        · cases h
    · cases h
theorem nhSt.app {ρ : List Value} : ∀ {a b : List Nat} {st : List Value}, nhSt ρ (a ++ b) st → ∃ s1 s2, st = s1 ++ s2 ∧ nhSt ρ a s1 ∧ nhSt ρ b s2
  | [], b, st, h => ⟨[], st, rfl, trivial, h⟩
  | i :: a, b, st, h => by
    obtain ⟨x, xs, rfl, h1, h2⟩ := nhSt.inv1 (i := i) (is := a ++ b) h
    obtain ⟨s1, s2, rfl, h3, h4⟩ := nhSt.app h2
    exact ⟨x :: s1, s2, rfl, ⟨h1, h3⟩, h4⟩
theorem nhSt.pick {ρ : List Value} : ∀ {a : List Nat} {st : List Value}, nhSt ρ a st → nh_pick ρ a = st
  | [], [], _ => rfl
  | i :: a, x :: st, h => by
    show (ρ[i]?).getD .null :: nh_pick ρ a = x :: st
    rw [h.1, nhSt.pick h.2]
    rfl
  | [], _ :: _, h => h.elim
  | _ :: _, [], h => h.elim
section NH17
variable {p : Program} {l : Launch} {e : Env} {R : Room} {s : State} {m : MethodId} {args : Array Value} {below : List Frame} {meth : Method} {c : Code} {Q : State → Prop}
variable {cc : ByteArray} {E : nhE} {nL : Nat} {pu : Bool} {pc own : Nat} {S : nhS} {ρ0 : List Value}
/-- behind a call, by its contract -/
theorem nh_after {H : Heap} {locs : List Loc} {ls : Array Slot} {st0 rest : List Value} {ct : nhCtr} {ρ' : List Value} {a : Array Value} (hr : va_Run p l e R s m args below meth c H locs 0 0 0 0 (F0 m pc ls st0) rest (nhQc E ct ρ' a) (fun a => 0 ≤ E.2.2.1 a))
    (k : ∀ (v : Option Value) (H1 : Heap) (locs1 : List Loc), nhPost E ct ρ' v H1 → nhH E.1 E.2.1 E.2.2.1 E.2.2.2 H1 → H1.size = H.size → (∀ q : Nat, E.2.2.1 q < 0 → H1[q]? = H[q]?) → (ct.2.2.2.2.2.2 = true → H1 = H) → (∀ q ∈ locs1, q ∈ locs ∨ 0 ≤ E.2.2.1 q.base) → W p l e R s m args below meth c H1 locs1 0 0 Q (F0 m (pc + 3) ls (v.toList ++ rest))) : W p l e R s m args below meth c H locs 0 0 Q (F0 m pc ls st0) := by
  intro T hT X
  obtain ⟨v, st₀, t, T', L, h0, X', hL, e1, e2, ⟨⟨v', hv, hp⟩, hh, hz, hk, hpu⟩, st⟩ := hr T hT X
  cases hv
  rw [h0] at hz hk hpu
  obtain ⟨t2, a1, b1⟩ := k v t.heap (locs ++ L) hp hh hz hk hpu (fun q hq => by
    rcases List.mem_append.mp hq with h | h
    · exact Or.inl h
    · exact Or.inr (hL q h)) T' e1 X'
  exact ⟨t2, st t2 a1, b1⟩
/-- a call's new state -/
def nh_post (ct : nhCtr) (σ : List Nat) (rest : List Nat) (S : nhS) : Option nhS := match ct.2.2.2.1, nh_rc σ S.1.length ct.2.2.2.2.1 with
  | some w, some l => nh_pm σ ct.2.2.2.2.2.1 (S.1 ++ [w], S.2.1, S.1.length :: rest, (if ct.2.2.2.2.2.2 = true then S.2.2.2.1 else []), S.2.2.2.2.1, l ++ S.2.2.2.2.2)
  | none, some _ => nh_pm σ ct.2.2.2.2.2.1 (S.1, S.2.1, rest, (if ct.2.2.2.2.2.2 = true then S.2.2.2.1 else []), S.2.2.2.2)
  | _, none => none
theorem nh_post_ok {ct : nhCtr} {σ rest : List Nat} {S' : nhS} {ρ : List Value} {H H0 H1 : Heap} {locs locs1 : List Loc} {ls : Array Slot} {st xs : List Value} {v : Option Value} (h : nh_post ct σ rest S = some S') (hR : nhR E nL pu H0 S ρ H locs ls st) (hrest : nhSt ρ rest xs) (hσ : ∀ j ∈ σ, ∃ x, ρ[j]? = some x)
    (hp : nhPost E ct (nh_pick ρ σ) v H1) (hH : nhH E.1 E.2.1 E.2.2.1 E.2.2.2 H1) (hz : H1.size = H.size) (hk : ∀ q : Nat, E.2.2.1 q < 0 → H1[q]? = H[q]?) (hpu : ct.2.2.2.2.2.2 = true → H1 = H) (hpp : pu = true → ct.2.2.2.2.2.2 = true) (hl : ∀ q ∈ locs1, q ∈ locs ∨ 0 ≤ E.2.2.1 q.base) :
    ∃ ρ2, nhX ρ ρ2 ∧ nhR E nL pu H0 S' ρ2 H1 locs1 ls (v.toList ++ xs) := by
  obtain ⟨b1, ⟨b2, b2', b2''⟩, b3, b4, b5, b6, b7, b8, b9, b10, b11⟩ := hR
  have hFr : nhFr E.2.2.1 pu H0 H1 locs1 := by
    refine ⟨hz.trans b8, fun q hq => (hk q hq).trans (b9 q hq), fun q hq => ?_, fun hq => ?_⟩
    · rcases hl q hq with h | h
      · exact b10 q h
      · exact h
    · rw [hpu (hpp hq)]
      exact b11 hq
  have hMe : nhMe E.1 ρ H1 (if ct.2.2.2.2.2.2 = true then S.2.2.2.1 else []) := by
    split
    · rename_i hq
      rw [hpu hq]
      exact b4
    · exact fun q hq => by cases hq
  obtain ⟨p1, p2, p3⟩ := hp
  unfold nh_post at h
  split at h
  · rename_i w l' hw hl'
    rw [hw] at p1
    cases v with
    | none => exact p1.elim
    | some x =>
      have p1 : nhOk E.2.2.1 E.2.2.2 w x := p1
      have hX := nhX.push ρ x
      have hnew : (ρ ++ [x])[S.1.length]? = some x := by rw [← b1.1]; exact nhX.last ρ x
      have hcn : nhCn (ρ ++ [x]) l' := by
        by_cases hi : ∃ r : Int32, x = .int r
        · obtain ⟨r, rfl⟩ := hi
          exact nh_rc_ok (v := some (.int r)) (r0 := r) hX (fun _ => hnew) hσ hl' p2 (fun r' e => by cases e; rfl)
        · exact nh_rc_ok (v := some x) (r0 := 0) hX (fun e => absurd ⟨0, Option.some.inj e⟩ hi) hσ hl' p2 (fun r' e => absurd ⟨r', Option.some.inj e⟩ hi)
      obtain ⟨ρ2, k1, k2⟩ := nh_pm_ok (E := E) (nL := nL) (pu := pu) (H0 := H0) (H := H1) (locs := locs1) (ls := ls) (st := x :: xs) hσ h hX ⟨b1.push p1, ⟨b2, b2', b2''.mono hX⟩, ⟨hnew, nhSt.mono hX hrest⟩, hMe.mono hX, b5.mono hX, (fun q hq => by
        rcases List.mem_append.mp hq with h | h
        · exact hcn q h
        · exact b6.mono hX q h), hH, hFr⟩ p3
      exact ⟨ρ2, hX.tr k1, k2⟩
  · rename_i hw hl'
    rw [hw] at p1
    cases v with
    | some x => exact p1.elim
    | none =>
      exact nh_pm_ok (E := E) (nL := nL) (pu := pu) (H0 := H0) (H := H1) (locs := locs1) (ls := ls) (st := xs) hσ h (nhX.rf ρ) ⟨b1, ⟨b2, b2', b2''⟩, hrest, hMe, b5, b6, hH, hFr⟩ p3
  · cases h
def nh_recv (kd : List nhKd) (S : nhS) (C : String) (as : List Nat) : Bool := match as with
  | o :: _ => match S.1[o]? with
    | some v => match nh_kd kd v with
      | some k => k.1 == 0 && decide ((nhCl[k.2.1]?).map (fun r => r.1) = some C)
      | none => false
    | none => false
  | [] => false
def nh_sCall2 (kd : List nhKd) (en : nhIn) (y : nhMth) (fr lo : Nat) (pu sta : Bool) (S : nhS) : Option nhS :=
  if y.2.2.2.2.1 = sta ∧ en.2.1.1 = y.2.2.2.2.2 + cond sta 0 1 ∧ en.2.2.1 + 1 ≤ fr ∧ 8 + (y.2.2.1 + 11) + en.2.2.2 ≤ lo ∧ (pu = true → en.2.1.2.2.2.2.2.2 = true) ∧ en.2.1.1 ≤ S.2.2.1.length ∧ (sta = false → nh_recv kd S y.1.cls (S.2.2.1.take en.2.1.1).reverse = true) then
    match nh_sig S.2.2.2.1 en.2.1.2.2.1 (S.2.2.1.take en.2.1.1).reverse, nh_catS S.1 (S.2.2.1.drop en.2.1.1) with
    | some σ, some cs => if nh_fitV S.1 σ en.2.1.2.1 = true ∧ cs ≤ 8 then nh_post en.2.1 σ (S.2.2.1.drop en.2.1.1) S else none
    | _, _ => none
  else none
def nh_inv (i : Instr) : Option (Nat × Bool) := match i with
  | .invokevirtual idx => some (idx, false)
  | .invokestatic idx => some (idx, true)
  | _ => none
def nh_sCall (kd : List nhKd) (IT : List nhIn) (own : Nat) (cm : List (Nat × Nat)) (fr lo : Nat) (pu : Bool) (S : nhS) (pc : Nat) (i : Instr) (len : Nat) : Option nhS :=
  match nh_inv i with
  | some q => match nh_find cm pc with
    | some j => match nh_find (nhLn.getD own []) q.1 with
      | some mn => match IT[j]? with
        | some en => match nhMt[mn]? with
          | some y => if en.1 = mn ∧ len = 3 then nh_sCall2 kd en y fr lo pu q.2 S else none
          | none => none
        | none => none
      | none => none
    | none => none
  | none => none
theorem nh_sCall2_ok (hF : nhFx p c s m args cc nL own E.1) {idx mn : Nat} {sta : Bool} {fr lo : Nat} (hR1 : R.frames = fr) (hR2 : R.locals = lo) {y : nhMth} (hy : nhMt[mn]? = some y) {en : nhIn} (hM : nhMet E.2.1 y en) (hlk : (idx, mn) ∈ nhLn.getD own []) (hd : decode cc pc = .ok (cond sta (.invokestatic idx) (.invokevirtual idx), 3)) {S' : nhS} (h : nh_sCall2 E.2.1 en y fr lo pu sta S = some S')
    (k : nhGo p l e R s m args below meth c Q E nL pu (pc + 3) S' ρ0) : nhGo p l e R s m args below meth c Q E nL pu pc S ρ0 := by
  intro ρ H locs ls st hρ hR
  obtain ⟨hx, hb, hml, ⟨C, hC, hown⟩, hts, hK⟩ := hF
  unfold nh_sCall2 at h
  split at h
  · rename_i hc
    obtain ⟨c1, c2, c3, c4, c5, c6, c7⟩ := hc
    split at h
    · rename_i σ cs hσ hcs
      split at h
      · rename_i hc2
        obtain ⟨d1, d2⟩ := hc2
        obtain ⟨m1, m2, m3, m4, m5, m6⟩ := nh_mt_ok hy
        have hlink := nh_lk_ok hC hlk hy
        dsimp only at hlink
        have hs := hR.2.2.1
        rw [← List.take_append_drop en.2.1.1 S.2.2.1] at hs
        obtain ⟨s1, s2, rfl, hs1, hs2⟩ := nhSt.app hs
        have hp1 := hs1.pick
        have hlen : s1.length = en.2.1.1 := by rw [← hs1.len, List.length_take]; omega
        obtain ⟨k1, k2, k3⟩ := nh_sig_ok hR.2.2.2.1 hσ (fun j hj => by
          have hj' := List.mem_reverse.mp hj
          have hall : ∀ {a : List Nat} {z : List Value}, nhSt ρ a z → ∀ j ∈ a, ∃ x, ρ[j]? = some x := by
            intro a
            induction a with
            | nil => intro z _ j hj; cases hj
            | cons i a ih =>
              intro z hz j hj
              obtain ⟨x, xs, rfl, g1, g2⟩ := hz.inv1
              rcases List.mem_cons.mp hj with rfl | hj
              · exact ⟨x, g1⟩
              · exact ih g2 j hj
          exact hall hs1 j hj')
        obtain ⟨f1, f2⟩ := nh_fitV_ok hR.1 d1
        have hrev : nh_pick ρ (S.2.2.1.take en.2.1.1).reverse = s1.reverse := by
          unfold nh_pick at hp1 ⊢
          rw [List.map_reverse, hp1]
        have htake : (nh_pick ρ σ).take en.2.1.1 = s1.reverse := by
          rw [← hrev]
          unfold nh_pick
          rw [← List.map_take]
          congr 1
          apply List.ext_getElem?
          intro n
          by_cases hn : n < en.2.1.1
          · rw [List.getElem?_take, if_pos hn]
            have hl1 : (S.2.2.1.take en.2.1.1).reverse.length = en.2.1.1 := by simp; omega
            have := List.getElem?_eq_getElem (l := (S.2.2.1.take en.2.1.1).reverse) (i := n) (by omega)
            rw [this]
            exact k1 n _ this
          · rw [List.getElem?_take, if_neg hn, List.getElem?_eq_none]
            simp
            omega
        have hB : CallB R s args C idx y.1 y.2.1 y.2.2.1 y.2.2.2.1 (nhWs y) (nhRm en) 0 0 y.2.2.2.2.2 := callB_of y.2.2.2.2.2 hts (nhGoodIn m1) rfl rfl rfl (hts _ m2) (hts _ hlink) m5 ⟨by rw [hR1]; exact c3, by rw [hR2]; exact c4⟩
        have hPre : ∀ U : State, U.heap = H → s.WarmedH U.vm → nhPc E en.2.1 (nh_pick ρ σ) (s1.reverse).toArray U := fun U hU hW =>
          ⟨by rw [htake], f1, by rw [hU]; exact k3, by rw [hU]; exact hR.2.2.2.2.2.2.1, hK.moved hW.alike⟩
        have hW8 : (s2.map fun v => v.category).sum ≤ 8 := Nat.le_trans (nh_catS_ok hR.1 hcs hs2) d2
        have hfin : va_Run p l e R s m args below meth c H locs 0 0 0 0 (F0 m pc ls (s1 ++ s2)) s2 (nhQc E en.2.1 (nh_pick ρ σ) (s1.reverse).toArray) (fun a => 0 ≤ E.2.2.1 a) := by
          have hMM := hM l E.1 E.2.2.1 E.2.2.2 (nh_pick ρ σ)
          cases sta with
          | true =>
            exact va_runS (As := s1.reverse) (rest := s2) ⟨hx, hb, hml, hown, hts⟩ hMM ⟨hB, hts _ (m3 c1)⟩ ⟨nhPc_blind _ _ _, hPre⟩ rfl (by rw [List.length_reverse, hlen, c2]; rfl) hR.2.1.1 (by rw [List.reverse_reverse]) (lv_room hW8) hd ⟨Nat.zero_le _, Nat.zero_le _⟩
          | false =>
            obtain ⟨n1, n2⟩ := m4 c1
            have c7 := c7 rfl
            unfold nh_recv at c7
            split at c7
            · rename_i o as hrv
              split at c7
              · rename_i v hv
                split at c7
                · rename_i kk hkk
                  simp only [Bool.and_eq_true, beq_iff_eq, decide_eq_true_eq] at c7
                  obtain ⟨x', g1, g2⟩ := hR.1.2 o v hv
                  obtain ⟨a, rfl, ha1, ha2, ha3, ha4⟩ := nh_kd_ok hkk g2 hR.2.2.2.2.2.2.1
                  have hs1r : s1.reverse = .ref a :: nh_pick ρ as := by
                    rw [← hrev, hrv]
                    show (ρ[o]?).getD .null :: nh_pick ρ as = _
                    rw [g1]
                    rfl
                  obtain ⟨t, ci, N, avs⟩ := kk
                  dsimp only at c7
                  obtain ⟨rfl, c7⟩ := c7
                  obtain ⟨r, hr, hrn⟩ := Option.map_eq_some_iff.mp c7
                  obtain ⟨V, ⟨cell, q1, q2, q3, q4⟩, hV2⟩ := ha4
                  dsimp only at q2
                  rw [hs1r] at hPre ⊢
                  exact va_runV (b := a) (As := nh_pick ρ as) (rest := s2) ⟨hx, hb, hml, hown, hts⟩ hMM ⟨hB, hts _ n1, hts _ n2⟩ ⟨nhPc_blind _ _ _, ⟨cell, q1, by rw [q3]; rfl, by rw [q2, ← hrn]; exact (hK.1 ci r hr).2.1⟩, hPre⟩ rfl (by
                    have := congrArg List.length hs1r
                    simp only [List.length_reverse, List.length_cons] at this
                    have c2' : en.2.1.1 = y.2.2.2.2.2 + 1 := c2
                    omega) hR.2.1.1 (by
                    have : s1 = (nh_pick ρ as).reverse ++ [.ref a] := by
                      have := congrArg List.reverse hs1r
                      simpa using this
                    show s1 ++ s2 = _
                    rw [this]
                    simp) (lv_room hW8) hd ⟨Nat.zero_le _, Nat.zero_le _⟩
                · cases c7
              · cases c7
            · cases c7
        refine nh_after hfin (fun v H1 locs1 hp hH hz hk hpu hl => ?_)
        obtain ⟨ρ2, z1, z2⟩ := nh_post_ok h hR hs2 f2 hp hH hz hk hpu c5 hl
        exact k ρ2 H1 locs1 ls _ (hρ.tr z1) z2
      · cases h
    · cases h
  · cases h
theorem nh_sCall_ok (hF : nhFx p c s m args cc nL own E.1) {IT : List nhIn} {cm : List (Nat × Nat)} {fr lo : Nat} (hR1 : R.frames = fr) (hR2 : R.locals = lo) (hM : ∀ (j : Nat) (en : nhIn) (y : nhMth), (∃ pc, (pc, j) ∈ cm) → IT[j]? = some en → nhMt[en.1]? = some y → nhMet E.2.1 y en) {i : Instr} {len : Nat} (hd : decode cc pc = .ok (i, len)) {S' : nhS} (h : nh_sCall E.2.1 IT own cm fr lo pu S pc i len = some S')
    (k : nhGo p l e R s m args below meth c Q E nL pu (pc + len) S' ρ0) : nhGo p l e R s m args below meth c Q E nL pu pc S ρ0 := by
  unfold nh_sCall at h
  split at h
  · rename_i q hq
    split at h
    · rename_i j hj
      split at h
      · rename_i mn hmn
        split at h
        · rename_i en hen
          split at h
          · rename_i y hy
            split at h
            · rename_i hc
              obtain ⟨e1, rfl⟩ := hc
              refine nh_sCall2_ok hF (idx := q.1) (mn := mn) (sta := q.2) hR1 hR2 hy (hM j en y ⟨pc, nh_find_ok hj⟩ hen (by rw [e1]; exact hy)) (nh_find_ok hmn) ?_ h k
              unfold nh_inv at hq
              split at hq
              · cases hq; exact hd
              · cases hq; exact hd
              · cases hq
            · cases h
          · cases h
        · cases h
      · cases h
    · cases h
  · cases h
end NH17
end
section
/-! returns -/
def nh_refB (S : nhS) (r : Nat) (q : Bool × Nat × Int × Int) : Bool :=
  (match S.1[q.2.1]? with
    | some v => nh_le v (0, q.2.2.1, q.2.2.2)
    | none => false) ||
  (nh_isI S q.2.1 && ((match S.1[r]? with
    | some v => (match nh_iv v with
      | some z => if q.1 = true then decide (z.1 = 0) && decide (z.2 = 0) else decide (0 < z.1) || decide (z.2 < 0)
      | none => false)
    | none => false) || S.2.2.2.2.2.any (fun k => k.1 == r && k.2.1 == q.1 && k.2.2.1 == q.2.1 && decide (q.2.2.1 ≤ k.2.2.2.1) && decide (k.2.2.2.2 ≤ q.2.2.2))))
theorem nh_refB_ok {E : nhE} {nL : Nat} {pu : Bool} {H0 : Heap} {S : nhS} {ρ : List Value} {H : Heap} {locs : List Loc} {ls : Array Slot} {st : List Value} {r : Nat} {q : Bool × Nat × Int × Int} {z : Int32} (hR : nhR E nL pu H0 S ρ H locs ls st) (hr : ρ[r]? = some (.int z)) (h : nh_refB S r q = true) :
    ∃ x : Int32, ρ[q.2.1]? = some (.int x) ∧ (decide (z ≠ 0) = q.1 → q.2.2.1 ≤ x.toInt ∧ x.toInt ≤ q.2.2.2) := by
  have z0 : z = 0 ↔ z.toInt = 0 := by rw [← Int32.toInt_inj]; rfl
  unfold nh_refB at h
  rw [Bool.or_eq_true] at h
  rcases h with h | h
  · split at h
    · rename_i v hv
      obtain ⟨x, g1, g2⟩ := hR.1.2 _ v hv
      obtain ⟨a, rfl, a1, a2⟩ := nh_le_ok h g2
      exact ⟨a, g1, fun _ => ⟨a1, a2⟩⟩
    · cases h
  · rw [Bool.and_eq_true] at h
    obtain ⟨h1, h2⟩ := h
    have hx : ∃ x, ρ[q.2.1]? = some x := by
      unfold nh_isI at h1
      split at h1
      · rename_i v hv
        obtain ⟨x, g1, -⟩ := hR.1.2 _ v hv
        exact ⟨x, g1⟩
      · cases h1
    obtain ⟨x, hx⟩ := hx
    obtain ⟨a, rfl⟩ := nh_isI_ok hR h1 hx
    refine ⟨a, hx, fun hz => ?_⟩
    rw [Bool.or_eq_true] at h2
    rcases h2 with h2 | h2
    · exfalso
      split at h2
      · rename_i v hv
        split at h2
        · rename_i iv hiv
          obtain ⟨x', g1, g2⟩ := hR.1.2 _ v hv
          rw [hr] at g1; cases g1
          obtain ⟨b, e, b1, b2⟩ := nh_iv_ok hiv g2
          cases e
          split at h2
          · rename_i hq
            simp only [Bool.and_eq_true, decide_eq_true_eq] at h2
            rw [hq] at hz
            have := of_decide_eq_true hz
            exact this (z0.mpr (by omega))
          · rename_i hq
            simp only [Bool.or_eq_true, decide_eq_true_eq] at h2
            have hq' : q.1 = false := by simpa using hq
            rw [hq'] at hz
            have := of_decide_eq_false hz
            have : z = 0 := by simpa using this
            have := z0.mp this
            omega
        · cases h2
      · cases h2
    · obtain ⟨k, hk, h3⟩ := List.any_eq_true.mp h2
      simp only [Bool.and_eq_true, beq_iff_eq, decide_eq_true_eq] at h3
      obtain ⟨⟨⟨⟨e1, e2⟩, e3⟩, e4⟩, e5⟩ := h3
      obtain ⟨r', a', g1, g2, g3⟩ := hR.2.2.2.2.2.1 k hk
      rw [e1, hr] at g1; cases g1
      rw [e3, hx] at g2; cases g2
      have := g3 (by rw [hz, e2])
      omega
def nh_pmB (S : nhS) (q : Nat × Nat × Nat × nhV) : Bool := match nh_mf S.2.2.2.1 q.1 q.2.1 q.2.2.1 with
  | some x => match S.1[x]? with
    | some v => nh_le v q.2.2.2
    | none => false
  | none => false
def nh_rtB (ty : FieldType) (v : nhV) (i : Instr) : Bool := match i with
  | .ireturn => match ty with
    | .int => nh_cat v == 0
    | .boolean => nh_le v (0, 0, 1)
    | _ => false
  | .lreturn => match ty with
    | .long => nh_cat v == 1
    | _ => false
  | .areturn => match ty with
    | .object _ => nh_cat v == 2
    | .array _ => nh_cat v == 2
    | _ => false
  | _ => false
def nh_sRet (rt : Option FieldType) (ct : nhCtr) (S : nhS) (i : Instr) (len : Nat) : Bool := decide (len = 1) && ct.2.2.2.2.2.1.all (nh_pmB S) && (match S.2.2.1 with
  | [] => decide (i = .return_) && decide (rt = none) && decide (ct.2.2.2.1 = none) && ct.2.2.2.2.1.isEmpty
  | [r] => match S.1[r]?, rt, ct.2.2.2.1 with
    | some v, some ty, some w => nh_le v w && nh_rtB ty v i && (ct.2.2.2.2.1.isEmpty || (nh_isI S r && ct.2.2.2.2.1.all (nh_refB S r)))
    | _, _, _ => false
  | _ => false)
section NH18
variable {p : Program} {l : Launch} {e : Env} {R : Room} {s : State} {m : MethodId} {args : Array Value} {below : List Frame} {meth : Method} {c : Code}
variable {cc : ByteArray} {E : nhE} {nL : Nat} {pc own : Nat} {S : nhS} {ρ0 ρp : List Value}
theorem nh_sRet_ok (hx : p.tables.exec = Jvm.exec) (hb : c.code = cc) {rt : Option FieldType} (hr : meth.sig.returnType = rt) (hlocks : meth.locks = false) {ct : nhCtr} (hp : nhX ρp ρ0) (hl : ∀ q ∈ ct.2.2.2.2.1, q.2.1 < ρp.length) (hl2 : ∀ q ∈ ct.2.2.2.2.2.1, q.2.2.1 < ρp.length) {i : Instr} {len : Nat} (hd : decode cc pc = .ok (i, len)) (h : nh_sRet rt ct S i len = true) :
    nhGo p l e R s m args below meth c (MQ below (nhQc E ct ρp) args s 0 0 (fun a => 0 ≤ E.2.2.1 a)) E nL ct.2.2.2.2.2.2 pc S ρ0 := by
  intro ρ H locs ls st hρ hR
  have hX : nhX ρp ρ := hp.tr hρ
  have back : ∀ {n : Nat} {x : Value}, n < ρp.length → ρ[n]? = some x → ρp[n]? = some x := fun hn hx => by
    have h1 := List.getElem?_eq_getElem hn
    have h2 := hX _ _ h1
    rw [hx] at h2
    rw [h1, h2]
  unfold nh_sRet at h
  rw [Bool.and_eq_true, Bool.and_eq_true] at h
  obtain ⟨⟨h1, h2⟩, h3⟩ := h
  have h1 := of_decide_eq_true h1
  subst h1
  have hpm : ∀ q ∈ ct.2.2.2.2.2.1, ∃ (a : Nat) (x : Value) (cell : Cell), ρp[q.2.2.1]? = some (.ref a) ∧ H[a]? = some cell ∧ cell.slots[E.1.2.1 q.1 q.2.1]? = some x ∧ nhOk E.2.2.1 E.2.2.2 q.2.2.2 x := by
    intro q hq
    have h4 := List.all_eq_true.mp h2 q hq
    unfold nh_pmB at h4
    split at h4
    · rename_i x hm
      split at h4
      · rename_i v hv
        obtain ⟨a, y, cell, m1, m2, m3, m4⟩ := hR.2.2.2.1 _ (nh_mf_ok hm)
        obtain ⟨y', g1, g2⟩ := hR.1.2 x v hv
        dsimp only at m1 m2 m4
        rw [m2] at g1; cases g1
        exact ⟨a, y, cell, back (hl2 q hq) m1, m3, m4, nh_le_ok h4 g2⟩
      · cases h4
    · cases h4
  obtain ⟨b1, b2, b3, b4, b5, b6, b7, b8, b9, b10, b11⟩ := hR
  have hR : nhR E nL ct.2.2.2.2.2.2 s.heap S ρ H locs ls st := ⟨b1, b2, b3, b4, b5, b6, b7, b8, b9, b10, b11⟩
  have fin : ∀ (v : Option Value) (t : State), t.heap = H → nhRet E.2.2.1 E.2.2.2 ct.2.2.2.1 v → (∀ q ∈ ct.2.2.2.2.1, ∃ r x : Int32, v = some (.int r) ∧ ρp[q.2.1]? = some (.int x) ∧ (decide (r ≠ 0) = q.1 → q.2.2.1 ≤ x.toInt ∧ x.toInt ≤ q.2.2.2)) → nhQc E ct ρp args s (.returned v) t := fun v t ht hv hq =>
    ⟨⟨v, rfl, hv, hq, by rw [ht]; exact hpm⟩, by rw [ht]; exact b7, by rw [ht]; exact b8, fun q hq => by rw [ht]; exact b9 q hq, fun hq => by rw [ht]; exact b11 hq⟩
  split at h3
  · rename_i hst
    rw [hst] at b3
    simp only [Bool.and_eq_true, decide_eq_true_eq, List.isEmpty_iff] at h3
    obtain ⟨⟨⟨rfl, h4⟩, h5⟩, h6⟩ := h3
    cases st with
    | cons x xs => exact b3.elim
    | nil =>
      exact W.vret hx hb (by rw [hr, h4]) (fun t ht _ => fin none t ht (by rw [h5]; trivial) (by rw [h6]; exact fun q hq => by cases hq)) b10 hd
  · rename_i r hst
    rw [hst] at b3
    obtain ⟨x, xs, rfl, hx1, hs1⟩ := b3.inv1
    cases xs with
    | cons y ys => exact hs1.elim
    | nil =>
      split at h3
      · rename_i v ty w hv hw
        rw [Bool.and_eq_true, Bool.and_eq_true] at h3
        obtain ⟨⟨h4, h5⟩, h6⟩ := h3
        obtain ⟨x', g1, g2⟩ := b1.2 r v hv
        rw [hx1] at g1; cases g1
        have hret : nhRet E.2.2.1 E.2.2.2 ct.2.2.2.1 (some x) := by rw [hw]; exact nh_le_ok h4 g2
        have hrefs : ∀ q ∈ ct.2.2.2.2.1, ∃ r x' : Int32, some x = some (.int r) ∧ ρp[q.2.1]? = some (.int x') ∧ (decide (r ≠ 0) = q.1 → q.2.2.1 ≤ x'.toInt ∧ x'.toInt ≤ q.2.2.2) := by
          intro q hq
          rw [Bool.or_eq_true] at h6
          rcases h6 with h6 | h6
          · rw [List.isEmpty_iff.mp h6] at hq; cases hq
          · rw [Bool.and_eq_true] at h6
            obtain ⟨z, rfl⟩ := nh_isI_ok hR h6.1 hx1
            obtain ⟨y, y1, y2⟩ := nh_refB_ok hR hx1 (List.all_eq_true.mp h6.2 q hq)
            exact ⟨z, y, rfl, back (hl q hq) y1, y2⟩
        have hc := nh_cat_ok g2
        unfold nh_rtB at h5
        split at h5
        · split at h5
          · obtain ⟨a, rfl⟩ := hc.1 (by simpa using h5)
            exact W.iret hx hb hr (fun t ht _ => fin _ t ht hret hrefs) b10 hd
          · obtain ⟨hn, -⟩ := nh_fit_ok (ty := .boolean) h5 g2
            obtain ⟨a, rfl, -⟩ := nh_le_ok h5 g2
            exact W.zret hx hb hr hn (fun t ht _ => fin _ t ht hret hrefs) b10 hd
          · cases h5
        · split at h5
          · obtain ⟨a, rfl⟩ := hc.2.1 (by simpa using h5)
            exact W.lret hx hb hr (fun t ht _ => fin _ t ht hret hrefs) b10 hd
          · cases h5
        · split at h5
          · exact W.aret hx hb hr (Or.inl ⟨_, rfl⟩) (hc.2.2 (by simpa using h5)) (fun t ht _ => fin _ t ht hret hrefs) b10 hd
          · exact W.aret hx hb hr (Or.inr ⟨_, rfl⟩) (hc.2.2 (by simpa using h5)) (fun t ht _ => fin _ t ht hret hrefs) b10 hd
          · cases h5
        · cases h5
      · cases h3
  · cases h3
end NH18
end
section
/-! certificates: pc, variables (the contract's first), locals, stack, fields, differences, measure: (0, _, c) a number, (1, x, b) what x is below b, (2, x, b) what x is above b -/
abbrev nhMs : Type := List (Nat × Nat × Int)
abbrev nhCe : Type := Nat × List nhV × List (Nat × Nat) × List Nat × List nhMm × List nhDf × nhMs
def nh_ceS (ce : nhCe) : nhS := (ce.2.1, ce.2.2.1, ce.2.2.2.1, ce.2.2.2.2.1, ce.2.2.2.2.2.1, [])
def nh_bind (σ : List Nat) (cv av : Nat) : Option (List Nat) := if cv = σ.length then some (σ ++ [av]) else if σ[cv]? = some av then some σ else none
theorem nh_bind_ok {σ σ' : List Nat} {cv av : Nat} (h : nh_bind σ cv av = some σ') : (∀ (i j : Nat), σ[i]? = some j → σ'[i]? = some j) ∧ σ'[cv]? = some av := by
  unfold nh_bind at h
  split at h
  · rename_i e
    cases h
    subst e
    exact ⟨fun i j hi => by rw [List.getElem?_append_left (List.getElem?_eq_some_iff.mp hi).1]; exact hi, by simp⟩
  · split at h
    · rename_i e
      cases h
      exact ⟨fun _ _ h => h, e⟩
    · cases h
def nh_bLo (lo : List (Nat × Nat)) : List (Nat × Nat) → List Nat → Option (List Nat)
  | [], σ => some σ
  | q :: r, σ => match nh_find lo q.1 with
    | some j => match nh_bind σ q.2 j with
      | some σ' => nh_bLo lo r σ'
      | none => none
    | none => none
theorem nh_bLo_ok {lo : List (Nat × Nat)} : ∀ {ql : List (Nat × Nat)} {σ σ' : List Nat}, nh_bLo lo ql σ = some σ' → (∀ (i j : Nat), σ[i]? = some j → σ'[i]? = some j) ∧ ∀ q ∈ ql, ∃ j, σ'[q.2]? = some j ∧ (q.1, j) ∈ lo
  | [], σ, σ', h => by cases h; exact ⟨fun _ _ h => h, fun q hq => by cases hq⟩
  | q :: r, σ, σ', h => by
    unfold nh_bLo at h
    split at h
    · rename_i j hj
      split at h
      · rename_i σ1 hσ
        obtain ⟨a1, a2⟩ := nh_bind_ok hσ
        obtain ⟨b1, b2⟩ := nh_bLo_ok h
        refine ⟨fun i j h => b1 i j (a1 i j h), fun w hw => ?_⟩
        rcases List.mem_cons.mp hw with rfl | hw
        · exact ⟨j, b1 _ _ a2, nh_find_ok hj⟩
        · exact b2 w hw
      · cases h
    · cases h
def nh_bSt : List Nat → List Nat → List Nat → Option (List Nat)
  | [], [], σ => some σ
  | c :: cs, j :: js, σ => match nh_bind σ c j with
    | some σ' => nh_bSt cs js σ'
    | none => none
  | _, _, _ => none
theorem nh_bSt_ok {ρ : List Value} : ∀ {cs js : List Nat} {σ σ' : List Nat} {st : List Value}, nh_bSt cs js σ = some σ' → nhSt ρ js st → (∀ (i j : Nat), σ[i]? = some j → σ'[i]? = some j) ∧ ∀ τ : List Nat, (∀ (i j : Nat), σ'[i]? = some j → τ[i]? = some j) → nhSt (nh_pick ρ τ) cs st
  | [], [], σ, σ', [], h, _ => by cases h; exact ⟨fun _ _ h => h, fun _ _ => trivial⟩
  | [], [], _, _, _ :: _, _, hs => hs.elim
  | c :: cs, j :: js, σ, σ', st, h, hs => by
    obtain ⟨x, xs, rfl, g1, g2⟩ := hs.inv1
    unfold nh_bSt at h
    split at h
    · rename_i σ1 hσ
      obtain ⟨a1, a2⟩ := nh_bind_ok hσ
      obtain ⟨b1, b2⟩ := nh_bSt_ok h g2
      exact ⟨fun i j h => b1 i j (a1 i j h), fun τ hτ => ⟨nh_pick_at (hτ _ _ (b1 _ _ a2)) g1, b2 τ hτ⟩⟩
    · cases h
  | [], _ :: _, _, _, _, h, _ => by cases h
  | _ :: _, [], _, _, _, h, _ => by cases h
def nh_bMe (me : List nhMm) : List nhMm → List Nat → Option (List Nat)
  | [], σ => some σ
  | q :: r, σ => match σ[q.2.2.1]? with
    | some o => match nh_mf me q.1 q.2.1 o with
      | some x => match nh_bind σ q.2.2.2 x with
        | some σ' => nh_bMe me r σ'
        | none => none
      | none => none
    | none => none
theorem nh_bMe_ok {D : nhD} {ρ : List Value} {H : Heap} {me : List nhMm} (hm : nhMe D ρ H me) : ∀ {ms : List nhMm} {σ σ' : List Nat}, nh_bMe me ms σ = some σ' → (∀ (i j : Nat), σ[i]? = some j → σ'[i]? = some j) ∧ nhMe D (nh_pick ρ σ') H ms
  | [], σ, σ', h => by cases h; exact ⟨fun _ _ h => h, fun q hq => by cases hq⟩
  | q :: r, σ, σ', h => by
    unfold nh_bMe at h
    split at h
    · rename_i o ho
      split at h
      · rename_i x hx
        split at h
        · rename_i σ1 hσ
          obtain ⟨a, v, cell, m1, m2, m3, m4⟩ := hm _ (nh_mf_ok hx)
          dsimp only at m1 m2 m4
          obtain ⟨a1, a2⟩ := nh_bind_ok hσ
          obtain ⟨b1, b2⟩ := nh_bMe_ok hm h
          refine ⟨fun i j h => b1 i j (a1 i j h), fun w hw => ?_⟩
          rcases List.mem_cons.mp hw with rfl | hw
          · exact ⟨a, v, cell, nh_pick_at (b1 _ _ (a1 _ _ ho)) m1, nh_pick_at (b1 _ _ a2) m2, m3, m4⟩
          · exact b2 w hw
        · cases h
      · cases h
    · cases h
def nh_dle (S : nhS) (w x : Nat) (c : Int) : Bool := (w == x && decide (0 ≤ c) && nh_isI S w) || S.2.2.2.2.1.any (fun q => q.1 == w && q.2.1 == x && decide (q.2.2 ≤ c)) || (match S.1[w]?, S.1[x]? with
  | some u, some v => (match nh_iv u, nh_iv v with
    | some a, some b => decide (a.2 ≤ b.1 + c)
    | _, _ => false)
  | _, _ => false)
theorem nh_dle_ok {E : nhE} {nL : Nat} {pu : Bool} {H0 : Heap} {S : nhS} {ρ : List Value} {H : Heap} {locs : List Loc} {ls : Array Slot} {st : List Value} {w x : Nat} {c : Int} (hR : nhR E nL pu H0 S ρ H locs ls st) (h : nh_dle S w x c = true) :
    ∃ a b : Int32, ρ[w]? = some (.int a) ∧ ρ[x]? = some (.int b) ∧ a.toInt ≤ b.toInt + c := by
  unfold nh_dle at h
  rw [Bool.or_eq_true, Bool.or_eq_true] at h
  rcases h with (h | h) | h
  · simp only [Bool.and_eq_true, beq_iff_eq, decide_eq_true_eq] at h
    obtain ⟨⟨rfl, h1⟩, h2⟩ := h
    have hx : ∃ x, ρ[w]? = some x := by
      unfold nh_isI at h2
      split at h2
      · rename_i v hv
        obtain ⟨x, g1, -⟩ := hR.1.2 _ v hv
        exact ⟨x, g1⟩
      · cases h2
    obtain ⟨x, hx⟩ := hx
    obtain ⟨a, rfl⟩ := nh_isI_ok hR h2 hx
    exact ⟨a, a, hx, hx, by omega⟩
  · obtain ⟨q, hq, h3⟩ := List.any_eq_true.mp h
    simp only [Bool.and_eq_true, beq_iff_eq, decide_eq_true_eq] at h3
    obtain ⟨⟨e1, e2⟩, e3⟩ := h3
    obtain ⟨a, b, g1, g2, g3⟩ := hR.2.2.2.2.1 q hq
    rw [e1] at g1
    rw [e2] at g2
    exact ⟨a, b, g1, g2, by omega⟩
  · split at h
    · rename_i u v hu hv
      split at h
      · rename_i a b ha hb
        obtain ⟨x1, g1, g2⟩ := hR.1.2 _ u hu
        obtain ⟨x2, g3, g4⟩ := hR.1.2 _ v hv
        obtain ⟨z, rfl, z1, z2⟩ := nh_iv_ok ha g2
        obtain ⟨y, rfl, y1, y2⟩ := nh_iv_ok hb g4
        have := of_decide_eq_true h
        exact ⟨z, y, g1, g3, by omega⟩
      · cases h
    · cases h
/-- a state enters a certificate -/
def nh_ent (np : Nat) (ce : nhCe) (S : nhS) : Option (List Nat) := match nh_bLo S.2.1 ce.2.2.1 (List.range np) with
  | some σ1 => match nh_bSt ce.2.2.2.1 S.2.2.1 σ1 with
    | some σ2 => match nh_bMe S.2.2.2.1 ce.2.2.2.2.1 σ2 with
      | some σ => if nh_fitV S.1 σ ce.2.1 = true ∧ np ≤ S.1.length ∧ ce.2.2.2.2.2.1.all (fun q => match σ[q.1]?, σ[q.2.1]? with
          | some w, some x => nh_dle S w x q.2.2
          | _, _ => false) = true then some σ else none
      | none => none
    | none => none
  | none => none
theorem nh_ent_ok {E : nhE} {nL : Nat} {pu : Bool} {H0 : Heap} {S : nhS} {ρ : List Value} {H : Heap} {locs : List Loc} {ls : Array Slot} {st : List Value} {np : Nat} {ce : nhCe} {σ : List Nat} (h : nh_ent np ce S = some σ) (hR : nhR E nL pu H0 S ρ H locs ls st) :
    nhR E nL pu H0 (nh_ceS ce) (nh_pick ρ σ) H locs ls st ∧ (∀ i, i < np → (nh_pick ρ σ)[i]? = ρ[i]?) ∧ ∀ (i j : Nat), σ[i]? = some j → ∃ x, ρ[j]? = some x ∧ (nh_pick ρ σ)[i]? = some x := by
  unfold nh_ent at h
  split at h
  · rename_i σ1 h1
    split at h
    · rename_i σ2 h2
      split at h
      · rename_i σ3 h3
        split at h
        · rename_i hc
          cases h
          obtain ⟨c1, c2, c3⟩ := hc
          obtain ⟨b1, ⟨b2, b2', b2''⟩, b3, b4, b5, b6, b7⟩ := hR
          have hR : nhR E nL pu H0 S ρ H locs ls st := ⟨b1, ⟨b2, b2', b2''⟩, b3, b4, b5, b6, b7⟩
          obtain ⟨l1, l2⟩ := nh_bLo_ok h1
          obtain ⟨s1, s2⟩ := nh_bSt_ok h2 b3
          obtain ⟨m1, m2⟩ := nh_bMe_ok b4 h3
          obtain ⟨f1, f2⟩ := nh_fitV_ok b1 c1
          have val : ∀ (i j : Nat), σ[i]? = some j → ∃ x, ρ[j]? = some x ∧ (nh_pick ρ σ)[i]? = some x := fun i j hi => by
            obtain ⟨x, hx⟩ := f2 j (List.mem_of_getElem? hi)
            exact ⟨x, hx, nh_pick_at hi hx⟩
          refine ⟨⟨f1, ⟨b2, b2', fun q hq => ?_⟩, s2 σ m1, m2, fun q hq => ?_, (fun q hq => by cases hq), b7⟩, fun i hi => ?_, val⟩
          · obtain ⟨j, g1, g2⟩ := l2 q hq
            obtain ⟨x, g3, g4⟩ := b2'' _ g2
            exact ⟨x, nh_pick_at (m1 _ _ (s1 _ _ g1)) g3, g4⟩
          · have h4 := List.all_eq_true.mp c3 q hq
            split at h4
            · rename_i w x hw hx
              obtain ⟨a, b, g1, g2, g3⟩ := nh_dle_ok hR h4
              exact ⟨a, b, nh_pick_at hw g1, nh_pick_at hx g2, g3⟩
            · cases h4
          · have hr : (List.range np)[i]? = some i := by simp [hi]
            have hσ := m1 _ _ (s1 _ _ (l1 _ _ hr))
            have hl : i < ρ.length := by rw [b1.1]; omega
            have hg := List.getElem?_eq_getElem hl
            rw [nh_pick_at hσ hg, hg]
        · cases h
      · cases h
    · cases h
  · cases h
/-! measures -/
def nh_mv (ρ : List Value) (q : Nat × Nat × Int) : Nat := match q.1 with
  | 0 => q.2.2.toNat
  | 1 => match ρ[q.2.1]? with
    | some (.int a) => (q.2.2 - a.toInt).toNat
    | _ => 0
  | _ => match ρ[q.2.1]? with
    | some (.int a) => (a.toInt - q.2.2).toNat
    | _ => 0
def nh_num (ρ : List Value) : nhMs → Nat
  | [] => 0
  | q :: r => nh_mv ρ q * 17179869184 ^ r.length + nh_num ρ r
def nh_bnd (ms : nhMs) : Bool := ms.all (fun q => decide (-4294967296 ≤ q.2.2) && decide (q.2.2 ≤ 4294967296))
theorem nh_mv_lt (ρ : List Value) {q : Nat × Nat × Int} (h1 : -4294967296 ≤ q.2.2) (h2 : q.2.2 ≤ 4294967296) : nh_mv ρ q < 17179869184 := by
  unfold nh_mv
  split
  · omega
  · split
    · rename_i a _
      have := fb_rng a
      omega
    · omega
  · split
    · rename_i a _
      have := fb_rng a
      omega
    · omega
theorem nh_num_lt (ρ : List Value) : ∀ {ms : nhMs}, nh_bnd ms = true → nh_num ρ ms < 17179869184 ^ ms.length
  | [], _ => by simp [nh_num]
  | q :: r, h => by
    unfold nh_bnd at h
    simp only [List.all_cons, Bool.and_eq_true, decide_eq_true_eq] at h
    have h1 := nh_mv_lt ρ (q := q) h.1.1 h.1.2
    have h2 := nh_num_lt ρ (ms := r) h.2
    simp only [nh_num, List.length_cons, Nat.pow_succ]
    have h3 : nh_mv ρ q * 17179869184 ^ r.length + 17179869184 ^ r.length ≤ 17179869184 ^ r.length * 17179869184 := by
      rw [← Nat.succ_mul, Nat.mul_comm]
      exact Nat.mul_le_mul_left _ (by omega)
    omega
def nh_dec (S : nhS) (q q' : Nat × Nat × Int) : Bool := match q.1, q'.1 with
  | 0, 0 => decide (q'.2.2 < q.2.2) && decide (0 ≤ q'.2.2)
  | 1, 1 => decide (q.2.2 = q'.2.2) && nh_dle S q.2.1 q'.2.1 (-1) && (match S.1[q.2.1]? with
    | some v => (match nh_iv v with
      | some z => decide (z.2 < q.2.2)
      | none => false)
    | none => false)
  | 2, 2 => decide (q.2.2 = q'.2.2) && nh_dle S q'.2.1 q.2.1 (-1) && (match S.1[q.2.1]? with
    | some v => (match nh_iv v with
      | some z => decide (q.2.2 < z.1)
      | none => false)
    | none => false)
  | _, _ => false
def nh_lex (S : nhS) : nhMs → nhMs → Bool
  | q :: r, q' :: r' => if q = q' then nh_lex S r r' else nh_dec S q q' && decide (r.length = r'.length)
  | _, _ => false
theorem nh_dec_ok {E : nhE} {nL : Nat} {pu : Bool} {H0 : Heap} {S : nhS} {ρ : List Value} {H : Heap} {locs : List Loc} {ls : Array Slot} {st : List Value} {q q' : Nat × Nat × Int} (hR : nhR E nL pu H0 S ρ H locs ls st) (h : nh_dec S q q' = true) : nh_mv ρ q' < nh_mv ρ q := by
  obtain ⟨t, v, b⟩ := q
  obtain ⟨t', v', b'⟩ := q'
  unfold nh_dec at h
  dsimp only at h
  split at h
  · simp only [Bool.and_eq_true, decide_eq_true_eq] at h
    simp only [nh_mv]
    omega
  · simp only [Bool.and_eq_true, decide_eq_true_eq] at h
    obtain ⟨⟨rfl, h1⟩, h2⟩ := h
    obtain ⟨a, a', g1, g2, g3⟩ := nh_dle_ok hR h1
    split at h2
    · rename_i w hw
      split at h2
      · rename_i z hz
        obtain ⟨x, k1, k2⟩ := hR.1.2 _ w hw
        rw [g1] at k1; cases k1
        obtain ⟨y, e, y1, y2⟩ := nh_iv_ok hz k2
        cases e
        have := of_decide_eq_true h2
        simp only [nh_mv, g1, g2]
        omega
      · cases h2
    · cases h2
  · simp only [Bool.and_eq_true, decide_eq_true_eq] at h
    obtain ⟨⟨rfl, h1⟩, h2⟩ := h
    obtain ⟨a, a', g1, g2, g3⟩ := nh_dle_ok hR h1
    split at h2
    · rename_i w hw
      split at h2
      · rename_i z hz
        obtain ⟨x, k1, k2⟩ := hR.1.2 _ w hw
        rw [g2] at k1; cases k1
        obtain ⟨y, e, y1, y2⟩ := nh_iv_ok hz k2
        cases e
        have := of_decide_eq_true h2
        simp only [nh_mv, g1, g2]
        omega
      · cases h2
    · cases h2
  · cases h
theorem nh_lex_ok {E : nhE} {nL : Nat} {pu : Bool} {H0 : Heap} {S : nhS} {ρ : List Value} {H : Heap} {locs : List Loc} {ls : Array Slot} {st : List Value} (hR : nhR E nL pu H0 S ρ H locs ls st) : ∀ {m m' : nhMs}, nh_lex S m m' = true → nh_bnd m' = true → nh_num ρ m' < nh_num ρ m
  | [], _, h, _ => by cases h
  | _ :: _, [], h, _ => by cases h
  | q :: r, q' :: r', h, hb => by
    unfold nh_bnd at hb
    simp only [List.all_cons, Bool.and_eq_true] at hb
    unfold nh_lex at h
    split at h
    · rename_i e
      subst e
      have h1 := nh_lex_ok hR h (m' := r') hb.2
      have hlen : ∀ {a b : nhMs}, nh_lex S a b = true → a.length = b.length := by
        intro a
        induction a with
        | nil => intro b h; cases h
        | cons x a ih =>
          intro b h
          cases b with
          | nil => cases h
          | cons y b =>
            unfold nh_lex at h
            split at h
            · simp [ih h]
            · rw [Bool.and_eq_true] at h
              simp [of_decide_eq_true h.2]
      simp only [nh_num]
      rw [hlen h]
      omega
    · rw [Bool.and_eq_true] at h
      have h1 := nh_dec_ok hR h.1
      have h2 := of_decide_eq_true h.2
      have h3 := nh_num_lt ρ (ms := r') hb.2
      simp only [nh_num]
      rw [h2]
      have h4 : nh_mv ρ q' * 17179869184 ^ r'.length + 17179869184 ^ r'.length ≤ nh_mv ρ q * 17179869184 ^ r'.length := by
        rw [← Nat.succ_mul]
        exact Nat.mul_le_mul_right _ (by omega)
      omega
end
section
/-! THE CHECK OF A METHOD -/
/-- which rows an instruction goes to -/
def nh_cls (i : Instr) : Nat := match i with
  | .iload _ => 1
  | .iload_n _ => 1
  | .lload _ => 1
  | .lload_n _ => 1
  | .aload _ => 1
  | .aload_n _ => 1
  | .istore _ => 2
  | .istore_n _ => 2
  | .lstore _ => 2
  | .lstore_n _ => 2
  | .astore _ => 2
  | .astore_n _ => 2
  | .iinc _ _ => 3
  | .dup => 4
  | .pop => 4
  | .dup2 => 4
  | .if_icmp _ _ => 5
  | .ifCond _ _ => 5
  | .goto _ => 5
  | .ifnull _ => 5
  | .ifnonnull _ => 5
  | .tableswitch _ _ _ _ => 5
  | .lookupswitch _ _ => 5
  | .getfield _ => 6
  | .putfield _ => 7
  | .iaload => 8
  | .baload => 8
  | .laload => 8
  | .aaload => 8
  | .iastore => 9
  | .bastore => 9
  | .lastore => 9
  | .arraylength => 10
  | .ldc _ => 11
  | .ldc_w _ => 11
  | .ldc2_w _ => 11
  | .invokevirtual _ => 12
  | .invokestatic _ => 12
  | .ireturn => 13
  | .lreturn => 13
  | .areturn => 13
  | .return_ => 13
  | _ => 0
/-- what is fixed for a method: kinds, instances, own class, number of locals, calls (pc, instance), frames, locals' words, pure -/
abbrev nhG : Type := List nhKd × List nhIn × Nat × Nat × List (Nat × Nat) × Nat × Nat × Bool
def nh_on (o : Option nhS) (pc : Nat) : Option nhSu := match o with
  | some S => some [(S, pc)]
  | none => none
def nh_step (G : nhG) (S : nhS) (pc : Nat) (i : Instr) (len : Nat) : Option nhSu := match nh_cls i with
  | 0 => nh_on (nh_sOp S i len) (pc + len)
  | 1 => nh_on (nh_sLd S i len) (pc + len)
  | 2 => nh_on (nh_sSt S G.2.2.2.1 i len) (pc + len)
  | 3 => nh_on (nh_sInc S G.2.2.2.1 i len) (pc + len)
  | 4 => nh_on (nh_sSk S i len) (pc + len)
  | 5 => nh_sBr S pc i len
  | 6 => nh_on (nh_sGet G.1 G.2.2.1 S i len) (pc + len)
  | 7 => if G.2.2.2.2.2.2.2 = false then nh_on (nh_sPut G.1 G.2.2.1 S i len) (pc + len) else none
  | 8 => nh_on (nh_sAld G.1 S i len) (pc + len)
  | 9 => if G.2.2.2.2.2.2.2 = false then nh_on (nh_sAst G.1 S i len) (pc + len) else none
  | 10 => nh_on (nh_sLen G.1 S i len) (pc + len)
  | 11 => nh_on (nh_sLdc G.2.2.1 S i len) (pc + len)
  | 12 => nh_on (nh_sCall G.1 G.2.1 G.2.2.1 G.2.2.2.2.1 G.2.2.2.2.2.1 G.2.2.2.2.2.2.1 G.2.2.2.2.2.2.2 S pc i len) (pc + len)
  | _ => none
/-- a state comes to a certificate, with less to go -/
def nh_ced (np : Nat) (om : Option nhMs) (S : nhS) (ce : nhCe) : Bool := match nh_ent np ce S with
  | some σ => match om with
    | none => true
    | some ms => nh_bnd ce.2.2.2.2.2.2 && (match ce.2.2.2.2.2.2.mapM (fun q => if q.1 = 0 then some q else (σ[q.2.1]?).map (fun j => (q.1, j, q.2.2))) with
      | some ms' => nh_lex S ms ms' && nh_bnd ms'
      | none => false)
  | none => false
def nh_go (run : nhS → Nat → Bool) (ces : List nhCe) (np : Nat) (om : Option nhMs) (S : nhS) (pc : Nat) : Bool :=
  if ces.any (fun ce => ce.1 == pc) then ces.any (fun ce => ce.1 == pc && nh_ced np om S ce) else run S pc
def nh_run (G : nhG) (dt : nhDt) (rt : Option FieldType) (ct : nhCtr) (ces : List nhCe) (om : Option nhMs) : Nat → nhS → Nat → Bool
  | 0, _, _ => false
  | f + 1, S, pc => match nh_dk dt pc with
    | some q => if nh_cls q.1 = 13 then nh_sRet rt ct S q.1 q.2 else (match nh_step G S pc q.1 q.2 with
      | some L => L.all (fun w => nh_go (nh_run G dt rt ct ces om f) ces ct.2.1.length om w.1 w.2)
      | none => false)
    | none => false
section NH20
variable {p : Program} {l : Launch} {e : Env} {R : Room} {s : State} {m : MethodId} {args : Array Value} {below : List Frame} {meth : Method} {c : Code} {Q : State → Prop}
variable {cc : ByteArray} {E : nhE} {G : nhG} {pc : Nat} {S : nhS} {ρ0 ρp : List Value}
/-- what a walk stands on -/
def nhHy (p : Program) (R : Room) (s : State) (m : MethodId) (args : Array Value) (c : Code) (cc : ByteArray) (E : nhE) (G : nhG) : Prop :=
  G.1 = E.2.1 ∧ nhFx p c s m args cc G.2.2.2.1 G.2.2.1 E.1 ∧ R.frames = G.2.2.2.2.2.1 ∧ R.locals = G.2.2.2.2.2.2.1 ∧ ∀ (j : Nat) (en : nhIn) (y : nhMth), (∃ pc, (pc, j) ∈ G.2.2.2.2.1) → G.2.1[j]? = some en → nhMt[en.1]? = some y → nhMet E.2.1 y en
theorem nh_on_ok {o : Option nhS} {pc : Nat} {L : nhSu} (h : nh_on o pc = some L) : ∃ S', o = some S' ∧ (S', pc) ∈ L := by
  unfold nh_on at h
  split at h
  · cases h
    exact ⟨_, rfl, List.mem_cons_self⟩
  · cases h
theorem nh_step_ok (hh : nhHy p R s m args c cc E G) {i : Instr} {len : Nat} (hd : decode cc pc = .ok (i, len)) {L : nhSu} (h : nh_step G S pc i len = some L)
    (k : ∀ q ∈ L, nhGo p l e R s m args below meth c Q E G.2.2.2.1 G.2.2.2.2.2.2.2 q.2 q.1 ρ0) : nhGo p l e R s m args below meth c Q E G.2.2.2.1 G.2.2.2.2.2.2.2 pc S ρ0 := by
  obtain ⟨hkd, hF, hR1, hR2, hM⟩ := hh
  have hx := hF.1
  have hb := hF.2.1
  unfold nh_step at h
  split at h
  · obtain ⟨S', h1, h2⟩ := nh_on_ok h
    exact nh_sOp_ok hx hb hd h1 (k _ h2)
  · obtain ⟨S', h1, h2⟩ := nh_on_ok h
    exact nh_sLd_ok hx hb hd h1 (k _ h2)
  · obtain ⟨S', h1, h2⟩ := nh_on_ok h
    exact nh_sSt_ok hx hb hd h1 (k _ h2)
  · obtain ⟨S', h1, h2⟩ := nh_on_ok h
    exact nh_sInc_ok hx hb hd h1 (k _ h2)
  · obtain ⟨S', h1, h2⟩ := nh_on_ok h
    exact nh_sSk_ok hx hb hd h1 (k _ h2)
  · exact nh_sBr_ok hx hb hd h k
  · obtain ⟨S', h1, h2⟩ := nh_on_ok h
    rw [hkd] at h1
    exact nh_sGet_ok hF hd h1 (k _ h2)
  · split at h
    · rename_i hp
      obtain ⟨S', h1, h2⟩ := nh_on_ok h
      rw [hkd] at h1
      have k2 := k _ h2
      rw [hp] at k2 ⊢
      exact nh_sPut_ok hF hd h1 k2
    · cases h
  · obtain ⟨S', h1, h2⟩ := nh_on_ok h
    rw [hkd] at h1
    exact nh_sAld_ok hF hd h1 (k _ h2)
  · split at h
    · rename_i hp
      obtain ⟨S', h1, h2⟩ := nh_on_ok h
      rw [hkd] at h1
      have k2 := k _ h2
      rw [hp] at k2 ⊢
      exact nh_sAst_ok hF hd h1 k2
    · cases h
  · obtain ⟨S', h1, h2⟩ := nh_on_ok h
    rw [hkd] at h1
    exact nh_sLen_ok hF hd h1 (k _ h2)
  · obtain ⟨S', h1, h2⟩ := nh_on_ok h
    exact nh_sLdc_ok hF hd h1 (k _ h2)
  · obtain ⟨S', h1, h2⟩ := nh_on_ok h
    rw [hkd] at h1
    exact nh_sCall_ok hF hR1 hR2 hM hd h1 (k _ h2)
  · cases h
theorem nh_mapM_num {ρ : List Value} {σ : List Nat} (hσ : ∀ (i j : Nat), σ[i]? = some j → ∃ x, ρ[j]? = some x ∧ (nh_pick ρ σ)[i]? = some x) : ∀ {ms ms' : nhMs}, ms.mapM (fun q => if q.1 = 0 then some q else (σ[q.2.1]?).map (fun j => (q.1, j, q.2.2))) = some ms' → nh_num (nh_pick ρ σ) ms = nh_num ρ ms' ∧ ms.length = ms'.length
  | [], ms', h => by
    simp only [List.mapM_nil] at h
    cases h
    exact ⟨rfl, rfl⟩
  | q :: r, ms', h => by
    rw [List.mapM_cons] at h
    simp only [Option.bind_eq_bind, Option.pure_def] at h
    obtain ⟨q', h1, h⟩ := Option.bind_eq_some_iff.mp h
    obtain ⟨r', h2, h⟩ := Option.bind_eq_some_iff.mp h
    cases h
    obtain ⟨k1, k2⟩ := nh_mapM_num hσ h2
    refine ⟨?_, by simp [k2]⟩
    have hv : nh_mv (nh_pick ρ σ) q = nh_mv ρ q' := by
      obtain ⟨t, v, b⟩ := q
      dsimp only at h1
      split at h1
      · rename_i e
        cases h1
        subst e
        rfl
      · obtain ⟨j, g1, g2⟩ := Option.map_eq_some_iff.mp h1
        cases g2
        obtain ⟨x, g3, g4⟩ := hσ _ _ g1
        unfold nh_mv
        dsimp only
        rw [g3, g4]
    simp only [nh_num]
    rw [hv, k1, k2]
theorem nh_run_ok (hh : nhHy p R s m args c cc E G) {dt : nhDt} (hdt : ∀ (pc : Nat) (q : Instr × Nat), nh_dk dt pc = some q → decode cc pc = .ok q) {rt : Option FieldType} (hr : meth.sig.returnType = rt) (hlocks : meth.locks = false) {ct : nhCtr} (hpu : G.2.2.2.2.2.2.2 = ct.2.2.2.2.2.2) (hl : ∀ q ∈ ct.2.2.2.2.1, q.2.1 < ρp.length) (hl2 : ∀ q ∈ ct.2.2.2.2.2.1, q.2.2.1 < ρp.length) (hlp : ρp.length = ct.2.1.length) {ces : List nhCe} {om : Option nhMs} (hp : nhX ρp ρ0)
    (hK : ∀ ce ∈ ces, ∀ (ρ : List Value) (H : Heap) (locs : List Loc) (ls : Array Slot) (st : List Value), nhX ρp ρ → nhR E G.2.2.2.1 G.2.2.2.2.2.2.2 s.heap (nh_ceS ce) ρ H locs ls st → (∀ ms, om = some ms → nh_num ρ ce.2.2.2.2.2.2 < nh_num ρ0 ms) → W p l e R s m args below meth c H locs 0 0 (MQ below (nhQc E ct ρp) args s 0 0 (fun a => 0 ≤ E.2.2.1 a)) (F0 m ce.1 ls st))
    (hms : ∀ ms, om = some ms → ∀ ρ, nhX ρ0 ρ → nh_num ρ ms = nh_num ρ0 ms) :
    ∀ (f : Nat) (S : nhS) (pc : Nat), nh_run G dt rt ct ces om f S pc = true → nhGo p l e R s m args below meth c (MQ below (nhQc E ct ρp) args s 0 0 (fun a => 0 ≤ E.2.2.1 a)) E G.2.2.2.1 G.2.2.2.2.2.2.2 pc S ρ0
  | 0, _, _, h => by cases h
  | f + 1, S, pc, h => by
    unfold nh_run at h
    split at h
    · rename_i q hq'
      have hq := hdt _ _ hq'
      split at h
      · rw [hpu]
        exact nh_sRet_ok hh.2.1.1 hh.2.1.2.1 hr hlocks hp hl hl2 hq h
      · split at h
        · rename_i L hL
          refine nh_step_ok hh hq hL (fun w hw => ?_)
          have h1 := List.all_eq_true.mp h w hw
          unfold nh_go at h1
          split at h1
          · obtain ⟨ce, hce, h2⟩ := List.any_eq_true.mp h1
            rw [Bool.and_eq_true, beq_iff_eq] at h2
            obtain ⟨h2, h3⟩ := h2
            intro ρ H locs ls st hρ hR
            unfold nh_ced at h3
            split at h3
            · rename_i σ hσ
              obtain ⟨e1, e2, e3⟩ := nh_ent_ok hσ hR
              have hX : nhX ρp (nh_pick ρ σ) := fun i x hi => by
                have hlt := (List.getElem?_eq_some_iff.mp hi).1
                rw [e2 i (by omega)]
                exact (hp.tr hρ) i x hi
              rw [← h2]
              refine hK ce hce _ H locs ls st hX e1 (fun ms hms' => ?_)
              rw [hms'] at h3
              dsimp only at h3
              rw [Bool.and_eq_true] at h3
              obtain ⟨-, h4⟩ := h3
              split at h4
              · rename_i ms' hm'
                rw [Bool.and_eq_true] at h4
                rw [(nh_mapM_num e3 hm').1, ← hms ms hms' ρ hρ]
                exact nh_lex_ok hR h4.1 h4.2
              · cases h4
            · cases h3
          · exact nh_run_ok hh hdt hr hlocks hpu hl hl2 hlp hp hK hms f w.1 w.2 h1
        · cases h
    · cases h
end NH20
/-- the check: from the entry, and from each certificate -/
def nh_vrs (ρ : List nhV) (ms : nhMs) : Bool := ms.all (fun q => q.1 == 0 || decide (q.2.1 < ρ.length))
def nh_lo0 : Nat → Nat → List nhV → List (Nat × Nat)
  | _, _, [] => []
  | n, j, v :: r => (n, j) :: nh_lo0 (n + (if v.1 = 1 then 2 else 1)) (j + 1) r
def nh_wid : List nhV → Nat
  | [] => 0
  | v :: r => (if v.1 = 1 then 2 else 1) + nh_wid r
def nh_chk (G : nhG) (dt : nhDt) (rt : Option FieldType) (ct : nhCtr) (ces : List nhCe) (fuel : Nat) : Bool :=
  ct.2.2.2.2.1.all (fun q => decide (q.2.1 < ct.2.1.length)) && ct.2.2.2.2.2.1.all (fun q => decide (q.2.2.1 < ct.2.1.length)) && decide (G.2.2.2.2.2.2.2 = ct.2.2.2.2.2.2) &&
  (ct.2.1.take ct.1).all (fun v => decide (nh_cat v < 3)) && decide (ct.1 ≤ ct.2.1.length) && decide (nh_wid (ct.2.1.take ct.1) ≤ G.2.2.2.1) &&
  nh_go (nh_run G dt rt ct ces none fuel) ces ct.2.1.length none (ct.2.1, nh_lo0 0 0 (ct.2.1.take ct.1), [], ct.2.2.1, [], []) 0 &&
  ces.all (fun ce => nh_vrs ce.2.1 ce.2.2.2.2.2.2 && nh_run G dt rt ct ces (some ce.2.2.2.2.2.2) fuel (nh_ceS ce) ce.1)
end
section
/-- values as a list of abstract ones says -/
def nhFor (Γ : Nat → Int) (g : Nat → Int32) : List nhV → List Value → Prop
  | [], [] => True
  | v :: vs, x :: xs => nhOk Γ g v x ∧ nhFor Γ g vs xs
  | _, _ => False
theorem nhFor_of {Γ : Nat → Int} {g : Nat → Int32} : ∀ {vs : List nhV} {ρ : List Value}, nhAll Γ g vs ρ → nhFor Γ g vs ρ
  | [], [], _ => trivial
  | [], _ :: _, h => by have := h.1; simp at this
  | _ :: _, [], h => by have := h.1; simp at this
  | v :: vs, x :: xs, h => by
    obtain ⟨y, h1, h2⟩ := h.2 0 v rfl
    cases h1
    refine ⟨h2, nhFor_of ⟨by have := h.1; simpa using this, fun i w hi => ?_⟩⟩
    obtain ⟨y, h3, h4⟩ := h.2 (i + 1) w (by simpa using hi)
    exact ⟨y, by simpa using h3, h4⟩
theorem nhFor.take {Γ : Nat → Int} {g : Nat → Int32} : ∀ (n : Nat) {vs : List nhV} {ρ : List Value}, nhFor Γ g vs ρ → nhFor Γ g (vs.take n) (ρ.take n)
  | 0, _, _, _ => trivial
  | n + 1, [], [], _ => trivial
  | n + 1, _ :: _, _ :: _, h => ⟨h.1, nhFor.take n h.2⟩
  | n + 1, [], _ :: _, h => h.elim
  | n + 1, _ :: _, [], h => h.elim
theorem nh_cat2 {Γ : Nat → Int} {g : Nat → Int32} {v : nhV} {x : Value} (h : nhOk Γ g v x) (hc : nh_cat v < 3) : x.category = (if v.1 = 1 then 2 else 1) := by
  have h1 := nh_cat_ok h
  obtain ⟨t, a, b⟩ := v
  unfold nh_cat at hc h1
  dsimp only at hc h1 ⊢
  split at hc
  · obtain ⟨z, rfl⟩ := h1.1 rfl
    rfl
  · obtain ⟨z, rfl⟩ := h1.1 rfl
    rfl
  · obtain ⟨z, rfl⟩ := h1.2.1 rfl
    rfl
  · rcases h1.2.2 rfl with rfl | ⟨z, rfl⟩ <;> rfl
  · rcases h1.2.2 rfl with rfl | ⟨z, rfl⟩ <;> rfl
  · omega
theorem nh_wid_ok {Γ : Nat → Int} {g : Nat → Int32} : ∀ {vs : List nhV} {xs : List Value}, nhFor Γ g vs xs → vs.all (fun v => decide (nh_cat v < 3)) = true → (lg_sl xs).length = nh_wid vs
  | [], [], _, _ => rfl
  | [], _ :: _, h, _ => h.elim
  | _ :: _, [], h, _ => h.elim
  | v :: vs, x :: xs, h, hc => by
    simp only [List.all_cons, Bool.and_eq_true, decide_eq_true_eq] at hc
    have h1 := nh_cat2 h.1 hc.1
    have ih := nh_wid_ok h.2 hc.2
    simp only [lg_sl, List.flatMap_cons, List.length_append, nh_wid] at ih ⊢
    rw [ih]
    split at h1
    · rename_i e
      rw [if_pos h1, if_pos e]
      rfl
    · rename_i e
      rw [if_neg (by omega), if_neg e]
      rfl
theorem nh_lo0_ok {Γ : Nat → Int} {g : Nat → Int32} {ρ : List Value} : ∀ {vs : List nhV} {xs : List Value} {n j : Nat}, nhFor Γ g vs xs → vs.all (fun v => decide (nh_cat v < 3)) = true → (∀ (i : Nat) (x : Value), xs[i]? = some x → ρ[j + i]? = some x) → ∀ q ∈ nh_lo0 n j vs, ∃ x, ρ[q.2]? = some x ∧ (q.1, x) ∈ lv_args n xs
  | [], _, _, _, _, _, _, q, hq => by cases hq
  | _ :: _, [], _, _, h, _, _, _, _ => h.elim
  | v :: vs, x :: xs, n, j, h, hc, hx, q, hq => by
    simp only [List.all_cons, Bool.and_eq_true, decide_eq_true_eq] at hc
    have h1 := nh_cat2 h.1 hc.1
    unfold nh_lo0 at hq
    unfold lv_args
    rcases List.mem_cons.mp hq with rfl | hq
    · exact ⟨x, by simpa using hx 0 x rfl, List.mem_cons_self⟩
    · have e : (if x.category = 2 then n + 2 else n + 1) = n + (if v.1 = 1 then 2 else 1) := by
        split at h1
        · rename_i e
          rw [if_pos h1, if_pos e]
        · rename_i e
          rw [if_neg (by omega), if_neg e]
      rw [e]
      obtain ⟨y, h2, h3⟩ := nh_lo0_ok h.2 hc.2 (fun i z hz => by
        have := hx (i + 1) z (by simpa using hz)
        rw [show j + 1 + i = j + (i + 1) by omega]
        exact this) q hq
      exact ⟨y, h2, List.mem_cons_of_mem _ h3⟩
/-- THE CHECK SAYS TRUE: the contract is met -/
theorem nh_sound {G : nhG} {y : nhMth} {mn : Nat} {en : nhIn} {ces : List nhCe} {fuel : Nat} (hmt : nhMt[mn]? = some y) (hC : nhOw[G.2.2.1]? = some y.1.cls) (hnL : y.2.2.1 = G.2.2.2.1) (hfr : en.2.2.1 = G.2.2.2.2.2.1) (hlo : en.2.2.2 = G.2.2.2.2.2.2.1) (hcal : ∀ (j : Nat) (en : nhIn) (y : nhMth), (∃ pc, (pc, j) ∈ G.2.2.2.2.1) → G.2.1[j]? = some en → nhMt[en.1]? = some y → nhMet G.1 y en)
    {dt : nhDt} (hdt : nh_dtB y.2.1 dt = true) (h : nh_chk G dt y.2.2.2.1 en.2.1 ces fuel = true) : nhMet G.1 y en := by
  intro l D Γ g ρ
  obtain ⟨m1, m2, m3, m4, m5, m6⟩ := nh_mt_ok hmt
  refine Met.ofW (cc := y.2.1) (maxL := y.2.2.1) (ret := y.2.2.2.1) m6 rfl ?_
  intro p e s m args below meth c s₁ B hml hv
  obtain ⟨rfl, hA, hM, hH, hK⟩ := hv
  have hts := atoms_spec (ws := nhWs y) B.pre
  have hts' : ∀ w ∈ nhTb, w.before (ρ.take en.2.1.1).toArray s = true := fun w hw => hts w (List.mem_cons_of_mem _ hw)
  unfold nh_chk at h
  simp only [Bool.and_eq_true, decide_eq_true_eq] at h
  obtain ⟨⟨⟨⟨⟨⟨⟨k1, k2⟩, k3⟩, k4⟩, k5⟩, k6⟩, k7⟩, k8⟩ := h
  have hlp : ρ.length = en.2.1.2.1.length := hA.1
  have hF : nhFx p c s m (ρ.take en.2.1.1).toArray y.2.1 G.2.2.2.1 G.2.2.1 D := ⟨B.exec, B.bytes, by rw [hml, hnL], ⟨_, hC, findClass_of_methodNamed B.named⟩, hts', hK⟩
  have hh : nhHy p (headSpec (nhWs y) (nhRm en)).room s m (ρ.take en.2.1.1).toArray c y.2.1 (D, G.1, Γ, g) G := ⟨rfl, hF, hfr, hlo, hcal⟩
  have hl : ∀ q ∈ en.2.1.2.2.2.2.1, q.2.1 < ρ.length := fun q hq => by rw [hlp]; exact of_decide_eq_true (List.all_eq_true.mp k1 q hq)
  have hl2 : ∀ q ∈ en.2.1.2.2.2.2.2.1, q.2.2.1 < ρ.length := fun q hq => by rw [hlp]; exact of_decide_eq_true (List.all_eq_true.mp k2 q hq)
  -- all certificates, by what is left to do
  have hP : ∀ (n : Nat), ∀ ce ∈ ces, ∀ (ρ1 : List Value) (H : Heap) (locs : List Loc) (ls : Array Slot) (st : List Value), nhX ρ ρ1 → nhR (D, G.1, Γ, g) G.2.2.2.1 G.2.2.2.2.2.2.2 s.heap (nh_ceS ce) ρ1 H locs ls st → nh_num ρ1 ce.2.2.2.2.2.2 < n → W p l e (headSpec (nhWs y) (nhRm en)).room s m (ρ.take en.2.1.1).toArray below meth c H locs 0 0 (MQ below (nhQc (D, G.1, Γ, g) en.2.1 ρ) (ρ.take en.2.1.1).toArray s 0 0 (fun a => 0 ≤ Γ a)) (F0 m ce.1 ls st) := by
    intro n
    induction n with
    | zero => intro ce _ ρ1 H locs ls st _ _ h; exact absurd h (Nat.not_lt_zero _)
    | succ n ih =>
      intro ce hce ρ1 H locs ls st hX hR hn
      have h1 := List.all_eq_true.mp k8 ce hce
      rw [Bool.and_eq_true] at h1
      refine nh_run_ok (ρp := ρ) (ρ0 := ρ1) hh (fun _ _ hq => nh_dk_ok hdt hq) B.returns B.notSynchronized k3 hl hl2 hlp hX (fun ce' hce' ρ2 H2 locs2 ls2 st2 hX2 hR2 hm => ?_) (fun ms hms ρ2 hX2 => ?_) fuel _ _ h1.2 ρ1 H locs ls st (nhX.rf _) hR
      · refine ih ce' hce' ρ2 H2 locs2 ls2 st2 hX2 hR2 ?_
        have := hm _ rfl
        omega
      · cases hms
        have hlen : ρ1.length = ce.2.1.length := hR.1.1
        have hv := h1.1
        unfold nh_vrs at hv
        have key : ∀ ms : nhMs, ms.all (fun q => q.1 == 0 || decide (q.2.1 < ce.2.1.length)) = true → nh_num ρ2 ms = nh_num ρ1 ms := by
          intro ms
          induction ms with
          | nil => intro _; rfl
          | cons q r ihr =>
            intro hq
            simp only [List.all_cons, Bool.and_eq_true, Bool.or_eq_true, beq_iff_eq, decide_eq_true_eq] at hq
            have e1 : nh_mv ρ2 q = nh_mv ρ1 q := by
              obtain ⟨t, v, b⟩ := q
              dsimp only at hq
              rcases hq.1 with rfl | hlt
              · rfl
              · have hg := List.getElem?_eq_getElem (l := ρ1) (i := v) (by omega)
                have hg2 := hX2 _ _ hg
                unfold nh_mv
                dsimp only
                rw [hg, hg2]
            simp only [nh_num]
            rw [e1, ihr (by simpa using hq.2)]
        exact key _ hv
  have hFor := (nhFor_of hA).take en.2.1.1
  have hw := nh_wid_ok hFor k4
  have hlv := lv_entry (ρ.take en.2.1.1) (n := y.2.2.1) (by rw [hw, hnL]; exact k6)
  rw [lg_entry_eq]
  generalize (lg_sl (ρ.take en.2.1.1) ++ List.replicate (y.2.2.1 - (lg_sl (ρ.take en.2.1.1)).length) Slot.unset).toArray = ls at hlv ⊢
  have hR : nhR (D, G.1, Γ, g) G.2.2.2.1 G.2.2.2.2.2.2.2 s.heap (en.2.1.2.1, nh_lo0 0 0 (en.2.1.2.1.take en.2.1.1), [], en.2.1.2.2.1, [], []) ρ s.heap [] ls [] := by
    refine ⟨hA, ⟨hlv.1.trans hnL, hlv.2.1, fun q hq => ?_⟩, trivial, hM, (fun q hq => by cases hq), (fun q hq => by cases hq), hH, rfl, fun _ _ => rfl, (fun q hq => by cases hq), fun _ => rfl⟩
    obtain ⟨x, h1, h2⟩ := nh_lo0_ok (ρ := ρ) (n := 0) (j := 0) hFor k4 (fun i x hi => by
      rw [List.getElem?_take] at hi
      split at hi
      · rw [Nat.zero_add]; exact hi
      · cases hi) q hq
    exact ⟨x, h1, hlv.2.2 _ h2⟩
  unfold nh_go at k7
  split at k7
  · obtain ⟨ce, hce, h2⟩ := List.any_eq_true.mp k7
    rw [Bool.and_eq_true, beq_iff_eq] at h2
    obtain ⟨h2, h3⟩ := h2
    unfold nh_ced at h3
    split at h3
    · rename_i σ hσ
      obtain ⟨e1, e2, e3⟩ := nh_ent_ok hσ hR
      have hf := hP _ ce hce _ s.heap [] ls [] (fun i x hi => by
        have hlt := (List.getElem?_eq_some_iff.mp hi).1
        rw [e2 i (by omega)]
        exact hi) e1 (Nat.lt_succ_self _)
      rw [h2] at hf
      exact hf
    · cases h3
  · exact nh_run_ok (ρp := ρ) (ρ0 := ρ) hh (fun _ _ hq => nh_dk_ok hdt hq) B.returns B.notSynchronized k3 hl hl2 hlp (nhX.rf _) (fun ce hce ρ1 H locs ls st hX hR _ => hP _ ce hce ρ1 H locs ls st hX hR (Nat.lt_succ_self _)) (fun ms hms => by cases hms) fuel _ _ k7 ρ s.heap [] ls [] (nhX.rf _) hR
end
section
/-! A WALK WITH KNOWN VALUES: (0, c) an int, (1, c) a long, (2, k) the cell B + k, (3, _) null. Cells: (0, class, fields), (1, array type, elements) -/
abbrev ceV : Type := Nat × Int
/-- ints that are not known: (4 + k, lo and hi in one number) the k-th, of which lo and hi are known; (10 + k, n) the k-th >>> n; (16 + k, n) the k-th >> n; from 22 and from 28 their bytes; (34 + k, lo and hi) the k-th and one more -/
def ce_blo (x : Int) : Int := x / 4294967296
def ce_bhi (x : Int) : Int := x % 4294967296 - 2147483648
def ce_clp (x : Int) (a : Int32) : Int32 := if ce_blo x ≤ a.toInt ∧ a.toInt ≤ ce_bhi x then a else Int32.ofInt (ce_blo x)
def ce_un (ρ : Nat → Int32) (t : Nat) (x : Int) : Int32 :=
  if t < 10 then ce_clp x (ρ (t - 4))
  else if t < 16 then (nh_bS .iushr (ρ (t - 10)) (Int32.ofInt x)).getD 0
  else if t < 22 then (nh_bS .ishr (ρ (t - 16)) (Int32.ofInt x)).getD 0
  else if t < 28 then ((nh_bS .iushr (ρ (t - 22)) (Int32.ofInt x)).getD 0).toInt8.toInt32
  else if t < 34 then ((nh_bS .ishr (ρ (t - 28)) (Int32.ofInt x)).getD 0).toInt8.toInt32
  else ce_clp x (ρ (t - 34)) + 1
def ce_c (ρ : Nat → Int32) (B : Nat) (v : ceV) : Value := match v.1 with
  | 0 => .int (Int32.ofInt v.2)
  | 1 => .long (Int64.ofInt v.2)
  | 2 => .ref (B + v.2.toNat)
  | 3 => .null
  | _ => .int (ce_un ρ v.1 v.2)
theorem ce_cU (ρ : Nat → Int32) (B : Nat) {t : Nat} (h : 4 ≤ t) (x : Int) : ce_c ρ B (t, x) = .int (ce_un ρ t x) := by
  obtain ⟨n, rfl⟩ : ∃ n, t = n + 4 := ⟨t - 4, by omega⟩
  rfl
theorem ce_inc1 {ρ : Nat → Int32} {t : Nat} {x : Int} (h1 : 4 ≤ t) (h2 : t < 10) : ce_un ρ (t + 30) x = ce_un ρ t x + 1 := by
  unfold ce_un
  rw [if_neg (by omega), if_neg (by omega), if_neg (by omega), if_neg (by omega), if_neg (by omega), if_pos h2, show t + 30 - 34 = t - 4 by omega]
def ce_full : Int := -9223372032559808513
theorem ce_clp_full (a : Int32) : ce_clp ce_full a = a := by
  have h1 := a.le_toInt
  have h2 := a.toInt_lt
  unfold ce_clp
  rw [if_pos]
  have e1 : ce_blo ce_full = -2147483648 := by decide
  have e2 : ce_bhi ce_full = 2147483647 := by decide
  rw [e1, e2]
  constructor <;> omega
theorem ce_clp_in {x : Int} {a : Int32} (h1 : ce_blo x ≤ a.toInt) (h2 : a.toInt ≤ ce_bhi x) : ce_clp x a = a := by
  unfold ce_clp
  rw [if_pos ⟨h1, h2⟩]
theorem ce_clp_bd {x : Int} (a : Int32) (h1 : -2147483648 ≤ ce_blo x) (h2 : ce_blo x ≤ ce_bhi x) (h3 : ce_bhi x < 2147483648) : ce_blo x ≤ (ce_clp x a).toInt ∧ (ce_clp x a).toInt ≤ ce_bhi x := by
  unfold ce_clp
  split
  · rename_i h
    exact h
  · rw [Int32.toInt_ofInt_of_le (by omega) (by omega)]
    omega
abbrev ceC : Type := Nat × Nat × List ceV
def ceCell (D : nhD) (ρ : Nat → Int32) (B : Nat) (c : ceC) (a : Nat) (H : Heap) : Prop := match c.1 with
  | 0 => t_OB a (D.1 c.2.1) c.2.2.length (D.2.1 c.2.1) H (fun k => ce_c ρ B (c.2.2.getD k (3, 0)))
  | _ => H[a]? = some (arrV (D.2.2 c.2.1) c.2.2.length (fun j => ce_c ρ B (c.2.2.getD j (3, 0))))
/-- the cells made, sixteen to a row, and how many -/
abbrev ceHp : Type := Nat × List (List ceC)
def ce_len (hp : ceHp) : Nat := hp.1
def ce_get (hp : ceHp) (i : Nat) : Option ceC := match hp.2[i / 16]? with
  | some r => r[i % 16]?
  | none => none
def ce_set (hp : ceHp) (i : Nat) (c : ceC) : ceHp := (hp.1, match hp.2[i / 16]? with
  | some r => hp.2.set (i / 16) (r.set (i % 16) c)
  | none => hp.2)
def ce_push (hp : ceHp) (c : ceC) : ceHp := (hp.1 + 1, if hp.1 % 16 = 0 then hp.2 ++ [[c]] else match hp.2[hp.1 / 16]? with
  | some r => hp.2.set (hp.1 / 16) (r ++ [c])
  | none => hp.2)
/-- there is room for one more where it is looked for -/
def ce_ok (hp : ceHp) : Bool := if hp.1 % 16 = 0 then decide (hp.2.length = hp.1 / 16) else match hp.2[hp.1 / 16]? with
  | some r => decide (r.length = hp.1 % 16)
  | none => false
theorem ce_set_get {hp : ceHp} {i : Nat} {c c' : ceC} (h : ce_get hp i = some c) (j : Nat) : ce_get (ce_set hp i c') j = if j = i then some c' else ce_get hp j := by
  obtain ⟨n, h2⟩ := hp
  unfold ce_get at h
  unfold ce_set ce_get
  dsimp only at h ⊢
  split at h
  · rename_i r hr
    have l1 := (List.getElem?_eq_some_iff.mp hr).1
    have l2 := (List.getElem?_eq_some_iff.mp h).1
    by_cases e : j / 16 = i / 16
    · rw [e, List.getElem?_set_self l1]
      dsimp only
      by_cases e2 : j % 16 = i % 16
      · have : j = i := by omega
        rw [e2, List.getElem?_set_self l2, if_pos this]
      · rw [List.getElem?_set_ne (Ne.symm e2), if_neg (fun q => e2 (by rw [q])), hr]
    · rw [List.getElem?_set_ne (Ne.symm e), if_neg (fun q => e (by rw [q]))]
  · cases h
theorem ce_push_get {hp : ceHp} {c : ceC} (h : ce_ok hp = true) (j : Nat) : ce_get (ce_push hp c) j = if j = hp.1 then some c else ce_get hp j := by
  obtain ⟨n, h2⟩ := hp
  unfold ce_ok at h
  unfold ce_push ce_get
  dsimp only at h ⊢
  split at h
  · rename_i e
    have h := of_decide_eq_true h
    rw [if_pos e]
    by_cases e1 : j / 16 < h2.length
    · rw [List.getElem?_append_left e1, if_neg (by omega)]
    · rw [List.getElem?_append_right (by omega)]
      have hn : h2[j / 16]? = none := List.getElem?_eq_none (by omega)
      rw [hn]
      by_cases e2 : j / 16 = h2.length
      · rw [e2, Nat.sub_self, List.getElem?_cons_zero]
        dsimp only
        by_cases e3 : j % 16 = 0
        · rw [if_pos (by omega), e3]; rfl
        · rw [if_neg (by omega), List.getElem?_eq_none (by simp; omega)]
      · rw [List.getElem?_eq_none (by simp; omega), if_neg (by omega)]
  · rename_i e
    split at h
    · rename_i r hr
      have h := of_decide_eq_true h
      have l1 := (List.getElem?_eq_some_iff.mp hr).1
      rw [if_neg e]
      by_cases e1 : j / 16 = n / 16
      · rw [e1, List.getElem?_set_self l1, hr]
        dsimp only
        by_cases e2 : j % 16 < r.length
        · rw [List.getElem?_append_left e2, if_neg (by omega)]
        · rw [List.getElem?_append_right (by omega)]
          by_cases e3 : j = n
          · rw [if_pos e3, show j % 16 - r.length = 0 by omega]; rfl
          · rw [if_neg e3, List.getElem?_eq_none (by simp; omega), List.getElem?_eq_none (by omega)]
      · rw [List.getElem?_set_ne (Ne.symm e1), if_neg (by omega)]
    · cases h
def ceH (D : nhD) (ρ : Nat → Int32) (B : Nat) (H0 : Heap) (hp : ceHp) (H : Heap) : Prop := H.size = B + ce_len hp ∧ (∀ q : Nat, q < B → H[q]? = H0[q]?) ∧ ∀ (i : Nat) (c : ceC), ce_get hp i = some c → ceCell D ρ B c (B + i) H
theorem ceCell.kept {D : nhD} {ρ : Nat → Int32} {B : Nat} {c : ceC} {a : Nat} {H H' : Heap} (h : ceCell D ρ B c a H) (hq : H'[a]? = H[a]?) : ceCell D ρ B c a H' := by
  unfold ceCell at h ⊢
  split at h
  · exact h.kept hq
  · exact hq.trans h
theorem ceCell.lt {D : nhD} {ρ : Nat → Int32} {B : Nat} {c : ceC} {a : Nat} {H : Heap} (h : ceCell D ρ B c a H) : a < H.size := by
  unfold ceCell at h
  split at h
  · obtain ⟨cell, h1, -⟩ := h
    exact (Array.getElem?_eq_some_iff.mp h1).1
  · exact (Array.getElem?_eq_some_iff.mp h).1
theorem ceH.put {D : nhD} {ρ : Nat → Int32} {B : Nat} {H0 : Heap} {hp : ceHp} {H H' : Heap} {i : Nat} {c c' : ceC} (h : ceH D ρ B H0 hp H) (hi : ce_get hp i = some c) (hc : ceCell D ρ B c' (B + i) H') (z : H'.size = H.size) (ho : ∀ q : Nat, q ≠ B + i → H'[q]? = H[q]?) : ceH D ρ B H0 (ce_set hp i c') H' := by
  obtain ⟨h1, h2, h3⟩ := h
  refine ⟨by rw [z, h1]; rfl, fun q hq => by rw [ho q (by omega)]; exact h2 q hq, fun j d hj => ?_⟩
  rw [ce_set_get hi] at hj
  split at hj
  · rename_i e
    subst e
    cases hj
    exact hc
  · rename_i e
    exact (h3 j d hj).kept (ho _ (by omega))
theorem ceH.push {D : nhD} {ρ : Nat → Int32} {B : Nat} {H0 : Heap} {hp : ceHp} {H H' : Heap} {c : ceC} (h : ceH D ρ B H0 hp H) (hok : ce_ok hp = true) (hc : ceCell D ρ B c (B + ce_len hp) H') (z : H'.size = H.size + 1) (ho : ∀ q : Nat, q < H.size → H'[q]? = H[q]?) : ceH D ρ B H0 (ce_push hp c) H' := by
  obtain ⟨h1, h2, h3⟩ := h
  refine ⟨by rw [z, h1]; show _ = B + (hp.1 + 1); unfold ce_len; omega, fun q hq => by rw [ho q (by omega)]; exact h2 q hq, fun j d hj => ?_⟩
  rw [ce_push_get hok] at hj
  split at hj
  · rename_i e
    subst e
    cases hj
    exact hc
  · exact (h3 j d hj).kept (ho _ (h3 j d hj).lt)
def ceRel (D : nhD) (ρ : Nat → Int32) (B : Nat) (H0 : Heap) (nL : Nat) (lo : List (Nat × ceV)) (hp : ceHp) (H : Heap) (locs : List Loc) (ls : Array Slot) : Prop :=
  ls.size = nL ∧ lv_wf ls ∧ (∀ q ∈ lo, ls[q.1]? = some (.val (ce_c ρ B q.2))) ∧ ceH D ρ B H0 hp H ∧ ∀ q ∈ locs, B ≤ q.base
theorem ceRel.has {D : nhD} {ρ : Nat → Int32} {B : Nat} {H0 : Heap} {nL : Nat} {lo : List (Nat × ceV)} {hp : ceHp} {H : Heap} {locs : List Loc} {ls : Array Slot} (h : ceRel D ρ B H0 nL lo hp H locs ls) : lv_has ls nL (lo.map (fun q => (q.1, ce_c ρ B q.2))) := ⟨h.1, h.2.1, fun q hq => by
  obtain ⟨r, hr, rfl⟩ := List.mem_map.mp hq
  exact h.2.2.1 r hr⟩
def ce_opU (i : Instr) (y x : ceV) : Option (Nat × ceV) := match i with
  | .iushr => if y.1 = 0 ∧ 4 ≤ x.1 ∧ x.1 < 10 ∧ x.2 = ce_full then some (2, (x.1 + 6, y.2)) else none
  | .ishr => if y.1 = 0 ∧ 4 ≤ x.1 ∧ x.1 < 10 ∧ x.2 = ce_full then some (2, (x.1 + 12, y.2)) else none
  | .iadd => if x.1 = 0 ∧ x.2 = 0 ∧ 4 ≤ y.1 then some (2, y) else if y.1 = 0 ∧ y.2 = 1 ∧ 4 ≤ x.1 ∧ x.1 < 10 then some (2, (x.1 + 30, x.2)) else none
  | _ => none
/-- pure operations on known values -/
def ce_op (i : Instr) (len : Nat) (st : List ceV) : Option (Nat × ceV) := match i with
  | .iconst n => if len = 1 then some (0, (0, (Int32.ofInt n).toInt)) else none
  | .bipush n => if len = 2 then some (0, (0, (Int8.ofInt n).toInt32.toInt)) else none
  | .sipush n => if len = 3 then some (0, (0, (Int16.ofInt n).toInt32.toInt)) else none
  | .lconst n => if len = 1 then some (0, (1, (Int64.ofNat (n : Nat)).toInt)) else none
  | .ineg => match st with
    | (0, x) :: _ => if len = 1 then some (1, (0, (-Int32.ofInt x).toInt)) else none
    | _ => none
  | .i2b => match st with
    | (0, x) :: _ => if len = 1 then some (1, (0, ((Int32.ofInt x).toInt8.toInt32).toInt)) else none
    | (t, x) :: _ => if len = 1 ∧ 10 ≤ t ∧ t < 22 then some (1, (t + 12, x)) else none
    | _ => none
  | .i2c => match st with
    | (0, x) :: _ => if len = 1 then some (1, (0, (((Int32.ofInt x).toUInt32 % 65536).toInt32).toInt)) else none
    | _ => none
  | .i2l => match st with
    | (0, x) :: _ => if len = 1 then some (1, (1, (Int32.ofInt x).toInt64.toInt)) else none
    | _ => none
  | .l2i => match st with
    | (1, x) :: _ => if len = 1 then some (1, (0, (Int64.ofInt x).toInt32.toInt)) else none
    | _ => none
  | .lcmp => match st with
    | (1, y) :: (1, x) :: _ => if len = 1 then some (2, (0, (lg_cmp (Int64.ofInt x) (Int64.ofInt y)).toInt)) else none
    | _ => none
  | i => match st with
    | (0, y) :: (0, x) :: _ => match nh_bS i (Int32.ofInt x) (Int32.ofInt y) with
      | some r => if len = 1 then some (2, (0, r.toInt)) else none
      | none => none
    | (1, y) :: (1, x) :: _ => match nh_lS i (Int64.ofInt x) (Int64.ofInt y) with
      | some r => if len = 1 then some (2, (1, r.toInt)) else none
      | none => none
    | (0, y) :: (1, x) :: _ => match nh_hS i (Int64.ofInt x) (Int32.ofInt y) with
      | some r => if len = 1 then some (2, (1, r.toInt)) else none
      | none => none
    | y :: x :: _ => if len = 1 then ce_opU i y x else none
    | _ => none
theorem ce_i (ρ : Nat → Int32) (B : Nat) (r : Int32) : ce_c ρ B (0, r.toInt) = .int r := by
  show Value.int (Int32.ofInt r.toInt) = _
  rw [fb_asI]
theorem ce_l (ρ : Nat → Int32) (B : Nat) (r : Int64) : ce_c ρ B (1, r.toInt) = .long r := by
  show Value.long (Int64.ofInt r.toInt) = _
  rw [Int64.ofInt_toInt]
section CE1
variable {p : Program} {l : Launch} {e : Env} {R : Room} {s : State} {m : MethodId} {args : Array Value} {below : List Frame} {meth : Method} {c : Code} {Q : State → Prop} {cc : ByteArray} {pc : Nat} {H : Heap} {locs : List Loc} {ls : Array Slot} {cells slots : Nat}
theorem ce_opU_ok (ρ : Nat → Int32) (B : Nat) (hx : p.tables.exec = Jvm.exec) (hb : c.code = cc) {i : Instr} {n : Nat} {y x : ceV} {st : List ceV} {v : ceV} (h : ce_opU i y x = some (n, v)) (hd : decode cc pc = .ok (i, 1))
    (k : W p l e R s m args below meth c H locs cells slots Q (F0 m (pc + 1) ls ((v :: (y :: x :: st).drop n).map (ce_c ρ B)))) : W p l e R s m args below meth c H locs cells slots Q (F0 m pc ls ((y :: x :: st).map (ce_c ρ B))) := by
  obtain ⟨yt, y⟩ := y
  obtain ⟨xt, x⟩ := x
  unfold ce_opU at h
  split at h
  · split at h
    · rename_i q
      cases h
      dsimp only at q
      obtain ⟨rfl, q1, q2, rfl⟩ := q
      rw [List.map_cons, ce_cU ρ B (by omega)] at k
      rw [List.map_cons, List.map_cons, ce_cU ρ B q1]
      have e : ce_un ρ xt ce_full = ρ (xt - 4) := by
        unfold ce_un
        rw [if_pos q2, ce_clp_full]
      have e2 : nh_bS .iushr (ρ (xt - 4)) (Int32.ofInt y) = some (ce_un ρ (xt + 6) y) := by
        unfold ce_un
        rw [if_neg (by omega), if_pos (by omega), show xt + 6 - 10 = xt - 4 by omega]
        rfl
      rw [e]
      exact nh_bW hx hb e2 hd k
    · cases h
  · split at h
    · rename_i q
      cases h
      dsimp only at q
      obtain ⟨rfl, q1, q2, rfl⟩ := q
      rw [List.map_cons, ce_cU ρ B (by omega)] at k
      rw [List.map_cons, List.map_cons, ce_cU ρ B q1]
      have e : ce_un ρ xt ce_full = ρ (xt - 4) := by
        unfold ce_un
        rw [if_pos q2, ce_clp_full]
      have e2 : nh_bS .ishr (ρ (xt - 4)) (Int32.ofInt y) = some (ce_un ρ (xt + 12) y) := by
        unfold ce_un
        rw [if_neg (by omega), if_neg (by omega), if_pos (by omega), show xt + 12 - 16 = xt - 4 by omega]
        rfl
      rw [e]
      exact nh_bW hx hb e2 hd k
    · cases h
  · split at h
    · rename_i q
      cases h
      dsimp only at q
      obtain ⟨rfl, rfl, q1⟩ := q
      rw [List.map_cons, ce_cU ρ B q1] at k
      rw [List.map_cons, List.map_cons, ce_cU ρ B q1]
      refine nh_bW (r := ce_un ρ yt y) hx hb ?_ hd k
      show some (Int32.ofInt 0 + ce_un ρ yt y) = _
      rw [show Int32.ofInt 0 = 0 from rfl, Int32.zero_add]
    · split at h
      · rename_i q
        cases h
        dsimp only at q
        obtain ⟨rfl, rfl, q1, q2⟩ := q
        rw [List.map_cons, ce_cU ρ B (by omega)] at k
        rw [List.map_cons, List.map_cons, ce_cU ρ B q1]
        refine nh_bW (r := ce_un ρ (xt + 30) x) hx hb ?_ hd k
        show some (ce_un ρ xt x + Int32.ofInt 1) = _
        rw [ce_inc1 q1 q2]
        rfl
      · cases h
  · cases h
theorem ce_op_ok (ρ : Nat → Int32) (B : Nat) (hx : p.tables.exec = Jvm.exec) (hb : c.code = cc) {i : Instr} {len n : Nat} {st : List ceV} {v : ceV} (h : ce_op i len st = some (n, v)) (hd : decode cc pc = .ok (i, len))
    (k : W p l e R s m args below meth c H locs cells slots Q (F0 m (pc + len) ls ((v :: st.drop n).map (ce_c ρ B)))) : W p l e R s m args below meth c H locs cells slots Q (F0 m pc ls (st.map (ce_c ρ B))) := by
  unfold ce_op at h
  split at h
  · split at h
    · rename_i q; cases h; subst q
      rw [List.map_cons, ce_i] at k
      exact lv_iconst hx hb hd rfl k
    · cases h
  · split at h
    · rename_i q; cases h; subst q
      rw [List.map_cons, ce_i] at k
      exact lv_bipush hx hb hd rfl k
    · cases h
  · split at h
    · rename_i q; cases h; subst q
      rw [List.map_cons, ce_i] at k
      exact lv_sipush hx hb hd rfl k
    · cases h
  · split at h
    · rename_i q; cases h; subst q
      rw [List.map_cons, ce_l] at k
      exact lv_lconst hx hb hd rfl k
    · cases h
  · split at h
    · split at h
      · rename_i q; cases h; subst q
        rw [List.map_cons, ce_i] at k
        exact lv_ineg hx hb hd k
      · cases h
    · cases h
  · split at h
    · split at h
      · rename_i q; cases h; subst q
        rw [List.map_cons, ce_i] at k
        exact lv_i2b hx hb hd rfl k
      · cases h
    · rename_i t x _ _
      split at h
      · rename_i q; cases h; obtain ⟨rfl, q1, q2⟩ := q
        rw [List.map_cons, ce_cU ρ B (by omega)] at k
        rw [List.map_cons, ce_cU ρ B (by omega)]
        refine lv_i2b hx hb hd rfl ?_
        have e : ce_un ρ (t + 12) x = (ce_un ρ t x).toInt8.toInt32 := by
          unfold ce_un
          by_cases h1 : t < 16
          · rw [if_neg (by omega), if_neg (by omega), if_neg (by omega), if_pos (by omega), if_neg (by omega), if_pos h1, show t + 12 - 22 = t - 10 by omega]
          · rw [if_neg (by omega), if_neg (by omega), if_neg (by omega), if_neg (by omega), if_pos (by omega), if_neg (by omega), if_neg h1, if_pos q2, show t + 12 - 28 = t - 16 by omega]
        rw [e] at k
        exact k
      · cases h
    · cases h
  · split at h
    · split at h
      · rename_i q; cases h; subst q
        rw [List.map_cons, ce_i] at k
        exact lv_i2c hx hb hd rfl k
      · cases h
    · cases h
  · split at h
    · split at h
      · rename_i q; cases h; subst q
        rw [List.map_cons, ce_l] at k
        exact lv_i2l hx hb hd rfl k
      · cases h
    · cases h
  · split at h
    · split at h
      · rename_i q; cases h; subst q
        rw [List.map_cons, ce_i] at k
        exact lv_l2i hx hb hd rfl k
      · cases h
    · cases h
  · split at h
    · split at h
      · rename_i q; cases h; subst q
        rw [List.map_cons, ce_i] at k
        exact W.lcmp hx hb hd k
      · cases h
    · cases h
  · split at h
    · split at h
      · rename_i r hr
        split at h
        · rename_i q; cases h; subst q
          rw [List.map_cons, ce_i] at k
          exact nh_bW hx hb hr hd k
        · cases h
      · cases h
    · split at h
      · rename_i r hr
        split at h
        · rename_i q; cases h; subst q
          rw [List.map_cons, ce_l] at k
          exact nh_lW hx hb hr hd k
        · cases h
      · cases h
    · split at h
      · rename_i r hr
        split at h
        · rename_i q; cases h; subst q
          rw [List.map_cons, ce_l] at k
          exact nh_hW hx hb hr hd k
        · cases h
      · cases h
    · rename_i y x _ _ _ _
      split at h
      · rename_i q
        subst q
        exact ce_opU_ok ρ B hx hb h hd k
      · cases h
    · cases h
end CE1
end
section
/-! known values: moves, branches, fields, arrays -/
abbrev ceS : Type := Nat × List (Nat × ceV) × List ceV × ceHp
def ceGo (p : Program) (l : Launch) (e : Env) (R : Room) (s : State) (m : MethodId) (args : Array Value) (below : List Frame) (meth : Method) (c : Code) (Q : State → Prop) (D : nhD) (ρ : Nat → Int32) (B : Nat) (H0 : Heap) (nL cn cz : Nat) (S : ceS) : Prop :=
  ∀ (H : Heap) (locs : List Loc) (ls : Array Slot), ceRel D ρ B H0 nL S.2.1 S.2.2.2 H locs ls → W p l e R s m args below meth c H locs cn cz Q (F0 m S.1 ls (S.2.2.1.map (ce_c ρ B)))
def ce_ty (v : ceV) : Nat := match v.1 with
  | 0 => 0
  | 1 => 1
  | 2 => 2
  | 3 => 2
  | _ => 0
theorem ce_ty_ok (ρ : Nat → Int32) (B : Nat) {v : ceV} : (ce_ty v = 0 → ∃ a : Int32, ce_c ρ B v = .int a) ∧ (ce_ty v = 1 → ∃ a : Int64, ce_c ρ B v = .long a) ∧ (ce_ty v = 2 → ce_c ρ B v = .null ∨ ∃ a : Nat, ce_c ρ B v = .ref a) := by
  obtain ⟨t, x⟩ := v
  match t with
  | 0 => exact ⟨fun _ => ⟨_, rfl⟩, fun q => absurd (show (0 : Nat) = 1 from q) (by decide), fun q => absurd (show (0 : Nat) = 2 from q) (by decide)⟩
  | 1 => exact ⟨fun q => absurd (show (1 : Nat) = 0 from q) (by decide), fun _ => ⟨_, rfl⟩, fun q => absurd (show (1 : Nat) = 2 from q) (by decide)⟩
  | 2 => exact ⟨fun q => absurd (show (2 : Nat) = 0 from q) (by decide), fun q => absurd (show (2 : Nat) = 1 from q) (by decide), fun _ => Or.inr ⟨_, rfl⟩⟩
  | 3 => exact ⟨fun q => absurd (show (2 : Nat) = 0 from q) (by decide), fun q => absurd (show (2 : Nat) = 1 from q) (by decide), fun _ => Or.inl rfl⟩
  | n + 4 => exact ⟨fun _ => ⟨_, rfl⟩, fun q => absurd (show (0 : Nat) = 1 from q) (by decide), fun q => absurd (show (0 : Nat) = 2 from q) (by decide)⟩
/-- between what two a value lies -/
def ce_iv (v : ceV) : Option (Int × Int) := if v.1 = 0 then some ((Int32.ofInt v.2).toInt, (Int32.ofInt v.2).toInt)
  else if 4 ≤ v.1 ∧ v.1 < 10 ∧ -2147483648 ≤ ce_blo v.2 ∧ ce_blo v.2 ≤ ce_bhi v.2 ∧ ce_bhi v.2 < 2147483648 then some (ce_blo v.2, ce_bhi v.2) else none
theorem ce_iv_ok (ρ : Nat → Int32) (B : Nat) {v : ceV} {r : Int × Int} (h : ce_iv v = some r) : ∃ a : Int32, ce_c ρ B v = .int a ∧ r.1 ≤ a.toInt ∧ a.toInt ≤ r.2 := by
  obtain ⟨t, x⟩ := v
  unfold ce_iv at h
  dsimp only at h
  split at h
  · rename_i q
    subst q
    cases h
    exact ⟨_, rfl, Int.le_refl _, Int.le_refl _⟩
  · split at h
    · rename_i q
      obtain ⟨q1, q2, q3, q4, q5⟩ := q
      cases h
      refine ⟨_, ce_cU ρ B q1 x, ?_⟩
      unfold ce_un
      rw [if_pos q2]
      exact ce_clp_bd _ q3 q4 q5
    · cases h
def ce_dci (cd : ClassFile.Cond) (i j : Int × Int) : Option Bool := match cd with
  | .eq => if i.2 < j.1 ∨ j.2 < i.1 then some false else if i.1 = i.2 ∧ j.1 = j.2 ∧ i.1 = j.1 then some true else none
  | .ne => if i.2 < j.1 ∨ j.2 < i.1 then some true else if i.1 = i.2 ∧ j.1 = j.2 ∧ i.1 = j.1 then some false else none
  | .lt => if i.2 < j.1 then some true else if j.2 ≤ i.1 then some false else none
  | .ge => if j.2 ≤ i.1 then some true else if i.2 < j.1 then some false else none
  | .gt => if j.2 < i.1 then some true else if i.2 ≤ j.1 then some false else none
  | .le => if i.2 ≤ j.1 then some true else if j.2 < i.1 then some false else none
theorem ce_dci_ok {cd : ClassFile.Cond} {i j : Int × Int} {b : Bool} (h : ce_dci cd i j = some b) {x y : Int} (h1 : i.1 ≤ x) (h2 : x ≤ i.2) (h3 : j.1 ≤ y) (h4 : y ≤ j.2) : nh_cr cd x y = b := by
  cases cd <;> (unfold ce_dci at h; dsimp only at h; unfold nh_cr; split at h)
  all_goals first
    | (cases h; simp only [decide_eq_true_eq, decide_eq_false_iff_not]; omega)
    | (split at h
       · cases h; simp only [decide_eq_true_eq, decide_eq_false_iff_not]; omega
       · cases h)
/-- how a comparison comes out -/
def ce_dc (cd : ClassFile.Cond) (x y : ceV) : Option Bool := if x.1 = 0 ∧ y.1 = 0 then some (nh_cr cd (Int32.ofInt x.2).toInt (Int32.ofInt y.2).toInt) else (match ce_iv x, ce_iv y with
  | some i, some j => ce_dci cd i j
  | _, _ => none)
theorem ce_dc_ok (ρ : Nat → Int32) (B : Nat) {cd : ClassFile.Cond} {x y : ceV} {b : Bool} (h : ce_dc cd x y = some b) : ∃ a a' : Int32, ce_c ρ B x = .int a ∧ ce_c ρ B y = .int a' ∧ nh_cr cd a.toInt a'.toInt = b := by
  unfold ce_dc at h
  split at h
  · rename_i q
    obtain ⟨xt, x⟩ := x
    obtain ⟨yt, y⟩ := y
    dsimp only at q
    obtain ⟨rfl, rfl⟩ := q
    cases h
    exact ⟨_, _, rfl, rfl, rfl⟩
  · split at h
    · rename_i i j hi hj
      obtain ⟨a, e1, e2, e3⟩ := ce_iv_ok ρ B hi
      obtain ⟨a', f1, f2, f3⟩ := ce_iv_ok ρ B hj
      exact ⟨a, a', e1, f1, ce_dci_ok h e2 e3 f2 f3⟩
    · cases h
theorem ce_cat (ρ : Nat → Int32) (B : Nat) (v : ceV) : (ce_c ρ B v).category = (if ce_ty v = 1 then 2 else 1) := by
  have h := ce_ty_ok ρ B (v := v)
  have h3 : ce_ty v = 0 ∨ ce_ty v = 1 ∨ ce_ty v = 2 := by
    unfold ce_ty
    split <;> simp
  rcases h3 with q | q | q
  · obtain ⟨a, e⟩ := h.1 q
    rw [e, q]; rfl
  · obtain ⟨a, e⟩ := h.2.1 q
    rw [e, q]; rfl
  · rcases h.2.2 q with e | ⟨a, e⟩ <;> rw [e, q] <;> rfl
def ce_find (lo : List (Nat × ceV)) (n : Nat) : Option ceV := match lo with
  | [] => none
  | q :: r => match Nat.beq q.1 n with
    | true => some q.2
    | false => ce_find r n
theorem ce_find_ok {lo : List (Nat × ceV)} {n : Nat} {v : ceV} (h : ce_find lo n = some v) : (n, v) ∈ lo := by
  induction lo with
  | nil => cases h
  | cons q r ih =>
    unfold ce_find at h
    split at h
    · rename_i e1
      cases h
      have : q.1 = n := Nat.eq_of_beq_eq_true e1
      rw [← this]
      exact List.mem_cons_self
    · exact List.mem_cons_of_mem _ (ih h)
def ce_keep (n t : Nat) (q : Nat × ceV) : Bool := match Nat.beq q.1 n with
  | true => false
  | false => match Nat.beq (q.1 + 1) n with
    | true => !(Nat.beq (ce_ty q.2) 1)
    | false => match Nat.beq t 1 with
      | true => !(Nat.beq q.1 (n + 1))
      | false => true
theorem ce_nb {a b : Nat} (h : (!(Nat.beq a b)) = true) : a ≠ b := fun e => by
  subst e
  rw [Nat.beq_refl] at h
  cases h
theorem ce_nf {a b : Nat} (h : Nat.beq a b = false) : a ≠ b := fun e => by
  subst e
  rw [Nat.beq_refl] at h
  cases h
theorem ce_keep_ok {n t : Nat} {q : Nat × ceV} (h : ce_keep n t q = true) : (!(q.1 == n) && (!(t == 1 && q.1 == n + 1) && !(q.1 + 1 == n && ce_ty q.2 == 1))) = true := by
  unfold ce_keep at h
  split at h
  · cases h
  · rename_i e1
    have e1 := ce_nf e1
    split at h
    · rename_i e2
      have e2 := Nat.eq_of_beq_eq_true e2
      have e3 := ce_nb h
      have e4 : q.1 ≠ n + 1 := by omega
      simp [e1, e3, e4]
    · rename_i e2
      have e2 := ce_nf e2
      split at h
      · have e3 := ce_nb h
        simp [e1, e2, e3]
      · rename_i e3
        have e3 := ce_nf e3
        simp [e1, e2, e3]
def ce_put (lo : List (Nat × ceV)) (n t : Nat) (v : ceV) : List (Nat × ceV) := (n, v) :: lo.filter (ce_keep n t)
theorem ce_put_ok {D : nhD} {ρ : Nat → Int32} {B : Nat} {H0 : Heap} {nL n t : Nat} {lo : List (Nat × ceV)} {hp : ceHp} {H : Heap} {locs : List Loc} {ls ls' : Array Slot} {v : ceV} (h : ceRel D ρ B H0 nL lo hp H locs ls)
    (hl : lv_has ls' nL ((n, ce_c ρ B v) :: (lo.map (fun q => (q.1, ce_c ρ B q.2))).filter (fun q => !(q.1 == n) && (!(t == 1 && q.1 == n + 1) && !(q.1 + 1 == n && q.2.category == 2))))) : ceRel D ρ B H0 nL (ce_put lo n t v) hp H locs ls' := by
  refine ⟨hl.1, hl.2.1, fun q hq => ?_, h.2.2.2⟩
  unfold ce_put at hq
  rcases List.mem_cons.mp hq with rfl | hq
  · exact hl.2.2 (n, ce_c ρ B v) List.mem_cons_self
  · obtain ⟨h1, h2⟩ := List.mem_filter.mp hq
    have h2 := ce_keep_ok h2
    refine hl.2.2 (q.1, ce_c ρ B q.2) (List.mem_cons_of_mem _ (List.mem_filter.mpr ⟨List.mem_map.mpr ⟨q, h1, rfl⟩, ?_⟩))
    dsimp only
    rw [ce_cat]
    by_cases e : ce_ty q.2 = 1
    · simp only [e] at h2 ⊢; exact h2
    · simp only [if_neg e]
      have e2 : (ce_ty q.2 == 1) = false := by simpa using e
      rw [e2] at h2
      simpa using h2
def ce_mov (nL pc : Nat) (i : Instr) (len : Nat) (lo : List (Nat × ceV)) (st : List ceV) (hp : ceHp) : Option ceS := match nh_ldI i len with
  | some q => match ce_find lo q.1 with
    | some v => if ce_ty v = q.2 then some (pc + len, lo, v :: st, hp) else none
    | none => none
  | none => match nh_stI i len with
    | some q => match st with
      | v :: r => if ce_ty v = q.2 ∧ q.1 + nh_w q.2 < nL then some (pc + len, ce_put lo q.1 q.2 v, r, hp) else none
      | [] => none
    | none => if len = 1 then (match i with
      | .dup => match st with
        | v :: r => if ce_ty v = 1 then none else some (pc + 1, lo, v :: v :: r, hp)
        | _ => none
      | .pop => match st with
        | v :: r => if ce_ty v = 1 then none else some (pc + 1, lo, r, hp)
        | _ => none
      | .dup2 => match st with
        | v :: w :: r => if ce_ty v = 1 ∨ ce_ty w = 1 then none else some (pc + 1, lo, v :: w :: v :: w :: r, hp)
        | _ => none
      | _ => none) else none
def ce_inc (nL pc : Nat) (i : Instr) (len : Nat) (lo : List (Nat × ceV)) (st : List ceV) (hp : ceHp) : Option ceS := match i with
  | .iinc n k => match ce_find lo n with
    | some (0, x) => if len = 3 ∧ n < nL then some (pc + 3, ce_put lo n 0 (0, (Int32.ofInt x + Int32.ofInt k).toInt), st, hp) else none
    | some (t, x) => if len = 3 ∧ n < nL ∧ k = 1 ∧ 4 ≤ t ∧ t < 10 then some (pc + 3, ce_put lo n 0 (t + 30, x), st, hp) else none
    | _ => none
  | _ => none
/-- a condition on known ints -/
theorem ce_look {d x : Int} {v : Int × Int} (h1 : v.1 ≤ x) (h2 : x ≤ v.2) : ∀ {ps : List (Int × Int)}, ps.all (fun q => decide (q.1 < v.1 ∨ v.2 < q.1)) = true → Op.lookupswitch.offset ps d x = d
  | [], _ => rfl
  | q :: r, h => by
    rw [List.all_cons, Bool.and_eq_true] at h
    have h3 := of_decide_eq_true h.1
    rw [Op.lookupswitch.offset_cons, if_neg (by omega)]
    exact ce_look h1 h2 h.2
def ce_br (pc : Nat) (i : Instr) (len : Nat) (lo : List (Nat × ceV)) (st : List ceV) (hp : ceHp) : Option ceS := match i with
  | .if_icmp cd off => match st with
    | y :: x :: r => match nh_tg pc off, ce_dc cd x y with
      | some t, some b => if len = 3 then some (if b = true then t else pc + 3, lo, r, hp) else none
      | _, _ => none
    | _ => none
  | .ifCond cd off => match st with
    | x :: r => match nh_tg pc off, ce_dc cd x (0, 0) with
      | some t, some b => if len = 3 then some (if b = true then t else pc + 3, lo, r, hp) else none
      | _, _ => none
    | _ => none
  | .goto off => match nh_tg pc off with
    | some t => if len = 3 then some (t, lo, st, hp) else none
    | none => none
  | .ifnull off => match st with
    | (2, _) :: r => if len = 3 then some (pc + 3, lo, r, hp) else none
    | (3, _) :: r => match nh_tg pc off with
      | some t => if len = 3 then some (t, lo, r, hp) else none
      | none => none
    | _ => none
  | .ifnonnull off => match st with
    | (2, _) :: r => match nh_tg pc off with
      | some t => if len = 3 then some (t, lo, r, hp) else none
      | none => none
    | (3, _) :: r => if len = 3 then some (pc + 3, lo, r, hp) else none
    | _ => none
  | .tableswitch d lw hi offs => match st with
    | (0, x) :: r => if (Int32.ofInt x).toInt < lw ∨ hi < (Int32.ofInt x).toInt then (match nh_tg pc d with
        | some t => some (t, lo, r, hp)
        | none => none) else (match offs[((Int32.ofInt x).toInt - lw).toNat]? with
        | some o => match nh_tg pc o with
          | some t => some (t, lo, r, hp)
          | none => none
        | none => none)
    | x :: r => match ce_iv x, nh_tg pc d with
      | some v, some t => if v.2 < lw ∨ hi < v.1 then some (t, lo, r, hp) else none
      | _, _ => none
    | _ => none
  | .lookupswitch d ps => match st with
    | (0, x) :: r => match nh_tg pc (Op.lookupswitch.offset ps.toList d (Int32.ofInt x).toInt) with
      | some t => if (ps.toList.zip (ps.toList.drop 1)).all (fun (a, next) => a.1 < next.1) = true then some (t, lo, r, hp) else none
      | none => none
    | x :: r => match ce_iv x, nh_tg pc d with
      | some v, some t => if (ps.toList.zip (ps.toList.drop 1)).all (fun (a, next) => a.1 < next.1) = true ∧ ps.toList.all (fun q => decide (q.1 < v.1 ∨ v.2 < q.1)) = true then some (t, lo, r, hp) else none
      | _, _ => none
    | _ => none
  | _ => none
section CE2
variable {p : Program} {l : Launch} {e : Env} {R : Room} {s : State} {m : MethodId} {args : Array Value} {below : List Frame} {meth : Method} {c : Code} {Q : State → Prop} {cc : ByteArray} {pc : Nat} {D : nhD} {ρ : Nat → Int32} {B : Nat} {H0 : Heap} {nL cn cz : Nat} {lo : List (Nat × ceV)} {st : List ceV} {hp : ceHp}
theorem ce_mov_ok (hx : p.tables.exec = Jvm.exec) (hb : c.code = cc) {i : Instr} {len : Nat} (hd : decode cc pc = .ok (i, len)) {S' : ceS} (h : ce_mov nL pc i len lo st hp = some S')
    (k : ceGo p l e R s m args below meth c Q D ρ B H0 nL cn cz S') : ceGo p l e R s m args below meth c Q D ρ B H0 nL cn cz (pc, lo, st, hp) := by
  intro H locs ls hR
  unfold ce_mov at h
  split at h
  · rename_i q hq
    split at h
    · rename_i v hv
      split at h
      · rename_i ht
        cases h
        have hc := ce_ty_ok ρ B (v := v)
        rw [ht] at hc
        exact nh_ldW hx hb hq hd (hR.2.2.1 _ (ce_find_ok hv)) hc.1 hc.2.1 hc.2.2 (k H locs ls hR)
      · cases h
    · cases h
  · split at h
    · rename_i q hq
      split at h
      · rename_i v r
        split at h
        · rename_i ht
          cases h
          have hc := ce_ty_ok ρ B (v := v)
          rw [ht.1] at hc
          exact nh_stW hx hb hq hd hR.has ht.2 hc.1 hc.2.1 hc.2.2 (fun ls' hl' => k H locs ls' (ce_put_ok hR hl'))
        · cases h
      · cases h
    · split at h
      · rename_i hl
        subst hl
        split at h
        · split at h
          · rename_i v r
            split at h
            · cases h
            · rename_i ht
              cases h
              exact lv_dup hx hb hd (by rw [ce_cat, if_neg ht]) (k H locs ls hR)
          · cases h
        · split at h
          · rename_i v r
            split at h
            · cases h
            · rename_i ht
              cases h
              exact lv_pop hx hb hd (by rw [ce_cat, if_neg ht]) (k H locs ls hR)
          · cases h
        · split at h
          · rename_i v w r
            split at h
            · cases h
            · rename_i ht
              cases h
              exact lv_dup2_11 hx hb hd (by rw [ce_cat, if_neg (fun q => ht (Or.inl q))]) (by rw [ce_cat, if_neg (fun q => ht (Or.inr q))]) (k H locs ls hR)
          · cases h
        · cases h
      · cases h
theorem ce_inc_ok (hx : p.tables.exec = Jvm.exec) (hb : c.code = cc) {i : Instr} {len : Nat} (hd : decode cc pc = .ok (i, len)) {S' : ceS} (h : ce_inc nL pc i len lo st hp = some S')
    (k : ceGo p l e R s m args below meth c Q D ρ B H0 nL cn cz S') : ceGo p l e R s m args below meth c Q D ρ B H0 nL cn cz (pc, lo, st, hp) := by
  intro H locs ls hR
  unfold ce_inc at h
  split at h
  · rename_i n kk
    split at h
    · rename_i x hv
      split at h
      · rename_i ht
        cases h
        obtain ⟨rfl, hn⟩ := ht
        have hlv := hR.has
        have hmem : (n, Value.int (Int32.ofInt x)) ∈ lo.map (fun q => (q.1, ce_c ρ B q.2)) := List.mem_map.mpr ⟨(n, (0, x)), ce_find_ok hv, rfl⟩
        obtain ⟨kx, hkx⟩ := List.getElem?_of_mem hmem
        refine lv_iinc hx hb hd hlv hkx rfl hn rfl (fun ls' hl' => k H locs ls' (ce_put_ok hR ?_))
        rw [ce_i]
        simpa using hl'
      · cases h
    · rename_i t x _ hv
      split at h
      · rename_i ht
        cases h
        obtain ⟨rfl, hn, rfl, t1, t2⟩ := ht
        have hlv := hR.has
        have hmem : (n, Value.int (ce_un ρ t x)) ∈ lo.map (fun q => (q.1, ce_c ρ B q.2)) := List.mem_map.mpr ⟨(n, (t, x)), ce_find_ok hv, by dsimp only; rw [ce_cU ρ B t1]⟩
        obtain ⟨kx, hkx⟩ := List.getElem?_of_mem hmem
        refine lv_iinc hx hb hd hlv hkx rfl hn rfl (fun ls' hl' => k H locs ls' (ce_put_ok hR ?_))
        rw [ce_cU ρ B (by omega), ce_inc1 t1 t2]
        simpa using hl'
      · cases h
    · cases h
  · cases h
theorem ce_br_ok (hx : p.tables.exec = Jvm.exec) (hb : c.code = cc) {i : Instr} {len : Nat} (hd : decode cc pc = .ok (i, len)) {S' : ceS} (h : ce_br pc i len lo st hp = some S')
    (k : ceGo p l e R s m args below meth c Q D ρ B H0 nL cn cz S') : ceGo p l e R s m args below meth c Q D ρ B H0 nL cn cz (pc, lo, st, hp) := by
  intro H locs ls hR
  unfold ce_br at h
  split at h
  · split at h
    · split at h
      · rename_i t b ht hdc
        split at h
        · rename_i hl
          cases h; subst hl
          have k1 := k H locs ls hR
          obtain ⟨a, a', e1, e2, e3⟩ := ce_dc_ok ρ B hdc
          show W p l e R s m args below meth c H locs cn cz Q (F0 m pc ls (ce_c ρ B _ :: ce_c ρ B _ :: _))
          rw [e1, e2]
          refine nh_icW hx hb hd (nh_tg_ok ht) (fun hc => ?_) (fun hc => ?_)
          · dsimp only at k1
            rw [if_pos (e3.symm.trans hc)] at k1
            exact k1
          · dsimp only at k1
            rw [if_neg (by rw [e3.symm.trans hc]; decide)] at k1
            exact k1
        · cases h
      · cases h
    · cases h
  · split at h
    · split at h
      · rename_i t b ht hdc
        split at h
        · rename_i hl
          cases h; subst hl
          have k1 := k H locs ls hR
          obtain ⟨a, a', e1, e2, e3⟩ := ce_dc_ok ρ B hdc
          show W p l e R s m args below meth c H locs cn cz Q (F0 m pc ls (ce_c ρ B _ :: _))
          rw [e1]
          refine nh_ifW hx hb hd (nh_tg_ok ht) (fun hc => ?_) (fun hc => ?_)
          · dsimp only at k1
            rw [if_pos (e3.symm.trans (by cases e2; exact hc))] at k1
            exact k1
          · dsimp only at k1
            rw [if_neg (by rw [e3.symm.trans (by cases e2; exact hc)]; decide)] at k1
            exact k1
        · cases h
      · cases h
    · cases h
  · split at h
    · rename_i t ht
      split at h
      · rename_i hl
        cases h; subst hl
        exact lv_goto hx hb hd (nh_tg_ok ht) (k H locs ls hR)
      · cases h
    · cases h
  · split at h
    · split at h
      · rename_i hl
        cases h; subst hl
        exact lv_ifnull hx hb hd (k H locs ls hR)
      · cases h
    · split at h
      · rename_i t ht
        split at h
        · rename_i hl
          cases h; subst hl
          exact lv_ifnullN hx hb hd (nh_tg_ok ht) (k H locs ls hR)
        · cases h
      · cases h
    · cases h
  · split at h
    · split at h
      · rename_i t ht
        split at h
        · rename_i hl
          cases h; subst hl
          exact lv_ifnonnull hx hb hd (nh_tg_ok ht) (k H locs ls hR)
        · cases h
      · cases h
    · split at h
      · rename_i hl
        cases h; subst hl
        exact lv_ifnonnullN hx hb hd (k H locs ls hR)
      · cases h
    · cases h
  · rename_i d lw hi offs
    split at h
    · rename_i x r
      split at h
      · rename_i hc
        split at h
        · rename_i t ht
          cases h
          exact lv_tableOut hx hb hd hc (nh_tg_ok ht) (k H locs ls hR)
        · cases h
      · rename_i hc
        split at h
        · rename_i o ho
          split at h
          · rename_i t ht
            cases h
            exact lv_tableIn hx hb hd (fun q => hc (Or.inl q)) (fun q => hc (Or.inr q)) ho (nh_tg_ok ht) (k H locs ls hR)
          · cases h
        · cases h
    · rename_i x r _
      split at h
      · rename_i v t hv ht
        split at h
        · rename_i hc
          cases h
          obtain ⟨a, e1, e2, e3⟩ := ce_iv_ok (ρ := ρ) (B := B) hv
          have k1 := k H locs ls hR
          show W p l e R s m args below meth c H locs cn cz Q (F0 m pc ls (ce_c ρ B _ :: _))
          rw [e1]
          exact lv_tableOut hx hb hd (by omega) (nh_tg_ok ht) k1
        · cases h
      · cases h
    · cases h
  · rename_i d ps
    split at h
    · rename_i x r
      split at h
      · rename_i t ht
        split at h
        · rename_i hc
          cases h
          exact lv_lookup hx hb hd hc rfl (nh_tg_ok ht) (k H locs ls hR)
        · cases h
      · cases h
    · rename_i x r _
      split at h
      · rename_i v t hv ht
        split at h
        · rename_i hc
          cases h
          obtain ⟨a, e1, e2, e3⟩ := ce_iv_ok (ρ := ρ) (B := B) hv
          have k1 := k H locs ls hR
          show W p l e R s m args below meth c H locs cn cz Q (F0 m pc ls (ce_c ρ B _ :: _))
          rw [e1]
          exact lv_lookup hx hb hd hc.1 (ce_look e2 e3 hc.2) (nh_tg_ok ht) k1
        · cases h
      · cases h
    · cases h
  · cases h
end CE2
end
section
/-! words for what is made, by program -/
def ceNl : List (List (Nat × Nat × Nat)) := [[(9, 4, 474)], [], [(9, 4, 399)], [(15, 1, 156)], [], [(18, 4, 443)], [(9, 9, 267)], [(34, 4, 512)], [], [], [], [(17, 3, 150), (27, 6, 261), (34, 4, 342), (44, 2, 393), (58, 10, 417), (65, 5, 437), (72, 0, 468), (79, 7, 506)], [], [], [], [], [], [], [], [], [(7, 11, 142), (10, 12, 1376)]]
def ceOi : List (List (Nat × Nat)) := [[(3, 473)], [(1, 161)], [(1, 398)], [(3, 155)], [(3, 347)], [(3, 442)], [(3, 266)], [(3, 511)], [], [(1, 272)], [(3, 422)], [(1, 147)], [(1, 1381)], [], [], [], [], [], [], [], []]
def ceIs : List (Nat × Nat) := [(469, 127), (157, 120), (394, 124), (151, 119), (343, 123), (438, 126), (262, 121), (507, 128), (0, 138), (268, 122), (418, 125), (143, 118), (1377, 131)]
def ce_nlB (o : Nat) (q : Nat × Nat × Nat) : Bool := match nhOw[o]?, nhCl[q.2.1]?, ceIs[q.2.1]? with
  | some C, some r, some z => nh_wd q.2.2 (Cond.classLink C q.1 r.1) && nh_wd z.1 (Cond.instantiable r.1 r.2.2) && nh_wd z.2 (Cond.initialized r.1)
  | _, _, _ => false
def ce_oiB (o : Nat) (q : Nat × Nat) : Bool := match nhOw[o]? with
  | some C => nh_wd q.2 (Cond.methodLink C q.1 Lib.objectInit)
  | _ => false
set_option maxRecDepth 100000 in
theorem ceNl_all : (List.range ceNl.length).all (fun o => (ceNl.getD o []).all (ce_nlB o)) = true := by decide +kernel
set_option maxRecDepth 100000 in
theorem ceOi_all : (List.range ceOi.length).all (fun o => (ceOi.getD o []).all (ce_oiB o)) = true := by decide +kernel
theorem ceOb1 : Cond.instanceMethod Lib.objectInit ∈ nhTb := nh_wd_ok (i := 148) (by decide +kernel)
set_option maxRecDepth 100000 in
theorem ceOb2 : Cond.code Lib.objectInit ⟨#[0xb1]⟩ 1 none ∈ nhTb := nhTb_mem (List.mem_of_getElem? (i := 149) rfl) rfl
theorem ceAr_int : Cond.arrayClass .int ∈ nhTb := nh_wd_ok (i := 181) (by decide +kernel)
theorem ceAr_byte : Cond.arrayClass .byte ∈ nhTb := nh_wd_ok (i := 180) (by decide +kernel)
theorem ceAr_long : Cond.arrayClass .long ∈ nhTb := nh_wd_ok (i := 341) (by decide +kernel)
theorem ceAr_boolean : Cond.arrayClass .boolean ∈ nhTb := nh_wd_ok (i := 546) (by decide +kernel)
end
section
/-! known values: fields, arrays, constants, what is made -/
def ce_fit (ty : FieldType) (v : ceV) : Bool := match ty with
  | .int => ce_ty v == 0
  | .long => v.1 == 1
  | .boolean => v.1 == 0 && (v.2 == 0 || v.2 == 1)
  | .object _ => ce_ty v == 2
  | .array _ => ce_ty v == 2
  | _ => false
theorem ce_fit_ok (ρ : Nat → Int32) (B : Nat) {ty : FieldType} {v : ceV} (h : ce_fit ty v = true) : narrow ty (ce_c ρ B v) = ce_c ρ B v ∧ fits ty (ce_c ρ B v) = true := by
  have hc := ce_ty_ok ρ B (v := v)
  obtain ⟨t, x⟩ := v
  unfold ce_fit at h
  split at h
  · obtain ⟨a, e⟩ := hc.1 (by simpa using h)
    rw [e]
    exact ⟨rfl, rfl⟩
  · have : t = 1 := by simpa using h
    subst this
    exact ⟨rfl, rfl⟩
  · simp only [Bool.and_eq_true, Bool.or_eq_true, beq_iff_eq] at h
    obtain ⟨rfl, rfl | rfl⟩ := h
    · exact ⟨rfl, rfl⟩
    · exact ⟨rfl, rfl⟩
  · rcases hc.2.2 (by simpa using h) with e | ⟨a, e⟩ <;> rw [e] <;> exact ⟨rfl, rfl⟩
  · rcases hc.2.2 (by simpa using h) with e | ⟨a, e⟩ <;> rw [e] <;> exact ⟨rfl, rfl⟩
  · cases h
def ce_fld (own : Nat) (ini : Bool) (pc : Nat) (i : Instr) (len : Nat) (lo : List (Nat × ceV)) (st : List ceV) (hp : ceHp) : Option ceS := match i with
  | .getfield idx => match st with
    | (2, o) :: r => match ce_get hp o.toNat, nh_fk own idx with
      | some k, some q => match nhCl[q.2.1]? with
        | some z => if k.1 = 0 ∧ k.2.1 = q.2.1 ∧ k.2.2.length = z.2.2 ∧ len = 3 then some (pc + 3, lo, k.2.2.getD q.2.2.1 (3, 0) :: r, hp) else none
        | none => none
      | _, _ => none
    | _ => none
  | .putfield idx => match st with
    | v :: (2, o) :: r => match ce_get hp o.toNat, nh_fk own idx with
      | some k, some q => match nhCl[q.2.1]? with
        | some z => if k.1 = 0 ∧ k.2.1 = q.2.1 ∧ k.2.2.length = z.2.2 ∧ len = 3 ∧ ce_fit (nhFt q.2.1 q.2.2.1) v = true ∧ ((z.2.1 q.2.2.1).2.2.2 = true → ini = true ∧ nhOw[own]? = some (z.2.1 q.2.2.1).1) then some (pc + 3, lo, r, ce_set hp o.toNat (0, k.2.1, k.2.2.set q.2.2.1 v)) else none
        | none => none
      | _, _ => none
    | _ => none
  | _ => none
section CE3
variable {p : Program} {l : Launch} {e : Env} {R : Room} {s : State} {m : MethodId} {args : Array Value} {below : List Frame} {meth : Method} {c : Code} {Q : State → Prop} {cc : ByteArray} {pc own : Nat} {D : nhD} {ρ : Nat → Int32} {B : Nat} {H0 : Heap} {nL cn cz : Nat} {lo : List (Nat × ceV)} {st : List ceV} {hp : ceHp}
variable {H : Heap} {locs : List Loc} {ls : Array Slot} {rest : List Value} {cells slots : Nat}
theorem nh_putFW (hx : p.tables.exec = Jvm.exec) (hb : c.code = cc) (hts : ∀ w ∈ nhTb, w.before args s = true) (hK : nhK D s) {C : String} (hown : s.vm.findClass C = some m.cls) {ci k idx a : Nat} {r : vw_C} (hc : nhCl[ci]? = some r) (hk : k < r.2.2) (hl : Cond.fieldLink C idx (r.2.1 k).1 (r.2.1 k).2.1 (r.2.1 k).2.2.1 ∈ nhTb) (hfin : (r.2.1 k).2.2.2 = true) (hin2 : meth.name = "<init>") (hdecl : (r.2.1 k).1 = C) {V : Nat → Value} (hO : t_OB a (D.1 ci) r.2.2 (D.2.1 ci) H V) {v : Value} (hn : narrow (nhFt ci k) v = v) (hfit : fits (nhFt ci k) v = true) (hd : decode cc pc = .ok (.putfield idx, 3))
    (kk : ∀ (H' : Heap), t_OB a (D.1 ci) r.2.2 (D.2.1 ci) H' (updV V k v) → H'.size = H.size → (∀ q : Nat, q ≠ a → H'[q]? = H[q]?) → W p l e R s m args below meth c H' (locs ++ [⟨a, D.2.1 ci k⟩]) cells slots Q (F0 m (pc + 3) ls rest)) : W p l e R s m args below meth c H locs cells slots Q (F0 m pc ls (v :: .ref a :: rest)) := by
  obtain ⟨C', T, N⟩ := r
  obtain ⟨hin, hty, hnm⟩ := nhCl_in hc
  have hKv : va_K (D.1, D.2.1) nhCl [] s := ⟨hK.1, fun k q h => by simp at h⟩
  have hap := va_apart (own := C) hts hin (nhFt ci) hty hnm hKv hc
  obtain ⟨cell, q1, q2, q3, q4⟩ := hO
  obtain ⟨hS, hfc, kC, hkC, hkind⟩ := hK.1 ci _ hc
  obtain ⟨cf, kf, fi, f, hi, hsl⟩ := hS k hk
  have hlay := hts _ (hin _ (u_in_lay hk))
  unfold u_lay at hlay
  rw [if_pos hfin] at hlay
  have hst := (u_facts hfc hkC (u_lays hts hin hk) hi).1
  have hcf : m.cls = cf := by
    obtain ⟨_, _, c', _, _, _, -, -, hf', -, -, -, hown2, -⟩ := Cond.laysFinal_spec hlay
    have e1 : c' = cf := by have := hi.symm.trans hf'; simp at this; exact this.1.symm
    have hdecl' : (T k).1 = C := hdecl
    rw [hdecl'] at hown2
    rw [← e1]; exact Option.some.inj (hown.symm.trans hown2)
  have h6 := u_fits hfc hkC hkind (Or.inr hlay) hi (hty k hk) hn hfit
  refine W.putFinK hx hb hown (hts _ hl) hi hst hcf hin2 (by rw [q2]; exact h6) q1 q3 (by rw [hsl]; exact k2_hasslot (q4 k hk)) rfl rfl hd fun H' e1 e2 e3 => ?_
  rw [hsl] at e1 ⊢
  exact kk H' ⟨_, e1, q2, q3, t_set q4 hap hk v⟩ e2 e3
theorem ce_setV {ρ : Nat → Int32} {B : Nat} {fs : List ceV} {k : Nat} {v : ceV} (hk : k < fs.length) (j : Nat) : updV (fun k => ce_c ρ B (fs.getD k (3, 0))) k (ce_c ρ B v) j = ce_c ρ B ((fs.set k v).getD j (3, 0)) := by
  by_cases h : j = k
  · subst h
    simp [updV, hk]
  · simp [updV, h, List.getElem?_set, Ne.symm h]
theorem ce_locs {locs : List Loc} (h : ∀ q ∈ locs, B ≤ q.base) {a i : Nat} (ha : B ≤ a) : ∀ q ∈ locs ++ [⟨a, i⟩], B ≤ q.base := fun q hq => by
  rcases List.mem_append.mp hq with h1 | h1
  · exact h q h1
  · rw [List.mem_singleton] at h1
    subst h1
    exact ha
theorem ce_fld_ok (hF : nhFx p c s m args cc nL own D) {ini : Bool} (hini : ini = true → meth.name = "<init>") {i : Instr} {len : Nat} (hd : decode cc pc = .ok (i, len)) {S' : ceS} (h : ce_fld own ini pc i len lo st hp = some S')
    (k : ceGo p l e R s m args below meth c Q D ρ B H0 nL cn cz S') : ceGo p l e R s m args below meth c Q D ρ B H0 nL cn cz (pc, lo, st, hp) := by
  intro H locs ls hR
  obtain ⟨hx, hb, hml, ⟨C, hC, hown⟩, hts, hK⟩ := hF
  unfold ce_fld at h
  split at h
  · split at h
    · rename_i o r
      split at h
      · rename_i kk q hkk hq
        split at h
        · rename_i z hz
          split at h
          · rename_i hc
            obtain ⟨c1, c2, c3, rfl⟩ := hc
            cases h
            obtain ⟨f1, C', r', f2, f3, f4, f5⟩ := nh_fk_ok hq
            rw [hC] at f2; cases f2
            rw [hz] at f3; cases f3
            have hcell := hR.2.2.2.1.2.2 _ _ hkk
            obtain ⟨t, ci, fs⟩ := kk
            dsimp only at c1 c2 c3
            subst c1 c2
            unfold ceCell at hcell
            dsimp only at hcell
            rw [c3] at hcell
            exact nh_getW hx hb hts hK hown hz f4 f5 hcell hd (k H locs ls hR)
          · cases h
        · cases h
      · cases h
    · cases h
  · split at h
    · rename_i v o r
      split at h
      · rename_i kk q hkk hq
        split at h
        · rename_i z hz
          split at h
          · rename_i hc
            obtain ⟨c1, c2, c3, rfl, c5, c6⟩ := hc
            cases h
            obtain ⟨f1, C', r', f2, f3, f4, f5⟩ := nh_fk_ok hq
            rw [hC] at f2; cases f2
            rw [hz] at f3; cases f3
            have hcell := hR.2.2.2.1.2.2 _ _ hkk
            obtain ⟨t, ci, fs⟩ := kk
            dsimp only at c1 c2 c3
            subst c1 c2
            unfold ceCell at hcell
            dsimp only at hcell
            rw [c3] at hcell
            obtain ⟨n1, n2⟩ := ce_fit_ok ρ B c5
            have fin : ∀ (H' : Heap), t_OB (B + o.toNat) (D.1 q.2.1) z.2.2 (D.2.1 q.2.1) H' (updV (fun k => ce_c ρ B (fs.getD k (3, 0))) q.2.2.1 (ce_c ρ B v)) → H'.size = H.size → (∀ w : Nat, w ≠ B + o.toNat → H'[w]? = H[w]?) → W p l e R s m args below meth c H' (locs ++ [⟨B + o.toNat, D.2.1 q.2.1 q.2.2.1⟩]) cn cz Q (F0 m (pc + 3) ls (r.map (ce_c ρ B))) := by
              intro H' e2 e3 e4
              refine k H' _ ls ⟨hR.1, hR.2.1, hR.2.2.1, hR.2.2.2.1.put hkk ?_ e3 e4, ce_locs hR.2.2.2.2 (by omega)⟩
              unfold ceCell
              dsimp only
              rw [List.length_set, c3]
              exact e2.to (fun j hj => ce_setV (by omega) j)
            cases hfin : (z.2.1 q.2.2.1).2.2.2 with
            | false => exact nh_putW hx hb hts hK hown hz f4 f5 hfin hcell n1 n2 hd (fun H' cell e0 e1 eap e2 e3 e4 => fin H' e2 e3 e4)
            | true =>
              obtain ⟨d1, d2⟩ := c6 hfin
              rw [hC] at d2
              exact nh_putFW hx hb hts hK hown hz f4 f5 hfin (hini d1) (Option.some.inj d2).symm hcell n1 n2 hd fin
          · cases h
        · cases h
      · cases h
    · cases h
  · cases h
/-- what is kept of a value in an array -/
def ce_nar (i : Instr) (ti : Nat) (v : ceV) : Option ceV := match i, ti, v with
  | .iastore, 0, (0, x) => some (0, (Int32.ofInt x).toInt)
  | .iastore, 0, (t, x) => if 4 ≤ t then some (t, x) else none
  | .bastore, 1, (0, x) => some (0, ((Int32.ofInt x).toInt8.toInt32).toInt)
  | .bastore, 1, (t, x) => if 22 ≤ t ∧ t < 34 then some (t, x) else none
  | .bastore, 3, (0, x) => some (0, (Int32.ofInt x &&& 1).toInt)
  | .lastore, 2, (1, x) => some (1, (Int64.ofInt x).toInt)
  | _, _, _ => none
def ce_arr (pc : Nat) (i : Instr) (len : Nat) (lo : List (Nat × ceV)) (st : List ceV) (hp : ceHp) : Option ceS := if len = 1 then (match i with
  | .arraylength => match st with
    | (2, o) :: r => match ce_get hp o.toNat with
      | some k => if k.1 = 1 ∧ k.2.1 < 5 ∧ k.2.2.length < 2147483648 then some (pc + 1, lo, (0, (k.2.2.length : Int)) :: r, hp) else none
      | none => none
    | _ => none
  | .aastore => match st with
    | (2, v) :: (0, x) :: (2, o) :: r => match ce_get hp o.toNat, ce_get hp v.toNat with
      | some k, some kv => if k.1 = 1 ∧ k.2.1 = 4 ∧ kv.1 = 0 ∧ kv.2.1 = 4 ∧ 0 ≤ (Int32.ofInt x).toInt ∧ (Int32.ofInt x).toInt < k.2.2.length then some (pc + 1, lo, r, ce_set hp o.toNat (1, 4, k.2.2.set (Int32.ofInt x).toInt.toNat (2, v))) else none
      | _, _ => none
    | _ => none
  | i => match st with
    | (0, x) :: (2, o) :: r => match ce_get hp o.toNat with
      | some k => if k.1 = 1 ∧ nh_aI i k.2.1 = true ∧ 0 ≤ (Int32.ofInt x).toInt ∧ (Int32.ofInt x).toInt < k.2.2.length then some (pc + 1, lo, k.2.2.getD (Int32.ofInt x).toInt.toNat (3, 0) :: r, hp) else none
      | none => none
    | v :: (0, x) :: (2, o) :: r => match ce_get hp o.toNat with
      | some k => match ce_nar i k.2.1 v with
        | some w => if k.1 = 1 ∧ 0 ≤ (Int32.ofInt x).toInt ∧ (Int32.ofInt x).toInt < k.2.2.length then some (pc + 1, lo, r, ce_set hp o.toNat (1, k.2.1, k.2.2.set (Int32.ofInt x).toInt.toNat w)) else none
        | none => none
      | none => none
    | _ => none) else none
theorem ce_ixN {j : Int32} {n : Nat} (h1 : 0 ≤ j.toInt) (h2 : j.toInt < n) : j.toNatClampNeg = j.toInt.toNat := by
  have := (nh_ix h1 h2).2
  omega
end CE3
end
section
section CE4
variable {p : Program} {l : Launch} {e : Env} {R : Room} {s : State} {m : MethodId} {args : Array Value} {below : List Frame} {meth : Method} {c : Code} {Q : State → Prop} {cc : ByteArray} {pc own : Nat} {D : nhD} {ρ : Nat → Int32} {B : Nat} {H0 : Heap} {nL cn cz : Nat} {lo : List (Nat × ceV)} {st : List ceV} {hp : ceHp}
variable {H : Heap} {locs : List Loc} {ls : Array Slot} {rest : List Value} {cells slots : Nat}
theorem ce_astW (hx : p.tables.exec = Jvm.exec) (hb : c.code = cc) (hK : nhK D s) {i : Instr} {ti n a : Nat} {v w : ceV} (hi : ce_nar i ti v = some w) {z : Nat → Value} (ha : H[a]? = some (arrV (D.2.2 ti) n z)) {j : Int32} (h1 : 0 ≤ j.toInt) (h2 : j.toInt < n) (hd : decode cc pc = .ok (i, 1))
    (k : ∀ (H' : Heap), H'[a]? = some (arrV (D.2.2 ti) n (updV z j.toNatClampNeg (ce_c ρ B w))) → H'.size = H.size → (∀ q : Nat, q ≠ a → H'[q]? = H[q]?) → W p l e R s m args below meth c H' (locs ++ [⟨a, j.toNatClampNeg⟩]) cells slots Q (F0 m (pc + 1) ls rest)) : W p l e R s m args below meth c H locs cells slots Q (F0 m pc ls (ce_c ρ B v :: .int j :: .ref a :: rest)) := by
  have hin := (nh_ix h1 h2).1
  have hs : ¬ (j < 0 ∨ (arrV (D.2.2 ti) n z).slots.size ≤ j.toNatClampNeg) := by rw [arrV_size]; exact hin
  unfold ce_nar at hi
  split at hi
  · cases hi
    exact W.iast hx hb ha ((hK.2 0 .int rfl).1 n z) (fun q => by cases q) hs rfl rfl hd (fun H' e1 e2 e3 => k H' (by rw [e1, arrV_store, ce_i]) e2 e3)
  · rename_i t x _
    split at hi
    · rename_i q
      cases hi
      rw [ce_cU ρ B q] at k ⊢
      exact W.iast hx hb ha ((hK.2 0 .int rfl).1 n z) (fun q => by cases q) hs rfl rfl hd (fun H' e1 e2 e3 => k H' (by rw [e1, arrV_store]) e2 e3)
    · cases hi
  · cases hi
    exact W.bast hx hb ha ((hK.2 1 .byte rfl).1 n z) (fun q => by cases q) hs rfl rfl hd (fun H' e1 e2 e3 => k H' (by rw [e1, arrV_store, ce_i]; rfl) e2 e3)
  · rename_i t x _
    split at hi
    · rename_i q
      cases hi
      have hu : (ce_un ρ t x).toInt8.toInt32 = ce_un ρ t x := by
        unfold ce_un
        rw [if_neg (by omega), if_neg (by omega), if_neg (by omega)]
        split
        · rw [Int8.toInt8_toInt32]
        · rw [if_pos q.2, Int8.toInt8_toInt32]
      rw [ce_cU ρ B (by omega)]
      rw [ce_cU ρ B (by omega)] at k
      have hn : narrow FieldType.byte (Value.int (ce_un ρ t x)) = Value.int (ce_un ρ t x) := by
        show Value.int (ce_un ρ t x).toInt8.toInt32 = _
        rw [hu]
      exact W.bast hx hb ha ((hK.2 1 .byte rfl).1 n z) (fun q => by cases q) hs rfl rfl hd (fun H' e1 e2 e3 => k H' (by rw [e1, arrV_store, hn]) e2 e3)
    · cases hi
  · cases hi
    exact W.zast hx hb ha ((hK.2 3 .boolean rfl).1 n z) (fun q => by cases q) hs rfl rfl hd (fun H' e1 e2 e3 => k H' (by rw [e1, arrV_store, ce_i]; rfl) e2 e3)
  · cases hi
    exact W.last hx hb ha ((hK.2 2 .long rfl).1 n z) (fun q => by cases q) hs rfl rfl hd (fun H' e1 e2 e3 => k H' (by rw [e1, arrV_store, ce_l]) e2 e3)
  · cases hi
theorem ce_updA {els : List ceV} {k : Nat} {v : ceV} (hk : k < els.length) : updV (fun j => ce_c ρ B (els.getD j (3, 0))) k (ce_c ρ B v) = fun j => ce_c ρ B ((els.set k v).getD j (3, 0)) := by
  funext j
  exact ce_setV hk j
theorem ce_cellA {ti a : Nat} {els : List ceV} (h : ceCell D ρ B (1, ti, els) a H) : H[a]? = some (arrV (D.2.2 ti) els.length (fun j => ce_c ρ B (els.getD j (3, 0)))) := h
theorem ce_arr_ok (hF : nhFx p c s m args cc nL own D) {i : Instr} {len : Nat} (hd : decode cc pc = .ok (i, len)) {S' : ceS} (h : ce_arr pc i len lo st hp = some S')
    (k : ceGo p l e R s m args below meth c Q D ρ B H0 nL cn cz S') : ceGo p l e R s m args below meth c Q D ρ B H0 nL cn cz (pc, lo, st, hp) := by
  intro H locs ls hR
  obtain ⟨hx, hb, hml, ⟨C, hC, hown⟩, hts, hK⟩ := hF
  unfold ce_arr at h
  split at h
  · rename_i hl
    subst hl
    split at h
    · split at h
      · rename_i o r
        split at h
        · rename_i kk hkk
          split at h
          · rename_i hc
            cases h
            obtain ⟨c1, c2, c3⟩ := hc
            have hcell := hR.2.2.2.1.2.2 _ _ hkk
            obtain ⟨t, ti, els⟩ := kk
            dsimp only at c1 c2 c3
            subst c1
            have hA := ce_cellA hcell
            have hty : ∃ ty, nhTy[ti]? = some ty := by
              match ti, c2 with
              | 0, _ => exact ⟨_, rfl⟩
              | 1, _ => exact ⟨_, rfl⟩
              | 2, _ => exact ⟨_, rfl⟩
              | 3, _ => exact ⟨_, rfl⟩
              | 4, _ => exact ⟨_, rfl⟩
            obtain ⟨ty, hty⟩ := hty
            have hn : ce_c ρ B (0, (els.length : Int)) = .int (nI els.length) := by
              rw [← nI_toInt (n := els.length) (by omega)]
              exact ce_i ρ B _
            have k1 := k H locs ls hR
            dsimp only at k1
            rw [List.map_cons, hn] at k1
            exact W.alen (n := nI els.length) hx hb hA ((hK.2 ti ty hty).1 _ _) (by rw [arrV_size]; rfl) rfl rfl hd k1
          · cases h
        · cases h
      · cases h
    · split at h
      · rename_i v x o r
        split at h
        · rename_i kk kv hkk hkv
          split at h
          · rename_i hc
            cases h
            obtain ⟨c1, c2, c3, c4, c5, c6⟩ := hc
            have hcell := hR.2.2.2.1.2.2 _ _ hkk
            have hcellv := hR.2.2.2.1.2.2 _ _ hkv
            obtain ⟨t, ti, els⟩ := kk
            obtain ⟨tv, civ, fs⟩ := kv
            dsimp only at c1 c2 c3 c4 c6
            subst c1 c2 c3 c4
            have hA := ce_cellA hcell
            obtain ⟨cellV, g1, g2, g3, -⟩ : t_OB (B + v.toNat) (D.1 4) fs.length (D.2.1 4) H (fun k => ce_c ρ B (fs.getD k (3, 0))) := hcellv
            have hcls := (hK.1 4 _ rfl).2
            obtain ⟨kA, comp, k1, k2, k3, -⟩ := (hK.2 4 _ rfl).2
            have hcomp : comp = D.1 4 := Option.some.inj (k3.symm.trans hcls.1)
            subst hcomp
            obtain ⟨kC, hkC, hkC2⟩ := hcls.2
            have hix := nh_ix c5 c6
            have hin := ce_ixN c5 c6
            refine W.aast hx hb hA (fun q h => by cases h) (fun h => by cases h) k1 k2 rfl hkC ⟨fun q => hix.1 (Or.inl q), by rw [arrV_size]; omega⟩ g1 (fun q h => by rw [g3] at h; cases h) (by rw [g2]; exact hkC) (by rw [g2]; exact va_assign hcls) rfl rfl hd fun H1 e z oq => ?_
            refine k H1 _ ls ⟨hR.1, hR.2.1, hR.2.2.1, hR.2.2.2.1.put hkk ?_ z oq, ce_locs hR.2.2.2.2 (by omega)⟩
            show H1[B + o.toNat]? = some (arrV _ _ _)
            rw [e, arrV_store, List.length_set, hin, ← ce_updA (els := els) (k := (Int32.ofInt x).toInt.toNat) (v := (2, v)) (by omega)]
            rfl
          · cases h
        · cases h
      · cases h
    · split at h
      · rename_i x o r
        split at h
        · rename_i kk hkk
          split at h
          · rename_i hc
            cases h
            obtain ⟨c1, c2, c3, c4⟩ := hc
            have hcell := hR.2.2.2.1.2.2 _ _ hkk
            obtain ⟨t, ti, els⟩ := kk
            dsimp only at c1 c2 c4
            subst c1
            have hA := ce_cellA hcell
            have hin := ce_ixN c3 c4
            have k1 := k H locs ls hR
            refine nh_aldW hx hb hK c2 hA c3 c4 hd ?_
            rw [hin]
            exact k1
          · cases h
        · cases h
      · rename_i v x o r
        split at h
        · rename_i kk hkk
          split at h
          · rename_i w hw
            split at h
            · rename_i hc
              cases h
              obtain ⟨c1, c3, c4⟩ := hc
              have hcell := hR.2.2.2.1.2.2 _ _ hkk
              obtain ⟨t, ti, els⟩ := kk
              dsimp only at c1 c4 hw
              subst c1
              have hA := ce_cellA hcell
              have hin := ce_ixN c3 c4
              refine ce_astW (B := B) hx hb hK hw hA c3 c4 hd (fun H' e1 e2 e3 => ?_)
              refine k H' _ ls ⟨hR.1, hR.2.1, hR.2.2.1, hR.2.2.2.1.put hkk ?_ e2 e3, ce_locs hR.2.2.2.2 (by omega)⟩
              show H'[B + o.toNat]? = some (arrV _ _ _)
              rw [e1, List.length_set, hin, ← ce_updA (els := els) (k := (Int32.ofInt x).toInt.toNat) (v := w) (by omega)]
            · cases h
          · cases h
        · cases h
      · cases h
  · cases h
/-- constants -/
def ce_ldc (own pc : Nat) (i : Instr) (len : Nat) (lo : List (Nat × ceV)) (st : List ceV) (hp : ceHp) : Option ceS := match i with
  | .ldc idx => match (nhIc.getD own []).find? (fun q => q.1 == idx) with
    | some q => if len = 2 then some (pc + 2, lo, (0, q.2.1.toInt) :: st, hp) else none
    | none => none
  | .ldc_w idx => match (nhIc.getD own []).find? (fun q => q.1 == idx) with
    | some q => if len = 3 then some (pc + 3, lo, (0, q.2.1.toInt) :: st, hp) else none
    | none => none
  | .ldc2_w idx => match (nhLc.getD own []).find? (fun q => q.1 == idx) with
    | some q => if len = 3 then some (pc + 3, lo, (1, q.2.1.toInt) :: st, hp) else none
    | none => none
  | _ => none
theorem ce_ldc_ok (hF : nhFx p c s m args cc nL own D) {i : Instr} {len : Nat} (hd : decode cc pc = .ok (i, len)) {S' : ceS} (h : ce_ldc own pc i len lo st hp = some S')
    (k : ceGo p l e R s m args below meth c Q D ρ B H0 nL cn cz S') : ceGo p l e R s m args below meth c Q D ρ B H0 nL cn cz (pc, lo, st, hp) := by
  intro H locs ls hR
  obtain ⟨hx, hb, hml, ⟨C, hC, hown⟩, hts, hK⟩ := hF
  unfold ce_ldc at h
  split at h
  · rename_i idx
    split at h
    · rename_i q hq
      split at h
      · rename_i hl
        cases h; subst hl
        have h1 : q.1 = idx := by simpa using List.find?_some hq
        have h2 := nh_rows nhIc_all (List.mem_of_find?_eq_some hq)
        unfold nh_icB at h2
        rw [hC] at h2
        have h3 := nh_wd_ok h2
        rw [h1] at h3
        have k1 := k H locs ls hR
        dsimp only at k1
        rw [List.map_cons, ce_i] at k1
        exact lv_ldc hx hb hown (hts _ h3) hd k1
      · cases h
    · cases h
  · rename_i idx
    split at h
    · rename_i q hq
      split at h
      · rename_i hl
        cases h; subst hl
        have h1 : q.1 = idx := by simpa using List.find?_some hq
        have h2 := nh_rows nhIc_all (List.mem_of_find?_eq_some hq)
        unfold nh_icB at h2
        rw [hC] at h2
        have h3 := nh_wd_ok h2
        rw [h1] at h3
        have k1 := k H locs ls hR
        dsimp only at k1
        rw [List.map_cons, ce_i] at k1
        exact lv_ldcw hx hb hown (hts _ h3) hd k1
      · cases h
    · cases h
  · rename_i idx
    split at h
    · rename_i q hq
      split at h
      · rename_i hl
        cases h; subst hl
        have h1 : q.1 = idx := by simpa using List.find?_some hq
        have h2 := nh_rows nhLc_all (List.mem_of_find?_eq_some hq)
        unfold nh_lcB at h2
        rw [hC] at h2
        have h3 := nh_wd_ok h2
        rw [h1] at h3
        have k1 := k H locs ls hR
        dsimp only at k1
        rw [List.map_cons, ce_l] at k1
        exact lv_ldc2 hx hb hown (hts _ h3) hd k1
      · cases h
    · cases h
  · cases h
/-- what is made: the new cell, its slots -/
def ce_atI (t : ArrayType) : Option (Nat × ceV) := match t with
  | .int => some (0, (0, 0))
  | .byte => some (1, (0, 0))
  | .long => some (2, (1, 0))
  | .boolean => some (3, (0, 0))
  | _ => none
def ce_def (ty : FieldType) : ceV := match ty with
  | .long => (1, 0)
  | .object _ => (3, 0)
  | .array _ => (3, 0)
  | _ => (0, 0)
def ce_new (own pc : Nat) (i : Instr) (len : Nat) (lo : List (Nat × ceV)) (st : List ceV) (hp : ceHp) : Option (ceS × Nat) := match i with
  | .new idx => match (ceNl.getD own []).find? (fun q => q.1 == idx) with
    | some q => match nhCl[q.2.1]? with
      | some r => if ce_ok hp = true ∧ len = 3 ∧ (List.range r.2.2).all (fun k => match nhFt q.2.1 k with
          | .float => false
          | .double => false
          | _ => true) = true then some ((pc + 3, lo, (2, (ce_len hp : Int)) :: st, ce_push hp (0, q.2.1, (List.range r.2.2).map (fun k => ce_def (nhFt q.2.1 k)))), r.2.2) else none
      | none => none
    | none => none
  | .newarray t => match st, ce_atI t with
    | (0, x) :: r, some q => if ce_ok hp = true ∧ len = 2 ∧ 0 ≤ (Int32.ofInt x).toInt ∧ (Int32.ofInt x).toInt ≤ 60000000 then some ((pc + 2, lo, (2, (ce_len hp : Int)) :: r, ce_push hp (1, q.1, List.replicate (Int32.ofInt x).toInt.toNat q.2)), (Int32.ofInt x).toInt.toNat) else none
    | _, _ => none
  | .anewarray idx => match st, (ceNl.getD own []).find? (fun q => q.1 == idx) with
    | (0, x) :: r, some q => if ce_ok hp = true ∧ len = 3 ∧ q.2.1 = 4 ∧ 0 ≤ (Int32.ofInt x).toInt ∧ (Int32.ofInt x).toInt ≤ 60000000 then some ((pc + 3, lo, (2, (ce_len hp : Int)) :: r, ce_push hp (1, 4, List.replicate (Int32.ofInt x).toInt.toNat (3, 0))), (Int32.ofInt x).toInt.toNat) else none
    | _, _ => none
  | _ => none
theorem ce_defV (ρ : Nat → Int32) (B : Nat) (ty : FieldType) (h : (match ty with
  | .float => false
  | .double => false
  | _ => true) = true) : defaultValue ty = ce_c ρ B (ce_def ty) := by
  cases ty <;> first | rfl | cases h
theorem ce_nlk {idx : Nat} {q : Nat × Nat × Nat} {C : String} (hC : nhOw[own]? = some C) (h : (ceNl.getD own []).find? (fun q => q.1 == idx) = some q) : ∃ r, nhCl[q.2.1]? = some r ∧ Cond.classLink C idx r.1 ∈ nhTb ∧ Cond.instantiable r.1 r.2.2 ∈ nhTb ∧ Cond.initialized r.1 ∈ nhTb := by
  have h1 : q.1 = idx := by simpa using List.find?_some h
  have h2 := nh_rows ceNl_all (List.mem_of_find?_eq_some h)
  unfold ce_nlB at h2
  rw [hC] at h2
  split at h2
  · rename_i C' r z e1 e2 e3
    cases e1
    simp only [Bool.and_eq_true] at h2
    rw [← h1]
    exact ⟨r, e2, nh_wd_ok h2.1.1, nh_wd_ok h2.1.2, nh_wd_ok h2.2⟩
  · cases h2
end CE4
end
section
section CE5
variable {p : Program} {l : Launch} {e : Env} {R : Room} {s : State} {m : MethodId} {args : Array Value} {below : List Frame} {meth : Method} {c : Code} {Q : State → Prop} {cc : ByteArray} {pc own : Nat} {D : nhD} {ρ : Nat → Int32} {B : Nat} {H0 : Heap} {nL cn cz : Nat} {lo : List (Nat × ceV)} {st : List ceV} {hp : ceHp}
theorem ce_newA (hF : nhFx p c s m args cc nL own D) (hok : ce_ok hp = true) {t : ArrayType} {ti : Nat} {d : ceV} (hty : nhTy[ti]? = some (newarray.typeOf t)) (hw : Cond.arrayClass (newarray.typeOf t) ∈ nhTb) (hnr : ∀ C, newarray.typeOf t ≠ .object C) (hdv : defaultValue (newarray.typeOf t) = ce_c ρ B d) (hcb : componentBytes (newarray.typeOf t) ≤ 8) {x : Int} {r : List ceV} (h1 : 0 ≤ (Int32.ofInt x).toInt) (h2 : (Int32.ofInt x).toInt ≤ 60000000) (hd : decode cc pc = .ok (.newarray t, 2)) (hcells : cn + 1 ≤ R.cells) (hslots : cz + (Int32.ofInt x).toInt.toNat ≤ R.slots)
    (k : ceGo p l e R s m args below meth c Q D ρ B H0 nL (cn + 1) (cz + (Int32.ofInt x).toInt.toNat) (pc + 2, lo, (2, (ce_len hp : Int)) :: r, ce_push hp (1, ti, List.replicate (Int32.ofInt x).toInt.toNat d))) : ceGo p l e R s m args below meth c Q D ρ B H0 nL cn cz (pc, lo, (0, x) :: r, hp) := by
  intro H locs ls hR
  obtain ⟨hx, hb, hml, ⟨C, hC, hown⟩, hts, hK⟩ := hF
  have hneg : ¬ (Int32.ofInt x) < 0 := fun q => by have := Int32.lt_iff_toInt_lt.mp q; rw [show (0 : Int32).toInt = 0 from rfl] at this; omega
  obtain ⟨j, hj, ej, ejj⟩ := nh_nI h1
  have hcl : (Int32.ofInt x).toNatClampNeg = (Int32.ofInt x).toInt.toNat := by
    rw [ejj, ej, nI_clamp hj]; omega
  have hbytes : (Int32.ofInt x).toInt.toNat * componentBytes (newarray.typeOf t) ≤ 536870912 := by
    have : (Int32.ofInt x).toInt.toNat * componentBytes (newarray.typeOf t) ≤ 60000000 * 8 := Nat.mul_le_mul (by omega) hcb
    omega
  have hcn := hcells
  refine va_newaK hx hb (hts _ hw) rfl hd rfl hneg hcl hbytes hcn hslots (h := B + ce_len hp) hR.2.2.2.1.1 fun H' cA e1 e2 e3 hA hN => ?_
  have hra := (hK.2 ti _ hty).2
  have ecA : cA = D.2.2 ti := by
    unfold va_RA at hra
    split at hra
    · rename_i C' e4
      exact absurd e4 (hnr C')
    · exact Option.some.inj (hN.symm.trans hra)
  subst ecA
  have k1 := k H' locs ls ⟨hR.1, hR.2.1, hR.2.2.1, hR.2.2.2.1.push hok ?_ (by rw [e2, hR.2.2.2.1.1]) (fun q hq => e3 q (by rw [← hR.2.2.2.1.1]; exact hq)), hR.2.2.2.2⟩
  · exact k1
  · show H'[B + ce_len hp]? = some (arrV _ _ _)
    rw [e1, hdv, List.length_replicate]
    congr 1
    unfold arrV
    congr 1
    congr 1
    funext i
    show ce_c ρ B d = ce_c ρ B ((List.replicate (Int32.ofInt x).toInt.toNat d).getD i.val (3, 0))
    rw [List.getD_eq_getElem?_getD, List.getElem?_replicate, if_pos i.isLt]
    rfl
theorem ce_new_ok (hF : nhFx p c s m args cc nL own D) (hAO : va_AO "NightHouses$Night" s) {i : Instr} {len : Nat} (hd : decode cc pc = .ok (i, len)) {S' : ceS} {n : Nat} (h : ce_new own pc i len lo st hp = some (S', n)) (hcells : cn + 1 ≤ R.cells) (hslots : cz + n ≤ R.slots)
    (k : ceGo p l e R s m args below meth c Q D ρ B H0 nL (cn + 1) (cz + n) S') : ceGo p l e R s m args below meth c Q D ρ B H0 nL cn cz (pc, lo, st, hp) := by
  have hF' := hF
  obtain ⟨hx, hb, hml, ⟨C, hC, hown⟩, hts, hK⟩ := hF
  unfold ce_new at h
  split at h
  · split at h
    · rename_i q hq
      obtain ⟨r0, g1, g2, g3, g4⟩ := ce_nlk hC hq
      split at h
      · rename_i r hr
        rw [g1] at hr
        cases hr
        split at h
        · rename_i hl
          obtain ⟨hok, rfl, hl⟩ := hl
          cases h
          intro H locs ls hR
          refine W.newcK hx hb hown (hts _ g2) (hts _ g3) (hts _ g4) rfl hd hcells hslots (hK.1 _ _ g1).2.1 (h := B + ce_len hp) hR.2.2.2.1.1 fun H' kC hkC e1 e2 e3 => ?_
          obtain ⟨hin, hty, hnm⟩ := nhCl_in g1
          have hO := u_born (nhFt q.2.1) hts hin (hK.1 _ _ g1) hkC e1 hty
          refine k H' locs ls ⟨hR.1, hR.2.1, hR.2.2.1, hR.2.2.2.1.push hok ?_ (by rw [e2, hR.2.2.2.1.1]) (fun w hw => e3 w (by rw [← hR.2.2.2.1.1]; exact hw)), hR.2.2.2.2⟩
          unfold ceCell
          dsimp only
          rw [List.length_map, List.length_range]
          refine hO.to (fun j hj => ?_)
          rw [ce_defV ρ B _ (List.all_eq_true.mp hl j (List.mem_range.mpr hj)), List.getD_eq_getElem?_getD, List.getElem?_map, List.getElem?_range hj]
          rfl
        · cases h
      · cases h
    · cases h
  · rename_i t
    split at h
    · rename_i x r q hq
      split at h
      · rename_i hl
        obtain ⟨hok, rfl, h1, h2⟩ := hl
        cases h
        unfold ce_atI at hq
        split at hq
        · cases hq; exact ce_newA (t := .int) hF' hok rfl ceAr_int (fun C e => by cases e) rfl (by decide) h1 h2 hd hcells hslots k
        · cases hq; exact ce_newA (t := .byte) hF' hok rfl ceAr_byte (fun C e => by cases e) rfl (by decide) h1 h2 hd hcells hslots k
        · cases hq; exact ce_newA (t := .long) hF' hok rfl ceAr_long (fun C e => by cases e) rfl (by decide) h1 h2 hd hcells hslots k
        · cases hq; exact ce_newA (t := .boolean) hF' hok rfl ceAr_boolean (fun C e => by cases e) rfl (by decide) h1 h2 hd hcells hslots k
        · cases hq
      · cases h
    · cases h
  · split at h
    · rename_i x r q hq
      obtain ⟨r0, g1, g2, g3, g4⟩ := ce_nlk hC hq
      split at h
      · rename_i hl
        obtain ⟨hok, rfl, h0, h1, h2⟩ := hl
        cases h
        rw [h0] at g1
        cases g1
        intro H locs ls hR
        have hneg : ¬ (Int32.ofInt x) < 0 := fun q => by have := Int32.lt_iff_toInt_lt.mp q; rw [show (0 : Int32).toInt = 0 from rfl] at this; omega
        obtain ⟨j, hj, ej, ejj⟩ := nh_nI h1
        have hcl : (Int32.ofInt x).toNatClampNeg = (Int32.ofInt x).toInt.toNat := by
          rw [ejj, ej, nI_clamp hj]; omega
        refine W.anew hx hb hown (hts _ g2) (va_AO.use hAO) rfl hd rfl hneg (by rw [hcl]; omega) hcells (by rw [hcl]; exact hslots) fun cA kA comp f1 f2 f3 f4 => ?_
        obtain ⟨kA', comp', z1, z2, z3, z4⟩ := (hK.2 4 _ rfl).2
        have ecA : cA = D.2.2 4 := Option.some.inj (f1.symm.trans z4)
        subst ecA
        rw [hcl]
        have hsz := hR.2.2.2.1.1
        have k1 := k (H.push ({ cls := D.2.2 4, slots := Array.replicate (Int32.ofInt x).toInt.toNat .null, vm := .none } : Cell)) locs ls ⟨hR.1, hR.2.1, hR.2.2.1, hR.2.2.2.1.push hok ?_ (by simp) (fun w hw => by rw [Array.getElem?_push, if_neg (by omega)]), hR.2.2.2.2⟩
        · rw [hsz]
          exact k1
        · show (H.push _)[B + ce_len hp]? = some (arrV _ _ _)
          rw [← hsz, Array.getElem?_push_size, arrV_new, List.length_replicate]
          congr 1
          unfold arrV
          congr 1
          congr 1
          funext i
          show Value.null = ce_c ρ B ((List.replicate (Int32.ofInt x).toInt.toNat (3, 0)).getD i.val (3, 0))
          rw [List.getD_eq_getElem?_getD, List.getElem?_replicate, if_pos i.isLt]
          rfl
      · cases h
    · cases h
  · cases h
end CE5
end
section
/-! System.arraycopy, Math.min, max, abs: their words by program -/
def ceSp : List (List (Nat × Nat × Nat)) := [[], [], [], [(75, 3, 969)], [(26, 0, 571)], [(33, 1, 1135), (64, 0, 1142)], [], [(96, 2, 1375)], [], [(13, 1, 658)], [], [(277, 0, 1153), (317, 2, 1230), (339, 1, 1285)], [], [], [], [], [], [], [(92, 2, 753), (38, 1, 756)], [(224, 2, 763), (183, 1, 764)], []]
def ceNm (k : Nat) : MethodName := match k with
  | 0 => arraycopyName
  | 1 => Lib.Math.min.name
  | 2 => Lib.Math.max.name
  | _ => Lib.Math.abs.name
def ce_spB (o : Nat) (q : Nat × Nat × Nat) : Bool := match nhOw[o]? with
  | some C => nh_wd q.2.2 (Cond.methodLink C q.1 (ceNm q.2.1)) && decide (q.2.1 < 4)
  | _ => false
set_option maxRecDepth 100000 in
theorem ceSp_all : (List.range ceSp.length).all (fun o => (ceSp.getD o []).all (ce_spB o)) = true := by decide +kernel
theorem ceSp_n : Cond.native arraycopyName ∈ nhTb := nh_wd_ok (i := 573) (by decide +kernel)
theorem ceSp_i0 : Cond.initialized "java/lang/System" ∈ nhTb := nh_wd_ok (i := 129) (by decide +kernel)
theorem ceSp_i1 : Cond.initialized "java/lang/Math" ∈ nhTb := nh_wd_ok (i := 132) (by decide +kernel)
theorem ceSp_s0 : Cond.static arraycopyName ∈ nhTb := nh_wd_ok (i := 572) (by decide +kernel)
theorem ceSp_s1 : Cond.static Lib.Math.min.name ∈ nhTb := nh_wd_ok (i := 659) (by decide +kernel)
theorem ceSp_s2 : Cond.static Lib.Math.max.name ∈ nhTb := nh_wd_ok (i := 754) (by decide +kernel)
theorem ceSp_s3 : Cond.static Lib.Math.abs.name ∈ nhTb := nh_wd_ok (i := 970) (by decide +kernel)
set_option maxRecDepth 100000 in
theorem ceSp_c1 : Cond.code Lib.Math.min.name Lib.Math.min.code 2 (some .int) ∈ nhTb := nhTb_mem (List.mem_of_getElem? (i := 660) rfl) rfl
set_option maxRecDepth 100000 in
theorem ceSp_c2 : Cond.code Lib.Math.max.name Lib.Math.max.code 2 (some .int) ∈ nhTb := nhTb_mem (List.mem_of_getElem? (i := 755) rfl) rfl
set_option maxRecDepth 100000 in
theorem ceSp_c3 : Cond.code Lib.Math.abs.name Lib.Math.abs.code 1 (some .int) ∈ nhTb := nhTb_mem (List.mem_of_getElem? (i := 971) rfl) rfl
theorem arrV_cong (cI : ClassId) {N : Nat} {f g : Nat → Value} (h : ∀ j, j < N → f j = g j) : arrV cI N f = arrV cI N g := by
  unfold arrV
  congr 1
  congr 1
  funext i
  exact h i.val i.isLt
section NH28
variable {p : Program} {l : Launch} {e : Env} {R : Room} {s : State} {m : MethodId} {args : Array Value} {below : List Frame} {meth : Method} {c : Code} {H : Heap} {locs : List Loc} {cells slots : Nat} {Q : State → Prop} {cc : ByteArray} {pc : Nat} {ls : Array Slot} {rest : List Value} {a a0 : Nat}
/-- System.arraycopy of ints -/
theorem nh_copyW (hexec : p.tables.exec = Jvm.exec) (hb : c.code = cc) (hml : c.maxLocals = ls.size) {own : String} {index : Nat} (hown : s.vm.findClass own = some m.cls) (hlink : (Cond.methodLink own index arraycopyName).before args s = true) (hnat : (Cond.native arraycopyName).before args s = true) (hstat : (Cond.static arraycopyName).before args s = true) (hini : (Cond.initialized "java/lang/System").before args s = true)
    {c0 : ClassId} (hA : ArrOfT s c0 .int) {n0 n1 : Nat} {f g : Nat → Int32} (hc0 : H[a0]? = some (arrV c0 n0 (fun j => .int (f j)))) (hc1 : H[a]? = some (arrV c0 n1 (fun j => .int (g j))))
    {sp dp n : Int32} (h1 : ¬ sp < 0) (h2 : ¬ dp < 0) (h3 : ¬ n < 0) (h4 : sp.toNatClampNeg + n.toNatClampNeg ≤ n0) (h5 : dp.toNatClampNeg + n.toNatClampNeg ≤ n1)
    (hframes : 1 ≤ R.frames) (hlocals : (rest.map fun v => v.category).sum + (nativeFrameWords "java/lang/System" "arraycopy" 5 + 11) ≤ R.locals) (hdg : decode cc pc = .ok (.invokestatic index, 3))
    (kk : ∀ (H1 : Heap) (L : List Loc), H1[a]? = some (arrV c0 n1 (fun j => .int (va_cpy f g sp.toNatClampNeg dp.toNatClampNeg n.toNatClampNeg j))) → H1.size = H.size → (∀ q : Nat, q ≠ a → H1[q]? = H[q]?) → (∀ q ∈ L, q.base = a) → W p l e R s m args below meth c H1 (locs ++ L) cells slots Q (F0 m (pc + 3) ls rest)) : W p l e R s m args below meth c H locs cells slots Q (F0 m pc ls (.int n :: .int dp :: .ref a :: .int sp :: .ref a0 :: rest)) := by
  have nn : ∀ z : Int32, ¬ z < 0 → z.toInt = (z.toNatClampNeg : Int) := by
    intro z hz
    have hz0 : (0 : Int) ≤ z.toInt := by
      have := Int32.not_lt.mp hz
      simpa using Int32.le_iff_toInt_le.mp this
    show z.toInt = ((z.toInt.toNat : Nat) : Int)
    omega
  intro T hT X
  obtain ⟨-, k0, hk0, cm0, hkk0⟩ := hA n0 (fun j => .int (f j))
  obtain ⟨-, k1, hk1, cm1, hkk1⟩ := hA n1 (fun j => .int (g j))
  obtain ⟨vm', X', step⟩ := X.arraycopy hexec hown hlink hnat hstat hini (src := a0) (dst := a) (cs := arrV c0 n0 (fun j => .int (f j))) (cd := arrV c0 n1 (fun j => .int (g j))) (srcPos := sp) (destPos := dp) (n := n) (by rw [hT]; exact hc0) (by rw [hT]; exact hc1)
    (fun _ h => by cases h) (fun _ h => by cases h) (fun h => by cases h) (fun h => by cases h) hk0 hk1 hkk0 hkk1 (by simp [refKind]) h1 h2 h3
    (by rw [nn sp h1, nn n h3, arrV_size]; omega)
    (by rw [nn dp h2, nn n h3, arrV_size]; omega)
    (fun vm₁ _ i hi => by
      have e : (arrV c0 n0 (fun j => Value.int (f j))).slots.getD (sp.toNatClampNeg + i) .null = .int (f (sp.toNatClampNeg + i)) := by
        rw [Array.getD_eq_getD_getElem?, arrV_read _ _ (by omega)]
        rfl
      refine ⟨?_, ?_⟩
      · rw [e]
        rfl
      · rw [e]
        exact trivial)
    (g := F0 m pc ls (.int n :: .int dp :: .ref a :: .int sp :: .ref a0 :: rest)) rfl (by rw [hml]) (rest := rest) rfl (by rw [hb]; exact hdg) hframes (by show 2 * 0 + _ + _ ≤ _; omega)
  have e1 : copied (arrV c0 n0 (fun j => .int (f j))) (arrV c0 n1 (fun j => .int (g j))) sp dp n = arrV c0 n1 (fun j => .int (va_cpy f g sp.toNatClampNeg dp.toNatClampNeg n.toNatClampNeg j)) := va_copied (fun z => .int z) c0 c0 f g h4
  rw [e1] at X' step
  have hl : a < H.size := (Array.getElem?_eq_some_iff.mp hc1).1
  have hheap : ((T.setVm vm').setCell a (arrV c0 n1 (fun j => .int (va_cpy f g sp.toNatClampNeg dp.toNatClampNeg n.toNatClampNeg j)))).heap = H.setIfInBounds a (arrV c0 n1 (fun j => .int (va_cpy f g sp.toNatClampNeg dp.toNatClampNeg n.toNatClampNeg j))) := by rw [← hT]; rfl
  obtain ⟨t, a1, b1⟩ := kk _ _ (by simp [Array.getElem?_setIfInBounds, hl]) (by simp) (fun q hq => by simp [Array.getElem?_setIfInBounds, Ne.symm hq]) (fun q hq => by
      obtain ⟨z, -, hz⟩ := List.mem_map.mp hq
      rw [← hz]) _ hheap X'
  exact ⟨t, step t a1, b1⟩
end NH28
end
section
/-! constructors by program -/
def ceCt : List nhMth := [(⟨"NightHouses", "<init>", "()V"⟩, prog_1_method_1_code, 2, none, false, 0),
  (⟨"NightHouses$Land", "<init>", "()V"⟩, prog_5_method_1_code, 1, none, false, 0),
  (⟨"NightHouses$Formula", "<init>", "()V"⟩, prog_3_method_1_code, 1, none, false, 0),
  (⟨"NightHouses$Reader", "<init>", "()V"⟩, prog_8_method_1_code, 1, none, false, 0),
  (⟨"NightHouses$Tokens", "<init>", "()V"⟩, prog_11_method_1_code, 1, none, false, 0),
  (⟨"NightHouses$Night", "<init>", "()V"⟩, prog_6_method_1_code, 1, none, false, 0),
  (⟨"NightHouses$History", "<init>", "()V"⟩, prog_4_method_1_code, 2, none, false, 0),
  (⟨"NightHouses$Walks", "<init>", "()V"⟩, prog_12_method_1_code, 1, none, false, 0),
  (⟨"NightHouses$Planner", "<init>", "()V"⟩, prog_7_method_1_code, 2, none, false, 0),
  (⟨"NightHouses$Fencer", "<init>", "()V"⟩, prog_2_method_1_code, 1, none, false, 0),
  (⟨"NightHouses$Sightings", "<init>", "()V"⟩, prog_9_method_1_code, 1, none, false, 0),
  (⟨"NightHousesModel", "<init>", "()V"⟩, prog_14_method_1_code, 1, none, false, 0)]
set_option maxRecDepth 100000 in
theorem ceCt_c : ceCt.map (fun y => Cond.code y.1 y.2.1 y.2.2.1 y.2.2.2.1) = [146, 154, 160, 265, 271, 346, 397, 421, 441, 472, 510, 1380].filterMap (fun i => lw_tbl[i]?) := rfl
set_option maxRecDepth 100000 in
theorem ceCt_i : ceCt.map (fun y => Cond.initialized y.1.cls) = [118, 119, 120, 121, 122, 123, 124, 125, 126, 127, 128, 131].filterMap (fun i => lw_tbl[i]?) := rfl
set_option maxRecDepth 100000 in
theorem ceCt_s : ceCt.map (fun y => Cond.instanceMethod y.1) = [145, 153, 159, 264, 270, 345, 396, 420, 440, 471, 509, 1379].filterMap (fun i => lw_tbl[i]?) := rfl
set_option maxRecDepth 100000 in
theorem ceCt_d : ceCt.all (fun y => decide (y.1.name = "<init>" ∧ y.2.2.2.1 = none ∧ y.1.cls ≠ "java/lang/invoke/MethodHandle" ∧ y.1.cls ≠ "java/lang/invoke/VarHandle" ∧ (parseMethodDescriptor y.1.desc).map (fun d => d.parameters.length) = some y.2.2.2.2.2) && plainName y.1.cls) = true := by decide +kernel
def ceD_0 : nhDt := [(0, .aload_n 0, 1), (1, .invokespecial 1, 3), (4, .aload_n 0, 1), (5, .sipush 1600, 3), (8, .newarray .byte, 2), (10, .putfield 9, 3), (13, .aload_n 0, 1), (14, .iconst 0, 1), (15, .putfield 13, 3), (18, .aload_n 0, 1), (19, .new 17, 3), (22, .dup, 1), (23, .invokespecial 19, 3), (26, .putfield 20, 3), (29, .aload_n 0, 1), (30, .new 17, 3), (33, .dup, 1), (34, .invokespecial 19, 3), (37, .putfield 24, 3), (40, .aload_n 0, 1), (41, .new 27, 3), (44, .dup, 1), (45, .invokespecial 29, 3), (48, .putfield 30, 3), (51, .aload_n 0, 1), (52, .new 34, 3), (55, .dup, 1), (56, .invokespecial 36, 3), (59, .putfield 37, 3), (62, .aload_n 0, 1), (63, .new 34, 3), (66, .dup, 1), (67, .invokespecial 36, 3), (70, .putfield 41, 3), (73, .aload_n 0, 1), (74, .new 44, 3), (77, .dup, 1), (78, .invokespecial 46, 3), (81, .putfield 47, 3), (84, .aload_n 0, 1), (85, .iconst 3, 1), (86, .anewarray 34, 3), (89, .putfield 51, 3), (92, .aload_n 0, 1), (93, .iconst 0, 1), (94, .putfield 55, 3), (97, .aload_n 0, 1), (98, .new 58, 3), (101, .dup, 1), (102, .invokespecial 60, 3), (105, .putfield 61, 3), (108, .aload_n 0, 1), (109, .new 65, 3), (112, .dup, 1), (113, .invokespecial 67, 3), (116, .putfield 68, 3), (119, .aload_n 0, 1), (120, .new 72, 3), (123, .dup, 1), (124, .invokespecial 74, 3), (127, .putfield 75, 3), (130, .aload_n 0, 1), (131, .new 79, 3), (134, .dup, 1), (135, .invokespecial 81, 3), (138, .putfield 82, 3), (141, .aload_n 0, 1), (142, .iconst 0, 1), (143, .putfield 86, 3), (146, .aload_n 0, 1), (147, .bipush 10, 2), (149, .newarray .int, 2), (151, .putfield 89, 3), (154, .aload_n 0, 1), (155, .iconst 0, 1), (156, .putfield 93, 3), (159, .iconst 0, 1), (160, .istore_n 1, 1), (161, .iload_n 1, 1), (162, .iconst 3, 1), (163, .if_icmp .ge 22, 3), (166, .aload_n 0, 1), (167, .getfield 51, 3), (170, .iload_n 1, 1), (171, .new 34, 3), (174, .dup, 1), (175, .invokespecial 36, 3), (178, .aastore, 1), (179, .iinc 1 1, 3), (182, .goto (-21), 3), (185, .aload_n 0, 1), (186, .getfield 20, 3), (189, .invokevirtual 96, 3), (192, .aload_n 0, 1), (193, .getfield 20, 3), (196, .invokevirtual 99, 3), (199, .aload_n 0, 1), (200, .getfield 37, 3), (203, .aload_n 0, 1), (204, .getfield 20, 3), (207, .invokevirtual 102, 3), (210, .aload_n 0, 1), (211, .getfield 82, 3), (214, .invokevirtual 106, 3), (217, .return_, 1)]
set_option maxRecDepth 100000 in
theorem ceD_0_ok : nh_dtB prog_1_method_1_code ceD_0 = true := by decide +kernel
def ceD_1 : nhDt := [(0, .aload_n 0, 1), (1, .invokespecial 3, 3), (4, .aload_n 0, 1), (5, .iconst 5, 1), (6, .newarray .int, 2), (8, .putfield 9, 3), (11, .aload_n 0, 1), (12, .new 15, 3), (15, .dup, 1), (16, .invokespecial 17, 3), (19, .putfield 18, 3), (22, .aload_n 0, 1), (23, .bipush 36, 2), (25, .newarray .int, 2), (27, .putfield 22, 3), (30, .aload_n 0, 1), (31, .bipush 36, 2), (33, .newarray .int, 2), (35, .putfield 25, 3), (38, .aload_n 0, 1), (39, .sipush 180, 3), (42, .newarray .int, 2), (44, .putfield 28, 3), (47, .return_, 1)]
set_option maxRecDepth 100000 in
theorem ceD_1_ok : nh_dtB prog_5_method_1_code ceD_1 = true := by decide +kernel
def ceD_2 : nhDt := [(0, .aload_n 0, 1), (1, .invokespecial 1, 3), (4, .aload_n 0, 1), (5, .sipush 300, 3), (8, .newarray .int, 2), (10, .putfield 9, 3), (13, .aload_n 0, 1), (14, .bipush 6, 2), (16, .newarray .int, 2), (18, .putfield 13, 3), (21, .aload_n 0, 1), (22, .bipush 60, 2), (24, .newarray .int, 2), (26, .putfield 16, 3), (29, .return_, 1)]
set_option maxRecDepth 100000 in
theorem ceD_2_ok : nh_dtB prog_3_method_1_code ceD_2 = true := by decide +kernel
def ceD_3 : nhDt := [(0, .aload_n 0, 1), (1, .invokespecial 3, 3), (4, .aload_n 0, 1), (5, .new 9, 3), (8, .dup, 1), (9, .invokespecial 11, 3), (12, .putfield 12, 3), (15, .aload_n 0, 1), (16, .iconst 5, 1), (17, .newarray .long, 2), (19, .putfield 18, 3), (22, .aload_n 0, 1), (23, .iconst 0, 1), (24, .putfield 22, 3), (27, .aload_n 0, 1), (28, .iconst (-1), 1), (29, .putfield 26, 3), (32, .return_, 1)]
set_option maxRecDepth 100000 in
theorem ceD_3_ok : nh_dtB prog_8_method_1_code ceD_3 = true := by decide +kernel
def ceD_4 : nhDt := [(0, .aload_n 0, 1), (1, .invokespecial 1, 3), (4, .return_, 1)]
set_option maxRecDepth 100000 in
theorem ceD_4_ok : nh_dtB prog_11_method_1_code ceD_4 = true := by decide +kernel
def ceD_5 : nhDt := [(0, .aload_n 0, 1), (1, .invokespecial 3, 3), (4, .aload_n 0, 1), (5, .iconst 5, 1), (6, .newarray .int, 2), (8, .putfield 9, 3), (11, .aload_n 0, 1), (12, .iconst 5, 1), (13, .newarray .int, 2), (15, .putfield 15, 3), (18, .aload_n 0, 1), (19, .iconst 5, 1), (20, .newarray .int, 2), (22, .putfield 18, 3), (25, .return_, 1)]
set_option maxRecDepth 100000 in
theorem ceD_5_ok : nh_dtB prog_6_method_1_code ceD_5 = true := by decide +kernel
def ceD_6 : nhDt := [(0, .aload_n 0, 1), (1, .invokespecial 1, 3), (4, .aload_n 0, 1), (5, .bipush 41, 2), (7, .anewarray 9, 3), (10, .putfield 11, 3), (13, .aload_n 0, 1), (14, .iconst 0, 1), (15, .putfield 15, 3), (18, .aload_n 0, 1), (19, .iconst 0, 1), (20, .putfield 19, 3), (23, .aload_n 0, 1), (24, .iconst 0, 1), (25, .putfield 22, 3), (28, .iconst 0, 1), (29, .istore_n 1, 1), (30, .iload_n 1, 1), (31, .bipush 41, 2), (33, .if_icmp .ge 22, 3), (36, .aload_n 0, 1), (37, .getfield 11, 3), (40, .iload_n 1, 1), (41, .new 9, 3), (44, .dup, 1), (45, .invokespecial 25, 3), (48, .aastore, 1), (49, .iinc 1 1, 3), (52, .goto (-22), 3), (55, .return_, 1)]
set_option maxRecDepth 100000 in
theorem ceD_6_ok : nh_dtB prog_4_method_1_code ceD_6 = true := by decide +kernel
def ceD_7 : nhDt := [(0, .aload_n 0, 1), (1, .invokespecial 3, 3), (4, .aload_n 0, 1), (5, .bipush 36, 2), (7, .newarray .int, 2), (9, .putfield 9, 3), (12, .aload_n 0, 1), (13, .bipush 36, 2), (15, .newarray .int, 2), (17, .putfield 15, 3), (20, .aload_n 0, 1), (21, .bipush 36, 2), (23, .newarray .int, 2), (25, .putfield 18, 3), (28, .return_, 1)]
set_option maxRecDepth 100000 in
theorem ceD_7_ok : nh_dtB prog_12_method_1_code ceD_7 = true := by decide +kernel
def ceD_8 : nhDt := [(0, .aload_n 0, 1), (1, .invokespecial 3, 3), (4, .aload_n 0, 1), (5, .bipush 10, 2), (7, .newarray .int, 2), (9, .putfield 9, 3), (12, .aload_n 0, 1), (13, .bipush 10, 2), (15, .newarray .int, 2), (17, .putfield 15, 3), (20, .aload_n 0, 1), (21, .bipush 11, 2), (23, .anewarray 18, 3), (26, .putfield 20, 3), (29, .iconst 0, 1), (30, .istore_n 1, 1), (31, .iload_n 1, 1), (32, .bipush 10, 2), (34, .if_icmp .gt 22, 3), (37, .aload_n 0, 1), (38, .getfield 20, 3), (41, .iload_n 1, 1), (42, .new 18, 3), (45, .dup, 1), (46, .invokespecial 24, 3), (49, .aastore, 1), (50, .iinc 1 1, 3), (53, .goto (-22), 3), (56, .return_, 1)]
set_option maxRecDepth 100000 in
theorem ceD_8_ok : nh_dtB prog_7_method_1_code ceD_8 = true := by decide +kernel
def ceD_9 : nhDt := [(0, .aload_n 0, 1), (1, .invokespecial 3, 3), (4, .aload_n 0, 1), (5, .new 9, 3), (8, .dup, 1), (9, .invokespecial 11, 3), (12, .putfield 12, 3), (15, .aload_n 0, 1), (16, .bipush 36, 2), (18, .newarray .long, 2), (20, .putfield 18, 3), (23, .return_, 1)]
set_option maxRecDepth 100000 in
theorem ceD_9_ok : nh_dtB prog_2_method_1_code ceD_9 = true := by decide +kernel
def ceD_10 : nhDt := [(0, .aload_n 0, 1), (1, .invokespecial 3, 3), (4, .aload_n 0, 1), (5, .bipush 30, 2), (7, .newarray .int, 2), (9, .putfield 11, 3), (12, .aload_n 0, 1), (13, .bipush 30, 2), (15, .newarray .int, 2), (17, .putfield 15, 3), (20, .aload_n 0, 1), (21, .bipush 30, 2), (23, .newarray .boolean, 2), (25, .putfield 18, 3), (28, .aload_n 0, 1), (29, .bipush 30, 2), (31, .newarray .int, 2), (33, .putfield 22, 3), (36, .aload_n 0, 1), (37, .bipush 30, 2), (39, .newarray .int, 2), (41, .putfield 25, 3), (44, .aload_n 0, 1), (45, .sipush 468, 3), (48, .newarray .int, 2), (50, .putfield 28, 3), (53, .aload_n 0, 1), (54, .bipush 36, 2), (56, .newarray .int, 2), (58, .putfield 31, 3), (61, .aload_n 0, 1), (62, .new 34, 3), (65, .dup, 1), (66, .invokespecial 36, 3), (69, .putfield 37, 3), (72, .aload_n 0, 1), (73, .iconst 0, 1), (74, .putfield 41, 3), (77, .aload_n 0, 1), (78, .iconst 0, 1), (79, .putfield 45, 3), (82, .return_, 1)]
set_option maxRecDepth 100000 in
theorem ceD_10_ok : nh_dtB prog_9_method_1_code ceD_10 = true := by decide +kernel
def ceD_11 : nhDt := [(0, .aload_n 0, 1), (1, .invokespecial 1, 3), (4, .aload_n 0, 1), (5, .sipush 1620, 3), (8, .newarray .byte, 2), (10, .putfield 7, 3), (13, .aload_n 0, 1), (14, .sipush 1600, 3), (17, .newarray .byte, 2), (19, .putfield 13, 3), (22, .aload_n 0, 1), (23, .iconst (-1), 1), (24, .putfield 16, 3), (27, .aload_n 0, 1), (28, .iconst 2, 1), (29, .newarray .int, 2), (31, .putfield 20, 3), (34, .aload_n 0, 1), (35, .iconst 2, 1), (36, .newarray .int, 2), (38, .putfield 24, 3), (41, .aload_n 0, 1), (42, .iconst 2, 1), (43, .newarray .int, 2), (45, .putfield 27, 3), (48, .aload_n 0, 1), (49, .iconst 2, 1), (50, .newarray .int, 2), (52, .putfield 30, 3), (55, .aload_n 0, 1), (56, .iconst 2, 1), (57, .newarray .int, 2), (59, .putfield 33, 3), (62, .aload_n 0, 1), (63, .iconst 2, 1), (64, .newarray .int, 2), (66, .putfield 36, 3), (69, .aload_n 0, 1), (70, .iconst 2, 1), (71, .newarray .int, 2), (73, .putfield 39, 3), (76, .aload_n 0, 1), (77, .iconst 2, 1), (78, .newarray .int, 2), (80, .putfield 42, 3), (83, .aload_n 0, 1), (84, .iconst 2, 1), (85, .newarray .int, 2), (87, .putfield 45, 3), (90, .aload_n 0, 1), (91, .iconst 2, 1), (92, .newarray .int, 2), (94, .putfield 48, 3), (97, .aload_n 0, 1), (98, .iconst 2, 1), (99, .newarray .int, 2), (101, .putfield 51, 3), (104, .aload_n 0, 1), (105, .bipush 16, 2), (107, .newarray .int, 2), (109, .putfield 54, 3), (112, .aload_n 0, 1), (113, .bipush 10, 2), (115, .newarray .int, 2), (117, .putfield 57, 3), (120, .aload_n 0, 1), (121, .iconst 2, 1), (122, .newarray .int, 2), (124, .putfield 60, 3), (127, .aload_n 0, 1), (128, .iconst 2, 1), (129, .newarray .int, 2), (131, .putfield 63, 3), (134, .aload_n 0, 1), (135, .bipush 10, 2), (137, .newarray .long, 2), (139, .putfield 66, 3), (142, .aload_n 0, 1), (143, .sipush 1120, 3), (146, .newarray .int, 2), (148, .putfield 70, 3), (151, .aload_n 0, 1), (152, .sipush 1120, 3), (155, .newarray .int, 2), (157, .putfield 73, 3), (160, .aload_n 0, 1), (161, .bipush 90, 2), (163, .newarray .int, 2), (165, .putfield 76, 3), (168, .aload_n 0, 1), (169, .bipush 90, 2), (171, .newarray .int, 2), (173, .putfield 79, 3), (176, .aload_n 0, 1), (177, .bipush 60, 2), (179, .newarray .int, 2), (181, .putfield 82, 3), (184, .aload_n 0, 1), (185, .bipush 55, 2), (187, .newarray .int, 2), (189, .putfield 85, 3), (192, .aload_n 0, 1), (193, .iconst (-1), 1), (194, .putfield 88, 3), (197, .aload_n 0, 1), (198, .iconst 5, 1), (199, .newarray .int, 2), (201, .putfield 91, 3), (204, .aload_n 0, 1), (205, .sipush 2255, 3), (208, .newarray .int, 2), (210, .putfield 94, 3), (213, .aload_n 0, 1), (214, .bipush 55, 2), (216, .newarray .int, 2), (218, .putfield 97, 3), (221, .aload_n 0, 1), (222, .bipush 10, 2), (224, .newarray .int, 2), (226, .putfield 100, 3), (229, .aload_n 0, 1), (230, .bipush 36, 2), (232, .newarray .int, 2), (234, .putfield 103, 3), (237, .aload_n 0, 1), (238, .bipush 36, 2), (240, .newarray .int, 2), (242, .putfield 106, 3), (245, .aload_n 0, 1), (246, .sipush 468, 3), (249, .newarray .int, 2), (251, .putfield 109, 3), (254, .aload_n 0, 1), (255, .bipush 30, 2), (257, .newarray .int, 2), (259, .putfield 112, 3), (262, .aload_n 0, 1), (263, .bipush 30, 2), (265, .newarray .int, 2), (267, .putfield 115, 3), (270, .aload_n 0, 1), (271, .bipush 30, 2), (273, .newarray .int, 2), (275, .putfield 118, 3), (278, .aload_n 0, 1), (279, .bipush 30, 2), (281, .newarray .int, 2), (283, .putfield 121, 3), (286, .aload_n 0, 1), (287, .bipush 30, 2), (289, .newarray .int, 2), (291, .putfield 124, 3), (294, .aload_n 0, 1), (295, .bipush 36, 2), (297, .newarray .int, 2), (299, .putfield 127, 3), (302, .aload_n 0, 1), (303, .bipush 36, 2), (305, .newarray .boolean, 2), (307, .putfield 130, 3), (310, .aload_n 0, 1), (311, .sipush 165, 3), (314, .newarray .int, 2), (316, .putfield 134, 3), (319, .aload_n 0, 1), (320, .iconst 3, 1), (321, .newarray .boolean, 2), (323, .putfield 137, 3), (326, .aload_n 0, 1), (327, .invokevirtual 140, 3), (330, .aload_n 0, 1), (331, .invokevirtual 143, 3), (334, .return_, 1)]
set_option maxRecDepth 100000 in
theorem ceD_11_ok : nh_dtB prog_14_method_1_code ceD_11 = true := by decide +kernel
def ceDa : List nhDt := [ceD_0, ceD_1, ceD_2, ceD_3, ceD_4, ceD_5, ceD_6, ceD_7, ceD_8, ceD_9, ceD_10, ceD_11]
theorem ceDz : nhZ ceCt ceDa := ⟨ceD_0_ok, ceD_1_ok, ceD_2_ok, ceD_3_ok, ceD_4_ok, ceD_5_ok, ceD_6_ok, ceD_7_ok, ceD_8_ok, ceD_9_ok, ceD_10_ok, ceD_11_ok, trivial⟩
def nhMo : List Nat := [3, 3, 1, 3, 3, 4, 16, 7, 11, 11, 11, 11, 6, 9, 9, 9, 9, 9, 9, 9, 9, 6, 6, 6, 6, 6, 6, 6, 6, 6, 3, 6, 6, 6, 6, 6, 6, 6, 1, 6, 6, 6, 6, 6, 6, 6, 6, 6, 2, 11, 11, 11, 8, 3, 3, 1, 1, 1, 1, 11, 11, 11, 4, 3, 11, 13, 11, 11, 11, 8, 11, 11, 8, 11, 11, 11, 11, 2, 2, 4, 8, 8, 3, 8, 8, 11, 11, 11, 11, 11, 11, 2, 11, 2, 11, 11, 11, 11, 11, 11, 11, 11, 11, 5, 5, 5, 5, 11, 11, 0, 0, 0, 0, 0, 0, 11, 14, 11, 11, 10, 10, 10, 10, 11, 11, 11, 11, 11, 10, 10, 10, 11, 11, 11, 11, 11, 11, 11, 11, 11, 11, 11, 11, 7, 11, 7, 11, 11, 7, 7, 7, 7, 7, 11, 13, 14, 13, 14, 11, 7, 12, 12, 12, 12, 12, 12, 12, 12, 12, 12, 12, 12, 12, 12, 12, 12, 12, 12, 12, 12, 12, 12, 12, 12, 12, 12, 12, 12, 12, 12, 12, 12, 12, 12, 12, 12, 12, 12, 12, 12, 12, 12, 12, 12, 12, 12, 12, 12, 12, 12, 12, 12, 12, 12, 12, 12, 12, 12, 12, 12, 12, 12, 12, 12, 12, 12, 12, 12, 12, 12, 12, 12, 12, 12, 12, 12, 12, 12, 12, 12, 12, 12, 12, 12, 12, 12, 12, 12, 12, 12, 12, 12, 12, 12, 12, 12, 12, 12, 12, 12, 12, 12, 12, 12, 12, 12, 12, 12, 12, 12, 12, 12, 12, 12, 12, 12, 12, 12, 12, 12, 12, 12, 12, 12, 12, 12]
def ceMo : List Nat := [11, 3, 1, 6, 9, 4, 2, 10, 5, 0, 7, 12]
def ceNw : List (String × Nat × MethodName) := [("NightHouses", 19, ⟨"NightHouses$Land", "<init>", "()V"⟩), ("NightHouses$Land", 17, ⟨"NightHouses$Formula", "<init>", "()V"⟩), ("NightHouses", 29, ⟨"NightHouses$Reader", "<init>", "()V"⟩), ("NightHouses$Reader", 11, ⟨"NightHouses$Tokens", "<init>", "()V"⟩), ("NightHouses", 36, ⟨"NightHouses$Night", "<init>", "()V"⟩), ("NightHouses$History", 25, ⟨"NightHouses$Night", "<init>", "()V"⟩), ("NightHouses", 60, ⟨"NightHouses$Walks", "<init>", "()V"⟩), ("NightHouses$Planner", 24, ⟨"NightHouses$Night", "<init>", "()V"⟩), ("NightHouses", 74, ⟨"NightHouses$Fencer", "<init>", "()V"⟩), ("NightHouses$Fencer", 11, ⟨"NightHouses$Night", "<init>", "()V"⟩), ("NightHouses", 81, ⟨"NightHouses$Sightings", "<init>", "()V"⟩), ("NightHouses$Sightings", 36, ⟨"NightHouses$Night", "<init>", "()V"⟩)]
def ceCi : List (List (Nat × Nat × Nat × Nat)) := [[(11, 5, 1, 9)], [], [(25, 5, 1, 5)], [(17, 2, 1, 1)], [], [(24, 5, 1, 7)], [(11, 4, 1, 3)], [(36, 5, 1, 11)], [], [], [], [(19, 1, 1, 0), (29, 3, 1, 2), (36, 5, 1, 4), (60, 7, 1, 6), (74, 9, 1, 8), (81, 10, 1, 10), (46, 6, 0, 395), (67, 8, 0, 439)], [], [], [], [], [], [], [], [], [(9, 0, 0, 144), (12, 11, 0, 1378)]]
def ce_ciB (o : Nat) (q : Nat × Nat × Nat × Nat) : Bool := match nhOw[o]?, ceCt[q.2.1]? with
  | some C, some y => if q.2.2.1 = 0 then nh_wd q.2.2.2 (Cond.methodLink C q.1 y.1) else decide (ceNw[q.2.2.2]? = some (C, q.1, y.1))
  | _, _ => false
set_option maxRecDepth 100000 in
theorem ceCi_all : (List.range ceCi.length).all (fun o => (ceCi.getD o []).all (ce_ciB o)) = true := by decide +kernel
/-- what the tables say beyond the words: links to nest mates' constructors, arrays of nights -/
def ceNs (U : State) : Prop := (∀ q ∈ ceNw, va_Nw (.methodLinkNest q.1 q.2.1 q.2.2 "NightHouses") U) ∧ va_AO "NightHouses$Night" U
theorem ceNs.warm {s U : State} (hW : s.WarmedH U.vm) (h : ceNs s) : ceNs U := ⟨fun q hq => va_Nw.warmM hW (h.1 q hq), h.2.moved hW.alike⟩
theorem ceNs.same {u U : State} (hv : u.vm = U.vm) (h : ceNs u) : ceNs U := ⟨fun q hq => va_Nw.same rfl hv (h.1 q hq), h.2.moved (by rw [hv]; exact Vm.Alike.refl _)⟩
def ce_ctP (y : nhMth) : Prop := Cond.code y.1 y.2.1 y.2.2.1 y.2.2.2.1 ∈ nhTb ∧ Cond.initialized y.1.cls ∈ nhTb ∧ Cond.instanceMethod y.1 ∈ nhTb ∧ (y.1.name = "<init>" ∧ y.2.2.2.1 = none ∧ y.1.cls ≠ "java/lang/invoke/MethodHandle" ∧ y.1.cls ≠ "java/lang/invoke/VarHandle" ∧ (parseMethodDescriptor y.1.desc).map (fun d => d.parameters.length) = some y.2.2.2.2.2) ∧ plainName y.1.cls = true
theorem ce_ct_ok {k : Nat} {y : nhMth} (h : ceCt[k]? = some y) : ce_ctP y := by
  have hy := List.mem_of_getElem? h
  have h6 := List.all_eq_true.mp ceCt_d y hy
  simp only [Bool.and_eq_true, decide_eq_true_eq] at h6
  exact ⟨nhCd0 ceCt_c (fun _ => rfl) hy, nhCd0 ceCt_i (fun _ => rfl) hy, nhCd0 ceCt_s (fun _ => rfl) hy, h6.1, h6.2⟩
def ce_m (mn : Nat) : Option nhMth := if mn < 1000 then nhMt[mn]? else ceCt[mn - 1000]?
def ce_dt (mn : Nat) : nhDt := if mn < 1000 then nhDa.getD mn [] else ceDa.getD (mn - 1000) []
def ce_ow (mn : Nat) : Nat := if mn < 1000 then nhMo.getD mn 99 else ceMo.getD (mn - 1000) 99
theorem ce_dt_ok {mn : Nat} {y : nhMth} (h : ce_m mn = some y) : nh_dtB y.2.1 (ce_dt mn) = true := by
  unfold ce_m at h
  unfold ce_dt
  split at h
  · rename_i hlt
    rw [if_pos hlt]
    exact nhDz.at h
  · rename_i hlt
    rw [if_neg hlt]
    exact ceDz.at h
/-- contracts of known values -/
def cePc (D : nhD) (ρ : Nat → Int32) (B : Nat) (H0 : Heap) (as : List ceV) (hp : ceHp) : Array Value → State → Prop := fun a U => a = (as.map (ce_c ρ B)).toArray ∧ ceH D ρ B H0 hp U.heap ∧ nhK D U ∧ ceNs U
def ceQc (D : nhD) (ρ : Nat → Int32) (B : Nat) (H0 : Heap) (r : Option ceV) (hp : ceHp) : Array Value → State → Outcome → State → Prop := fun _ _ o t => o = .returned (r.map (ce_c ρ B)) ∧ ceH D ρ B H0 hp t.heap
def ceRm (d mc ms : Nat) : Room := { frames := d, cells := mc, slots := ms, locals := 60 * d }
def ceMet (y : nhMth) (d : Nat) (as : List ceV) (hp : ceHp) (r : Option ceV) (hp' : ceHp) (mc ms : Nat) : Prop := ∀ (l : Launch) (D : nhD) (ρ : Nat → Int32) (B : Nat) (H0 : Heap), Met l y.1 (nhWs y) (ceRm d mc ms) (cePc D ρ B H0 as hp) (ceQc D ρ B H0 r hp') mc ms (fun a => B ≤ a)
theorem cePc_blind (D : nhD) (ρ : Nat → Int32) (B : Nat) (H0 : Heap) (as : List ceV) (hp : ceHp) : FrameBlind (cePc D ρ B H0 as hp) := fun a U g mk q => by
  obtain ⟨h1, h2, h3, h4⟩ := q
  exact ⟨h1, h2, nhK.moved (u := U) (U := U.calling g mk a) (Vm.Alike.refl U.vm) h3, ceNs.same (u := U) (U := U.calling g mk a) rfl h4⟩
def ce_sum (st : List ceV) : Nat := (st.map (fun v => if ce_ty v = 1 then 2 else 1)).sum
theorem ce_sum_ok (ρ : Nat → Int32) (B : Nat) (st : List ceV) : ((st.map (ce_c ρ B)).map fun v => v.category).sum = ce_sum st := by
  unfold ce_sum
  rw [List.map_map]
  congr 1
  apply List.map_congr_left
  intro v _
  exact ce_cat ρ B v
/-- natives, Math, Object's constructor -/
def ce_cpy (els0 els1 : List ceV) (sp dp n : Nat) : List ceV := (List.range els1.length).map (fun k => if dp ≤ k ∧ k < dp + n then els0.getD (sp + (k - dp)) (3, 0) else els1.getD k (3, 0))
def ce_nat (own pc : Nat) (i : Instr) (len : Nat) (lo : List (Nat × ceV)) (st : List ceV) (hp : ceHp) : Option ceS := match i with
  | .invokespecial idx => match (ceOi.getD own []).find? (fun q => q.1 == idx) with
    | some _ => match st with
      | (2, _) :: r => if len = 3 ∧ ce_sum r ≤ 8 then some (pc + 3, lo, r, hp) else none
      | _ => none
    | none => none
  | .invokestatic idx => match (ceSp.getD own []).find? (fun q => q.1 == idx) with
    | some q => if q.2.1 = 0 then (match st with
        | (0, n) :: (0, dp) :: (2, a) :: (0, sp) :: (2, a0) :: r => match ce_get hp a0.toNat, ce_get hp a.toNat with
          | some k0, some k1 => if len = 3 ∧ ce_sum r ≤ 8 ∧ k0.1 = 1 ∧ k0.2.1 = 0 ∧ k1.1 = 1 ∧ k1.2.1 = 0 ∧ k0.2.2.all (fun v => v.1 == 0) = true ∧ k1.2.2.all (fun v => v.1 == 0) = true ∧ 0 ≤ (Int32.ofInt n).toInt ∧ 0 ≤ (Int32.ofInt dp).toInt ∧ 0 ≤ (Int32.ofInt sp).toInt ∧ (Int32.ofInt sp).toInt.toNat + (Int32.ofInt n).toInt.toNat ≤ k0.2.2.length ∧ (Int32.ofInt dp).toInt.toNat + (Int32.ofInt n).toInt.toNat ≤ k1.2.2.length then some (pc + 3, lo, r, ce_set hp a.toNat (1, 0, ce_cpy k0.2.2 k1.2.2 (Int32.ofInt sp).toInt.toNat (Int32.ofInt dp).toInt.toNat (Int32.ofInt n).toInt.toNat)) else none
          | _, _ => none
        | _ => none)
      else if q.2.1 = 1 then (match st with
        | (0, y) :: (0, x) :: r => if len = 3 ∧ ce_sum r ≤ 8 then some (pc + 3, lo, (0, (if Int32.ofInt y < Int32.ofInt x then Int32.ofInt y else Int32.ofInt x).toInt) :: r, hp) else none
        | _ => none)
      else if q.2.1 = 2 then (match st with
        | (0, y) :: (0, x) :: r => if len = 3 ∧ ce_sum r ≤ 8 then some (pc + 3, lo, (0, (if Int32.ofInt x < Int32.ofInt y then Int32.ofInt y else Int32.ofInt x).toInt) :: r, hp) else none
        | _ => none)
      else (match st with
        | (0, x) :: r => if len = 3 ∧ ce_sum r ≤ 8 then some (pc + 3, lo, (0, (if 0 ≤ Int32.ofInt x then Int32.ofInt x else 0 - Int32.ofInt x).toInt) :: r, hp) else none
        | _ => none)
    | none => none
  | _ => none
section CE6
variable {p : Program} {l : Launch} {e : Env} {R : Room} {s : State} {m : MethodId} {args : Array Value} {below : List Frame} {meth : Method} {c : Code} {Q : State → Prop} {cc : ByteArray} {pc own : Nat} {D : nhD} {ρ : Nat → Int32} {B : Nat} {H0 : Heap} {nL cn cz : Nat} {lo : List (Nat × ceV)} {st : List ceV} {hp : ceHp}
theorem ce_clN {x : Int} (h : 0 ≤ (Int32.ofInt x).toInt) : (Int32.ofInt x).toNatClampNeg = (Int32.ofInt x).toInt.toNat ∧ ¬ Int32.ofInt x < 0 := by
  obtain ⟨j, hj, ej, ejj⟩ := nh_nI h
  refine ⟨by rw [ejj, ej, nI_clamp hj]; omega, fun q => ?_⟩
  have := Int32.lt_iff_toInt_lt.mp q
  rw [show (0 : Int32).toInt = 0 from rfl] at this
  omega
theorem ce_nat_ok (hF : nhFx p c s m args cc nL own D) (hf : 1 ≤ R.frames) (hlo : 60 ≤ R.locals) (hc1 : cn ≤ R.cells) (hc2 : cz ≤ R.slots) {i : Instr} {len : Nat} (hd : decode cc pc = .ok (i, len)) {S' : ceS} (h : ce_nat own pc i len lo st hp = some S')
    (k : ceGo p l e R s m args below meth c Q D ρ B H0 nL cn cz S') : ceGo p l e R s m args below meth c Q D ρ B H0 nL cn cz (pc, lo, st, hp) := by
  intro H locs ls hR
  obtain ⟨hx, hb, hml, ⟨C, hC, hown⟩, hts, hK⟩ := hF
  unfold ce_nat at h
  split at h
  · rename_i idx
    split at h
    · rename_i q hq
      split at h
      · rename_i o r
        split at h
        · rename_i hc
          cases h
          obtain ⟨rfl, hsum⟩ := hc
          have h1 : q.1 = idx := by simpa using List.find?_some hq
          have h2 := nh_rows ceOi_all (List.mem_of_find?_eq_some hq)
          unfold ce_oiB at h2
          rw [hC] at h2
          have h3 := nh_wd_ok h2
          rw [h1] at h3
          have hS8 : ((r.map (ce_c ρ B)).map fun v => v.category).sum ≤ 8 := by rw [ce_sum_ok]; exact hsum
          have hr8 := lv_room (m := m) (pc := pc) (ls := ls) (rest := ((2, o) :: r).map (ce_c ρ B)) hS8
          exact W.objInit hx hb hown (hts _ h3) (hts _ ceOb1) (hts _ ceOb2) rfl (by rw [hml]; exact hR.1) rfl hd hf (Nat.le_trans (Nat.add_le_add_right hr8 12) (by omega)) (k H locs ls hR)
        · cases h
      · cases h
    · cases h
  · rename_i idx
    split at h
    · rename_i q hq
      have h1 : q.1 = idx := by simpa using List.find?_some hq
      have h2 := nh_rows ceSp_all (List.mem_of_find?_eq_some hq)
      unfold ce_spB at h2
      rw [hC] at h2
      simp only [Bool.and_eq_true, decide_eq_true_eq] at h2
      have h3 := nh_wd_ok h2.1
      rw [h1] at h3
      split at h
      · rename_i e0
        rw [e0] at h3
        split at h
        · rename_i n dp a sp a0 r
          split at h
          · rename_i k0 k1 hk0 hk1
            split at h
            · rename_i hc
              cases h
              obtain ⟨rfl, c0, c1, c2, c3, c4, c5, c6, c7, c8, c9, c10, c11⟩ := hc
              have hcell0 := hR.2.2.2.1.2.2 _ _ hk0
              have hcell1 := hR.2.2.2.1.2.2 _ _ hk1
              obtain ⟨t0, ti0, els0⟩ := k0
              obtain ⟨t1, ti1, els1⟩ := k1
              dsimp only at c1 c2 c3 c4 c5 c6 c10 c11
              subst c1 c2 c3 c4
              have toI : ∀ {els : List ceV}, els.all (fun v => v.1 == 0) = true → ∀ j, j < els.length → ce_c ρ B (els.getD j (3, 0)) = .int (Int32.ofInt (els.getD j (3, 0)).2) := by
                intro els hall j hj
                have hm : els.getD j (3, 0) ∈ els := by
                  rw [List.getD_eq_getElem?_getD, List.getElem?_eq_getElem hj]
                  exact List.getElem_mem hj
                have := List.all_eq_true.mp hall _ hm
                generalize els.getD j (3, 0) = v at this ⊢
                obtain ⟨t, x⟩ := v
                have : t = 0 := by simpa using this
                subst this
                rfl
              have hA0 := ce_cellA hcell0
              have hA1 := ce_cellA hcell1
              rw [arrV_cong _ (toI c5)] at hA0
              rw [arrV_cong _ (toI c6)] at hA1
              have hnf : nativeFrameWords "java/lang/System" "arraycopy" 5 + 11 ≤ 52 := by decide
              obtain ⟨l1, n1⟩ := ce_clN c7
              obtain ⟨l2, n2⟩ := ce_clN c8
              obtain ⟨l3, n3⟩ := ce_clN c9
              refine nh_copyW hx hb (by rw [hml]; exact hR.1.symm) hown (hts _ h3) (hts _ ceSp_n) (hts _ ceSp_s0) (hts _ ceSp_i0) ((hK.2 0 .int rfl).1) hA0 hA1 n3 n2 n1 (by rw [l1, l3]; exact c10) (by rw [l1, l2]; exact c11) hf (by rw [ce_sum_ok]; omega) hd (fun H1 L e1 e2 e3 e4 => ?_)
              refine k H1 _ ls ⟨hR.1, hR.2.1, hR.2.2.1, hR.2.2.2.1.put hk1 ?_ e2 e3, fun w hw => ?_⟩
              · show H1[B + a.toNat]? = some (arrV _ _ _)
                rw [e1]
                unfold ce_cpy
                rw [List.length_map, List.length_range]
                congr 1
                refine arrV_cong _ (fun j hj => ?_)
                rw [List.getD_eq_getElem?_getD, List.getElem?_map, List.getElem?_range hj]
                simp only [Option.map_some, Option.getD_some, va_cpy, l1, l2, l3]
                split
                · rw [toI c5 _ (by omega)]
                · rw [toI c6 _ hj]
              · rcases List.mem_append.mp hw with hw | hw
                · exact hR.2.2.2.2 w hw
                · rw [e4 w hw]; omega
            · cases h
          · cases h
        · cases h
      · split at h
        · rename_i e0
          rw [e0] at h3
          split at h
          · rename_i y x r
            split at h
            · rename_i hc
              cases h
              obtain ⟨rfl, c0⟩ := hc
              have k1 := k H locs ls hR
              dsimp only at k1
              rw [List.map_cons, ce_i] at k1
              exact va_mmin hx hb (by rw [hml]; exact hR.1.symm) hown (hts _ h3) (hts _ ceSp_s1) (hts _ ceSp_i1) (hts _ ceSp_c1) hf (by rw [ce_sum_ok]; omega) hc1 hc2 hd k1
            · cases h
          · cases h
        · split at h
          · rename_i e0
            rw [e0] at h3
            split at h
            · rename_i y x r
              split at h
              · rename_i hc
                cases h
                obtain ⟨rfl, c0⟩ := hc
                have k1 := k H locs ls hR
                dsimp only at k1
                rw [List.map_cons, ce_i] at k1
                exact va_mmax hx hb (by rw [hml]; exact hR.1.symm) hown (hts _ h3) (hts _ ceSp_s2) (hts _ ceSp_i1) (hts _ ceSp_c2) hf (by rw [ce_sum_ok]; omega) hc1 hc2 hd k1
              · cases h
            · cases h
          · rename_i d0 d1 d2
            have e0 : q.2.1 = 3 := by omega
            rw [e0] at h3
            split at h
            · rename_i x r
              split at h
              · rename_i hc
                cases h
                obtain ⟨rfl, c0⟩ := hc
                have k1 := k H locs ls hR
                dsimp only at k1
                rw [List.map_cons, ce_i] at k1
                exact va_mabs hx hb (by rw [hml]; exact hR.1.symm) hown (hts _ h3) (hts _ ceSp_s3) (hts _ ceSp_i1) (hts _ ceSp_c3) hf (by rw [ce_sum_ok]; omega) hc1 hc2 hd k1
              · cases h
            · cases h
    · cases h
  · cases h
end CE6
end
section
/-! known values: calls, returns, the run -/
def ce_cl (own : Nat) (i : Instr) (st : List ceV) (hp : ceHp) : Option (Nat × List ceV × List ceV) := match i with
  | .invokevirtual idx => match nh_find (nhLn.getD own []) idx with
    | some mn => match nhMt[mn]? with
      | some y => if mn < 1000 ∧ y.2.2.2.2.1 = false ∧ y.2.2.1 ≤ 41 ∧ y.2.2.2.2.2 + 1 ≤ st.length ∧ ce_sum (st.drop (y.2.2.2.2.2 + 1)) ≤ 8 then (match (st.take (y.2.2.2.2.2 + 1)).reverse with
        | (2, o) :: as => match ce_get hp o.toNat with
          | some k => if k.1 = 0 ∧ (nhCl[k.2.1]?).map (fun r => r.1) = some y.1.cls then some (mn, (2, o) :: as, st.drop (y.2.2.2.2.2 + 1)) else none
          | none => none
        | _ => none) else none
      | none => none
    | none => none
  | .invokestatic idx => match nh_find (nhLn.getD own []) idx with
    | some mn => match nhMt[mn]? with
      | some y => if mn < 1000 ∧ y.2.2.2.2.1 = true ∧ y.2.2.1 ≤ 41 ∧ y.2.2.2.2.2 ≤ st.length ∧ ce_sum (st.drop y.2.2.2.2.2) ≤ 8 then some (mn, (st.take y.2.2.2.2.2).reverse, st.drop y.2.2.2.2.2) else none
      | none => none
    | none => none
  | .invokespecial idx => match (ceCi.getD own []).find? (fun q => q.1 == idx) with
    | some q => match ceCt[q.2.1]? with
      | some y => if y.2.2.1 ≤ 41 ∧ y.2.2.2.2.2 + 1 ≤ st.length ∧ ce_sum (st.drop (y.2.2.2.2.2 + 1)) ≤ 8 then (match (st.take (y.2.2.2.2.2 + 1)).reverse with
        | (2, o) :: as => some (1000 + q.2.1, (2, o) :: as, st.drop (y.2.2.2.2.2 + 1))
        | _ => none) else none
      | none => none
    | none => none
  | _ => none
section CE7
variable {p : Program} {l : Launch} {e : Env} {R : Room} {s : State} {m : MethodId} {args : Array Value} {below : List Frame} {meth : Method} {c : Code} {Q : State → Prop} {cc : ByteArray} {pc own : Nat} {D : nhD} {ρ : Nat → Int32} {B : Nat} {H0 : Heap} {nL cn cz : Nat} {lo : List (Nat × ceV)} {st : List ceV} {hp : ceHp}
theorem ce_after {H : Heap} {locs : List Loc} {ls : Array Slot} {st0 : List Value} {rest : List ceV} {r : Option ceV} {hp' : ceHp} {mc ms : Nat} {a : Array Value} (hR : ceRel D ρ B H0 nL lo hp H locs ls) (hr : va_Run p l e R s m args below meth c H locs cn cz mc ms (F0 m pc ls st0) (rest.map (ce_c ρ B)) (ceQc D ρ B H0 r hp' a) (fun a => B ≤ a))
    (k : ceGo p l e R s m args below meth c Q D ρ B H0 nL (cn + mc) (cz + ms) (pc + 3, lo, r.toList ++ rest, hp')) : W p l e R s m args below meth c H locs cn cz Q (F0 m pc ls st0) := by
  intro T hT X
  obtain ⟨v, st₀, t, T', L, h0, X', hL, e1, e2, ⟨hv, hh⟩, st⟩ := hr T hT X
  have hv' : v = r.map (ce_c ρ B) := Outcome.returned.inj hv
  subst hv'
  obtain ⟨t2, a1, b1⟩ := k t.heap (locs ++ L) ls ⟨hR.1, hR.2.1, hR.2.2.1, hh, fun q hq => by
    rcases List.mem_append.mp hq with h | h
    · exact hR.2.2.2.2 q h
    · exact hL q h⟩ T' e1 X'
  refine ⟨t2, st t2 ?_, b1⟩
  have e3 : (r.toList ++ rest).map (ce_c ρ B) = (r.map (ce_c ρ B)).toList ++ rest.map (ce_c ρ B) := by
    rw [List.map_append]
    cases r <;> rfl
  dsimp only at a1
  rw [e3] at a1
  exact a1
theorem ce_rev {n : Nat} {as : List ceV} (h : (st.take n).reverse = as) : st.map (ce_c ρ B) = (as.map (ce_c ρ B)).reverse ++ (st.drop n).map (ce_c ρ B) := by
  rw [← h, List.map_reverse, List.reverse_reverse, ← List.map_append, List.take_append_drop]
theorem ce_cl_ok (hF : nhFx p c s m args cc nL own D) (hNs : ceNs s) {d C Z : Nat} (hRm : R = ceRm (d + 1) C Z) {i : Instr} {mn : Nat} {as rest : List ceV} (h : ce_cl own i st hp = some (mn, as, rest)) (hd : decode cc pc = .ok (i, 3)) {y : nhMth} (hy : ce_m mn = some y) {r : Option ceV} {hp' : ceHp} {mc ms : Nat} (hM : ceMet y d as hp r hp' mc ms) (h1 : cn + mc ≤ C) (h2 : cz + ms ≤ Z)
    (k : ceGo p l e R s m args below meth c Q D ρ B H0 nL (cn + mc) (cz + ms) (pc + 3, lo, r.toList ++ rest, hp')) : ceGo p l e R s m args below meth c Q D ρ B H0 nL cn cz (pc, lo, st, hp) := by
  intro H locs ls hR
  obtain ⟨hx, hb, hml, ⟨C', hC, hown⟩, hts, hK⟩ := hF
  have hPre : ∀ U : State, U.heap = H → s.WarmedH U.vm → cePc D ρ B H0 as hp (as.map (ce_c ρ B)).toArray U := fun U hU hW => ⟨rfl, by rw [hU]; exact hR.2.2.2.1, hK.moved hW.alike, hNs.warm hW⟩
  have hfr : ∀ maxL : Nat, maxL ≤ 41 → (ceRm d mc ms).frames + 1 ≤ R.frames ∧ 8 + (maxL + 11) + (ceRm d mc ms).locals ≤ R.locals := fun maxL hm => by
    rw [hRm]
    exact ⟨Nat.le_refl _, by show 8 + (maxL + 11) + 60 * d ≤ 60 * (d + 1); omega⟩
  have hcz : cn + mc ≤ R.cells ∧ cz + ms ≤ R.slots := by rw [hRm]; exact ⟨h1, h2⟩
  have hMM := hM l D ρ B H0
  unfold ce_cl at h
  split at h
  · rename_i idx
    split at h
    · rename_i mn' hmn
      split at h
      · rename_i y' hy'
        split at h
        · rename_i hc
          obtain ⟨c0, c1, c2, c3, c4⟩ := hc
          split at h
          · rename_i o as' has
            split at h
            · rename_i kk hkk
              split at h
              · rename_i hc2
                cases h
                unfold ce_m at hy
                rw [if_pos c0, hy'] at hy
                cases hy
                obtain ⟨m1, m2, m3, m4, m5, m6⟩ := nh_mt_ok hy'
                obtain ⟨n1, n2⟩ := m4 c1
                have hlink := nh_lk_ok hC (nh_find_ok hmn) hy'
                dsimp only at hlink
                obtain ⟨t, ci, fs⟩ := kk
                dsimp only at hc2
                obtain ⟨rfl, hc2⟩ := hc2
                obtain ⟨r0, hr0, hrn⟩ := Option.map_eq_some_iff.mp hc2
                obtain ⟨cell, q1, q2, q3, q4⟩ : t_OB (B + o.toNat) (D.1 ci) fs.length (D.2.1 ci) H (fun k => ce_c ρ B (fs.getD k (3, 0))) := hR.2.2.2.1.2.2 _ _ hkk
                have hB := callB_of (R := R) (mc := mc) (ms := ms) (rm := ceRm d mc ms) y.2.2.2.2.2 hts (nhGoodIn m1) rfl rfl rfl (hts _ m2) (hts _ hlink) m5 (hfr _ c2)
                have hW8 : (((st.drop (y.2.2.2.2.2 + 1)).map (ce_c ρ B)).map fun v => v.category).sum ≤ 8 := by rw [ce_sum_ok]; exact c4
                have hlen : as'.length = y.2.2.2.2.2 := by
                  have := congrArg List.length has
                  simp at this
                  omega
                refine ce_after (rest := st.drop (y.2.2.2.2.2 + 1)) (a := (((2, o) :: as').map (ce_c ρ B)).toArray) hR ?_ k
                exact va_runV (b := B + o.toNat) (As := as'.map (ce_c ρ B)) (rest := (st.drop (y.2.2.2.2.2 + 1)).map (ce_c ρ B)) ⟨hx, hb, hml, hown, hts⟩ hMM ⟨hB, hts _ n1, hts _ n2⟩ ⟨cePc_blind _ _ _ _ _ _, ⟨cell, q1, by rw [q3]; rfl, by rw [q2, ← hrn]; exact (hK.1 ci r0 hr0).2.1⟩, hPre⟩ rfl (by rw [List.length_map]; exact hlen) hR.1 (by
                  show st.map (ce_c ρ B) = _
                  rw [ce_rev has, List.map_cons, List.reverse_cons, List.append_assoc]
                  rfl) (lv_room hW8) hd hcz
              · cases h
            · cases h
          · cases h
        · cases h
      · cases h
    · cases h
  · rename_i idx
    split at h
    · rename_i mn' hmn
      split at h
      · rename_i y' hy'
        split at h
        · rename_i hc
          obtain ⟨c0, c1, c2, c3, c4⟩ := hc
          cases h
          unfold ce_m at hy
          rw [if_pos c0, hy'] at hy
          cases hy
          obtain ⟨m1, m2, m3, m4, m5, m6⟩ := nh_mt_ok hy'
          have hlink := nh_lk_ok hC (nh_find_ok hmn) hy'
          dsimp only at hlink
          have hB := callB_of (R := R) (mc := mc) (ms := ms) (rm := ceRm d mc ms) y.2.2.2.2.2 hts (nhGoodIn m1) rfl rfl rfl (hts _ m2) (hts _ hlink) m5 (hfr _ c2)
          have hW8 : (((st.drop y.2.2.2.2.2).map (ce_c ρ B)).map fun v => v.category).sum ≤ 8 := by rw [ce_sum_ok]; exact c4
          refine ce_after (rest := st.drop y.2.2.2.2.2) (a := ((st.take y.2.2.2.2.2).reverse.map (ce_c ρ B)).toArray) hR ?_ k
          exact va_runS (As := (st.take y.2.2.2.2.2).reverse.map (ce_c ρ B)) (rest := (st.drop y.2.2.2.2.2).map (ce_c ρ B)) ⟨hx, hb, hml, hown, hts⟩ hMM ⟨hB, hts _ (m3 c1)⟩ ⟨cePc_blind _ _ _ _ _ _, hPre⟩ rfl (by simp; omega) hR.1 (by
            show st.map (ce_c ρ B) = _
            exact ce_rev rfl) (lv_room hW8) hd hcz
        · cases h
      · cases h
    · cases h
  · rename_i idx
    split at h
    · rename_i q hq
      split at h
      · rename_i y' hy'
        split at h
        · rename_i hc
          obtain ⟨c2, c3, c4⟩ := hc
          split at h
          · rename_i o as' has
            cases h
            unfold ce_m at hy
            rw [if_neg (by omega), show 1000 + q.2.1 - 1000 = q.2.1 by omega, hy'] at hy
            cases hy
            obtain ⟨m1, m2, m3, ⟨m4, m5, m6⟩, m7⟩ := ce_ct_ok hy'
            have e1 : q.1 = idx := by simpa using List.find?_some hq
            have e2 := nh_rows ceCi_all (List.mem_of_find?_eq_some hq)
            unfold ce_ciB at e2
            rw [hC, hy'] at e2
            dsimp only at e2
            have hW8 : (((st.drop (y.2.2.2.2.2 + 1)).map (ce_c ρ B)).map fun v => v.category).sum ≤ 8 := by rw [ce_sum_ok]; exact c4
            have hlen : as'.length = y.2.2.2.2.2 := by
              have := congrArg List.length has
              simp at this
              omega
            have hstk : st.map (ce_c ρ B) = (as'.map (ce_c ρ B)).reverse ++ Value.ref (B + o.toNat) :: (st.drop (y.2.2.2.2.2 + 1)).map (ce_c ρ B) := by
              rw [ce_rev has, List.map_cons, List.reverse_cons, List.append_assoc]
              rfl
            refine ce_after (rest := st.drop (y.2.2.2.2.2 + 1)) (a := (((2, o) :: as').map (ce_c ρ B)).toArray) hR ?_ k
            split at e2
            · have hlink := nh_wd_ok e2
              rw [e1] at hlink
              have hB := callB_of (R := R) (mc := mc) (ms := ms) (rm := ceRm d mc ms) (bytes := y.2.1) (maxL := y.2.2.1) (ret := none) (ws := nhWs y) (ws' := nhTb) y.2.2.2.2.2 hts (nhGoodIn m1) (by unfold nhWs; rw [m5]) rfl rfl (hts _ m2) (hts _ hlink) m6 (hfr _ c2)
              exact va_runI (b := B + o.toNat) (As := as'.map (ce_c ρ B)) (rest := (st.drop (y.2.2.2.2.2 + 1)).map (ce_c ρ B)) ⟨hx, hb, hml, hown, hts⟩ hMM ⟨hB, m4, hts _ m3⟩ ⟨cePc_blind _ _ _ _ _ _, hPre⟩ rfl (by rw [List.length_map]; exact hlen) hR.1 hstk (lv_room hW8) hd hcz
            · have e3 := of_decide_eq_true e2
              have hnw := hNs.1 _ (List.mem_of_getElem? e3)
              dsimp only at hnw
              rw [e1] at hnw
              have hB := va_cnB (R := R) (args := args) (mc := mc) (ms := ms) (rm := ceRm d mc ms) (bytes := y.2.1) (maxL := y.2.2.1) (ret := none) (ws := nhWs y) (ws' := nhTb) y.2.2.2.2.2 hts (nhGoodIn m1) (by unfold nhWs; rw [m5]) rfl rfl hnw (hts _ m2) m6 (hfr _ c2)
              exact va_runIN (b := B + o.toNat) (As := as'.map (ce_c ρ B)) (rest := (st.drop (y.2.2.2.2.2 + 1)).map (ce_c ρ B)) ⟨hx, hb, hml, hown, hts⟩ hMM ⟨hB, m4, hts _ m3⟩ ⟨cePc_blind _ _ _ _ _ _, hPre⟩ rfl (by rw [List.length_map]; exact hlen) hR.1 hstk (lv_room hW8) hd hcz
          · cases h
        · cases h
      · cases h
    · cases h
  · cases h
def ce_ret (rt : Option FieldType) (i : Instr) (len : Nat) (st : List ceV) : Option (Option ceV) := if len = 1 then (match st with
  | [] => if i = .return_ ∧ rt = none then some none else none
  | [(0, x)] => if i = .ireturn ∧ (rt = some .int ∨ rt = some .boolean ∧ (x = 0 ∨ x = 1)) then some (some (0, x)) else none
  | [(t + 4, x)] => if i = .ireturn ∧ rt = some .int then some (some (t + 4, x)) else none
  | [(1, x)] => if i = .lreturn ∧ rt = some .long then some (some (1, x)) else none
  | [v] => if i = .areturn ∧ ce_ty v = 2 then (match rt with
    | some (.object _) => some (some v)
    | some (.array _) => some (some v)
    | _ => none) else none
  | _ => none) else none
theorem ce_ret_ok (hx : p.tables.exec = Jvm.exec) (hb : c.code = cc) {rt : Option FieldType} (hr : meth.sig.returnType = rt) (hlocks : meth.locks = false) {i : Instr} {len : Nat} (hd : decode cc pc = .ok (i, len)) {r : Option ceV} (h : ce_ret rt i len st = some r) :
    ceGo p l e R s m args below meth c (MQ below (ceQc D ρ B H0 r hp) args s cn cz (fun a => B ≤ a)) D ρ B H0 nL cn cz (pc, lo, st, hp) := by
  intro H locs ls hR
  have fin : ∀ (v : Option Value) (t : State), t.heap = H → v = r.map (ce_c ρ B) → ceQc D ρ B H0 r hp args s (.returned v) t := fun v t ht hv => ⟨by rw [hv], by rw [ht]; exact hR.2.2.2.1⟩
  unfold ce_ret at h
  split at h
  · rename_i hl
    subst hl
    split at h
    · split at h
      · rename_i hc
        cases h
        obtain ⟨rfl, rfl⟩ := hc
        exact W.vret hx hb hr (fun t ht _ => fin none t ht rfl) hR.2.2.2.2 hd
      · cases h
    · rename_i x
      split at h
      · rename_i hc
        cases h
        obtain ⟨rfl, hc⟩ := hc
        rcases hc with rfl | ⟨rfl, hc⟩
        · exact W.iret hx hb hr (fun t ht _ => fin _ t ht rfl) hR.2.2.2.2 hd
        · refine W.zret hx hb hr ?_ (fun t ht _ => fin _ t ht rfl) hR.2.2.2.2 hd
          rcases hc with rfl | rfl <;> rfl
      · cases h
    · rename_i t x
      split at h
      · rename_i hc
        cases h
        obtain ⟨rfl, rfl⟩ := hc
        exact W.iret hx hb hr (fun t ht _ => fin _ t ht rfl) hR.2.2.2.2 hd
      · cases h
    · rename_i x
      split at h
      · rename_i hc
        cases h
        obtain ⟨rfl, rfl⟩ := hc
        exact W.lret hx hb hr (fun t ht _ => fin _ t ht rfl) hR.2.2.2.2 hd
      · cases h
    · rename_i v _ _ _
      split at h
      · rename_i hc
        obtain ⟨rfl, hc⟩ := hc
        have hv := (ce_ty_ok ρ B (v := v)).2.2 hc
        split at h
        · cases h
          exact W.aret hx hb hr (Or.inl ⟨_, rfl⟩) hv (fun t ht _ => fin _ t ht rfl) hR.2.2.2.2 hd
        · cases h
          exact W.aret hx hb hr (Or.inr ⟨_, rfl⟩) hv (fun t ht _ => fin _ t ht rfl) hR.2.2.2.2 hd
        · cases h
      · cases h
    · cases h
  · cases h
end CE7
end
section
/-! known values: the run of a method, and of what it calls -/
abbrev ceO : Type := Option ceV × ceHp × Nat × Nat
def ce_one (own nL : Nat) (ini : Bool) (pc : Nat) (i : Instr) (len : Nat) (lo : List (Nat × ceV)) (st : List ceV) (hp : ceHp) : Option ceS := match nh_cls i with
  | 0 => match i with
    | .aastore => ce_arr pc i len lo st hp
    | .invokespecial _ => ce_nat own pc i len lo st hp
    | _ => match ce_op i len st with
      | some q => some (pc + len, lo, q.2 :: st.drop q.1, hp)
      | none => none
  | 3 => ce_inc nL pc i len lo st hp
  | 5 => ce_br pc i len lo st hp
  | 6 => ce_fld own ini pc i len lo st hp
  | 7 => ce_fld own ini pc i len lo st hp
  | 8 => ce_arr pc i len lo st hp
  | 9 => ce_arr pc i len lo st hp
  | 10 => ce_arr pc i len lo st hp
  | 11 => ce_ldc own pc i len lo st hp
  | 12 => ce_nat own pc i len lo st hp
  | _ => ce_mov nL pc i len lo st hp
def ce_isN (i : Instr) : Bool := match i with
  | .new _ => true
  | .newarray _ => true
  | .anewarray _ => true
  | _ => false
/-- the table in pieces: sixteen bytes of code to a piece -/
def ce_ck (dt : nhDt) : List nhDt := (List.range 128).map (fun k => dt.filter (fun q => Nat.beq (q.1 / 16) k))
def ce_lk (dt : nhDt) (pc : Nat) : Option (Instr × Nat) := match dt with
  | [] => none
  | q :: r => match Nat.beq q.1 pc with
    | true => some q.2
    | false => ce_lk r pc
def ce_dk (dt : List nhDt) (pc : Nat) : Option (Instr × Nat) := ce_lk (dt.getD (pc / 16) []) pc
theorem ce_lk_mem {dt : nhDt} {pc : Nat} {q : Instr × Nat} (h : ce_lk dt pc = some q) : (pc, q) ∈ dt := by
  induction dt with
  | nil => cases h
  | cons w r ih =>
    unfold ce_lk at h
    split at h
    · rename_i e1
      cases h
      have : w.1 = pc := Nat.eq_of_beq_eq_true e1
      rw [← this]
      exact List.mem_cons_self
    · exact List.mem_cons_of_mem _ (ih h)
/-- a number, counted out before it is handed on -/
def ce_fN {α : Type} (n : Nat) (k : Nat → α) : α := match n with
  | 0 => k 0
  | n + 1 => k (n + 1)
theorem ce_fN_eq {α : Type} (n : Nat) (k : Nat → α) : ce_fN n k = k n := by
  cases n <;> rfl
theorem ce_dk_ok {cc : ByteArray} {dt : nhDt} (h : nh_dtB cc dt = true) {pc : Nat} {q : Instr × Nat} (hq : ce_dk (ce_ck dt) pc = some q) : decode cc pc = .ok q := by
  have h1 := ce_lk_mem hq
  unfold ce_ck at h1
  rw [List.getD_eq_getElem?_getD, List.getElem?_map] at h1
  have h2 : (pc, q) ∈ dt := by
    cases hr : (List.range 128)[pc / 16]? with
    | none => rw [hr] at h1; cases h1
    | some k => rw [hr] at h1; exact (List.mem_filter.mp h1).1
  have h3 := List.all_eq_true.mp h _ h2
  dsimp only at h3
  split at h3
  · rename_i r hr
    rw [hr, of_decide_eq_true h3]
  · cases h3
def ce_run (call : Nat → List ceV → ceHp → Option ceO) (own nL : Nat) (ini : Bool) (dt : List nhDt) (rt : Option FieldType) : Nat → ceS → Nat → Nat → Option ceO
  | 0, _, _, _ => none
  | f + 1, S, cn, cz => ce_fN S.1 (fun pc => match ce_dk dt pc with
    | some w => if nh_cls w.1 = 13 then (match ce_ret rt w.1 w.2 S.2.2.1 with
        | some r => some (r, S.2.2.2, cn, cz)
        | none => none)
      else if ce_isN w.1 = true then (match ce_new own pc w.1 w.2 S.2.1 S.2.2.1 S.2.2.2 with
        | some q => ce_run call own nL ini dt rt f q.1 (cn + 1) (cz + q.2)
        | none => none)
      else (match ce_one own nL ini pc w.1 w.2 S.2.1 S.2.2.1 S.2.2.2 with
        | some S' => ce_run call own nL ini dt rt f S' cn cz
        | none => match ce_cl own w.1 S.2.2.1 S.2.2.2 with
          | some q => if w.2 = 3 then (match call q.1 q.2.1 S.2.2.2 with
            | some o => ce_run call own nL ini dt rt f (pc + 3, S.2.1, o.1.toList ++ q.2.2, o.2.1) (cn + o.2.2.1) (cz + o.2.2.2)
            | none => none) else none
          | none => none)
    | none => none)
def ce_lo0 : Nat → List ceV → List (Nat × ceV)
  | _, [] => []
  | n, v :: r => (n, v) :: ce_lo0 (if ce_ty v = 1 then n + 2 else n + 1) r
def ce_exec (fuel : Nat) : Nat → Nat → List ceV → ceHp → Option ceO
  | 0, _, _, _ => none
  | d + 1, mn, as, hp => match ce_m mn with
    | some y => if nhOw[ce_ow mn]? = some y.1.cls ∧ ce_sum as ≤ y.2.2.1 then ce_run (ce_exec fuel d) (ce_ow mn) y.2.2.1 (decide (1000 ≤ mn)) (ce_ck (ce_dt mn)) y.2.2.2.1 fuel (0, ce_lo0 0 as, [], hp) 0 0 else none
    | none => none
theorem ce_run_mono {call : Nat → List ceV → ceHp → Option ceO} {own nL : Nat} {ini : Bool} {dt : List nhDt} {rt : Option FieldType} : ∀ {f : Nat} {S : ceS} {cn cz : Nat} {r : Option ceV} {hp : ceHp} {a b : Nat}, ce_run call own nL ini dt rt f S cn cz = some (r, hp, a, b) → cn ≤ a ∧ cz ≤ b
  | 0, _, _, _, _, _, _, _, h => by cases h
  | f + 1, S, cn, cz, r, hp, a, b, h => by
    unfold ce_run at h
    rw [ce_fN_eq] at h
    split at h
    · split at h
      · split at h
        · cases h; exact ⟨Nat.le_refl _, Nat.le_refl _⟩
        · cases h
      · split at h
        · split at h
          · have := ce_run_mono h; omega
          · cases h
        · split at h
          · exact ce_run_mono h
          · split at h
            · split at h
              · split at h
                · have := ce_run_mono h; omega
                · cases h
              · cases h
            · cases h
    · cases h
section CE8
variable {p : Program} {l : Launch} {e : Env} {R : Room} {s : State} {m : MethodId} {args : Array Value} {below : List Frame} {meth : Method} {c : Code} {Q : State → Prop} {cc : ByteArray} {own : Nat} {D : nhD} {ρ : Nat → Int32} {B : Nat} {H0 : Heap} {nL : Nat}
theorem ce_one_ok (hF : nhFx p c s m args cc nL own D) {ini : Bool} (hini : ini = true → meth.name = "<init>") (hf : 1 ≤ R.frames) (hlo : 60 ≤ R.locals) {cn cz pc : Nat} (hc1 : cn ≤ R.cells) (hc2 : cz ≤ R.slots) {i : Instr} {len : Nat} (hd : decode cc pc = .ok (i, len)) {lo : List (Nat × ceV)} {st : List ceV} {hp : ceHp} {S' : ceS} (h : ce_one own nL ini pc i len lo st hp = some S')
    (k : ceGo p l e R s m args below meth c Q D ρ B H0 nL cn cz S') : ceGo p l e R s m args below meth c Q D ρ B H0 nL cn cz (pc, lo, st, hp) := by
  have hx := hF.1
  have hb := hF.2.1
  unfold ce_one at h
  split at h
  · split at h
    · exact ce_arr_ok hF hd h k
    · exact ce_nat_ok hF hf hlo hc1 hc2 hd h k
    · split at h
      · rename_i q hq
        cases h
        exact fun H locs ls hR => ce_op_ok ρ B hx hb hq hd (k H locs ls hR)
      · cases h
  · exact ce_inc_ok hx hb hd h k
  · exact ce_br_ok hx hb hd h k
  · exact ce_fld_ok hF hini hd h k
  · exact ce_fld_ok hF hini hd h k
  · exact ce_arr_ok hF hd h k
  · exact ce_arr_ok hF hd h k
  · exact ce_arr_ok hF hd h k
  · exact ce_ldc_ok hF hd h k
  · exact ce_nat_ok hF hf hlo hc1 hc2 hd h k
  · exact ce_mov_ok hx hb hd h k
theorem ce_run_ok (hF : nhFx p c s m args cc nL own D) {dt : List nhDt} (hdt : ∀ (pc : Nat) (q : Instr × Nat), ce_dk dt pc = some q → decode cc pc = .ok q) (hNs : ceNs s) {ini : Bool} (hini : ini = true → meth.name = "<init>") {rt : Option FieldType} (hr : meth.sig.returnType = rt) (hlocks : meth.locks = false) {d : Nat} {call : Nat → List ceV → ceHp → Option ceO} (hcall : ∀ mn as hp r hp' c1 z1, call mn as hp = some (r, hp', c1, z1) → ∃ y, ce_m mn = some y ∧ ceMet y d as hp r hp' c1 z1) {rv : Option ceV} {hpE : ceHp} {C Z : Nat} (hRm : R = ceRm (d + 1) C Z) :
    ∀ (f : Nat) (S : ceS) (cn cz : Nat), ce_run call own nL ini dt rt f S cn cz = some (rv, hpE, C, Z) → ceGo p l e R s m args below meth c (MQ below (ceQc D ρ B H0 rv hpE) args s C Z (fun a => B ≤ a)) D ρ B H0 nL cn cz S
  | 0, _, _, _, h => by cases h
  | f + 1, S, cn, cz, h => by
    have hmono := ce_run_mono h
    obtain ⟨pc, lo, st, hp⟩ := S
    have hf1 : 1 ≤ R.frames := by rw [hRm]; show 1 ≤ d + 1; omega
    have hlo1 : 60 ≤ R.locals := by rw [hRm]; show 60 ≤ 60 * (d + 1); omega
    have hC1 : R.cells = C := by rw [hRm]; rfl
    have hZ1 : R.slots = Z := by rw [hRm]; rfl
    unfold ce_run at h
    rw [ce_fN_eq] at h
    split at h
    · rename_i w hw'
      have hw : decode cc pc = .ok w := hdt _ _ hw'
      split at h
      · split at h
        · rename_i r hret
          cases h
          exact ce_ret_ok hF.1 hF.2.1 hr hlocks hw hret
        · cases h
      · split at h
        · split at h
          · rename_i q hq
            have hm2 := ce_run_mono h
            exact ce_new_ok hF hNs.2 hw hq (by omega) (by omega) (ce_run_ok hF hdt hNs hini hr hlocks hcall hRm f _ _ _ h)
          · cases h
        · split at h
          · rename_i S' hS'
            exact ce_one_ok hF hini hf1 hlo1 (by omega) (by omega) hw hS' (ce_run_ok hF hdt hNs hini hr hlocks hcall hRm f _ _ _ h)
          · split at h
            · rename_i q hq
              split at h
              · rename_i h3
                split at h
                · rename_i o ho
                  have hm2 := ce_run_mono h
                  obtain ⟨r1, hp1, c1, z1⟩ := o
                  dsimp only at hm2
                  obtain ⟨y, hy, hM⟩ := hcall _ _ _ _ _ _ _ ho
                  have hw' : decode cc pc = .ok (w.1, 3) := by rw [hw, ← h3]
                  exact ce_cl_ok hF hNs hRm (mn := q.1) (as := q.2.1) (rest := q.2.2) hq hw' hy hM (by omega) (by omega) (ce_run_ok hF hdt hNs hini hr hlocks hcall hRm f _ _ _ h)
                · cases h
              · cases h
            · cases h
    · cases h
end CE8
theorem ce_lo0_eq (ρ : Nat → Int32) (B : Nat) : ∀ (as : List ceV) (n : Nat), (ce_lo0 n as).map (fun q => (q.1, ce_c ρ B q.2)) = lv_args n (as.map (ce_c ρ B))
  | [], _ => rfl
  | v :: r, n => by
    simp only [ce_lo0, List.map_cons, lv_args]
    rw [ce_lo0_eq ρ B r, ce_cat]
    by_cases h : ce_ty v = 1
    · simp [h]
    · simp [h]
theorem ce_slen (ρ : Nat → Int32) (B : Nat) : ∀ (as : List ceV), (lg_sl (as.map (ce_c ρ B))).length = ce_sum as
  | [] => rfl
  | v :: r => by
    have ih := ce_slen ρ B r
    simp only [lg_sl, List.map_cons, List.flatMap_cons, List.length_append, ce_sum, List.sum_cons] at ih ⊢
    rw [ih, ce_cat]
    by_cases h : ce_ty v = 1
    · simp [h]
    · simp [h]
theorem ce_exec_ok (fuel : Nat) : ∀ (d mn : Nat) (as : List ceV) (hp : ceHp) (r : Option ceV) (hp' : ceHp) (c1 z1 : Nat), ce_exec fuel d mn as hp = some (r, hp', c1, z1) → ∃ y, ce_m mn = some y ∧ ceMet y d as hp r hp' c1 z1
  | 0, _, _, _, _, _, _, _, h => by cases h
  | d + 1, mn, as, hp, r, hp', c1, z1, h => by
    unfold ce_exec at h
    split at h
    · rename_i y hy
      refine ⟨y, hy, ?_⟩
      split at h
      · rename_i hcs
        · obtain ⟨hC, hsum⟩ := hcs
          have hcls : Cond.code y.1 y.2.1 y.2.2.1 y.2.2.2.1 ∈ nhTb ∧ plainName y.1.cls = true ∧ (decide (1000 ≤ mn) = true → y.1.name = "<init>") := by
            unfold ce_m at hy
            split at hy
            · rename_i hlt
              obtain ⟨m1, m2, m3, m4, m5, m6⟩ := nh_mt_ok hy
              exact ⟨m1, m6, fun hq => absurd (of_decide_eq_true hq) (by omega)⟩
            · obtain ⟨m1, m2, m3, m4, m5⟩ := ce_ct_ok hy
              exact ⟨m1, m5, fun _ => m4.1⟩
          intro l D ρ B H0
          refine Met.ofW (cc := y.2.1) (maxL := y.2.2.1) (ret := y.2.2.2.1) hcls.2.1 rfl ?_
          intro p e s m args below meth c s₁ Bd hml hv
          obtain ⟨rfl, hH, hK, hNs⟩ := hv
          have hts := atoms_spec (ws := nhWs y) Bd.pre
          have hF : nhFx p c s m (as.map (ce_c ρ B)).toArray y.2.1 y.2.2.1 (ce_ow mn) D := ⟨Bd.exec, Bd.bytes, hml, ⟨_, hC, findClass_of_methodNamed Bd.named⟩, fun w hw => hts w (List.mem_cons_of_mem _ hw), hK⟩
          have hin : meth.name = y.1.name := (name_of_methodNamed Bd.named Bd.method).1
          have hlv := lv_entry (as.map (ce_c ρ B)) (n := y.2.2.1) (by rw [ce_slen]; exact hsum)
          rw [lg_entry_eq]
          generalize (lg_sl (as.map (ce_c ρ B)) ++ List.replicate (y.2.2.1 - (lg_sl (as.map (ce_c ρ B))).length) Slot.unset).toArray = ls at hlv ⊢
          refine ce_run_ok hF (fun _ _ hq => ce_dk_ok (ce_dt_ok hy) hq) hNs (fun hq => hin.trans (hcls.2.2 hq)) Bd.returns Bd.notSynchronized (fun mn as hp r hp' c1 z1 hc => ce_exec_ok fuel d mn as hp r hp' c1 z1 hc) rfl fuel _ 0 0 h s.heap [] ls ⟨hlv.1, hlv.2.1, fun q hq => ?_, hH, (fun q hq => by cases hq)⟩
          exact hlv.2.2 (q.1, ce_c ρ B q.2) (by rw [← ce_lo0_eq]; exact List.mem_map.mpr ⟨q, hq, rfl⟩)
      · cases h
    · cases h
end
section
/-! the heap behind the constructors -/
def ce_Is (l : List Nat) : List ceV := l.map (fun n => (0, Int.ofNat n))
def ce_Rs (l : List Nat) : List ceV := l.map (fun n => (2, Int.ofNat n))
def ce_eqI : Int → Int → Bool
  | .ofNat a, .ofNat b => Nat.beq a b
  | .negSucc a, .negSucc b => Nat.beq a b
  | _, _ => false
theorem ce_eqI_ok {a b : Int} (h : ce_eqI a b = true) : a = b := by
  cases a with
  | ofNat a => cases b with
    | ofNat b => rw [Nat.eq_of_beq_eq_true h]
    | negSucc b => cases h
  | negSucc a => cases b with
    | ofNat b => cases h
    | negSucc b => rw [Nat.eq_of_beq_eq_true h]
def ce_eqL {α : Type} (f : α → α → Bool) : List α → List α → Bool
  | [], [] => true
  | a :: r, b :: t => f a b && ce_eqL f r t
  | _, _ => false
theorem ce_eqL_ok {α : Type} {f : α → α → Bool} (hf : ∀ a b, f a b = true → a = b) : ∀ (l m : List α), ce_eqL f l m = true → l = m
  | [], [], _ => rfl
  | a :: r, b :: t, h => by
    rw [ce_eqL, Bool.and_eq_true] at h
    rw [hf a b h.1, ce_eqL_ok hf r t h.2]
  | [], _ :: _, h => by cases h
  | _ :: _, [], h => by cases h
def ce_eqV (a b : ceV) : Bool := Nat.beq a.1 b.1 && ce_eqI a.2 b.2
theorem ce_eqV_ok (a b : ceV) (h : ce_eqV a b = true) : a = b := by
  obtain ⟨a1, a2⟩ := a
  obtain ⟨b1, b2⟩ := b
  rw [ce_eqV, Bool.and_eq_true] at h
  have h1 := Nat.eq_of_beq_eq_true h.1
  have h2 := ce_eqI_ok h.2
  dsimp only at h1 h2
  rw [h1, h2]
def ce_eqC (a b : ceC) : Bool := Nat.beq a.1 b.1 && (Nat.beq a.2.1 b.2.1 && ce_eqL ce_eqV a.2.2 b.2.2)
theorem ce_eqC_ok (a b : ceC) (h : ce_eqC a b = true) : a = b := by
  obtain ⟨a1, a2, a3⟩ := a
  obtain ⟨b1, b2, b3⟩ := b
  rw [ce_eqC, Bool.and_eq_true, Bool.and_eq_true] at h
  have h1 := Nat.eq_of_beq_eq_true h.1
  have h2 := Nat.eq_of_beq_eq_true h.2.1
  have h3 := ce_eqL_ok ce_eqV_ok _ _ h.2.2
  dsimp only at h1 h2 h3
  rw [h1, h2, h3]
def ce_eqH (a b : ceHp) : Bool := Nat.beq a.1 b.1 && ce_eqL (ce_eqL ce_eqC) a.2 b.2
theorem ce_eqH_ok (a b : ceHp) (h : ce_eqH a b = true) : a = b := by
  obtain ⟨a1, a2⟩ := a
  obtain ⟨b1, b2⟩ := b
  rw [ce_eqH, Bool.and_eq_true] at h
  have h1 := Nat.eq_of_beq_eq_true h.1
  have h2 := ce_eqL_ok (fun x y => ce_eqL_ok ce_eqC_ok x y) _ _ h.2
  dsimp only at h1 h2
  rw [h1, h2]
def ce_eqO : Option ceV → Option ceV → Bool
  | none, none => true
  | some a, some b => ce_eqV a b
  | _, _ => false
theorem ce_eqO_ok {a b : Option ceV} (h : ce_eqO a b = true) : a = b := by
  cases a with
  | none => cases b with
    | none => rfl
    | some b => cases h
  | some a => cases b with
    | none => cases h
    | some b => rw [ce_eqV_ok a b h]
def ce_isE (o : Option ceO) (r : Option ceV) (hp : ceHp) (c z : Nat) : Bool := match o with
  | some q => ce_eqO q.1 r && (Nat.beq q.2.2.1 c && (Nat.beq q.2.2.2 z && ce_eqH q.2.1 hp))
  | none => false
theorem ce_isE_ok {o : Option ceO} {r : Option ceV} {hp : ceHp} {c z : Nat} (h : ce_isE o r hp c z = true) : o = some (r, hp, c, z) := by
  cases o with
  | none => cases h
  | some q =>
    obtain ⟨a, b, c', d⟩ := q
    rw [ce_isE, Bool.and_eq_true, Bool.and_eq_true, Bool.and_eq_true] at h
    have h1 := ce_eqO_ok h.1
    have h2 := Nat.eq_of_beq_eq_true h.2.1
    have h3 := Nat.eq_of_beq_eq_true h.2.2.1
    have h4 := ce_eqH_ok _ _ h.2.2.2
    dsimp only at h1 h2 h3 h4
    rw [h1, h2, h3, h4]
def cw0 : ceHp := (1, [[(0, 11, [(3, 0)] ++ ce_Is [0] ++ [(3, 0)] ++ [(3, 0)] ++ [(3, 0)] ++ [(3, 0)] ++ [(3, 0)] ++ [(3, 0)] ++ [(3, 0)] ++ ce_Is [0] ++ [(3, 0)] ++ [(3, 0)] ++ [(3, 0)] ++ [(3, 0)] ++ ce_Is [0] ++ [(3, 0)] ++ ce_Is [0])]])
def cw1 : ceHp := (281, [[(0, 11, ce_Rs [1] ++ ce_Is [0] ++ ce_Rs [2, 11, 20, 23, 27, 31, 197] ++ ce_Is [0] ++ ce_Rs [198, 202, 250, 256] ++ ce_Is [0] ++ ce_Rs [268] ++ ce_Is [0]),
   (1, 1, List.replicate 1600 (0, 0)),
   (0, 3, ce_Rs [3, 4, 8, 9, 10] ++ ce_Is [6, 6, 36, 0] ++ [(1, 0)] ++ ce_Is [0, 2, 0, 0]),
   (1, 0, ce_Is [0, 0, 0, 0, 0]),
   (0, 1, ce_Rs [5, 6, 7] ++ ce_Is [0, 0]),
   (1, 0, List.replicate 300 (0, 0)),
   (1, 0, ce_Is [0, 0, 0, 0, 0, 0]),
   (1, 0, List.replicate 60 (0, 0)),
   (1, 0, ce_Is [0, 1, 2, 3, 4, 5, 0, 1, 2, 3, 4, 5, 0, 1, 2, 3, 4, 5, 0, 1, 2, 3, 4, 5, 0, 1, 2, 3, 4, 5, 0, 1, 2, 3, 4, 5]),
   (1, 0, ce_Is [0, 0, 0, 0, 0, 0, 1, 1, 1, 1, 1, 1, 2, 2, 2, 2, 2, 2, 3, 3, 3, 3, 3, 3, 4, 4, 4, 4, 4, 4, 5, 5, 5, 5, 5, 5]),
   (1, 0, ce_Is [0, 0, 1, 6, 0, 1, 1, 2, 7, 0, 2, 2, 3, 8, 1, 3, 3, 4, 9, 2, 4, 4, 5, 10, 3, 5, 5, 5, 11, 4, 6, 0, 7, 12, 6, 7, 1, 8, 13, 6, 8, 2, 9, 14, 7, 9, 3, 10, 15, 8, 10, 4, 11, 16, 9, 11, 5, 11, 17, 10, 12, 6, 13, 18, 12, 13, 7, 14, 19, 12, 14, 8, 15, 20, 13, 15, 9, 16, 21, 14, 16, 10, 17, 22, 15, 17, 11, 17, 23, 16, 18, 12, 19, 24, 18, 19, 13, 20, 25, 18, 20, 14, 21, 26, 19, 21, 15, 22, 27, 20, 22, 16, 23, 28, 21, 23, 17, 23, 29, 22, 24, 18, 25, 30, 24, 25, 19, 26, 31, 24, 26, 20, 27, 32, 25, 27, 21, 28, 33, 26, 28, 22, 29, 34, 27, 29, 23, 29, 35, 28, 30, 24, 31, 30, 30, 31, 25, 32, 31, 30, 32, 26, 33, 32, 31, 33, 27, 34, 33, 32, 34, 28, 35, 34, 33, 35, 29, 35, 35, 34]),
   (0, 3, ce_Rs [12, 13, 17, 18, 19] ++ ce_Is [0, 0, 0, 0] ++ [(1, 0)] ++ ce_Is [0, 0, 0, 0]),
   (1, 0, ce_Is [0, 0, 0, 0, 0]),
   (0, 1, ce_Rs [14, 15, 16] ++ ce_Is [0, 0]),
   (1, 0, List.replicate 300 (0, 0)),
   (1, 0, ce_Is [0, 0, 0, 0, 0, 0])],
  [(1, 0, List.replicate 60 (0, 0)),
   (1, 0, List.replicate 36 (0, 0)),
   (1, 0, List.replicate 36 (0, 0)),
   (1, 0, List.replicate 180 (0, 0)),
   (0, 6, ce_Rs [21, 22] ++ [(3, 0)] ++ List.replicate 9 (0, 0) ++ [(0, -1)]),
   (0, 9, [(3, 0)] ++ ce_Is [0, 0, 0, 0, 0] ++ [(1, 0)]),
   (1, 2, [(1, 0)] ++ [(1, 0)] ++ [(1, 0)] ++ [(1, 0)] ++ [(1, 0)]),
   (0, 4, ce_Rs [24, 25, 26] ++ [(1, 0)] ++ ce_Is [0, 0, 0, 0]),
   (1, 0, ce_Is [0, 0, 0, 0, 0]),
   (1, 0, ce_Is [0, 0, 0, 0, 0]),
   (1, 0, ce_Is [0, 0, 0, 0, 0]),
   (0, 4, ce_Rs [28, 29, 30] ++ [(1, 0)] ++ ce_Is [0, 0, 0, 0]),
   (1, 0, ce_Is [0, 0, 0, 0, 0]),
   (1, 0, ce_Is [0, 0, 0, 0, 0]),
   (1, 0, ce_Is [0, 0, 0, 0, 0]),
   (0, 2, ce_Rs [32] ++ ce_Is [0, 0, 0])],
  [(1, 4, ce_Rs [33, 37, 41, 45, 49, 53, 57, 61, 65, 69, 73, 77, 81, 85, 89, 93, 97, 101, 105, 109, 113, 117, 121, 125, 129, 133, 137, 141, 145, 149, 153, 157, 161, 165, 169, 173, 177, 181, 185, 189, 193]),
   (0, 4, ce_Rs [34, 35, 36] ++ [(1, 0)] ++ ce_Is [0, 0, 0, 0]),
   (1, 0, ce_Is [0, 0, 0, 0, 0]),
   (1, 0, ce_Is [0, 0, 0, 0, 0]),
   (1, 0, ce_Is [0, 0, 0, 0, 0]),
   (0, 4, ce_Rs [38, 39, 40] ++ [(1, 0)] ++ ce_Is [0, 0, 0, 0]),
   (1, 0, ce_Is [0, 0, 0, 0, 0]),
   (1, 0, ce_Is [0, 0, 0, 0, 0]),
   (1, 0, ce_Is [0, 0, 0, 0, 0]),
   (0, 4, ce_Rs [42, 43, 44] ++ [(1, 0)] ++ ce_Is [0, 0, 0, 0]),
   (1, 0, ce_Is [0, 0, 0, 0, 0]),
   (1, 0, ce_Is [0, 0, 0, 0, 0]),
   (1, 0, ce_Is [0, 0, 0, 0, 0]),
   (0, 4, ce_Rs [46, 47, 48] ++ [(1, 0)] ++ ce_Is [0, 0, 0, 0]),
   (1, 0, ce_Is [0, 0, 0, 0, 0]),
   (1, 0, ce_Is [0, 0, 0, 0, 0])],
  [(1, 0, ce_Is [0, 0, 0, 0, 0]),
   (0, 4, ce_Rs [50, 51, 52] ++ [(1, 0)] ++ ce_Is [0, 0, 0, 0]),
   (1, 0, ce_Is [0, 0, 0, 0, 0]),
   (1, 0, ce_Is [0, 0, 0, 0, 0]),
   (1, 0, ce_Is [0, 0, 0, 0, 0]),
   (0, 4, ce_Rs [54, 55, 56] ++ [(1, 0)] ++ ce_Is [0, 0, 0, 0]),
   (1, 0, ce_Is [0, 0, 0, 0, 0]),
   (1, 0, ce_Is [0, 0, 0, 0, 0]),
   (1, 0, ce_Is [0, 0, 0, 0, 0]),
   (0, 4, ce_Rs [58, 59, 60] ++ [(1, 0)] ++ ce_Is [0, 0, 0, 0]),
   (1, 0, ce_Is [0, 0, 0, 0, 0]),
   (1, 0, ce_Is [0, 0, 0, 0, 0]),
   (1, 0, ce_Is [0, 0, 0, 0, 0]),
   (0, 4, ce_Rs [62, 63, 64] ++ [(1, 0)] ++ ce_Is [0, 0, 0, 0]),
   (1, 0, ce_Is [0, 0, 0, 0, 0]),
   (1, 0, ce_Is [0, 0, 0, 0, 0])],
  [(1, 0, ce_Is [0, 0, 0, 0, 0]),
   (0, 4, ce_Rs [66, 67, 68] ++ [(1, 0)] ++ ce_Is [0, 0, 0, 0]),
   (1, 0, ce_Is [0, 0, 0, 0, 0]),
   (1, 0, ce_Is [0, 0, 0, 0, 0]),
   (1, 0, ce_Is [0, 0, 0, 0, 0]),
   (0, 4, ce_Rs [70, 71, 72] ++ [(1, 0)] ++ ce_Is [0, 0, 0, 0]),
   (1, 0, ce_Is [0, 0, 0, 0, 0]),
   (1, 0, ce_Is [0, 0, 0, 0, 0]),
   (1, 0, ce_Is [0, 0, 0, 0, 0]),
   (0, 4, ce_Rs [74, 75, 76] ++ [(1, 0)] ++ ce_Is [0, 0, 0, 0]),
   (1, 0, ce_Is [0, 0, 0, 0, 0]),
   (1, 0, ce_Is [0, 0, 0, 0, 0]),
   (1, 0, ce_Is [0, 0, 0, 0, 0]),
   (0, 4, ce_Rs [78, 79, 80] ++ [(1, 0)] ++ ce_Is [0, 0, 0, 0]),
   (1, 0, ce_Is [0, 0, 0, 0, 0]),
   (1, 0, ce_Is [0, 0, 0, 0, 0])],
  [(1, 0, ce_Is [0, 0, 0, 0, 0]),
   (0, 4, ce_Rs [82, 83, 84] ++ [(1, 0)] ++ ce_Is [0, 0, 0, 0]),
   (1, 0, ce_Is [0, 0, 0, 0, 0]),
   (1, 0, ce_Is [0, 0, 0, 0, 0]),
   (1, 0, ce_Is [0, 0, 0, 0, 0]),
   (0, 4, ce_Rs [86, 87, 88] ++ [(1, 0)] ++ ce_Is [0, 0, 0, 0]),
   (1, 0, ce_Is [0, 0, 0, 0, 0]),
   (1, 0, ce_Is [0, 0, 0, 0, 0]),
   (1, 0, ce_Is [0, 0, 0, 0, 0]),
   (0, 4, ce_Rs [90, 91, 92] ++ [(1, 0)] ++ ce_Is [0, 0, 0, 0]),
   (1, 0, ce_Is [0, 0, 0, 0, 0]),
   (1, 0, ce_Is [0, 0, 0, 0, 0]),
   (1, 0, ce_Is [0, 0, 0, 0, 0]),
   (0, 4, ce_Rs [94, 95, 96] ++ [(1, 0)] ++ ce_Is [0, 0, 0, 0]),
   (1, 0, ce_Is [0, 0, 0, 0, 0]),
   (1, 0, ce_Is [0, 0, 0, 0, 0])],
  [(1, 0, ce_Is [0, 0, 0, 0, 0]),
   (0, 4, ce_Rs [98, 99, 100] ++ [(1, 0)] ++ ce_Is [0, 0, 0, 0]),
   (1, 0, ce_Is [0, 0, 0, 0, 0]),
   (1, 0, ce_Is [0, 0, 0, 0, 0]),
   (1, 0, ce_Is [0, 0, 0, 0, 0]),
   (0, 4, ce_Rs [102, 103, 104] ++ [(1, 0)] ++ ce_Is [0, 0, 0, 0]),
   (1, 0, ce_Is [0, 0, 0, 0, 0]),
   (1, 0, ce_Is [0, 0, 0, 0, 0]),
   (1, 0, ce_Is [0, 0, 0, 0, 0]),
   (0, 4, ce_Rs [106, 107, 108] ++ [(1, 0)] ++ ce_Is [0, 0, 0, 0]),
   (1, 0, ce_Is [0, 0, 0, 0, 0]),
   (1, 0, ce_Is [0, 0, 0, 0, 0]),
   (1, 0, ce_Is [0, 0, 0, 0, 0]),
   (0, 4, ce_Rs [110, 111, 112] ++ [(1, 0)] ++ ce_Is [0, 0, 0, 0]),
   (1, 0, ce_Is [0, 0, 0, 0, 0]),
   (1, 0, ce_Is [0, 0, 0, 0, 0])],
  [(1, 0, ce_Is [0, 0, 0, 0, 0]),
   (0, 4, ce_Rs [114, 115, 116] ++ [(1, 0)] ++ ce_Is [0, 0, 0, 0]),
   (1, 0, ce_Is [0, 0, 0, 0, 0]),
   (1, 0, ce_Is [0, 0, 0, 0, 0]),
   (1, 0, ce_Is [0, 0, 0, 0, 0]),
   (0, 4, ce_Rs [118, 119, 120] ++ [(1, 0)] ++ ce_Is [0, 0, 0, 0]),
   (1, 0, ce_Is [0, 0, 0, 0, 0]),
   (1, 0, ce_Is [0, 0, 0, 0, 0]),
   (1, 0, ce_Is [0, 0, 0, 0, 0]),
   (0, 4, ce_Rs [122, 123, 124] ++ [(1, 0)] ++ ce_Is [0, 0, 0, 0]),
   (1, 0, ce_Is [0, 0, 0, 0, 0]),
   (1, 0, ce_Is [0, 0, 0, 0, 0]),
   (1, 0, ce_Is [0, 0, 0, 0, 0]),
   (0, 4, ce_Rs [126, 127, 128] ++ [(1, 0)] ++ ce_Is [0, 0, 0, 0]),
   (1, 0, ce_Is [0, 0, 0, 0, 0]),
   (1, 0, ce_Is [0, 0, 0, 0, 0])],
  [(1, 0, ce_Is [0, 0, 0, 0, 0]),
   (0, 4, ce_Rs [130, 131, 132] ++ [(1, 0)] ++ ce_Is [0, 0, 0, 0]),
   (1, 0, ce_Is [0, 0, 0, 0, 0]),
   (1, 0, ce_Is [0, 0, 0, 0, 0]),
   (1, 0, ce_Is [0, 0, 0, 0, 0]),
   (0, 4, ce_Rs [134, 135, 136] ++ [(1, 0)] ++ ce_Is [0, 0, 0, 0]),
   (1, 0, ce_Is [0, 0, 0, 0, 0]),
   (1, 0, ce_Is [0, 0, 0, 0, 0]),
   (1, 0, ce_Is [0, 0, 0, 0, 0]),
   (0, 4, ce_Rs [138, 139, 140] ++ [(1, 0)] ++ ce_Is [0, 0, 0, 0]),
   (1, 0, ce_Is [0, 0, 0, 0, 0]),
   (1, 0, ce_Is [0, 0, 0, 0, 0]),
   (1, 0, ce_Is [0, 0, 0, 0, 0]),
   (0, 4, ce_Rs [142, 143, 144] ++ [(1, 0)] ++ ce_Is [0, 0, 0, 0]),
   (1, 0, ce_Is [0, 0, 0, 0, 0]),
   (1, 0, ce_Is [0, 0, 0, 0, 0])],
  [(1, 0, ce_Is [0, 0, 0, 0, 0]),
   (0, 4, ce_Rs [146, 147, 148] ++ [(1, 0)] ++ ce_Is [0, 0, 0, 0]),
   (1, 0, ce_Is [0, 0, 0, 0, 0]),
   (1, 0, ce_Is [0, 0, 0, 0, 0]),
   (1, 0, ce_Is [0, 0, 0, 0, 0]),
   (0, 4, ce_Rs [150, 151, 152] ++ [(1, 0)] ++ ce_Is [0, 0, 0, 0]),
   (1, 0, ce_Is [0, 0, 0, 0, 0]),
   (1, 0, ce_Is [0, 0, 0, 0, 0]),
   (1, 0, ce_Is [0, 0, 0, 0, 0]),
   (0, 4, ce_Rs [154, 155, 156] ++ [(1, 0)] ++ ce_Is [0, 0, 0, 0]),
   (1, 0, ce_Is [0, 0, 0, 0, 0]),
   (1, 0, ce_Is [0, 0, 0, 0, 0]),
   (1, 0, ce_Is [0, 0, 0, 0, 0]),
   (0, 4, ce_Rs [158, 159, 160] ++ [(1, 0)] ++ ce_Is [0, 0, 0, 0]),
   (1, 0, ce_Is [0, 0, 0, 0, 0]),
   (1, 0, ce_Is [0, 0, 0, 0, 0])],
  [(1, 0, ce_Is [0, 0, 0, 0, 0]),
   (0, 4, ce_Rs [162, 163, 164] ++ [(1, 0)] ++ ce_Is [0, 0, 0, 0]),
   (1, 0, ce_Is [0, 0, 0, 0, 0]),
   (1, 0, ce_Is [0, 0, 0, 0, 0]),
   (1, 0, ce_Is [0, 0, 0, 0, 0]),
   (0, 4, ce_Rs [166, 167, 168] ++ [(1, 0)] ++ ce_Is [0, 0, 0, 0]),
   (1, 0, ce_Is [0, 0, 0, 0, 0]),
   (1, 0, ce_Is [0, 0, 0, 0, 0]),
   (1, 0, ce_Is [0, 0, 0, 0, 0]),
   (0, 4, ce_Rs [170, 171, 172] ++ [(1, 0)] ++ ce_Is [0, 0, 0, 0]),
   (1, 0, ce_Is [0, 0, 0, 0, 0]),
   (1, 0, ce_Is [0, 0, 0, 0, 0]),
   (1, 0, ce_Is [0, 0, 0, 0, 0]),
   (0, 4, ce_Rs [174, 175, 176] ++ [(1, 0)] ++ ce_Is [0, 0, 0, 0]),
   (1, 0, ce_Is [0, 0, 0, 0, 0]),
   (1, 0, ce_Is [0, 0, 0, 0, 0])],
  [(1, 0, ce_Is [0, 0, 0, 0, 0]),
   (0, 4, ce_Rs [178, 179, 180] ++ [(1, 0)] ++ ce_Is [0, 0, 0, 0]),
   (1, 0, ce_Is [0, 0, 0, 0, 0]),
   (1, 0, ce_Is [0, 0, 0, 0, 0]),
   (1, 0, ce_Is [0, 0, 0, 0, 0]),
   (0, 4, ce_Rs [182, 183, 184] ++ [(1, 0)] ++ ce_Is [0, 0, 0, 0]),
   (1, 0, ce_Is [0, 0, 0, 0, 0]),
   (1, 0, ce_Is [0, 0, 0, 0, 0]),
   (1, 0, ce_Is [0, 0, 0, 0, 0]),
   (0, 4, ce_Rs [186, 187, 188] ++ [(1, 0)] ++ ce_Is [0, 0, 0, 0]),
   (1, 0, ce_Is [0, 0, 0, 0, 0]),
   (1, 0, ce_Is [0, 0, 0, 0, 0]),
   (1, 0, ce_Is [0, 0, 0, 0, 0]),
   (0, 4, ce_Rs [190, 191, 192] ++ [(1, 0)] ++ ce_Is [0, 0, 0, 0]),
   (1, 0, ce_Is [0, 0, 0, 0, 0]),
   (1, 0, ce_Is [0, 0, 0, 0, 0])],
  [(1, 0, ce_Is [0, 0, 0, 0, 0]),
   (0, 4, ce_Rs [194, 195, 196] ++ [(1, 0)] ++ ce_Is [0, 0, 0, 0]),
   (1, 0, ce_Is [0, 0, 0, 0, 0]),
   (1, 0, ce_Is [0, 0, 0, 0, 0]),
   (1, 0, ce_Is [0, 0, 0, 0, 0]),
   (1, 4, ce_Rs [269, 273, 277]),
   (0, 10, ce_Rs [199, 200, 201] ++ ce_Is [0]),
   (1, 0, List.replicate 36 (0, 0)),
   (1, 0, List.replicate 36 (0, 0)),
   (1, 0, List.replicate 36 (0, 0)),
   (0, 5, ce_Rs [203, 204, 205] ++ [(3, 0)] ++ ce_Is [0, 0, 0]),
   (1, 0, List.replicate 10 (0, 0)),
   (1, 0, List.replicate 10 (0, 0)),
   (1, 4, ce_Rs [206, 210, 214, 218, 222, 226, 230, 234, 238, 242, 246]),
   (0, 4, ce_Rs [207, 208, 209] ++ [(1, 0)] ++ ce_Is [0, 0, 0, 0]),
   (1, 0, ce_Is [0, 0, 0, 0, 0])],
  [(1, 0, ce_Is [0, 0, 0, 0, 0]),
   (1, 0, ce_Is [0, 0, 0, 0, 0]),
   (0, 4, ce_Rs [211, 212, 213] ++ [(1, 0)] ++ ce_Is [0, 0, 0, 0]),
   (1, 0, ce_Is [0, 0, 0, 0, 0]),
   (1, 0, ce_Is [0, 0, 0, 0, 0]),
   (1, 0, ce_Is [0, 0, 0, 0, 0]),
   (0, 4, ce_Rs [215, 216, 217] ++ [(1, 0)] ++ ce_Is [0, 0, 0, 0]),
   (1, 0, ce_Is [0, 0, 0, 0, 0]),
   (1, 0, ce_Is [0, 0, 0, 0, 0]),
   (1, 0, ce_Is [0, 0, 0, 0, 0]),
   (0, 4, ce_Rs [219, 220, 221] ++ [(1, 0)] ++ ce_Is [0, 0, 0, 0]),
   (1, 0, ce_Is [0, 0, 0, 0, 0]),
   (1, 0, ce_Is [0, 0, 0, 0, 0]),
   (1, 0, ce_Is [0, 0, 0, 0, 0]),
   (0, 4, ce_Rs [223, 224, 225] ++ [(1, 0)] ++ ce_Is [0, 0, 0, 0]),
   (1, 0, ce_Is [0, 0, 0, 0, 0])],
  [(1, 0, ce_Is [0, 0, 0, 0, 0]),
   (1, 0, ce_Is [0, 0, 0, 0, 0]),
   (0, 4, ce_Rs [227, 228, 229] ++ [(1, 0)] ++ ce_Is [0, 0, 0, 0]),
   (1, 0, ce_Is [0, 0, 0, 0, 0]),
   (1, 0, ce_Is [0, 0, 0, 0, 0]),
   (1, 0, ce_Is [0, 0, 0, 0, 0]),
   (0, 4, ce_Rs [231, 232, 233] ++ [(1, 0)] ++ ce_Is [0, 0, 0, 0]),
   (1, 0, ce_Is [0, 0, 0, 0, 0]),
   (1, 0, ce_Is [0, 0, 0, 0, 0]),
   (1, 0, ce_Is [0, 0, 0, 0, 0]),
   (0, 4, ce_Rs [235, 236, 237] ++ [(1, 0)] ++ ce_Is [0, 0, 0, 0]),
   (1, 0, ce_Is [0, 0, 0, 0, 0]),
   (1, 0, ce_Is [0, 0, 0, 0, 0]),
   (1, 0, ce_Is [0, 0, 0, 0, 0]),
   (0, 4, ce_Rs [239, 240, 241] ++ [(1, 0)] ++ ce_Is [0, 0, 0, 0]),
   (1, 0, ce_Is [0, 0, 0, 0, 0])],
  [(1, 0, ce_Is [0, 0, 0, 0, 0]),
   (1, 0, ce_Is [0, 0, 0, 0, 0]),
   (0, 4, ce_Rs [243, 244, 245] ++ [(1, 0)] ++ ce_Is [0, 0, 0, 0]),
   (1, 0, ce_Is [0, 0, 0, 0, 0]),
   (1, 0, ce_Is [0, 0, 0, 0, 0]),
   (1, 0, ce_Is [0, 0, 0, 0, 0]),
   (0, 4, ce_Rs [247, 248, 249] ++ [(1, 0)] ++ ce_Is [0, 0, 0, 0]),
   (1, 0, ce_Is [0, 0, 0, 0, 0]),
   (1, 0, ce_Is [0, 0, 0, 0, 0]),
   (1, 0, ce_Is [0, 0, 0, 0, 0]),
   (0, 0, ce_Rs [251, 255] ++ [(3, 0)] ++ [(3, 0)] ++ ce_Is [0, 0, 0, 0, 0]),
   (0, 4, ce_Rs [252, 253, 254] ++ [(1, 0)] ++ ce_Is [0, 0, 0, 0]),
   (1, 0, ce_Is [0, 0, 0, 0, 0]),
   (1, 0, ce_Is [0, 0, 0, 0, 0]),
   (1, 0, ce_Is [0, 0, 0, 0, 0]),
   (1, 2, List.replicate 36 (1, 0))],
  [(0, 7, ce_Rs [257, 258, 259, 260, 261, 262, 263, 264] ++ ce_Is [0, 0]),
   (1, 0, List.replicate 30 (0, 0)),
   (1, 0, List.replicate 30 (0, 0)),
   (1, 3, List.replicate 30 (0, 0)),
   (1, 0, List.replicate 30 (0, 0)),
   (1, 0, List.replicate 30 (0, 0)),
   (1, 0, List.replicate 468 (0, 0)),
   (1, 0, List.replicate 36 (0, 0)),
   (0, 4, ce_Rs [265, 266, 267] ++ [(1, 0)] ++ ce_Is [0, 0, 0, 0]),
   (1, 0, ce_Is [0, 0, 0, 0, 0]),
   (1, 0, ce_Is [0, 0, 0, 0, 0]),
   (1, 0, ce_Is [0, 0, 0, 0, 0]),
   (1, 0, List.replicate 10 (0, 0)),
   (0, 4, ce_Rs [270, 271, 272] ++ [(1, 0)] ++ ce_Is [0, 0, 0, 0]),
   (1, 0, ce_Is [0, 0, 0, 0, 0]),
   (1, 0, ce_Is [0, 0, 0, 0, 0])],
  [(1, 0, ce_Is [0, 0, 0, 0, 0]),
   (0, 4, ce_Rs [274, 275, 276] ++ [(1, 0)] ++ ce_Is [0, 0, 0, 0]),
   (1, 0, ce_Is [0, 0, 0, 0, 0]),
   (1, 0, ce_Is [0, 0, 0, 0, 0]),
   (1, 0, ce_Is [0, 0, 0, 0, 0]),
   (0, 4, ce_Rs [278, 279, 280] ++ [(1, 0)] ++ ce_Is [0, 0, 0, 0]),
   (1, 0, ce_Is [0, 0, 0, 0, 0]),
   (1, 0, ce_Is [0, 0, 0, 0, 0]),
   (1, 0, ce_Is [0, 0, 0, 0, 0])]])
end
section
/-! both constructors, walked -/
set_option maxRecDepth 1000000 in
theorem cw1_ok : ce_exec 4000 12 1000 [(2, 0)] cw0 = some (none, cw1, 280, 5183) := ce_isE_ok (by decide +kernel)
def cw2 : ceHp := (282, [[(0, 11, ce_Rs [1] ++ ce_Is [0] ++ ce_Rs [2, 11, 20, 23, 27, 31, 197] ++ ce_Is [0] ++ ce_Rs [198, 202, 250, 256] ++ ce_Is [0] ++ ce_Rs [268] ++ ce_Is [0]),
   (1, 1, List.replicate 1600 (0, 0)),
   (0, 3, ce_Rs [3, 4, 8, 9, 10] ++ ce_Is [6, 6, 36, 0] ++ [(1, 0)] ++ ce_Is [0, 2, 0, 0]),
   (1, 0, ce_Is [0, 0, 0, 0, 0]),
   (0, 1, ce_Rs [5, 6, 7] ++ ce_Is [0, 0]),
   (1, 0, List.replicate 300 (0, 0)),
   (1, 0, ce_Is [0, 0, 0, 0, 0, 0]),
   (1, 0, List.replicate 60 (0, 0)),
   (1, 0, ce_Is [0, 1, 2, 3, 4, 5, 0, 1, 2, 3, 4, 5, 0, 1, 2, 3, 4, 5, 0, 1, 2, 3, 4, 5, 0, 1, 2, 3, 4, 5, 0, 1, 2, 3, 4, 5]),
   (1, 0, ce_Is [0, 0, 0, 0, 0, 0, 1, 1, 1, 1, 1, 1, 2, 2, 2, 2, 2, 2, 3, 3, 3, 3, 3, 3, 4, 4, 4, 4, 4, 4, 5, 5, 5, 5, 5, 5]),
   (1, 0, ce_Is [0, 0, 1, 6, 0, 1, 1, 2, 7, 0, 2, 2, 3, 8, 1, 3, 3, 4, 9, 2, 4, 4, 5, 10, 3, 5, 5, 5, 11, 4, 6, 0, 7, 12, 6, 7, 1, 8, 13, 6, 8, 2, 9, 14, 7, 9, 3, 10, 15, 8, 10, 4, 11, 16, 9, 11, 5, 11, 17, 10, 12, 6, 13, 18, 12, 13, 7, 14, 19, 12, 14, 8, 15, 20, 13, 15, 9, 16, 21, 14, 16, 10, 17, 22, 15, 17, 11, 17, 23, 16, 18, 12, 19, 24, 18, 19, 13, 20, 25, 18, 20, 14, 21, 26, 19, 21, 15, 22, 27, 20, 22, 16, 23, 28, 21, 23, 17, 23, 29, 22, 24, 18, 25, 30, 24, 25, 19, 26, 31, 24, 26, 20, 27, 32, 25, 27, 21, 28, 33, 26, 28, 22, 29, 34, 27, 29, 23, 29, 35, 28, 30, 24, 31, 30, 30, 31, 25, 32, 31, 30, 32, 26, 33, 32, 31, 33, 27, 34, 33, 32, 34, 28, 35, 34, 33, 35, 29, 35, 35, 34]),
   (0, 3, ce_Rs [12, 13, 17, 18, 19] ++ ce_Is [0, 0, 0, 0] ++ [(1, 0)] ++ ce_Is [0, 0, 0, 0]),
   (1, 0, ce_Is [0, 0, 0, 0, 0]),
   (0, 1, ce_Rs [14, 15, 16] ++ ce_Is [0, 0]),
   (1, 0, List.replicate 300 (0, 0)),
   (1, 0, ce_Is [0, 0, 0, 0, 0, 0])],
  [(1, 0, List.replicate 60 (0, 0)),
   (1, 0, List.replicate 36 (0, 0)),
   (1, 0, List.replicate 36 (0, 0)),
   (1, 0, List.replicate 180 (0, 0)),
   (0, 6, ce_Rs [21, 22] ++ [(3, 0)] ++ List.replicate 9 (0, 0) ++ [(0, -1)]),
   (0, 9, [(3, 0)] ++ ce_Is [0, 0, 0, 0, 0] ++ [(1, 0)]),
   (1, 2, [(1, 0)] ++ [(1, 0)] ++ [(1, 0)] ++ [(1, 0)] ++ [(1, 0)]),
   (0, 4, ce_Rs [24, 25, 26] ++ [(1, 0)] ++ ce_Is [0, 0, 0, 0]),
   (1, 0, ce_Is [0, 0, 0, 0, 0]),
   (1, 0, ce_Is [0, 0, 0, 0, 0]),
   (1, 0, ce_Is [0, 0, 0, 0, 0]),
   (0, 4, ce_Rs [28, 29, 30] ++ [(1, 0)] ++ ce_Is [0, 0, 0, 0]),
   (1, 0, ce_Is [0, 0, 0, 0, 0]),
   (1, 0, ce_Is [0, 0, 0, 0, 0]),
   (1, 0, ce_Is [0, 0, 0, 0, 0]),
   (0, 2, ce_Rs [32] ++ ce_Is [0, 0, 0])],
  [(1, 4, ce_Rs [33, 37, 41, 45, 49, 53, 57, 61, 65, 69, 73, 77, 81, 85, 89, 93, 97, 101, 105, 109, 113, 117, 121, 125, 129, 133, 137, 141, 145, 149, 153, 157, 161, 165, 169, 173, 177, 181, 185, 189, 193]),
   (0, 4, ce_Rs [34, 35, 36] ++ [(1, 0)] ++ ce_Is [0, 0, 0, 0]),
   (1, 0, ce_Is [0, 0, 0, 0, 0]),
   (1, 0, ce_Is [0, 0, 0, 0, 0]),
   (1, 0, ce_Is [0, 0, 0, 0, 0]),
   (0, 4, ce_Rs [38, 39, 40] ++ [(1, 0)] ++ ce_Is [0, 0, 0, 0]),
   (1, 0, ce_Is [0, 0, 0, 0, 0]),
   (1, 0, ce_Is [0, 0, 0, 0, 0]),
   (1, 0, ce_Is [0, 0, 0, 0, 0]),
   (0, 4, ce_Rs [42, 43, 44] ++ [(1, 0)] ++ ce_Is [0, 0, 0, 0]),
   (1, 0, ce_Is [0, 0, 0, 0, 0]),
   (1, 0, ce_Is [0, 0, 0, 0, 0]),
   (1, 0, ce_Is [0, 0, 0, 0, 0]),
   (0, 4, ce_Rs [46, 47, 48] ++ [(1, 0)] ++ ce_Is [0, 0, 0, 0]),
   (1, 0, ce_Is [0, 0, 0, 0, 0]),
   (1, 0, ce_Is [0, 0, 0, 0, 0])],
  [(1, 0, ce_Is [0, 0, 0, 0, 0]),
   (0, 4, ce_Rs [50, 51, 52] ++ [(1, 0)] ++ ce_Is [0, 0, 0, 0]),
   (1, 0, ce_Is [0, 0, 0, 0, 0]),
   (1, 0, ce_Is [0, 0, 0, 0, 0]),
   (1, 0, ce_Is [0, 0, 0, 0, 0]),
   (0, 4, ce_Rs [54, 55, 56] ++ [(1, 0)] ++ ce_Is [0, 0, 0, 0]),
   (1, 0, ce_Is [0, 0, 0, 0, 0]),
   (1, 0, ce_Is [0, 0, 0, 0, 0]),
   (1, 0, ce_Is [0, 0, 0, 0, 0]),
   (0, 4, ce_Rs [58, 59, 60] ++ [(1, 0)] ++ ce_Is [0, 0, 0, 0]),
   (1, 0, ce_Is [0, 0, 0, 0, 0]),
   (1, 0, ce_Is [0, 0, 0, 0, 0]),
   (1, 0, ce_Is [0, 0, 0, 0, 0]),
   (0, 4, ce_Rs [62, 63, 64] ++ [(1, 0)] ++ ce_Is [0, 0, 0, 0]),
   (1, 0, ce_Is [0, 0, 0, 0, 0]),
   (1, 0, ce_Is [0, 0, 0, 0, 0])],
  [(1, 0, ce_Is [0, 0, 0, 0, 0]),
   (0, 4, ce_Rs [66, 67, 68] ++ [(1, 0)] ++ ce_Is [0, 0, 0, 0]),
   (1, 0, ce_Is [0, 0, 0, 0, 0]),
   (1, 0, ce_Is [0, 0, 0, 0, 0]),
   (1, 0, ce_Is [0, 0, 0, 0, 0]),
   (0, 4, ce_Rs [70, 71, 72] ++ [(1, 0)] ++ ce_Is [0, 0, 0, 0]),
   (1, 0, ce_Is [0, 0, 0, 0, 0]),
   (1, 0, ce_Is [0, 0, 0, 0, 0]),
   (1, 0, ce_Is [0, 0, 0, 0, 0]),
   (0, 4, ce_Rs [74, 75, 76] ++ [(1, 0)] ++ ce_Is [0, 0, 0, 0]),
   (1, 0, ce_Is [0, 0, 0, 0, 0]),
   (1, 0, ce_Is [0, 0, 0, 0, 0]),
   (1, 0, ce_Is [0, 0, 0, 0, 0]),
   (0, 4, ce_Rs [78, 79, 80] ++ [(1, 0)] ++ ce_Is [0, 0, 0, 0]),
   (1, 0, ce_Is [0, 0, 0, 0, 0]),
   (1, 0, ce_Is [0, 0, 0, 0, 0])],
  [(1, 0, ce_Is [0, 0, 0, 0, 0]),
   (0, 4, ce_Rs [82, 83, 84] ++ [(1, 0)] ++ ce_Is [0, 0, 0, 0]),
   (1, 0, ce_Is [0, 0, 0, 0, 0]),
   (1, 0, ce_Is [0, 0, 0, 0, 0]),
   (1, 0, ce_Is [0, 0, 0, 0, 0]),
   (0, 4, ce_Rs [86, 87, 88] ++ [(1, 0)] ++ ce_Is [0, 0, 0, 0]),
   (1, 0, ce_Is [0, 0, 0, 0, 0]),
   (1, 0, ce_Is [0, 0, 0, 0, 0]),
   (1, 0, ce_Is [0, 0, 0, 0, 0]),
   (0, 4, ce_Rs [90, 91, 92] ++ [(1, 0)] ++ ce_Is [0, 0, 0, 0]),
   (1, 0, ce_Is [0, 0, 0, 0, 0]),
   (1, 0, ce_Is [0, 0, 0, 0, 0]),
   (1, 0, ce_Is [0, 0, 0, 0, 0]),
   (0, 4, ce_Rs [94, 95, 96] ++ [(1, 0)] ++ ce_Is [0, 0, 0, 0]),
   (1, 0, ce_Is [0, 0, 0, 0, 0]),
   (1, 0, ce_Is [0, 0, 0, 0, 0])],
  [(1, 0, ce_Is [0, 0, 0, 0, 0]),
   (0, 4, ce_Rs [98, 99, 100] ++ [(1, 0)] ++ ce_Is [0, 0, 0, 0]),
   (1, 0, ce_Is [0, 0, 0, 0, 0]),
   (1, 0, ce_Is [0, 0, 0, 0, 0]),
   (1, 0, ce_Is [0, 0, 0, 0, 0]),
   (0, 4, ce_Rs [102, 103, 104] ++ [(1, 0)] ++ ce_Is [0, 0, 0, 0]),
   (1, 0, ce_Is [0, 0, 0, 0, 0]),
   (1, 0, ce_Is [0, 0, 0, 0, 0]),
   (1, 0, ce_Is [0, 0, 0, 0, 0]),
   (0, 4, ce_Rs [106, 107, 108] ++ [(1, 0)] ++ ce_Is [0, 0, 0, 0]),
   (1, 0, ce_Is [0, 0, 0, 0, 0]),
   (1, 0, ce_Is [0, 0, 0, 0, 0]),
   (1, 0, ce_Is [0, 0, 0, 0, 0]),
   (0, 4, ce_Rs [110, 111, 112] ++ [(1, 0)] ++ ce_Is [0, 0, 0, 0]),
   (1, 0, ce_Is [0, 0, 0, 0, 0]),
   (1, 0, ce_Is [0, 0, 0, 0, 0])],
  [(1, 0, ce_Is [0, 0, 0, 0, 0]),
   (0, 4, ce_Rs [114, 115, 116] ++ [(1, 0)] ++ ce_Is [0, 0, 0, 0]),
   (1, 0, ce_Is [0, 0, 0, 0, 0]),
   (1, 0, ce_Is [0, 0, 0, 0, 0]),
   (1, 0, ce_Is [0, 0, 0, 0, 0]),
   (0, 4, ce_Rs [118, 119, 120] ++ [(1, 0)] ++ ce_Is [0, 0, 0, 0]),
   (1, 0, ce_Is [0, 0, 0, 0, 0]),
   (1, 0, ce_Is [0, 0, 0, 0, 0]),
   (1, 0, ce_Is [0, 0, 0, 0, 0]),
   (0, 4, ce_Rs [122, 123, 124] ++ [(1, 0)] ++ ce_Is [0, 0, 0, 0]),
   (1, 0, ce_Is [0, 0, 0, 0, 0]),
   (1, 0, ce_Is [0, 0, 0, 0, 0]),
   (1, 0, ce_Is [0, 0, 0, 0, 0]),
   (0, 4, ce_Rs [126, 127, 128] ++ [(1, 0)] ++ ce_Is [0, 0, 0, 0]),
   (1, 0, ce_Is [0, 0, 0, 0, 0]),
   (1, 0, ce_Is [0, 0, 0, 0, 0])],
  [(1, 0, ce_Is [0, 0, 0, 0, 0]),
   (0, 4, ce_Rs [130, 131, 132] ++ [(1, 0)] ++ ce_Is [0, 0, 0, 0]),
   (1, 0, ce_Is [0, 0, 0, 0, 0]),
   (1, 0, ce_Is [0, 0, 0, 0, 0]),
   (1, 0, ce_Is [0, 0, 0, 0, 0]),
   (0, 4, ce_Rs [134, 135, 136] ++ [(1, 0)] ++ ce_Is [0, 0, 0, 0]),
   (1, 0, ce_Is [0, 0, 0, 0, 0]),
   (1, 0, ce_Is [0, 0, 0, 0, 0]),
   (1, 0, ce_Is [0, 0, 0, 0, 0]),
   (0, 4, ce_Rs [138, 139, 140] ++ [(1, 0)] ++ ce_Is [0, 0, 0, 0]),
   (1, 0, ce_Is [0, 0, 0, 0, 0]),
   (1, 0, ce_Is [0, 0, 0, 0, 0]),
   (1, 0, ce_Is [0, 0, 0, 0, 0]),
   (0, 4, ce_Rs [142, 143, 144] ++ [(1, 0)] ++ ce_Is [0, 0, 0, 0]),
   (1, 0, ce_Is [0, 0, 0, 0, 0]),
   (1, 0, ce_Is [0, 0, 0, 0, 0])],
  [(1, 0, ce_Is [0, 0, 0, 0, 0]),
   (0, 4, ce_Rs [146, 147, 148] ++ [(1, 0)] ++ ce_Is [0, 0, 0, 0]),
   (1, 0, ce_Is [0, 0, 0, 0, 0]),
   (1, 0, ce_Is [0, 0, 0, 0, 0]),
   (1, 0, ce_Is [0, 0, 0, 0, 0]),
   (0, 4, ce_Rs [150, 151, 152] ++ [(1, 0)] ++ ce_Is [0, 0, 0, 0]),
   (1, 0, ce_Is [0, 0, 0, 0, 0]),
   (1, 0, ce_Is [0, 0, 0, 0, 0]),
   (1, 0, ce_Is [0, 0, 0, 0, 0]),
   (0, 4, ce_Rs [154, 155, 156] ++ [(1, 0)] ++ ce_Is [0, 0, 0, 0]),
   (1, 0, ce_Is [0, 0, 0, 0, 0]),
   (1, 0, ce_Is [0, 0, 0, 0, 0]),
   (1, 0, ce_Is [0, 0, 0, 0, 0]),
   (0, 4, ce_Rs [158, 159, 160] ++ [(1, 0)] ++ ce_Is [0, 0, 0, 0]),
   (1, 0, ce_Is [0, 0, 0, 0, 0]),
   (1, 0, ce_Is [0, 0, 0, 0, 0])],
  [(1, 0, ce_Is [0, 0, 0, 0, 0]),
   (0, 4, ce_Rs [162, 163, 164] ++ [(1, 0)] ++ ce_Is [0, 0, 0, 0]),
   (1, 0, ce_Is [0, 0, 0, 0, 0]),
   (1, 0, ce_Is [0, 0, 0, 0, 0]),
   (1, 0, ce_Is [0, 0, 0, 0, 0]),
   (0, 4, ce_Rs [166, 167, 168] ++ [(1, 0)] ++ ce_Is [0, 0, 0, 0]),
   (1, 0, ce_Is [0, 0, 0, 0, 0]),
   (1, 0, ce_Is [0, 0, 0, 0, 0]),
   (1, 0, ce_Is [0, 0, 0, 0, 0]),
   (0, 4, ce_Rs [170, 171, 172] ++ [(1, 0)] ++ ce_Is [0, 0, 0, 0]),
   (1, 0, ce_Is [0, 0, 0, 0, 0]),
   (1, 0, ce_Is [0, 0, 0, 0, 0]),
   (1, 0, ce_Is [0, 0, 0, 0, 0]),
   (0, 4, ce_Rs [174, 175, 176] ++ [(1, 0)] ++ ce_Is [0, 0, 0, 0]),
   (1, 0, ce_Is [0, 0, 0, 0, 0]),
   (1, 0, ce_Is [0, 0, 0, 0, 0])],
  [(1, 0, ce_Is [0, 0, 0, 0, 0]),
   (0, 4, ce_Rs [178, 179, 180] ++ [(1, 0)] ++ ce_Is [0, 0, 0, 0]),
   (1, 0, ce_Is [0, 0, 0, 0, 0]),
   (1, 0, ce_Is [0, 0, 0, 0, 0]),
   (1, 0, ce_Is [0, 0, 0, 0, 0]),
   (0, 4, ce_Rs [182, 183, 184] ++ [(1, 0)] ++ ce_Is [0, 0, 0, 0]),
   (1, 0, ce_Is [0, 0, 0, 0, 0]),
   (1, 0, ce_Is [0, 0, 0, 0, 0]),
   (1, 0, ce_Is [0, 0, 0, 0, 0]),
   (0, 4, ce_Rs [186, 187, 188] ++ [(1, 0)] ++ ce_Is [0, 0, 0, 0]),
   (1, 0, ce_Is [0, 0, 0, 0, 0]),
   (1, 0, ce_Is [0, 0, 0, 0, 0]),
   (1, 0, ce_Is [0, 0, 0, 0, 0]),
   (0, 4, ce_Rs [190, 191, 192] ++ [(1, 0)] ++ ce_Is [0, 0, 0, 0]),
   (1, 0, ce_Is [0, 0, 0, 0, 0]),
   (1, 0, ce_Is [0, 0, 0, 0, 0])],
  [(1, 0, ce_Is [0, 0, 0, 0, 0]),
   (0, 4, ce_Rs [194, 195, 196] ++ [(1, 0)] ++ ce_Is [0, 0, 0, 0]),
   (1, 0, ce_Is [0, 0, 0, 0, 0]),
   (1, 0, ce_Is [0, 0, 0, 0, 0]),
   (1, 0, ce_Is [0, 0, 0, 0, 0]),
   (1, 4, ce_Rs [269, 273, 277]),
   (0, 10, ce_Rs [199, 200, 201] ++ ce_Is [0]),
   (1, 0, List.replicate 36 (0, 0)),
   (1, 0, List.replicate 36 (0, 0)),
   (1, 0, List.replicate 36 (0, 0)),
   (0, 5, ce_Rs [203, 204, 205] ++ [(3, 0)] ++ ce_Is [0, 0, 0]),
   (1, 0, List.replicate 10 (0, 0)),
   (1, 0, List.replicate 10 (0, 0)),
   (1, 4, ce_Rs [206, 210, 214, 218, 222, 226, 230, 234, 238, 242, 246]),
   (0, 4, ce_Rs [207, 208, 209] ++ [(1, 0)] ++ ce_Is [0, 0, 0, 0]),
   (1, 0, ce_Is [0, 0, 0, 0, 0])],
  [(1, 0, ce_Is [0, 0, 0, 0, 0]),
   (1, 0, ce_Is [0, 0, 0, 0, 0]),
   (0, 4, ce_Rs [211, 212, 213] ++ [(1, 0)] ++ ce_Is [0, 0, 0, 0]),
   (1, 0, ce_Is [0, 0, 0, 0, 0]),
   (1, 0, ce_Is [0, 0, 0, 0, 0]),
   (1, 0, ce_Is [0, 0, 0, 0, 0]),
   (0, 4, ce_Rs [215, 216, 217] ++ [(1, 0)] ++ ce_Is [0, 0, 0, 0]),
   (1, 0, ce_Is [0, 0, 0, 0, 0]),
   (1, 0, ce_Is [0, 0, 0, 0, 0]),
   (1, 0, ce_Is [0, 0, 0, 0, 0]),
   (0, 4, ce_Rs [219, 220, 221] ++ [(1, 0)] ++ ce_Is [0, 0, 0, 0]),
   (1, 0, ce_Is [0, 0, 0, 0, 0]),
   (1, 0, ce_Is [0, 0, 0, 0, 0]),
   (1, 0, ce_Is [0, 0, 0, 0, 0]),
   (0, 4, ce_Rs [223, 224, 225] ++ [(1, 0)] ++ ce_Is [0, 0, 0, 0]),
   (1, 0, ce_Is [0, 0, 0, 0, 0])],
  [(1, 0, ce_Is [0, 0, 0, 0, 0]),
   (1, 0, ce_Is [0, 0, 0, 0, 0]),
   (0, 4, ce_Rs [227, 228, 229] ++ [(1, 0)] ++ ce_Is [0, 0, 0, 0]),
   (1, 0, ce_Is [0, 0, 0, 0, 0]),
   (1, 0, ce_Is [0, 0, 0, 0, 0]),
   (1, 0, ce_Is [0, 0, 0, 0, 0]),
   (0, 4, ce_Rs [231, 232, 233] ++ [(1, 0)] ++ ce_Is [0, 0, 0, 0]),
   (1, 0, ce_Is [0, 0, 0, 0, 0]),
   (1, 0, ce_Is [0, 0, 0, 0, 0]),
   (1, 0, ce_Is [0, 0, 0, 0, 0]),
   (0, 4, ce_Rs [235, 236, 237] ++ [(1, 0)] ++ ce_Is [0, 0, 0, 0]),
   (1, 0, ce_Is [0, 0, 0, 0, 0]),
   (1, 0, ce_Is [0, 0, 0, 0, 0]),
   (1, 0, ce_Is [0, 0, 0, 0, 0]),
   (0, 4, ce_Rs [239, 240, 241] ++ [(1, 0)] ++ ce_Is [0, 0, 0, 0]),
   (1, 0, ce_Is [0, 0, 0, 0, 0])],
  [(1, 0, ce_Is [0, 0, 0, 0, 0]),
   (1, 0, ce_Is [0, 0, 0, 0, 0]),
   (0, 4, ce_Rs [243, 244, 245] ++ [(1, 0)] ++ ce_Is [0, 0, 0, 0]),
   (1, 0, ce_Is [0, 0, 0, 0, 0]),
   (1, 0, ce_Is [0, 0, 0, 0, 0]),
   (1, 0, ce_Is [0, 0, 0, 0, 0]),
   (0, 4, ce_Rs [247, 248, 249] ++ [(1, 0)] ++ ce_Is [0, 0, 0, 0]),
   (1, 0, ce_Is [0, 0, 0, 0, 0]),
   (1, 0, ce_Is [0, 0, 0, 0, 0]),
   (1, 0, ce_Is [0, 0, 0, 0, 0]),
   (0, 0, ce_Rs [251, 255] ++ [(3, 0)] ++ [(3, 0)] ++ ce_Is [0, 0, 0, 0, 0]),
   (0, 4, ce_Rs [252, 253, 254] ++ [(1, 0)] ++ ce_Is [0, 0, 0, 0]),
   (1, 0, ce_Is [0, 0, 0, 0, 0]),
   (1, 0, ce_Is [0, 0, 0, 0, 0]),
   (1, 0, ce_Is [0, 0, 0, 0, 0]),
   (1, 2, List.replicate 36 (1, 0))],
  [(0, 7, ce_Rs [257, 258, 259, 260, 261, 262, 263, 264] ++ ce_Is [0, 0]),
   (1, 0, List.replicate 30 (0, 0)),
   (1, 0, List.replicate 30 (0, 0)),
   (1, 3, List.replicate 30 (0, 0)),
   (1, 0, List.replicate 30 (0, 0)),
   (1, 0, List.replicate 30 (0, 0)),
   (1, 0, List.replicate 468 (0, 0)),
   (1, 0, List.replicate 36 (0, 0)),
   (0, 4, ce_Rs [265, 266, 267] ++ [(1, 0)] ++ ce_Is [0, 0, 0, 0]),
   (1, 0, ce_Is [0, 0, 0, 0, 0]),
   (1, 0, ce_Is [0, 0, 0, 0, 0]),
   (1, 0, ce_Is [0, 0, 0, 0, 0]),
   (1, 0, List.replicate 10 (0, 0)),
   (0, 4, ce_Rs [270, 271, 272] ++ [(1, 0)] ++ ce_Is [0, 0, 0, 0]),
   (1, 0, ce_Is [0, 0, 0, 0, 0]),
   (1, 0, ce_Is [0, 0, 0, 0, 0])],
  [(1, 0, ce_Is [0, 0, 0, 0, 0]),
   (0, 4, ce_Rs [274, 275, 276] ++ [(1, 0)] ++ ce_Is [0, 0, 0, 0]),
   (1, 0, ce_Is [0, 0, 0, 0, 0]),
   (1, 0, ce_Is [0, 0, 0, 0, 0]),
   (1, 0, ce_Is [0, 0, 0, 0, 0]),
   (0, 4, ce_Rs [278, 279, 280] ++ [(1, 0)] ++ ce_Is [0, 0, 0, 0]),
   (1, 0, ce_Is [0, 0, 0, 0, 0]),
   (1, 0, ce_Is [0, 0, 0, 0, 0]),
   (1, 0, ce_Is [0, 0, 0, 0, 0]),
   (0, 12, [(3, 0)] ++ [(3, 0)] ++ ce_Is [0, 0, 0, 0, 0, 0, 0, 0] ++ [(1, 0)] ++ List.replicate 21 (3, 0) ++ ce_Is [0, 0, 0, 0, 0, 0, 0] ++ [(3, 0)] ++ ce_Is [0] ++ [(3, 0)] ++ ce_Is [0] ++ [(3, 0)] ++ ce_Is [0, 0] ++ [(3, 0)] ++ [(3, 0)] ++ [(3, 0)] ++ ce_Is [0] ++ [(3, 0)] ++ ce_Is [0] ++ [(3, 0)] ++ [(3, 0)] ++ [(3, 0)] ++ [(3, 0)] ++ [(3, 0)] ++ [(3, 0)] ++ [(3, 0)] ++ [(3, 0)] ++ ce_Is [0, 0] ++ [(3, 0)] ++ [(3, 0)])]])
def cw3 : ceHp := (322, [[(0, 11, ce_Rs [1] ++ ce_Is [0] ++ ce_Rs [2, 11, 20, 23, 27, 31, 197] ++ ce_Is [0] ++ ce_Rs [198, 202, 250, 256] ++ ce_Is [0] ++ ce_Rs [268] ++ ce_Is [0]),
   (1, 1, List.replicate 1600 (0, 0)),
   (0, 3, ce_Rs [3, 4, 8, 9, 10] ++ ce_Is [6, 6, 36, 0] ++ [(1, 0)] ++ ce_Is [0, 2, 0, 0]),
   (1, 0, ce_Is [0, 0, 0, 0, 0]),
   (0, 1, ce_Rs [5, 6, 7] ++ ce_Is [0, 0]),
   (1, 0, List.replicate 300 (0, 0)),
   (1, 0, ce_Is [0, 0, 0, 0, 0, 0]),
   (1, 0, List.replicate 60 (0, 0)),
   (1, 0, ce_Is [0, 1, 2, 3, 4, 5, 0, 1, 2, 3, 4, 5, 0, 1, 2, 3, 4, 5, 0, 1, 2, 3, 4, 5, 0, 1, 2, 3, 4, 5, 0, 1, 2, 3, 4, 5]),
   (1, 0, ce_Is [0, 0, 0, 0, 0, 0, 1, 1, 1, 1, 1, 1, 2, 2, 2, 2, 2, 2, 3, 3, 3, 3, 3, 3, 4, 4, 4, 4, 4, 4, 5, 5, 5, 5, 5, 5]),
   (1, 0, ce_Is [0, 0, 1, 6, 0, 1, 1, 2, 7, 0, 2, 2, 3, 8, 1, 3, 3, 4, 9, 2, 4, 4, 5, 10, 3, 5, 5, 5, 11, 4, 6, 0, 7, 12, 6, 7, 1, 8, 13, 6, 8, 2, 9, 14, 7, 9, 3, 10, 15, 8, 10, 4, 11, 16, 9, 11, 5, 11, 17, 10, 12, 6, 13, 18, 12, 13, 7, 14, 19, 12, 14, 8, 15, 20, 13, 15, 9, 16, 21, 14, 16, 10, 17, 22, 15, 17, 11, 17, 23, 16, 18, 12, 19, 24, 18, 19, 13, 20, 25, 18, 20, 14, 21, 26, 19, 21, 15, 22, 27, 20, 22, 16, 23, 28, 21, 23, 17, 23, 29, 22, 24, 18, 25, 30, 24, 25, 19, 26, 31, 24, 26, 20, 27, 32, 25, 27, 21, 28, 33, 26, 28, 22, 29, 34, 27, 29, 23, 29, 35, 28, 30, 24, 31, 30, 30, 31, 25, 32, 31, 30, 32, 26, 33, 32, 31, 33, 27, 34, 33, 32, 34, 28, 35, 34, 33, 35, 29, 35, 35, 34]),
   (0, 3, ce_Rs [12, 13, 17, 18, 19] ++ ce_Is [0, 0, 0, 0] ++ [(1, 0)] ++ ce_Is [0, 0, 0, 0]),
   (1, 0, ce_Is [0, 0, 0, 0, 0]),
   (0, 1, ce_Rs [14, 15, 16] ++ ce_Is [0, 0]),
   (1, 0, List.replicate 300 (0, 0)),
   (1, 0, ce_Is [0, 0, 0, 0, 0, 0])],
  [(1, 0, List.replicate 60 (0, 0)),
   (1, 0, List.replicate 36 (0, 0)),
   (1, 0, List.replicate 36 (0, 0)),
   (1, 0, List.replicate 180 (0, 0)),
   (0, 6, ce_Rs [21, 22] ++ [(3, 0)] ++ List.replicate 9 (0, 0) ++ [(0, -1)]),
   (0, 9, [(3, 0)] ++ ce_Is [0, 0, 0, 0, 0] ++ [(1, 0)]),
   (1, 2, [(1, 0)] ++ [(1, 0)] ++ [(1, 0)] ++ [(1, 0)] ++ [(1, 0)]),
   (0, 4, ce_Rs [24, 25, 26] ++ [(1, 0)] ++ ce_Is [0, 0, 0, 0]),
   (1, 0, ce_Is [0, 0, 0, 0, 0]),
   (1, 0, ce_Is [0, 0, 0, 0, 0]),
   (1, 0, ce_Is [0, 0, 0, 0, 0]),
   (0, 4, ce_Rs [28, 29, 30] ++ [(1, 0)] ++ ce_Is [0, 0, 0, 0]),
   (1, 0, ce_Is [0, 0, 0, 0, 0]),
   (1, 0, ce_Is [0, 0, 0, 0, 0]),
   (1, 0, ce_Is [0, 0, 0, 0, 0]),
   (0, 2, ce_Rs [32] ++ ce_Is [0, 0, 0])],
  [(1, 4, ce_Rs [33, 37, 41, 45, 49, 53, 57, 61, 65, 69, 73, 77, 81, 85, 89, 93, 97, 101, 105, 109, 113, 117, 121, 125, 129, 133, 137, 141, 145, 149, 153, 157, 161, 165, 169, 173, 177, 181, 185, 189, 193]),
   (0, 4, ce_Rs [34, 35, 36] ++ [(1, 0)] ++ ce_Is [0, 0, 0, 0]),
   (1, 0, ce_Is [0, 0, 0, 0, 0]),
   (1, 0, ce_Is [0, 0, 0, 0, 0]),
   (1, 0, ce_Is [0, 0, 0, 0, 0]),
   (0, 4, ce_Rs [38, 39, 40] ++ [(1, 0)] ++ ce_Is [0, 0, 0, 0]),
   (1, 0, ce_Is [0, 0, 0, 0, 0]),
   (1, 0, ce_Is [0, 0, 0, 0, 0]),
   (1, 0, ce_Is [0, 0, 0, 0, 0]),
   (0, 4, ce_Rs [42, 43, 44] ++ [(1, 0)] ++ ce_Is [0, 0, 0, 0]),
   (1, 0, ce_Is [0, 0, 0, 0, 0]),
   (1, 0, ce_Is [0, 0, 0, 0, 0]),
   (1, 0, ce_Is [0, 0, 0, 0, 0]),
   (0, 4, ce_Rs [46, 47, 48] ++ [(1, 0)] ++ ce_Is [0, 0, 0, 0]),
   (1, 0, ce_Is [0, 0, 0, 0, 0]),
   (1, 0, ce_Is [0, 0, 0, 0, 0])],
  [(1, 0, ce_Is [0, 0, 0, 0, 0]),
   (0, 4, ce_Rs [50, 51, 52] ++ [(1, 0)] ++ ce_Is [0, 0, 0, 0]),
   (1, 0, ce_Is [0, 0, 0, 0, 0]),
   (1, 0, ce_Is [0, 0, 0, 0, 0]),
   (1, 0, ce_Is [0, 0, 0, 0, 0]),
   (0, 4, ce_Rs [54, 55, 56] ++ [(1, 0)] ++ ce_Is [0, 0, 0, 0]),
   (1, 0, ce_Is [0, 0, 0, 0, 0]),
   (1, 0, ce_Is [0, 0, 0, 0, 0]),
   (1, 0, ce_Is [0, 0, 0, 0, 0]),
   (0, 4, ce_Rs [58, 59, 60] ++ [(1, 0)] ++ ce_Is [0, 0, 0, 0]),
   (1, 0, ce_Is [0, 0, 0, 0, 0]),
   (1, 0, ce_Is [0, 0, 0, 0, 0]),
   (1, 0, ce_Is [0, 0, 0, 0, 0]),
   (0, 4, ce_Rs [62, 63, 64] ++ [(1, 0)] ++ ce_Is [0, 0, 0, 0]),
   (1, 0, ce_Is [0, 0, 0, 0, 0]),
   (1, 0, ce_Is [0, 0, 0, 0, 0])],
  [(1, 0, ce_Is [0, 0, 0, 0, 0]),
   (0, 4, ce_Rs [66, 67, 68] ++ [(1, 0)] ++ ce_Is [0, 0, 0, 0]),
   (1, 0, ce_Is [0, 0, 0, 0, 0]),
   (1, 0, ce_Is [0, 0, 0, 0, 0]),
   (1, 0, ce_Is [0, 0, 0, 0, 0]),
   (0, 4, ce_Rs [70, 71, 72] ++ [(1, 0)] ++ ce_Is [0, 0, 0, 0]),
   (1, 0, ce_Is [0, 0, 0, 0, 0]),
   (1, 0, ce_Is [0, 0, 0, 0, 0]),
   (1, 0, ce_Is [0, 0, 0, 0, 0]),
   (0, 4, ce_Rs [74, 75, 76] ++ [(1, 0)] ++ ce_Is [0, 0, 0, 0]),
   (1, 0, ce_Is [0, 0, 0, 0, 0]),
   (1, 0, ce_Is [0, 0, 0, 0, 0]),
   (1, 0, ce_Is [0, 0, 0, 0, 0]),
   (0, 4, ce_Rs [78, 79, 80] ++ [(1, 0)] ++ ce_Is [0, 0, 0, 0]),
   (1, 0, ce_Is [0, 0, 0, 0, 0]),
   (1, 0, ce_Is [0, 0, 0, 0, 0])],
  [(1, 0, ce_Is [0, 0, 0, 0, 0]),
   (0, 4, ce_Rs [82, 83, 84] ++ [(1, 0)] ++ ce_Is [0, 0, 0, 0]),
   (1, 0, ce_Is [0, 0, 0, 0, 0]),
   (1, 0, ce_Is [0, 0, 0, 0, 0]),
   (1, 0, ce_Is [0, 0, 0, 0, 0]),
   (0, 4, ce_Rs [86, 87, 88] ++ [(1, 0)] ++ ce_Is [0, 0, 0, 0]),
   (1, 0, ce_Is [0, 0, 0, 0, 0]),
   (1, 0, ce_Is [0, 0, 0, 0, 0]),
   (1, 0, ce_Is [0, 0, 0, 0, 0]),
   (0, 4, ce_Rs [90, 91, 92] ++ [(1, 0)] ++ ce_Is [0, 0, 0, 0]),
   (1, 0, ce_Is [0, 0, 0, 0, 0]),
   (1, 0, ce_Is [0, 0, 0, 0, 0]),
   (1, 0, ce_Is [0, 0, 0, 0, 0]),
   (0, 4, ce_Rs [94, 95, 96] ++ [(1, 0)] ++ ce_Is [0, 0, 0, 0]),
   (1, 0, ce_Is [0, 0, 0, 0, 0]),
   (1, 0, ce_Is [0, 0, 0, 0, 0])],
  [(1, 0, ce_Is [0, 0, 0, 0, 0]),
   (0, 4, ce_Rs [98, 99, 100] ++ [(1, 0)] ++ ce_Is [0, 0, 0, 0]),
   (1, 0, ce_Is [0, 0, 0, 0, 0]),
   (1, 0, ce_Is [0, 0, 0, 0, 0]),
   (1, 0, ce_Is [0, 0, 0, 0, 0]),
   (0, 4, ce_Rs [102, 103, 104] ++ [(1, 0)] ++ ce_Is [0, 0, 0, 0]),
   (1, 0, ce_Is [0, 0, 0, 0, 0]),
   (1, 0, ce_Is [0, 0, 0, 0, 0]),
   (1, 0, ce_Is [0, 0, 0, 0, 0]),
   (0, 4, ce_Rs [106, 107, 108] ++ [(1, 0)] ++ ce_Is [0, 0, 0, 0]),
   (1, 0, ce_Is [0, 0, 0, 0, 0]),
   (1, 0, ce_Is [0, 0, 0, 0, 0]),
   (1, 0, ce_Is [0, 0, 0, 0, 0]),
   (0, 4, ce_Rs [110, 111, 112] ++ [(1, 0)] ++ ce_Is [0, 0, 0, 0]),
   (1, 0, ce_Is [0, 0, 0, 0, 0]),
   (1, 0, ce_Is [0, 0, 0, 0, 0])],
  [(1, 0, ce_Is [0, 0, 0, 0, 0]),
   (0, 4, ce_Rs [114, 115, 116] ++ [(1, 0)] ++ ce_Is [0, 0, 0, 0]),
   (1, 0, ce_Is [0, 0, 0, 0, 0]),
   (1, 0, ce_Is [0, 0, 0, 0, 0]),
   (1, 0, ce_Is [0, 0, 0, 0, 0]),
   (0, 4, ce_Rs [118, 119, 120] ++ [(1, 0)] ++ ce_Is [0, 0, 0, 0]),
   (1, 0, ce_Is [0, 0, 0, 0, 0]),
   (1, 0, ce_Is [0, 0, 0, 0, 0]),
   (1, 0, ce_Is [0, 0, 0, 0, 0]),
   (0, 4, ce_Rs [122, 123, 124] ++ [(1, 0)] ++ ce_Is [0, 0, 0, 0]),
   (1, 0, ce_Is [0, 0, 0, 0, 0]),
   (1, 0, ce_Is [0, 0, 0, 0, 0]),
   (1, 0, ce_Is [0, 0, 0, 0, 0]),
   (0, 4, ce_Rs [126, 127, 128] ++ [(1, 0)] ++ ce_Is [0, 0, 0, 0]),
   (1, 0, ce_Is [0, 0, 0, 0, 0]),
   (1, 0, ce_Is [0, 0, 0, 0, 0])],
  [(1, 0, ce_Is [0, 0, 0, 0, 0]),
   (0, 4, ce_Rs [130, 131, 132] ++ [(1, 0)] ++ ce_Is [0, 0, 0, 0]),
   (1, 0, ce_Is [0, 0, 0, 0, 0]),
   (1, 0, ce_Is [0, 0, 0, 0, 0]),
   (1, 0, ce_Is [0, 0, 0, 0, 0]),
   (0, 4, ce_Rs [134, 135, 136] ++ [(1, 0)] ++ ce_Is [0, 0, 0, 0]),
   (1, 0, ce_Is [0, 0, 0, 0, 0]),
   (1, 0, ce_Is [0, 0, 0, 0, 0]),
   (1, 0, ce_Is [0, 0, 0, 0, 0]),
   (0, 4, ce_Rs [138, 139, 140] ++ [(1, 0)] ++ ce_Is [0, 0, 0, 0]),
   (1, 0, ce_Is [0, 0, 0, 0, 0]),
   (1, 0, ce_Is [0, 0, 0, 0, 0]),
   (1, 0, ce_Is [0, 0, 0, 0, 0]),
   (0, 4, ce_Rs [142, 143, 144] ++ [(1, 0)] ++ ce_Is [0, 0, 0, 0]),
   (1, 0, ce_Is [0, 0, 0, 0, 0]),
   (1, 0, ce_Is [0, 0, 0, 0, 0])],
  [(1, 0, ce_Is [0, 0, 0, 0, 0]),
   (0, 4, ce_Rs [146, 147, 148] ++ [(1, 0)] ++ ce_Is [0, 0, 0, 0]),
   (1, 0, ce_Is [0, 0, 0, 0, 0]),
   (1, 0, ce_Is [0, 0, 0, 0, 0]),
   (1, 0, ce_Is [0, 0, 0, 0, 0]),
   (0, 4, ce_Rs [150, 151, 152] ++ [(1, 0)] ++ ce_Is [0, 0, 0, 0]),
   (1, 0, ce_Is [0, 0, 0, 0, 0]),
   (1, 0, ce_Is [0, 0, 0, 0, 0]),
   (1, 0, ce_Is [0, 0, 0, 0, 0]),
   (0, 4, ce_Rs [154, 155, 156] ++ [(1, 0)] ++ ce_Is [0, 0, 0, 0]),
   (1, 0, ce_Is [0, 0, 0, 0, 0]),
   (1, 0, ce_Is [0, 0, 0, 0, 0]),
   (1, 0, ce_Is [0, 0, 0, 0, 0]),
   (0, 4, ce_Rs [158, 159, 160] ++ [(1, 0)] ++ ce_Is [0, 0, 0, 0]),
   (1, 0, ce_Is [0, 0, 0, 0, 0]),
   (1, 0, ce_Is [0, 0, 0, 0, 0])],
  [(1, 0, ce_Is [0, 0, 0, 0, 0]),
   (0, 4, ce_Rs [162, 163, 164] ++ [(1, 0)] ++ ce_Is [0, 0, 0, 0]),
   (1, 0, ce_Is [0, 0, 0, 0, 0]),
   (1, 0, ce_Is [0, 0, 0, 0, 0]),
   (1, 0, ce_Is [0, 0, 0, 0, 0]),
   (0, 4, ce_Rs [166, 167, 168] ++ [(1, 0)] ++ ce_Is [0, 0, 0, 0]),
   (1, 0, ce_Is [0, 0, 0, 0, 0]),
   (1, 0, ce_Is [0, 0, 0, 0, 0]),
   (1, 0, ce_Is [0, 0, 0, 0, 0]),
   (0, 4, ce_Rs [170, 171, 172] ++ [(1, 0)] ++ ce_Is [0, 0, 0, 0]),
   (1, 0, ce_Is [0, 0, 0, 0, 0]),
   (1, 0, ce_Is [0, 0, 0, 0, 0]),
   (1, 0, ce_Is [0, 0, 0, 0, 0]),
   (0, 4, ce_Rs [174, 175, 176] ++ [(1, 0)] ++ ce_Is [0, 0, 0, 0]),
   (1, 0, ce_Is [0, 0, 0, 0, 0]),
   (1, 0, ce_Is [0, 0, 0, 0, 0])],
  [(1, 0, ce_Is [0, 0, 0, 0, 0]),
   (0, 4, ce_Rs [178, 179, 180] ++ [(1, 0)] ++ ce_Is [0, 0, 0, 0]),
   (1, 0, ce_Is [0, 0, 0, 0, 0]),
   (1, 0, ce_Is [0, 0, 0, 0, 0]),
   (1, 0, ce_Is [0, 0, 0, 0, 0]),
   (0, 4, ce_Rs [182, 183, 184] ++ [(1, 0)] ++ ce_Is [0, 0, 0, 0]),
   (1, 0, ce_Is [0, 0, 0, 0, 0]),
   (1, 0, ce_Is [0, 0, 0, 0, 0]),
   (1, 0, ce_Is [0, 0, 0, 0, 0]),
   (0, 4, ce_Rs [186, 187, 188] ++ [(1, 0)] ++ ce_Is [0, 0, 0, 0]),
   (1, 0, ce_Is [0, 0, 0, 0, 0]),
   (1, 0, ce_Is [0, 0, 0, 0, 0]),
   (1, 0, ce_Is [0, 0, 0, 0, 0]),
   (0, 4, ce_Rs [190, 191, 192] ++ [(1, 0)] ++ ce_Is [0, 0, 0, 0]),
   (1, 0, ce_Is [0, 0, 0, 0, 0]),
   (1, 0, ce_Is [0, 0, 0, 0, 0])],
  [(1, 0, ce_Is [0, 0, 0, 0, 0]),
   (0, 4, ce_Rs [194, 195, 196] ++ [(1, 0)] ++ ce_Is [0, 0, 0, 0]),
   (1, 0, ce_Is [0, 0, 0, 0, 0]),
   (1, 0, ce_Is [0, 0, 0, 0, 0]),
   (1, 0, ce_Is [0, 0, 0, 0, 0]),
   (1, 4, ce_Rs [269, 273, 277]),
   (0, 10, ce_Rs [199, 200, 201] ++ ce_Is [0]),
   (1, 0, List.replicate 36 (0, 0)),
   (1, 0, List.replicate 36 (0, 0)),
   (1, 0, List.replicate 36 (0, 0)),
   (0, 5, ce_Rs [203, 204, 205] ++ [(3, 0)] ++ ce_Is [0, 0, 0]),
   (1, 0, List.replicate 10 (0, 0)),
   (1, 0, List.replicate 10 (0, 0)),
   (1, 4, ce_Rs [206, 210, 214, 218, 222, 226, 230, 234, 238, 242, 246]),
   (0, 4, ce_Rs [207, 208, 209] ++ [(1, 0)] ++ ce_Is [0, 0, 0, 0]),
   (1, 0, ce_Is [0, 0, 0, 0, 0])],
  [(1, 0, ce_Is [0, 0, 0, 0, 0]),
   (1, 0, ce_Is [0, 0, 0, 0, 0]),
   (0, 4, ce_Rs [211, 212, 213] ++ [(1, 0)] ++ ce_Is [0, 0, 0, 0]),
   (1, 0, ce_Is [0, 0, 0, 0, 0]),
   (1, 0, ce_Is [0, 0, 0, 0, 0]),
   (1, 0, ce_Is [0, 0, 0, 0, 0]),
   (0, 4, ce_Rs [215, 216, 217] ++ [(1, 0)] ++ ce_Is [0, 0, 0, 0]),
   (1, 0, ce_Is [0, 0, 0, 0, 0]),
   (1, 0, ce_Is [0, 0, 0, 0, 0]),
   (1, 0, ce_Is [0, 0, 0, 0, 0]),
   (0, 4, ce_Rs [219, 220, 221] ++ [(1, 0)] ++ ce_Is [0, 0, 0, 0]),
   (1, 0, ce_Is [0, 0, 0, 0, 0]),
   (1, 0, ce_Is [0, 0, 0, 0, 0]),
   (1, 0, ce_Is [0, 0, 0, 0, 0]),
   (0, 4, ce_Rs [223, 224, 225] ++ [(1, 0)] ++ ce_Is [0, 0, 0, 0]),
   (1, 0, ce_Is [0, 0, 0, 0, 0])],
  [(1, 0, ce_Is [0, 0, 0, 0, 0]),
   (1, 0, ce_Is [0, 0, 0, 0, 0]),
   (0, 4, ce_Rs [227, 228, 229] ++ [(1, 0)] ++ ce_Is [0, 0, 0, 0]),
   (1, 0, ce_Is [0, 0, 0, 0, 0]),
   (1, 0, ce_Is [0, 0, 0, 0, 0]),
   (1, 0, ce_Is [0, 0, 0, 0, 0]),
   (0, 4, ce_Rs [231, 232, 233] ++ [(1, 0)] ++ ce_Is [0, 0, 0, 0]),
   (1, 0, ce_Is [0, 0, 0, 0, 0]),
   (1, 0, ce_Is [0, 0, 0, 0, 0]),
   (1, 0, ce_Is [0, 0, 0, 0, 0]),
   (0, 4, ce_Rs [235, 236, 237] ++ [(1, 0)] ++ ce_Is [0, 0, 0, 0]),
   (1, 0, ce_Is [0, 0, 0, 0, 0]),
   (1, 0, ce_Is [0, 0, 0, 0, 0]),
   (1, 0, ce_Is [0, 0, 0, 0, 0]),
   (0, 4, ce_Rs [239, 240, 241] ++ [(1, 0)] ++ ce_Is [0, 0, 0, 0]),
   (1, 0, ce_Is [0, 0, 0, 0, 0])],
  [(1, 0, ce_Is [0, 0, 0, 0, 0]),
   (1, 0, ce_Is [0, 0, 0, 0, 0]),
   (0, 4, ce_Rs [243, 244, 245] ++ [(1, 0)] ++ ce_Is [0, 0, 0, 0]),
   (1, 0, ce_Is [0, 0, 0, 0, 0]),
   (1, 0, ce_Is [0, 0, 0, 0, 0]),
   (1, 0, ce_Is [0, 0, 0, 0, 0]),
   (0, 4, ce_Rs [247, 248, 249] ++ [(1, 0)] ++ ce_Is [0, 0, 0, 0]),
   (1, 0, ce_Is [0, 0, 0, 0, 0]),
   (1, 0, ce_Is [0, 0, 0, 0, 0]),
   (1, 0, ce_Is [0, 0, 0, 0, 0]),
   (0, 0, ce_Rs [251, 255] ++ [(3, 0)] ++ [(3, 0)] ++ ce_Is [0, 0, 0, 0, 0]),
   (0, 4, ce_Rs [252, 253, 254] ++ [(1, 0)] ++ ce_Is [0, 0, 0, 0]),
   (1, 0, ce_Is [0, 0, 0, 0, 0]),
   (1, 0, ce_Is [0, 0, 0, 0, 0]),
   (1, 0, ce_Is [0, 0, 0, 0, 0]),
   (1, 2, List.replicate 36 (1, 0))],
  [(0, 7, ce_Rs [257, 258, 259, 260, 261, 262, 263, 264] ++ ce_Is [0, 0]),
   (1, 0, List.replicate 30 (0, 0)),
   (1, 0, List.replicate 30 (0, 0)),
   (1, 3, List.replicate 30 (0, 0)),
   (1, 0, List.replicate 30 (0, 0)),
   (1, 0, List.replicate 30 (0, 0)),
   (1, 0, List.replicate 468 (0, 0)),
   (1, 0, List.replicate 36 (0, 0)),
   (0, 4, ce_Rs [265, 266, 267] ++ [(1, 0)] ++ ce_Is [0, 0, 0, 0]),
   (1, 0, ce_Is [0, 0, 0, 0, 0]),
   (1, 0, ce_Is [0, 0, 0, 0, 0]),
   (1, 0, ce_Is [0, 0, 0, 0, 0]),
   (1, 0, List.replicate 10 (0, 0)),
   (0, 4, ce_Rs [270, 271, 272] ++ [(1, 0)] ++ ce_Is [0, 0, 0, 0]),
   (1, 0, ce_Is [0, 0, 0, 0, 0]),
   (1, 0, ce_Is [0, 0, 0, 0, 0])],
  [(1, 0, ce_Is [0, 0, 0, 0, 0]),
   (0, 4, ce_Rs [274, 275, 276] ++ [(1, 0)] ++ ce_Is [0, 0, 0, 0]),
   (1, 0, ce_Is [0, 0, 0, 0, 0]),
   (1, 0, ce_Is [0, 0, 0, 0, 0]),
   (1, 0, ce_Is [0, 0, 0, 0, 0]),
   (0, 4, ce_Rs [278, 279, 280] ++ [(1, 0)] ++ ce_Is [0, 0, 0, 0]),
   (1, 0, ce_Is [0, 0, 0, 0, 0]),
   (1, 0, ce_Is [0, 0, 0, 0, 0]),
   (1, 0, ce_Is [0, 0, 0, 0, 0]),
   (0, 12, ce_Rs [282, 283] ++ ce_Is [0, 0, 0] ++ [(0, -1)] ++ ce_Is [0, 0, 0, 0] ++ [(1, 0)] ++ ce_Rs [284, 285, 286, 287, 288, 289, 290, 291, 292, 293, 294, 295, 296, 297, 298, 299, 300, 301, 302, 303, 304] ++ ce_Is [0, 0, 0, 0, 0, 0, 0] ++ ce_Rs [305] ++ [(0, -1)] ++ ce_Rs [306] ++ ce_Is [0] ++ ce_Rs [307] ++ ce_Is [0, 0] ++ ce_Rs [308, 309, 310] ++ ce_Is [0] ++ ce_Rs [311] ++ ce_Is [0] ++ ce_Rs [312, 313, 314, 315, 316, 317, 318, 319] ++ ce_Is [0, 0] ++ ce_Rs [320, 321]),
   (1, 1, List.replicate 1620 (0, 0)),
   (1, 1, List.replicate 1600 (0, 0)),
   (1, 0, ce_Is [6, 0]),
   (1, 0, ce_Is [6, 0]),
   (1, 0, ce_Is [0, 0]),
   (1, 0, ce_Is [0, 0])],
  [(1, 0, ce_Is [0, 0]),
   (1, 0, ce_Is [0, 0]),
   (1, 0, ce_Is [0, 0]),
   (1, 0, ce_Is [2, 0]),
   (1, 0, ce_Is [0, 0]),
   (1, 0, ce_Is [0, 0]),
   (1, 0, ce_Is [0, 0]),
   (1, 0, List.replicate 16 (0, 0)),
   (1, 0, List.replicate 10 (0, 0)),
   (1, 0, ce_Is [0, 0]),
   (1, 0, ce_Is [0, 0]),
   (1, 2, List.replicate 10 (1, 0)),
   (1, 0, List.replicate 1120 (0, 0)),
   (1, 0, List.replicate 1120 (0, 0)),
   (1, 0, List.replicate 90 (0, 0)),
   (1, 0, List.replicate 90 (0, 0))],
  [(1, 0, List.replicate 60 (0, 0)),
   (1, 0, List.replicate 55 (0, 0)),
   (1, 0, ce_Is [0, 0, 0, 0, 0]),
   (1, 0, List.replicate 2255 (0, 0)),
   (1, 0, List.replicate 55 (0, 0)),
   (1, 0, List.replicate 10 (0, 0)),
   (1, 0, List.replicate 36 (0, 0)),
   (1, 0, List.replicate 36 (0, 0)),
   (1, 0, List.replicate 468 (0, 0)),
   (1, 0, List.replicate 30 (0, 0)),
   (1, 0, List.replicate 30 (0, 0)),
   (1, 0, List.replicate 30 (0, 0)),
   (1, 0, List.replicate 30 (0, 0)),
   (1, 0, List.replicate 30 (0, 0)),
   (1, 0, List.replicate 36 (0, 0)),
   (1, 3, List.replicate 36 (0, 0))],
  [(1, 0, List.replicate 165 (0, 0)),
   (1, 3, ce_Is [0, 0, 0])]])
set_option maxRecDepth 1000000 in
theorem cw2_ok : ce_eqH (ce_push cw1 (0, 12, [(3, 0)] ++ [(3, 0)] ++ ce_Is [0, 0, 0, 0, 0, 0, 0, 0] ++ [(1, 0)] ++ List.replicate 21 (3, 0) ++ ce_Is [0, 0, 0, 0, 0, 0, 0] ++ [(3, 0)] ++ ce_Is [0] ++ [(3, 0)] ++ ce_Is [0] ++ [(3, 0)] ++ ce_Is [0, 0] ++ [(3, 0)] ++ [(3, 0)] ++ [(3, 0)] ++ ce_Is [0] ++ [(3, 0)] ++ ce_Is [0] ++ [(3, 0)] ++ [(3, 0)] ++ [(3, 0)] ++ [(3, 0)] ++ [(3, 0)] ++ [(3, 0)] ++ [(3, 0)] ++ [(3, 0)] ++ ce_Is [0, 0] ++ [(3, 0)] ++ [(3, 0)])) cw2 = true := by decide +kernel
set_option maxRecDepth 1000000 in
theorem cw3_ok : ce_exec 4000 12 1011 [(2, 281)] cw2 = some (none, cw3, 40, 9072) := ce_isE_ok (by decide +kernel)
end
section
/-! one call of the class and one of the reference over boxes of arguments; the boxes as a tree in a row: (k, c) cuts the k-th at c, (9, _) is a leaf -/
def ce_enc (lo hi : Int) : Int := lo * 4294967296 + (hi + 2147483648)
def ce_bv (k : Nat) (b : Int × Int) : ceV := if b.1 = b.2 then (0, b.1) else (4 + k, ce_enc b.1 b.2)
def ce_bx : Nat → List (Int × Int) → List ceV
  | _, [] => []
  | k, b :: r => ce_bv k b :: ce_bx (k + 1) r
def ce_bok (b : Int × Int) : Bool := decide (b.2 < 2147483648)
def ce_tree (f : List ceV → Bool) : Nat → List (Nat × Int) → List (Int × Int) → Option (List (Nat × Int))
  | 0, _, _ => none
  | _ + 1, [], _ => none
  | n + 1, q :: t, bx => if Nat.beq q.1 9 = true then (if f (ce_bx 0 bx) && bx.all ce_bok then some t else none) else (match bx[q.1]? with
    | some b => (match ce_tree f n t (bx.set q.1 (b.1, q.2 - 1)) with
      | some t' => ce_tree f n t' (bx.set q.1 (q.2, b.2))
      | none => none)
    | none => none)
def ceIn (ρ : Nat → Int32) (j : Nat) (bx : List (Int × Int)) : Prop := ∀ (k : Nat) (b : Int × Int), bx[k]? = some b → b.1 ≤ (ρ (j + k)).toInt ∧ (ρ (j + k)).toInt ≤ b.2
theorem ceIn.set {ρ : Nat → Int32} {j : Nat} {bx : List (Int × Int)} (h : ceIn ρ j bx) {k : Nat} {b : Int × Int} (hb : b.1 ≤ (ρ (j + k)).toInt ∧ (ρ (j + k)).toInt ≤ b.2) : ceIn ρ j (bx.set k b) := by
  intro i c hc
  by_cases e : k = i
  · subst e
    have hl : k < bx.length := by
      have := (List.getElem?_eq_some_iff.mp hc).1
      rwa [List.length_set] at this
    rw [List.getElem?_set_self hl] at hc
    cases hc
    exact hb
  · rw [List.getElem?_set_ne e] at hc
    exact h i c hc
theorem ce_tree_ok {f : List ceV → Bool} {ρ : Nat → Int32} : ∀ (n : Nat) (t : List (Nat × Int)) (bx : List (Int × Int)) (r : List (Nat × Int)), ce_tree f n t bx = some r → ceIn ρ 0 bx → ∃ bx' : List (Int × Int), f (ce_bx 0 bx') = true ∧ bx'.length = bx.length ∧ ceIn ρ 0 bx' ∧ bx'.all ce_bok = true
  | 0, _, _, _, h, _ => by cases h
  | n + 1, [], _, _, h, _ => by cases h
  | n + 1, q :: t, bx, r, h, hin => by
    unfold ce_tree at h
    split at h
    · split at h
      · rename_i hf
        rw [Bool.and_eq_true] at hf
        exact ⟨bx, hf.1, rfl, hin, hf.2⟩
      · cases h
    · split at h
      · rename_i b hb
        split at h
        · rename_i t' ht'
          have hq := hin _ _ hb
          by_cases e : (ρ (0 + q.1)).toInt < q.2
          · obtain ⟨bx', g1, g2, g3, g4⟩ := ce_tree_ok n t _ t' ht' (hin.set (k := q.1) (b := (b.1, q.2 - 1)) ⟨hq.1, by dsimp only; omega⟩)
            exact ⟨bx', g1, by rw [g2, List.length_set], g3, g4⟩
          · obtain ⟨bx', g1, g2, g3, g4⟩ := ce_tree_ok n t' _ r h (hin.set (k := q.1) (b := (q.2, b.2)) ⟨by dsimp only; omega, hq.2⟩)
            exact ⟨bx', g1, by rw [g2, List.length_set], g3, g4⟩
        · cases h
      · cases h
theorem ce_bv_ok (ρ : Nat → Int32) (B : Nat) {k : Nat} (hk : k < 6) {b : Int × Int} (h : b.1 ≤ (ρ k).toInt ∧ (ρ k).toInt ≤ b.2) (h2 : ce_bok b = true) : ce_c ρ B (ce_bv k b) = .int (ρ k) := by
  have h3 : b.2 < 2147483648 := of_decide_eq_true h2
  have r1 := (ρ k).le_toInt
  have r2 := (ρ k).toInt_lt
  unfold ce_bv
  split
  · rename_i e
    have : b.1 = (ρ k).toInt := by omega
    show Value.int (Int32.ofInt b.1) = _
    rw [this, fb_asI]
  · rw [ce_cU ρ B (by omega)]
    unfold ce_un
    rw [if_pos (by omega), show 4 + k - 4 = k by omega, ce_clp_in]
    · unfold ce_blo ce_enc
      omega
    · unfold ce_bhi ce_enc
      omega
theorem ce_bx_ok (ρ : Nat → Int32) (B : Nat) : ∀ (bx : List (Int × Int)) (j : Nat), j + bx.length ≤ 6 → ceIn ρ j bx → bx.all ce_bok = true → (ce_bx j bx).map (ce_c ρ B) = (List.range' j bx.length).map (fun k => Value.int (ρ k))
  | [], _, _, _, _ => rfl
  | b :: r, j, hl, hin, ha => by
    rw [List.all_cons, Bool.and_eq_true] at ha
    rw [List.length_cons] at hl
    rw [ce_bx, List.map_cons, ce_bv_ok ρ B (by omega) (by have := hin 0 b rfl; rwa [Nat.add_zero] at this) ha.1, ce_bx_ok ρ B r (j + 1) (by omega) (fun k c hc => by have := hin (k + 1) c (by rw [List.getElem?_cons_succ]; exact hc); rwa [show j + (k + 1) = j + 1 + k by omega] at this) ha.2, List.length_cons, List.range'_succ, List.map_cons]
/-- an object of that class stands there -/
def ce_rcv (hp : ceHp) (o ci : Nat) : Bool := match ce_get hp o with
  | some k => Nat.beq k.1 0 && Nat.beq k.2.1 ci
  | none => false
def ce_two (fuel d mx mm : Nat) (hp : ceHp) (as : List ceV) : Bool := match ce_exec fuel d mx ((2, 0) :: as) hp with
  | some (some r, hp1, c1, z1) => (match ce_exec fuel d mm ((2, 281) :: as) hp1 with
    | some (some r', _, c2, z2) => (ce_eqV r r' && (Nat.beq (c1 + c2) 0 && Nat.beq (z1 + z2) 0)) && (Nat.beq (ce_ty r) 0 && ce_rcv hp1 281 12)
    | _ => false)
  | _ => false
/-- what it gives -/
def ceTwo (d mx mm : Nat) (hp : ceHp) (as : List ceV) : Prop := ∃ (yx ym : nhMth) (r : ceV) (hp1 hp2 : ceHp), ce_m mx = some yx ∧ ce_m mm = some ym ∧ ceMet yx d ((2, 0) :: as) hp (some r) hp1 0 0 ∧ ceMet ym d ((2, 281) :: as) hp1 (some r) hp2 0 0 ∧ ce_ty r = 0 ∧ ce_rcv hp1 281 12 = true
theorem ce_two_ok {fuel d mx mm : Nat} {hp : ceHp} {as : List ceV} (h : ce_two fuel d mx mm hp as = true) : ceTwo d mx mm hp as := by
  unfold ce_two at h
  split at h
  · rename_i r hp1 c1 z1 h1
    split at h
    · rename_i r' hp2 c2 z2 h2
      rw [Bool.and_eq_true, Bool.and_eq_true, Bool.and_eq_true, Bool.and_eq_true] at h
      obtain ⟨⟨e1, e2, e3⟩, e4, e5⟩ := h
      have e1 := ce_eqV_ok _ _ e1
      have e2 := Nat.eq_of_beq_eq_true e2
      have e3 := Nat.eq_of_beq_eq_true e3
      obtain ⟨rfl, rfl⟩ : c1 = 0 ∧ c2 = 0 := by omega
      obtain ⟨rfl, rfl⟩ : z1 = 0 ∧ z2 = 0 := by omega
      subst e1
      obtain ⟨yx, g1, g2⟩ := ce_exec_ok _ _ _ _ _ _ _ _ _ h1
      obtain ⟨ym, g3, g4⟩ := ce_exec_ok _ _ _ _ _ _ _ _ _ h2
      exact ⟨yx, ym, r, hp1, hp2, g1, g3, g2, g4, Nat.eq_of_beq_eq_true e4, e5⟩
    · cases h
  · cases h
def ce_tk (f : List ceV → Bool) (n : Nat) (t : List (Nat × Int)) (bx : List (Int × Int)) : Bool := match ce_tree f n t bx with
  | some _ => true
  | none => false
theorem ce_tk_ok {f : List ceV → Bool} {n : Nat} {t : List (Nat × Int)} {bx : List (Int × Int)} (h : ce_tk f n t bx = true) : ∃ r, ce_tree f n t bx = some r := by
  unfold ce_tk at h
  split at h
  · rename_i r hr
    exact ⟨r, hr⟩
  · cases h
end
section
/-! cases of the law, walked -/
set_option maxRecDepth 1000000 in
theorem ct_0 : ce_tk (ce_two 704 14 8 284 cw3) 3 [(9, 0)] [(-2147483648, 2147483647), (-2147483648, 2147483647), (-2147483648, 2147483647), (-2147483648, 2147483647), (-2147483648, 2147483647)] = true := by decide +kernel
set_option maxRecDepth 1000000 in
theorem ct_1 : ce_tk (ce_two 31 14 10 285 cw3) 7 [(0, 0), (9, 0), (0, 1), (9, 0), (9, 0)] [(-2147483648, 2147483647)] = true := by decide +kernel
set_option maxRecDepth 1000000 in
theorem ct_2 : ce_tk (ce_two 3551 14 11 165 cw3) 3 [(9, 0)] [] = true := by decide +kernel
set_option maxRecDepth 1000000 in
theorem ct_3 : ce_tk (ce_two 29 14 49 197 cw3) 9 [(0, 0), (9, 0), (0, 1), (9, 0), (0, 2), (9, 0), (9, 0)] [(-2147483648, 2147483647)] = true := by decide +kernel
set_option maxRecDepth 1000000 in
theorem ct_4 : ce_tk (ce_two 48 14 50 198 cw3) 5 [(0, 0), (9, 0), (9, 0)] [(-2147483648, 2147483647), (-2147483648, 2147483647)] = true := by decide +kernel
set_option maxRecDepth 1000000 in
theorem ct_5 : ce_tk (ce_two 106 14 60 206 cw3) 155 [(0, 0), (9, 0), (0, 36), (1, 0), (9, 0), (1, 3), (1, 1), (0, 18), (0, 9), (0, 4), (0, 2), (0, 1), (9, 0), (9, 0), (0, 3), (9, 0), (9, 0), (0, 6), (0, 5), (9, 0), (9, 0), (0, 7), (9, 0), (0, 8), (9, 0), (9, 0), (0, 13), (0, 11), (0, 10), (9, 0), (9, 0), (0, 12), (9, 0), (9, 0), (0, 15), (0, 14), (9, 0), (9, 0), (0, 16), (9, 0), (0, 17), (9, 0), (9, 0), (0, 27), (0, 22), (0, 20), (0, 19), (9, 0), (9, 0), (0, 21), (9, 0), (9, 0), (0, 24), (0, 23), (9, 0), (9, 0), (0, 25), (9, 0), (0, 26), (9, 0), (9, 0), (0, 31), (0, 29), (0, 28), (9, 0), (9, 0), (0, 30), (9, 0), (9, 0), (0, 33), (0, 32), (9, 0), (9, 0), (0, 34), (9, 0), (0, 35), (9, 0), (9, 0), (1, 2), (9, 0), (0, 18), (0, 9), (0, 4), (0, 2), (0, 1), (9, 0), (9, 0), (0, 3), (9, 0), (9, 0), (0, 6), (0, 5), (9, 0), (9, 0), (0, 7), (9, 0), (0, 8), (9, 0), (9, 0), (0, 13), (0, 11), (0, 10), (9, 0), (9, 0), (0, 12), (9, 0), (9, 0), (0, 15), (0, 14), (9, 0), (9, 0), (0, 16), (9, 0), (0, 17), (9, 0), (9, 0), (0, 27), (0, 22), (0, 20), (0, 19), (9, 0), (9, 0), (0, 21), (9, 0), (9, 0), (0, 24), (0, 23), (9, 0), (9, 0), (0, 25), (9, 0), (0, 26), (9, 0), (9, 0), (0, 31), (0, 29), (0, 28), (9, 0), (9, 0), (0, 30), (9, 0), (9, 0), (0, 33), (0, 32), (9, 0), (9, 0), (0, 34), (9, 0), (0, 35), (9, 0), (9, 0), (9, 0), (9, 0)] [(-2147483648, 2147483647), (-2147483648, 2147483647)] = true := by decide +kernel
set_option maxRecDepth 1000000 in
theorem ct_6_0 : ce_tk (fun as => ce_two 1139 14 76 223 cw3 (as ++ [(0, 0)])) 3 [(9, 0)] [] = true := by decide +kernel
set_option maxRecDepth 1000000 in
theorem ct_6_1 : ce_tk (fun as => ce_two 1139 14 76 223 cw3 (as ++ [(0, 1)])) 3 [(9, 0)] [] = true := by decide +kernel
set_option maxRecDepth 1000000 in
theorem ct_7 : ce_tk (ce_two 1253 14 85 229 cw3) 13 [(0, 1), (9, 0), (0, 5), (0, 3), (0, 2), (9, 0), (9, 0), (0, 4), (9, 0), (9, 0), (9, 0)] [(-2147483648, 2147483647)] = true := by decide +kernel
set_option maxRecDepth 1000000 in
theorem ct_8 : ce_tk (ce_two 1098 14 86 230 cw3) 3 [(9, 0)] [] = true := by decide +kernel
set_option maxRecDepth 1000000 in
theorem ct_10 : ce_tk (ce_two 62 14 89 234 cw3) 77 [(0, 0), (9, 0), (0, 36), (0, 18), (0, 9), (0, 4), (0, 2), (0, 1), (9, 0), (9, 0), (0, 3), (9, 0), (9, 0), (0, 6), (0, 5), (9, 0), (9, 0), (0, 7), (9, 0), (0, 8), (9, 0), (9, 0), (0, 13), (0, 11), (0, 10), (9, 0), (9, 0), (0, 12), (9, 0), (9, 0), (0, 15), (0, 14), (9, 0), (9, 0), (0, 16), (9, 0), (0, 17), (9, 0), (9, 0), (0, 27), (0, 22), (0, 20), (0, 19), (9, 0), (9, 0), (0, 21), (9, 0), (9, 0), (0, 24), (0, 23), (9, 0), (9, 0), (0, 25), (9, 0), (0, 26), (9, 0), (9, 0), (0, 31), (0, 29), (0, 28), (9, 0), (9, 0), (0, 30), (9, 0), (9, 0), (0, 33), (0, 32), (9, 0), (9, 0), (0, 34), (9, 0), (0, 35), (9, 0), (9, 0), (9, 0)] [(-2147483648, 2147483647)] = true := by decide +kernel
set_option maxRecDepth 1000000 in
theorem ct_11 : ce_tk (ce_two 31 14 90 235 cw3) 3 [(9, 0)] [] = true := by decide +kernel
set_option maxRecDepth 1000000 in
theorem ct_12 : ce_tk (ce_two 31 14 92 237 cw3) 3 [(9, 0)] [] = true := by decide +kernel
set_option maxRecDepth 1000000 in
theorem ct_13 : ce_tk (ce_two 48 14 96 239 cw3) 5 [(0, 0), (9, 0), (9, 0)] [(-2147483648, 2147483647), (-2147483648, 2147483647), (-2147483648, 2147483647)] = true := by decide +kernel
set_option maxRecDepth 1000000 in
theorem ct_14 : ce_tk (ce_two 48 14 99 244 cw3) 5 [(0, 0), (9, 0), (9, 0)] [(-2147483648, 2147483647)] = true := by decide +kernel
set_option maxRecDepth 1000000 in
theorem ct_15 : ce_tk (ce_two 48 14 100 245 cw3) 5 [(0, 0), (9, 0), (9, 0)] [(-2147483648, 2147483647), (-2147483648, 2147483647)] = true := by decide +kernel
set_option maxRecDepth 1000000 in
theorem ct_16 : ce_tk (ce_two 51 14 102 255 cw3) 5 [(0, 0), (9, 0), (9, 0)] [(-2147483648, 2147483647), (-2147483648, 2147483647)] = true := by decide +kernel
set_option maxRecDepth 1000000 in
theorem ct_17 : ce_tk (ce_two 51 14 107 256 cw3) 5 [(0, 0), (9, 0), (9, 0)] [(-2147483648, 2147483647), (-2147483648, 2147483647), (-2147483648, 2147483647)] = true := by decide +kernel
set_option maxRecDepth 1000000 in
theorem ct_20 : ce_tk (ce_two 48 14 135 265 cw3) 5 [(0, 0), (9, 0), (9, 0)] [(-2147483648, 2147483647), (-2147483648, 2147483647), (-2147483648, 2147483647)] = true := by decide +kernel
set_option maxRecDepth 1000000 in
theorem ct_22 : ce_tk (ce_two 32 14 118 251 cw3) 7 [(0, 1), (9, 0), (0, 61), (9, 0), (9, 0)] [(-2147483648, 2147483647)] = true := by decide +kernel
set_option maxRecDepth 1000000 in
theorem ct_23 : ce_tk (ce_two 48 14 124 250 cw3) 5 [(0, 0), (9, 0), (9, 0)] [(-2147483648, 2147483647), (-2147483648, 2147483647)] = true := by decide +kernel
set_option maxRecDepth 1000000 in
theorem ct_24 : ce_tk (ce_two 48 14 134 218 cw3) 5 [(0, 0), (9, 0), (9, 0)] [(-2147483648, 2147483647)] = true := by decide +kernel
set_option maxRecDepth 1000000 in
theorem ct_25 : ce_tk (ce_two 31 14 123 254 cw3) 7 [(0, 0), (9, 0), (0, 61), (9, 0), (9, 0)] [(-2147483648, 2147483647)] = true := by decide +kernel
set_option maxRecDepth 1000000 in
theorem ct_26 : ce_tk (ce_two 36 14 133 264 cw3) 3 [(9, 0)] [] = true := by decide +kernel
set_option maxRecDepth 1000000 in
theorem ct_27 : ce_tk (ce_two 744 14 138 221 cw3) 7 [(0, 0), (9, 0), (0, 3), (9, 0), (9, 0)] [(-2147483648, 2147483647)] = true := by decide +kernel
set_option maxRecDepth 1000000 in
theorem ct_29 : ce_tk (ce_two 44 14 68 211 cw3) 3 [(9, 0)] [] = true := by decide +kernel
set_option maxRecDepth 1000000 in
theorem ct_30 : ce_tk (ce_two 39 14 71 215 cw3) 3 [(9, 0)] [] = true := by decide +kernel
set_option maxRecDepth 1000000 in
theorem ct_32 : ce_tk (ce_two 36 14 73 217 cw3) 3 [(9, 0)] [] = true := by decide +kernel
set_option maxRecDepth 1000000 in
theorem ct_34 : ce_tk (ce_two 708 14 141 220 cw3) 7 [(0, 0), (9, 0), (0, 3), (9, 0), (9, 0)] [(-2147483648, 2147483647)] = true := by decide +kernel
set_option maxRecDepth 1000000 in
theorem ct_35 : ce_tk (ce_two 64 14 70 213 cw3) 7 [(0, 0), (9, 0), (0, 100), (9, 0), (9, 0)] [(-2147483648, 2147483647)] = true := by decide +kernel
set_option maxRecDepth 1000000 in
theorem ct_37 : ce_tk (ce_two 180 14 74 269 cw3) 29 [(0, 0), (9, 0), (0, 5), (1, 0), (9, 0), (1, 2), (0, 1), (1, 1), (9, 0), (9, 0), (0, 2), (1, 1), (9, 0), (9, 0), (0, 3), (1, 1), (9, 0), (9, 0), (0, 4), (1, 1), (9, 0), (9, 0), (1, 1), (9, 0), (9, 0), (9, 0), (9, 0)] [(-2147483648, 2147483647), (-2147483648, 2147483647)] = true := by decide +kernel
set_option maxRecDepth 1000000 in
theorem ct_38 : ce_tk (ce_two 38 14 67 238 cw3) 5 [(0, 0), (9, 0), (9, 0)] [(-2147483648, 2147483647)] = true := by decide +kernel
set_option maxRecDepth 1000000 in
theorem ct_39_0 : ce_tk (fun as => ce_two 82 14 142 272 cw3 (as ++ [(0, 0)])) 11 [(0, 0), (9, 0), (0, 13), (1, 0), (9, 0), (1, 36), (9, 0), (9, 0), (9, 0)] [(-2147483648, 2147483647), (-2147483648, 2147483647)] = true := by decide +kernel
set_option maxRecDepth 1000000 in
theorem ct_39_1 : ce_tk (fun as => ce_two 82 14 142 272 cw3 (as ++ [(0, 1)])) 11 [(0, 0), (9, 0), (0, 13), (1, 0), (9, 0), (1, 36), (9, 0), (9, 0), (9, 0)] [(-2147483648, 2147483647), (-2147483648, 2147483647)] = true := by decide +kernel
set_option maxRecDepth 1000000 in
theorem ct_40 : ce_tk (ce_two 38 14 144 273 cw3) 5 [(0, 0), (9, 0), (9, 0)] [(-2147483648, 2147483647)] = true := by decide +kernel
set_option maxRecDepth 1000000 in
theorem ct_41 : ce_tk (ce_two 49 14 146 274 cw3) 7 [(0, 0), (9, 0), (0, 1001), (9, 0), (9, 0)] [(-2147483648, 2147483647)] = true := by decide +kernel
set_option maxRecDepth 1000000 in
theorem ct_42 : ce_tk (ce_two 82 14 147 275 cw3) 3 [(9, 0)] [(-2147483648, 2147483647)] = true := by decide +kernel
set_option maxRecDepth 1000000 in
theorem ct_43 : ce_tk (ce_two 51 14 153 278 cw3) 7 [(0, 0), (9, 0), (0, 2), (9, 0), (9, 0)] [(-2147483648, 2147483647), (-2147483648, 2147483647)] = true := by decide +kernel
set_option maxRecDepth 1000000 in
theorem ct_44 : ce_tk (ce_two 51 14 158 279 cw3) 7 [(0, 0), (9, 0), (0, 2), (9, 0), (9, 0)] [(-2147483648, 2147483647), (-2147483648, 2147483647)] = true := by decide +kernel
set_option maxRecDepth 1000000 in
theorem ct_45 : ce_tk (ce_two 984 14 94 281 cw3) 11 [(0, 0), (9, 0), (0, 3), (0, 1), (9, 0), (0, 2), (9, 0), (9, 0), (9, 0)] [(-2147483648, 2147483647)] = true := by decide +kernel
set_option maxRecDepth 1000000 in
theorem ct_46 : ce_tk (ce_two 41 14 95 282 cw3) 11 [(0, 0), (9, 0), (0, 3), (0, 1), (9, 0), (0, 2), (9, 0), (9, 0), (9, 0)] [(-2147483648, 2147483647)] = true := by decide +kernel
set_option maxRecDepth 1000000 in
theorem ct_47 : ce_tk (ce_two 538 14 64 283 cw3) 39 [(0, 0), (9, 0), (0, 8), (0, 4), (0, 2), (0, 1), (9, 0), (9, 0), (0, 3), (9, 0), (9, 0), (0, 6), (0, 5), (9, 0), (9, 0), (0, 7), (9, 0), (9, 0), (0, 17), (0, 12), (0, 10), (0, 9), (9, 0), (9, 0), (0, 11), (9, 0), (9, 0), (0, 14), (0, 13), (9, 0), (9, 0), (0, 15), (9, 0), (0, 16), (9, 0), (9, 0), (9, 0)] [(-2147483648, 2147483647)] = true := by decide +kernel
end
section
/-! known values: a loop that counts, taken in one stride; the counter is the unknown int 5 -/
def ce_stp (call : Nat → List ceV → ceHp → Option ceO) (own nL : Nat) (dt : List nhDt) (S : ceS) : Option ceS := match ce_dk dt S.1 with
  | some w => (match ce_one own nL false S.1 w.1 w.2 S.2.1 S.2.2.1 S.2.2.2 with
    | some S' => some S'
    | none => match ce_cl own w.1 S.2.2.1 S.2.2.2 with
      | some q => if w.2 = 3 then (match call q.1 q.2.1 S.2.2.2 with
        | some o => if o.2.2.1 = 0 ∧ o.2.2.2 = 0 then some (S.1 + 3, S.2.1, o.1.toList ++ q.2.2, o.2.1) else none
        | none => none) else none
      | none => none)
  | none => none
def ce_seg (call : Nat → List ceV → ceHp → Option ceO) (own nL : Nat) (dt : List nhDt) : Nat → ceS → Option ceS
  | 0, S => some S
  | f + 1, S => match ce_stp call own nL dt S with
    | some S' => ce_seg call own nL dt f S'
    | none => none
def ce_rho (ρ : Nat → Int32) (i : Int32) : Nat → Int32 := fun k => if k = 5 then i else ρ k
/-- a value that does not speak of the unknown int 5 -/
def ce_n5 (v : ceV) : Bool := Nat.ble v.1 3 || (Nat.ble v.1 39 && !(Nat.beq ((v.1 - 4) % 6) 5))
theorem ce_n5_ok {ρ : Nat → Int32} {i : Int32} {B : Nat} {v : ceV} (h : ce_n5 v = true) : ce_c (ce_rho ρ i) B v = ce_c ρ B v := by
  obtain ⟨t, x⟩ := v
  unfold ce_n5 at h
  rw [Bool.or_eq_true] at h
  rcases h with h | h
  · have h : t ≤ 3 := Nat.le_of_ble_eq_true h
    match t, h with
    | 0, _ => rfl
    | 1, _ => rfl
    | 2, _ => rfl
    | 3, _ => rfl
  · rw [Bool.and_eq_true] at h
    have h1 : t ≤ 39 := Nat.le_of_ble_eq_true h.1
    have h2 : (t - 4) % 6 ≠ 5 := ce_nb h.2
    by_cases h4 : 4 ≤ t
    · rw [ce_cU _ B h4, ce_cU _ B h4]
      unfold ce_un ce_rho
      congr 1
      split
      · rw [if_neg (by omega)]
      · split
        · rw [if_neg (by omega)]
        · split
          · rw [if_neg (by omega)]
          · split
            · rw [if_neg (by omega)]
            · split
              · rw [if_neg (by omega)]
              · rw [if_neg (by omega)]
    · have h5 : t ≤ 3 := by omega
      clear h h1 h2 h4
      match t, h5 with
      | 0, _ => rfl
      | 1, _ => rfl
      | 2, _ => rfl
      | 3, _ => rfl
theorem ce_c30 (ρ : Nat → Int32) (B : Nat) : ce_c ρ B (3, 0) = .null := rfl
def ce_h5 (hp : ceHp) : Bool := hp.2.all (fun r => r.all (fun c => c.2.2.all ce_n5))
theorem ce_h5_ok {ρ : Nat → Int32} {i : Int32} {B : Nat} {hp : ceHp} (h : ce_h5 hp = true) {a : Nat} {c : ceC} (hc : ce_get hp a = some c) (k : Nat) : ce_c (ce_rho ρ i) B (c.2.2.getD k (3, 0)) = ce_c ρ B (c.2.2.getD k (3, 0)) := by
  unfold ce_get at hc
  split at hc
  · rename_i r hr
    have h1 := List.all_eq_true.mp h _ (List.mem_of_getElem? hr)
    have h2 := List.all_eq_true.mp h1 _ (List.mem_of_getElem? hc)
    rw [List.getD_eq_getElem?_getD]
    cases hk : c.2.2[k]? with
    | none => exact (ce_c30 _ B).trans (ce_c30 _ B).symm
    | some v => exact ce_n5_ok (List.all_eq_true.mp h2 _ (List.mem_of_getElem? hk))
  · cases hc
theorem ceCell.env {D : nhD} {ρ1 ρ2 : Nat → Int32} {B : Nat} {c1 c2 : ceC} {a : Nat} {H : Heap} (h : ceCell D ρ1 B c1 a H) (h1 : c1.1 = c2.1) (h2 : c1.2.1 = c2.2.1) (h3 : c1.2.2.length = c2.2.2.length) (h4 : ∀ k, ce_c ρ1 B (c1.2.2.getD k (3, 0)) = ce_c ρ2 B (c2.2.2.getD k (3, 0))) : ceCell D ρ2 B c2 a H := by
  have h5 : (fun k => ce_c ρ1 B (c1.2.2.getD k (3, 0))) = (fun k => ce_c ρ2 B (c2.2.2.getD k (3, 0))) := funext h4
  unfold ceCell at h ⊢
  rw [h1, h2, h3, h5] at h
  exact h
def ce_cj (c : ceC) (j : Nat) (v : ceV) : ceC := (c.1, c.2.1, c.2.2.set j v)
theorem ce_cj_get {ρ1 ρ2 : Nat → Int32} {B : Nat} {c : ceC} {j : Nat} {v1 v2 : ceV} (h : ce_c ρ1 B v1 = ce_c ρ2 B v2) (ho : ∀ k, ce_c ρ1 B (c.2.2.getD k (3, 0)) = ce_c ρ2 B (c.2.2.getD k (3, 0))) (k : Nat) : ce_c ρ1 B ((ce_cj c j v1).2.2.getD k (3, 0)) = ce_c ρ2 B ((ce_cj c j v2).2.2.getD k (3, 0)) := by
  unfold ce_cj
  dsimp only
  have ho := ho k
  rw [List.getD_eq_getElem?_getD] at ho
  rw [List.getD_eq_getElem?_getD, List.getD_eq_getElem?_getD]
  rw [List.getElem?_set, List.getElem?_set]
  by_cases e : j = k
  · rw [if_pos e, if_pos e]
    by_cases e2 : j < c.2.2.length
    · rw [if_pos e2, if_pos e2]
      exact h
    · rw [if_neg e2, if_neg e2]
      exact (ce_c30 ρ1 B).trans (ce_c30 ρ2 B).symm
  · rw [if_neg e, if_neg e]
    exact ho
theorem ceRel.env {D : nhD} {ρ1 ρ2 : Nat → Int32} {B : Nat} {H0 : Heap} {nL : Nat} {lo1 lo2 : List (Nat × ceV)} {hp : ceHp} {a : Nat} {c c1 c2 : ceC} {H : Heap} {locs : List Loc} {ls : Array Slot} (h : ceRel D ρ1 B H0 nL lo1 (ce_set hp a c1) H locs ls) (hg : ce_get hp a = some c) (hl : ∀ q ∈ lo2, ∃ q1 ∈ lo1, q1.1 = q.1 ∧ ce_c ρ1 B q1.2 = ce_c ρ2 B q.2) (ho : ∀ (i : Nat) (d : ceC), ce_get hp i = some d → ∀ k, ce_c ρ1 B (d.2.2.getD k (3, 0)) = ce_c ρ2 B (d.2.2.getD k (3, 0)))
    (h1 : c1.1 = c2.1) (h2 : c1.2.1 = c2.2.1) (h3 : c1.2.2.length = c2.2.2.length) (h4 : ∀ k, ce_c ρ1 B (c1.2.2.getD k (3, 0)) = ce_c ρ2 B (c2.2.2.getD k (3, 0))) : ceRel D ρ2 B H0 nL lo2 (ce_set hp a c2) H locs ls := by
  obtain ⟨r1, r2, r3, ⟨r4, r5, r6⟩, r7⟩ := h
  refine ⟨r1, r2, fun q hq => ?_, ⟨r4, r5, fun i d hd => ?_⟩, r7⟩
  · obtain ⟨q1, g1, g2, g3⟩ := hl q hq
    have := r3 q1 g1
    rw [g2, g3] at this
    exact this
  · rw [ce_set_get hg] at hd
    have r6 := r6 i
    rw [ce_set_get hg] at r6
    split at hd
    · rename_i e
      cases hd
      rw [if_pos e] at r6
      exact (r6 _ rfl).env h1 h2 h3 h4
    · rename_i e
      rw [if_neg e] at r6
      exact (r6 _ hd).env rfl rfl rfl (ho i d hd)
theorem ceRel.self {D : nhD} {ρ : Nat → Int32} {B : Nat} {H0 : Heap} {nL : Nat} {lo : List (Nat × ceV)} {hp : ceHp} {a : Nat} {c : ceC} {H : Heap} {locs : List Loc} {ls : Array Slot} (h : ceRel D ρ B H0 nL lo hp H locs ls) (hg : ce_get hp a = some c) : ceRel D ρ B H0 nL lo (ce_set hp a c) H locs ls := by
  obtain ⟨r1, r2, r3, ⟨r4, r5, r6⟩, r7⟩ := h
  refine ⟨r1, r2, r3, ⟨r4, r5, fun i d hd => ?_⟩, r7⟩
  rw [ce_set_get hg] at hd
  split at hd
  · rename_i e
    cases hd
    subst e
    exact r6 _ _ hg
  · exact r6 _ _ hd
def ce_pl : Int := 4294967294
theorem ce_i1 {i : Int32} (h : i.toInt < 2147483647) : (i + 1).toInt = i.toInt + 1 := by
  have h1 := i.le_toInt
  rw [Int32.toInt_add, show (1 : Int32).toInt = 1 from rfl]
  exact Int.bmod_eq_of_le (by omega) (by omega)
theorem ce_plv {ρ : Nat → Int32} {i : Int32} {B : Nat} (h1 : 0 ≤ i.toInt) (h2 : i.toInt ≤ 2147483646) : ce_c (ce_rho ρ i) B (9, ce_pl) = .int i := by
  rw [ce_cU _ B (by omega)]
  unfold ce_un
  rw [if_pos (by omega)]
  show Value.int (ce_clp ce_pl i) = _
  rw [ce_clp_in]
  · rw [show ce_blo ce_pl = 0 from by decide]
    exact h1
  · rw [show ce_bhi ce_pl = 2147483646 from by decide]
    exact h2
theorem ce_plw {ρ : Nat → Int32} {i : Int32} {B : Nat} (h1 : 0 ≤ i.toInt) (h2 : i.toInt ≤ 2147483646) : ce_c (ce_rho ρ i) B (39, ce_pl) = .int (i + 1) := by
  have h := ce_plv (ρ := ρ) (B := B) h1 h2
  rw [ce_cU _ B (by omega)] at h ⊢
  rw [ce_inc1 (t := 9) (by omega) (by omega), Value.int.inj h]
section CE9
variable {p : Program} {l : Launch} {e : Env} {R : Room} {s : State} {m : MethodId} {args : Array Value} {below : List Frame} {meth : Method} {c : Code} {Q : State → Prop} {cc : ByteArray} {own : Nat} {D : nhD} {B : Nat} {H0 : Heap} {nL : Nat}
theorem ce_stp_ok {ρ : Nat → Int32} (hF : nhFx p c s m args cc nL own D) {dt : List nhDt} (hdt : ∀ (pc : Nat) (q : Instr × Nat), ce_dk dt pc = some q → decode cc pc = .ok q) (hNs : ceNs s) {d : Nat} {call : Nat → List ceV → ceHp → Option ceO} (hcall : ∀ mn as hp r hp' c1 z1, call mn as hp = some (r, hp', c1, z1) → ∃ y, ce_m mn = some y ∧ ceMet y d as hp r hp' c1 z1) (hRm : R = ceRm (d + 1) 0 0) {S S' : ceS} (h : ce_stp call own nL dt S = some S')
    (k : ceGo p l e R s m args below meth c Q D ρ B H0 nL 0 0 S') : ceGo p l e R s m args below meth c Q D ρ B H0 nL 0 0 S := by
  obtain ⟨pc, lo, st, hp⟩ := S
  have hf1 : 1 ≤ R.frames := by rw [hRm]; show 1 ≤ d + 1; omega
  have hlo1 : 60 ≤ R.locals := by rw [hRm]; show 60 ≤ 60 * (d + 1); omega
  unfold ce_stp at h
  split at h
  · rename_i w hw'
    have hw : decode cc pc = .ok w := hdt _ _ hw'
    split at h
    · rename_i S1 hS1
      cases h
      exact ce_one_ok hF (ini := false) (fun q => by cases q) hf1 hlo1 (Nat.zero_le _) (Nat.zero_le _) hw hS1 k
    · split at h
      · rename_i q hq
        split at h
        · rename_i h3
          split at h
          · rename_i o ho
            split at h
            · rename_i hz
              cases h
              obtain ⟨r1, hp1, c1, z1⟩ := o
              dsimp only at hz
              obtain ⟨rfl, rfl⟩ := hz
              obtain ⟨y, hy, hM⟩ := hcall _ _ _ _ _ _ _ ho
              have hw' : decode cc pc = .ok (w.1, 3) := by rw [hw, ← h3]
              exact ce_cl_ok hF hNs hRm (mn := q.1) (as := q.2.1) (rest := q.2.2) hq hw' hy hM (Nat.le_refl _) (Nat.le_refl _) k
            · cases h
          · cases h
        · cases h
      · cases h
  · cases h
theorem ce_seg_ok {ρ : Nat → Int32} (hF : nhFx p c s m args cc nL own D) {dt : List nhDt} (hdt : ∀ (pc : Nat) (q : Instr × Nat), ce_dk dt pc = some q → decode cc pc = .ok q) (hNs : ceNs s) {d : Nat} {call : Nat → List ceV → ceHp → Option ceO} (hcall : ∀ mn as hp r hp' c1 z1, call mn as hp = some (r, hp', c1, z1) → ∃ y, ce_m mn = some y ∧ ceMet y d as hp r hp' c1 z1) (hRm : R = ceRm (d + 1) 0 0) {S' : ceS} (k : ceGo p l e R s m args below meth c Q D ρ B H0 nL 0 0 S') : ∀ (f : Nat) (S : ceS), ce_seg call own nL dt f S = some S' → ceGo p l e R s m args below meth c Q D ρ B H0 nL 0 0 S
  | 0, S, h => by cases h; exact k
  | f + 1, S, h => by
    unfold ce_seg at h
    split at h
    · rename_i S1 hS1
      exact ce_stp_ok hF hdt hNs hcall hRm hS1 (ce_seg_ok hF hdt hNs hcall hRm k f S1 h)
    · cases h
theorem ce_loop_ok {ρ : Nat → Int32} (hF : nhFx p c s m args cc nL own D) {dt : List nhDt} (hdt : ∀ (pc : Nat) (q : Instr × Nat), ce_dk dt pc = some q → decode cc pc = .ok q) (hNs : ceNs s) {d : Nat} {call : Nat → List ceV → ceHp → Option ceO} (hcall : ∀ mn as hp r hp' c1 z1, call mn as hp = some (r, hp', c1, z1) → ∃ y, ce_m mn = some y ∧ ceMet y d as hp r hp' c1 z1) (hRm : R = ceRm (d + 1) 0 0)
    {hd pcc ex nb kk a j : Nat} {off : Int} {loR lo' : List (Nat × ceV)} {nv v9 v39 : ceV} {hp : ceHp} {cl : ceC} {N : Int32} (h9 : ∀ i : Int32, 0 ≤ i.toInt → i.toInt ≤ 2147483646 → ce_c (ce_rho ρ i) B v9 = .int i) (h39 : ∀ i : Int32, 0 ≤ i.toInt → i.toInt ≤ 2147483646 → ce_c (ce_rho ρ i) B v39 = .int (i + 1))
    (hcmp : ce_dk dt pcc = some (.if_icmp .ge off, 3)) (ht : nh_tg pcc off = some ex)
    (hhd : ∀ hp, ce_seg call own nL dt 2 (hd, (kk, v9) :: loR, [], hp) = some (pcc, (kk, v9) :: loR, [nv, v9], hp))
    (hbody : ce_seg call own nL dt nb (pcc + 3, (kk, v9) :: loR, [], ce_set hp a (ce_cj cl j v9)) = some (hd, lo', [], ce_set hp a (ce_cj cl j v39)))
    (hlo : ∀ q ∈ (kk, v39) :: loR, q ∈ lo') (hl5 : ∀ q ∈ loR, ce_n5 q.2 = true) (hn5 : ce_n5 nv = true) (hg : ce_get hp a = some cl) (hh5 : ce_h5 hp = true) (hN : ce_c ρ B nv = .int N) (hN0 : 0 ≤ N.toInt) (hN1 : N.toInt ≤ 2147483646)
    (hexit : ceGo p l e R s m args below meth c Q D ρ B H0 nL 0 0 (ex, [], [], ce_set hp a (ce_cj cl j nv))) :
    ∀ (n : Nat) (i : Int32), 0 ≤ i.toInt → i.toInt ≤ N.toInt → N.toInt - i.toInt ≤ n → ceGo p l e R s m args below meth c Q D (ce_rho ρ i) B H0 nL 0 0 (hd, (kk, v9) :: loR, [], ce_set hp a (ce_cj cl j v9)) := by
  have hx := hF.1
  have hb := hF.2.1
  have step : ∀ (i : Int32), 0 ≤ i.toInt → i.toInt ≤ N.toInt → (i.toInt < N.toInt → ceGo p l e R s m args below meth c Q D (ce_rho ρ (i + 1)) B H0 nL 0 0 (hd, (kk, v9) :: loR, [], ce_set hp a (ce_cj cl j v9))) → ceGo p l e R s m args below meth c Q D (ce_rho ρ i) B H0 nL 0 0 (hd, (kk, v9) :: loR, [], ce_set hp a (ce_cj cl j v9)) := by
    intro i hi0 hi1 hnext
    refine ce_seg_ok hF hdt hNs hcall hRm ?_ 2 _ (hhd _)
    intro H locs ls hR
    show W p l e R s m args below meth c H locs 0 0 Q (F0 m pcc ls (ce_c (ce_rho ρ i) B nv :: ce_c (ce_rho ρ i) B v9 :: []))
    rw [ce_n5_ok hn5, hN, h9 i hi0 (by omega)]
    refine nh_icW hx hb (hdt _ _ hcmp) (nh_tg_ok ht) (fun hge => ?_) (fun hlt => ?_)
    · have hge : N.toInt ≤ i.toInt := by simpa [nh_cr] using hge
      have e1 : i = N := Int32.toInt_inj.mp (by omega)
      subst e1
      refine hexit H locs ls (hR.env hg (fun q hq => by cases hq) (fun i' d' hd' k => ce_h5_ok hh5 hd' k) rfl rfl (by simp [ce_cj]) (ce_cj_get (by rw [hN]; exact h9 _ hi0 hN1) (fun k => ce_h5_ok hh5 hg k)))
    · have hlt : i.toInt < N.toInt := by
        have h1 : ¬ N.toInt ≤ i.toInt := by simpa [nh_cr] using hlt
        omega
      have ei : (i + 1).toInt = i.toInt + 1 := ce_i1 (by omega)
      refine ce_seg_ok hF hdt hNs hcall hRm ?_ nb _ hbody H locs ls hR
      intro H locs ls hR
      show W p l e R s m args below meth c H locs 0 0 Q (F0 m hd ls [])
      have hgo : ∀ (H : Heap) (locs : List Loc) (ls : Array Slot), ceRel D (ce_rho ρ (i + 1)) B H0 nL ((kk, v9) :: loR) (ce_set hp a (ce_cj cl j v9)) H locs ls → W p l e R s m args below meth c H locs 0 0 Q (F0 m hd ls []) := hnext hlt
      refine hgo H locs ls (hR.env hg (fun q hq => ?_) (fun i' d' hd' k => by rw [ce_h5_ok hh5 hd' k, ce_h5_ok hh5 hd' k]) rfl rfl (by simp [ce_cj]) (ce_cj_get (by rw [h39 i hi0 (by omega), h9 (i + 1) (by omega) (by omega)]) (fun k => by rw [ce_h5_ok hh5 hg k, ce_h5_ok hh5 hg k])))
      rcases List.mem_cons.mp hq with rfl | hq
      · exact ⟨(kk, v39), hlo _ List.mem_cons_self, rfl, by rw [h39 i hi0 (by omega), h9 (i + 1) (by omega) (by omega)]⟩
      · exact ⟨q, hlo _ (List.mem_cons_of_mem _ hq), rfl, by rw [ce_n5_ok (hl5 q hq), ce_n5_ok (hl5 q hq)]⟩
  intro n
  induction n with
  | zero => exact fun i h0 h1 h2 => step i h0 h1 (fun hlt => by omega)
  | succ n ih => exact fun i h0 h1 h2 => step i h0 h1 (fun hlt => by
      have ei : (i + 1).toInt = i.toInt + 1 := ce_i1 (by omega)
      exact ih (i + 1) (by omega) (by omega) (by omega))
end CE9
end
section
/-! known values: the loops of goOn and goSteps in one stride, and calls that were walked before -/
def ce_at0 (vs : List ceV) (j : Nat) : Bool := match vs[j]? with
  | some v => ce_eqV v (0, 0)
  | none => false
def ce_lpc (call : Nat → List ceV → ceHp → Option ceO) (mn nL hd pcc nb kk a j : Nat) (loR : List (Nat × ceV)) (nv : ceV) (hp : ceHp) : Option ceO := match ce_get hp a with
  | some c => if (decide (4 ≤ nv.1 ∧ nv.1 < 9 ∧ 0 ≤ ce_blo nv.2 ∧ ce_blo nv.2 ≤ ce_bhi nv.2 ∧ ce_bhi nv.2 ≤ 2147483646) && (loR.all (fun q => ce_n5 q.2) && (ce_at0 c.2.2 j && ce_h5 hp))) = true then (match ce_seg call (ce_ow mn) nL (ce_ck (ce_dt mn)) nb (pcc + 3, (kk, (9, ce_pl)) :: loR, [], ce_set hp a (ce_cj c j (9, ce_pl))) with
      | some S => if (Nat.beq S.1 hd && (S.2.2.1.isEmpty && ((((kk, ((39, ce_pl) : ceV)) :: loR).all (fun q => S.2.1.any (fun w => Nat.beq w.1 q.1 && ce_eqV w.2 q.2))) && ce_eqH S.2.2.2 (ce_set hp a (ce_cj c j (39, ce_pl)))))) = true then some (none, ce_set hp a (ce_cj c j nv), 0, 0) else none
      | none => none) else none
  | none => none
def ce_mB (mn nL : Nat) : Bool := match ce_m mn with
  | some y => decide (mn < 1000 ∧ nhOw[ce_ow mn]? = some y.1.cls ∧ y.2.2.1 = nL ∧ y.2.2.2.1 = none)
  | none => false
theorem ce_seg_cons {call : Nat → List ceV → ceHp → Option ceO} {own nL : Nat} {dt : List nhDt} {f : Nat} {S S' : ceS} {w : Instr × Nat} (h1 : ce_dk dt S.1 = some w) (h2 : ce_one own nL false S.1 w.1 w.2 S.2.1 S.2.2.1 S.2.2.2 = some S') : ce_seg call own nL dt (f + 1) S = ce_seg call own nL dt f S' := by
  have h3 : ce_stp call own nL dt S = some S' := by
    unfold ce_stp
    rw [h1]
    dsimp only
    rw [h2]
  rw [ce_seg, h3]
theorem ce_lpc_ok {mn nL hd pcc ex nb kk a j d : Nat} {off : Int} {as : List ceV} {loR : List (Nat × ceV)} {nv : ceV} {hp : ceHp} {call : Nat → List ceV → ceHp → Option ceO} (hB : ce_mB mn nL = true) (hsum : ce_sum as ≤ nL)
    (hent : ∀ hp, ce_seg call (ce_ow mn) nL (ce_ck (ce_dt mn)) 2 (0, ce_lo0 0 as, [], hp) = some (hd, (kk, (0, 0)) :: loR, [], hp))
    (hcmp : ce_dk (ce_ck (ce_dt mn)) pcc = some (.if_icmp .ge off, 3)) (ht : nh_tg pcc off = some ex)
    (hhd : ∀ hp, ce_seg call (ce_ow mn) nL (ce_ck (ce_dt mn)) 2 (hd, (kk, (9, ce_pl)) :: loR, [], hp) = some (pcc, (kk, (9, ce_pl)) :: loR, [nv, (9, ce_pl)], hp))
    (hret : ce_dk (ce_ck (ce_dt mn)) ex = some (.return_, 1))
    (hcall : ∀ mn as hp r hp' c1 z1, call mn as hp = some (r, hp', c1, z1) → ∃ y, ce_m mn = some y ∧ ceMet y d as hp r hp' c1 z1) {r : Option ceV} {hp' : ceHp} {c1 z1 : Nat} (h : ce_lpc call mn nL hd pcc nb kk a j loR nv hp = some (r, hp', c1, z1)) : ∃ y, ce_m mn = some y ∧ ceMet y (d + 1) as hp r hp' c1 z1 := by
  unfold ce_mB at hB
  split at hB
  · rename_i y hy
    obtain ⟨hmn, hC, hnL, hrt⟩ := of_decide_eq_true hB
    subst hnL
    refine ⟨y, hy, ?_⟩
    unfold ce_lpc at h
    split at h
    · rename_i cl hg
      split at h
      · rename_i hc
        rw [Bool.and_eq_true, Bool.and_eq_true, Bool.and_eq_true] at hc
        obtain ⟨n0, hl5, hat, hh5⟩ := hc
        obtain ⟨n1, n2, n3, n4, n5⟩ := of_decide_eq_true n0
        split at h
        · rename_i S hS
          split at h
          · rename_i hc2
            cases h
            rw [Bool.and_eq_true, Bool.and_eq_true, Bool.and_eq_true] at hc2
            obtain ⟨s1, s2, s3, s4⟩ := hc2
            obtain ⟨pc', lo', st', hp2⟩ := S
            dsimp only at s1 s2 s3 s4
            have s1 := Nat.eq_of_beq_eq_true s1
            have s2 : st' = [] := List.isEmpty_iff.mp s2
            have s4 := ce_eqH_ok _ _ s4
            subst s1 s2 s4
            have hlo : ∀ q ∈ (kk, ((39, ce_pl) : ceV)) :: loR, q ∈ lo' := fun q hq => by
              have h1 := List.all_eq_true.mp s3 q hq
              obtain ⟨w, hw, h2⟩ := List.any_eq_true.mp h1
              rw [Bool.and_eq_true] at h2
              have e1 := Nat.eq_of_beq_eq_true h2.1
              have e2 := ce_eqV_ok _ _ h2.2
              obtain ⟨w1, w2⟩ := w
              obtain ⟨q1, q2⟩ := q
              dsimp only at e1 e2
              subst e1 e2
              exact hw
            have hcj : cl = ce_cj cl j (0, 0) := by
              unfold ce_at0 at hat
              split at hat
              · rename_i v hv
                have := ce_eqV_ok _ _ hat
                subst this
                unfold ce_cj
                have : cl.2.2.set j (0, 0) = cl.2.2 := by
                  refine List.ext_getElem? (fun i => ?_)
                  rw [List.getElem?_set]
                  split
                  · rename_i e
                    subst e
                    rw [if_pos (List.getElem?_eq_some_iff.mp hv).1, hv]
                  · rfl
                rw [this]
              · cases hat
            have hm := hy
            unfold ce_m at hm
            rw [if_pos hmn] at hm
            obtain ⟨m1, m2, m3, m4, m5, m6⟩ := nh_mt_ok hm
            intro l D ρ B H0
            refine Met.ofW (cc := y.2.1) (maxL := y.2.2.1) (ret := y.2.2.2.1) m6 rfl ?_
            intro p e s m args below meth c s₁ Bd hml hv
            obtain ⟨rfl, hH, hK, hNs⟩ := hv
            have hts := atoms_spec (ws := nhWs y) Bd.pre
            have hF : nhFx p c s m (as.map (ce_c ρ B)).toArray y.2.1 y.2.2.1 (ce_ow mn) D := ⟨Bd.exec, Bd.bytes, hml, ⟨_, hC, findClass_of_methodNamed Bd.named⟩, fun w hw => hts w (List.mem_cons_of_mem _ hw), hK⟩
            have hdt : ∀ (pc : Nat) (q : Instr × Nat), ce_dk (ce_ck (ce_dt mn)) pc = some q → decode y.2.1 pc = .ok q := fun _ _ hq => ce_dk_ok (ce_dt_ok hy) hq
            have hlv := lv_entry (as.map (ce_c ρ B)) (n := y.2.2.1) (by rw [ce_slen]; exact hsum)
            rw [lg_entry_eq]
            generalize (lg_sl (as.map (ce_c ρ B)) ++ List.replicate (y.2.2.1 - (lg_sl (as.map (ce_c ρ B))).length) Slot.unset).toArray = ls at hlv ⊢
            obtain ⟨N, hN, hN0, hN1⟩ : ∃ N : Int32, ce_c ρ B nv = .int N ∧ 0 ≤ N.toInt ∧ N.toInt ≤ 2147483646 := by
              have hb := ce_clp_bd (x := nv.2) (ρ (nv.1 - 4)) (by omega) n4 (by omega)
              refine ⟨ce_clp nv.2 (ρ (nv.1 - 4)), ?_, by omega, by omega⟩
              show ce_c ρ B (nv.1, nv.2) = _
              rw [ce_cU ρ B n1]
              unfold ce_un
              rw [if_pos (by omega)]
            have hn5 : ce_n5 nv = true := by
              unfold ce_n5
              rw [Bool.or_eq_true]
              right
              rw [Bool.and_eq_true]
              refine ⟨Nat.ble_eq_true_of_le (by omega), ?_⟩
              have : Nat.beq ((nv.1 - 4) % 6) 5 = false := by
                cases hq : Nat.beq ((nv.1 - 4) % 6) 5 with
                | false => rfl
                | true =>
                  have := Nat.eq_of_beq_eq_true hq
                  omega
              rw [this]
              rfl
            have hgo : ceGo p l e (ceRm (d + 1) 0 0) s m (as.map (ce_c ρ B)).toArray below meth c (MQ below (ceQc D ρ B H0 none (ce_set hp a (ce_cj cl j nv))) (as.map (ce_c ρ B)).toArray s 0 0 (fun a => B ≤ a)) D ρ B H0 y.2.2.1 0 0 (pc', (kk, (0, 0)) :: loR, [], hp) := by
              intro H locs ls hR
              show W p l e (ceRm (d + 1) 0 0) s m (as.map (ce_c ρ B)).toArray below meth c H locs 0 0 (MQ below (ceQc D ρ B H0 none (ce_set hp a (ce_cj cl j nv))) (as.map (ce_c ρ B)).toArray s 0 0 (fun a => B ≤ a)) (F0 m pc' ls [])
              have hgo2 : ∀ (H : Heap) (locs : List Loc) (ls : Array Slot), ceRel D (ce_rho ρ 0) B H0 y.2.2.1 ((kk, (9, ce_pl)) :: loR) (ce_set hp a (ce_cj cl j (9, ce_pl))) H locs ls → W p l e (ceRm (d + 1) 0 0) s m (as.map (ce_c ρ B)).toArray below meth c H locs 0 0 (MQ below (ceQc D ρ B H0 none (ce_set hp a (ce_cj cl j nv))) (as.map (ce_c ρ B)).toArray s 0 0 (fun a => B ≤ a)) (F0 m pc' ls []) := ce_loop_ok (v9 := (9, ce_pl)) (v39 := (39, ce_pl)) hF hdt hNs hcall rfl (fun i h1 h2 => ce_plv h1 h2) (fun i h1 h2 => ce_plw h1 h2) hcmp ht hhd hS hlo (fun q hq => List.all_eq_true.mp hl5 q hq) hn5 hg hh5 hN hN0 hN1 (ce_ret_ok hF.1 hF.2.1 Bd.returns Bd.notSynchronized (hdt _ _ hret) (by rw [hrt]; rfl)) N.toInt.toNat 0 (Int.le_refl _) hN0 (by rw [show (0 : Int32).toInt = 0 from rfl]; omega)
              refine hgo2 H locs ls ?_
              refine (hR.self hg).env hg (fun q hq => ?_) (fun i' d' hd' k => (ce_h5_ok hh5 hd' k).symm) rfl rfl (by simp [ce_cj]) (fun k => ?_)
              · rcases List.mem_cons.mp hq with rfl | hq
                · exact ⟨(kk, (0, 0)), List.mem_cons_self, rfl, (ce_plv (i := 0) (Int.le_refl _) (by decide)).symm⟩
                · exact ⟨q, List.mem_cons_of_mem _ hq, rfl, (ce_n5_ok (List.all_eq_true.mp hl5 q hq)).symm⟩
              · have h1 := ce_cj_get (ρ1 := ρ) (ρ2 := ce_rho ρ 0) (B := B) (c := cl) (j := j) (v1 := (0, 0)) (v2 := (9, ce_pl)) (ce_plv (i := 0) (Int.le_refl _) (by decide)).symm (fun k => (ce_h5_ok hh5 hg k).symm) k
                rw [← hcj] at h1
                exact h1
            exact ce_seg_ok hF hdt hNs hcall rfl hgo 2 _ (hent _) s.heap [] ls ⟨hlv.1, hlv.2.1, fun q hq => hlv.2.2 (q.1, ce_c ρ B q.2) (by rw [← ce_lo0_eq]; exact List.mem_map.mpr ⟨q, hq, rfl⟩), hH, (fun q hq => by cases hq)⟩
          · cases h
        · cases h
      · cases h
    · cases h
  · cases hB
def ce_hook (call : Nat → List ceV → ceHp → Option ceO) (mn : Nat) (as : List ceV) (hp : ceHp) : Option ceO :=
  if Nat.beq mn 98 = true then (match as with
    | [(2, o), (k + 4, x), (0, c), (0, g)] => ce_lpc call 98 5 3 6 9 4 27 5 [(0, (2, o)), (1, (k + 4, x)), (2, (0, c)), (3, (0, g))] (k + 4, x) hp
    | _ => none)
  else if Nat.beq mn 247 = true then (match as with
    | [(2, o), (k + 4, x), (0, g)] => ce_lpc call 247 5 2 4 6 3 305 16 [(0, (2, o)), (1, (k + 4, x)), (2, (0, g))] (k + 4, x) hp
    | _ => none)
  else none
theorem ce_m98 : ce_mB 98 5 = true := by decide +kernel
theorem ce_m247 : ce_mB 247 5 = true := by decide +kernel
theorem ce_d98 : (ce_dk (ce_ck (ce_dt 98)) 0 = some (.iconst 0, 1) ∧ ce_dk (ce_ck (ce_dt 98)) 1 = some (.istore 4, 2)) ∧ (ce_dk (ce_ck (ce_dt 98)) 3 = some (.iload 4, 2) ∧ ce_dk (ce_ck (ce_dt 98)) 5 = some (.iload_n 1, 1)) ∧ ce_dk (ce_ck (ce_dt 98)) 6 = some (.if_icmp .ge 22, 3) ∧ ce_dk (ce_ck (ce_dt 98)) 28 = some (.return_, 1) := by decide +kernel
theorem ce_d247 : (ce_dk (ce_ck (ce_dt 247)) 0 = some (.iconst 0, 1) ∧ ce_dk (ce_ck (ce_dt 247)) 1 = some (.istore_n 3, 1)) ∧ (ce_dk (ce_ck (ce_dt 247)) 2 = some (.iload_n 3, 1) ∧ ce_dk (ce_ck (ce_dt 247)) 3 = some (.iload_n 1, 1)) ∧ ce_dk (ce_ck (ce_dt 247)) 4 = some (.if_icmp .ge 16, 3) ∧ ce_dk (ce_ck (ce_dt 247)) 20 = some (.return_, 1) := by decide +kernel
theorem ce_hook_ok {call : Nat → List ceV → ceHp → Option ceO} {d : Nat} (hcall : ∀ mn as hp r hp' c1 z1, call mn as hp = some (r, hp', c1, z1) → ∃ y, ce_m mn = some y ∧ ceMet y d as hp r hp' c1 z1) {mn : Nat} {as : List ceV} {hp : ceHp} {r : Option ceV} {hp' : ceHp} {c1 z1 : Nat} (h : ce_hook call mn as hp = some (r, hp', c1, z1)) : ∃ y, ce_m mn = some y ∧ ceMet y (d + 1) as hp r hp' c1 z1 := by
  unfold ce_hook at h
  split at h
  · rename_i e
    have e := Nat.eq_of_beq_eq_true e
    subst e
    split at h
    · rename_i o k x c g
      exact ce_lpc_ok ce_m98 (Nat.le_of_ble_eq_true rfl) (fun hp => (ce_seg_cons ce_d98.1.1 rfl).trans (ce_seg_cons ce_d98.1.2 rfl)) ce_d98.2.2.1 rfl (fun hp => (ce_seg_cons ce_d98.2.1.1 rfl).trans (ce_seg_cons ce_d98.2.1.2 rfl)) ce_d98.2.2.2 hcall h
    · cases h
  · split at h
    · rename_i e
      have e := Nat.eq_of_beq_eq_true e
      subst e
      split at h
      · rename_i o k x g
        exact ce_lpc_ok ce_m247 (Nat.le_of_ble_eq_true rfl) (fun hp => (ce_seg_cons ce_d247.1.1 rfl).trans (ce_seg_cons ce_d247.1.2 rfl)) ce_d247.2.2.1 rfl (fun hp => (ce_seg_cons ce_d247.2.1.1 rfl).trans (ce_seg_cons ce_d247.2.1.2 rfl)) ce_d247.2.2.2 hcall h
      · cases h
    · cases h
/-- the walk with both -/
def ce_ex2 (M : Nat → Nat → List ceV → ceHp → Option ceO) (fuel : Nat) : Nat → Nat → List ceV → ceHp → Option ceO
  | 0, _, _, _ => none
  | d + 1, mn, as, hp => match M d mn as hp with
    | some o => some o
    | none => match ce_hook (ce_ex2 M fuel d) mn as hp with
      | some o => some o
      | none => match ce_m mn with
        | some y => if nhOw[ce_ow mn]? = some y.1.cls ∧ ce_sum as ≤ y.2.2.1 then ce_run (ce_ex2 M fuel d) (ce_ow mn) y.2.2.1 (decide (1000 ≤ mn)) (ce_ck (ce_dt mn)) y.2.2.2.1 fuel (0, ce_lo0 0 as, [], hp) 0 0 else none
        | none => none
def ceMo1 (M : Nat → Nat → List ceV → ceHp → Option ceO) : Prop := ∀ (d mn : Nat) (as : List ceV) (hp : ceHp) (r : Option ceV) (hp' : ceHp) (c1 z1 : Nat), M d mn as hp = some (r, hp', c1, z1) → ∃ y, ce_m mn = some y ∧ ceMet y (d + 1) as hp r hp' c1 z1
theorem ce_ex2_ok {M : Nat → Nat → List ceV → ceHp → Option ceO} (hMo : ceMo1 M) (fuel : Nat) : ∀ (d mn : Nat) (as : List ceV) (hp : ceHp) (r : Option ceV) (hp' : ceHp) (c1 z1 : Nat), ce_ex2 M fuel d mn as hp = some (r, hp', c1, z1) → ∃ y, ce_m mn = some y ∧ ceMet y d as hp r hp' c1 z1
  | 0, _, _, _, _, _, _, _, h => by cases h
  | d + 1, mn, as, hp, r, hp', c1, z1, h => by
    unfold ce_ex2 at h
    split at h
    · rename_i o ho
      cases h
      exact hMo _ _ _ _ _ _ _ _ ho
    · split at h
      · rename_i o ho
        cases h
        exact ce_hook_ok (ce_ex2_ok hMo fuel d) ho
      · split at h
        · rename_i y hy
          refine ⟨y, hy, ?_⟩
          split at h
          · rename_i hcs
            obtain ⟨hC, hsum⟩ := hcs
            have hcls : Cond.code y.1 y.2.1 y.2.2.1 y.2.2.2.1 ∈ nhTb ∧ plainName y.1.cls = true ∧ (decide (1000 ≤ mn) = true → y.1.name = "<init>") := by
              unfold ce_m at hy
              split at hy
              · rename_i hlt
                obtain ⟨m1, m2, m3, m4, m5, m6⟩ := nh_mt_ok hy
                exact ⟨m1, m6, fun hq => absurd (of_decide_eq_true hq) (by omega)⟩
              · obtain ⟨m1, m2, m3, m4, m5⟩ := ce_ct_ok hy
                exact ⟨m1, m5, fun _ => m4.1⟩
            intro l D ρ B H0
            refine Met.ofW (cc := y.2.1) (maxL := y.2.2.1) (ret := y.2.2.2.1) hcls.2.1 rfl ?_
            intro p e s m args below meth c s₁ Bd hml hv
            obtain ⟨rfl, hH, hK, hNs⟩ := hv
            have hts := atoms_spec (ws := nhWs y) Bd.pre
            have hF : nhFx p c s m (as.map (ce_c ρ B)).toArray y.2.1 y.2.2.1 (ce_ow mn) D := ⟨Bd.exec, Bd.bytes, hml, ⟨_, hC, findClass_of_methodNamed Bd.named⟩, fun w hw => hts w (List.mem_cons_of_mem _ hw), hK⟩
            have hin : meth.name = y.1.name := (name_of_methodNamed Bd.named Bd.method).1
            have hlv := lv_entry (as.map (ce_c ρ B)) (n := y.2.2.1) (by rw [ce_slen]; exact hsum)
            rw [lg_entry_eq]
            generalize (lg_sl (as.map (ce_c ρ B)) ++ List.replicate (y.2.2.1 - (lg_sl (as.map (ce_c ρ B))).length) Slot.unset).toArray = ls at hlv ⊢
            refine ce_run_ok hF (fun _ _ hq => ce_dk_ok (ce_dt_ok hy) hq) hNs (fun hq => hin.trans (hcls.2.2 hq)) Bd.returns Bd.notSynchronized (ce_ex2_ok hMo fuel d) rfl fuel _ 0 0 h s.heap [] ls ⟨hlv.1, hlv.2.1, fun q hq => ?_, hH, (fun q hq => by cases hq)⟩
            exact hlv.2.2 (q.1, ce_c ρ B q.2) (by rw [← ce_lo0_eq]; exact List.mem_map.mpr ⟨q, hq, rfl⟩)
          · cases h
        · cases h
def ce_two2 (M : Nat → Nat → List ceV → ceHp → Option ceO) (fuel d mx mm : Nat) (hp : ceHp) (as : List ceV) : Bool := match ce_ex2 M fuel d mx ((2, 0) :: as) hp with
  | some (some r, hp1, c1, z1) => (match ce_ex2 M fuel d mm ((2, 281) :: as) hp1 with
    | some (some r', _, c2, z2) => (ce_eqV r r' && (Nat.beq (c1 + c2) 0 && Nat.beq (z1 + z2) 0)) && (Nat.beq (ce_ty r) 0 && ce_rcv hp1 281 12)
    | _ => false)
  | _ => false
theorem ce_two2_ok {M : Nat → Nat → List ceV → ceHp → Option ceO} (hMo : ceMo1 M) {fuel d mx mm : Nat} {hp : ceHp} {as : List ceV} (h : ce_two2 M fuel d mx mm hp as = true) : ceTwo d mx mm hp as := by
  unfold ce_two2 at h
  split at h
  · rename_i r hp1 c1 z1 h1
    split at h
    · rename_i r' hp2 c2 z2 h2
      rw [Bool.and_eq_true, Bool.and_eq_true, Bool.and_eq_true, Bool.and_eq_true] at h
      obtain ⟨⟨e1, e2, e3⟩, e4, e5⟩ := h
      have e1 := ce_eqV_ok _ _ e1
      have e2 := Nat.eq_of_beq_eq_true e2
      have e3 := Nat.eq_of_beq_eq_true e3
      obtain ⟨rfl, rfl⟩ : c1 = 0 ∧ c2 = 0 := by omega
      obtain ⟨rfl, rfl⟩ : z1 = 0 ∧ z2 = 0 := by omega
      subst e1
      obtain ⟨yx, g1, g2⟩ := ce_ex2_ok hMo _ _ _ _ _ _ _ _ _ h1
      obtain ⟨ym, g3, g4⟩ := ce_ex2_ok hMo _ _ _ _ _ _ _ _ _ h2
      exact ⟨yx, ym, r, hp1, hp2, g1, g3, g2, g4, Nat.eq_of_beq_eq_true e4, e5⟩
    · cases h
  · cases h
def ce_no : Nat → Nat → List ceV → ceHp → Option ceO := fun _ _ _ _ => none
theorem ce_no_ok : ceMo1 ce_no := fun _ _ _ _ _ _ _ _ h => by cases h
end
section
/-! cases of the law with a loop that counts, walked -/
set_option maxRecDepth 1000000 in
theorem ct_28 : ce_tk (ce_two2 ce_no 17566 14 117 259 cw3) 13 [(0, 0), (9, 0), (0, 21), (1, 0), (9, 0), (1, 2), (1, 1), (9, 0), (9, 0), (9, 0), (9, 0)] [(-2147483648, 2147483647), (-2147483648, 2147483647)] = true := by decide +kernel
set_option maxRecDepth 1000000 in
theorem ct_31_0 : ce_tk (fun as => ce_two2 ce_no 1612 14 125 246 cw3 (as ++ [(0, 0)])) 7 [(0, 0), (9, 0), (0, 61), (9, 0), (9, 0)] [(-2147483648, 2147483647)] = true := by decide +kernel
set_option maxRecDepth 1000000 in
theorem ct_31_1 : ce_tk (fun as => ce_two2 ce_no 1612 14 125 246 cw3 (as ++ [(0, 1)])) 7 [(0, 0), (9, 0), (0, 61), (9, 0), (9, 0)] [(-2147483648, 2147483647)] = true := by decide +kernel
set_option maxRecDepth 1000000 in
theorem ct_33 : ce_tk (ce_two2 ce_no 1605 14 126 248 cw3) 7 [(0, 0), (9, 0), (0, 61), (9, 0), (9, 0)] [(-2147483648, 2147483647)] = true := by decide +kernel
end
section
/-! the law's own instructions -/
def lxD_0 : nhDt := [(0, .new 7, 3), (3, .dup, 1), (4, .invokespecial 9, 3), (7, .astore_n 1, 1), (8, .new 10, 3), (11, .dup, 1), (12, .invokespecial 12, 3), (15, .astore_n 2, 1), (16, .iconst 0, 1), (17, .istore_n 3, 1), (18, .iload_n 3, 1), (19, .aload_n 0, 1), (20, .arraylength, 1), (21, .bipush 6, 2), (23, .isub, 1), (24, .if_icmp .gt 1504, 3), (27, .aload_n 0, 1), (28, .iload_n 3, 1), (29, .iaload, 1), (30, .bipush 63, 2), (32, .iand, 1), (33, .tableswitch 1489 0 47 #[207, 270, 293, 306, 329, 362, 395, 434, 457, 470, 493, 516, 529, 542, 585, 608, 641, 674, 717, 750, 773, 816, 829, 852, 885, 908, 931, 944, 967, 1000, 1013, 1026, 1075, 1088, 1111, 1134, 1157, 1170, 1203, 1226, 1285, 1308, 1331, 1354, 1387, 1420, 1443, 1466], 207), (240, .aload_n 1, 1), (241, .aload_n 0, 1), (242, .iload_n 3, 1), (243, .iconst 1, 1), (244, .iadd, 1), (245, .iaload, 1), (246, .aload_n 0, 1), (247, .iload_n 3, 1), (248, .iconst 2, 1), (249, .iadd, 1), (250, .iaload, 1), (251, .aload_n 0, 1), (252, .iload_n 3, 1), (253, .iconst 3, 1), (254, .iadd, 1), (255, .iaload, 1), (256, .aload_n 0, 1), (257, .iload_n 3, 1), (258, .iconst 4, 1), (259, .iadd, 1), (260, .iaload, 1), (261, .aload_n 0, 1), (262, .iload_n 3, 1), (263, .iconst 5, 1), (264, .iadd, 1), (265, .iaload, 1), (266, .invokevirtual 13, 3), (269, .aload_n 2, 1)]
set_option maxRecDepth 1000000 in
theorem lxD_0_ok : nh_dtB code lxD_0 = true := by decide +kernel
def lxD_1 : nhDt := [(270, .aload_n 0, 1), (271, .iload_n 3, 1), (272, .iconst 1, 1), (273, .iadd, 1), (274, .iaload, 1), (275, .aload_n 0, 1), (276, .iload_n 3, 1), (277, .iconst 2, 1), (278, .iadd, 1), (279, .iaload, 1), (280, .aload_n 0, 1), (281, .iload_n 3, 1), (282, .iconst 3, 1), (283, .iadd, 1), (284, .iaload, 1), (285, .aload_n 0, 1), (286, .iload_n 3, 1), (287, .iconst 4, 1), (288, .iadd, 1), (289, .iaload, 1), (290, .aload_n 0, 1), (291, .iload_n 3, 1), (292, .iconst 5, 1), (293, .iadd, 1), (294, .iaload, 1), (295, .invokevirtual 17, 3), (298, .if_icmp .eq 1224, 3), (301, .iconst 0, 1), (302, .ireturn, 1), (303, .aload_n 1, 1), (304, .aload_n 0, 1), (305, .iload_n 3, 1), (306, .iconst 1, 1), (307, .iadd, 1), (308, .iaload, 1), (309, .invokevirtual 18, 3), (312, .aload_n 2, 1), (313, .aload_n 0, 1), (314, .iload_n 3, 1), (315, .iconst 1, 1), (316, .iadd, 1), (317, .iaload, 1), (318, .invokevirtual 22, 3), (321, .if_icmp .eq 1201, 3), (324, .iconst 0, 1), (325, .ireturn, 1), (326, .aload_n 1, 1), (327, .invokevirtual 23, 3), (330, .aload_n 2, 1), (331, .invokevirtual 27, 3)]
set_option maxRecDepth 1000000 in
theorem lxD_1_ok : nh_dtB code lxD_1 = true := by decide +kernel
def lxD_2 : nhDt := [(334, .if_icmp .eq 1188, 3), (337, .iconst 0, 1), (338, .ireturn, 1), (339, .aload_n 1, 1), (340, .aload_n 0, 1), (341, .iload_n 3, 1), (342, .iconst 1, 1), (343, .iadd, 1), (344, .iaload, 1), (345, .invokevirtual 28, 3), (348, .aload_n 2, 1), (349, .aload_n 0, 1), (350, .iload_n 3, 1), (351, .iconst 1, 1), (352, .iadd, 1), (353, .iaload, 1), (354, .invokevirtual 31, 3), (357, .if_icmp .eq 1165, 3), (360, .iconst 0, 1), (361, .ireturn, 1), (362, .aload_n 1, 1), (363, .aload_n 0, 1), (364, .iload_n 3, 1), (365, .iconst 1, 1), (366, .iadd, 1), (367, .iaload, 1), (368, .aload_n 0, 1), (369, .iload_n 3, 1), (370, .iconst 2, 1), (371, .iadd, 1), (372, .iaload, 1), (373, .invokevirtual 32, 3), (376, .aload_n 2, 1), (377, .aload_n 0, 1), (378, .iload_n 3, 1), (379, .iconst 1, 1), (380, .iadd, 1), (381, .iaload, 1), (382, .aload_n 0, 1), (383, .iload_n 3, 1), (384, .iconst 2, 1), (385, .iadd, 1), (386, .iaload, 1), (387, .invokevirtual 36, 3), (390, .if_icmp .eq 1132, 3), (393, .iconst 0, 1), (394, .ireturn, 1), (395, .aload_n 1, 1), (396, .aload_n 0, 1), (397, .iload_n 3, 1)]
set_option maxRecDepth 1000000 in
theorem lxD_2_ok : nh_dtB code lxD_2 = true := by decide +kernel
def lxD_3 : nhDt := [(398, .iconst 1, 1), (399, .iadd, 1), (400, .iaload, 1), (401, .aload_n 0, 1), (402, .iload_n 3, 1), (403, .iconst 2, 1), (404, .iadd, 1), (405, .iaload, 1), (406, .invokevirtual 37, 3), (409, .aload_n 2, 1), (410, .aload_n 0, 1), (411, .iload_n 3, 1), (412, .iconst 1, 1), (413, .iadd, 1), (414, .iaload, 1), (415, .aload_n 0, 1), (416, .iload_n 3, 1), (417, .iconst 2, 1), (418, .iadd, 1), (419, .iaload, 1), (420, .invokevirtual 40, 3), (423, .if_icmp .eq 1099, 3), (426, .iconst 0, 1), (427, .ireturn, 1), (428, .aload_n 1, 1), (429, .aload_n 0, 1), (430, .iload_n 3, 1), (431, .iconst 1, 1), (432, .iadd, 1), (433, .iaload, 1), (434, .ifCond .eq 7, 3), (437, .iconst 1, 1), (438, .goto 4, 3), (441, .iconst 0, 1), (442, .invokevirtual 41, 3), (445, .aload_n 2, 1), (446, .aload_n 0, 1), (447, .iload_n 3, 1), (448, .iconst 1, 1), (449, .iadd, 1), (450, .iaload, 1), (451, .ifCond .eq 7, 3), (454, .iconst 1, 1), (455, .goto 4, 3), (458, .iconst 0, 1), (459, .invokevirtual 45, 3), (462, .if_icmp .eq 1060, 3), (465, .iconst 0, 1), (466, .ireturn, 1), (467, .aload_n 1, 1)]
set_option maxRecDepth 1000000 in
theorem lxD_3_ok : nh_dtB code lxD_3 = true := by decide +kernel
def lxD_4 : nhDt := [(468, .aload_n 0, 1), (469, .iload_n 3, 1), (470, .iconst 1, 1), (471, .iadd, 1), (472, .iaload, 1), (473, .invokevirtual 46, 3), (476, .aload_n 2, 1), (477, .aload_n 0, 1), (478, .iload_n 3, 1), (479, .iconst 1, 1), (480, .iadd, 1), (481, .iaload, 1), (482, .invokevirtual 49, 3), (485, .if_icmp .eq 1037, 3), (488, .iconst 0, 1), (489, .ireturn, 1), (490, .aload_n 1, 1), (491, .invokevirtual 50, 3), (494, .aload_n 2, 1), (495, .invokevirtual 53, 3), (498, .if_icmp .eq 1024, 3), (501, .iconst 0, 1), (502, .ireturn, 1), (503, .aload_n 1, 1), (504, .aload_n 0, 1), (505, .iload_n 3, 1), (506, .iconst 1, 1), (507, .iadd, 1), (508, .iaload, 1), (509, .invokevirtual 54, 3), (512, .aload_n 2, 1), (513, .aload_n 0, 1), (514, .iload_n 3, 1), (515, .iconst 1, 1), (516, .iadd, 1), (517, .iaload, 1), (518, .invokevirtual 57, 3), (521, .if_icmp .eq 1001, 3), (524, .iconst 0, 1), (525, .ireturn, 1), (526, .aload_n 1, 1), (527, .aload_n 0, 1), (528, .iload_n 3, 1), (529, .iconst 1, 1), (530, .iadd, 1), (531, .iaload, 1), (532, .invokevirtual 58, 3), (535, .aload_n 2, 1), (536, .aload_n 0, 1), (537, .iload_n 3, 1)]
set_option maxRecDepth 1000000 in
theorem lxD_4_ok : nh_dtB code lxD_4 = true := by decide +kernel
def lxD_5 : nhDt := [(538, .iconst 1, 1), (539, .iadd, 1), (540, .iaload, 1), (541, .invokevirtual 61, 3), (544, .if_icmp .eq 978, 3), (547, .iconst 0, 1), (548, .ireturn, 1), (549, .aload_n 1, 1), (550, .invokevirtual 62, 3), (553, .aload_n 2, 1), (554, .invokevirtual 66, 3), (557, .if_icmp .eq 965, 3), (560, .iconst 0, 1), (561, .ireturn, 1), (562, .aload_n 1, 1), (563, .invokevirtual 67, 3), (566, .aload_n 2, 1), (567, .invokevirtual 70, 3), (570, .if_icmp .eq 952, 3), (573, .iconst 0, 1), (574, .ireturn, 1), (575, .aload_n 1, 1), (576, .aload_n 0, 1), (577, .iload_n 3, 1), (578, .iconst 1, 1), (579, .iadd, 1), (580, .iaload, 1), (581, .aload_n 0, 1), (582, .iload_n 3, 1), (583, .iconst 2, 1), (584, .iadd, 1), (585, .iaload, 1), (586, .aload_n 0, 1), (587, .iload_n 3, 1), (588, .iconst 3, 1), (589, .iadd, 1), (590, .iaload, 1), (591, .invokevirtual 71, 3), (594, .aload_n 2, 1), (595, .aload_n 0, 1), (596, .iload_n 3, 1), (597, .iconst 1, 1), (598, .iadd, 1), (599, .iaload, 1), (600, .aload_n 0, 1), (601, .iload_n 3, 1), (602, .iconst 2, 1), (603, .iadd, 1), (604, .iaload, 1), (605, .aload_n 0, 1)]
set_option maxRecDepth 1000000 in
theorem lxD_5_ok : nh_dtB code lxD_5 = true := by decide +kernel
def lxD_6 : nhDt := [(606, .iload_n 3, 1), (607, .iconst 3, 1), (608, .iadd, 1), (609, .iaload, 1), (610, .invokevirtual 75, 3), (613, .if_icmp .eq 909, 3), (616, .iconst 0, 1), (617, .ireturn, 1), (618, .aload_n 1, 1), (619, .aload_n 0, 1), (620, .iload_n 3, 1), (621, .iconst 1, 1), (622, .iadd, 1), (623, .iaload, 1), (624, .invokevirtual 76, 3), (627, .aload_n 2, 1), (628, .aload_n 0, 1), (629, .iload_n 3, 1), (630, .iconst 1, 1), (631, .iadd, 1), (632, .iaload, 1), (633, .invokevirtual 79, 3), (636, .if_icmp .eq 886, 3), (639, .iconst 0, 1), (640, .ireturn, 1), (641, .aload_n 1, 1), (642, .aload_n 0, 1), (643, .iload_n 3, 1), (644, .iconst 1, 1), (645, .iadd, 1), (646, .iaload, 1), (647, .aload_n 0, 1), (648, .iload_n 3, 1), (649, .iconst 2, 1), (650, .iadd, 1), (651, .iaload, 1), (652, .invokevirtual 80, 3), (655, .aload_n 2, 1), (656, .aload_n 0, 1), (657, .iload_n 3, 1), (658, .iconst 1, 1), (659, .iadd, 1), (660, .iaload, 1), (661, .aload_n 0, 1), (662, .iload_n 3, 1), (663, .iconst 2, 1), (664, .iadd, 1), (665, .iaload, 1), (666, .invokevirtual 83, 3), (669, .if_icmp .eq 853, 3)]
set_option maxRecDepth 1000000 in
theorem lxD_6_ok : nh_dtB code lxD_6 = true := by decide +kernel
def lxD_7 : nhDt := [(672, .iconst 0, 1), (673, .ireturn, 1), (674, .aload_n 1, 1), (675, .aload_n 0, 1), (676, .iload_n 3, 1), (677, .iconst 1, 1), (678, .iadd, 1), (679, .iaload, 1), (680, .aload_n 0, 1), (681, .iload_n 3, 1), (682, .iconst 2, 1), (683, .iadd, 1), (684, .iaload, 1), (685, .invokevirtual 84, 3), (688, .aload_n 2, 1), (689, .aload_n 0, 1), (690, .iload_n 3, 1), (691, .iconst 1, 1), (692, .iadd, 1), (693, .iaload, 1), (694, .aload_n 0, 1), (695, .iload_n 3, 1), (696, .iconst 2, 1), (697, .iadd, 1), (698, .iaload, 1), (699, .invokevirtual 87, 3), (702, .if_icmp .eq 820, 3), (705, .iconst 0, 1), (706, .ireturn, 1), (707, .aload_n 1, 1), (708, .aload_n 0, 1), (709, .iload_n 3, 1), (710, .iconst 1, 1), (711, .iadd, 1), (712, .iaload, 1), (713, .aload_n 0, 1), (714, .iload_n 3, 1), (715, .iconst 2, 1), (716, .iadd, 1), (717, .iaload, 1), (718, .aload_n 0, 1), (719, .iload_n 3, 1), (720, .iconst 3, 1), (721, .iadd, 1), (722, .iaload, 1), (723, .invokevirtual 88, 3), (726, .aload_n 2, 1), (727, .aload_n 0, 1), (728, .iload_n 3, 1), (729, .iconst 1, 1)]
set_option maxRecDepth 1000000 in
theorem lxD_7_ok : nh_dtB code lxD_7 = true := by decide +kernel
def lxD_8 : nhDt := [(730, .iadd, 1), (731, .iaload, 1), (732, .aload_n 0, 1), (733, .iload_n 3, 1), (734, .iconst 2, 1), (735, .iadd, 1), (736, .iaload, 1), (737, .aload_n 0, 1), (738, .iload_n 3, 1), (739, .iconst 3, 1), (740, .iadd, 1), (741, .iaload, 1), (742, .invokevirtual 91, 3), (745, .if_icmp .eq 777, 3), (748, .iconst 0, 1), (749, .ireturn, 1), (750, .aload_n 1, 1), (751, .aload_n 0, 1), (752, .iload_n 3, 1), (753, .iconst 1, 1), (754, .iadd, 1), (755, .iaload, 1), (756, .aload_n 0, 1), (757, .iload_n 3, 1), (758, .iconst 2, 1), (759, .iadd, 1), (760, .iaload, 1), (761, .invokevirtual 92, 3), (764, .aload_n 2, 1), (765, .aload_n 0, 1), (766, .iload_n 3, 1), (767, .iconst 1, 1), (768, .iadd, 1), (769, .iaload, 1), (770, .aload_n 0, 1), (771, .iload_n 3, 1), (772, .iconst 2, 1), (773, .iadd, 1), (774, .iaload, 1), (775, .invokevirtual 95, 3), (778, .if_icmp .eq 744, 3), (781, .iconst 0, 1), (782, .ireturn, 1), (783, .aload_n 1, 1), (784, .aload_n 0, 1), (785, .iload_n 3, 1), (786, .iconst 1, 1), (787, .iadd, 1), (788, .iaload, 1), (789, .invokevirtual 96, 3)]
set_option maxRecDepth 1000000 in
theorem lxD_8_ok : nh_dtB code lxD_8 = true := by decide +kernel
def lxD_9 : nhDt := [(792, .aload_n 2, 1), (793, .aload_n 0, 1), (794, .iload_n 3, 1), (795, .iconst 1, 1), (796, .iadd, 1), (797, .iaload, 1), (798, .invokevirtual 99, 3), (801, .if_icmp .eq 721, 3), (804, .iconst 0, 1), (805, .ireturn, 1), (806, .aload_n 1, 1), (807, .aload_n 0, 1), (808, .iload_n 3, 1), (809, .iconst 1, 1), (810, .iadd, 1), (811, .iaload, 1), (812, .aload_n 0, 1), (813, .iload_n 3, 1), (814, .iconst 2, 1), (815, .iadd, 1), (816, .iaload, 1), (817, .aload_n 0, 1), (818, .iload_n 3, 1), (819, .iconst 3, 1), (820, .iadd, 1), (821, .iaload, 1), (822, .invokevirtual 100, 3), (825, .aload_n 2, 1), (826, .aload_n 0, 1), (827, .iload_n 3, 1), (828, .iconst 1, 1), (829, .iadd, 1), (830, .iaload, 1), (831, .aload_n 0, 1), (832, .iload_n 3, 1), (833, .iconst 2, 1), (834, .iadd, 1), (835, .iaload, 1), (836, .aload_n 0, 1), (837, .iload_n 3, 1), (838, .iconst 3, 1), (839, .iadd, 1), (840, .iaload, 1), (841, .invokevirtual 103, 3), (844, .if_icmp .eq 678, 3), (847, .iconst 0, 1), (848, .ireturn, 1), (849, .aload_n 1, 1), (850, .invokevirtual 104, 3), (853, .aload_n 2, 1)]
set_option maxRecDepth 1000000 in
theorem lxD_9_ok : nh_dtB code lxD_9 = true := by decide +kernel
def lxD_10 : nhDt := [(854, .invokevirtual 107, 3), (857, .if_icmp .eq 665, 3), (860, .iconst 0, 1), (861, .ireturn, 1), (862, .aload_n 1, 1), (863, .aload_n 0, 1), (864, .iload_n 3, 1), (865, .iconst 1, 1), (866, .iadd, 1), (867, .iaload, 1), (868, .invokevirtual 108, 3), (871, .aload_n 2, 1), (872, .aload_n 0, 1), (873, .iload_n 3, 1), (874, .iconst 1, 1), (875, .iadd, 1), (876, .iaload, 1), (877, .invokevirtual 111, 3), (880, .if_icmp .eq 642, 3), (883, .iconst 0, 1), (884, .ireturn, 1), (885, .aload_n 1, 1), (886, .aload_n 0, 1), (887, .iload_n 3, 1), (888, .iconst 1, 1), (889, .iadd, 1), (890, .iaload, 1), (891, .aload_n 0, 1), (892, .iload_n 3, 1), (893, .iconst 2, 1), (894, .iadd, 1), (895, .iaload, 1), (896, .invokevirtual 112, 3), (899, .aload_n 2, 1), (900, .aload_n 0, 1), (901, .iload_n 3, 1), (902, .iconst 1, 1), (903, .iadd, 1), (904, .iaload, 1), (905, .aload_n 0, 1), (906, .iload_n 3, 1), (907, .iconst 2, 1), (908, .iadd, 1), (909, .iaload, 1), (910, .invokevirtual 115, 3), (913, .if_icmp .eq 609, 3), (916, .iconst 0, 1), (917, .ireturn, 1), (918, .aload_n 1, 1), (919, .aload_n 0, 1)]
set_option maxRecDepth 1000000 in
theorem lxD_10_ok : nh_dtB code lxD_10 = true := by decide +kernel
def lxD_11 : nhDt := [(920, .iload_n 3, 1), (921, .iconst 1, 1), (922, .iadd, 1), (923, .iaload, 1), (924, .invokevirtual 116, 3), (927, .aload_n 2, 1), (928, .aload_n 0, 1), (929, .iload_n 3, 1), (930, .iconst 1, 1), (931, .iadd, 1), (932, .iaload, 1), (933, .invokevirtual 119, 3), (936, .if_icmp .eq 586, 3), (939, .iconst 0, 1), (940, .ireturn, 1), (941, .aload_n 1, 1), (942, .aload_n 0, 1), (943, .iload_n 3, 1), (944, .iconst 1, 1), (945, .iadd, 1), (946, .iaload, 1), (947, .invokevirtual 120, 3), (950, .aload_n 2, 1), (951, .aload_n 0, 1), (952, .iload_n 3, 1), (953, .iconst 1, 1), (954, .iadd, 1), (955, .iaload, 1), (956, .invokevirtual 123, 3), (959, .if_icmp .eq 563, 3), (962, .iconst 0, 1), (963, .ireturn, 1), (964, .aload_n 1, 1), (965, .invokevirtual 124, 3), (968, .aload_n 2, 1), (969, .invokevirtual 127, 3), (972, .if_icmp .eq 550, 3), (975, .iconst 0, 1), (976, .ireturn, 1), (977, .aload_n 1, 1), (978, .aload_n 0, 1), (979, .iload_n 3, 1), (980, .iconst 1, 1), (981, .iadd, 1), (982, .iaload, 1), (983, .invokevirtual 128, 3), (986, .aload_n 2, 1), (987, .aload_n 0, 1), (988, .iload_n 3, 1), (989, .iconst 1, 1)]
set_option maxRecDepth 1000000 in
theorem lxD_11_ok : nh_dtB code lxD_11 = true := by decide +kernel
def lxD_12 : nhDt := [(990, .iadd, 1), (991, .iaload, 1), (992, .invokevirtual 131, 3), (995, .if_icmp .eq 527, 3), (998, .iconst 0, 1), (999, .ireturn, 1), (1000, .aload_n 1, 1), (1001, .aload_n 0, 1), (1002, .iload_n 3, 1), (1003, .iconst 1, 1), (1004, .iadd, 1), (1005, .iaload, 1), (1006, .aload_n 0, 1), (1007, .iload_n 3, 1), (1008, .iconst 2, 1), (1009, .iadd, 1), (1010, .iaload, 1), (1011, .invokevirtual 132, 3), (1014, .aload_n 2, 1), (1015, .aload_n 0, 1), (1016, .iload_n 3, 1), (1017, .iconst 1, 1), (1018, .iadd, 1), (1019, .iaload, 1), (1020, .aload_n 0, 1), (1021, .iload_n 3, 1), (1022, .iconst 2, 1), (1023, .iadd, 1), (1024, .iaload, 1), (1025, .invokevirtual 135, 3), (1028, .if_icmp .eq 494, 3), (1031, .iconst 0, 1), (1032, .ireturn, 1), (1033, .aload_n 1, 1), (1034, .invokevirtual 136, 3), (1037, .aload_n 2, 1), (1038, .invokevirtual 139, 3), (1041, .if_icmp .eq 481, 3), (1044, .iconst 0, 1), (1045, .ireturn, 1), (1046, .aload_n 1, 1), (1047, .invokevirtual 140, 3), (1050, .aload_n 2, 1), (1051, .invokevirtual 143, 3), (1054, .if_icmp .eq 468, 3), (1057, .iconst 0, 1), (1058, .ireturn, 1), (1059, .aload_n 1, 1), (1060, .aload_n 0, 1), (1061, .iload_n 3, 1)]
set_option maxRecDepth 1000000 in
theorem lxD_12_ok : nh_dtB code lxD_12 = true := by decide +kernel
def lxD_13 : nhDt := [(1062, .iconst 1, 1), (1063, .iadd, 1), (1064, .iaload, 1), (1065, .aload_n 0, 1), (1066, .iload_n 3, 1), (1067, .iconst 2, 1), (1068, .iadd, 1), (1069, .iaload, 1), (1070, .ifCond .eq 7, 3), (1073, .iconst 1, 1), (1074, .goto 4, 3), (1077, .iconst 0, 1), (1078, .invokevirtual 144, 3), (1081, .aload_n 2, 1), (1082, .aload_n 0, 1), (1083, .iload_n 3, 1), (1084, .iconst 1, 1), (1085, .iadd, 1), (1086, .iaload, 1), (1087, .aload_n 0, 1), (1088, .iload_n 3, 1), (1089, .iconst 2, 1), (1090, .iadd, 1), (1091, .iaload, 1), (1092, .ifCond .eq 7, 3), (1095, .iconst 1, 1), (1096, .goto 4, 3), (1099, .iconst 0, 1), (1100, .invokevirtual 148, 3), (1103, .if_icmp .eq 419, 3), (1106, .iconst 0, 1), (1107, .ireturn, 1), (1108, .aload_n 1, 1), (1109, .invokevirtual 149, 3), (1112, .aload_n 2, 1), (1113, .invokevirtual 152, 3), (1116, .if_icmp .eq 406, 3), (1119, .iconst 0, 1), (1120, .ireturn, 1), (1121, .aload_n 1, 1), (1122, .aload_n 0, 1), (1123, .iload_n 3, 1), (1124, .iconst 1, 1), (1125, .iadd, 1), (1126, .iaload, 1), (1127, .invokevirtual 153, 3), (1130, .aload_n 2, 1), (1131, .aload_n 0, 1), (1132, .iload_n 3, 1), (1133, .iconst 1, 1)]
set_option maxRecDepth 1000000 in
theorem lxD_13_ok : nh_dtB code lxD_13 = true := by decide +kernel
def lxD_14 : nhDt := [(1134, .iadd, 1), (1135, .iaload, 1), (1136, .invokevirtual 156, 3), (1139, .if_icmp .eq 383, 3), (1142, .iconst 0, 1), (1143, .ireturn, 1), (1144, .aload_n 1, 1), (1145, .aload_n 0, 1), (1146, .iload_n 3, 1), (1147, .iconst 1, 1), (1148, .iadd, 1), (1149, .iaload, 1), (1150, .invokevirtual 157, 3), (1153, .aload_n 2, 1), (1154, .aload_n 0, 1), (1155, .iload_n 3, 1), (1156, .iconst 1, 1), (1157, .iadd, 1), (1158, .iaload, 1), (1159, .invokevirtual 160, 3), (1162, .if_icmp .eq 360, 3), (1165, .iconst 0, 1), (1166, .ireturn, 1), (1167, .aload_n 1, 1), (1168, .aload_n 0, 1), (1169, .iload_n 3, 1), (1170, .iconst 1, 1), (1171, .iadd, 1), (1172, .iaload, 1), (1173, .invokevirtual 161, 3), (1176, .aload_n 2, 1), (1177, .aload_n 0, 1), (1178, .iload_n 3, 1), (1179, .iconst 1, 1), (1180, .iadd, 1), (1181, .iaload, 1), (1182, .invokevirtual 164, 3), (1185, .if_icmp .eq 337, 3), (1188, .iconst 0, 1), (1189, .ireturn, 1), (1190, .aload_n 1, 1), (1191, .invokevirtual 165, 3), (1194, .aload_n 2, 1), (1195, .invokevirtual 168, 3), (1198, .if_icmp .eq 324, 3), (1201, .iconst 0, 1), (1202, .ireturn, 1), (1203, .aload_n 1, 1), (1204, .aload_n 0, 1), (1205, .iload_n 3, 1)]
set_option maxRecDepth 1000000 in
theorem lxD_14_ok : nh_dtB code lxD_14 = true := by decide +kernel
def lxD_15 : nhDt := [(1206, .iconst 1, 1), (1207, .iadd, 1), (1208, .iaload, 1), (1209, .aload_n 0, 1), (1210, .iload_n 3, 1), (1211, .iconst 2, 1), (1212, .iadd, 1), (1213, .iaload, 1), (1214, .invokevirtual 169, 3), (1217, .aload_n 2, 1), (1218, .aload_n 0, 1), (1219, .iload_n 3, 1), (1220, .iconst 1, 1), (1221, .iadd, 1), (1222, .iaload, 1), (1223, .aload_n 0, 1), (1224, .iload_n 3, 1), (1225, .iconst 2, 1), (1226, .iadd, 1), (1227, .iaload, 1), (1228, .invokevirtual 172, 3), (1231, .if_icmp .eq 291, 3), (1234, .iconst 0, 1), (1235, .ireturn, 1), (1236, .aload_n 1, 1), (1237, .aload_n 0, 1), (1238, .iload_n 3, 1), (1239, .iconst 1, 1), (1240, .iadd, 1), (1241, .iaload, 1), (1242, .invokevirtual 173, 3), (1245, .aload_n 2, 1), (1246, .aload_n 0, 1), (1247, .iload_n 3, 1), (1248, .iconst 1, 1), (1249, .iadd, 1), (1250, .iaload, 1), (1251, .invokevirtual 176, 3), (1254, .if_icmp .eq 268, 3), (1257, .iconst 0, 1), (1258, .ireturn, 1), (1259, .aload_n 1, 1), (1260, .aload_n 0, 1), (1261, .iload_n 3, 1), (1262, .iconst 1, 1), (1263, .iadd, 1), (1264, .iaload, 1), (1265, .aload_n 0, 1), (1266, .iload_n 3, 1), (1267, .iconst 2, 1)]
set_option maxRecDepth 1000000 in
theorem lxD_15_ok : nh_dtB code lxD_15 = true := by decide +kernel
def lxD_16 : nhDt := [(1268, .iadd, 1), (1269, .iaload, 1), (1270, .aload_n 0, 1), (1271, .iload_n 3, 1), (1272, .iconst 3, 1), (1273, .iadd, 1), (1274, .iaload, 1), (1275, .ifCond .eq 7, 3), (1278, .iconst 1, 1), (1279, .goto 4, 3), (1282, .iconst 0, 1), (1283, .invokevirtual 177, 3), (1286, .aload_n 2, 1), (1287, .aload_n 0, 1), (1288, .iload_n 3, 1), (1289, .iconst 1, 1), (1290, .iadd, 1), (1291, .iaload, 1), (1292, .aload_n 0, 1), (1293, .iload_n 3, 1), (1294, .iconst 2, 1), (1295, .iadd, 1), (1296, .iaload, 1), (1297, .aload_n 0, 1), (1298, .iload_n 3, 1), (1299, .iconst 3, 1), (1300, .iadd, 1), (1301, .iaload, 1), (1302, .ifCond .eq 7, 3), (1305, .iconst 1, 1), (1306, .goto 4, 3), (1309, .iconst 0, 1), (1310, .invokevirtual 181, 3), (1313, .if_icmp .eq 209, 3), (1316, .iconst 0, 1), (1317, .ireturn, 1), (1318, .aload_n 1, 1), (1319, .aload_n 0, 1), (1320, .iload_n 3, 1), (1321, .iconst 1, 1), (1322, .iadd, 1), (1323, .iaload, 1), (1324, .invokevirtual 182, 3), (1327, .aload_n 2, 1), (1328, .aload_n 0, 1), (1329, .iload_n 3, 1), (1330, .iconst 1, 1), (1331, .iadd, 1), (1332, .iaload, 1), (1333, .invokevirtual 186, 3)]
set_option maxRecDepth 1000000 in
theorem lxD_16_ok : nh_dtB code lxD_16 = true := by decide +kernel
def lxD_17 : nhDt := [(1336, .if_icmp .eq 186, 3), (1339, .iconst 0, 1), (1340, .ireturn, 1), (1341, .aload_n 1, 1), (1342, .aload_n 0, 1), (1343, .iload_n 3, 1), (1344, .iconst 1, 1), (1345, .iadd, 1), (1346, .iaload, 1), (1347, .invokevirtual 187, 3), (1350, .aload_n 2, 1), (1351, .aload_n 0, 1), (1352, .iload_n 3, 1), (1353, .iconst 1, 1), (1354, .iadd, 1), (1355, .iaload, 1), (1356, .invokevirtual 190, 3), (1359, .if_icmp .eq 163, 3), (1362, .iconst 0, 1), (1363, .ireturn, 1), (1364, .aload_n 1, 1), (1365, .aload_n 0, 1), (1366, .iload_n 3, 1), (1367, .iconst 1, 1), (1368, .iadd, 1), (1369, .iaload, 1), (1370, .invokevirtual 191, 3), (1373, .aload_n 2, 1), (1374, .aload_n 0, 1), (1375, .iload_n 3, 1), (1376, .iconst 1, 1), (1377, .iadd, 1), (1378, .iaload, 1), (1379, .invokevirtual 194, 3), (1382, .if_icmp .eq 140, 3), (1385, .iconst 0, 1), (1386, .ireturn, 1), (1387, .aload_n 1, 1), (1388, .aload_n 0, 1), (1389, .iload_n 3, 1), (1390, .iconst 1, 1), (1391, .iadd, 1), (1392, .iaload, 1), (1393, .aload_n 0, 1), (1394, .iload_n 3, 1), (1395, .iconst 2, 1), (1396, .iadd, 1), (1397, .iaload, 1), (1398, .invokevirtual 195, 3), (1401, .aload_n 2, 1)]
set_option maxRecDepth 1000000 in
theorem lxD_17_ok : nh_dtB code lxD_17 = true := by decide +kernel
def lxD_18 : nhDt := [(1402, .aload_n 0, 1), (1403, .iload_n 3, 1), (1404, .iconst 1, 1), (1405, .iadd, 1), (1406, .iaload, 1), (1407, .aload_n 0, 1), (1408, .iload_n 3, 1), (1409, .iconst 2, 1), (1410, .iadd, 1), (1411, .iaload, 1), (1412, .invokevirtual 198, 3), (1415, .if_icmp .eq 107, 3), (1418, .iconst 0, 1), (1419, .ireturn, 1), (1420, .aload_n 1, 1), (1421, .aload_n 0, 1), (1422, .iload_n 3, 1), (1423, .iconst 1, 1), (1424, .iadd, 1), (1425, .iaload, 1), (1426, .aload_n 0, 1), (1427, .iload_n 3, 1), (1428, .iconst 2, 1), (1429, .iadd, 1), (1430, .iaload, 1), (1431, .invokevirtual 199, 3), (1434, .aload_n 2, 1), (1435, .aload_n 0, 1), (1436, .iload_n 3, 1), (1437, .iconst 1, 1), (1438, .iadd, 1), (1439, .iaload, 1), (1440, .aload_n 0, 1), (1441, .iload_n 3, 1), (1442, .iconst 2, 1), (1443, .iadd, 1), (1444, .iaload, 1), (1445, .invokevirtual 202, 3), (1448, .if_icmp .eq 74, 3), (1451, .iconst 0, 1), (1452, .ireturn, 1), (1453, .aload_n 1, 1), (1454, .aload_n 0, 1), (1455, .iload_n 3, 1), (1456, .iconst 1, 1), (1457, .iadd, 1), (1458, .iaload, 1), (1459, .invokevirtual 203, 3), (1462, .aload_n 2, 1), (1463, .aload_n 0, 1)]
set_option maxRecDepth 1000000 in
theorem lxD_18_ok : nh_dtB code lxD_18 = true := by decide +kernel
def lxD_19 : nhDt := [(1464, .iload_n 3, 1), (1465, .iconst 1, 1), (1466, .iadd, 1), (1467, .iaload, 1), (1468, .invokevirtual 206, 3), (1471, .if_icmp .eq 51, 3), (1474, .iconst 0, 1), (1475, .ireturn, 1), (1476, .aload_n 1, 1), (1477, .aload_n 0, 1), (1478, .iload_n 3, 1), (1479, .iconst 1, 1), (1480, .iadd, 1), (1481, .iaload, 1), (1482, .invokevirtual 207, 3), (1485, .aload_n 2, 1), (1486, .aload_n 0, 1), (1487, .iload_n 3, 1), (1488, .iconst 1, 1), (1489, .iadd, 1), (1490, .iaload, 1), (1491, .invokevirtual 210, 3), (1494, .if_icmp .eq 28, 3), (1497, .iconst 0, 1), (1498, .ireturn, 1), (1499, .aload_n 1, 1), (1500, .aload_n 0, 1), (1501, .iload_n 3, 1), (1502, .iconst 1, 1), (1503, .iadd, 1), (1504, .iaload, 1), (1505, .invokevirtual 211, 3), (1508, .aload_n 2, 1), (1509, .aload_n 0, 1), (1510, .iload_n 3, 1), (1511, .iconst 1, 1), (1512, .iadd, 1), (1513, .iaload, 1), (1514, .invokevirtual 214, 3), (1517, .if_icmp .eq 5, 3), (1520, .iconst 0, 1), (1521, .ireturn, 1), (1522, .iinc 3 6, 3), (1525, .goto (-1507), 3), (1528, .iconst 1, 1), (1529, .ireturn, 1)]
set_option maxRecDepth 1000000 in
theorem lxD_19_ok : nh_dtB code lxD_19 = true := by decide +kernel
def lxD : nhDt := lxD_0 ++ lxD_1 ++ lxD_2 ++ lxD_3 ++ lxD_4 ++ lxD_5 ++ lxD_6 ++ lxD_7 ++ lxD_8 ++ lxD_9 ++ lxD_10 ++ lxD_11 ++ lxD_12 ++ lxD_13 ++ lxD_14 ++ lxD_15 ++ lxD_16 ++ lxD_17 ++ lxD_18 ++ lxD_19
theorem lxD_ok : nh_dtB code lxD = true := by
  have h : ∀ a b : nhDt, nh_dtB code a = true → nh_dtB code b = true → nh_dtB code (a ++ b) = true := fun a b h1 h2 => by
    unfold nh_dtB at h1 h2 ⊢
    rw [List.all_append, h1, h2]
    rfl
  exact h _ _ (h _ _ (h _ _ (h _ _ (h _ _ (h _ _ (h _ _ (h _ _ (h _ _ (h _ _ (h _ _ (h _ _ (h _ _ (h _ _ (h _ _ (h _ _ (h _ _ (h _ _ (h _ _ (lxD_0_ok) lxD_1_ok) lxD_2_ok) lxD_3_ok) lxD_4_ok) lxD_5_ok) lxD_6_ok) lxD_7_ok) lxD_8_ok) lxD_9_ok) lxD_10_ok) lxD_11_ok) lxD_12_ok) lxD_13_ok) lxD_14_ok) lxD_15_ok) lxD_16_ok) lxD_17_ok) lxD_18_ok) lxD_19_ok
def lxT : List nhDt := ce_ck lxD
theorem lx_d {pc : Nat} {q : Instr × Nat} (h : ce_dk lxT pc = some q) : decode code pc = .ok q := ce_dk_ok lxD_ok h
end
section
/-! THE CLAIM OUT OF ONE WALK OF THE LAW'S BODY. Your part is whole_start (and what it stands on); all else here is the same for every law, but numbers. -/
def R_law : String := "NightHousesLaw"
def lw_P (b : Addr) (xs : List Int32) (args : Array Value) (s : State) : Prop := args = #[.ref b] ∧ s.IntsAt b xs ∧ xs.length ≤ 6 ∧ (Jvm.Cond.and given_1 narrow_1).before args s = true
def lw_Q (_ : Array Value) (s : State) (o : Outcome) (t : State) : Prop := o = .returned (some (.int 1)) ∧ Framed s o t [] 600000 7302250
def lw_Z (below : List Frame) (a : Array Value) (s : State) : State → Prop := fun t => ∃ o, t.status = .running ∧ Ended t below o ∧ lw_Q a s o t
/-- the law's own end, with 1 on the stack, nothing written that was there before, its room as the claim has it -/
theorem lw_ret {p : Program} {l : Launch} {e : Env} {s : State} {m : MethodId} {below : List Frame} {meth : Method} {c : Code} {b : Nat} (hx : p.tables.exec = Jvm.exec) (hb : c.code = code) (hr : meth.sig.returnType = ret) (hlocks : meth.locks = false) {pc : Nat} {H : Heap} {ls : Array Slot} (hdg : decode code pc = .ok (.ireturn, 1)) : W p l e room_1 s m #[Value.ref b] below meth c H [] 600000 7302250 (lw_Z below #[Value.ref b] s) (F0 m pc ls [.int 1]) := by
  intro T hT X
  obtain ⟨fs, hret, hrun, hended, hW, hframe⟩ := X.leave (v := some (.int 1)) (hlocks := hlocks) (fun h => by rw [hr] at h; cases h)
  have hmeth' : T.vm.method? m = some meth := X.method'
  refine ⟨T.setFrames fs, ?_, .returned (some (.int 1)), hrun, hended, rfl, ⟨_, rfl⟩, hW, hframe⟩
  jvm_step X.here [X.here.top, hx, hb, hdg, hmeth', hr, ret, narrow_b1]
  (try refine ⟨rfl, ?_⟩); (try refine ⟨rfl, ?_⟩)
  first | (intro acts; rw [hret _ acts rfl rfl rfl]) | rw [hret _ _ rfl rfl rfl]
  exact Steps.refl _
/-- what holds at the law's entry: the machine, the code, the tables' words (any of lw_tbl by 'hts w (by decide +kernel)'), the script of L ints xs at the cell b, what the Statement gives of the start (any of its parts by flat_of_before) -/
def lw_At (p : Program) (s : State) (m : MethodId) (meth : Method) (c : Code) (b L : Nat) (xs : Nat → Int32) : Prop :=
  p.tables.exec = Jvm.exec ∧ c.code = code ∧ meth.sig.returnType = ret ∧ c.maxLocals = 4 ∧ s.vm.findClass R_law = some m.cls ∧ (∀ w ∈ lw_tbl, w.before #[Value.ref b] s = true) ∧ va_X b L xs s s.heap ∧ b < s.heap.size ∧ meth.locks = false ∧ (Jvm.Cond.and given_1 narrow_1).before #[Value.ref b] s = true
/-! the law's frame: its arguments, its calls, its end -/
def lx_argB (pc k : Nat) : Bool := decide (ce_dk lxT pc = some (.aload_n 0, 1)) && (decide (ce_dk lxT (pc + 1) = some (.iload_n 3, 1)) && (decide (ce_dk lxT (pc + 2) = some (.iconst (k : Int), 1)) && (decide (ce_dk lxT (pc + 3) = some (.iadd, 1)) && decide (ce_dk lxT (pc + 4) = some (.iaload, 1)))))
def lx_boolB (pc : Nat) : Bool := decide (ce_dk lxT pc = some (.ifCond .eq 7, 3)) && (decide (ce_dk lxT (pc + 3) = some (.iconst 1, 1)) && (decide (ce_dk lxT (pc + 4) = some (.goto 4, 3)) && decide (ce_dk lxT (pc + 7) = some (.iconst 0, 1))))
def lx_sz : List Bool → Nat
  | [] => 0
  | true :: r => 13 + lx_sz r
  | false :: r => 5 + lx_sz r
def lx_argsB : Nat → Nat → List Bool → Bool
  | _, _, [] => true
  | pc, k, true :: r => lx_argB pc k && (lx_boolB (pc + 5) && lx_argsB (pc + 13) (k + 1) r)
  | pc, k, false :: r => lx_argB pc k && lx_argsB (pc + 5) (k + 1) r
def lx_b01 (x : Int32) : Int32 := if x = 0 then 0 else 1
def lx_vals (xs : Nat → Int32) : Nat → List Bool → List Value
  | _, [] => []
  | k, true :: r => .int (lx_b01 (xs k)) :: lx_vals xs (k + 1) r
  | k, false :: r => .int (xs k) :: lx_vals xs (k + 1) r
theorem lx_ix (k : Nat) (hk : k < 6) : vp_in ((0 : Int32) + Int32.ofInt (k : Int)) 6 ∧ ((0 : Int32) + Int32.ofInt (k : Int)).toNatClampNeg = k := by
  unfold vp_in
  match k, hk with
  | 0, _ => exact ⟨by decide, by decide⟩
  | 1, _ => exact ⟨by decide, by decide⟩
  | 2, _ => exact ⟨by decide, by decide⟩
  | 3, _ => exact ⟨by decide, by decide⟩
  | 4, _ => exact ⟨by decide, by decide⟩
  | 5, _ => exact ⟨by decide, by decide⟩
  | n + 6, h => exact absurd h (by omega)
/-- a method of the class or of the reference that the law calls -/
def lx_mB (idx mn n ci : Nat) : Bool := decide (nh_find (nhLn.getD 20 []) idx = some mn) && (match nhMt[mn]?, nhCl[ci]? with
  | some y, some r => decide (y.2.2.2.2.1 = false ∧ y.2.2.1 ≤ 41 ∧ y.2.2.2.2.2 = n ∧ r.1 = y.1.cls)
  | _, _ => false)
def lx_caseB (pc idx1 idx2 mx mm : Nat) (ds : List Bool) : Bool := (decide (ce_dk lxT pc = some (.aload_n 1, 1)) && (lx_argsB (pc + 1) 1 ds && (decide (ce_dk lxT (pc + 1 + lx_sz ds) = some (.invokevirtual idx1, 3)) && (decide (ce_dk lxT (pc + 1 + lx_sz ds + 3) = some (.aload_n 2, 1)) && (lx_argsB (pc + 1 + lx_sz ds + 3 + 1) 1 ds && (decide (ce_dk lxT (pc + 1 + lx_sz ds + 3 + 1 + lx_sz ds) = some (.invokevirtual idx2, 3)) && decide (ce_dk lxT (pc + 1 + lx_sz ds + 3 + 1 + lx_sz ds + 3) = some (.if_icmp .eq (1522 - ((pc + 1 + lx_sz ds + 3 + 1 + lx_sz ds + 3 : Nat) : Int)), 3)))))))) && (decide (mx < 1000 ∧ mm < 1000) && (lx_mB idx1 mx ds.length 11 && lx_mB idx2 mm ds.length 12))
section LX
variable {p : Program} {l : Launch} {e : Env} {s : State} {m : MethodId} {below : List Frame} {meth : Method} {c : Code} {b : Nat} {xs : Nat → Int32} {D : nhD} {H : Heap} {locs : List Loc} {ls : Array Slot} {cn cz : Nat} {Q : State → Prop}
def lx_In (p : Program) (s : State) (m : MethodId) (meth : Method) (c : Code) (b : Nat) (xs : Nat → Int32) (D : nhD) (ls : Array Slot) : Prop := lw_At p s m meth c b 6 xs ∧ nhK D s ∧ ceNs s ∧ lv_has ls 4 [(3, .int 0), (2, .ref (s.heap.size + 281)), (1, .ref (s.heap.size + 0)), (0, .ref b)]
def lx_Hp (D : nhD) (xs : Nat → Int32) (s : State) (hp : ceHp) (H : Heap) (locs : List Loc) : Prop := ceH D (fun k => xs (k + 1)) s.heap.size s.heap hp H ∧ ∀ q ∈ locs, s.heap.size ≤ q.base
theorem lx_S {hp : ceHp} (h : lx_Hp D xs s hp H locs) : va_S (fun q : Nat => s.heap.size ≤ q) s.heap H locs := ⟨by rw [h.1.1]; omega, fun q h1 _ => h.1.2.1 q h1, h.2⟩
theorem lx_arg (hC : lx_In p s m meth c b xs D ls) (hS : va_S (fun q : Nat => s.heap.size ≤ q) s.heap H locs) {k pc : Nat} {rest : List Value} (hk : k < 6) (h : lx_argB pc k = true)
    (kk : W p l e room_1 s m #[Value.ref b] below meth c H locs cn cz Q (F0 m (pc + 5) ls (.int (xs k) :: rest))) : W p l e room_1 s m #[Value.ref b] below meth c H locs cn cz Q (F0 m pc ls rest) := by
  obtain ⟨⟨hx, hb, hr, hml, hown, hts, hX, hbl, hlocks, hgv⟩, hK, hNs, hl⟩ := hC
  unfold lx_argB at h
  rw [Bool.and_eq_true, Bool.and_eq_true, Bool.and_eq_true, Bool.and_eq_true] at h
  obtain ⟨h0, h1, h2, h3, h4⟩ := h
  have d0 := lx_d (of_decide_eq_true h0)
  have d1 := lx_d (of_decide_eq_true h1)
  have d2 := lx_d (of_decide_eq_true h2)
  have d3 := lx_d (of_decide_eq_true h3)
  have d4 := lx_d (of_decide_eq_true h4)
  refine lv_aload_n hx hb d0 rfl (lv_at hl 3 rfl) ?_
  refine lv_iload_n hx hb d1 rfl (lv_at hl 0 rfl) ?_
  refine lv_iconst hx hb d2 rfl ?_
  refine lv_iadd hx hb d3 ?_
  refine va_sld hx hb hX hbl (Nat.not_le.mpr hbl) hS (lx_ix k hk).1 d4 ?_
  rw [(lx_ix k hk).2]
  exact kk
theorem lx_bool (hC : lx_In p s m meth c b xs D ls) {pc : Nat} {rest : List Value} {x : Int32} (h : lx_boolB pc = true)
    (kk : W p l e room_1 s m #[Value.ref b] below meth c H locs cn cz Q (F0 m (pc + 8) ls (.int (lx_b01 x) :: rest))) : W p l e room_1 s m #[Value.ref b] below meth c H locs cn cz Q (F0 m pc ls (.int x :: rest)) := by
  obtain ⟨⟨hx, hb, hr, hml, hown, hts, hX, hbl, hlocks, hgv⟩, hK, hNs, hl⟩ := hC
  unfold lx_boolB at h
  rw [Bool.and_eq_true, Bool.and_eq_true, Bool.and_eq_true] at h
  obtain ⟨h0, h1, h2, h3⟩ := h
  have d0 := lx_d (of_decide_eq_true h0)
  have d1 := lx_d (of_decide_eq_true h1)
  have d2 := lx_d (of_decide_eq_true h2)
  have d3 := lx_d (of_decide_eq_true h3)
  refine nh_ifW (t := pc + 7) hx hb d0 (by omega) (fun hc => ?_) (fun hc => ?_)
  · refine lv_iconst (v := 0) hx hb d3 rfl ?_
    have hc : x.toInt = 0 := by simpa [nh_cr] using hc
    have : x = 0 := Int32.toInt_inj.mp hc
    unfold lx_b01 at kk
    rw [if_pos this] at kk
    exact kk
  · refine lv_iconst (v := 1) hx hb d1 rfl ?_
    refine lv_goto (tgt := pc + 8) hx hb d2 (by omega) ?_
    have hc : ¬ x.toInt = 0 := by simpa [nh_cr] using hc
    have : ¬ x = 0 := fun q => hc (by rw [q]; rfl)
    unfold lx_b01 at kk
    rw [if_neg this] at kk
    exact kk
theorem lx_args (hC : lx_In p s m meth c b xs D ls) (hS : va_S (fun q : Nat => s.heap.size ≤ q) s.heap H locs) : ∀ (ds : List Bool) (pc k : Nat) (rest : List Value), k + ds.length ≤ 6 → lx_argsB pc k ds = true →
    W p l e room_1 s m #[Value.ref b] below meth c H locs cn cz Q (F0 m (pc + lx_sz ds) ls ((lx_vals xs k ds).reverse ++ rest)) → W p l e room_1 s m #[Value.ref b] below meth c H locs cn cz Q (F0 m pc ls rest)
  | [], pc, k, rest, _, _, kk => kk
  | true :: r, pc, k, rest, hk, h, kk => by
    unfold lx_argsB at h
    rw [Bool.and_eq_true, Bool.and_eq_true] at h
    rw [List.length_cons] at hk
    refine lx_arg hC hS (by omega) h.1 ?_
    refine lx_bool hC h.2.1 ?_
    refine lx_args hC hS r (pc + 13) (k + 1) _ (by omega) h.2.2 ?_
    rw [lx_vals, List.reverse_cons, List.append_assoc, lx_sz, ← Nat.add_assoc] at kk
    exact kk
  | false :: r, pc, k, rest, hk, h, kk => by
    unfold lx_argsB at h
    rw [Bool.and_eq_true] at h
    rw [List.length_cons] at hk
    refine lx_arg hC hS (by omega) h.1 ?_
    refine lx_args hC hS r (pc + 5) (k + 1) _ (by omega) h.2 ?_
    rw [lx_vals, List.reverse_cons, List.append_assoc, lx_sz, ← Nat.add_assoc] at kk
    exact kk
theorem lx_after {R : Room} {args : Array Value} {ρ : Nat → Int32} {B : Nat} {H0 : Heap} {pc mc ms : Nat} {st0 rest : List Value} {r : Option ceV} {hp' : ceHp} {a : Array Value} (hloc : ∀ q ∈ locs, B ≤ q.base) (hr : va_Run p l e R s m args below meth c H locs cn cz mc ms (F0 m pc ls st0) rest (ceQc D ρ B H0 r hp' a) (fun a => B ≤ a))
    (k : ∀ (H' : Heap) (locs' : List Loc), ceH D ρ B H0 hp' H' → (∀ q ∈ locs', B ≤ q.base) → W p l e R s m args below meth c H' locs' (cn + mc) (cz + ms) Q (F0 m (pc + 3) ls ((r.map (ce_c ρ B)).toList ++ rest))) : W p l e R s m args below meth c H locs cn cz Q (F0 m pc ls st0) := by
  intro T hT X
  obtain ⟨v, st₀, t, T', L, h0, X', hL, e1, e2, ⟨hv, hh⟩, st⟩ := hr T hT X
  have hv' : v = r.map (ce_c ρ B) := Outcome.returned.inj hv
  subst hv'
  obtain ⟨t2, a1, b1⟩ := k t.heap (locs ++ L) hh (fun q hq => by
    rcases List.mem_append.mp hq with h | h
    · exact hloc q h
    · exact hL q h) T' e1 X'
  exact ⟨t2, st t2 a1, b1⟩
theorem lx_call (hC : lx_In p s m meth c b xs D ls) {hp hp' : ceHp} (hH : lx_Hp D xs s hp H locs) {pc idx mn o ci : Nat} {as : List ceV} {y : nhMth} {r : ceV} {rest : List Value} (hmn : mn < 1000) (hB : lx_mB idx mn as.length ci = true) (hrc : ce_rcv hp o ci = true) (hy : ce_m mn = some y) (hM : ceMet y 14 ((2, (o : Int)) :: as) hp (some r) hp' 0 0) (hd : decode code pc = .ok (.invokevirtual idx, 3)) (hrest : (rest.map fun v => v.category).sum ≤ 8) (hcn : cn ≤ 600000) (hcz : cz ≤ 7302250)
    (k : ∀ (H' : Heap) (locs' : List Loc), lx_Hp D xs s hp' H' locs' → W p l e room_1 s m #[Value.ref b] below meth c H' locs' cn cz Q (F0 m (pc + 3) ls (ce_c (fun k => xs (k + 1)) s.heap.size r :: rest))) :
    W p l e room_1 s m #[Value.ref b] below meth c H locs cn cz Q (F0 m pc ls ((as.map (ce_c (fun k => xs (k + 1)) s.heap.size)).reverse ++ .ref (s.heap.size + o) :: rest)) := by
  obtain ⟨⟨hx, hb, hr, hml, hown, hts0, hX, hbl, hlocks, hgv⟩, hK, hNs, hl⟩ := hC
  have hts : ∀ w ∈ nhTb, w.before #[Value.ref b] s = true := fun w hw => hts0 w (List.mem_filter.mp hw).1
  unfold ce_m at hy
  rw [if_pos hmn] at hy
  unfold lx_mB at hB
  rw [Bool.and_eq_true] at hB
  obtain ⟨hfd, hB⟩ := hB
  have hfd := of_decide_eq_true hfd
  rw [hy] at hB
  split at hB
  · rename_i y' r0 ey er
    cases ey
    obtain ⟨c1, c2, c3, c4⟩ := of_decide_eq_true hB
    obtain ⟨m1, m2, m3, m4, m5, m6⟩ := nh_mt_ok hy
    obtain ⟨n1, n2⟩ := m4 c1
    have hlink := nh_lk_ok (o := 20) (C := "NightHousesLaw") rfl (nh_find_ok hfd) hy
    dsimp only at hlink
    unfold ce_rcv at hrc
    split at hrc
    · rename_i kk hkk
      rw [Bool.and_eq_true] at hrc
      have k1 := Nat.eq_of_beq_eq_true hrc.1
      have k2 := Nat.eq_of_beq_eq_true hrc.2
      obtain ⟨t, ci', fs⟩ := kk
      dsimp only at k1 k2
      subst k1 k2
      obtain ⟨cell, q1, q2, q3, q4⟩ : t_OB (s.heap.size + o) (D.1 ci') fs.length (D.2.1 ci') H (fun k => ce_c (fun k => xs (k + 1)) s.heap.size (fs.getD k (3, 0))) := hH.1.2.2 _ _ hkk
      have hPre : ∀ U : State, U.heap = H → s.WarmedH U.vm → cePc D (fun k => xs (k + 1)) s.heap.size s.heap ((2, (o : Int)) :: as) hp (((2, (o : Int)) :: as).map (ce_c (fun k => xs (k + 1)) s.heap.size)).toArray U := fun U hU hW => ⟨rfl, by rw [hU]; exact hH.1, hK.moved hW.alike, hNs.warm hW⟩
      have hB2 := callB_of (R := room_1) (mc := 0) (ms := 0) (rm := ceRm 14 0 0) y.2.2.2.2.2 hts (nhGoodIn m1) rfl rfl rfl (hts _ m2) (hts _ hlink) m5 ⟨by show 14 + 1 ≤ 2048; omega, by show 8 + (y.2.2.1 + 11) + 60 * 14 ≤ 84000; omega⟩
      refine lx_after (mc := 0) (ms := 0) (rest := rest) (r := some r) (hp' := hp') (a := (((2, (o : Int)) :: as).map (ce_c (fun k => xs (k + 1)) s.heap.size)).toArray) hH.2 ?_ (fun H' locs' h1 h2 => k H' locs' ⟨h1, h2⟩)
      exact va_runV (b := s.heap.size + o) (As := as.map (ce_c (fun k => xs (k + 1)) s.heap.size)) (rest := rest) ⟨hx, hb, hml, hown, hts⟩ (hM l D (fun k => xs (k + 1)) s.heap.size s.heap) ⟨hB2, hts _ n1, hts _ n2⟩ ⟨cePc_blind _ _ _ _ _ _, ⟨cell, q1, by rw [q3]; rfl, by rw [q2, ← c4]; exact (hK.1 ci' r0 er).2.1⟩, hPre⟩ rfl (by rw [List.length_map, c3]) hl.1 rfl (lv_room hrest) hd ⟨hcn, hcz⟩
    · cases hrc
  · cases hB
theorem lx_d1522 : ce_dk lxT 1522 = some (.iinc 3 6, 3) ∧ ce_dk lxT 1525 = some (.goto (-1507), 3) ∧ ce_dk lxT 18 = some (.iload_n 3, 1) ∧ ce_dk lxT 19 = some (.aload_n 0, 1) ∧ ce_dk lxT 20 = some (.arraylength, 1) ∧ ce_dk lxT 21 = some (.bipush 6, 2) ∧ ce_dk lxT 23 = some (.isub, 1) ∧ ce_dk lxT 24 = some (.if_icmp .gt 1504, 3) ∧ ce_dk lxT 1528 = some (.iconst 1, 1) ∧ ce_dk lxT 1529 = some (.ireturn, 1) := by decide +kernel
theorem lx_end {L : Nat} (hC : lw_At p s m meth c b L xs) (hloc : ∀ q ∈ locs, s.heap.size ≤ q.base) : W p l e room_1 s m #[Value.ref b] below meth c H locs 600000 7302250 (lw_Z below #[Value.ref b] s) (F0 m 1528 ls []) := by
  obtain ⟨hx, hb, hr, hml, hown, hts, hX, hbl, hlocks, hgv⟩ := hC
  refine lv_iconst (v := 1) hx hb (lx_d lx_d1522.2.2.2.2.2.2.2.2.1) rfl ?_
  refine va_forget hloc ?_
  exact lw_ret hx hb hr hlocks (lx_d lx_d1522.2.2.2.2.2.2.2.2.2)
theorem lx_tail (hC : lx_In p s m meth c b xs D ls) {hp : ceHp} (hH : lx_Hp D xs s hp H locs) : W p l e room_1 s m #[Value.ref b] below meth c H locs 600000 7302250 (lw_Z below #[Value.ref b] s) (F0 m 1522 ls []) := by
  have hS := lx_S hH
  obtain ⟨hA, hK, hNs, hl⟩ := hC
  have hA' := hA
  obtain ⟨hx, hb, hr, hml, hown, hts, hX, hbl, hlocks, hgv⟩ := hA'
  refine lv_iinc (v := 6) (lv' := [(3, .int 6), (2, .ref (s.heap.size + 281)), (1, .ref (s.heap.size + 0)), (0, .ref b)]) hx hb (lx_d lx_d1522.1) hl (k := 0) rfl (by decide) (by decide) rfl (fun ls hl => ?_)
  refine lv_goto (tgt := 18) hx hb (lx_d lx_d1522.2.1) (by decide) ?_
  refine lv_iload_n hx hb (lx_d lx_d1522.2.2.1) rfl (lv_at hl 0 rfl) ?_
  refine lv_aload_n hx hb (lx_d lx_d1522.2.2.2.1) rfl (lv_at hl 3 rfl) ?_
  refine va_slen hx hb hX hbl (Nat.not_le.mpr hbl) hS (lx_d lx_d1522.2.2.2.2.1) ?_
  refine lv_bipush (v := 6) hx hb (lx_d lx_d1522.2.2.2.2.2.1) rfl ?_
  refine lv_isub hx hb (lx_d lx_d1522.2.2.2.2.2.2.1) ?_
  refine lv_icmp_gt (tgt := 1528) hx hb (lx_d lx_d1522.2.2.2.2.2.2.2.1) (by decide) (fun _ => ?_) (fun hc => absurd (by decide) hc)
  exact lx_end hA hH.2
theorem cw3_rcv : ce_rcv cw3 0 11 = true := by decide +kernel
theorem lx_case (hC : lx_In p s m meth c b xs D ls) (hH : lx_Hp D xs s cw3 H locs) {pc idx1 idx2 mx mm : Nat} {ds : List Bool} (hds : ds.length ≤ 5) (h : lx_caseB pc idx1 idx2 mx mm ds = true) (h2 : ∃ as, ceTwo 14 mx mm cw3 as ∧ as.map (ce_c (fun k => xs (k + 1)) s.heap.size) = lx_vals xs 1 ds) : W p l e room_1 s m #[Value.ref b] below meth c H locs 600000 7302250 (lw_Z below #[Value.ref b] s) (F0 m pc ls []) := by
  obtain ⟨as, ⟨yx, ym, r, hp1, hp2, g1, g3, g2, g4, ht, hrc⟩, hv⟩ := h2
  have hC' := hC
  obtain ⟨⟨hx, hb, hr, hml, hown, hts, hX, hbl, hlocks, hgv⟩, hK, hNs, hl⟩ := hC'
  unfold lx_caseB at h
  simp only [Bool.and_eq_true] at h
  obtain ⟨⟨h0, h1, h2, h3, h4, h5, h6⟩, h7, h8, h9⟩ := h
  have hmm := of_decide_eq_true h7
  have hlen : as.length = ds.length := by
    have e1 := congrArg List.length hv
    rw [List.length_map] at e1
    rw [e1]
    clear hv h1 h2 h3 h4 h5 h6 h8 h9 hds e1
    generalize 1 = k
    induction ds generalizing k with
    | nil => rfl
    | cons d r ih => cases d <;> simp [lx_vals, ih]
  rw [← hlen] at h8 h9
  refine lv_aload_n hx hb (lx_d (of_decide_eq_true h0)) rfl (lv_at hl 2 rfl) ?_
  refine lx_args hC (lx_S hH) ds (pc + 1) 1 _ (by omega) h1 ?_
  rw [← hv]
  refine lx_call hC hH (o := 0) hmm.1 h8 cw3_rcv g1 g2 (lx_d (of_decide_eq_true h2)) (Nat.le_of_ble_eq_true rfl) (Nat.le_refl _) (Nat.le_refl _) (fun H1 locs1 hH1 => ?_)
  refine lv_aload_n hx hb (lx_d (of_decide_eq_true h3)) rfl (lv_at hl 1 rfl) ?_
  refine lx_args hC (lx_S hH1) ds (pc + 1 + lx_sz ds + 3 + 1) 1 _ (by omega) h4 ?_
  rw [← hv]
  obtain ⟨a, ha⟩ := (ce_ty_ok (fun k => xs (k + 1)) s.heap.size (v := r)).1 ht
  rw [ha]
  refine lx_call hC hH1 (o := 281) hmm.2 h9 hrc g3 g4 (lx_d (of_decide_eq_true h5)) (Nat.le_of_ble_eq_true rfl) (Nat.le_refl _) (Nat.le_refl _) (fun H2 locs2 hH2 => ?_)
  rw [ha]
  refine lv_icmp_eq (tgt := 1522) hx hb (lx_d (of_decide_eq_true h6)) (by omega) (fun _ => lx_tail hC hH2) (fun hc => absurd rfl hc)
end LX
/-! from the trees to the arguments -/
theorem lx_in (ρ : Nat → Int32) (N : Nat) : ceIn ρ 0 (List.replicate N (-2147483648, 2147483647)) := fun k b hb => by
  rw [List.getElem?_replicate] at hb
  split at hb
  · cases hb
    have h1 := (ρ (0 + k)).le_toInt
    have h2 := (ρ (0 + k)).toInt_lt
    dsimp only
    omega
  · cases hb
theorem lx_tr {f : List ceV → Bool} {n N : Nat} {t : List (Nat × Int)} (hN : N ≤ 5) (ρ : Nat → Int32) (B : Nat) (h : ce_tk f n t (List.replicate N (-2147483648, 2147483647)) = true) : ∃ as, f as = true ∧ as.map (ce_c ρ B) = (List.range' 0 N).map (fun k => Value.int (ρ k)) := by
  obtain ⟨r, hr⟩ := ce_tk_ok h
  obtain ⟨bx, g1, g2, g3, g4⟩ := ce_tree_ok (ρ := ρ) n t _ r hr (lx_in ρ N)
  rw [List.length_replicate] at g2
  exact ⟨_, g1, by rw [ce_bx_ok ρ B bx 0 (by omega) g3 g4, g2]⟩
theorem lx_v (xs : Nat → Int32) : ∀ (N j : Nat) (tl : List Bool), (List.range' j N).map (fun k => Value.int (xs (k + 1))) ++ lx_vals xs (j + N + 1) tl = lx_vals xs (j + 1) (List.replicate N false ++ tl)
  | 0, _, _ => rfl
  | N + 1, j, tl => by
    rw [List.range'_succ, List.map_cons, List.replicate_succ, List.cons_append, List.cons_append, lx_vals, ← lx_v xs N (j + 1) tl]
    congr 2
    congr 1
    omega
theorem lx_of {f : List ceV → Bool} {mx mm n N : Nat} {t : List (Nat × Int)} {xs : Nat → Int32} {B : Nat} (hf : ∀ as, f as = true → ceTwo 14 mx mm cw3 as) (hN : N ≤ 5) (h : ce_tk f n t (List.replicate N (-2147483648, 2147483647)) = true) : ∃ as, ceTwo 14 mx mm cw3 as ∧ as.map (ce_c (fun k => xs (k + 1)) B) = lx_vals xs 1 (List.replicate N false) := by
  obtain ⟨as, g1, g2⟩ := lx_tr hN (fun k => xs (k + 1)) B h
  refine ⟨as, hf _ g1, ?_⟩
  have := lx_v xs N 0 []
  rw [List.append_nil] at this
  rw [g2, ← this]
  exact (List.append_nil _).symm
theorem lx_ofB {f : List ceV → Bool} {mx mm n0 n1 N : Nat} {t0 t1 : List (Nat × Int)} {xs : Nat → Int32} {B : Nat} (hf : ∀ as, f as = true → ceTwo 14 mx mm cw3 as) (hN : N ≤ 5) (h0 : ce_tk (fun as => f (as ++ [(0, 0)])) n0 t0 (List.replicate N (-2147483648, 2147483647)) = true) (h1 : ce_tk (fun as => f (as ++ [(0, 1)])) n1 t1 (List.replicate N (-2147483648, 2147483647)) = true) : ∃ as, ceTwo 14 mx mm cw3 as ∧ as.map (ce_c (fun k => xs (k + 1)) B) = lx_vals xs 1 (List.replicate N false ++ [true]) := by
  have hv := lx_v xs N 0 [true]
  by_cases hq : xs (0 + N + 1) = 0
  · obtain ⟨as, g1, g2⟩ := lx_tr hN (fun k => xs (k + 1)) B h0
    refine ⟨as ++ [(0, 0)], hf _ g1, ?_⟩
    rw [List.map_append, g2, ← hv, lx_vals, lx_b01, if_pos hq]
    rfl
  · obtain ⟨as, g1, g2⟩ := lx_tr hN (fun k => xs (k + 1)) B h1
    refine ⟨as ++ [(0, 1)], hf _ g1, ?_⟩
    rw [List.map_append, g2, ← hv, lx_vals, lx_b01, if_neg hq]
    rfl
end
section
/-! the law from its entry -/
theorem lx_inst {ci : Nat} {r : vw_C} (h : nhCl[ci]? = some r) : ∃ n, Cond.instantiable r.1 n ∈ nhTb := by
  match ci, h with
  | 0, h => cases h; exact ⟨9, nh_wd_ok (i := 469) (by decide +kernel)⟩
  | 1, h => cases h; exact ⟨5, nh_wd_ok (i := 157) (by decide +kernel)⟩
  | 2, h => cases h; exact ⟨4, nh_wd_ok (i := 394) (by decide +kernel)⟩
  | 3, h => cases h; exact ⟨14, nh_wd_ok (i := 151) (by decide +kernel)⟩
  | 4, h => cases h; exact ⟨8, nh_wd_ok (i := 343) (by decide +kernel)⟩
  | 5, h => cases h; exact ⟨7, nh_wd_ok (i := 438) (by decide +kernel)⟩
  | 6, h => cases h; exact ⟨13, nh_wd_ok (i := 262) (by decide +kernel)⟩
  | 7, h => cases h; exact ⟨10, nh_wd_ok (i := 507) (by decide +kernel)⟩
  | 8, h => cases h; exact ⟨17, nh_wd_ok (i := 143) (by decide +kernel)⟩
  | 9, h => cases h; exact ⟨7, nh_wd_ok (i := 268) (by decide +kernel)⟩
  | 10, h => cases h; exact ⟨4, nh_wd_ok (i := 418) (by decide +kernel)⟩
  | 11, h => cases h; exact ⟨17, nh_wd_ok (i := 143) (by decide +kernel)⟩
  | 12, h => cases h; exact ⟨64, nh_wd_ok (i := 1377) (by decide +kernel)⟩
  | n + 13, h => simp at h
theorem lx_arrs {args : Array Value} {s : State} (hts : ∀ w ∈ nhTb, w.before args s = true) (hAO : va_AO "NightHouses$Night" s) : ∀ k : Nat, ∃ cA : ClassId, ∀ ty, nhTy[k]? = some ty → ArrOfT s cA ty ∧ va_RA s cA ty
  | 0 => by
    obtain ⟨cA, kA, comp, a1, a2, a3⟩ := Cond.arrayClass_spec (hts (.arrayClass .int) (nh_wd_ok (i := 181) (by decide +kernel)))
    exact ⟨cA, fun ty h => by cases h; exact ⟨fun n z => ⟨fun k h => (by cases h), kA, a2, comp, a3⟩, a1⟩⟩
  | 1 => by
    obtain ⟨cA, kA, comp, a1, a2, a3⟩ := Cond.arrayClass_spec (hts (.arrayClass .byte) (nh_wd_ok (i := 180) (by decide +kernel)))
    exact ⟨cA, fun ty h => by cases h; exact ⟨fun n z => ⟨fun k h => (by cases h), kA, a2, comp, a3⟩, a1⟩⟩
  | 2 => by
    obtain ⟨cA, kA, comp, a1, a2, a3⟩ := Cond.arrayClass_spec (hts (.arrayClass .long) (nh_wd_ok (i := 341) (by decide +kernel)))
    exact ⟨cA, fun ty h => by cases h; exact ⟨fun n z => ⟨fun k h => (by cases h), kA, a2, comp, a3⟩, a1⟩⟩
  | 3 => by
    obtain ⟨cA, kA, comp, a1, a2, a3⟩ := Cond.arrayClass_spec (hts (.arrayClass .boolean) (nh_wd_ok (i := 546) (by decide +kernel)))
    exact ⟨cA, fun ty h => by cases h; exact ⟨fun n z => ⟨fun k h => (by cases h), kA, a2, comp, a3⟩, a1⟩⟩
  | 4 => by
    obtain ⟨comp, cA, kA, b1, b2, b3, b4, b5⟩ := Cond.arrayOver_spec hAO
    exact ⟨cA, fun ty h => by cases h; exact ⟨fun n z => ⟨fun k h => (by cases h), kA, b3, comp, b4⟩, kA, comp, b3, b4, b1, b5⟩⟩
  | n + 5 => ⟨0, fun ty h => by simp at h⟩
theorem lx_known {args : Array Value} {s : State} (hts : ∀ w ∈ nhTb, w.before args s = true) (hAO : va_AO "NightHouses$Night" s) : ∃ D : nhD, nhK D s := by
  have h1 : ∀ c : Nat, ∃ x : ClassId × (Nat → Nat), ∀ q, nhCl[c]? = some q → u_Kn s q.1 q.2.1 q.2.2 x.1 x.2 := by
    intro c
    cases hq : nhCl[c]? with
    | none => exact ⟨(0, fun _ => 0), fun q h => by cases h⟩
    | some q =>
      obtain ⟨n, hn⟩ := lx_inst hq
      obtain ⟨cC, iS, h⟩ := u_known hts (nhCl_in hq).1 (hts _ hn)
      exact ⟨(cC, iS), fun q' h' => by cases h'; exact h⟩
  have h2 := lx_arrs hts hAO
  exact ⟨(fun c => (Classical.choose (h1 c)).1, fun c => (Classical.choose (h1 c)).2, fun k => Classical.choose (h2 k)), fun c q hq => Classical.choose_spec (h1 c) q hq, fun k ty hk => Classical.choose_spec (h2 k) ty hk⟩
set_option maxRecDepth 100000 in
theorem lx_nw0 : ceNw.map (fun q => some (Cond.methodLinkNest q.1 q.2.1 q.2.2 "NightHouses")) = [152, 158, 263, 269, 344, 401, 419, 444, 470, 475, 508, 513].map (fun i => lw_tbl[i]?) := rfl
theorem lx_nw {q : String × Nat × MethodName} (hq : q ∈ ceNw) : Cond.methodLinkNest q.1 q.2.1 q.2.2 "NightHouses" ∈ lw_tbl := by
  have h1 : some (Cond.methodLinkNest q.1 q.2.1 q.2.2 "NightHouses") ∈ ceNw.map (fun q => some (Cond.methodLinkNest q.1 q.2.1 q.2.2 "NightHouses")) := List.mem_map.mpr ⟨q, hq, rfl⟩
  rw [lx_nw0] at h1
  obtain ⟨i, -, hi⟩ := List.mem_map.mp h1
  exact List.mem_of_getElem? hi
theorem lx_ns {args : Array Value} {s : State} (hts : ∀ w ∈ lw_tbl, w.before args s = true) : ceNs s := ⟨fun q hq => va_Nw.of rfl (hts _ (lx_nw hq)), va_AO.of (hts (.arrayOver (.object "NightHouses$Night")) (List.mem_of_getElem? (i := 400) (by decide +kernel)))⟩
section LX3
variable {p : Program} {l : Launch} {e : Env} {R : Room} {s : State} {m : MethodId} {args : Array Value} {below : List Frame} {meth : Method} {c : Code} {Q : State → Prop} {cc : ByteArray} {pc own nL : Nat} {D : nhD} {ρ : Nat → Int32} {B : Nat} {H0 H : Heap} {locs : List Loc} {ls : Array Slot} {rest : List Value} {cn cz : Nat} {hp : ceHp}
theorem lx_new (hF : nhFx p c s m args cc nL own D) (hH : ceH D ρ B H0 hp H) {idx : Nat} {q : Nat × Nat × Nat} {r : vw_C} (hq : (ceNl.getD own []).find? (fun q => q.1 == idx) = some q) (hr : nhCl[q.2.1]? = some r) (hok : ce_ok hp = true) (hl : (List.range r.2.2).all (fun k => match nhFt q.2.1 k with
      | .float => false
      | .double => false
      | _ => true) = true) (hd : decode cc pc = .ok (.new idx, 3)) (hcells : cn + 1 ≤ R.cells) (hslots : cz + r.2.2 ≤ R.slots)
    (k : ∀ H' : Heap, ceH D ρ B H0 (ce_push hp (0, q.2.1, (List.range r.2.2).map (fun k => ce_def (nhFt q.2.1 k)))) H' → W p l e R s m args below meth c H' locs (cn + 1) (cz + r.2.2) Q (F0 m (pc + 3) ls (.ref (B + ce_len hp) :: rest))) : W p l e R s m args below meth c H locs cn cz Q (F0 m pc ls rest) := by
  obtain ⟨hx, hb, hml, ⟨C, hC, hown⟩, hts, hK⟩ := hF
  obtain ⟨r0, g1, g2, g3, g4⟩ := ce_nlk hC hq
  rw [g1] at hr
  cases hr
  refine W.newcK hx hb hown (hts _ g2) (hts _ g3) (hts _ g4) rfl hd hcells hslots (hK.1 _ _ g1).2.1 (h := B + ce_len hp) hH.1 fun H' kC hkC e1 e2 e3 => ?_
  obtain ⟨hin, hty, hnm⟩ := nhCl_in g1
  have hO := u_born (nhFt q.2.1) hts hin (hK.1 _ _ g1) hkC e1 hty
  refine k H' (hH.push hok ?_ (by rw [e2, hH.1]) (fun w hw => e3 w (by rw [← hH.1]; exact hw)))
  unfold ceCell
  dsimp only
  rw [List.length_map, List.length_range]
  refine hO.to (fun j hj => ?_)
  rw [ce_defV ρ B _ (List.all_eq_true.mp hl j (List.mem_range.mpr hj)), List.getD_eq_getElem?_getD, List.getElem?_map, List.getElem?_range hj]
  rfl
theorem lx_ctor (hF : nhFx p c s m args cc nL 20 D) (hNs : ceNs s) (hls : ls.size = nL) (hH : ceH D ρ B H0 hp H) (hloc : ∀ q ∈ locs, B ≤ q.base) {k0 idx o mc ms : Nat} {y : nhMth} {hp' : ceHp} (hy : ceCt[k0]? = some y) (hlink : Cond.methodLink "NightHousesLaw" idx y.1 ∈ nhTb) (h0 : y.2.2.2.2.2 = 0) (h41 : y.2.2.1 ≤ 41) (hM : ceMet y 12 [(2, (o : Int))] hp none hp' mc ms) (hd : decode cc pc = .ok (.invokespecial idx, 3)) (hR : 13 ≤ R.frames ∧ 8 + (41 + 11) + 60 * 12 ≤ R.locals) (h1 : cn + mc ≤ R.cells) (h2 : cz + ms ≤ R.slots) (hrest : (rest.map fun v => v.category).sum ≤ 8)
    (k : ∀ (H' : Heap) (locs' : List Loc), ceH D ρ B H0 hp' H' → (∀ q ∈ locs', B ≤ q.base) → W p l e R s m args below meth c H' locs' (cn + mc) (cz + ms) Q (F0 m (pc + 3) ls rest)) : W p l e R s m args below meth c H locs cn cz Q (F0 m pc ls (.ref (B + o) :: rest)) := by
  obtain ⟨hx, hb, hml, ⟨C, hC, hown⟩, hts, hK⟩ := hF
  obtain ⟨m1, m2, m3, ⟨m4, m5, m6⟩, m7⟩ := ce_ct_ok hy
  have eC : C = "NightHousesLaw" := (Option.some.inj hC).symm
  subst eC
  have hPre : ∀ U : State, U.heap = H → s.WarmedH U.vm → cePc D ρ B H0 [(2, (o : Int))] hp ([(2, (o : Int))].map (ce_c ρ B)).toArray U := fun U hU hW => ⟨rfl, by rw [hU]; exact hH, hK.moved hW.alike, hNs.warm hW⟩
  have hB := callB_of (R := R) (mc := mc) (ms := ms) (rm := ceRm 12 mc ms) (bytes := y.2.1) (maxL := y.2.2.1) (ret := none) (ws := nhWs y) (ws' := nhTb) y.2.2.2.2.2 hts (nhGoodIn m1) (by unfold nhWs; rw [m5]) rfl rfl (hts _ m2) (hts _ hlink) m6 ⟨hR.1, by have := hR.2; show 8 + (y.2.2.1 + 11) + 60 * 12 ≤ R.locals; omega⟩
  refine lx_after (r := none) (hp' := hp') (a := ([(2, (o : Int))].map (ce_c ρ B)).toArray) hloc ?_ k
  exact va_runI (b := B + o) (As := []) (rest := rest) ⟨hx, hb, hml, hown, hts⟩ (hM l D ρ B H0) ⟨hB, m4, hts _ m3⟩ ⟨cePc_blind _ _ _ _ _ _, hPre⟩ rfl (by rw [h0]; rfl) hls rfl (lv_room hrest) hd ⟨h1, h2⟩
end LX3
theorem lx_y0 : ∃ y, ceCt[0]? = some y ∧ Cond.methodLink "NightHousesLaw" 9 y.1 ∈ nhTb ∧ y.2.2.2.2.2 = 0 ∧ y.2.2.1 ≤ 41 ∧ ceMet y 12 [(2, ((0 : Nat) : Int))] cw0 none cw1 280 5183 := by
  obtain ⟨y, h1, h2⟩ := ce_exec_ok _ _ _ _ _ _ _ _ _ cw1_ok
  refine ⟨y, h1, ?_, ?_, ?_, h2⟩
  · cases h1; exact nh_wd_ok (i := 144) (by decide +kernel)
  · cases h1; rfl
  · cases h1; exact Nat.le_of_ble_eq_true rfl
theorem lx_y11 : ∃ y, ceCt[11]? = some y ∧ Cond.methodLink "NightHousesLaw" 12 y.1 ∈ nhTb ∧ y.2.2.2.2.2 = 0 ∧ y.2.2.1 ≤ 41 ∧ ceMet y 12 [(2, ((281 : Nat) : Int))] cw2 none cw3 40 9072 := by
  obtain ⟨y, h1, h2⟩ := ce_exec_ok _ _ _ _ _ _ _ _ _ cw3_ok
  refine ⟨y, h1, ?_, ?_, ?_, h2⟩
  · cases h1; exact nh_wd_ok (i := 1378) (by decide +kernel)
  · cases h1; rfl
  · cases h1; exact Nat.le_of_ble_eq_true rfl
theorem lx_w0 : ce_push (0, []) (0, 11, (List.range 17).map (fun k => ce_def (nhFt 11 k))) = cw0 := ce_eqH_ok _ _ (by decide +kernel)
set_option maxRecDepth 1000000 in
theorem lx_w2 : ce_push cw1 (0, 12, (List.range 64).map (fun k => ce_def (nhFt 12 k))) = cw2 := by
  have e : (List.range 64).map (fun k => ce_def (nhFt 12 k)) = [(3, 0)] ++ [(3, 0)] ++ ce_Is [0, 0, 0, 0, 0, 0, 0, 0] ++ [(1, 0)] ++ List.replicate 21 (3, 0) ++ ce_Is [0, 0, 0, 0, 0, 0, 0] ++ [(3, 0)] ++ ce_Is [0] ++ [(3, 0)] ++ ce_Is [0] ++ [(3, 0)] ++ ce_Is [0, 0] ++ [(3, 0)] ++ [(3, 0)] ++ [(3, 0)] ++ ce_Is [0] ++ [(3, 0)] ++ ce_Is [0] ++ [(3, 0)] ++ [(3, 0)] ++ [(3, 0)] ++ [(3, 0)] ++ [(3, 0)] ++ [(3, 0)] ++ [(3, 0)] ++ [(3, 0)] ++ ce_Is [0, 0] ++ [(3, 0)] ++ [(3, 0)] := by decide +kernel
  rw [e]
  exact ce_eqH_ok _ _ cw2_ok
theorem lx_o0 : ce_ok (0, []) = true := rfl
set_option maxRecDepth 1000000 in
theorem lx_o1 : ce_ok cw1 = true := by decide +kernel
theorem lx_l1 : ce_len cw1 = 281 := rfl
def lx_f (ci N : Nat) : Bool := (List.range N).all (fun k => match nhFt ci k with
      | .float => false
      | .double => false
      | _ => true)
theorem lx_f11 : lx_f 11 17 = true := by decide +kernel
theorem lx_f12 : lx_f 12 64 = true := by decide +kernel
theorem lx_n7 : (ceNl.getD 20 []).find? (fun q => q.1 == 7) = some (7, 11, 142) ∧ (ceNl.getD 20 []).find? (fun q => q.1 == 10) = some (10, 12, 1376) := by decide +kernel
theorem lx_d0 : (ce_dk lxT 0 = some (.new 7, 3) ∧ ce_dk lxT 3 = some (.dup, 1) ∧ ce_dk lxT 4 = some (.invokespecial 9, 3) ∧ ce_dk lxT 7 = some (.astore_n 1, 1)) ∧ (ce_dk lxT 8 = some (.new 10, 3) ∧ ce_dk lxT 11 = some (.dup, 1) ∧ ce_dk lxT 12 = some (.invokespecial 12, 3) ∧ ce_dk lxT 15 = some (.astore_n 2, 1)) ∧ (ce_dk lxT 16 = some (.iconst 0, 1) ∧ ce_dk lxT 17 = some (.istore_n 3, 1)) ∧ (ce_dk lxT 27 = some (.aload_n 0, 1) ∧ ce_dk lxT 28 = some (.iload_n 3, 1) ∧ ce_dk lxT 29 = some (.iaload, 1) ∧ ce_dk lxT 30 = some (.bipush 63, 2) ∧ ce_dk lxT 32 = some (.iand, 1)) := by decide +kernel
def lx_tg : List Nat := [240, 303, 326, 339, 362, 395, 428, 467, 490, 503, 526, 549, 562, 575, 618, 641, 674, 707, 750, 783, 806, 849, 862, 885, 918, 941, 964, 977, 1000, 1033, 1046, 1059, 1108, 1121, 1144, 1167, 1190, 1203, 1236, 1259, 1318, 1341, 1364, 1387, 1420, 1453, 1476, 1499]
def lx_of48 : Array Int := #[207, 270, 293, 306, 329, 362, 395, 434, 457, 470, 493, 516, 529, 542, 585, 608, 641, 674, 717, 750, 773, 816, 829, 852, 885, 908, 931, 944, 967, 1000, 1013, 1026, 1075, 1088, 1111, 1134, 1157, 1170, 1203, 1226, 1285, 1308, 1331, 1354, 1387, 1420, 1443, 1466]
theorem lx_sw : ce_dk lxT 33 = some (.tableswitch 1489 0 47 lx_of48, 207) := by decide +kernel
theorem lx_tgs : (List.range 48).all (fun n => decide ((lx_of48[n]?).map (fun o => 33 + o) = some ((lx_tg.getD n 0 : Nat) : Int))) = true := by decide +kernel
theorem lx_63 (x : Int32) : 0 ≤ (x &&& 63).toInt := (nh_andR x (by decide)).1
end
section
/-! boxes of arguments, by hand -/
theorem lx_in1 {ρ : Nat → Int32} {a b : Int} (h1 : a ≤ (ρ 0).toInt) (h2 : (ρ 0).toInt ≤ b) : ceIn ρ 0 [(a, b)] := fun k c hc => by
  match k, hc with
  | 0, hc => cases hc; exact ⟨h1, h2⟩
  | k + 1, hc => simp at hc
theorem lx_in2 {ρ : Nat → Int32} {a b c d : Int} (h1 : a ≤ (ρ 0).toInt) (h2 : (ρ 0).toInt ≤ b) (h3 : c ≤ (ρ 1).toInt) (h4 : (ρ 1).toInt ≤ d) : ceIn ρ 0 [(a, b), (c, d)] := fun k x hc => by
  match k, hc with
  | 0, hc => cases hc; exact ⟨h1, h2⟩
  | 1, hc => cases hc; exact ⟨h3, h4⟩
  | k + 2, hc => simp at hc
theorem lx_ofG {f : List ceV → Bool} {mx mm N : Nat} {xs : Nat → Int32} {B : Nat} (hf : ∀ as, f as = true → ceTwo 14 mx mm cw3 as) (hN : N ≤ 5) (h : ∃ (n : Nat) (t : List (Nat × Int)) (bx : List (Int × Int)), ce_tk f n t bx = true ∧ bx.length = N ∧ ceIn (fun k => xs (k + 1)) 0 bx) : ∃ as, ceTwo 14 mx mm cw3 as ∧ as.map (ce_c (fun k => xs (k + 1)) B) = lx_vals xs 1 (List.replicate N false) := by
  obtain ⟨n, t, bx, h1, h2, h3⟩ := h
  obtain ⟨r, hr⟩ := ce_tk_ok h1
  obtain ⟨bx', g1, g2, g3, g4⟩ := ce_tree_ok (ρ := fun k => xs (k + 1)) n t _ r hr h3
  refine ⟨_, hf _ g1, ?_⟩
  have hv := lx_v xs N 0 []
  rw [List.append_nil] at hv
  rw [ce_bx_ok (fun k => xs (k + 1)) B bx' 0 (by omega) g3 g4, g2, h2, ← hv]
  exact (List.append_nil _).symm
end
section
/-! the case hedge -/
set_option maxRecDepth 1000000 in
theorem ct_9_0 : ce_tk (ce_two 2500 14 87 231 cw3) 3 [(9, 0)] [(-2147483648, -1)] = true := by decide +kernel
set_option maxRecDepth 1000000 in
theorem ct_9_1 : ce_tk (ce_two 2500 14 87 231 cw3) 25 [(0, 6), (0, 3), (0, 1), (9, 0), (0, 2), (9, 0), (9, 0), (0, 4), (9, 0), (0, 5), (9, 0), (9, 0), (0, 9), (0, 7), (9, 0), (0, 8), (9, 0), (9, 0), (0, 10), (9, 0), (0, 11), (9, 0), (9, 0)] [(0, 11)] = true := by decide +kernel
set_option maxRecDepth 1000000 in
theorem ct_9_2 : ce_tk (ce_two 2500 14 87 231 cw3) 25 [(0, 18), (0, 15), (0, 13), (9, 0), (0, 14), (9, 0), (9, 0), (0, 16), (9, 0), (0, 17), (9, 0), (9, 0), (0, 21), (0, 19), (9, 0), (0, 20), (9, 0), (9, 0), (0, 22), (9, 0), (0, 23), (9, 0), (9, 0)] [(12, 23)] = true := by decide +kernel
end
section
/-! the case hedge, on -/
set_option maxRecDepth 1000000 in
theorem ct_9_3 : ce_tk (ce_two 2500 14 87 231 cw3) 25 [(0, 30), (0, 27), (0, 25), (9, 0), (0, 26), (9, 0), (9, 0), (0, 28), (9, 0), (0, 29), (9, 0), (9, 0), (0, 33), (0, 31), (9, 0), (0, 32), (9, 0), (9, 0), (0, 34), (9, 0), (0, 35), (9, 0), (9, 0)] [(24, 35)] = true := by decide +kernel
set_option maxRecDepth 1000000 in
theorem ct_9_4 : ce_tk (ce_two 2500 14 87 231 cw3) 3 [(9, 0)] [(36, 2147483647)] = true := by decide +kernel
end
section
/-! a long walk in pieces; a branch that both ways come to one end -/
def ce_eqP (x y : Nat × ceV) : Bool := Nat.beq x.1 y.1 && ce_eqV x.2 y.2
theorem ce_eqP_ok (x y : Nat × ceV) (h : ce_eqP x y = true) : x = y := by
  unfold ce_eqP at h
  rw [Bool.and_eq_true] at h
  obtain ⟨x1, x2⟩ := x
  obtain ⟨y1, y2⟩ := y
  have h1 := Nat.eq_of_beq_eq_true h.1
  have h2 := ce_eqV_ok _ _ h.2
  dsimp only at h1 h2
  rw [h1, h2]
def ce_isS (o : Option ceS) (S : ceS) : Bool := match o with
  | some q => Nat.beq q.1 S.1 && (ce_eqL ce_eqP q.2.1 S.2.1 && (ce_eqL ce_eqV q.2.2.1 S.2.2.1 && ce_eqH q.2.2.2 S.2.2.2))
  | none => false
theorem ce_isS_ok {o : Option ceS} {S : ceS} (h : ce_isS o S = true) : o = some S := by
  unfold ce_isS at h
  split at h
  · rename_i q
    rw [Bool.and_eq_true, Bool.and_eq_true, Bool.and_eq_true] at h
    obtain ⟨a, b, c, d⟩ := q
    obtain ⟨a', b', c', d'⟩ := S
    have h1 := Nat.eq_of_beq_eq_true h.1
    have h2 := ce_eqL_ok ce_eqP_ok _ _ h.2.1
    have h3 := ce_eqL_ok ce_eqV_ok _ _ h.2.2.1
    have h4 := ce_eqH_ok _ _ h.2.2.2
    dsimp only at h1 h2 h3 h4
    rw [h1, h2, h3, h4]
  · cases h
theorem ce_seg_add {call : Nat → List ceV → ceHp → Option ceO} {own nL : Nat} {dt : List nhDt} {S' S2 : ceS} {g : Nat} (hg : ce_seg call own nL dt g S' = some S2) : ∀ (f : Nat) (S : ceS), ce_seg call own nL dt f S = some S' → ∃ n, ce_seg call own nL dt n S = some S2
  | 0, S, h => by cases h; exact ⟨g, hg⟩
  | f + 1, S, h => by
    rw [ce_seg] at h
    split at h
    · rename_i S1 hS1
      obtain ⟨n, hn⟩ := ce_seg_add hg f S1 h
      refine ⟨n + 1, ?_⟩
      rw [ce_seg, hS1]
      exact hn
    · cases h
def ceRch (call : Nat → List ceV → ceHp → Option ceO) (own nL : Nat) (dt : List nhDt) (S S' : ceS) : Prop := ∃ n, ce_seg call own nL dt n S = some S'
theorem ceRch.of {call : Nat → List ceV → ceHp → Option ceO} {own nL : Nat} {dt : List nhDt} {S S' : ceS} {f : Nat} (h : ce_seg call own nL dt f S = some S') : ceRch call own nL dt S S' := ⟨f, h⟩
theorem ceRch.and {call : Nat → List ceV → ceHp → Option ceO} {own nL : Nat} {dt : List nhDt} {S S' S2 : ceS} {g : Nat} (h : ceRch call own nL dt S S') (hg : ce_seg call own nL dt g S' = some S2) : ceRch call own nL dt S S2 := by
  obtain ⟨f, hf⟩ := h
  exact ce_seg_add hg f S hf
def ce_mC (mn nL own : Nat) (rt : Option FieldType) : Bool := match ce_m mn with
  | some y => decide (mn < 1000 ∧ nhOw[ce_ow mn]? = some y.1.cls ∧ y.2.2.1 = nL ∧ y.2.2.2.1 = rt ∧ ce_ow mn = own)
  | none => false
theorem ce_met_fork {mn nL own d pc t f1 f2 : Nat} {rt : Option FieldType} {cd : ClassFile.Cond} {off : Int} {as st : List ceV} {lo : List (Nat × ceV)} {x : ceV} {hp hp1 hpE : ceHp} {rv : Option ceV} {call : Nat → List ceV → ceHp → Option ceO} (hB : ce_mC mn nL own rt = true) (hsum : ce_sum as ≤ nL)
    (hseg : ceRch call own nL (ce_ck (ce_dt mn)) (0, ce_lo0 0 as, [], hp) (pc, lo, x :: st, hp1)) (hi : ce_dk (ce_ck (ce_dt mn)) pc = some (.ifCond cd off, 3)) (ht : nh_tg pc off = some t) (hx : ce_ty x = 0)
    (r1 : ce_run call own nL false (ce_ck (ce_dt mn)) rt f1 (t, lo, st, hp1) 0 0 = some (rv, hpE, 0, 0)) (r2 : ce_run call own nL false (ce_ck (ce_dt mn)) rt f2 (pc + 3, lo, st, hp1) 0 0 = some (rv, hpE, 0, 0))
    (hcall : ∀ mn as hp r hp' c1 z1, call mn as hp = some (r, hp', c1, z1) → ∃ y, ce_m mn = some y ∧ ceMet y d as hp r hp' c1 z1) : ∃ y, ce_m mn = some y ∧ ceMet y (d + 1) as hp rv hpE 0 0 := by
  unfold ce_mC at hB
  split at hB
  · rename_i y hy
    obtain ⟨hmn, hC, hnL, hrt, how⟩ := of_decide_eq_true hB
    subst hnL hrt how
    refine ⟨y, hy, ?_⟩
    obtain ⟨n, hseg⟩ := hseg
    have hm := hy
    unfold ce_m at hm
    rw [if_pos hmn] at hm
    obtain ⟨m1, m2, m3, m4, m5, m6⟩ := nh_mt_ok hm
    intro l D ρ B H0
    refine Met.ofW (cc := y.2.1) (maxL := y.2.2.1) (ret := y.2.2.2.1) m6 rfl ?_
    intro p e s m args below meth c s₁ Bd hml hv
    obtain ⟨rfl, hH, hK, hNs⟩ := hv
    have hts := atoms_spec (ws := nhWs y) Bd.pre
    have hF : nhFx p c s m (as.map (ce_c ρ B)).toArray y.2.1 y.2.2.1 (ce_ow mn) D := ⟨Bd.exec, Bd.bytes, hml, ⟨_, hC, findClass_of_methodNamed Bd.named⟩, fun w hw => hts w (List.mem_cons_of_mem _ hw), hK⟩
    have hdt : ∀ (pc : Nat) (q : Instr × Nat), ce_dk (ce_ck (ce_dt mn)) pc = some q → decode y.2.1 pc = .ok q := fun _ _ hq => ce_dk_ok (ce_dt_ok hy) hq
    have hlv := lv_entry (as.map (ce_c ρ B)) (n := y.2.2.1) (by rw [ce_slen]; exact hsum)
    rw [lg_entry_eq]
    generalize (lg_sl (as.map (ce_c ρ B)) ++ List.replicate (y.2.2.1 - (lg_sl (as.map (ce_c ρ B))).length) Slot.unset).toArray = ls at hlv ⊢
    have k1 := ce_run_ok (l := l) (e := e) (below := below) (ρ := ρ) (B := B) (H0 := H0) hF hdt hNs (ini := false) (fun q => by cases q) Bd.returns Bd.notSynchronized hcall (R := ceRm (d + 1) 0 0) rfl f1 _ 0 0 r1
    have k2 := ce_run_ok (l := l) (e := e) (below := below) (ρ := ρ) (B := B) (H0 := H0) hF hdt hNs (ini := false) (fun q => by cases q) Bd.returns Bd.notSynchronized hcall (R := ceRm (d + 1) 0 0) rfl f2 _ 0 0 r2
    refine ce_seg_ok hF hdt hNs hcall rfl ?_ n _ hseg s.heap [] ls ⟨hlv.1, hlv.2.1, fun q hq => hlv.2.2 (q.1, ce_c ρ B q.2) (by rw [← ce_lo0_eq]; exact List.mem_map.mpr ⟨q, hq, rfl⟩), hH, (fun q hq => by cases hq)⟩
    intro H locs ls hR
    obtain ⟨a, ha⟩ := (ce_ty_ok ρ B (v := x)).1 hx
    show W p l e (ceRm (d + 1) 0 0) s m (as.map (ce_c ρ B)).toArray below meth c H locs 0 0 _ (F0 m pc ls (ce_c ρ B x :: st.map (ce_c ρ B)))
    rw [ha]
    exact nh_ifW hF.1 hF.2.1 (hdt _ _ hi) (nh_tg_ok ht) (fun _ => k1 H locs ls hR) (fun _ => k2 H locs ls hR)
  · cases hB
theorem lx_of2 {mx mm N : Nat} {xs : Nat → Int32} {B : Nat} {bx : List (Int × Int)} (h : ceTwo 14 mx mm cw3 (ce_bx 0 bx)) (hN : N ≤ 5) (h2 : bx.length = N) (h3 : ceIn (fun k => xs (k + 1)) 0 bx) (h4 : bx.all ce_bok = true) : ∃ as, ceTwo 14 mx mm cw3 as ∧ as.map (ce_c (fun k => xs (k + 1)) B) = lx_vals xs 1 (List.replicate N false) := by
  refine ⟨_, h, ?_⟩
  have hv := lx_v xs N 0 []
  rw [List.append_nil] at hv
  rw [ce_bx_ok (fun k => xs (k + 1)) B bx 0 (by omega) h3 h4, h2, ← hv]
  exact (List.append_nil _).symm
end
section
/-! the case post, the class -/
def pcH1 : ceHp := ce_set (cw3) 27 (0, 4, [(2, 28), (2, 29), (2, 30), (1, 0), (0, 35), (4, 2147483668), (0, 0), (0, 0)])
set_option maxRecDepth 1000000 in
theorem pc_0 : ce_seg (ce_ex2 ce_no 2000 13) 11 7 (ce_ck (ce_dt 115)) 16 (0, ce_lo0 0 [(2, 0), (4, 2147483668), (5, 2147483649)], [], cw3) = some (29, [(5, (0, 0)), (4, (0, -1)), (3, (0, -1)), (0, (2, 0)), (1, (4, 2147483668)), (2, (5, 2147483649))], [], cw3) := ce_isS_ok (by decide +kernel)
set_option maxRecDepth 1000000 in
theorem pc_1 : ce_seg (ce_ex2 ce_no 2000 13) 11 7 (ce_ck (ce_dt 115)) 1378 (29, [(5, (0, 0)), (4, (0, -1)), (3, (0, -1)), (0, (2, 0)), (1, (4, 2147483668)), (2, (5, 2147483649))], [], cw3) = some (126, [(5, (0, 36)), (6, (0, 0)), (3, (0, 0)), (4, (0, 0)), (0, (2, 0)), (1, (4, 2147483668)), (2, (5, 2147483649))], [(5, 2147483649)], pcH1) := ce_isS_ok (by decide +kernel)
set_option maxRecDepth 1000000 in
theorem pc_t : ce_run (ce_ex2 ce_no 2000 13) 11 7 false (ce_ck (ce_dt 115)) (some .int) 9 (133, [(5, (0, 36)), (6, (0, 0)), (3, (0, 0)), (4, (0, 0)), (0, (2, 0)), (1, (4, 2147483668)), (2, (5, 2147483649))], [], pcH1) 0 0 = some (some (0, 0), pcH1, 0, 0) := ce_isE_ok (by decide +kernel)
set_option maxRecDepth 1000000 in
theorem pc_f : ce_run (ce_ex2 ce_no 2000 13) 11 7 false (ce_ck (ce_dt 115)) (some .int) 9 (129, [(5, (0, 36)), (6, (0, 0)), (3, (0, 0)), (4, (0, 0)), (0, (2, 0)), (1, (4, 2147483668)), (2, (5, 2147483649))], [], pcH1) 0 0 = some (some (0, 0), pcH1, 0, 0) := ce_isE_ok (by decide +kernel)
theorem pc_m : ce_mC 115 7 11 (some .int) = true := by decide +kernel
theorem pc_i : ce_dk (ce_ck (ce_dt 115)) 126 = some (.ifCond .ne 7, 3) := by decide +kernel
theorem pc_ok : ∃ y, ce_m 115 = some y ∧ ceMet y 14 [(2, 0), (4, 2147483668), (5, 2147483649)] cw3 (some (0, 0)) pcH1 0 0 := ce_met_fork pc_m (Nat.le_of_ble_eq_true rfl) (ceRch.and (ceRch.of pc_0) pc_1) pc_i rfl rfl pc_t pc_f (ce_ex2_ok ce_no_ok 2000 13)
end
section
/-! the case post, the reference -/
def pmH1 : ceHp := ce_set (pcH1) 281 (0, 12, [(2, 282), (2, 283), (0, 0), (0, 0), (0, 0), (0, -1), (0, 0), (0, 0), (0, 0), (0, 0), (1, 0), (2, 284), (2, 285), (2, 286), (2, 287), (2, 288), (2, 289), (2, 290), (2, 291), (2, 292), (2, 293), (2, 294), (2, 295), (2, 296), (2, 297), (2, 298), (2, 299), (2, 300), (2, 301), (2, 302), (2, 303), (2, 304), (0, 0), (0, 0), (0, 0), (0, 0), (0, 0), (0, 0), (0, 0), (2, 305), (0, -1), (2, 306), (0, 2), (2, 307), (0, 0), (0, 0), (2, 308), (2, 309), (2, 310), (0, 0), (2, 311), (0, 0), (2, 312), (2, 313), (2, 314), (2, 315), (2, 316), (2, 317), (2, 318), (2, 319), (0, 0), (0, 0), (2, 320), (2, 321)])
set_option maxRecDepth 1000000 in
theorem pm_0 : ce_seg (ce_ex2 ce_no 2000 13) 12 7 (ce_ck (ce_dt 258)) 16 (0, ce_lo0 0 [(2, 281), (4, 2147483668), (5, 2147483649)], [], pcH1) = some (29, [(5, (0, 0)), (4, (0, -1)), (3, (0, -1)), (0, (2, 281)), (1, (4, 2147483668)), (2, (5, 2147483649))], [], pcH1) := ce_isS_ok (by decide +kernel)
set_option maxRecDepth 1000000 in
theorem pm_1 : ce_seg (ce_ex2 ce_no 2000 13) 12 7 (ce_ck (ce_dt 258)) 213 (29, [(5, (0, 0)), (4, (0, -1)), (3, (0, -1)), (0, (2, 281)), (1, (4, 2147483668)), (2, (5, 2147483649))], [], pcH1) = some (29, [(5, (0, 6)), (6, (0, 0)), (4, (0, 0)), (3, (0, 0)), (0, (2, 281)), (1, (4, 2147483668)), (2, (5, 2147483649))], [], pmH1) := ce_isS_ok (by decide +kernel)
set_option maxRecDepth 1000000 in
theorem pm_2 : ce_seg (ce_ex2 ce_no 2000 13) 12 7 (ce_ck (ce_dt 258)) 210 (29, [(5, (0, 6)), (6, (0, 0)), (4, (0, 0)), (3, (0, 0)), (0, (2, 281)), (1, (4, 2147483668)), (2, (5, 2147483649))], [], pmH1) = some (29, [(5, (0, 12)), (6, (0, 0)), (4, (0, 0)), (3, (0, 0)), (0, (2, 281)), (1, (4, 2147483668)), (2, (5, 2147483649))], [], pmH1) := ce_isS_ok (by decide +kernel)
set_option maxRecDepth 1000000 in
theorem pm_3 : ce_seg (ce_ex2 ce_no 2000 13) 12 7 (ce_ck (ce_dt 258)) 210 (29, [(5, (0, 12)), (6, (0, 0)), (4, (0, 0)), (3, (0, 0)), (0, (2, 281)), (1, (4, 2147483668)), (2, (5, 2147483649))], [], pmH1) = some (29, [(5, (0, 18)), (6, (0, 0)), (4, (0, 0)), (3, (0, 0)), (0, (2, 281)), (1, (4, 2147483668)), (2, (5, 2147483649))], [], pmH1) := ce_isS_ok (by decide +kernel)
end
section
/-! the case post, the reference, on -/
set_option maxRecDepth 1000000 in
theorem pm_4 : ce_seg (ce_ex2 ce_no 2000 13) 12 7 (ce_ck (ce_dt 258)) 210 (29, [(5, (0, 18)), (6, (0, 0)), (4, (0, 0)), (3, (0, 0)), (0, (2, 281)), (1, (4, 2147483668)), (2, (5, 2147483649))], [], pmH1) = some (29, [(5, (0, 24)), (6, (0, 0)), (4, (0, 0)), (3, (0, 0)), (0, (2, 281)), (1, (4, 2147483668)), (2, (5, 2147483649))], [], pmH1) := ce_isS_ok (by decide +kernel)
set_option maxRecDepth 1000000 in
theorem pm_5 : ce_seg (ce_ex2 ce_no 2000 13) 12 7 (ce_ck (ce_dt 258)) 210 (29, [(5, (0, 24)), (6, (0, 0)), (4, (0, 0)), (3, (0, 0)), (0, (2, 281)), (1, (4, 2147483668)), (2, (5, 2147483649))], [], pmH1) = some (29, [(5, (0, 30)), (6, (0, 0)), (4, (0, 0)), (3, (0, 0)), (0, (2, 281)), (1, (4, 2147483668)), (2, (5, 2147483649))], [], pmH1) := ce_isS_ok (by decide +kernel)
set_option maxRecDepth 1000000 in
theorem pm_6 : ce_seg (ce_ex2 ce_no 2000 13) 12 7 (ce_ck (ce_dt 258)) 210 (29, [(5, (0, 30)), (6, (0, 0)), (4, (0, 0)), (3, (0, 0)), (0, (2, 281)), (1, (4, 2147483668)), (2, (5, 2147483649))], [], pmH1) = some (29, [(5, (0, 36)), (6, (0, 0)), (4, (0, 0)), (3, (0, 0)), (0, (2, 281)), (1, (4, 2147483668)), (2, (5, 2147483649))], [], pmH1) := ce_isS_ok (by decide +kernel)
set_option maxRecDepth 1000000 in
theorem pm_7 : ce_seg (ce_ex2 ce_no 2000 13) 12 7 (ce_ck (ce_dt 258)) 5 (29, [(5, (0, 36)), (6, (0, 0)), (4, (0, 0)), (3, (0, 0)), (0, (2, 281)), (1, (4, 2147483668)), (2, (5, 2147483649))], [], pmH1) = some (111, [(5, (0, 36)), (6, (0, 0)), (4, (0, 0)), (3, (0, 0)), (0, (2, 281)), (1, (4, 2147483668)), (2, (5, 2147483649))], [(5, 2147483649)], pmH1) := ce_isS_ok (by decide +kernel)
set_option maxRecDepth 1000000 in
theorem pm_t : ce_run (ce_ex2 ce_no 2000 13) 12 7 false (ce_ck (ce_dt 258)) (some .int) 9 (118, [(5, (0, 36)), (6, (0, 0)), (4, (0, 0)), (3, (0, 0)), (0, (2, 281)), (1, (4, 2147483668)), (2, (5, 2147483649))], [], pmH1) 0 0 = some (some (0, 0), pmH1, 0, 0) := ce_isE_ok (by decide +kernel)
set_option maxRecDepth 1000000 in
theorem pm_f : ce_run (ce_ex2 ce_no 2000 13) 12 7 false (ce_ck (ce_dt 258)) (some .int) 9 (114, [(5, (0, 36)), (6, (0, 0)), (4, (0, 0)), (3, (0, 0)), (0, (2, 281)), (1, (4, 2147483668)), (2, (5, 2147483649))], [], pmH1) 0 0 = some (some (0, 0), pmH1, 0, 0) := ce_isE_ok (by decide +kernel)
theorem pm_m : ce_mC 258 7 12 (some .int) = true := by decide +kernel
theorem pm_i : ce_dk (ce_ck (ce_dt 258)) 111 = some (.ifCond .ne 7, 3) := by decide +kernel
theorem pm_ok : ∃ y, ce_m 258 = some y ∧ ceMet y 14 [(2, 281), (4, 2147483668), (5, 2147483649)] pcH1 (some (0, 0)) pmH1 0 0 := ce_met_fork pm_m (Nat.le_of_ble_eq_true rfl) (ceRch.and (ceRch.and (ceRch.and (ceRch.and (ceRch.and (ceRch.and (ceRch.and (ceRch.of pm_0) pm_1) pm_2) pm_3) pm_4) pm_5) pm_6) pm_7) pm_i rfl rfl pm_t pm_f (ce_ex2_ok ce_no_ok 2000 13)
set_option maxRecDepth 1000000 in
theorem pp_rcv : ce_rcv pcH1 281 12 = true := by decide +kernel
theorem pp_two : ceTwo 14 115 258 cw3 (ce_bx 0 [(0, 20), (0, 1)]) := by
  obtain ⟨yx, a1, a2⟩ := pc_ok
  obtain ⟨ym, b1, b2⟩ := pm_ok
  exact ⟨yx, ym, (0, 0), _, _, a1, b1, a2, b2, rfl, pp_rcv⟩
end
section
/-! the case post, the refused -/
set_option maxRecDepth 1000000 in
theorem ct_18_2 : ce_tk (ce_two2 ce_no 2000 14 115 258 cw3) 3 [(9, 0)] [(-2147483648, -1), (-2147483648, 2147483647)] = true := by decide +kernel
set_option maxRecDepth 1000000 in
theorem ct_18_3 : ce_tk (ce_two2 ce_no 2000 14 115 258 cw3) 3 [(9, 0)] [(21, 2147483647), (-2147483648, 2147483647)] = true := by decide +kernel
set_option maxRecDepth 1000000 in
theorem ct_18_4 : ce_tk (ce_two2 ce_no 2000 14 115 258 cw3) 3 [(9, 0)] [(0, 20), (-2147483648, -1)] = true := by decide +kernel
set_option maxRecDepth 1000000 in
theorem ct_18_5 : ce_tk (ce_two2 ce_no 2000 14 115 258 cw3) 3 [(9, 0)] [(0, 20), (2, 2147483647)] = true := by decide +kernel
end
section
/-! calls that many cases make, walked once -/
def cxS : ceHp := ce_set (ce_set (ce_set (cw3) 198 (0, 10, ce_Rs [199, 200, 201] ++ ce_Is [36])) 199 (1, 0, ce_Is [0, 1, 2, 3, 4, 5, 1, 2, 3, 4, 5, 6, 2, 3, 4, 5, 6, 7, 3, 4, 5, 6, 7, 8, 4, 5, 6, 7, 8, 9, 5, 6, 7, 8, 9, 10])) 200 (1, 0, ce_Is [0, 1, 6, 2, 7, 12, 3, 8, 13, 18, 4, 9, 14, 19, 24, 5, 10, 15, 20, 25, 30, 11, 16, 21, 26, 31, 17, 22, 27, 32, 23, 28, 33, 29, 34, 35])
def cxL : ceHp := ce_set (cxS) 311 (1, 0, ce_Is [0, 1, 2, 3, 4, 5, 1, 2, 3, 4, 5, 6, 2, 3, 4, 5, 6, 7, 3, 4, 5, 6, 7, 8, 4, 5, 6, 7, 8, 9, 5, 6, 7, 8, 9, 10])
set_option maxRecDepth 1000000 in
theorem cxS_ok : ce_exec 11657 13 128 [(2, 198), (2, 2), (1, 0), (0, 0)] cw3 = some (none, cxS, 0, 0) := ce_isE_ok (by decide +kernel)
end
section
/-! a walk in pieces to a plain return; pc counted out at each step -/
def ce_sgF (call : Nat → List ceV → ceHp → Option ceO) (own nL : Nat) (dt : List nhDt) : Nat → ceS → Option ceS
  | 0, S => some S
  | f + 1, S => ce_fN S.1 (fun pc => match ce_stp call own nL dt (pc, S.2) with
    | some S' => ce_sgF call own nL dt f S'
    | none => none)
theorem ce_sgF_eq {call : Nat → List ceV → ceHp → Option ceO} {own nL : Nat} {dt : List nhDt} : ∀ (f : Nat) (S : ceS), ce_sgF call own nL dt f S = ce_seg call own nL dt f S
  | 0, _ => rfl
  | f + 1, S => by
    rw [ce_sgF, ce_fN_eq, ce_seg]
    show (match ce_stp call own nL dt S with
      | some S' => ce_sgF call own nL dt f S'
      | none => none) = _
    cases ce_stp call own nL dt S with
    | none => rfl
    | some S' => exact ce_sgF_eq f S'
theorem ce_isF_ok {call : Nat → List ceV → ceHp → Option ceO} {own nL : Nat} {dt : List nhDt} {f : Nat} {S S' : ceS} (h : ce_isS (ce_sgF call own nL dt f S) S' = true) : ce_seg call own nL dt f S = some S' := by
  rw [← ce_sgF_eq]
  exact ce_isS_ok h
theorem ce_met_seg {mn nL own d f1 : Nat} {rt : Option FieldType} {as : List ceV} {S : ceS} {hp hpE : ceHp} {rv : Option ceV} {call : Nat → List ceV → ceHp → Option ceO} (hB : ce_mC mn nL own rt = true) (hsum : ce_sum as ≤ nL)
    (hseg : ceRch call own nL (ce_ck (ce_dt mn)) (0, ce_lo0 0 as, [], hp) S) (r1 : ce_run call own nL false (ce_ck (ce_dt mn)) rt f1 S 0 0 = some (rv, hpE, 0, 0))
    (hcall : ∀ mn as hp r hp' c1 z1, call mn as hp = some (r, hp', c1, z1) → ∃ y, ce_m mn = some y ∧ ceMet y d as hp r hp' c1 z1) : ∃ y, ce_m mn = some y ∧ ceMet y (d + 1) as hp rv hpE 0 0 := by
  unfold ce_mC at hB
  split at hB
  · rename_i y hy
    obtain ⟨hmn, hC, hnL, hrt, how⟩ := of_decide_eq_true hB
    subst hnL hrt how
    refine ⟨y, hy, ?_⟩
    obtain ⟨n, hseg⟩ := hseg
    have hm := hy
    unfold ce_m at hm
    rw [if_pos hmn] at hm
    obtain ⟨m1, m2, m3, m4, m5, m6⟩ := nh_mt_ok hm
    intro l D ρ B H0
    refine Met.ofW (cc := y.2.1) (maxL := y.2.2.1) (ret := y.2.2.2.1) m6 rfl ?_
    intro p e s m args below meth c s₁ Bd hml hv
    obtain ⟨rfl, hH, hK, hNs⟩ := hv
    have hts := atoms_spec (ws := nhWs y) Bd.pre
    have hF : nhFx p c s m (as.map (ce_c ρ B)).toArray y.2.1 y.2.2.1 (ce_ow mn) D := ⟨Bd.exec, Bd.bytes, hml, ⟨_, hC, findClass_of_methodNamed Bd.named⟩, fun w hw => hts w (List.mem_cons_of_mem _ hw), hK⟩
    have hdt : ∀ (pc : Nat) (q : Instr × Nat), ce_dk (ce_ck (ce_dt mn)) pc = some q → decode y.2.1 pc = .ok q := fun _ _ hq => ce_dk_ok (ce_dt_ok hy) hq
    have hlv := lv_entry (as.map (ce_c ρ B)) (n := y.2.2.1) (by rw [ce_slen]; exact hsum)
    rw [lg_entry_eq]
    generalize (lg_sl (as.map (ce_c ρ B)) ++ List.replicate (y.2.2.1 - (lg_sl (as.map (ce_c ρ B))).length) Slot.unset).toArray = ls at hlv ⊢
    have k1 := ce_run_ok (l := l) (e := e) (below := below) (ρ := ρ) (B := B) (H0 := H0) hF hdt hNs (ini := false) (fun q => by cases q) Bd.returns Bd.notSynchronized hcall (R := ceRm (d + 1) 0 0) rfl f1 _ 0 0 r1
    exact ce_seg_ok hF hdt hNs hcall rfl k1 n _ hseg s.heap [] ls ⟨hlv.1, hlv.2.1, fun q hq => hlv.2.2 (q.1, ce_c ρ B q.2) (by rw [← ce_lo0_eq]; exact List.mem_map.mpr ⟨q, hq, rfl⟩), hH, (fun q hq => by cases hq)⟩
  · cases hB
end
section
/-! the distances of the reference, in pieces -/
set_option maxRecDepth 1000000 in
theorem lf_0 : ce_seg (ce_exec 2000 12) 12 5 (ce_ck (ce_dt 261)) 476 (0, ce_lo0 0 [(2, 281), (0, 0)], [], cxS) = some (34, [(2, (0, 0)), (0, (2, 281)), (1, (0, 0))], [], ce_set cxS 311 (1, 0, ce_Is [0, 1000, 1000, 1000, 1000, 1000, 1000, 1000, 1000, 1000, 1000, 1000, 1000, 1000, 1000, 1000, 1000, 1000, 1000, 1000, 1000, 1000, 1000, 1000, 1000, 1000, 1000, 1000, 1000, 1000, 1000, 1000, 1000, 1000, 1000, 1000])) := ce_isF_ok (by decide +kernel)
set_option maxRecDepth 1000000 in
theorem lf_1 : ce_seg (ce_exec 2000 12) 12 5 (ce_ck (ce_dt 261)) 5548 (34, [(2, (0, 0)), (0, (2, 281)), (1, (0, 0))], [], ce_set cxS 311 (1, 0, ce_Is [0, 1000, 1000, 1000, 1000, 1000, 1000, 1000, 1000, 1000, 1000, 1000, 1000, 1000, 1000, 1000, 1000, 1000, 1000, 1000, 1000, 1000, 1000, 1000, 1000, 1000, 1000, 1000, 1000, 1000, 1000, 1000, 1000, 1000, 1000, 1000])) = some (34, [(2, (0, 6)), (3, (0, 36)), (4, (0, 1)), (0, (2, 281)), (1, (0, 0))], [], ce_set cxS 311 (1, 0, ce_Is [0, 1, 2, 3, 4, 5, 1, 2, 3, 4, 5, 6, 2, 3, 4, 5, 6, 1000, 3, 4, 5, 6, 1000, 1000, 4, 5, 6, 1000, 1000, 1000, 5, 6, 1000, 1000, 1000, 1000])) := ce_isF_ok (by decide +kernel)
set_option maxRecDepth 1000000 in
theorem lf_2 : ce_seg (ce_exec 2000 12) 12 5 (ce_ck (ce_dt 261)) 4954 (34, [(2, (0, 6)), (3, (0, 36)), (4, (0, 1)), (0, (2, 281)), (1, (0, 0))], [], ce_set cxS 311 (1, 0, ce_Is [0, 1, 2, 3, 4, 5, 1, 2, 3, 4, 5, 6, 2, 3, 4, 5, 6, 1000, 3, 4, 5, 6, 1000, 1000, 4, 5, 6, 1000, 1000, 1000, 5, 6, 1000, 1000, 1000, 1000])) = some (34, [(2, (0, 12)), (3, (0, 36)), (4, (0, 1)), (0, (2, 281)), (1, (0, 0))], [], cxL) := ce_isF_ok (by decide +kernel)
set_option maxRecDepth 1000000 in
theorem lf_3 : ce_seg (ce_exec 2000 12) 12 5 (ce_ck (ce_dt 261)) 3744 (34, [(2, (0, 12)), (3, (0, 36)), (4, (0, 1)), (0, (2, 281)), (1, (0, 0))], [], cxL) = some (34, [(2, (0, 18)), (3, (0, 36)), (4, (0, 1)), (0, (2, 281)), (1, (0, 0))], [], cxL) := ce_isF_ok (by decide +kernel)
set_option maxRecDepth 1000000 in
theorem lf_4 : ce_seg (ce_exec 2000 12) 12 5 (ce_ck (ce_dt 261)) 3744 (34, [(2, (0, 18)), (3, (0, 36)), (4, (0, 1)), (0, (2, 281)), (1, (0, 0))], [], cxL) = some (34, [(2, (0, 24)), (3, (0, 36)), (4, (0, 1)), (0, (2, 281)), (1, (0, 0))], [], cxL) := ce_isF_ok (by decide +kernel)
set_option maxRecDepth 1000000 in
theorem lf_5 : ce_seg (ce_exec 2000 12) 12 5 (ce_ck (ce_dt 261)) 3744 (34, [(2, (0, 24)), (3, (0, 36)), (4, (0, 1)), (0, (2, 281)), (1, (0, 0))], [], cxL) = some (34, [(2, (0, 30)), (3, (0, 36)), (4, (0, 1)), (0, (2, 281)), (1, (0, 0))], [], cxL) := ce_isF_ok (by decide +kernel)
set_option maxRecDepth 1000000 in
theorem lf_6 : ce_seg (ce_exec 2000 12) 12 5 (ce_ck (ce_dt 261)) 3748 (34, [(2, (0, 30)), (3, (0, 36)), (4, (0, 1)), (0, (2, 281)), (1, (0, 0))], [], cxL) = some (122, [(2, (0, 36)), (3, (0, 36)), (4, (0, 1)), (0, (2, 281)), (1, (0, 0))], [], cxL) := ce_isF_ok (by decide +kernel)
set_option maxRecDepth 1000000 in
theorem lf_r : ce_run (ce_exec 2000 12) 12 5 false (ce_ck (ce_dt 261)) none 3 (122, [(2, (0, 36)), (3, (0, 36)), (4, (0, 1)), (0, (2, 281)), (1, (0, 0))], [], cxL) 0 0 = some (none, cxL, 0, 0) := ce_isE_ok (by decide +kernel)
theorem lf_m : ce_mC 261 5 12 none = true := by decide +kernel
theorem lf_ok : ∃ y, ce_m 261 = some y ∧ ceMet y 13 [(2, 281), (0, 0)] cxS none cxL 0 0 := ce_met_seg lf_m (Nat.le_of_ble_eq_true rfl) (ceRch.and (ceRch.and (ceRch.and (ceRch.and (ceRch.and (ceRch.and (ceRch.of lf_0) lf_1) lf_2) lf_3) lf_4) lf_5) lf_6) lf_r (ce_exec_ok 2000 12)
end
section
/-! way, fetch, realm -/
def ce_mem : Nat → Nat → List ceV → ceHp → Option ceO := fun d mn as hp => if Nat.beq d 12 = true then (if Nat.beq mn 128 = true then (if (ce_eqL ce_eqV as [(2, 198), (2, 2), (1, 0), (0, 0)] && ce_eqH hp cw3) = true then some (none, cxS, 0, 0) else none) else if Nat.beq mn 261 = true then (if (ce_eqL ce_eqV as [(2, 281), (0, 0)] && ce_eqH hp cxS) = true then some (none, cxL, 0, 0) else none) else none) else none
theorem ce_mem_ok : ceMo1 ce_mem := fun d mn as hp r hp' c1 z1 h => by
  unfold ce_mem at h
  split at h
  · rename_i e1
    have e1 := Nat.eq_of_beq_eq_true e1
    subst e1
    split at h
    · rename_i e2
      have e2 := Nat.eq_of_beq_eq_true e2
      subst e2
      split at h
      · rename_i e3
        rw [Bool.and_eq_true] at e3
        have e4 := ce_eqL_ok ce_eqV_ok _ _ e3.1
        have e5 := ce_eqH_ok _ _ e3.2
        rw [e4, e5]
        cases h
        exact ce_exec_ok _ _ _ _ _ _ _ _ _ cxS_ok
      · cases h
    · split at h
      · rename_i e2
        have e2 := Nat.eq_of_beq_eq_true e2
        subst e2
        split at h
        · rename_i e3
          rw [Bool.and_eq_true] at e3
          have e4 := ce_eqL_ok ce_eqV_ok _ _ e3.1
          have e5 := ce_eqH_ok _ _ e3.2
          rw [e4, e5]
          cases h
          exact lf_ok
        · cases h
      · cases h
  · cases h
set_option maxRecDepth 1000000 in
theorem ct_19 : ce_tk (ce_two2 ce_mem 3000 14 127 260 cw3) 77 [(0, 0), (9, 0), (0, 36), (0, 18), (0, 9), (0, 4), (0, 2), (0, 1), (9, 0), (9, 0), (0, 3), (9, 0), (9, 0), (0, 6), (0, 5), (9, 0), (9, 0), (0, 7), (9, 0), (0, 8), (9, 0), (9, 0), (0, 13), (0, 11), (0, 10), (9, 0), (9, 0), (0, 12), (9, 0), (9, 0), (0, 15), (0, 14), (9, 0), (9, 0), (0, 16), (9, 0), (0, 17), (9, 0), (9, 0), (0, 27), (0, 22), (0, 20), (0, 19), (9, 0), (9, 0), (0, 21), (9, 0), (9, 0), (0, 24), (0, 23), (9, 0), (9, 0), (0, 25), (9, 0), (0, 26), (9, 0), (9, 0), (0, 31), (0, 29), (0, 28), (9, 0), (9, 0), (0, 30), (9, 0), (9, 0), (0, 33), (0, 32), (9, 0), (9, 0), (0, 34), (9, 0), (0, 35), (9, 0), (9, 0), (9, 0)] [(-2147483648, 2147483647)] = true := by decide +kernel
set_option maxRecDepth 1000000 in
theorem ct_21 : ce_tk (ce_two2 ce_mem 3000 14 132 263 cw3) 3 [(9, 0)] [] = true := by decide +kernel
set_option maxRecDepth 1000000 in
theorem ct_36 : ce_tk (ce_two2 ce_mem 3000 14 131 262 cw3) 3 [(9, 0)] [] = true := by decide +kernel
end
