section
-- ===== PART A: goes FIRST, ahead of the names: the tables' words, and 'selects' of the private methods out of them =====
/-- a private method of a class that the tables say can be made, by its rows of tables_1 -/
def lw_okq (q : MethodName × Nat) : Prop := (q.1.cls ≠ "java/lang/invoke/MethodHandle" ∧ q.1.cls ≠ "java/lang/invoke/VarHandle") ∧ Cond.instantiable q.1.cls q.2 ∈ tables_1 ∧ Cond.privateMethod q.1 ∈ tables_1 ∧ Cond.instanceMethod q.1 ∈ tables_1
theorem lw_p0 : lw_okq (⟨"LightPlate$Plate", "warmth", "([II)I"⟩, 9) := ⟨⟨by decide +kernel, by decide +kernel⟩, List.mem_of_getElem? (i := 45) (by decide +kernel), List.mem_of_getElem? (i := 454) (by decide +kernel), List.mem_of_getElem? (i := 455) (by decide +kernel)⟩
theorem lw_p1 : lw_okq (⟨"LightPlate", "isLane", "(I)Z"⟩, 10) := ⟨⟨by decide +kernel, by decide +kernel⟩, List.mem_of_getElem? (i := 17) (by decide +kernel), List.mem_of_getElem? (i := 464) (by decide +kernel), List.mem_of_getElem? (i := 465) (by decide +kernel)⟩
theorem lw_p2 : lw_okq (⟨"LightPlate$Told", "product", "([I[I)I"⟩, 8) := ⟨⟨by decide +kernel, by decide +kernel⟩, List.mem_of_getElem? (i := 97) (by decide +kernel), List.mem_of_getElem? (i := 504) (by decide +kernel), List.mem_of_getElem? (i := 505) (by decide +kernel)⟩
theorem lw_p3 : lw_okq (⟨"LightPlate$Told", "addStep", "(II)V"⟩, 8) := ⟨⟨by decide +kernel, by decide +kernel⟩, List.mem_of_getElem? (i := 97) (by decide +kernel), List.mem_of_getElem? (i := 523) (by decide +kernel), List.mem_of_getElem? (i := 524) (by decide +kernel)⟩
theorem lw_p4 : lw_okq (⟨"LightPlate$Layout", "prepare", "()V"⟩, 6) := ⟨⟨by decide +kernel, by decide +kernel⟩, List.mem_of_getElem? (i := 158) (by decide +kernel), List.mem_of_getElem? (i := 568) (by decide +kernel), List.mem_of_getElem? (i := 569) (by decide +kernel)⟩
theorem lw_p5 : lw_okq (⟨"LightPlate$Layout", "fewestFrom", "(II)I"⟩, 6) := ⟨⟨by decide +kernel, by decide +kernel⟩, List.mem_of_getElem? (i := 158) (by decide +kernel), List.mem_of_getElem? (i := 581) (by decide +kernel), List.mem_of_getElem? (i := 582) (by decide +kernel)⟩
theorem lw_p6 : lw_okq (⟨"LightPlate$Layout", "choicesAt", "(II)I"⟩, 6) := ⟨⟨by decide +kernel, by decide +kernel⟩, List.mem_of_getElem? (i := 158) (by decide +kernel), List.mem_of_getElem? (i := 585) (by decide +kernel), List.mem_of_getElem? (i := 586) (by decide +kernel)⟩
theorem lw_p7 : lw_okq (⟨"LightPlate$Layout", "readyWork", "(II)I"⟩, 6) := ⟨⟨by decide +kernel, by decide +kernel⟩, List.mem_of_getElem? (i := 158) (by decide +kernel), List.mem_of_getElem? (i := 590) (by decide +kernel), List.mem_of_getElem? (i := 591) (by decide +kernel)⟩
theorem lw_p8 : lw_okq (⟨"LightPlate$Layout", "putSettings", "(I)V"⟩, 6) := ⟨⟨by decide +kernel, by decide +kernel⟩, List.mem_of_getElem? (i := 158) (by decide +kernel), List.mem_of_getElem? (i := 595) (by decide +kernel), List.mem_of_getElem? (i := 596) (by decide +kernel)⟩
theorem lw_p9 : lw_okq (⟨"LightPlate$Layout", "greatestSet", "(III)I"⟩, 6) := ⟨⟨by decide +kernel, by decide +kernel⟩, List.mem_of_getElem? (i := 158) (by decide +kernel), List.mem_of_getElem? (i := 600) (by decide +kernel), List.mem_of_getElem? (i := 601) (by decide +kernel)⟩
theorem lw_p10 : lw_okq (⟨"LightPlate$Layout", "putLayer", "(II)V"⟩, 6) := ⟨⟨by decide +kernel, by decide +kernel⟩, List.mem_of_getElem? (i := 158) (by decide +kernel), List.mem_of_getElem? (i := 604) (by decide +kernel), List.mem_of_getElem? (i := 605) (by decide +kernel)⟩
theorem lw_p11 : lw_okq (⟨"LightPlate$Reader", "readStatements", "()Z"⟩, 11) := ⟨⟨by decide +kernel, by decide +kernel⟩, List.mem_of_getElem? (i := 184) (by decide +kernel), List.mem_of_getElem? (i := 626) (by decide +kernel), List.mem_of_getElem? (i := 627) (by decide +kernel)⟩
theorem lw_p12 : lw_okq (⟨"LightPlate$Reader", "readStatement", "()Z"⟩, 11) := ⟨⟨by decide +kernel, by decide +kernel⟩, List.mem_of_getElem? (i := 184) (by decide +kernel), List.mem_of_getElem? (i := 630) (by decide +kernel), List.mem_of_getElem? (i := 631) (by decide +kernel)⟩
theorem lw_p13 : lw_okq (⟨"LightPlate$Reader", "peek", "()I"⟩, 11) := ⟨⟨by decide +kernel, by decide +kernel⟩, List.mem_of_getElem? (i := 184) (by decide +kernel), List.mem_of_getElem? (i := 634) (by decide +kernel), List.mem_of_getElem? (i := 635) (by decide +kernel)⟩
theorem lw_p14 : lw_okq (⟨"LightPlate$Reader", "readTurn", "(I)Z"⟩, 11) := ⟨⟨by decide +kernel, by decide +kernel⟩, List.mem_of_getElem? (i := 184) (by decide +kernel), List.mem_of_getElem? (i := 638) (by decide +kernel), List.mem_of_getElem? (i := 639) (by decide +kernel)⟩
theorem lw_p15 : lw_okq (⟨"LightPlate$Reader", "readNumber", "(I)I"⟩, 11) := ⟨⟨by decide +kernel, by decide +kernel⟩, List.mem_of_getElem? (i := 184) (by decide +kernel), List.mem_of_getElem? (i := 642) (by decide +kernel), List.mem_of_getElem? (i := 643) (by decide +kernel)⟩
def lw_privs_1 : List (MethodName × Nat) := [(⟨"LightPlate$Plate", "warmth", "([II)I"⟩, 9), (⟨"LightPlate", "isLane", "(I)Z"⟩, 10), (⟨"LightPlate$Told", "product", "([I[I)I"⟩, 8), (⟨"LightPlate$Told", "addStep", "(II)V"⟩, 8), (⟨"LightPlate$Layout", "prepare", "()V"⟩, 6), (⟨"LightPlate$Layout", "fewestFrom", "(II)I"⟩, 6), (⟨"LightPlate$Layout", "choicesAt", "(II)I"⟩, 6), (⟨"LightPlate$Layout", "readyWork", "(II)I"⟩, 6), (⟨"LightPlate$Layout", "putSettings", "(I)V"⟩, 6), (⟨"LightPlate$Layout", "greatestSet", "(III)I"⟩, 6), (⟨"LightPlate$Layout", "putLayer", "(II)V"⟩, 6), (⟨"LightPlate$Reader", "readStatements", "()Z"⟩, 11), (⟨"LightPlate$Reader", "readStatement", "()Z"⟩, 11), (⟨"LightPlate$Reader", "peek", "()I"⟩, 11), (⟨"LightPlate$Reader", "readTurn", "(I)Z"⟩, 11), (⟨"LightPlate$Reader", "readNumber", "(I)I"⟩, 11)]
theorem lw_r1 : ∀ q ∈ lw_privs_1, lw_okq q := List.forall_mem_cons.mpr ⟨lw_p0, List.forall_mem_cons.mpr ⟨lw_p1, List.forall_mem_cons.mpr ⟨lw_p2, List.forall_mem_cons.mpr ⟨lw_p3, List.forall_mem_cons.mpr ⟨lw_p4, List.forall_mem_cons.mpr ⟨lw_p5, List.forall_mem_cons.mpr ⟨lw_p6, List.forall_mem_cons.mpr ⟨lw_p7, List.forall_mem_cons.mpr ⟨lw_p8, List.forall_mem_cons.mpr ⟨lw_p9, List.forall_mem_cons.mpr ⟨lw_p10, List.forall_mem_cons.mpr ⟨lw_p11, List.forall_mem_cons.mpr ⟨lw_p12, List.forall_mem_cons.mpr ⟨lw_p13, List.forall_mem_cons.mpr ⟨lw_p14, List.forall_mem_cons.mpr ⟨lw_p15, fun _ h => absurd h List.not_mem_nil⟩⟩⟩⟩⟩⟩⟩⟩⟩⟩⟩⟩⟩⟩⟩⟩
theorem lw_p16 : lw_okq (⟨"LightPlate$Reader", "takes", "(I)Z"⟩, 11) := ⟨⟨by decide +kernel, by decide +kernel⟩, List.mem_of_getElem? (i := 184) (by decide +kernel), List.mem_of_getElem? (i := 646) (by decide +kernel), List.mem_of_getElem? (i := 647) (by decide +kernel)⟩
theorem lw_p17 : lw_okq (⟨"LightPlate$Reader", "digitUpTo", "(I)I"⟩, 11) := ⟨⟨by decide +kernel, by decide +kernel⟩, List.mem_of_getElem? (i := 184) (by decide +kernel), List.mem_of_getElem? (i := 650) (by decide +kernel), List.mem_of_getElem? (i := 651) (by decide +kernel)⟩
theorem lw_p18 : lw_okq (⟨"LightPlate$Reader", "openBracket", "(I)Z"⟩, 11) := ⟨⟨by decide +kernel, by decide +kernel⟩, List.mem_of_getElem? (i := 184) (by decide +kernel), List.mem_of_getElem? (i := 658) (by decide +kernel), List.mem_of_getElem? (i := 659) (by decide +kernel)⟩
theorem lw_p19 : lw_okq (⟨"LightPlate$Reader", "readName", "(I)Z"⟩, 11) := ⟨⟨by decide +kernel, by decide +kernel⟩, List.mem_of_getElem? (i := 184) (by decide +kernel), List.mem_of_getElem? (i := 662) (by decide +kernel), List.mem_of_getElem? (i := 663) (by decide +kernel)⟩
theorem lw_p20 : lw_okq (⟨"LightPlate$Reader", "closeBracket", "()V"⟩, 11) := ⟨⟨by decide +kernel, by decide +kernel⟩, List.mem_of_getElem? (i := 184) (by decide +kernel), List.mem_of_getElem? (i := 675) (by decide +kernel), List.mem_of_getElem? (i := 676) (by decide +kernel)⟩
theorem lw_p21 : lw_okq (⟨"LightPlate$Probing", "addCell", "(I)V"⟩, 15) := ⟨⟨by decide +kernel, by decide +kernel⟩, List.mem_of_getElem? (i := 297) (by decide +kernel), List.mem_of_getElem? (i := 765) (by decide +kernel), List.mem_of_getElem? (i := 766) (by decide +kernel)⟩
theorem lw_p22 : lw_okq (⟨"LightPlate$Probing", "traceFrom", "(I)V"⟩, 15) := ⟨⟨by decide +kernel, by decide +kernel⟩, List.mem_of_getElem? (i := 297) (by decide +kernel), List.mem_of_getElem? (i := 778) (by decide +kernel), List.mem_of_getElem? (i := 779) (by decide +kernel)⟩
theorem lw_p23 : lw_okq (⟨"LightPlate$Probing", "fillKnownTurns", "(I)V"⟩, 15) := ⟨⟨by decide +kernel, by decide +kernel⟩, List.mem_of_getElem? (i := 297) (by decide +kernel), List.mem_of_getElem? (i := 785) (by decide +kernel), List.mem_of_getElem? (i := 786) (by decide +kernel)⟩
theorem lw_p24 : lw_okq (⟨"LightPlate$Probing", "outcome", "(I)[I"⟩, 15) := ⟨⟨by decide +kernel, by decide +kernel⟩, List.mem_of_getElem? (i := 297) (by decide +kernel), List.mem_of_getElem? (i := 790) (by decide +kernel), List.mem_of_getElem? (i := 791) (by decide +kernel)⟩
theorem lw_p25 : lw_okq (⟨"LightPlate$Probing", "countGroups", "()V"⟩, 15) := ⟨⟨by decide +kernel, by decide +kernel⟩, List.mem_of_getElem? (i := 297) (by decide +kernel), List.mem_of_getElem? (i := 811) (by decide +kernel), List.mem_of_getElem? (i := 812) (by decide +kernel)⟩
theorem lw_p26 : lw_okq (⟨"LightPlate$Plate", "isInUse", "(I)Z"⟩, 9) := ⟨⟨by decide +kernel, by decide +kernel⟩, List.mem_of_getElem? (i := 45) (by decide +kernel), List.mem_of_getElem? (i := 842) (by decide +kernel), List.mem_of_getElem? (i := 843) (by decide +kernel)⟩
theorem lw_p27 : lw_okq (⟨"LightPlateModel", "isCell", "(II)Z"⟩, 52) := ⟨⟨by decide +kernel, by decide +kernel⟩, List.mem_of_getElem? (i := 849) (by decide +kernel), List.mem_of_getElem? (i := 1026) (by decide +kernel), List.mem_of_getElem? (i := 1027) (by decide +kernel)⟩
theorem lw_p28 : lw_okq (⟨"LightPlateModel", "asNow", "()V"⟩, 52) := ⟨⟨by decide +kernel, by decide +kernel⟩, List.mem_of_getElem? (i := 849) (by decide +kernel), List.mem_of_getElem? (i := 1047) (by decide +kernel), List.mem_of_getElem? (i := 1048) (by decide +kernel)⟩
theorem lw_p29 : lw_okq (⟨"LightPlateModel", "heat", "(II)I"⟩, 52) := ⟨⟨by decide +kernel, by decide +kernel⟩, List.mem_of_getElem? (i := 849) (by decide +kernel), List.mem_of_getElem? (i := 1051) (by decide +kernel), List.mem_of_getElem? (i := 1052) (by decide +kernel)⟩
theorem lw_p30 : lw_okq (⟨"LightPlateModel", "turnOf", "(I)I"⟩, 52) := ⟨⟨by decide +kernel, by decide +kernel⟩, List.mem_of_getElem? (i := 849) (by decide +kernel), List.mem_of_getElem? (i := 1055) (by decide +kernel), List.mem_of_getElem? (i := 1056) (by decide +kernel)⟩
theorem lw_p31 : lw_okq (⟨"LightPlateModel", "trueTurn", "(II)I"⟩, 52) := ⟨⟨by decide +kernel, by decide +kernel⟩, List.mem_of_getElem? (i := 849) (by decide +kernel), List.mem_of_getElem? (i := 1059) (by decide +kernel), List.mem_of_getElem? (i := 1060) (by decide +kernel)⟩
def lw_privs_2 : List (MethodName × Nat) := [(⟨"LightPlate$Reader", "takes", "(I)Z"⟩, 11), (⟨"LightPlate$Reader", "digitUpTo", "(I)I"⟩, 11), (⟨"LightPlate$Reader", "openBracket", "(I)Z"⟩, 11), (⟨"LightPlate$Reader", "readName", "(I)Z"⟩, 11), (⟨"LightPlate$Reader", "closeBracket", "()V"⟩, 11), (⟨"LightPlate$Probing", "addCell", "(I)V"⟩, 15), (⟨"LightPlate$Probing", "traceFrom", "(I)V"⟩, 15), (⟨"LightPlate$Probing", "fillKnownTurns", "(I)V"⟩, 15), (⟨"LightPlate$Probing", "outcome", "(I)[I"⟩, 15), (⟨"LightPlate$Probing", "countGroups", "()V"⟩, 15), (⟨"LightPlate$Plate", "isInUse", "(I)Z"⟩, 9), (⟨"LightPlateModel", "isCell", "(II)Z"⟩, 52), (⟨"LightPlateModel", "asNow", "()V"⟩, 52), (⟨"LightPlateModel", "heat", "(II)I"⟩, 52), (⟨"LightPlateModel", "turnOf", "(I)I"⟩, 52), (⟨"LightPlateModel", "trueTurn", "(II)I"⟩, 52)]
theorem lw_r2 : ∀ q ∈ lw_privs_2, lw_okq q := List.forall_mem_cons.mpr ⟨lw_p16, List.forall_mem_cons.mpr ⟨lw_p17, List.forall_mem_cons.mpr ⟨lw_p18, List.forall_mem_cons.mpr ⟨lw_p19, List.forall_mem_cons.mpr ⟨lw_p20, List.forall_mem_cons.mpr ⟨lw_p21, List.forall_mem_cons.mpr ⟨lw_p22, List.forall_mem_cons.mpr ⟨lw_p23, List.forall_mem_cons.mpr ⟨lw_p24, List.forall_mem_cons.mpr ⟨lw_p25, List.forall_mem_cons.mpr ⟨lw_p26, List.forall_mem_cons.mpr ⟨lw_p27, List.forall_mem_cons.mpr ⟨lw_p28, List.forall_mem_cons.mpr ⟨lw_p29, List.forall_mem_cons.mpr ⟨lw_p30, List.forall_mem_cons.mpr ⟨lw_p31, fun _ h => absurd h List.not_mem_nil⟩⟩⟩⟩⟩⟩⟩⟩⟩⟩⟩⟩⟩⟩⟩⟩
theorem lw_p32 : lw_okq (⟨"LightPlateModel", "isLane", "(I)Z"⟩, 52) := ⟨⟨by decide +kernel, by decide +kernel⟩, List.mem_of_getElem? (i := 849) (by decide +kernel), List.mem_of_getElem? (i := 1067) (by decide +kernel), List.mem_of_getElem? (i := 1068) (by decide +kernel)⟩
theorem lw_p33 : lw_okq (⟨"LightPlateModel", "enters", "(I)V"⟩, 52) := ⟨⟨by decide +kernel, by decide +kernel⟩, List.mem_of_getElem? (i := 849) (by decide +kernel), List.mem_of_getElem? (i := 1071) (by decide +kernel), List.mem_of_getElem? (i := 1072) (by decide +kernel)⟩
theorem lw_p34 : lw_okq (⟨"LightPlateModel", "goes", "(Z)V"⟩, 52) := ⟨⟨by decide +kernel, by decide +kernel⟩, List.mem_of_getElem? (i := 849) (by decide +kernel), List.mem_of_getElem? (i := 1075) (by decide +kernel), List.mem_of_getElem? (i := 1076) (by decide +kernel)⟩
theorem lw_p35 : lw_okq (⟨"LightPlateModel", "turns", "(II)V"⟩, 52) := ⟨⟨by decide +kernel, by decide +kernel⟩, List.mem_of_getElem? (i := 849) (by decide +kernel), List.mem_of_getElem? (i := 1079) (by decide +kernel), List.mem_of_getElem? (i := 1080) (by decide +kernel)⟩
theorem lw_p36 : lw_okq (⟨"LightPlateModel", "clears", "(II)I"⟩, 52) := ⟨⟨by decide +kernel, by decide +kernel⟩, List.mem_of_getElem? (i := 849) (by decide +kernel), List.mem_of_getElem? (i := 1101) (by decide +kernel), List.mem_of_getElem? (i := 1102) (by decide +kernel)⟩
theorem lw_p37 : lw_okq (⟨"LightPlateModel", "isBare", "(I)Z"⟩, 52) := ⟨⟨by decide +kernel, by decide +kernel⟩, List.mem_of_getElem? (i := 849) (by decide +kernel), List.mem_of_getElem? (i := 1122) (by decide +kernel), List.mem_of_getElem? (i := 1123) (by decide +kernel)⟩
theorem lw_p38 : lw_okq (⟨"LightPlateModel", "fillCan", "(I)V"⟩, 52) := ⟨⟨by decide +kernel, by decide +kernel⟩, List.mem_of_getElem? (i := 849) (by decide +kernel), List.mem_of_getElem? (i := 1126) (by decide +kernel), List.mem_of_getElem? (i := 1127) (by decide +kernel)⟩
theorem lw_p39 : lw_okq (⟨"LightPlateModel", "mayDo", "(III)Z"⟩, 52) := ⟨⟨by decide +kernel, by decide +kernel⟩, List.mem_of_getElem? (i := 849) (by decide +kernel), List.mem_of_getElem? (i := 1130) (by decide +kernel), List.mem_of_getElem? (i := 1131) (by decide +kernel)⟩
theorem lw_p40 : lw_okq (⟨"LightPlateModel", "haveLane", "(II)Z"⟩, 52) := ⟨⟨by decide +kernel, by decide +kernel⟩, List.mem_of_getElem? (i := 849) (by decide +kernel), List.mem_of_getElem? (i := 1134) (by decide +kernel), List.mem_of_getElem? (i := 1135) (by decide +kernel)⟩
theorem lw_p41 : lw_okq (⟨"LightPlateModel", "parses", "()Z"⟩, 52) := ⟨⟨by decide +kernel, by decide +kernel⟩, List.mem_of_getElem? (i := 849) (by decide +kernel), List.mem_of_getElem? (i := 1149) (by decide +kernel), List.mem_of_getElem? (i := 1150) (by decide +kernel)⟩
theorem lw_p42 : lw_okq (⟨"LightPlateModel", "statement", "()Z"⟩, 52) := ⟨⟨by decide +kernel, by decide +kernel⟩, List.mem_of_getElem? (i := 849) (by decide +kernel), List.mem_of_getElem? (i := 1153) (by decide +kernel), List.mem_of_getElem? (i := 1154) (by decide +kernel)⟩
theorem lw_p43 : lw_okq (⟨"LightPlateModel", "signAt", "()I"⟩, 52) := ⟨⟨by decide +kernel, by decide +kernel⟩, List.mem_of_getElem? (i := 849) (by decide +kernel), List.mem_of_getElem? (i := 1157) (by decide +kernel), List.mem_of_getElem? (i := 1158) (by decide +kernel)⟩
theorem lw_p44 : lw_okq (⟨"LightPlateModel", "number", "(I)Z"⟩, 52) := ⟨⟨by decide +kernel, by decide +kernel⟩, List.mem_of_getElem? (i := 849) (by decide +kernel), List.mem_of_getElem? (i := 1161) (by decide +kernel), List.mem_of_getElem? (i := 1162) (by decide +kernel)⟩
theorem lw_p45 : lw_okq (⟨"LightPlateModel", "adds", "(I)V"⟩, 52) := ⟨⟨by decide +kernel, by decide +kernel⟩, List.mem_of_getElem? (i := 849) (by decide +kernel), List.mem_of_getElem? (i := 1168) (by decide +kernel), List.mem_of_getElem? (i := 1169) (by decide +kernel)⟩
theorem lw_p46 : lw_okq (⟨"LightPlateModel", "isName", "(I)Z"⟩, 52) := ⟨⟨by decide +kernel, by decide +kernel⟩, List.mem_of_getElem? (i := 849) (by decide +kernel), List.mem_of_getElem? (i := 1172) (by decide +kernel), List.mem_of_getElem? (i := 1173) (by decide +kernel)⟩
theorem lw_p47 : lw_okq (⟨"LightPlateModel", "uses", "(I)V"⟩, 52) := ⟨⟨by decide +kernel, by decide +kernel⟩, List.mem_of_getElem? (i := 849) (by decide +kernel), List.mem_of_getElem? (i := 1176) (by decide +kernel), List.mem_of_getElem? (i := 1177) (by decide +kernel)⟩
def lw_privs_3 : List (MethodName × Nat) := [(⟨"LightPlateModel", "isLane", "(I)Z"⟩, 52), (⟨"LightPlateModel", "enters", "(I)V"⟩, 52), (⟨"LightPlateModel", "goes", "(Z)V"⟩, 52), (⟨"LightPlateModel", "turns", "(II)V"⟩, 52), (⟨"LightPlateModel", "clears", "(II)I"⟩, 52), (⟨"LightPlateModel", "isBare", "(I)Z"⟩, 52), (⟨"LightPlateModel", "fillCan", "(I)V"⟩, 52), (⟨"LightPlateModel", "mayDo", "(III)Z"⟩, 52), (⟨"LightPlateModel", "haveLane", "(II)Z"⟩, 52), (⟨"LightPlateModel", "parses", "()Z"⟩, 52), (⟨"LightPlateModel", "statement", "()Z"⟩, 52), (⟨"LightPlateModel", "signAt", "()I"⟩, 52), (⟨"LightPlateModel", "number", "(I)Z"⟩, 52), (⟨"LightPlateModel", "adds", "(I)V"⟩, 52), (⟨"LightPlateModel", "isName", "(I)Z"⟩, 52), (⟨"LightPlateModel", "uses", "(I)V"⟩, 52)]
theorem lw_r3 : ∀ q ∈ lw_privs_3, lw_okq q := List.forall_mem_cons.mpr ⟨lw_p32, List.forall_mem_cons.mpr ⟨lw_p33, List.forall_mem_cons.mpr ⟨lw_p34, List.forall_mem_cons.mpr ⟨lw_p35, List.forall_mem_cons.mpr ⟨lw_p36, List.forall_mem_cons.mpr ⟨lw_p37, List.forall_mem_cons.mpr ⟨lw_p38, List.forall_mem_cons.mpr ⟨lw_p39, List.forall_mem_cons.mpr ⟨lw_p40, List.forall_mem_cons.mpr ⟨lw_p41, List.forall_mem_cons.mpr ⟨lw_p42, List.forall_mem_cons.mpr ⟨lw_p43, List.forall_mem_cons.mpr ⟨lw_p44, List.forall_mem_cons.mpr ⟨lw_p45, List.forall_mem_cons.mpr ⟨lw_p46, List.forall_mem_cons.mpr ⟨lw_p47, fun _ h => absurd h List.not_mem_nil⟩⟩⟩⟩⟩⟩⟩⟩⟩⟩⟩⟩⟩⟩⟩⟩
theorem lw_p48 : lw_okq (⟨"LightPlateModel", "opens", "(I)V"⟩, 52) := ⟨⟨by decide +kernel, by decide +kernel⟩, List.mem_of_getElem? (i := 849) (by decide +kernel), List.mem_of_getElem? (i := 1180) (by decide +kernel), List.mem_of_getElem? (i := 1181) (by decide +kernel)⟩
theorem lw_p49 : lw_okq (⟨"LightPlateModel", "closes", "()V"⟩, 52) := ⟨⟨by decide +kernel, by decide +kernel⟩, List.mem_of_getElem? (i := 849) (by decide +kernel), List.mem_of_getElem? (i := 1184) (by decide +kernel), List.mem_of_getElem? (i := 1185) (by decide +kernel)⟩
theorem lw_p50 : lw_okq (⟨"LightPlateModel", "isRun", "(I)Z"⟩, 52) := ⟨⟨by decide +kernel, by decide +kernel⟩, List.mem_of_getElem? (i := 849) (by decide +kernel), List.mem_of_getElem? (i := 1207) (by decide +kernel), List.mem_of_getElem? (i := 1208) (by decide +kernel)⟩
theorem lw_p51 : lw_okq (⟨"LightPlateModel", "reworks", "(I)V"⟩, 52) := ⟨⟨by decide +kernel, by decide +kernel⟩, List.mem_of_getElem? (i := 849) (by decide +kernel), List.mem_of_getElem? (i := 1215) (by decide +kernel), List.mem_of_getElem? (i := 1216) (by decide +kernel)⟩
theorem lw_p52 : lw_okq (⟨"LightPlateModel", "known", "(II)I"⟩, 52) := ⟨⟨by decide +kernel, by decide +kernel⟩, List.mem_of_getElem? (i := 849) (by decide +kernel), List.mem_of_getElem? (i := 1219) (by decide +kernel), List.mem_of_getElem? (i := 1220) (by decide +kernel)⟩
theorem lw_p53 : lw_okq (⟨"LightPlateModel", "comesTo", "(III)I"⟩, 52) := ⟨⟨by decide +kernel, by decide +kernel⟩, List.mem_of_getElem? (i := 849) (by decide +kernel), List.mem_of_getElem? (i := 1239) (by decide +kernel), List.mem_of_getElem? (i := 1240) (by decide +kernel)⟩
theorem lw_p54 : lw_okq (⟨"LightPlateModel", "meets", "(I)I"⟩, 52) := ⟨⟨by decide +kernel, by decide +kernel⟩, List.mem_of_getElem? (i := 849) (by decide +kernel), List.mem_of_getElem? (i := 1263) (by decide +kernel), List.mem_of_getElem? (i := 1264) (by decide +kernel)⟩
theorem lw_p55 : lw_okq (⟨"LightPlateModel", "layersUsed", "()I"⟩, 52) := ⟨⟨by decide +kernel, by decide +kernel⟩, List.mem_of_getElem? (i := 849) (by decide +kernel), List.mem_of_getElem? (i := 1271) (by decide +kernel), List.mem_of_getElem? (i := 1272) (by decide +kernel)⟩
def lw_privs_4 : List (MethodName × Nat) := [(⟨"LightPlateModel", "opens", "(I)V"⟩, 52), (⟨"LightPlateModel", "closes", "()V"⟩, 52), (⟨"LightPlateModel", "isRun", "(I)Z"⟩, 52), (⟨"LightPlateModel", "reworks", "(I)V"⟩, 52), (⟨"LightPlateModel", "known", "(II)I"⟩, 52), (⟨"LightPlateModel", "comesTo", "(III)I"⟩, 52), (⟨"LightPlateModel", "meets", "(I)I"⟩, 52), (⟨"LightPlateModel", "layersUsed", "()I"⟩, 52)]
theorem lw_r4 : ∀ q ∈ lw_privs_4, lw_okq q := List.forall_mem_cons.mpr ⟨lw_p48, List.forall_mem_cons.mpr ⟨lw_p49, List.forall_mem_cons.mpr ⟨lw_p50, List.forall_mem_cons.mpr ⟨lw_p51, List.forall_mem_cons.mpr ⟨lw_p52, List.forall_mem_cons.mpr ⟨lw_p53, List.forall_mem_cons.mpr ⟨lw_p54, List.forall_mem_cons.mpr ⟨lw_p55, fun _ h => absurd h List.not_mem_nil⟩⟩⟩⟩⟩⟩⟩⟩
def lw_privs : List (MethodName × Nat) := lw_privs_1 ++ (lw_privs_2 ++ (lw_privs_3 ++ (lw_privs_4)))
def lw_tbl : List Cond := k2_sels lw_privs ++ tables_1
theorem lw_privs_ok : ∀ q ∈ lw_privs, lw_okq q := by
  show ∀ q ∈ lw_privs_1 ++ (lw_privs_2 ++ (lw_privs_3 ++ (lw_privs_4))), lw_okq q
  exact List.forall_mem_append.mpr ⟨lw_r1, List.forall_mem_append.mpr ⟨lw_r2, List.forall_mem_append.mpr ⟨lw_r3, lw_r4⟩⟩⟩
end
section
/-! TABLES of the plain machine, written by our program gentabs.py: classes, fields, methods, codes. -/
def cN : Nat → String := fun c => (["LightPlate$Circle", "LightPlate$Layout", "LightPlate$Log", "LightPlate$Plate", "LightPlate$Probing", "LightPlate$Reader", "LightPlate$Row", "LightPlate$Runs", "LightPlate$Told", "LightPlate$Users", "LightPlate", "LightPlateModel", "LightPlateLaw", "java/lang/Math", "java/util/Arrays"] : List String).getD c ""
def TF0 : u_T := fun k => ([("LightPlate$Circle", "c", "[I", true), ("LightPlate$Circle", "s", "[I", true)] : List (String × String × String × Bool)).getD k ("", "", "", false)
def TF1 : u_T := fun k => ([("LightPlate$Layout", "plate", "LLightPlate$Plate;", true), ("LightPlate$Layout", "works", "LLightPlate$Row;", true), ("LightPlate$Layout", "memo", "[J", true), ("LightPlate$Layout", "earlier", "[I", true), ("LightPlate$Layout", "all", "I", false), ("LightPlate$Layout", "bound", "I", false)] : List (String × String × String × Bool)).getD k ("", "", "", false)
def TF2 : u_T := fun k => ([("LightPlate$Log", "entries", "I", false), ("LightPlate$Log", "founds", "I", false), ("LightPlate$Log", "cellOf", "[I", true), ("LightPlate$Log", "offsetOf", "[I", true), ("LightPlate$Log", "tickOf", "[I", true), ("LightPlate$Log", "knownFrom", "[I", true)] : List (String × String × String × Bool)).getD k ("", "", "", false)
def TF3 : u_T := fun k => ([("LightPlate$Plate", "lanes", "I", true), ("LightPlate$Plate", "circle", "LLightPlate$Circle;", true), ("LightPlate$Plate", "lane", "[I", true), ("LightPlate$Plate", "setting", "[I", true), ("LightPlate$Plate", "stuck", "[I", true), ("LightPlate$Plate", "offset", "[I", true), ("LightPlate$Plate", "creep", "I", false), ("LightPlate$Plate", "plainTurns", "[I", true), ("LightPlate$Plate", "light", "[I", true)] : List (String × String × String × Bool)).getD k ("", "", "", false)
def TF4 : u_T := fun k => ([("LightPlate$Probing", "plate", "LLightPlate$Plate;", true), ("LightPlate$Probing", "log", "LLightPlate$Log;", true), ("LightPlate$Probing", "begun", "Z", false), ("LightPlate$Probing", "size", "I", false), ("LightPlate$Probing", "done", "I", false), ("LightPlate$Probing", "heldCount", "I", false), ("LightPlate$Probing", "cellOf", "[I", true), ("LightPlate$Probing", "moreOf", "[I", true), ("LightPlate$Probing", "isHeld", "[Z", true), ("LightPlate$Probing", "known", "[I", true), ("LightPlate$Probing", "turns", "[I", true), ("LightPlate$Probing", "trace", "[[I", true), ("LightPlate$Probing", "light", "[I", true), ("LightPlate$Probing", "groups", "[[I", true), ("LightPlate$Probing", "greatest", "[I", true)] : List (String × String × String × Bool)).getD k ("", "", "", false)
def TF5 : u_T := fun k => ([("LightPlate$Reader", "lanes", "I", true), ("LightPlate$Reader", "size", "I", false), ("LightPlate$Reader", "tape", "[I", true), ("LightPlate$Reader", "level", "[LLightPlate$Row;", true), ("LightPlate$Reader", "opener", "[I", true), ("LightPlate$Reader", "meaning", "[LLightPlate$Row;", true), ("LightPlate$Reader", "isTold", "[Z", true), ("LightPlate$Reader", "place", "I", false), ("LightPlate$Reader", "depth", "I", false), ("LightPlate$Reader", "unknownName", "I", false), ("LightPlate$Reader", "opened", "Z", false)] : List (String × String × String × Bool)).getD k ("", "", "", false)
def TF6 : u_T := fun k => ([("LightPlate$Row", "lane", "[I", true), ("LightPlate$Row", "turn", "[I", true), ("LightPlate$Row", "size", "I", false)] : List (String × String × String × Bool)).getD k ("", "", "", false)
def TF7 : u_T := fun k => ([("LightPlate$Runs", "plate", "LLightPlate$Plate;", true), ("LightPlate$Runs", "log", "LLightPlate$Log;", true), ("LightPlate$Runs", "lightLimit", "J", true), ("LightPlate$Runs", "size", "I", false), ("LightPlate$Runs", "result", "[[I", true), ("LightPlate$Runs", "lightIn", "[[I", true), ("LightPlate$Runs", "settings", "[[I", true), ("LightPlate$Runs", "turns", "[I", true), ("LightPlate$Runs", "known", "[I", true), ("LightPlate$Runs", "light", "[I", true)] : List (String × String × String × Bool)).getD k ("", "", "", false)
def TF8 : u_T := fun k => ([("LightPlate$Told", "lanes", "I", true), ("LightPlate$Told", "circle", "LLightPlate$Circle;", true), ("LightPlate$Told", "column", "[[I", true), ("LightPlate$Told", "rest", "[[I", true), ("LightPlate$Told", "upper", "[I", true), ("LightPlate$Told", "by", "[I", true), ("LightPlate$Told", "steps", "I", false), ("LightPlate$Told", "whole", "Z", false)] : List (String × String × String × Bool)).getD k ("", "", "", false)
def TF9 : u_T := fun k => ([("LightPlate$Users", "plate", "LLightPlate$Plate;", true), ("LightPlate$Users", "owner", "[I", true), ("LightPlate$Users", "isLit", "[Z", true)] : List (String × String × String × Bool)).getD k ("", "", "", false)
def TF10 : u_T := fun k => ([("LightPlate", "circle", "LLightPlate$Circle;", true), ("LightPlate", "plate", "LLightPlate$Plate;", true), ("LightPlate", "told", "LLightPlate$Told;", true), ("LightPlate", "works", "LLightPlate$Row;", true), ("LightPlate", "layout", "LLightPlate$Layout;", true), ("LightPlate", "reader", "LLightPlate$Reader;", true), ("LightPlate", "log", "LLightPlate$Log;", true), ("LightPlate", "runs", "LLightPlate$Runs;", true), ("LightPlate", "search", "LLightPlate$Probing;", true), ("LightPlate", "users", "LLightPlate$Users;", true)] : List (String × String × String × Bool)).getD k ("", "", "", false)
def TF11 : u_T := fun k => ([("LightPlateModel", "n", "I", true), ("LightPlateModel", "c", "[I", true), ("LightPlateModel", "s", "[I", true), ("LightPlateModel", "setting", "[I", true), ("LightPlateModel", "stuck", "[I", true), ("LightPlateModel", "user", "[I", true), ("LightPlateModel", "offset", "[I", true), ("LightPlateModel", "creep", "I", false), ("LightPlateModel", "by", "[I", true), ("LightPlateModel", "offsets", "[I", true), ("LightPlateModel", "light", "[I", true), ("LightPlateModel", "told", "[I", true), ("LightPlateModel", "split", "[I", true), ("LightPlateModel", "stepLane", "[I", true), ("LightPlateModel", "stepTurn", "[I", true), ("LightPlateModel", "sign", "[I", true), ("LightPlateModel", "steps", "I", false), ("LightPlateModel", "wasSplit", "Z", false), ("LightPlateModel", "hasLack", "Z", false), ("LightPlateModel", "workLane", "[I", true), ("LightPlateModel", "workTurn", "[I", true), ("LightPlateModel", "works", "I", false), ("LightPlateModel", "can", "[Z", true), ("LightPlateModel", "tape", "[I", true), ("LightPlateModel", "list", "[I", true), ("LightPlateModel", "listSize", "[I", true), ("LightPlateModel", "times", "[I", true), ("LightPlateModel", "nameList", "[I", true), ("LightPlateModel", "nameSize", "[I", true), ("LightPlateModel", "isTold", "[Z", true), ("LightPlateModel", "taped", "I", false), ("LightPlateModel", "at", "I", false), ("LightPlateModel", "deep", "I", false), ("LightPlateModel", "noName", "I", false), ("LightPlateModel", "number", "I", false), ("LightPlateModel", "runIn", "[I", true), ("LightPlateModel", "runOut", "[I", true), ("LightPlateModel", "runSetting", "[I", true), ("LightPlateModel", "foundCell", "[I", true), ("LightPlateModel", "foundAs", "[I", true), ("LightPlateModel", "foundFrom", "[I", true), ("LightPlateModel", "runs", "I", false), ("LightPlateModel", "entries", "I", false), ("LightPlateModel", "finds", "I", false), ("LightPlateModel", "maybe", "[I", true), ("LightPlateModel", "comes", "[I", true), ("LightPlateModel", "isHeld", "[Z", true), ("LightPlateModel", "maybes", "I", false), ("LightPlateModel", "hypotheses", "I", false), ("LightPlateModel", "probed", "I", false), ("LightPlateModel", "isProbing", "Z", false), ("LightPlateModel", "group", "[I", true)] : List (String × String × String × Bool)).getD k ("", "", "", false)
def fX : List (List FieldType) := [[.array .int, .array .int], [.object "LightPlate$Plate", .object "LightPlate$Row", .array .long, .array .int, .int, .int], [.int, .int, .array .int, .array .int, .array .int, .array .int], [.int, .object "LightPlate$Circle", .array .int, .array .int, .array .int, .array .int, .int, .array .int, .array .int], [.object "LightPlate$Plate", .object "LightPlate$Log", .boolean, .int, .int, .int, .array .int, .array .int, .array .boolean, .array .int, .array .int, .array (.array .int), .array .int, .array (.array .int), .array .int], [.int, .int, .array .int, .array (.object "LightPlate$Row"), .array .int, .array (.object "LightPlate$Row"), .array .boolean, .int, .int, .int, .boolean], [.array .int, .array .int, .int], [.object "LightPlate$Plate", .object "LightPlate$Log", .long, .int, .array (.array .int), .array (.array .int), .array (.array .int), .array .int, .array .int, .array .int], [.int, .object "LightPlate$Circle", .array (.array .int), .array (.array .int), .array .int, .array .int, .int, .boolean], [.object "LightPlate$Plate", .array .int, .array .boolean], [.object "LightPlate$Circle", .object "LightPlate$Plate", .object "LightPlate$Told", .object "LightPlate$Row", .object "LightPlate$Layout", .object "LightPlate$Reader", .object "LightPlate$Log", .object "LightPlate$Runs", .object "LightPlate$Probing", .object "LightPlate$Users"], [.int, .array .int, .array .int, .array .int, .array .int, .array .int, .array .int, .int, .array .int, .array .int, .array .int, .array .int, .array .int, .array .int, .array .int, .array .int, .int, .boolean, .boolean, .array .int, .array .int, .int, .array .boolean, .array .int, .array .int, .array .int, .array .int, .array .int, .array .int, .array .boolean, .int, .int, .int, .int, .int, .array .int, .array .int, .array .int, .array .int, .array .int, .array .int, .int, .int, .int, .array .int, .array .int, .array .boolean, .int, .int, .int, .boolean, .array .int]]
def fY (c k : Nat) : FieldType := (fX.getD c []).getD k .int
def fT (c k : Nat) : Nat := (([[3, 3], [3, 3, 3, 3, 0, 0], [0, 0, 3, 3, 3, 3], [0, 3, 3, 3, 3, 3, 0, 3, 3], [3, 3, 1, 0, 0, 0, 3, 3, 3, 3, 3, 3, 3, 3, 3], [0, 0, 3, 3, 3, 3, 3, 0, 0, 0, 1], [3, 3, 0], [3, 3, 2, 0, 3, 3, 3, 3, 3, 3], [0, 3, 3, 3, 3, 3, 0, 1], [3, 3, 3], [3, 3, 3, 3, 3, 3, 3, 3, 3, 3], [0, 3, 3, 3, 3, 3, 3, 0, 3, 3, 3, 3, 3, 3, 3, 3, 0, 1, 1, 3, 3, 0, 3, 3, 3, 3, 3, 3, 3, 3, 0, 0, 0, 0, 0, 3, 3, 3, 3, 3, 3, 0, 0, 0, 3, 3, 3, 0, 0, 0, 1, 3]] : List (List Nat)).getD c []).getD k 9
def cO (c : Nat) : Nat := ([2, 6, 6, 9, 15, 11, 3, 10, 8, 3, 10, 52] : List Nat).getD c 0
def clX : List vw_C := [("LightPlate$Circle", TF0, 2), ("LightPlate$Layout", TF1, 6), ("LightPlate$Log", TF2, 6), ("LightPlate$Plate", TF3, 9), ("LightPlate$Probing", TF4, 15), ("LightPlate$Reader", TF5, 11), ("LightPlate$Row", TF6, 3), ("LightPlate$Runs", TF7, 10), ("LightPlate$Told", TF8, 8), ("LightPlate$Users", TF9, 3), ("LightPlate", TF10, 10), ("LightPlateModel", TF11, 52)]
/-- a method: its name, bytes, locals, answer; arguments; places of its words; its code: pc, what it does, the entry of the constant pool, length -/
abbrev MR : Type := (MethodName × ByteArray × Nat × Option FieldType) × Nat × (Nat × Nat × Nat) × List (Nat × Instr × Nat × Nat)
def kc0 : List (Nat × Instr × Nat × Nat) := [(0, .aload_n 0, 0, 1), (1, .monitorexit, 3, 3), (4, .aload_n 0, 0, 1), (5, .bipush 96, 0, 2), (7, .newarray .int, 0, 2), (9, .putfield 0, 9, 3), (12, .aload_n 0, 0, 1), (13, .bipush 96, 0, 2), (15, .newarray .int, 0, 2), (17, .putfield 1, 15, 3), (20, .aload_n 0, 0, 1), (21, .getfield 0, 9, 3), (24, .iconst 0, 0, 1), (25, .iconst 1, 0, 1), (26, .iastore, 0, 1), (27, .iconst 1, 0, 1), (28, .istore_n 1, 0, 1), (29, .iload_n 1, 0, 1), (30, .bipush 96, 0, 2), (32, .if_icmp .ge 107, 0, 3), (35, .aload_n 0, 0, 1), (36, .getfield 0, 9, 3), (39, .iload_n 1, 0, 1), (40, .aload_n 0, 0, 1), (41, .getfield 0, 9, 3), (44, .iload_n 1, 0, 1), (45, .iconst 1, 0, 1), (46, .isub, 0, 1), (47, .iaload, 0, 1), (48, .bipush 22, 0, 2), (50, .imul, 0, 1), (51, .aload_n 0, 0, 1), (52, .getfield 1, 15, 3), (55, .iload_n 1, 0, 1), (56, .iconst 1, 0, 1), (57, .isub, 0, 1), (58, .iaload, 0, 1), (59, .bipush 83, 0, 2), (61, .imul, 0, 1), (62, .isub, 0, 1), (63, .bipush 97, 0, 2), (65, .invokestatic 1300, 18, 3), (68, .iastore, 0, 1), (69, .aload_n 0, 0, 1), (70, .getfield 1, 15, 3), (73, .iload_n 1, 0, 1), (74, .aload_n 0, 0, 1), (75, .getfield 1, 15, 3), (78, .iload_n 1, 0, 1), (79, .iconst 1, 0, 1), (80, .isub, 0, 1), (81, .iaload, 0, 1), (82, .bipush 22, 0, 2), (84, .imul, 0, 1), (85, .aload_n 0, 0, 1), (86, .getfield 0, 9, 3), (89, .iload_n 1, 0, 1), (90, .iconst 1, 0, 1), (91, .isub, 0, 1), (92, .iaload, 0, 1), (93, .bipush 83, 0, 2), (95, .imul, 0, 1), (96, .iadd, 0, 1), (97, .bipush 97, 0, 2), (99, .irem, 0, 1), (100, .iastore, 0, 1), (101, .iinc 1 1, 0, 3), (104, .goto 29, 0, 3), (107, .return_, 0, 1)]
def kr0 : MR := ((⟨"LightPlate$Circle", "<init>", "()V"⟩, prog_2_method_1_code, 2, none), 1, (87, 86, 9999), kc0)
def kc1 : List (Nat × Instr × Nat × Nat) := [(0, .aload_n 1, 0, 1), (1, .iload_n 2, 0, 1), (2, .iaload, 0, 1), (3, .istore 4, 0, 2), (5, .aload_n 1, 0, 1), (6, .iload_n 2, 0, 1), (7, .iconst 1, 0, 1), (8, .iadd, 0, 1), (9, .iaload, 0, 1), (10, .istore 5, 0, 2), (12, .aload_n 1, 0, 1), (13, .iload_n 2, 0, 1), (14, .aload_n 0, 0, 1), (15, .getfield 0, 9, 3), (18, .iload_n 3, 0, 1), (19, .iaload, 0, 1), (20, .iload 4, 0, 2), (22, .imul, 0, 1), (23, .aload_n 0, 0, 1), (24, .getfield 1, 15, 3), (27, .iload_n 3, 0, 1), (28, .iaload, 0, 1), (29, .iload 5, 0, 2), (31, .imul, 0, 1), (32, .isub, 0, 1), (33, .bipush 97, 0, 2), (35, .invokestatic 1300, 18, 3), (38, .iastore, 0, 1), (39, .aload_n 1, 0, 1), (40, .iload_n 2, 0, 1), (41, .iconst 1, 0, 1), (42, .iadd, 0, 1), (43, .aload_n 0, 0, 1), (44, .getfield 1, 15, 3), (47, .iload_n 3, 0, 1), (48, .iaload, 0, 1), (49, .iload 4, 0, 2), (51, .imul, 0, 1), (52, .aload_n 0, 0, 1), (53, .getfield 0, 9, 3), (56, .iload_n 3, 0, 1), (57, .iaload, 0, 1), (58, .iload 5, 0, 2), (60, .imul, 0, 1), (61, .iadd, 0, 1), (62, .bipush 97, 0, 2), (64, .irem, 0, 1), (65, .iastore, 0, 1), (66, .return_, 0, 1)]
def kr1 : MR := ((⟨"LightPlate$Circle", "turnLanes", "([III)V"⟩, prog_2_method_2_code, 6, none), 4, (538, 536, 537), kc1)
def kc2 : List (Nat × Instr × Nat × Nat) := [(0, .iconst 0, 0, 1), (1, .istore_n 3, 0, 1), (2, .iload_n 3, 0, 1), (3, .bipush 96, 0, 2), (5, .if_icmp .ge 39, 0, 3), (8, .aload_n 0, 0, 1), (9, .getfield 1, 15, 3), (12, .iload_n 3, 0, 1), (13, .iaload, 0, 1), (14, .iload_n 1, 0, 1), (15, .imul, 0, 1), (16, .aload_n 0, 0, 1), (17, .getfield 0, 9, 3), (20, .iload_n 3, 0, 1), (21, .iaload, 0, 1), (22, .iload_n 2, 0, 1), (23, .imul, 0, 1), (24, .iadd, 0, 1), (25, .bipush 97, 0, 2), (27, .irem, 0, 1), (28, .ifCond .ne 33, 0, 3), (31, .iload_n 3, 0, 1), (32, .ireturn, 0, 1), (33, .iinc 3 1, 0, 3), (36, .goto 2, 0, 3), (39, .iconst (-1), 0, 1), (40, .ireturn, 0, 1)]
def kr2 : MR := ((⟨"LightPlate$Circle", "clearing", "(II)I"⟩, prog_2_method_3_code, 4, (some .int)), 3, (577, 575, 576), kc2)
def kc100 : List (Nat × Instr × Nat × Nat) := [(0, .aload_n 0, 0, 1), (1, .monitorexit, 3, 3), (4, .aload_n 0, 0, 1), (5, .sipush 1024, 0, 3), (8, .newarray .long, 0, 2), (10, .putfield 102, 9, 3), (13, .aload_n 0, 0, 1), (14, .bipush 10, 0, 2), (16, .newarray .int, 0, 2), (18, .putfield 103, 15, 3), (21, .aload_n 0, 0, 1), (22, .aload_n 1, 0, 1), (23, .putfield 100, 19, 3), (26, .aload_n 0, 0, 1), (27, .aload_n 2, 0, 1), (28, .putfield 101, 23, 3), (31, .return_, 0, 1)]
def kr100 : MR := ((⟨"LightPlate$Layout", "<init>", "(LLightPlate$Plate;LLightPlate$Row;)V"⟩, prog_3_method_1_code, 3, none), 3, (217, 216, 9999), kc100)
def kc101 : List (Nat × Instr × Nat × Nat) := [(0, .aload_n 0, 0, 1), (1, .invokevirtual 102, 27, 3), (4, .aload_n 0, 0, 1), (5, .iconst 0, 0, 1), (6, .iconst 0, 0, 1), (7, .invokevirtual 103, 30, 3), (10, .istore_n 1, 0, 1), (11, .iload_n 1, 0, 1), (12, .bipush 13, 0, 2), (14, .if_icmp .ne 20, 0, 3), (17, .bipush (-5), 0, 2), (19, .ireturn, 0, 1), (20, .aload_n 0, 0, 1), (21, .iload_n 1, 0, 1), (22, .invokevirtual 106, 34, 3), (25, .iload_n 1, 0, 1), (26, .ireturn, 0, 1)]
def kr101 : MR := ((⟨"LightPlate$Layout", "layWorks", "()I"⟩, prog_3_method_2_code, 2, (some .int)), 1, (622, 620, 621), kc101)
def kc102 : List (Nat × Instr × Nat × Nat) := [(0, .aload_n 0, 0, 1), (1, .iconst 1, 0, 1), (2, .aload_n 0, 0, 1), (3, .getfield 101, 23, 3), (6, .getfield 602, 38, 3), (9, .ishl, 0, 1), (10, .iconst 1, 0, 1), (11, .isub, 0, 1), (12, .putfield 104, 44, 3), (15, .aload_n 0, 0, 1), (16, .getfield 102, 9, 3), (19, .iconst 0, 0, 1), (20, .aload_n 0, 0, 1), (21, .getfield 104, 44, 3), (24, .iconst 1, 0, 1), (25, .iadd, 0, 1), (26, .lconst 0, 0, 1), (27, .invokestatic 1401, 47, 3), (30, .iconst 0, 0, 1), (31, .istore_n 1, 0, 1), (32, .iload_n 1, 0, 1), (33, .aload_n 0, 0, 1), (34, .getfield 101, 23, 3), (37, .getfield 602, 38, 3), (40, .if_icmp .ge 107, 0, 3), (43, .aload_n 0, 0, 1), (44, .getfield 103, 15, 3), (47, .iload_n 1, 0, 1), (48, .iconst 0, 0, 1), (49, .iastore, 0, 1), (50, .iconst 0, 0, 1), (51, .istore_n 2, 0, 1), (52, .iload_n 2, 0, 1), (53, .iload_n 1, 0, 1), (54, .if_icmp .ge 101, 0, 3), (57, .aload_n 0, 0, 1), (58, .getfield 101, 23, 3), (61, .getfield 600, 53, 3), (64, .iload_n 2, 0, 1), (65, .iaload, 0, 1), (66, .aload_n 0, 0, 1), (67, .getfield 101, 23, 3), (70, .getfield 600, 53, 3), (73, .iload_n 1, 0, 1), (74, .iaload, 0, 1), (75, .isub, 0, 1), (76, .invokestatic 1302, 56, 3), (79, .iconst 1, 0, 1), (80, .if_icmp .gt 95, 0, 3), (83, .aload_n 0, 0, 1), (84, .getfield 103, 15, 3), (87, .iload_n 1, 0, 1), (88, .dup2, 0, 1), (89, .iaload, 0, 1), (90, .iconst 1, 0, 1), (91, .iload_n 2, 0, 1), (92, .ishl, 0, 1), (93, .ior, 0, 1), (94, .iastore, 0, 1), (95, .iinc 2 1, 0, 3), (98, .goto 52, 0, 3), (101, .iinc 1 1, 0, 3), (104, .goto 32, 0, 3), (107, .aload_n 0, 0, 1), (108, .iconst 0, 0, 1), (109, .putfield 105, 62, 3), (112, .iconst 0, 0, 1), (113, .istore_n 1, 0, 1), (114, .iload_n 1, 0, 1), (115, .bipush 36, 0, 2), (117, .if_icmp .ge 147, 0, 3), (120, .aload_n 0, 0, 1), (121, .getfield 100, 19, 3), (124, .getfield 304, 65, 3), (127, .iload_n 1, 0, 1), (128, .iaload, 0, 1), (129, .ifCond .le 141, 0, 3), (132, .aload_n 0, 0, 1), (133, .iload_n 1, 0, 1), (134, .iconst 3, 0, 1), (135, .idiv, 0, 1), (136, .iconst 1, 0, 1), (137, .iadd, 0, 1), (138, .putfield 105, 62, 3), (141, .iinc 1 1, 0, 3), (144, .goto 114, 0, 3), (147, .return_, 0, 1)]
def kr102 : MR := ((⟨"LightPlate$Layout", "prepare", "()V"⟩, prog_3_method_3_code, 3, none), 1, (626, 625, 4), kc102)
def kc103 : List (Nat × Instr × Nat × Nat) := [(0, .iload_n 2, 0, 1), (1, .aload_n 0, 0, 1), (2, .getfield 104, 44, 3), (5, .if_icmp .ne 23, 0, 3), (8, .iload_n 1, 0, 1), (9, .aload_n 0, 0, 1), (10, .getfield 105, 62, 3), (13, .if_icmp .lt 20, 0, 3), (16, .iload_n 1, 0, 1), (17, .goto 22, 0, 3), (20, .bipush 13, 0, 2), (22, .ireturn, 0, 1), (23, .iload_n 1, 0, 1), (24, .bipush 12, 0, 2), (26, .if_icmp .lt 32, 0, 3), (29, .bipush 13, 0, 2), (31, .ireturn, 0, 1), (32, .aload_n 0, 0, 1), (33, .getfield 102, 9, 3), (36, .iload_n 2, 0, 1), (37, .laload, 0, 1), (38, .iconst 4, 0, 1), (39, .iload_n 1, 0, 1), (40, .imul, 0, 1), (41, .lushr, 0, 1), (42, .l2i, 0, 1), (43, .bipush 15, 0, 2), (45, .iand, 0, 1), (46, .istore_n 3, 0, 1), (47, .iload_n 3, 0, 1), (48, .ifCond .le 55, 0, 3), (51, .iload_n 3, 0, 1), (52, .iconst 1, 0, 1), (53, .isub, 0, 1), (54, .ireturn, 0, 1), (55, .bipush 13, 0, 2), (57, .istore 4, 0, 2), (59, .aload_n 0, 0, 1), (60, .iload_n 1, 0, 1), (61, .iload_n 2, 0, 1), (62, .invokevirtual 104, 70, 3), (65, .istore 5, 0, 2), (67, .iload 5, 0, 2), (69, .ifCond .lt 138, 0, 3), (72, .iload 5, 0, 2), (74, .sipush 1023, 0, 3), (77, .iand, 0, 1), (78, .istore 6, 0, 2), (80, .iload_n 2, 0, 1), (81, .iload 5, 0, 2), (83, .bipush 10, 0, 2), (85, .ishr, 0, 1), (86, .ior, 0, 1), (87, .istore 7, 0, 2), (89, .iload 6, 0, 2), (91, .istore 8, 0, 2), (93, .iload 8, 0, 2), (95, .ifCond .lt 138, 0, 3), (98, .iload 4, 0, 2), (100, .aload_n 0, 0, 1), (101, .iload_n 1, 0, 1), (102, .iconst 1, 0, 1), (103, .iadd, 0, 1), (104, .iload 7, 0, 2), (106, .iload 8, 0, 2), (108, .ior, 0, 1), (109, .invokevirtual 103, 30, 3), (112, .invokestatic 1301, 73, 3), (115, .istore 4, 0, 2), (117, .iload 8, 0, 2), (119, .ifCond .ne 126, 0, 3), (122, .iconst (-1), 0, 1), (123, .goto 133, 0, 3), (126, .iload 8, 0, 2), (128, .iconst 1, 0, 1), (129, .isub, 0, 1), (130, .iload 6, 0, 2), (132, .iand, 0, 1), (133, .istore 8, 0, 2), (135, .goto 93, 0, 3), (138, .aload_n 0, 0, 1), (139, .getfield 102, 9, 3), (142, .iload_n 2, 0, 1), (143, .dup2, 0, 1), (144, .laload, 0, 1), (145, .iload 4, 0, 2), (147, .iconst 1, 0, 1), (148, .iadd, 0, 1), (149, .i2l, 0, 1), (150, .iconst 4, 0, 1), (151, .iload_n 1, 0, 1), (152, .imul, 0, 1), (153, .lshl, 0, 1), (154, .lor, 0, 1), (155, .lastore, 0, 1), (156, .iload 4, 0, 2), (158, .ireturn, 0, 1)]
def kr103 : MR := ((⟨"LightPlate$Layout", "fewestFrom", "(II)I"⟩, prog_3_method_4_code, 9, (some .int)), 3, (639, 638, 5), kc103)
def kc104 : List (Nat × Instr × Nat × Nat) := [(0, .iconst 0, 0, 1), (1, .istore_n 3, 0, 1), (2, .iconst 0, 0, 1), (3, .istore 4, 0, 2), (5, .iload_n 1, 0, 1), (6, .iconst 3, 0, 1), (7, .imul, 0, 1), (8, .istore 5, 0, 2), (10, .iload 5, 0, 2), (12, .iload_n 1, 0, 1), (13, .iconst 1, 0, 1), (14, .iadd, 0, 1), (15, .iconst 3, 0, 1), (16, .imul, 0, 1), (17, .if_icmp .ge 148, 0, 3), (20, .aload_n 0, 0, 1), (21, .getfield 100, 19, 3), (24, .iload 5, 0, 2), (26, .invokevirtual 308, 76, 3), (29, .ifCond .ne 35, 0, 3), (32, .goto 142, 0, 3), (35, .aload_n 0, 0, 1), (36, .getfield 100, 19, 3), (39, .getfield 304, 65, 3), (42, .iload 5, 0, 2), (44, .iaload, 0, 1), (45, .istore 6, 0, 2), (47, .aload_n 0, 0, 1), (48, .aload_n 0, 0, 1), (49, .getfield 100, 19, 3), (52, .getfield 302, 80, 3), (55, .iload 5, 0, 2), (57, .iaload, 0, 1), (58, .iload_n 2, 0, 1), (59, .invokevirtual 105, 81, 3), (62, .istore 7, 0, 2), (64, .iload 7, 0, 2), (66, .iconst (-1), 0, 1), (67, .if_icmp .eq 95, 0, 3), (70, .iload 6, 0, 2), (72, .iconst (-1), 0, 1), (73, .if_icmp .eq 91, 0, 3), (76, .iload 6, 0, 2), (78, .aload_n 0, 0, 1), (79, .getfield 101, 23, 3), (82, .getfield 601, 84, 3), (85, .iload 7, 0, 2), (87, .iaload, 0, 1), (88, .if_icmp .ne 95, 0, 3), (91, .iconst 1, 0, 1), (92, .goto 96, 0, 3), (95, .iconst 0, 0, 1), (96, .istore 8, 0, 2), (98, .iload 8, 0, 2), (100, .ifCond .eq 120, 0, 3), (103, .iload 6, 0, 2), (105, .ifCond .le 120, 0, 3), (108, .iload 4, 0, 2), (110, .iconst 1, 0, 1), (111, .iload 7, 0, 2), (113, .ishl, 0, 1), (114, .ior, 0, 1), (115, .istore 4, 0, 2), (117, .goto 142, 0, 3), (120, .iload 8, 0, 2), (122, .ifCond .eq 135, 0, 3), (125, .iload_n 3, 0, 1), (126, .iconst 1, 0, 1), (127, .iload 7, 0, 2), (129, .ishl, 0, 1), (130, .ior, 0, 1), (131, .istore_n 3, 0, 1), (132, .goto 142, 0, 3), (135, .iload 6, 0, 2), (137, .ifCond .le 142, 0, 3), (140, .iconst (-1), 0, 1), (141, .ireturn, 0, 1), (142, .iinc 5 1, 0, 3), (145, .goto 10, 0, 3), (148, .iload 4, 0, 2), (150, .bipush 10, 0, 2), (152, .ishl, 0, 1), (153, .iload_n 3, 0, 1), (154, .ior, 0, 1), (155, .ireturn, 0, 1)]
def kr104 : MR := ((⟨"LightPlate$Layout", "choicesAt", "(II)I"⟩, prog_3_method_5_code, 9, (some .int)), 3, (643, 642, 6), kc104)
def kc105 : List (Nat × Instr × Nat × Nat) := [(0, .iconst 0, 0, 1), (1, .istore_n 3, 0, 1), (2, .iload_n 3, 0, 1), (3, .aload_n 0, 0, 1), (4, .getfield 101, 23, 3), (7, .getfield 602, 38, 3), (10, .if_icmp .ge 59, 0, 3), (13, .aload_n 0, 0, 1), (14, .getfield 101, 23, 3), (17, .getfield 600, 53, 3), (20, .iload_n 3, 0, 1), (21, .iaload, 0, 1), (22, .iload_n 1, 0, 1), (23, .if_icmp .ne 53, 0, 3), (26, .iload_n 2, 0, 1), (27, .iload_n 3, 0, 1), (28, .ishr, 0, 1), (29, .iconst 1, 0, 1), (30, .iand, 0, 1), (31, .ifCond .ne 53, 0, 3), (34, .aload_n 0, 0, 1), (35, .getfield 103, 15, 3), (38, .iload_n 3, 0, 1), (39, .iaload, 0, 1), (40, .iload_n 2, 0, 1), (41, .iconst (-1), 0, 1), (42, .ixor, 0, 1), (43, .iand, 0, 1), (44, .ifCond .ne 51, 0, 3), (47, .iload_n 3, 0, 1), (48, .goto 52, 0, 3), (51, .iconst (-1), 0, 1), (52, .ireturn, 0, 1), (53, .iinc 3 1, 0, 3), (56, .goto 2, 0, 3), (59, .iconst (-1), 0, 1), (60, .ireturn, 0, 1)]
def kr105 : MR := ((⟨"LightPlate$Layout", "readyWork", "(II)I"⟩, prog_3_method_6_code, 4, (some .int)), 3, (648, 647, 7), kc105)
def kc106 : List (Nat × Instr × Nat × Nat) := [(0, .iconst 0, 0, 1), (1, .istore_n 2, 0, 1), (2, .iload_n 2, 0, 1), (3, .bipush 36, 0, 2), (5, .if_icmp .ge 35, 0, 3), (8, .aload_n 0, 0, 1), (9, .getfield 100, 19, 3), (12, .iload_n 2, 0, 1), (13, .invokevirtual 302, 87, 3), (16, .ifCond .ne 29, 0, 3), (19, .aload_n 0, 0, 1), (20, .getfield 100, 19, 3), (23, .getfield 303, 90, 3), (26, .iload_n 2, 0, 1), (27, .iconst 0, 0, 1), (28, .iastore, 0, 1), (29, .iinc 2 1, 0, 3), (32, .goto 2, 0, 3), (35, .iconst 0, 0, 1), (36, .istore_n 2, 0, 1), (37, .iconst 0, 0, 1), (38, .istore_n 3, 0, 1), (39, .iload_n 3, 0, 1), (40, .iload_n 1, 0, 1), (41, .if_icmp .ge 71, 0, 3), (44, .aload_n 0, 0, 1), (45, .iload_n 3, 0, 1), (46, .iload_n 2, 0, 1), (47, .iload_n 1, 0, 1), (48, .invokevirtual 107, 93, 3), (51, .istore 4, 0, 2), (53, .aload_n 0, 0, 1), (54, .iload_n 3, 0, 1), (55, .iload 4, 0, 2), (57, .invokevirtual 108, 97, 3), (60, .iload_n 2, 0, 1), (61, .iload 4, 0, 2), (63, .ior, 0, 1), (64, .istore_n 2, 0, 1), (65, .iinc 3 1, 0, 3), (68, .goto 39, 0, 3), (71, .return_, 0, 1)]
def kr106 : MR := ((⟨"LightPlate$Layout", "putSettings", "(I)V"⟩, prog_3_method_7_code, 5, none), 2, (653, 652, 8), kc106)
def kc107 : List (Nat × Instr × Nat × Nat) := [(0, .aload_n 0, 0, 1), (1, .iload_n 1, 0, 1), (2, .iload_n 2, 0, 1), (3, .invokevirtual 104, 70, 3), (6, .istore 4, 0, 2), (8, .iload 4, 0, 2), (10, .ifCond .ge 15, 0, 3), (13, .iconst 0, 0, 1), (14, .ireturn, 0, 1), (15, .iload 4, 0, 2), (17, .sipush 1023, 0, 3), (20, .iand, 0, 1), (21, .istore 5, 0, 2), (23, .iload 4, 0, 2), (25, .bipush 10, 0, 2), (27, .ishr, 0, 1), (28, .istore 6, 0, 2), (30, .iload 5, 0, 2), (32, .istore 7, 0, 2), (34, .iload 7, 0, 2), (36, .ifCond .le 75, 0, 3), (39, .aload_n 0, 0, 1), (40, .iload_n 1, 0, 1), (41, .iconst 1, 0, 1), (42, .iadd, 0, 1), (43, .iload_n 2, 0, 1), (44, .iload 6, 0, 2), (46, .ior, 0, 1), (47, .iload 7, 0, 2), (49, .ior, 0, 1), (50, .invokevirtual 103, 30, 3), (53, .iload_n 3, 0, 1), (54, .if_icmp .ne 63, 0, 3), (57, .iload 6, 0, 2), (59, .iload 7, 0, 2), (61, .ior, 0, 1), (62, .ireturn, 0, 1), (63, .iload 7, 0, 2), (65, .iconst 1, 0, 1), (66, .isub, 0, 1), (67, .iload 5, 0, 2), (69, .iand, 0, 1), (70, .istore 7, 0, 2), (72, .goto 34, 0, 3), (75, .iload 6, 0, 2), (77, .ireturn, 0, 1)]
def kr107 : MR := ((⟨"LightPlate$Layout", "greatestSet", "(III)I"⟩, prog_3_method_8_code, 8, (some .int)), 4, (658, 657, 9), kc107)
def kc108 : List (Nat × Instr × Nat × Nat) := [(0, .iconst 0, 0, 1), (1, .istore_n 3, 0, 1), (2, .iload_n 3, 0, 1), (3, .aload_n 0, 0, 1), (4, .getfield 101, 23, 3), (7, .getfield 602, 38, 3), (10, .if_icmp .ge 87, 0, 3), (13, .iload_n 2, 0, 1), (14, .iload_n 3, 0, 1), (15, .ishr, 0, 1), (16, .iconst 1, 0, 1), (17, .iand, 0, 1), (18, .ifCond .ne 25, 0, 3), (21, .iconst (-1), 0, 1), (22, .goto 42, 0, 3), (25, .aload_n 0, 0, 1), (26, .getfield 100, 19, 3), (29, .iload_n 1, 0, 1), (30, .aload_n 0, 0, 1), (31, .getfield 101, 23, 3), (34, .getfield 600, 53, 3), (37, .iload_n 3, 0, 1), (38, .iaload, 0, 1), (39, .invokevirtual 301, 101, 3), (42, .istore 4, 0, 2), (44, .iload 4, 0, 2), (46, .iconst (-1), 0, 1), (47, .if_icmp .eq 81, 0, 3), (50, .aload_n 0, 0, 1), (51, .getfield 100, 19, 3), (54, .iload 4, 0, 2), (56, .invokevirtual 302, 87, 3), (59, .ifCond .ne 81, 0, 3), (62, .aload_n 0, 0, 1), (63, .getfield 100, 19, 3), (66, .getfield 303, 90, 3), (69, .iload 4, 0, 2), (71, .aload_n 0, 0, 1), (72, .getfield 101, 23, 3), (75, .getfield 601, 84, 3), (78, .iload_n 3, 0, 1), (79, .iaload, 0, 1), (80, .iastore, 0, 1), (81, .iinc 3 1, 0, 3), (84, .goto 2, 0, 3), (87, .return_, 0, 1)]
def kr108 : MR := ((⟨"LightPlate$Layout", "putLayer", "(II)V"⟩, prog_3_method_9_code, 5, none), 3, (662, 661, 10), kc108)
def kc200 : List (Nat × Instr × Nat × Nat) := [(0, .aload_n 0, 0, 1), (1, .monitorexit, 3, 3), (4, .aload_n 0, 0, 1), (5, .bipush 60, 0, 2), (7, .newarray .int, 0, 2), (9, .putfield 202, 9, 3), (12, .aload_n 0, 0, 1), (13, .bipush 60, 0, 2), (15, .newarray .int, 0, 2), (17, .putfield 203, 15, 3), (20, .aload_n 0, 0, 1), (21, .bipush 60, 0, 2), (23, .newarray .int, 0, 2), (25, .putfield 204, 18, 3), (28, .aload_n 0, 0, 1), (29, .bipush 36, 0, 2), (31, .newarray .int, 0, 2), (33, .putfield 205, 21, 3), (36, .return_, 0, 1)]
def kr200 : MR := ((⟨"LightPlate$Log", "<init>", "()V"⟩, prog_4_method_1_code, 1, none), 1, (288, 287, 9999), kc200)
def kc201 : List (Nat × Instr × Nat × Nat) := [(0, .aload_n 0, 0, 1), (1, .getfield 200, 24, 3), (4, .bipush 60, 0, 2), (6, .if_icmp .lt 13, 0, 3), (9, .iconst 1, 0, 1), (10, .goto 14, 0, 3), (13, .iconst 0, 0, 1), (14, .freturn, 0, 1)]
def kr201 : MR := ((⟨"LightPlate$Log", "isFull", "()Z"⟩, prog_4_method_2_code, 1, (some .boolean)), 1, (476, 474, 475), kc201)
def kc202 : List (Nat × Instr × Nat × Nat) := [(0, .aload_n 0, 0, 1), (1, .dup, 0, 1), (2, .getfield 200, 24, 3), (5, .iconst 1, 0, 1), (6, .iadd, 0, 1), (7, .putfield 200, 24, 3), (10, .return_, 0, 1)]
def kr202 : MR := ((⟨"LightPlate$Log", "addSetting", "()V"⟩, prog_4_method_3_code, 1, none), 1, (480, 478, 479), kc202)
def kc203 : List (Nat × Instr × Nat × Nat) := [(0, .aload_n 2, 0, 1), (1, .iconst 0, 0, 1), (2, .invokestatic 1400, 31, 3), (5, .aload_n 0, 0, 1), (6, .getfield 205, 21, 3), (9, .iconst 0, 0, 1), (10, .invokestatic 1400, 31, 3), (13, .iconst 0, 0, 1), (14, .istore_n 3, 0, 1), (15, .iload_n 3, 0, 1), (16, .aload_n 0, 0, 1), (17, .getfield 201, 28, 3), (20, .if_icmp .ge 86, 0, 3), (23, .aload_n 0, 0, 1), (24, .getfield 202, 9, 3), (27, .iload_n 3, 0, 1), (28, .iaload, 0, 1), (29, .istore 4, 0, 2), (31, .aload_n 0, 0, 1), (32, .getfield 204, 18, 3), (35, .iload_n 3, 0, 1), (36, .iaload, 0, 1), (37, .iload_n 1, 0, 1), (38, .if_icmp .gt 80, 0, 3), (41, .aload_n 0, 0, 1), (42, .getfield 204, 18, 3), (45, .iload_n 3, 0, 1), (46, .iaload, 0, 1), (47, .aload_n 0, 0, 1), (48, .getfield 205, 21, 3), (51, .iload 4, 0, 2), (53, .iaload, 0, 1), (54, .if_icmp .lt 80, 0, 3), (57, .aload_n 0, 0, 1), (58, .getfield 205, 21, 3), (61, .iload 4, 0, 2), (63, .aload_n 0, 0, 1), (64, .getfield 204, 18, 3), (67, .iload_n 3, 0, 1), (68, .iaload, 0, 1), (69, .iastore, 0, 1), (70, .aload_n 2, 0, 1), (71, .iload 4, 0, 2), (73, .aload_n 0, 0, 1), (74, .getfield 203, 15, 3), (77, .iload_n 3, 0, 1), (78, .iaload, 0, 1), (79, .iastore, 0, 1), (80, .iinc 3 1, 0, 3), (83, .goto 15, 0, 3), (86, .return_, 0, 1)]
def kr203 : MR := ((⟨"LightPlate$Log", "fillKnown", "(I[I)V"⟩, prog_4_method_5_code, 5, none), 3, (791, 789, 790), kc203)
def kc204 : List (Nat × Instr × Nat × Nat) := [(0, .aload_n 0, 0, 1), (1, .getfield 201, 28, 3), (4, .bipush 60, 0, 2), (6, .if_icmp .lt 10, 0, 3), (9, .return_, 0, 1), (10, .aload_n 0, 0, 1), (11, .getfield 202, 9, 3), (14, .aload_n 0, 0, 1), (15, .getfield 201, 28, 3), (18, .iload_n 1, 0, 1), (19, .iastore, 0, 1), (20, .aload_n 0, 0, 1), (21, .getfield 203, 15, 3), (24, .aload_n 0, 0, 1), (25, .getfield 201, 28, 3), (28, .iload_n 2, 0, 1), (29, .iastore, 0, 1), (30, .aload_n 0, 0, 1), (31, .getfield 204, 18, 3), (34, .aload_n 0, 0, 1), (35, .getfield 201, 28, 3), (38, .iload_n 3, 0, 1), (39, .iastore, 0, 1), (40, .aload_n 0, 0, 1), (41, .dup, 0, 1), (42, .getfield 201, 28, 3), (45, .iconst 1, 0, 1), (46, .iadd, 0, 1), (47, .putfield 201, 28, 3), (50, .aload_n 0, 0, 1), (51, .dup, 0, 1), (52, .getfield 200, 24, 3), (55, .iconst 1, 0, 1), (56, .iadd, 0, 1), (57, .putfield 200, 24, 3), (60, .return_, 0, 1)]
def kr204 : MR := ((⟨"LightPlate$Log", "addFound", "(III)V"⟩, prog_4_method_4_code, 4, none), 4, (809, 807, 808), kc204)
def kc300 : List (Nat × Instr × Nat × Nat) := [(0, .aload_n 0, 0, 1), (1, .monitorexit, 3, 3), (4, .aload_n 0, 0, 1), (5, .bipush 36, 0, 2), (7, .newarray .int, 0, 2), (9, .putfield 302, 9, 3), (12, .aload_n 0, 0, 1), (13, .bipush 36, 0, 2), (15, .newarray .int, 0, 2), (17, .putfield 303, 15, 3), (20, .aload_n 0, 0, 1), (21, .bipush 36, 0, 2), (23, .newarray .int, 0, 2), (25, .putfield 304, 18, 3), (28, .aload_n 0, 0, 1), (29, .bipush 36, 0, 2), (31, .newarray .int, 0, 2), (33, .putfield 305, 21, 3), (36, .aload_n 0, 0, 1), (37, .bipush 99, 0, 2), (39, .putfield 306, 24, 3), (42, .aload_n 0, 0, 1), (43, .bipush 36, 0, 2), (45, .newarray .int, 0, 2), (47, .putfield 307, 28, 3), (50, .aload_n 0, 0, 1), (51, .bipush 6, 0, 2), (53, .newarray .int, 0, 2), (55, .putfield 308, 31, 3), (58, .aload_n 0, 0, 1), (59, .iload_n 1, 0, 1), (60, .putfield 300, 34, 3), (63, .aload_n 0, 0, 1), (64, .aload_n 2, 0, 1), (65, .putfield 301, 37, 3), (68, .aload_n 0, 0, 1), (69, .getfield 304, 18, 3), (72, .iconst (-1), 0, 1), (73, .invokestatic 1400, 41, 3), (76, .iconst 0, 0, 1), (77, .istore_n 3, 0, 1), (78, .iload_n 3, 0, 1), (79, .bipush 36, 0, 2), (81, .if_icmp .ge 123, 0, 3), (84, .iconst 2, 0, 1), (85, .iload_n 3, 0, 1), (86, .iconst 3, 0, 1), (87, .irem, 0, 1), (88, .imul, 0, 1), (89, .iload_n 3, 0, 1), (90, .iconst 3, 0, 1), (91, .idiv, 0, 1), (92, .iconst 2, 0, 1), (93, .irem, 0, 1), (94, .iadd, 0, 1), (95, .istore 4, 0, 2), (97, .aload_n 0, 0, 1), (98, .getfield 302, 9, 3), (101, .iload_n 3, 0, 1), (102, .iload 4, 0, 2), (104, .iconst 1, 0, 1), (105, .iadd, 0, 1), (106, .iload_n 1, 0, 1), (107, .if_icmp .ge 115, 0, 3), (110, .iload 4, 0, 2), (112, .goto 116, 0, 3), (115, .iconst (-1), 0, 1), (116, .iastore, 0, 1), (117, .iinc 3 1, 0, 3), (120, .goto 78, 0, 3), (123, .return_, 0, 1)]
def kr300 : MR := ((⟨"LightPlate$Plate", "<init>", "(ILLightPlate$Circle;)V"⟩, prog_5_method_1_code, 5, none), 3, (104, 103, 9999), kc300)
def kc301 : List (Nat × Instr × Nat × Nat) := [(0, .iload_n 1, 0, 1), (1, .ifCond .lt 24, 0, 3), (4, .iload_n 1, 0, 1), (5, .bipush 12, 0, 2), (7, .if_icmp .ge 24, 0, 3), (10, .iload_n 2, 0, 1), (11, .ifCond .lt 24, 0, 3), (14, .iload_n 2, 0, 1), (15, .aload_n 0, 0, 1), (16, .getfield 300, 34, 3), (19, .iconst 2, 0, 1), (20, .isub, 0, 1), (21, .if_icmp .le 26, 0, 3), (24, .iconst (-1), 0, 1), (25, .ireturn, 0, 1), (26, .iload_n 2, 0, 1), (27, .iconst 2, 0, 1), (28, .irem, 0, 1), (29, .iload_n 1, 0, 1), (30, .iconst 2, 0, 1), (31, .irem, 0, 1), (32, .if_icmp .ne 45, 0, 3), (35, .iload_n 1, 0, 1), (36, .iconst 3, 0, 1), (37, .imul, 0, 1), (38, .iload_n 2, 0, 1), (39, .iconst 2, 0, 1), (40, .idiv, 0, 1), (41, .iadd, 0, 1), (42, .goto 46, 0, 3), (45, .iconst (-1), 0, 1), (46, .ireturn, 0, 1)]
def kr301 : MR := ((⟨"LightPlate$Plate", "cellAt", "(II)I"⟩, prog_5_method_2_code, 3, (some .int)), 3, (469, 467, 468), kc301)
def kc302 : List (Nat × Instr × Nat × Nat) := [(0, .aload_n 0, 0, 1), (1, .getfield 304, 18, 3), (4, .iload_n 1, 0, 1), (5, .iaload, 0, 1), (6, .iconst (-1), 0, 1), (7, .if_icmp .eq 14, 0, 3), (10, .iconst 1, 0, 1), (11, .goto 15, 0, 3), (14, .iconst 0, 0, 1), (15, .freturn, 0, 1)]
def kr302 : MR := ((⟨"LightPlate$Plate", "isDead", "(I)Z"⟩, prog_5_method_4_code, 2, (some .boolean)), 2, (488, 486, 487), kc302)
def kc303 : List (Nat × Instr × Nat × Nat) := [(0, .aload_n 0, 0, 1), (1, .getfield 304, 18, 3), (4, .iload_n 2, 0, 1), (5, .iaload, 0, 1), (6, .iconst (-1), 0, 1), (7, .if_icmp .eq 19, 0, 3), (10, .aload_n 0, 0, 1), (11, .getfield 304, 18, 3), (14, .iload_n 2, 0, 1), (15, .iaload, 0, 1), (16, .goto 22, 0, 3), (19, .aload_n 1, 0, 1), (20, .iload_n 2, 0, 1), (21, .iaload, 0, 1), (22, .istore_n 3, 0, 1), (23, .iload_n 3, 0, 1), (24, .bipush 96, 0, 2), (26, .iload_n 3, 0, 1), (27, .isub, 0, 1), (28, .invokestatic 1301, 47, 3), (31, .ireturn, 0, 1)]
def kr303 : MR := ((⟨"LightPlate$Plate", "heat", "([II)I"⟩, prog_5_method_5_code, 4, (some .int)), 3, (500, 498, 499), kc303)
def kc304 : List (Nat × Instr × Nat × Nat) := [(0, .aload_n 0, 0, 1), (1, .iload_n 3, 0, 1), (2, .invokevirtual 302, 53, 3), (5, .ifCond .eq 15, 0, 3), (8, .aload_n 0, 0, 1), (9, .getfield 304, 18, 3), (12, .iload_n 3, 0, 1), (13, .iaload, 0, 1), (14, .ireturn, 0, 1), (15, .aload_n 1, 0, 1), (16, .iload_n 3, 0, 1), (17, .iaload, 0, 1), (18, .aload_n 0, 0, 1), (19, .aload_n 1, 0, 1), (20, .iload_n 3, 0, 1), (21, .invokevirtual 305, 57, 3), (24, .iadd, 0, 1), (25, .aload_n 2, 0, 1), (26, .iload_n 3, 0, 1), (27, .iaload, 0, 1), (28, .iadd, 0, 1), (29, .bipush 96, 0, 2), (31, .invokestatic 1300, 61, 3), (34, .ireturn, 0, 1)]
def kr304 : MR := ((⟨"LightPlate$Plate", "trueTurn", "([I[II)I"⟩, prog_5_method_6_code, 4, (some .int)), 4, (507, 505, 506), kc304)
def kc305 : List (Nat × Instr × Nat × Nat) := [(0, .iload_n 2, 0, 1), (1, .iconst 3, 0, 1), (2, .irem, 0, 1), (3, .istore_n 3, 0, 1), (4, .iconst 0, 0, 1), (5, .istore 4, 0, 2), (7, .iload_n 3, 0, 1), (8, .ifCond .le 24, 0, 3), (11, .iload 4, 0, 2), (13, .aload_n 0, 0, 1), (14, .aload_n 1, 0, 1), (15, .iload_n 2, 0, 1), (16, .iconst 1, 0, 1), (17, .isub, 0, 1), (18, .invokevirtual 303, 84, 3), (21, .iadd, 0, 1), (22, .istore 4, 0, 2), (24, .iload_n 3, 0, 1), (25, .iconst 2, 0, 1), (26, .if_icmp .ge 42, 0, 3), (29, .iload 4, 0, 2), (31, .aload_n 0, 0, 1), (32, .aload_n 1, 0, 1), (33, .iload_n 2, 0, 1), (34, .iconst 1, 0, 1), (35, .iadd, 0, 1), (36, .invokevirtual 303, 84, 3), (39, .iadd, 0, 1), (40, .istore 4, 0, 2), (42, .iload 4, 0, 2), (44, .aload_n 0, 0, 1), (45, .getfield 306, 24, 3), (48, .idiv, 0, 1), (49, .ireturn, 0, 1)]
def kr305 : MR := ((⟨"LightPlate$Plate", "warmth", "([II)I"⟩, prog_5_method_13_code, 5, (some .int)), 3, (512, 511, 0), kc305)
def kc306 : List (Nat × Instr × Nat × Nat) := [(0, .iconst 0, 0, 1), (1, .istore_n 2, 0, 1), (2, .iload_n 2, 0, 1), (3, .bipush 36, 0, 2), (5, .if_icmp .ge 43, 0, 3), (8, .aload_n 0, 0, 1), (9, .getfield 307, 28, 3), (12, .iload_n 2, 0, 1), (13, .aload_n 0, 0, 1), (14, .iload_n 2, 0, 1), (15, .invokevirtual 302, 53, 3), (18, .ifCond .eq 30, 0, 3), (21, .aload_n 0, 0, 1), (22, .getfield 304, 18, 3), (25, .iload_n 2, 0, 1), (26, .iaload, 0, 1), (27, .goto 36, 0, 3), (30, .aload_n 0, 0, 1), (31, .getfield 303, 15, 3), (34, .iload_n 2, 0, 1), (35, .iaload, 0, 1), (36, .iastore, 0, 1), (37, .iinc 2 1, 0, 3), (40, .goto 2, 0, 3), (43, .aload_n 0, 0, 1), (44, .getfield 308, 31, 3), (47, .iconst 0, 0, 1), (48, .invokestatic 1400, 41, 3), (51, .aload_n 0, 0, 1), (52, .getfield 308, 31, 3), (55, .iload_n 1, 0, 1), (56, .iconst 1, 0, 1), (57, .iastore, 0, 1), (58, .aload_n 0, 0, 1), (59, .aload_n 0, 0, 1), (60, .getfield 308, 31, 3), (63, .aload_n 0, 0, 1), (64, .getfield 307, 28, 3), (67, .iconst 0, 0, 1), (68, .bipush 12, 0, 2), (70, .invokevirtual 307, 77, 3), (73, .aload_n 0, 0, 1), (74, .getfield 308, 31, 3), (77, .areturn, 0, 1)]
def kr306 : MR := ((⟨"LightPlate$Plate", "columnOfTable", "(I)[I"⟩, prog_5_method_9_code, 3, (some (.array .int))), 2, (526, 524, 525), kc306)
def kc307 : List (Nat × Instr × Nat × Nat) := [(0, .iload_n 3, 0, 1), (1, .iconst 3, 0, 1), (2, .imul, 0, 1), (3, .istore 5, 0, 2), (5, .iload 5, 0, 2), (7, .iload 4, 0, 2), (9, .iconst 3, 0, 1), (10, .imul, 0, 1), (11, .if_icmp .ge 48, 0, 3), (14, .aload_n 0, 0, 1), (15, .iload 5, 0, 2), (17, .invokevirtual 308, 68, 3), (20, .ifCond .eq 42, 0, 3), (23, .aload_n 0, 0, 1), (24, .getfield 301, 37, 3), (27, .aload_n 1, 0, 1), (28, .aload_n 0, 0, 1), (29, .getfield 302, 9, 3), (32, .iload 5, 0, 2), (34, .iaload, 0, 1), (35, .aload_n 2, 0, 1), (36, .iload 5, 0, 2), (38, .iaload, 0, 1), (39, .invokevirtual 1, 71, 3), (42, .iinc 5 1, 0, 3), (45, .goto 5, 0, 3), (48, .return_, 0, 1)]
def kr307 : MR := ((⟨"LightPlate$Plate", "send", "([I[III)V"⟩, prog_5_method_8_code, 6, none), 5, (530, 528, 529), kc307)
def kc308 : List (Nat × Instr × Nat × Nat) := [(0, .aload_n 0, 0, 1), (1, .getfield 302, 9, 3), (4, .iload_n 1, 0, 1), (5, .iaload, 0, 1), (6, .iconst (-1), 0, 1), (7, .if_icmp .eq 14, 0, 3), (10, .iconst 1, 0, 1), (11, .goto 15, 0, 3), (14, .iconst 0, 0, 1), (15, .freturn, 0, 1)]
def kr308 : MR := ((⟨"LightPlate$Plate", "isCell", "(I)Z"⟩, prog_5_method_3_code, 2, (some .boolean)), 2, (534, 532, 533), kc308)
def kc309 : List (Nat × Instr × Nat × Nat) := [(0, .iconst 0, 0, 1), (1, .istore 4, 0, 2), (3, .iload 4, 0, 2), (5, .bipush 36, 0, 2), (7, .if_icmp .ge 28, 0, 3), (10, .aload_n 3, 0, 1), (11, .iload 4, 0, 2), (13, .aload_n 0, 0, 1), (14, .aload_n 1, 0, 1), (15, .aload_n 2, 0, 1), (16, .iload 4, 0, 2), (18, .invokevirtual 304, 64, 3), (21, .iastore, 0, 1), (22, .iinc 4 1, 0, 3), (25, .goto 3, 0, 3), (28, .return_, 0, 1)]
def kr309 : MR := ((⟨"LightPlate$Plate", "fillTrueTurns", "([I[I[I)V"⟩, prog_5_method_7_code, 5, none), 4, (769, 767, 768), kc309)
def kc310 : List (Nat × Instr × Nat × Nat) := [(0, .iconst 0, 0, 1), (1, .istore_n 1, 0, 1), (2, .iconst 0, 0, 1), (3, .istore_n 2, 0, 1), (4, .iload_n 2, 0, 1), (5, .bipush 36, 0, 2), (7, .if_icmp .ge 27, 0, 3), (10, .aload_n 0, 0, 1), (11, .iload_n 2, 0, 1), (12, .invokevirtual 302, 53, 3), (15, .ifCond .eq 21, 0, 3), (18, .iinc 1 1, 0, 3), (21, .iinc 2 1, 0, 3), (24, .goto 4, 0, 3), (27, .iload_n 1, 0, 1), (28, .ireturn, 0, 1)]
def kr310 : MR := ((⟨"LightPlate$Plate", "deadCells", "()I"⟩, prog_5_method_10_code, 3, (some .int)), 1, (892, 890, 891), kc310)
def kc311 : List (Nat × Instr × Nat × Nat) := [(0, .iconst 0, 0, 1), (1, .istore_n 1, 0, 1), (2, .iconst 0, 0, 1), (3, .istore_n 2, 0, 1), (4, .iload_n 2, 0, 1), (5, .bipush 12, 0, 2), (7, .if_icmp .ge 27, 0, 3), (10, .aload_n 0, 0, 1), (11, .iload_n 2, 0, 1), (12, .invokevirtual 312, 81, 3), (15, .ifCond .eq 21, 0, 3), (18, .iinc 1 1, 0, 3), (21, .iinc 2 1, 0, 3), (24, .goto 4, 0, 3), (27, .iload_n 1, 0, 1), (28, .ireturn, 0, 1)]
def kr311 : MR := ((⟨"LightPlate$Plate", "layersInUse", "()I"⟩, prog_5_method_11_code, 3, (some .int)), 1, (896, 894, 895), kc311)
def kc312 : List (Nat × Instr × Nat × Nat) := [(0, .iload_n 1, 0, 1), (1, .iconst 3, 0, 1), (2, .imul, 0, 1), (3, .istore_n 2, 0, 1), (4, .iload_n 2, 0, 1), (5, .iload_n 1, 0, 1), (6, .iconst 1, 0, 1), (7, .iadd, 0, 1), (8, .iconst 3, 0, 1), (9, .imul, 0, 1), (10, .if_icmp .ge 38, 0, 3), (13, .aload_n 0, 0, 1), (14, .iload_n 2, 0, 1), (15, .invokevirtual 302, 53, 3), (18, .ifCond .ne 30, 0, 3), (21, .aload_n 0, 0, 1), (22, .getfield 303, 15, 3), (25, .iload_n 2, 0, 1), (26, .iaload, 0, 1), (27, .ifCond .le 32, 0, 3), (30, .iconst 1, 0, 1), (31, .freturn, 0, 1), (32, .iinc 2 1, 0, 3), (35, .goto 4, 0, 3), (38, .iconst 0, 0, 1), (39, .freturn, 0, 1)]
def kr312 : MR := ((⟨"LightPlate$Plate", "isInUse", "(I)Z"⟩, prog_5_method_12_code, 3, (some .boolean)), 2, (900, 899, 26), kc312)
def kc400 : List (Nat × Instr × Nat × Nat) := [(0, .aload_n 0, 0, 1), (1, .monitorexit, 5, 3), (4, .aload_n 0, 0, 1), (5, .sipush 145, 0, 3), (8, .newarray .int, 0, 2), (10, .putfield 406, 11, 3), (13, .aload_n 0, 0, 1), (14, .sipush 145, 0, 3), (17, .newarray .int, 0, 2), (19, .putfield 407, 15, 3), (22, .aload_n 0, 0, 1), (23, .sipush 145, 0, 3), (26, .newarray .boolean, 0, 2), (28, .putfield 408, 18, 3), (31, .aload_n 0, 0, 1), (32, .bipush 36, 0, 2), (34, .newarray .int, 0, 2), (36, .putfield 409, 22, 3), (39, .aload_n 0, 0, 1), (40, .bipush 36, 0, 2), (42, .newarray .int, 0, 2), (44, .putfield 410, 25, 3), (47, .aload_n 0, 0, 1), (48, .bipush 13, 0, 2), (50, .bipush 6, 0, 2), (52, .multianewarray 0 2, 28, 4), (56, .putfield 411, 30, 3), (59, .aload_n 0, 0, 1), (60, .bipush 6, 0, 2), (62, .newarray .int, 0, 2), (64, .putfield 412, 33, 3), (67, .aload_n 0, 0, 1), (68, .bipush 6, 0, 2), (70, .bipush 97, 0, 2), (72, .multianewarray 0 2, 28, 4), (76, .putfield 413, 36, 3), (79, .aload_n 0, 0, 1), (80, .bipush 6, 0, 2), (82, .newarray .int, 0, 2), (84, .putfield 414, 39, 3), (87, .aload_n 0, 0, 1), (88, .aload_n 1, 0, 1), (89, .putfield 400, 42, 3), (92, .aload_n 0, 0, 1), (93, .aload_n 2, 0, 1), (94, .putfield 401, 46, 3), (97, .return_, 0, 1)]
def kr400 : MR := ((⟨"LightPlate$Probing", "<init>", "(LLightPlate$Plate;LLightPlate$Log;)V"⟩, prog_6_method_1_code, 3, none), 3, (356, 355, 9999), kc400)
def kc401 : List (Nat × Instr × Nat × Nat) := [(0, .aload_n 0, 0, 1), (1, .iconst 1, 0, 1), (2, .putfield 402, 50, 3), (5, .aload_n 0, 0, 1), (6, .iconst 0, 0, 1), (7, .putfield 404, 54, 3), (10, .aload_n 0, 0, 1), (11, .getfield 406, 11, 3), (14, .iconst 0, 0, 1), (15, .iconst (-1), 0, 1), (16, .iastore, 0, 1), (17, .aload_n 0, 0, 1), (18, .iconst 1, 0, 1), (19, .putfield 403, 58, 3), (22, .iconst 0, 0, 1), (23, .istore_n 1, 0, 1), (24, .iload_n 1, 0, 1), (25, .bipush 36, 0, 2), (27, .if_icmp .ge 63, 0, 3), (30, .aload_n 0, 0, 1), (31, .getfield 400, 42, 3), (34, .iload_n 1, 0, 1), (35, .invokevirtual 308, 61, 3), (38, .ifCond .eq 57, 0, 3), (41, .aload_n 0, 0, 1), (42, .getfield 400, 42, 3), (45, .iload_n 1, 0, 1), (46, .invokevirtual 302, 67, 3), (49, .ifCond .ne 57, 0, 3), (52, .aload_n 0, 0, 1), (53, .iload_n 1, 0, 1), (54, .invokevirtual 402, 70, 3), (57, .iinc 1 1, 0, 3), (60, .goto 24, 0, 3), (63, .iconst 0, 0, 1), (64, .istore_n 1, 0, 1), (65, .iload_n 1, 0, 1), (66, .aload_n 0, 0, 1), (67, .getfield 403, 58, 3), (70, .if_icmp .ge 86, 0, 3), (73, .aload_n 0, 0, 1), (74, .getfield 408, 18, 3), (77, .iload_n 1, 0, 1), (78, .iconst 1, 0, 1), (79, .bastore, 0, 1), (80, .iinc 1 1, 0, 3), (83, .goto 65, 0, 3), (86, .aload_n 0, 0, 1), (87, .aload_n 0, 0, 1), (88, .getfield 403, 58, 3), (91, .putfield 405, 74, 3), (94, .return_, 0, 1)]
def kr401 : MR := ((⟨"LightPlate$Probing", "begin", "()V"⟩, prog_6_method_2_code, 2, none), 1, (817, 815, 816), kc401)
def kc402 : List (Nat × Instr × Nat × Nat) := [(0, .bipush (-2), 0, 2), (2, .istore_n 2, 0, 1), (3, .iload_n 2, 0, 1), (4, .iconst 2, 0, 1), (5, .if_icmp .gt 51, 0, 3), (8, .iload_n 2, 0, 1), (9, .ifCond .ne 15, 0, 3), (12, .goto 45, 0, 3), (15, .aload_n 0, 0, 1), (16, .getfield 406, 11, 3), (19, .aload_n 0, 0, 1), (20, .getfield 403, 58, 3), (23, .iload_n 1, 0, 1), (24, .iastore, 0, 1), (25, .aload_n 0, 0, 1), (26, .getfield 407, 15, 3), (29, .aload_n 0, 0, 1), (30, .getfield 403, 58, 3), (33, .iload_n 2, 0, 1), (34, .iastore, 0, 1), (35, .aload_n 0, 0, 1), (36, .dup, 0, 1), (37, .getfield 403, 58, 3), (40, .iconst 1, 0, 1), (41, .iadd, 0, 1), (42, .putfield 403, 58, 3), (45, .iinc 2 1, 0, 3), (48, .goto 3, 0, 3), (51, .return_, 0, 1)]
def kr402 : MR := ((⟨"LightPlate$Probing", "addCell", "(I)V"⟩, prog_6_method_6_code, 3, none), 2, (823, 822, 21), kc402)
def kc403 : List (Nat × Instr × Nat × Nat) := [(0, .aload_n 0, 0, 1), (1, .dup, 0, 1), (2, .getfield 404, 54, 3), (5, .iconst 1, 0, 1), (6, .iadd, 0, 1), (7, .putfield 404, 54, 3), (10, .aload_n 0, 0, 1), (11, .getfield 400, 42, 3), (14, .aload_n 0, 0, 1), (15, .getfield 400, 42, 3), (18, .getfield 303, 77, 3), (21, .aload_n 0, 0, 1), (22, .getfield 400, 42, 3), (25, .getfield 305, 80, 3), (28, .aload_n 0, 0, 1), (29, .getfield 410, 25, 3), (32, .invokevirtual 309, 83, 3), (35, .aload_n 0, 0, 1), (36, .iload_n 1, 0, 1), (37, .invokevirtual 404, 87, 3), (40, .aload_n 0, 0, 1), (41, .getfield 411, 30, 3), (44, .bipush 12, 0, 2), (46, .aaload, 0, 1), (47, .iload_n 2, 0, 1), (48, .iaload, 0, 1), (49, .istore 4, 0, 2), (51, .aload_n 0, 0, 1), (52, .iload_n 3, 0, 1), (53, .invokevirtual 405, 90, 3), (56, .aload_n 0, 0, 1), (57, .iload_n 1, 0, 1), (58, .invokevirtual 404, 87, 3), (61, .iconst 0, 0, 1), (62, .istore 5, 0, 2), (64, .iload 5, 0, 2), (66, .aload_n 0, 0, 1), (67, .getfield 403, 58, 3), (70, .if_icmp .ge 120, 0, 3), (73, .aload_n 0, 0, 1), (74, .getfield 408, 18, 3), (77, .iload 5, 0, 2), (79, .baload, 0, 1), (80, .ifCond .eq 114, 0, 3), (83, .aload_n 0, 0, 1), (84, .iload 5, 0, 2), (86, .invokevirtual 406, 93, 3), (89, .iload_n 2, 0, 1), (90, .iaload, 0, 1), (91, .iload 4, 0, 2), (93, .if_icmp .eq 114, 0, 3), (96, .aload_n 0, 0, 1), (97, .getfield 408, 18, 3), (100, .iload 5, 0, 2), (102, .iconst 0, 0, 1), (103, .bastore, 0, 1), (104, .aload_n 0, 0, 1), (105, .dup, 0, 1), (106, .getfield 405, 74, 3), (109, .iconst 1, 0, 1), (110, .isub, 0, 1), (111, .putfield 405, 74, 3), (114, .iinc 5 1, 0, 3), (117, .goto 64, 0, 3), (120, .iload 4, 0, 2), (122, .ireturn, 0, 1)]
def kr403 : MR := ((⟨"LightPlate$Probing", "lookAt", "(III)I"⟩, prog_6_method_3_code, 6, (some .int)), 4, (831, 829, 830), kc403)
def kc404 : List (Nat × Instr × Nat × Nat) := [(0, .aload_n 0, 0, 1), (1, .getfield 411, 30, 3), (4, .iconst 0, 0, 1), (5, .aaload, 0, 1), (6, .iconst 0, 0, 1), (7, .invokestatic 1400, 109, 3), (10, .aload_n 0, 0, 1), (11, .getfield 411, 30, 3), (14, .iconst 0, 0, 1), (15, .aaload, 0, 1), (16, .iload_n 1, 0, 1), (17, .iconst 1, 0, 1), (18, .iastore, 0, 1), (19, .iconst 0, 0, 1), (20, .istore_n 2, 0, 1), (21, .iload_n 2, 0, 1), (22, .bipush 12, 0, 2), (24, .if_icmp .ge 77, 0, 3), (27, .aload_n 0, 0, 1), (28, .getfield 411, 30, 3), (31, .iload_n 2, 0, 1), (32, .aaload, 0, 1), (33, .iconst 0, 0, 1), (34, .aload_n 0, 0, 1), (35, .getfield 411, 30, 3), (38, .iload_n 2, 0, 1), (39, .iconst 1, 0, 1), (40, .iadd, 0, 1), (41, .aaload, 0, 1), (42, .iconst 0, 0, 1), (43, .bipush 6, 0, 2), (45, .monitorenter, 115, 3), (48, .aload_n 0, 0, 1), (49, .getfield 400, 42, 3), (52, .aload_n 0, 0, 1), (53, .getfield 411, 30, 3), (56, .iload_n 2, 0, 1), (57, .iconst 1, 0, 1), (58, .iadd, 0, 1), (59, .aaload, 0, 1), (60, .aload_n 0, 0, 1), (61, .getfield 410, 25, 3), (64, .iload_n 2, 0, 1), (65, .iload_n 2, 0, 1), (66, .iconst 1, 0, 1), (67, .iadd, 0, 1), (68, .invokevirtual 307, 121, 3), (71, .iinc 2 1, 0, 3), (74, .goto 21, 0, 3), (77, .return_, 0, 1)]
def kr404 : MR := ((⟨"LightPlate$Probing", "traceFrom", "(I)V"⟩, prog_6_method_8_code, 3, none), 2, (836, 835, 22), kc404)
def kc405 : List (Nat × Instr × Nat × Nat) := [(0, .aload_n 0, 0, 1), (1, .getfield 401, 46, 3), (4, .iload_n 1, 0, 1), (5, .aload_n 0, 0, 1), (6, .getfield 409, 22, 3), (9, .invokevirtual 203, 103, 3), (12, .aload_n 0, 0, 1), (13, .getfield 400, 42, 3), (16, .aload_n 0, 0, 1), (17, .getfield 400, 42, 3), (20, .getfield 303, 77, 3), (23, .aload_n 0, 0, 1), (24, .getfield 409, 22, 3), (27, .aload_n 0, 0, 1), (28, .getfield 410, 25, 3), (31, .invokevirtual 309, 83, 3), (34, .return_, 0, 1)]
def kr405 : MR := ((⟨"LightPlate$Probing", "fillKnownTurns", "(I)V"⟩, prog_6_method_7_code, 2, none), 2, (843, 842, 23), kc405)
def kc406 : List (Nat × Instr × Nat × Nat) := [(0, .aload_n 0, 0, 1), (1, .getfield 406, 11, 3), (4, .iload_n 1, 0, 1), (5, .iaload, 0, 1), (6, .istore_n 2, 0, 1), (7, .iload_n 2, 0, 1), (8, .iconst (-1), 0, 1), (9, .if_icmp .eq 23, 0, 3), (12, .aload_n 0, 0, 1), (13, .getfield 400, 42, 3), (16, .iload_n 2, 0, 1), (17, .invokevirtual 302, 67, 3), (20, .ifCond .eq 31, 0, 3), (23, .aload_n 0, 0, 1), (24, .getfield 411, 30, 3), (27, .bipush 12, 0, 2), (29, .aaload, 0, 1), (30, .areturn, 0, 1), (31, .iload_n 2, 0, 1), (32, .iconst 3, 0, 1), (33, .idiv, 0, 1), (34, .istore_n 3, 0, 1), (35, .aload_n 0, 0, 1), (36, .getfield 410, 25, 3), (39, .iload_n 2, 0, 1), (40, .iaload, 0, 1), (41, .istore 4, 0, 2), (43, .aload_n 0, 0, 1), (44, .getfield 410, 25, 3), (47, .iload_n 2, 0, 1), (48, .iload 4, 0, 2), (50, .aload_n 0, 0, 1), (51, .getfield 407, 15, 3), (54, .iload_n 1, 0, 1), (55, .iaload, 0, 1), (56, .iadd, 0, 1), (57, .bipush 96, 0, 2), (59, .invokestatic 1300, 125, 3), (62, .iastore, 0, 1), (63, .aload_n 0, 0, 1), (64, .getfield 411, 30, 3), (67, .iload_n 3, 0, 1), (68, .aaload, 0, 1), (69, .iconst 0, 0, 1), (70, .aload_n 0, 0, 1), (71, .getfield 412, 33, 3), (74, .iconst 0, 0, 1), (75, .bipush 6, 0, 2), (77, .monitorenter, 115, 3), (80, .aload_n 0, 0, 1), (81, .getfield 400, 42, 3), (84, .aload_n 0, 0, 1), (85, .getfield 412, 33, 3), (88, .aload_n 0, 0, 1), (89, .getfield 410, 25, 3), (92, .iload_n 3, 0, 1), (93, .bipush 12, 0, 2), (95, .invokevirtual 307, 121, 3), (98, .aload_n 0, 0, 1), (99, .getfield 410, 25, 3), (102, .iload_n 2, 0, 1), (103, .iload 4, 0, 2), (105, .iastore, 0, 1), (106, .aload_n 0, 0, 1), (107, .getfield 412, 33, 3), (110, .areturn, 0, 1)]
def kr406 : MR := ((⟨"LightPlate$Probing", "outcome", "(I)[I"⟩, prog_6_method_9_code, 5, (some (.array .int))), 2, (848, 847, 24), kc406)
def kc407 : List (Nat × Instr × Nat × Nat) := [(0, .iconst 0, 0, 1), (1, .istore_n 2, 0, 1), (2, .iconst 0, 0, 1), (3, .istore_n 3, 0, 1), (4, .iload_n 3, 0, 1), (5, .aload_n 0, 0, 1), (6, .getfield 403, 58, 3), (9, .if_icmp .ge 40, 0, 3), (12, .aload_n 0, 0, 1), (13, .getfield 408, 18, 3), (16, .iload_n 3, 0, 1), (17, .baload, 0, 1), (18, .ifCond .ne 24, 0, 3), (21, .goto 34, 0, 3), (24, .iload_n 2, 0, 1), (25, .iload_n 1, 0, 1), (26, .if_icmp .ne 31, 0, 3), (29, .iload_n 3, 0, 1), (30, .ireturn, 0, 1), (31, .iinc 2 1, 0, 3), (34, .iinc 3 1, 0, 3), (37, .goto 4, 0, 3), (40, .iconst (-1), 0, 1), (41, .ireturn, 0, 1)]
def kr407 : MR := ((⟨"LightPlate$Probing", "heldAt", "(I)I"⟩, prog_6_method_4_code, 4, (some .int)), 2, (857, 855, 856), kc407)
def kc408 : List (Nat × Instr × Nat × Nat) := [(0, .aload_n 0, 0, 1), (1, .iload_n 1, 0, 1), (2, .invokevirtual 405, 90, 3), (5, .aload_n 0, 0, 1), (6, .getfield 403, 58, 3), (9, .iconst 1, 0, 1), (10, .iadd, 0, 1), (11, .istore_n 2, 0, 1), (12, .iconst (-1), 0, 1), (13, .istore_n 3, 0, 1), (14, .iconst 0, 0, 1), (15, .istore 4, 0, 2), (17, .iload 4, 0, 2), (19, .aload_n 0, 0, 1), (20, .getfield 400, 42, 3), (23, .getfield 300, 97, 3), (26, .if_icmp .ge 94, 0, 3), (29, .aload_n 0, 0, 1), (30, .iload 4, 0, 2), (32, .invokevirtual 404, 87, 3), (35, .aload_n 0, 0, 1), (36, .invokevirtual 409, 100, 3), (39, .iconst 0, 0, 1), (40, .istore 5, 0, 2), (42, .iload 5, 0, 2), (44, .aload_n 0, 0, 1), (45, .getfield 400, 42, 3), (48, .getfield 300, 97, 3), (51, .if_icmp .ge 88, 0, 3), (54, .aload_n 0, 0, 1), (55, .getfield 414, 39, 3), (58, .iload 5, 0, 2), (60, .iaload, 0, 1), (61, .iload_n 2, 0, 1), (62, .if_icmp .ge 82, 0, 3), (65, .aload_n 0, 0, 1), (66, .getfield 414, 39, 3), (69, .iload 5, 0, 2), (71, .iaload, 0, 1), (72, .istore_n 2, 0, 1), (73, .bipush 10, 0, 2), (75, .iload 4, 0, 2), (77, .imul, 0, 1), (78, .iload 5, 0, 2), (80, .iadd, 0, 1), (81, .istore_n 3, 0, 1), (82, .iinc 5 1, 0, 3), (85, .goto 42, 0, 3), (88, .iinc 4 1, 0, 3), (91, .goto 17, 0, 3), (94, .iload_n 3, 0, 1), (95, .ireturn, 0, 1)]
def kr408 : MR := ((⟨"LightPlate$Probing", "best", "(I)I"⟩, prog_6_method_5_code, 6, (some .int)), 2, (865, 863, 864), kc408)
def kc409 : List (Nat × Instr × Nat × Nat) := [(0, .aload_n 0, 0, 1), (1, .getfield 414, 39, 3), (4, .iconst 0, 0, 1), (5, .invokestatic 1400, 109, 3), (8, .iconst 0, 0, 1), (9, .istore_n 1, 0, 1), (10, .iload_n 1, 0, 1), (11, .aload_n 0, 0, 1), (12, .getfield 400, 42, 3), (15, .getfield 300, 97, 3), (18, .if_icmp .ge 37, 0, 3), (21, .aload_n 0, 0, 1), (22, .getfield 413, 36, 3), (25, .iload_n 1, 0, 1), (26, .aaload, 0, 1), (27, .iconst 0, 0, 1), (28, .invokestatic 1400, 109, 3), (31, .iinc 1 1, 0, 3), (34, .goto 10, 0, 3), (37, .iconst 0, 0, 1), (38, .istore_n 1, 0, 1), (39, .iload_n 1, 0, 1), (40, .aload_n 0, 0, 1), (41, .getfield 403, 58, 3), (44, .if_icmp .ge 129, 0, 3), (47, .aload_n 0, 0, 1), (48, .getfield 408, 18, 3), (51, .iload_n 1, 0, 1), (52, .baload, 0, 1), (53, .ifCond .ne 59, 0, 3), (56, .goto 123, 0, 3), (59, .aload_n 0, 0, 1), (60, .iload_n 1, 0, 1), (61, .invokevirtual 406, 93, 3), (64, .astore_n 2, 0, 1), (65, .iconst 0, 0, 1), (66, .istore_n 3, 0, 1), (67, .iload_n 3, 0, 1), (68, .aload_n 0, 0, 1), (69, .getfield 400, 42, 3), (72, .getfield 300, 97, 3), (75, .if_icmp .ge 123, 0, 3), (78, .aload_n 0, 0, 1), (79, .getfield 413, 36, 3), (82, .iload_n 3, 0, 1), (83, .aaload, 0, 1), (84, .aload_n 2, 0, 1), (85, .iload_n 3, 0, 1), (86, .iaload, 0, 1), (87, .dup2, 0, 1), (88, .iaload, 0, 1), (89, .iconst 1, 0, 1), (90, .iadd, 0, 1), (91, .iastore, 0, 1), (92, .aload_n 0, 0, 1), (93, .getfield 414, 39, 3), (96, .iload_n 3, 0, 1), (97, .aload_n 0, 0, 1), (98, .getfield 414, 39, 3), (101, .iload_n 3, 0, 1), (102, .iaload, 0, 1), (103, .aload_n 0, 0, 1), (104, .getfield 413, 36, 3), (107, .iload_n 3, 0, 1), (108, .aaload, 0, 1), (109, .aload_n 2, 0, 1), (110, .iload_n 3, 0, 1), (111, .iaload, 0, 1), (112, .iaload, 0, 1), (113, .invokestatic 1303, 131, 3), (116, .iastore, 0, 1), (117, .iinc 3 1, 0, 3), (120, .goto 67, 0, 3), (123, .iinc 1 1, 0, 3), (126, .goto 39, 0, 3), (129, .return_, 0, 1)]
def kr409 : MR := ((⟨"LightPlate$Probing", "countGroups", "()V"⟩, prog_6_method_10_code, 4, none), 1, (869, 868, 25), kc409)
def kc500 : List (Nat × Instr × Nat × Nat) := [(0, .aload_n 0, 0, 1), (1, .monitorexit, 3, 3), (4, .aload_n 0, 0, 1), (5, .bipush 100, 0, 2), (7, .newarray .int, 0, 2), (9, .putfield 502, 9, 3), (12, .aload_n 0, 0, 1), (13, .bipush 51, 0, 2), (15, .anewarray 0, 15, 3), (18, .putfield 503, 17, 3), (21, .aload_n 0, 0, 1), (22, .bipush 51, 0, 2), (24, .newarray .int, 0, 2), (26, .putfield 504, 21, 3), (29, .aload_n 0, 0, 1), (30, .bipush 6, 0, 2), (32, .anewarray 0, 15, 3), (35, .putfield 505, 24, 3), (38, .aload_n 0, 0, 1), (39, .bipush 6, 0, 2), (41, .newarray .boolean, 0, 2), (43, .putfield 506, 27, 3), (46, .aload_n 0, 0, 1), (47, .iload_n 1, 0, 1), (48, .putfield 500, 31, 3), (51, .iconst 0, 0, 1), (52, .istore_n 2, 0, 1), (53, .iload_n 2, 0, 1), (54, .bipush 50, 0, 2), (56, .if_icmp .gt 78, 0, 3), (59, .aload_n 0, 0, 1), (60, .getfield 503, 17, 3), (63, .iload_n 2, 0, 1), (64, .new 6, 15, 3), (67, .dup, 0, 1), (68, .invokespecial 600, 35, 3), (71, .aastore, 0, 1), (72, .iinc 2 1, 0, 3), (75, .goto 53, 0, 3), (78, .iconst 0, 0, 1), (79, .istore_n 2, 0, 1), (80, .iload_n 2, 0, 1), (81, .bipush 6, 0, 2), (83, .if_icmp .ge 105, 0, 3), (86, .aload_n 0, 0, 1), (87, .getfield 505, 24, 3), (90, .iload_n 2, 0, 1), (91, .new 6, 15, 3), (94, .dup, 0, 1), (95, .invokespecial 600, 35, 3), (98, .aastore, 0, 1), (99, .iinc 2 1, 0, 3), (102, .goto 80, 0, 3), (105, .return_, 0, 1)]
def kr500 : MR := ((⟨"LightPlate$Reader", "<init>", "(I)V"⟩, prog_7_method_1_code, 3, none), 2, (243, 242, 9999), kc500)
def kc501 : List (Nat × Instr × Nat × Nat) := [(0, .aload_n 0, 0, 1), (1, .getfield 501, 36, 3), (4, .bipush 100, 0, 2), (6, .if_icmp .ge 26, 0, 3), (9, .aload_n 0, 0, 1), (10, .getfield 502, 9, 3), (13, .aload_n 0, 0, 1), (14, .dup, 0, 1), (15, .getfield 501, 36, 3), (18, .dup_x1, 0, 1), (19, .iconst 1, 0, 1), (20, .iadd, 0, 1), (21, .putfield 501, 36, 3), (24, .iload_n 1, 0, 1), (25, .iastore, 0, 1), (26, .return_, 0, 1)]
def kr501 : MR := ((⟨"LightPlate$Reader", "append", "(I)V"⟩, prog_7_method_2_code, 2, none), 2, (671, 669, 670), kc501)
def kc502 : List (Nat × Instr × Nat × Nat) := [(0, .aload_n 0, 0, 1), (1, .iconst 0, 0, 1), (2, .putfield 507, 39, 3), (5, .aload_n 0, 0, 1), (6, .iconst 0, 0, 1), (7, .putfield 508, 42, 3), (10, .aload_n 0, 0, 1), (11, .iconst (-1), 0, 1), (12, .putfield 509, 45, 3), (15, .aload_n 0, 0, 1), (16, .getfield 503, 17, 3), (19, .iconst 0, 0, 1), (20, .aaload, 0, 1), (21, .invokevirtual 601, 48, 3), (24, .iconst 0, 0, 1), (25, .istore_n 1, 0, 1), (26, .iload_n 1, 0, 1), (27, .bipush 6, 0, 2), (29, .if_icmp .ge 45, 0, 3), (32, .aload_n 0, 0, 1), (33, .getfield 506, 27, 3), (36, .iload_n 1, 0, 1), (37, .iconst 0, 0, 1), (38, .bastore, 0, 1), (39, .iinc 1 1, 0, 3), (42, .goto 26, 0, 3), (45, .aload_n 0, 0, 1), (46, .invokevirtual 503, 51, 3), (49, .istore_n 1, 0, 1), (50, .aload_n 0, 0, 1), (51, .iconst 0, 0, 1), (52, .putfield 501, 36, 3), (55, .iload_n 1, 0, 1), (56, .ifCond .ne 68, 0, 3), (59, .sipush (-1000), 0, 3), (62, .aload_n 0, 0, 1), (63, .getfield 507, 39, 3), (66, .isub, 0, 1), (67, .ireturn, 0, 1), (68, .aload_n 0, 0, 1), (69, .getfield 509, 45, 3), (72, .iconst (-1), 0, 1), (73, .if_icmp .eq 85, 0, 3), (76, .sipush (-2000), 0, 3), (79, .aload_n 0, 0, 1), (80, .getfield 509, 45, 3), (83, .isub, 0, 1), (84, .ireturn, 0, 1), (85, .aload_n 0, 0, 1), (86, .getfield 503, 17, 3), (89, .iconst 0, 0, 1), (90, .aaload, 0, 1), (91, .invokevirtual 604, 55, 3), (94, .ifCond .eq 103, 0, 3), (97, .sipush (-3000), 0, 3), (100, .goto 104, 0, 3), (103, .iconst 0, 0, 1), (104, .ireturn, 0, 1)]
def kr502 : MR := ((⟨"LightPlate$Reader", "readTape", "()I"⟩, prog_7_method_4_code, 2, (some .int)), 1, (679, 677, 678), kc502)
def kc503 : List (Nat × Instr × Nat × Nat) := [(0, .iconst 0, 0, 1), (1, .istore_n 1, 0, 1), (2, .iload_n 1, 0, 1), (3, .bipush 100, 0, 2), (5, .if_icmp .gt 96, 0, 3), (8, .aload_n 0, 0, 1), (9, .invokevirtual 504, 58, 3), (12, .ifCond .ne 17, 0, 3), (15, .iconst 0, 0, 1), (16, .freturn, 0, 1), (17, .aload_n 0, 0, 1), (18, .getfield 510, 61, 3), (21, .ifCond .eq 27, 0, 3), (24, .goto 90, 0, 3), (27, .aload_n 0, 0, 1), (28, .getfield 508, 42, 3), (31, .istore_n 2, 0, 1), (32, .iload_n 2, 0, 1), (33, .ifCond .le 55, 0, 3), (36, .aload_n 0, 0, 1), (37, .bipush 41, 0, 2), (39, .invokevirtual 508, 65, 3), (42, .ifCond .eq 55, 0, 3), (45, .aload_n 0, 0, 1), (46, .invokevirtual 513, 69, 3), (49, .iinc 2 (-1), 0, 3), (52, .goto 32, 0, 3), (55, .aload_n 0, 0, 1), (56, .getfield 507, 39, 3), (59, .aload_n 0, 0, 1), (60, .getfield 501, 36, 3), (63, .if_icmp .lt 79, 0, 3), (66, .aload_n 0, 0, 1), (67, .getfield 508, 42, 3), (70, .ifCond .ne 77, 0, 3), (73, .iconst 1, 0, 1), (74, .goto 78, 0, 3), (77, .iconst 0, 0, 1), (78, .freturn, 0, 1), (79, .aload_n 0, 0, 1), (80, .bipush 59, 0, 2), (82, .invokevirtual 508, 65, 3), (85, .ifCond .ne 90, 0, 3), (88, .iconst 0, 0, 1), (89, .freturn, 0, 1), (90, .iinc 1 1, 0, 3), (93, .goto 2, 0, 3), (96, .iconst 0, 0, 1), (97, .freturn, 0, 1)]
def kr503 : MR := ((⟨"LightPlate$Reader", "readStatements", "()Z"⟩, prog_7_method_5_code, 3, (some .boolean)), 1, (684, 683, 11), kc503)
def kc504 : List (Nat × Instr × Nat × Nat) := [(0, .aload_n 0, 0, 1), (1, .iconst 0, 0, 1), (2, .putfield 510, 61, 3), (5, .aload_n 0, 0, 1), (6, .invokevirtual 505, 72, 3), (9, .istore_n 1, 0, 1), (10, .iload_n 1, 0, 1), (11, .bipush 116, 0, 2), (13, .if_icmp .eq 28, 0, 3), (16, .iload_n 1, 0, 1), (17, .bipush 115, 0, 2), (19, .if_icmp .eq 28, 0, 3), (22, .iload_n 1, 0, 1), (23, .bipush 117, 0, 2), (25, .if_icmp .ne 34, 0, 3), (28, .aload_n 0, 0, 1), (29, .iload_n 1, 0, 1), (30, .invokevirtual 506, 76, 3), (33, .freturn, 0, 1), (34, .iload_n 1, 0, 1), (35, .invokestatic 510, 79, 3), (38, .ifCond .eq 60, 0, 3), (41, .aload_n 0, 0, 1), (42, .dup, 0, 1), (43, .getfield 507, 39, 3), (46, .iconst 1, 0, 1), (47, .iadd, 0, 1), (48, .putfield 507, 39, 3), (51, .aload_n 0, 0, 1), (52, .iload_n 1, 0, 1), (53, .bipush 48, 0, 2), (55, .isub, 0, 1), (56, .invokevirtual 511, 82, 3), (59, .freturn, 0, 1), (60, .iload_n 1, 0, 1), (61, .bipush 97, 0, 2), (63, .if_icmp .lt 87, 0, 3), (66, .iload_n 1, 0, 1), (67, .bipush 103, 0, 2), (69, .if_icmp .ge 87, 0, 3), (72, .aload_n 0, 0, 1), (73, .iload_n 1, 0, 1), (74, .bipush 97, 0, 2), (76, .isub, 0, 1), (77, .invokevirtual 512, 85, 3), (80, .ifCond .eq 87, 0, 3), (83, .iconst 1, 0, 1), (84, .goto 88, 0, 3), (87, .iconst 0, 0, 1), (88, .freturn, 0, 1)]
def kr504 : MR := ((⟨"LightPlate$Reader", "readStatement", "()Z"⟩, prog_7_method_6_code, 2, (some .boolean)), 1, (688, 687, 12), kc504)
def kc505 : List (Nat × Instr × Nat × Nat) := [(0, .aload_n 0, 0, 1), (1, .getfield 507, 39, 3), (4, .aload_n 0, 0, 1), (5, .getfield 501, 36, 3), (8, .if_icmp .ge 23, 0, 3), (11, .aload_n 0, 0, 1), (12, .getfield 502, 9, 3), (15, .aload_n 0, 0, 1), (16, .getfield 507, 39, 3), (19, .iaload, 0, 1), (20, .goto 24, 0, 3), (23, .iconst (-1), 0, 1), (24, .ireturn, 0, 1)]
def kr505 : MR := ((⟨"LightPlate$Reader", "peek", "()I"⟩, prog_7_method_13_code, 1, (some .int)), 1, (692, 691, 13), kc505)
def kc506 : List (Nat × Instr × Nat × Nat) := [(0, .aload_n 0, 0, 1), (1, .dup, 0, 1), (2, .getfield 507, 39, 3), (5, .iconst 1, 0, 1), (6, .iadd, 0, 1), (7, .putfield 507, 39, 3), (10, .aload_n 0, 0, 1), (11, .aload_n 0, 0, 1), (12, .getfield 500, 31, 3), (15, .iconst 2, 0, 1), (16, .isub, 0, 1), (17, .invokevirtual 507, 88, 3), (20, .istore_n 2, 0, 1), (21, .iload_n 2, 0, 1), (22, .iconst (-1), 0, 1), (23, .if_icmp .ne 28, 0, 3), (26, .iconst 0, 0, 1), (27, .freturn, 0, 1), (28, .iload_n 1, 0, 1), (29, .bipush 115, 0, 2), (31, .if_icmp .ne 39, 0, 3), (34, .bipush 24, 0, 2), (36, .goto 45, 0, 3), (39, .aload_n 0, 0, 1), (40, .bipush 95, 0, 2), (42, .invokevirtual 507, 88, 3), (45, .istore_n 3, 0, 1), (46, .iload_n 3, 0, 1), (47, .iconst (-1), 0, 1), (48, .if_icmp .ne 53, 0, 3), (51, .iconst 0, 0, 1), (52, .freturn, 0, 1), (53, .aload_n 0, 0, 1), (54, .getfield 503, 17, 3), (57, .aload_n 0, 0, 1), (58, .getfield 508, 42, 3), (61, .aaload, 0, 1), (62, .iload_n 2, 0, 1), (63, .iload_n 1, 0, 1), (64, .bipush 117, 0, 2), (66, .if_icmp .ne 79, 0, 3), (69, .bipush 96, 0, 2), (71, .iload_n 3, 0, 1), (72, .isub, 0, 1), (73, .bipush 96, 0, 2), (75, .irem, 0, 1), (76, .goto 80, 0, 3), (79, .iload_n 3, 0, 1), (80, .invokevirtual 602, 92, 3), (83, .iconst 1, 0, 1), (84, .freturn, 0, 1)]
def kr506 : MR := ((⟨"LightPlate$Reader", "readTurn", "(I)Z"⟩, prog_7_method_7_code, 4, (some .boolean)), 2, (696, 695, 14), kc506)
def kc507 : List (Nat × Instr × Nat × Nat) := [(0, .aload_n 0, 0, 1), (1, .bipush 32, 0, 2), (3, .invokevirtual 508, 65, 3), (6, .ifCond .ne 11, 0, 3), (9, .iconst (-1), 0, 1), (10, .ireturn, 0, 1), (11, .aload_n 0, 0, 1), (12, .iload_n 1, 0, 1), (13, .invokevirtual 509, 96, 3), (16, .istore_n 2, 0, 1), (17, .iload_n 2, 0, 1), (18, .ifCond .le 31, 0, 3), (21, .aload_n 0, 0, 1), (22, .invokevirtual 505, 72, 3), (25, .invokestatic 510, 79, 3), (28, .ifCond .ne 33, 0, 3), (31, .iload_n 2, 0, 1), (32, .ireturn, 0, 1), (33, .aload_n 0, 0, 1), (34, .iload_n 1, 0, 1), (35, .bipush 10, 0, 2), (37, .iload_n 2, 0, 1), (38, .imul, 0, 1), (39, .isub, 0, 1), (40, .invokevirtual 509, 96, 3), (43, .istore_n 3, 0, 1), (44, .iload_n 3, 0, 1), (45, .iconst (-1), 0, 1), (46, .if_icmp .ne 53, 0, 3), (49, .iconst (-1), 0, 1), (50, .goto 59, 0, 3), (53, .bipush 10, 0, 2), (55, .iload_n 2, 0, 1), (56, .imul, 0, 1), (57, .iload_n 3, 0, 1), (58, .iadd, 0, 1), (59, .ireturn, 0, 1)]
def kr507 : MR := ((⟨"LightPlate$Reader", "readNumber", "(I)I"⟩, prog_7_method_8_code, 4, (some .int)), 2, (700, 699, 15), kc507)
def kc508 : List (Nat × Instr × Nat × Nat) := [(0, .aload_n 0, 0, 1), (1, .invokevirtual 505, 72, 3), (4, .iload_n 1, 0, 1), (5, .if_icmp .eq 10, 0, 3), (8, .iconst 0, 0, 1), (9, .freturn, 0, 1), (10, .aload_n 0, 0, 1), (11, .dup, 0, 1), (12, .getfield 507, 39, 3), (15, .iconst 1, 0, 1), (16, .iadd, 0, 1), (17, .putfield 507, 39, 3), (20, .iconst 1, 0, 1), (21, .freturn, 0, 1)]
def kr508 : MR := ((⟨"LightPlate$Reader", "takes", "(I)Z"⟩, prog_7_method_14_code, 2, (some .boolean)), 2, (704, 703, 16), kc508)
def kc509 : List (Nat × Instr × Nat × Nat) := [(0, .aload_n 0, 0, 1), (1, .invokevirtual 505, 72, 3), (4, .istore_n 2, 0, 1), (5, .iload_n 2, 0, 1), (6, .invokestatic 510, 79, 3), (9, .ifCond .eq 20, 0, 3), (12, .iload_n 2, 0, 1), (13, .bipush 48, 0, 2), (15, .isub, 0, 1), (16, .iload_n 1, 0, 1), (17, .if_icmp .le 22, 0, 3), (20, .iconst (-1), 0, 1), (21, .ireturn, 0, 1), (22, .aload_n 0, 0, 1), (23, .dup, 0, 1), (24, .getfield 507, 39, 3), (27, .iconst 1, 0, 1), (28, .iadd, 0, 1), (29, .putfield 507, 39, 3), (32, .iload_n 2, 0, 1), (33, .bipush 48, 0, 2), (35, .isub, 0, 1), (36, .ireturn, 0, 1)]
def kr509 : MR := ((⟨"LightPlate$Reader", "digitUpTo", "(I)I"⟩, prog_7_method_9_code, 3, (some .int)), 2, (708, 707, 17), kc509)
def kc510 : List (Nat × Instr × Nat × Nat) := [(0, .iload_n 0, 0, 1), (1, .bipush 48, 0, 2), (3, .if_icmp .lt 16, 0, 3), (6, .iload_n 0, 0, 1), (7, .bipush 57, 0, 2), (9, .if_icmp .gt 16, 0, 3), (12, .iconst 1, 0, 1), (13, .goto 17, 0, 3), (16, .iconst 0, 0, 1), (17, .freturn, 0, 1)]
def kr510 : MR := ((⟨"LightPlate$Reader", "isDigit", "(I)Z"⟩, prog_7_method_15_code, 1, (some .boolean)), 1, (711, 710, 9999), kc510)
def kc511 : List (Nat × Instr × Nat × Nat) := [(0, .aload_n 0, 0, 1), (1, .getfield 508, 42, 3), (4, .bipush 50, 0, 2), (6, .if_icmp .ge 18, 0, 3), (9, .aload_n 0, 0, 1), (10, .bipush 40, 0, 2), (12, .invokevirtual 508, 65, 3), (15, .ifCond .ne 20, 0, 3), (18, .iconst 0, 0, 1), (19, .freturn, 0, 1), (20, .aload_n 0, 0, 1), (21, .dup, 0, 1), (22, .getfield 508, 42, 3), (25, .iconst 1, 0, 1), (26, .iadd, 0, 1), (27, .putfield 508, 42, 3), (30, .aload_n 0, 0, 1), (31, .getfield 503, 17, 3), (34, .aload_n 0, 0, 1), (35, .getfield 508, 42, 3), (38, .aaload, 0, 1), (39, .invokevirtual 601, 48, 3), (42, .aload_n 0, 0, 1), (43, .getfield 504, 21, 3), (46, .aload_n 0, 0, 1), (47, .getfield 508, 42, 3), (50, .iload_n 1, 0, 1), (51, .iastore, 0, 1), (52, .aload_n 0, 0, 1), (53, .iconst 1, 0, 1), (54, .putfield 510, 61, 3), (57, .iconst 1, 0, 1), (58, .freturn, 0, 1)]
def kr511 : MR := ((⟨"LightPlate$Reader", "openBracket", "(I)Z"⟩, prog_7_method_11_code, 2, (some .boolean)), 2, (716, 715, 18), kc511)
def kc512 : List (Nat × Instr × Nat × Nat) := [(0, .aload_n 0, 0, 1), (1, .getfield 507, 39, 3), (4, .istore_n 2, 0, 1), (5, .aload_n 0, 0, 1), (6, .dup, 0, 1), (7, .getfield 507, 39, 3), (10, .iconst 1, 0, 1), (11, .iadd, 0, 1), (12, .putfield 507, 39, 3), (15, .aload_n 0, 0, 1), (16, .bipush 61, 0, 2), (18, .invokevirtual 508, 65, 3), (21, .ifCond .eq 33, 0, 3), (24, .aload_n 0, 0, 1), (25, .bipush 10, 0, 2), (27, .iload_n 1, 0, 1), (28, .iadd, 0, 1), (29, .invokevirtual 511, 82, 3), (32, .freturn, 0, 1), (33, .aload_n 0, 0, 1), (34, .getfield 506, 27, 3), (37, .iload_n 1, 0, 1), (38, .baload, 0, 1), (39, .ifCond .eq 63, 0, 3), (42, .aload_n 0, 0, 1), (43, .getfield 503, 17, 3), (46, .aload_n 0, 0, 1), (47, .getfield 508, 42, 3), (50, .aaload, 0, 1), (51, .aload_n 0, 0, 1), (52, .getfield 505, 24, 3), (55, .iload_n 1, 0, 1), (56, .aaload, 0, 1), (57, .invokevirtual 603, 99, 3), (60, .goto 76, 0, 3), (63, .aload_n 0, 0, 1), (64, .getfield 509, 45, 3), (67, .iconst (-1), 0, 1), (68, .if_icmp .ne 76, 0, 3), (71, .aload_n 0, 0, 1), (72, .iload_n 2, 0, 1), (73, .putfield 509, 45, 3), (76, .iconst 1, 0, 1), (77, .freturn, 0, 1)]
def kr512 : MR := ((⟨"LightPlate$Reader", "readName", "(I)Z"⟩, prog_7_method_10_code, 3, (some .boolean)), 2, (720, 719, 19), kc512)
def kc513 : List (Nat × Instr × Nat × Nat) := [(0, .aload_n 0, 0, 1), (1, .getfield 503, 17, 3), (4, .aload_n 0, 0, 1), (5, .getfield 508, 42, 3), (8, .aaload, 0, 1), (9, .astore_n 1, 0, 1), (10, .aload_n 0, 0, 1), (11, .getfield 504, 21, 3), (14, .aload_n 0, 0, 1), (15, .getfield 508, 42, 3), (18, .iaload, 0, 1), (19, .istore_n 2, 0, 1), (20, .aload_n 0, 0, 1), (21, .dup, 0, 1), (22, .getfield 508, 42, 3), (25, .iconst 1, 0, 1), (26, .isub, 0, 1), (27, .putfield 508, 42, 3), (30, .iload_n 2, 0, 1), (31, .bipush 10, 0, 2), (33, .if_icmp .lt 62, 0, 3), (36, .aload_n 0, 0, 1), (37, .getfield 505, 24, 3), (40, .iload_n 2, 0, 1), (41, .bipush 10, 0, 2), (43, .isub, 0, 1), (44, .aaload, 0, 1), (45, .aload_n 1, 0, 1), (46, .invokevirtual 605, 103, 3), (49, .aload_n 0, 0, 1), (50, .getfield 506, 27, 3), (53, .iload_n 2, 0, 1), (54, .bipush 10, 0, 2), (56, .isub, 0, 1), (57, .iconst 1, 0, 1), (58, .bastore, 0, 1), (59, .goto 88, 0, 3), (62, .iconst 0, 0, 1), (63, .istore_n 3, 0, 1), (64, .iload_n 3, 0, 1), (65, .iload_n 2, 0, 1), (66, .if_icmp .ge 88, 0, 3), (69, .aload_n 0, 0, 1), (70, .getfield 503, 17, 3), (73, .aload_n 0, 0, 1), (74, .getfield 508, 42, 3), (77, .aaload, 0, 1), (78, .aload_n 1, 0, 1), (79, .invokevirtual 603, 99, 3), (82, .iinc 3 1, 0, 3), (85, .goto 64, 0, 3), (88, .return_, 0, 1)]
def kr513 : MR := ((⟨"LightPlate$Reader", "closeBracket", "()V"⟩, prog_7_method_12_code, 4, none), 1, (733, 732, 20), kc513)
def kc514 : List (Nat × Instr × Nat × Nat) := [(0, .aload_n 0, 0, 1), (1, .getfield 503, 17, 3), (4, .iconst 0, 0, 1), (5, .aaload, 0, 1), (6, .areturn, 0, 1)]
def kr514 : MR := ((⟨"LightPlate$Reader", "result", "()LLightPlate$Row;"⟩, prog_7_method_3_code, 1, (some (.object "LightPlate$Row"))), 1, (744, 742, 743), kc514)
def kc600 : List (Nat × Instr × Nat × Nat) := [(0, .aload_n 0, 0, 1), (1, .monitorexit, 3, 3), (4, .aload_n 0, 0, 1), (5, .bipush 10, 0, 2), (7, .newarray .int, 0, 2), (9, .putfield 600, 9, 3), (12, .aload_n 0, 0, 1), (13, .bipush 10, 0, 2), (15, .newarray .int, 0, 2), (17, .putfield 601, 15, 3), (20, .return_, 0, 1)]
def kr600 : MR := ((⟨"LightPlate$Row", "<init>", "()V"⟩, prog_8_method_1_code, 1, none), 1, (195, 194, 9999), kc600)
def kc601 : List (Nat × Instr × Nat × Nat) := [(0, .aload_n 0, 0, 1), (1, .iconst 0, 0, 1), (2, .putfield 602, 18, 3), (5, .return_, 0, 1)]
def kr601 : MR := ((⟨"LightPlate$Row", "clear", "()V"⟩, prog_8_method_2_code, 1, none), 1, (606, 604, 605), kc601)
def kc602 : List (Nat × Instr × Nat × Nat) := [(0, .aload_n 0, 0, 1), (1, .getfield 602, 18, 3), (4, .bipush 10, 0, 2), (6, .if_icmp .lt 16, 0, 3), (9, .aload_n 0, 0, 1), (10, .bipush 11, 0, 2), (12, .putfield 602, 18, 3), (15, .return_, 0, 1), (16, .aload_n 0, 0, 1), (17, .getfield 600, 9, 3), (20, .aload_n 0, 0, 1), (21, .getfield 602, 18, 3), (24, .iload_n 1, 0, 1), (25, .iastore, 0, 1), (26, .aload_n 0, 0, 1), (27, .getfield 601, 15, 3), (30, .aload_n 0, 0, 1), (31, .getfield 602, 18, 3), (34, .iload_n 2, 0, 1), (35, .iastore, 0, 1), (36, .aload_n 0, 0, 1), (37, .dup, 0, 1), (38, .getfield 602, 18, 3), (41, .iconst 1, 0, 1), (42, .iadd, 0, 1), (43, .putfield 602, 18, 3), (46, .return_, 0, 1)]
def kr602 : MR := ((⟨"LightPlate$Row", "add", "(II)V"⟩, prog_8_method_4_code, 3, none), 3, (610, 608, 609), kc602)
def kc603 : List (Nat × Instr × Nat × Nat) := [(0, .aload_n 1, 0, 1), (1, .invokevirtual 604, 22, 3), (4, .ifCond .eq 14, 0, 3), (7, .aload_n 0, 0, 1), (8, .bipush 11, 0, 2), (10, .putfield 602, 18, 3), (13, .return_, 0, 1), (14, .iconst 0, 0, 1), (15, .istore_n 2, 0, 1), (16, .iload_n 2, 0, 1), (17, .aload_n 1, 0, 1), (18, .getfield 602, 18, 3), (21, .if_icmp .ge 46, 0, 3), (24, .aload_n 0, 0, 1), (25, .aload_n 1, 0, 1), (26, .getfield 600, 9, 3), (29, .iload_n 2, 0, 1), (30, .iaload, 0, 1), (31, .aload_n 1, 0, 1), (32, .getfield 601, 15, 3), (35, .iload_n 2, 0, 1), (36, .iaload, 0, 1), (37, .invokevirtual 602, 26, 3), (40, .iinc 2 1, 0, 3), (43, .goto 16, 0, 3), (46, .return_, 0, 1)]
def kr603 : MR := ((⟨"LightPlate$Row", "addAll", "(LLightPlate$Row;)V"⟩, prog_8_method_5_code, 3, none), 2, (724, 722, 723), kc603)
def kc604 : List (Nat × Instr × Nat × Nat) := [(0, .aload_n 0, 0, 1), (1, .getfield 602, 18, 3), (4, .bipush 11, 0, 2), (6, .if_icmp .lt 13, 0, 3), (9, .iconst 1, 0, 1), (10, .goto 14, 0, 3), (13, .iconst 0, 0, 1), (14, .freturn, 0, 1)]
def kr604 : MR := ((⟨"LightPlate$Row", "isTooLong", "()Z"⟩, prog_8_method_3_code, 1, (some .boolean)), 1, (728, 726, 727), kc604)
def kc605 : List (Nat × Instr × Nat × Nat) := [(0, .aload_n 0, 0, 1), (1, .invokevirtual 601, 30, 3), (4, .aload_n 0, 0, 1), (5, .aload_n 1, 0, 1), (6, .invokevirtual 603, 33, 3), (9, .return_, 0, 1)]
def kr605 : MR := ((⟨"LightPlate$Row", "copy", "(LLightPlate$Row;)V"⟩, prog_8_method_6_code, 2, none), 2, (737, 735, 736), kc605)
def kc700 : List (Nat × Instr × Nat × Nat) := [(0, .aload_n 0, 0, 1), (1, .monitorexit, 3, 3), (4, .aload_n 0, 0, 1), (5, .bipush 40, 0, 2), (7, .bipush 6, 0, 2), (9, .multianewarray 0 2, 9, 4), (13, .putfield 704, 11, 3), (16, .aload_n 0, 0, 1), (17, .bipush 40, 0, 2), (19, .bipush 6, 0, 2), (21, .multianewarray 0 2, 9, 4), (25, .putfield 705, 16, 3), (28, .aload_n 0, 0, 1), (29, .bipush 40, 0, 2), (31, .bipush 36, 0, 2), (33, .multianewarray 0 2, 9, 4), (37, .putfield 706, 19, 3), (40, .aload_n 0, 0, 1), (41, .bipush 36, 0, 2), (43, .newarray .int, 0, 2), (45, .putfield 707, 22, 3), (48, .aload_n 0, 0, 1), (49, .bipush 36, 0, 2), (51, .newarray .int, 0, 2), (53, .putfield 708, 26, 3), (56, .aload_n 0, 0, 1), (57, .bipush 6, 0, 2), (59, .newarray .int, 0, 2), (61, .putfield 709, 29, 3), (64, .aload_n 0, 0, 1), (65, .aload_n 1, 0, 1), (66, .putfield 700, 32, 3), (69, .aload_n 0, 0, 1), (70, .aload_n 2, 0, 1), (71, .putfield 701, 36, 3), (74, .lconst 1, 0, 1), (75, .lstore_n 3, 0, 1), (76, .iconst 0, 0, 1), (77, .istore 5, 0, 2), (79, .iload 5, 0, 2), (81, .aload_n 1, 0, 1), (82, .getfield 300, 40, 3), (85, .if_icmp .ge 100, 0, 3), (88, .lload_n 3, 0, 1), (89, .jsr_w 97, 46, 3), (92, .lmul, 0, 1), (93, .lstore_n 3, 0, 1), (94, .iinc 5 1, 0, 3), (97, .goto 79, 0, 3), (100, .aload_n 0, 0, 1), (101, .lload_n 3, 0, 1), (102, .putfield 702, 48, 3), (105, .return_, 0, 1)]
def kr700 : MR := ((⟨"LightPlate$Runs", "<init>", "(LLightPlate$Plate;LLightPlate$Log;)V"⟩, prog_9_method_1_code, 6, none), 3, (314, 313, 9999), kc700)
def kc701 : List (Nat × Instr × Nat × Nat) := [(0, .aload_n 0, 0, 1), (1, .getfield 703, 52, 3), (4, .istore_n 3, 0, 1), (5, .aload_n 0, 0, 1), (6, .dup, 0, 1), (7, .getfield 703, 52, 3), (10, .iconst 1, 0, 1), (11, .iadd, 0, 1), (12, .putfield 703, 52, 3), (15, .lload_n 1, 0, 1), (16, .lstore 4, 0, 2), (18, .iconst 0, 0, 1), (19, .istore 6, 0, 2), (21, .iload 6, 0, 2), (23, .aload_n 0, 0, 1), (24, .getfield 700, 32, 3), (27, .getfield 300, 40, 3), (30, .if_icmp .ge 63, 0, 3), (33, .aload_n 0, 0, 1), (34, .getfield 705, 16, 3), (37, .iload_n 3, 0, 1), (38, .aaload, 0, 1), (39, .iload 6, 0, 2), (41, .lload 4, 0, 2), (43, .jsr_w 97, 46, 3), (46, .lrem, 0, 1), (47, .l2i, 0, 1), (48, .iastore, 0, 1), (49, .lload 4, 0, 2), (51, .jsr_w 97, 46, 3), (54, .ldiv, 0, 1), (55, .lstore 4, 0, 2), (57, .iinc 6 1, 0, 3), (60, .goto 21, 0, 3), (63, .aload_n 0, 0, 1), (64, .getfield 700, 32, 3), (67, .getfield 303, 55, 3), (70, .iconst 0, 0, 1), (71, .aload_n 0, 0, 1), (72, .getfield 706, 19, 3), (75, .iload_n 3, 0, 1), (76, .aaload, 0, 1), (77, .iconst 0, 0, 1), (78, .bipush 36, 0, 2), (80, .monitorenter, 58, 3), (83, .aload_n 0, 0, 1), (84, .getfield 705, 16, 3), (87, .iload_n 3, 0, 1), (88, .aaload, 0, 1), (89, .iconst 0, 0, 1), (90, .aload_n 0, 0, 1), (91, .getfield 704, 11, 3), (94, .iload_n 3, 0, 1), (95, .aaload, 0, 1), (96, .iconst 0, 0, 1), (97, .bipush 6, 0, 2), (99, .monitorenter, 58, 3), (102, .aload_n 0, 0, 1), (103, .getfield 700, 32, 3), (106, .aload_n 0, 0, 1), (107, .getfield 700, 32, 3), (110, .getfield 303, 55, 3), (113, .aload_n 0, 0, 1), (114, .getfield 700, 32, 3), (117, .getfield 305, 64, 3), (120, .aload_n 0, 0, 1), (121, .getfield 707, 22, 3), (124, .invokevirtual 309, 67, 3), (127, .aload_n 0, 0, 1), (128, .getfield 700, 32, 3), (131, .aload_n 0, 0, 1), (132, .getfield 704, 11, 3), (135, .iload_n 3, 0, 1), (136, .aaload, 0, 1), (137, .aload_n 0, 0, 1), (138, .getfield 707, 22, 3), (141, .iconst 0, 0, 1), (142, .bipush 12, 0, 2), (144, .invokevirtual 307, 71, 3), (147, .iload_n 3, 0, 1), (148, .ireturn, 0, 1)]
def kr701 : MR := ((⟨"LightPlate$Runs", "send", "(J)I"⟩, prog_9_method_3_code, 7, (some .int)), 2, (764, 762, 763), kc701)
def kc702 : List (Nat × Instr × Nat × Nat) := [(0, .iload_n 1, 0, 1), (1, .ifCond .lt 16, 0, 3), (4, .iload_n 1, 0, 1), (5, .aload_n 0, 0, 1), (6, .getfield 703, 52, 3), (9, .if_icmp .ge 16, 0, 3), (12, .iconst 1, 0, 1), (13, .goto 17, 0, 3), (16, .iconst 0, 0, 1), (17, .freturn, 0, 1)]
def kr702 : MR := ((⟨"LightPlate$Runs", "has", "(I)Z"⟩, prog_9_method_2_code, 2, (some .boolean)), 2, (779, 777, 778), kc702)
def kc703 : List (Nat × Instr × Nat × Nat) := [(0, .aload_n 0, 0, 1), (1, .getfield 701, 36, 3), (4, .iload_n 1, 0, 1), (5, .aload_n 0, 0, 1), (6, .getfield 708, 26, 3), (9, .invokevirtual 203, 75, 3), (12, .aload_n 0, 0, 1), (13, .getfield 700, 32, 3), (16, .aload_n 0, 0, 1), (17, .getfield 706, 19, 3), (20, .iload_n 1, 0, 1), (21, .aaload, 0, 1), (22, .aload_n 0, 0, 1), (23, .getfield 708, 26, 3), (26, .aload_n 0, 0, 1), (27, .getfield 707, 22, 3), (30, .invokevirtual 309, 67, 3), (33, .aload_n 0, 0, 1), (34, .getfield 705, 16, 3), (37, .iload_n 1, 0, 1), (38, .aaload, 0, 1), (39, .iconst 0, 0, 1), (40, .aload_n 0, 0, 1), (41, .getfield 709, 29, 3), (44, .iconst 0, 0, 1), (45, .bipush 6, 0, 2), (47, .monitorenter, 58, 3), (50, .aload_n 0, 0, 1), (51, .getfield 700, 32, 3), (54, .aload_n 0, 0, 1), (55, .getfield 709, 29, 3), (58, .aload_n 0, 0, 1), (59, .getfield 707, 22, 3), (62, .iconst 0, 0, 1), (63, .bipush 12, 0, 2), (65, .invokevirtual 307, 71, 3), (68, .aload_n 0, 0, 1), (69, .getfield 709, 29, 3), (72, .areturn, 0, 1)]
def kr703 : MR := ((⟨"LightPlate$Runs", "rework", "(I)[I"⟩, prog_9_method_4_code, 2, (some (.array .int))), 2, (787, 785, 786), kc703)
def kc704 : List (Nat × Instr × Nat × Nat) := [(0, .aload_n 0, 0, 1), (1, .iload_n 1, 0, 1), (2, .invokevirtual 703, 81, 3), (5, .astore_n 2, 0, 1), (6, .iconst 0, 0, 1), (7, .istore_n 3, 0, 1), (8, .iload_n 3, 0, 1), (9, .aload_n 0, 0, 1), (10, .getfield 700, 32, 3), (13, .getfield 300, 40, 3), (16, .if_icmp .ge 41, 0, 3), (19, .aload_n 2, 0, 1), (20, .iload_n 3, 0, 1), (21, .iaload, 0, 1), (22, .aload_n 0, 0, 1), (23, .getfield 704, 11, 3), (26, .iload_n 1, 0, 1), (27, .aaload, 0, 1), (28, .iload_n 3, 0, 1), (29, .iaload, 0, 1), (30, .if_icmp .eq 35, 0, 3), (33, .iconst 0, 0, 1), (34, .freturn, 0, 1), (35, .iinc 3 1, 0, 3), (38, .goto 8, 0, 3), (41, .iconst 1, 0, 1), (42, .freturn, 0, 1)]
def kr704 : MR := ((⟨"LightPlate$Runs", "standsReworked", "(I)Z"⟩, prog_9_method_5_code, 4, (some .boolean)), 2, (800, 798, 799), kc704)
def kc800 : List (Nat × Instr × Nat × Nat) := [(0, .aload_n 0, 0, 1), (1, .monitorexit, 3, 3), (4, .aload_n 0, 0, 1), (5, .bipush 15, 0, 2), (7, .newarray .int, 0, 2), (9, .putfield 804, 9, 3), (12, .aload_n 0, 0, 1), (13, .bipush 15, 0, 2), (15, .newarray .int, 0, 2), (17, .putfield 805, 15, 3), (20, .aload_n 0, 0, 1), (21, .iload_n 1, 0, 1), (22, .putfield 800, 18, 3), (25, .aload_n 0, 0, 1), (26, .aload_n 2, 0, 1), (27, .putfield 801, 22, 3), (30, .aload_n 0, 0, 1), (31, .iload_n 1, 0, 1), (32, .iload_n 1, 0, 1), (33, .multianewarray 0 2, 26, 4), (37, .putfield 802, 28, 3), (40, .aload_n 0, 0, 1), (41, .iload_n 1, 0, 1), (42, .iload_n 1, 0, 1), (43, .multianewarray 0 2, 26, 4), (47, .putfield 803, 31, 3), (50, .return_, 0, 1)]
def kr800 : MR := ((⟨"LightPlate$Told", "<init>", "(ILLightPlate$Circle;)V"⟩, prog_10_method_1_code, 3, none), 3, (156, 155, 9999), kc800)
def kc801 : List (Nat × Instr × Nat × Nat) := [(0, .iconst 0, 0, 1), (1, .istore_n 3, 0, 1), (2, .iconst 0, 0, 1), (3, .istore 4, 0, 2), (5, .iload 4, 0, 2), (7, .aload_n 0, 0, 1), (8, .getfield 800, 18, 3), (11, .if_icmp .ge 51, 0, 3), (14, .aload_n 0, 0, 1), (15, .getfield 802, 28, 3), (18, .iload_n 1, 0, 1), (19, .aaload, 0, 1), (20, .iload 4, 0, 2), (22, .iaload, 0, 1), (23, .aload_n 2, 0, 1), (24, .iload 4, 0, 2), (26, .iaload, 0, 1), (27, .if_icmp .eq 32, 0, 3), (30, .iconst 1, 0, 1), (31, .istore_n 3, 0, 1), (32, .aload_n 0, 0, 1), (33, .getfield 802, 28, 3), (36, .iload_n 1, 0, 1), (37, .aaload, 0, 1), (38, .iload 4, 0, 2), (40, .aload_n 2, 0, 1), (41, .iload 4, 0, 2), (43, .iaload, 0, 1), (44, .iastore, 0, 1), (45, .iinc 4 1, 0, 3), (48, .goto 5, 0, 3), (51, .iload_n 3, 0, 1), (52, .freturn, 0, 1)]
def kr801 : MR := ((⟨"LightPlate$Told", "replaceColumn", "(I[I)Z"⟩, prog_10_method_2_code, 5, (some .boolean)), 3, (550, 548, 549), kc801)
def kc802 : List (Nat × Instr × Nat × Nat) := [(0, .iconst 0, 0, 1), (1, .istore_n 1, 0, 1), (2, .iload_n 1, 0, 1), (3, .aload_n 0, 0, 1), (4, .getfield 800, 18, 3), (7, .if_icmp .ge 63, 0, 3), (10, .iload_n 1, 0, 1), (11, .istore_n 2, 0, 1), (12, .iload_n 2, 0, 1), (13, .aload_n 0, 0, 1), (14, .getfield 800, 18, 3), (17, .if_icmp .ge 57, 0, 3), (20, .aload_n 0, 0, 1), (21, .aload_n 0, 0, 1), (22, .getfield 802, 28, 3), (25, .iload_n 1, 0, 1), (26, .aaload, 0, 1), (27, .aload_n 0, 0, 1), (28, .getfield 802, 28, 3), (31, .iload_n 2, 0, 1), (32, .aaload, 0, 1), (33, .invokevirtual 803, 34, 3), (36, .iload_n 1, 0, 1), (37, .iload_n 2, 0, 1), (38, .if_icmp .ne 45, 0, 3), (41, .iconst 1, 0, 1), (42, .goto 46, 0, 3), (45, .iconst 0, 0, 1), (46, .if_icmp .eq 51, 0, 3), (49, .iconst 0, 0, 1), (50, .freturn, 0, 1), (51, .iinc 2 1, 0, 3), (54, .goto 12, 0, 3), (57, .iinc 1 1, 0, 3), (60, .goto 2, 0, 3), (63, .iconst 1, 0, 1), (64, .freturn, 0, 1)]
def kr802 : MR := ((⟨"LightPlate$Told", "isRight", "()Z"⟩, prog_10_method_3_code, 3, (some .boolean)), 1, (558, 556, 557), kc802)
def kc803 : List (Nat × Instr × Nat × Nat) := [(0, .iconst 0, 0, 1), (1, .istore_n 3, 0, 1), (2, .iconst 0, 0, 1), (3, .istore 4, 0, 2), (5, .iload 4, 0, 2), (7, .aload_n 0, 0, 1), (8, .getfield 800, 18, 3), (11, .if_icmp .ge 32, 0, 3), (14, .iload_n 3, 0, 1), (15, .aload_n 1, 0, 1), (16, .iload 4, 0, 2), (18, .iaload, 0, 1), (19, .aload_n 2, 0, 1), (20, .iload 4, 0, 2), (22, .iaload, 0, 1), (23, .imul, 0, 1), (24, .iadd, 0, 1), (25, .istore_n 3, 0, 1), (26, .iinc 4 1, 0, 3), (29, .goto 5, 0, 3), (32, .iload_n 3, 0, 1), (33, .bipush 97, 0, 2), (35, .irem, 0, 1), (36, .ireturn, 0, 1)]
def kr803 : MR := ((⟨"LightPlate$Told", "product", "([I[I)I"⟩, prog_10_method_9_code, 5, (some .int)), 3, (562, 561, 2), kc803)
def kc804 : List (Nat × Instr × Nat × Nat) := [(0, .iconst 0, 0, 1), (1, .istore_n 1, 0, 1), (2, .iload_n 1, 0, 1), (3, .aload_n 0, 0, 1), (4, .getfield 800, 18, 3), (7, .if_icmp .ge 37, 0, 3), (10, .aload_n 0, 0, 1), (11, .getfield 802, 28, 3), (14, .iload_n 1, 0, 1), (15, .aaload, 0, 1), (16, .iconst 0, 0, 1), (17, .aload_n 0, 0, 1), (18, .getfield 803, 31, 3), (21, .iload_n 1, 0, 1), (22, .aaload, 0, 1), (23, .iconst 0, 0, 1), (24, .aload_n 0, 0, 1), (25, .getfield 800, 18, 3), (28, .monitorenter, 41, 3), (31, .iinc 1 1, 0, 3), (34, .goto 2, 0, 3), (37, .aload_n 0, 0, 1), (38, .iconst 0, 0, 1), (39, .putfield 806, 38, 3), (42, .aload_n 0, 0, 1), (43, .iconst 0, 0, 1), (44, .putfield 807, 47, 3), (47, .iconst 0, 0, 1), (48, .istore_n 1, 0, 1), (49, .iload_n 1, 0, 1), (50, .aload_n 0, 0, 1), (51, .getfield 800, 18, 3), (54, .iconst 1, 0, 1), (55, .isub, 0, 1), (56, .if_icmp .ge 124, 0, 3), (59, .aload_n 0, 0, 1), (60, .getfield 800, 18, 3), (63, .iconst 1, 0, 1), (64, .isub, 0, 1), (65, .istore_n 2, 0, 1), (66, .iload_n 2, 0, 1), (67, .iload_n 1, 0, 1), (68, .if_icmp .le 118, 0, 3), (71, .aload_n 0, 0, 1), (72, .getfield 801, 22, 3), (75, .aload_n 0, 0, 1), (76, .getfield 803, 31, 3), (79, .iload_n 1, 0, 1), (80, .aaload, 0, 1), (81, .iload_n 2, 0, 1), (82, .iconst 1, 0, 1), (83, .isub, 0, 1), (84, .iaload, 0, 1), (85, .aload_n 0, 0, 1), (86, .getfield 803, 31, 3), (89, .iload_n 1, 0, 1), (90, .aaload, 0, 1), (91, .iload_n 2, 0, 1), (92, .iaload, 0, 1), (93, .invokevirtual 2, 51, 3), (96, .istore_n 3, 0, 1), (97, .iload_n 3, 0, 1), (98, .iconst (-1), 0, 1), (99, .if_icmp .ne 104, 0, 3), (102, .iconst 0, 0, 1), (103, .freturn, 0, 1), (104, .aload_n 0, 0, 1), (105, .iload_n 2, 0, 1), (106, .iconst 1, 0, 1), (107, .isub, 0, 1), (108, .iload_n 3, 0, 1), (109, .invokevirtual 805, 57, 3), (112, .iinc 2 (-1), 0, 3), (115, .goto 66, 0, 3), (118, .iinc 1 1, 0, 3), (121, .goto 49, 0, 3), (124, .aload_n 0, 0, 1), (125, .iconst 1, 0, 1), (126, .putfield 807, 47, 3), (129, .iconst 1, 0, 1), (130, .freturn, 0, 1)]
def kr804 : MR := ((⟨"LightPlate$Told", "splitIntoSteps", "()Z"⟩, prog_10_method_5_code, 4, (some .boolean)), 1, (570, 568, 569), kc804)
def kc805 : List (Nat × Instr × Nat × Nat) := [(0, .iconst 0, 0, 1), (1, .istore_n 3, 0, 1), (2, .iload_n 3, 0, 1), (3, .aload_n 0, 0, 1), (4, .getfield 800, 18, 3), (7, .if_icmp .ge 31, 0, 3), (10, .aload_n 0, 0, 1), (11, .getfield 801, 22, 3), (14, .aload_n 0, 0, 1), (15, .getfield 803, 31, 3), (18, .iload_n 3, 0, 1), (19, .aaload, 0, 1), (20, .iload_n 1, 0, 1), (21, .iload_n 2, 0, 1), (22, .invokevirtual 1, 69, 3), (25, .iinc 3 1, 0, 3), (28, .goto 2, 0, 3), (31, .aload_n 0, 0, 1), (32, .getfield 804, 9, 3), (35, .aload_n 0, 0, 1), (36, .getfield 806, 38, 3), (39, .iload_n 1, 0, 1), (40, .iastore, 0, 1), (41, .aload_n 0, 0, 1), (42, .getfield 805, 15, 3), (45, .aload_n 0, 0, 1), (46, .getfield 806, 38, 3), (49, .iload_n 2, 0, 1), (50, .iastore, 0, 1), (51, .aload_n 0, 0, 1), (52, .dup, 0, 1), (53, .getfield 806, 38, 3), (56, .iconst 1, 0, 1), (57, .iadd, 0, 1), (58, .putfield 806, 38, 3), (61, .return_, 0, 1)]
def kr805 : MR := ((⟨"LightPlate$Told", "addStep", "(II)V"⟩, prog_10_method_8_code, 4, none), 3, (581, 580, 3), kc805)
def kc806 : List (Nat × Instr × Nat × Nat) := [(0, .iload_n 1, 0, 1), (1, .ifCond .lt 16, 0, 3), (4, .iload_n 1, 0, 1), (5, .aload_n 0, 0, 1), (6, .getfield 806, 38, 3), (9, .if_icmp .ge 16, 0, 3), (12, .iconst 1, 0, 1), (13, .goto 17, 0, 3), (16, .iconst 0, 0, 1), (17, .freturn, 0, 1)]
def kr806 : MR := ((⟨"LightPlate$Told", "isStep", "(I)Z"⟩, prog_10_method_4_code, 2, (some .boolean)), 2, (590, 588, 589), kc806)
def kc807 : List (Nat × Instr × Nat × Nat) := [(0, .iconst 0, 0, 1), (1, .istore_n 1, 0, 1), (2, .iconst 0, 0, 1), (3, .istore_n 2, 0, 1), (4, .iload_n 2, 0, 1), (5, .aload_n 0, 0, 1), (6, .getfield 806, 38, 3), (9, .if_icmp .ge 30, 0, 3), (12, .aload_n 0, 0, 1), (13, .getfield 805, 15, 3), (16, .iload_n 2, 0, 1), (17, .iaload, 0, 1), (18, .ifCond .le 24, 0, 3), (21, .iinc 1 1, 0, 3), (24, .iinc 2 1, 0, 3), (27, .goto 4, 0, 3), (30, .iload_n 1, 0, 1), (31, .ireturn, 0, 1)]
def kr807 : MR := ((⟨"LightPlate$Told", "stepsAboveZero", "()I"⟩, prog_10_method_6_code, 3, (some .int)), 1, (598, 596, 597), kc807)
def kc808 : List (Nat × Instr × Nat × Nat) := [(0, .aload_n 1, 0, 1), (1, .invokevirtual 601, 61, 3), (4, .aload_n 0, 0, 1), (5, .getfield 806, 38, 3), (8, .iconst 1, 0, 1), (9, .isub, 0, 1), (10, .istore_n 2, 0, 1), (11, .iload_n 2, 0, 1), (12, .ifCond .lt 49, 0, 3), (15, .aload_n 0, 0, 1), (16, .getfield 805, 15, 3), (19, .iload_n 2, 0, 1), (20, .iaload, 0, 1), (21, .ifCond .le 43, 0, 3), (24, .aload_n 1, 0, 1), (25, .aload_n 0, 0, 1), (26, .getfield 804, 9, 3), (29, .iload_n 2, 0, 1), (30, .iaload, 0, 1), (31, .bipush 96, 0, 2), (33, .aload_n 0, 0, 1), (34, .getfield 805, 15, 3), (37, .iload_n 2, 0, 1), (38, .iaload, 0, 1), (39, .isub, 0, 1), (40, .invokevirtual 602, 66, 3), (43, .iinc 2 (-1), 0, 3), (46, .goto 11, 0, 3), (49, .return_, 0, 1)]
def kr808 : MR := ((⟨"LightPlate$Told", "putUndoing", "(LLightPlate$Row;)V"⟩, prog_10_method_7_code, 3, none), 2, (602, 600, 601), kc808)
def kc900 : List (Nat × Instr × Nat × Nat) := [(0, .aload_n 0, 0, 1), (1, .monitorexit, 3, 3), (4, .aload_n 0, 0, 1), (5, .bipush 36, 0, 2), (7, .newarray .int, 0, 2), (9, .putfield 901, 9, 3), (12, .aload_n 0, 0, 1), (13, .bipush 6, 0, 2), (15, .newarray .boolean, 0, 2), (17, .putfield 902, 15, 3), (20, .aload_n 0, 0, 1), (21, .aload_n 1, 0, 1), (22, .putfield 900, 19, 3), (25, .aload_n 0, 0, 1), (26, .getfield 901, 9, 3), (29, .iconst (-1), 0, 1), (30, .invokestatic 1400, 23, 3), (33, .return_, 0, 1)]
def kr900 : MR := ((⟨"LightPlate$Users", "<init>", "(LLightPlate$Plate;)V"⟩, prog_11_method_1_code, 2, none), 2, (413, 412, 9999), kc900)
def kc901 : List (Nat × Instr × Nat × Nat) := [(0, .iconst 0, 0, 1), (1, .istore_n 2, 0, 1), (2, .iload_n 2, 0, 1), (3, .bipush 6, 0, 2), (5, .if_icmp .ge 30, 0, 3), (8, .aload_n 0, 0, 1), (9, .getfield 902, 15, 3), (12, .iload_n 2, 0, 1), (13, .iload_n 2, 0, 1), (14, .iload_n 1, 0, 1), (15, .if_icmp .ne 22, 0, 3), (18, .iconst 1, 0, 1), (19, .goto 23, 0, 3), (22, .iconst 0, 0, 1), (23, .bastore, 0, 1), (24, .iinc 2 1, 0, 3), (27, .goto 2, 0, 3), (30, .iconst 0, 0, 1), (31, .istore_n 2, 0, 1), (32, .iconst 0, 0, 1), (33, .istore_n 3, 0, 1), (34, .iload_n 3, 0, 1), (35, .bipush 36, 0, 2), (37, .if_icmp .ge 127, 0, 3), (40, .aload_n 0, 0, 1), (41, .getfield 900, 19, 3), (44, .getfield 302, 29, 3), (47, .iload_n 3, 0, 1), (48, .iaload, 0, 1), (49, .istore 4, 0, 2), (51, .iload 4, 0, 2), (53, .iconst (-1), 0, 1), (54, .if_icmp .eq 121, 0, 3), (57, .aload_n 0, 0, 1), (58, .getfield 902, 15, 3), (61, .iload 4, 0, 2), (63, .baload, 0, 1), (64, .ifCond .ne 82, 0, 3), (67, .aload_n 0, 0, 1), (68, .getfield 902, 15, 3), (71, .iload 4, 0, 2), (73, .iconst 1, 0, 1), (74, .iadd, 0, 1), (75, .baload, 0, 1), (76, .ifCond .ne 82, 0, 3), (79, .goto 121, 0, 3), (82, .aload_n 0, 0, 1), (83, .getfield 902, 15, 3), (86, .iload 4, 0, 2), (88, .iconst 1, 0, 1), (89, .bastore, 0, 1), (90, .aload_n 0, 0, 1), (91, .getfield 902, 15, 3), (94, .iload 4, 0, 2), (96, .iconst 1, 0, 1), (97, .iadd, 0, 1), (98, .iconst 1, 0, 1), (99, .bastore, 0, 1), (100, .aload_n 0, 0, 1), (101, .getfield 901, 9, 3), (104, .iload_n 3, 0, 1), (105, .iaload, 0, 1), (106, .iconst (-1), 0, 1), (107, .if_icmp .eq 121, 0, 3), (110, .iload_n 2, 0, 1), (111, .iconst 1, 0, 1), (112, .aload_n 0, 0, 1), (113, .getfield 901, 9, 3), (116, .iload_n 3, 0, 1), (117, .iaload, 0, 1), (118, .ishl, 0, 1), (119, .ior, 0, 1), (120, .istore_n 2, 0, 1), (121, .iinc 3 1, 0, 3), (124, .goto 34, 0, 3), (127, .iload_n 2, 0, 1), (128, .iconst 3, 0, 1), (129, .if_icmp .ne 136, 0, 3), (132, .iconst 1, 0, 1), (133, .goto 137, 0, 3), (136, .iconst 0, 0, 1), (137, .freturn, 0, 1)]
def kr901 : MR := ((⟨"LightPlate$Users", "bothReachedFrom", "(I)Z"⟩, prog_11_method_2_code, 5, (some .boolean)), 2, (884, 882, 883), kc901)
def kc1000 : List (Nat × Instr × Nat × Nat) := [(0, .aload_n 0, 0, 1), (1, .monitorexit, 3, 3), (4, .iload_n 1, 0, 1), (5, .iconst 5, 0, 1), (6, .invokestatic 1300, 9, 3), (9, .iconst 2, 0, 1), (10, .iadd, 0, 1), (11, .istore_n 2, 0, 1), (12, .aload_n 0, 0, 1), (13, .new 0, 15, 3), (16, .dup, 0, 1), (17, .invokespecial 0, 17, 3), (20, .putfield 1000, 18, 3), (23, .aload_n 0, 0, 1), (24, .new 3, 22, 3), (27, .dup, 0, 1), (28, .iload_n 2, 0, 1), (29, .aload_n 0, 0, 1), (30, .getfield 1000, 18, 3), (33, .invokespecial 300, 24, 3), (36, .putfield 1001, 27, 3), (39, .aload_n 0, 0, 1), (40, .new 8, 31, 3), (43, .dup, 0, 1), (44, .iload_n 2, 0, 1), (45, .aload_n 0, 0, 1), (46, .getfield 1000, 18, 3), (49, .invokespecial 800, 33, 3), (52, .putfield 1002, 34, 3), (55, .aload_n 0, 0, 1), (56, .new 6, 38, 3), (59, .dup, 0, 1), (60, .invokespecial 600, 40, 3), (63, .putfield 1003, 41, 3), (66, .aload_n 0, 0, 1), (67, .new 1, 45, 3), (70, .dup, 0, 1), (71, .aload_n 0, 0, 1), (72, .getfield 1001, 27, 3), (75, .aload_n 0, 0, 1), (76, .getfield 1003, 41, 3), (79, .invokespecial 100, 47, 3), (82, .putfield 1004, 50, 3), (85, .aload_n 0, 0, 1), (86, .new 5, 54, 3), (89, .dup, 0, 1), (90, .iload_n 2, 0, 1), (91, .invokespecial 500, 56, 3), (94, .putfield 1005, 59, 3), (97, .aload_n 0, 0, 1), (98, .new 2, 63, 3), (101, .dup, 0, 1), (102, .invokespecial 200, 65, 3), (105, .putfield 1006, 66, 3), (108, .aload_n 0, 0, 1), (109, .new 7, 70, 3), (112, .dup, 0, 1), (113, .aload_n 0, 0, 1), (114, .getfield 1001, 27, 3), (117, .aload_n 0, 0, 1), (118, .getfield 1006, 66, 3), (121, .invokespecial 700, 72, 3), (124, .putfield 1007, 75, 3), (127, .aload_n 0, 0, 1), (128, .new 4, 79, 3), (131, .dup, 0, 1), (132, .aload_n 0, 0, 1), (133, .getfield 1001, 27, 3), (136, .aload_n 0, 0, 1), (137, .getfield 1006, 66, 3), (140, .invokespecial 400, 81, 3), (143, .putfield 1008, 82, 3), (146, .aload_n 0, 0, 1), (147, .new 9, 86, 3), (150, .dup, 0, 1), (151, .aload_n 0, 0, 1), (152, .getfield 1001, 27, 3), (155, .invokespecial 900, 88, 3), (158, .putfield 1009, 91, 3), (161, .return_, 0, 1)]
def kr1000 : MR := ((⟨"LightPlate", "<init>", "(I)V"⟩, prog_1_method_1_code, 3, none), 2, (76, 75, 9999), kc1000)
def kc1001 : List (Nat × Instr × Nat × Nat) := [(0, .iload_n 1, 0, 1), (1, .bipush 96, 0, 2), (3, .invokestatic 1300, 9, 3), (6, .istore_n 3, 0, 1), (7, .iload_n 2, 0, 1), (8, .lookupswitch 56 #[(0, 36), (1, 46)], 0, 28), (36, .aload_n 0, 0, 1), (37, .getfield 1000, 18, 3), (40, .getfield 0, 95, 3), (43, .iload_n 3, 0, 1), (44, .iaload, 0, 1), (45, .ireturn, 0, 1), (46, .aload_n 0, 0, 1), (47, .getfield 1000, 18, 3), (50, .getfield 1, 99, 3), (53, .iload_n 3, 0, 1), (54, .iaload, 0, 1), (55, .ireturn, 0, 1), (56, .iconst (-1), 0, 1), (57, .ireturn, 0, 1)]
def kr1001 : MR := ((⟨"LightPlate", "turn", "(II)I"⟩, prog_1_method_2_code, 4, (some .int)), 3, (461, 459, 460), kc1001)
def kc1002 : List (Nat × Instr × Nat × Nat) := [(0, .aload_n 0, 0, 1), (1, .getfield 1001, 27, 3), (4, .iload_n 1, 0, 1), (5, .iload_n 2, 0, 1), (6, .invokevirtual 301, 102, 3), (9, .istore 4, 0, 2), (11, .iload 4, 0, 2), (13, .ifCond .ge 18, 0, 3), (16, .iconst (-1), 0, 1), (17, .ireturn, 0, 1), (18, .iload_n 3, 0, 1), (19, .invokestatic 1003, 105, 3), (22, .ifCond .ne 28, 0, 3), (25, .bipush (-2), 0, 2), (27, .ireturn, 0, 1), (28, .aload_n 0, 0, 1), (29, .getfield 1006, 66, 3), (32, .invokevirtual 201, 109, 3), (35, .ifCond .eq 41, 0, 3), (38, .bipush (-4), 0, 2), (40, .ireturn, 0, 1), (41, .aload_n 0, 0, 1), (42, .getfield 1001, 27, 3), (45, .getfield 303, 113, 3), (48, .iload 4, 0, 2), (50, .iaload, 0, 1), (51, .istore 5, 0, 2), (53, .aload_n 0, 0, 1), (54, .getfield 1001, 27, 3), (57, .getfield 303, 113, 3), (60, .iload 4, 0, 2), (62, .iload_n 3, 0, 1), (63, .iastore, 0, 1), (64, .aload_n 0, 0, 1), (65, .getfield 1006, 66, 3), (68, .invokevirtual 202, 116, 3), (71, .iload 5, 0, 2), (73, .ireturn, 0, 1)]
def kr1002 : MR := ((⟨"LightPlate", "set", "(III)I"⟩, prog_1_method_3_code, 6, (some .int)), 4, (465, 463, 464), kc1002)
def kc1003 : List (Nat × Instr × Nat × Nat) := [(0, .iload_n 0, 0, 1), (1, .ifCond .lt 14, 0, 3), (4, .iload_n 0, 0, 1), (5, .bipush 96, 0, 2), (7, .if_icmp .ge 14, 0, 3), (10, .iconst 1, 0, 1), (11, .goto 15, 0, 3), (14, .iconst 0, 0, 1), (15, .freturn, 0, 1)]
def kr1003 : MR := ((⟨"LightPlate", "isTurn", "(I)Z"⟩, prog_1_method_33_code, 1, (some .boolean)), 1, (472, 471, 9999), kc1003)
def kc1004 : List (Nat × Instr × Nat × Nat) := [(0, .aload_n 0, 0, 1), (1, .getfield 1001, 27, 3), (4, .iload_n 1, 0, 1), (5, .iload_n 2, 0, 1), (6, .invokevirtual 301, 102, 3), (9, .istore 4, 0, 2), (11, .iload 4, 0, 2), (13, .ifCond .ge 18, 0, 3), (16, .iconst (-1), 0, 1), (17, .ireturn, 0, 1), (18, .iload_n 3, 0, 1), (19, .invokestatic 1003, 105, 3), (22, .ifCond .ne 28, 0, 3), (25, .bipush (-2), 0, 2), (27, .ireturn, 0, 1), (28, .aload_n 0, 0, 1), (29, .getfield 1001, 27, 3), (32, .iload 4, 0, 2), (34, .invokevirtual 302, 119, 3), (37, .istore 5, 0, 2), (39, .aload_n 0, 0, 1), (40, .getfield 1001, 27, 3), (43, .getfield 304, 122, 3), (46, .iload 4, 0, 2), (48, .iload_n 3, 0, 1), (49, .iastore, 0, 1), (50, .iload 5, 0, 2), (52, .ifCond .eq 59, 0, 3), (55, .iconst 0, 0, 1), (56, .goto 60, 0, 3), (59, .iconst 1, 0, 1), (60, .ireturn, 0, 1)]
def kr1004 : MR := ((⟨"LightPlate", "dies", "(III)I"⟩, prog_1_method_4_code, 6, (some .int)), 4, (484, 482, 483), kc1004)
def kc1005 : List (Nat × Instr × Nat × Nat) := [(0, .aload_n 0, 0, 1), (1, .getfield 1001, 27, 3), (4, .iload_n 1, 0, 1), (5, .iload_n 2, 0, 1), (6, .invokevirtual 301, 102, 3), (9, .istore_n 3, 0, 1), (10, .iload_n 3, 0, 1), (11, .ifCond .ge 16, 0, 3), (14, .iconst (-1), 0, 1), (15, .ireturn, 0, 1), (16, .aload_n 0, 0, 1), (17, .getfield 1001, 27, 3), (20, .iload_n 3, 0, 1), (21, .invokevirtual 302, 119, 3), (24, .ifCond .ne 30, 0, 3), (27, .bipush (-3), 0, 2), (29, .ireturn, 0, 1), (30, .aload_n 0, 0, 1), (31, .getfield 1001, 27, 3), (34, .getfield 304, 122, 3), (37, .iload_n 3, 0, 1), (38, .iaload, 0, 1), (39, .istore 4, 0, 2), (41, .aload_n 0, 0, 1), (42, .getfield 1001, 27, 3), (45, .getfield 304, 122, 3), (48, .iload_n 3, 0, 1), (49, .iconst (-1), 0, 1), (50, .iastore, 0, 1), (51, .iload 4, 0, 2), (53, .ireturn, 0, 1)]
def kr1005 : MR := ((⟨"LightPlate", "mend", "(II)I"⟩, prog_1_method_5_code, 5, (some .int)), 3, (492, 490, 491), kc1005)
def kc1006 : List (Nat × Instr × Nat × Nat) := [(0, .aload_n 0, 0, 1), (1, .getfield 1001, 27, 3), (4, .iload_n 1, 0, 1), (5, .iload_n 2, 0, 1), (6, .invokevirtual 301, 102, 3), (9, .istore 4, 0, 2), (11, .iload 4, 0, 2), (13, .ifCond .ge 18, 0, 3), (16, .iconst (-1), 0, 1), (17, .ireturn, 0, 1), (18, .iload_n 3, 0, 1), (19, .tableswitch 126 0 4 #[52, 63, 74, 91, 115], 0, 33), (52, .aload_n 0, 0, 1), (53, .getfield 1001, 27, 3), (56, .getfield 303, 113, 3), (59, .iload 4, 0, 2), (61, .iaload, 0, 1), (62, .ireturn, 0, 1), (63, .aload_n 0, 0, 1), (64, .getfield 1001, 27, 3), (67, .getfield 304, 122, 3), (70, .iload 4, 0, 2), (72, .iaload, 0, 1), (73, .ireturn, 0, 1), (74, .aload_n 0, 0, 1), (75, .getfield 1001, 27, 3), (78, .aload_n 0, 0, 1), (79, .getfield 1001, 27, 3), (82, .getfield 303, 113, 3), (85, .iload 4, 0, 2), (87, .invokevirtual 303, 125, 3), (90, .ireturn, 0, 1), (91, .aload_n 0, 0, 1), (92, .getfield 1001, 27, 3), (95, .aload_n 0, 0, 1), (96, .getfield 1001, 27, 3), (99, .getfield 303, 113, 3), (102, .aload_n 0, 0, 1), (103, .getfield 1001, 27, 3), (106, .getfield 305, 129, 3), (109, .iload 4, 0, 2), (111, .invokevirtual 304, 132, 3), (114, .ireturn, 0, 1), (115, .aload_n 0, 0, 1), (116, .getfield 1009, 91, 3), (119, .getfield 901, 136, 3), (122, .iload 4, 0, 2), (124, .iaload, 0, 1), (125, .ireturn, 0, 1), (126, .iconst (-1), 0, 1), (127, .ireturn, 0, 1)]
def kr1006 : MR := ((⟨"LightPlate", "cell", "(III)I"⟩, prog_1_method_6_code, 5, (some .int)), 4, (496, 494, 495), kc1006)
def kc1007 : List (Nat × Instr × Nat × Nat) := [(0, .aload_n 0, 0, 1), (1, .iload_n 1, 0, 1), (2, .invokevirtual 1008, 139, 3), (5, .ifCond .eq 16, 0, 3), (8, .aload_n 0, 0, 1), (9, .iload_n 2, 0, 1), (10, .invokevirtual 1008, 139, 3), (13, .ifCond .ne 18, 0, 3), (16, .iconst (-1), 0, 1), (17, .ireturn, 0, 1), (18, .aload_n 0, 0, 1), (19, .getfield 1001, 27, 3), (22, .iload_n 2, 0, 1), (23, .invokevirtual 306, 142, 3), (26, .iload_n 1, 0, 1), (27, .iaload, 0, 1), (28, .ireturn, 0, 1)]
def kr1007 : MR := ((⟨"LightPlate", "table", "(II)I"⟩, prog_1_method_7_code, 3, (some .int)), 3, (518, 516, 517), kc1007)
def kc1008 : List (Nat × Instr × Nat × Nat) := [(0, .iload_n 1, 0, 1), (1, .ifCond .lt 19, 0, 3), (4, .iload_n 1, 0, 1), (5, .aload_n 0, 0, 1), (6, .getfield 1001, 27, 3), (9, .getfield 300, 150, 3), (12, .if_icmp .ge 19, 0, 3), (15, .iconst 1, 0, 1), (16, .goto 20, 0, 3), (19, .iconst 0, 0, 1), (20, .freturn, 0, 1)]
def kr1008 : MR := ((⟨"LightPlate", "isLane", "(I)Z"⟩, prog_1_method_32_code, 2, (some .boolean)), 2, (522, 521, 1), kc1008)
def kc1009 : List (Nat × Instr × Nat × Nat) := [(0, .aload_n 0, 0, 1), (1, .iload_n 1, 0, 1), (2, .invokevirtual 1008, 139, 3), (5, .ifCond .eq 16, 0, 3), (8, .aload_n 0, 0, 1), (9, .iload_n 2, 0, 1), (10, .invokevirtual 1008, 139, 3), (13, .ifCond .ne 18, 0, 3), (16, .iconst (-1), 0, 1), (17, .ireturn, 0, 1), (18, .iload_n 3, 0, 1), (19, .ifCond .lt 28, 0, 3), (22, .iload_n 3, 0, 1), (23, .bipush 97, 0, 2), (25, .if_icmp .lt 31, 0, 3), (28, .bipush (-2), 0, 2), (30, .ireturn, 0, 1), (31, .aload_n 0, 0, 1), (32, .getfield 1002, 34, 3), (35, .getfield 802, 146, 3), (38, .iload_n 2, 0, 1), (39, .aaload, 0, 1), (40, .iload_n 1, 0, 1), (41, .iaload, 0, 1), (42, .istore 4, 0, 2), (44, .aload_n 0, 0, 1), (45, .getfield 1002, 34, 3), (48, .getfield 802, 146, 3), (51, .iload_n 2, 0, 1), (52, .aaload, 0, 1), (53, .iload_n 1, 0, 1), (54, .iload_n 3, 0, 1), (55, .iastore, 0, 1), (56, .iload 4, 0, 2), (58, .ireturn, 0, 1)]
def kr1009 : MR := ((⟨"LightPlate", "entry", "(III)I"⟩, prog_1_method_8_code, 5, (some .int)), 4, (542, 540, 541), kc1009)
def kc1010 : List (Nat × Instr × Nat × Nat) := [(0, .iconst 0, 0, 1), (1, .istore_n 1, 0, 1), (2, .iconst 0, 0, 1), (3, .istore_n 2, 0, 1), (4, .iload_n 2, 0, 1), (5, .aload_n 0, 0, 1), (6, .getfield 1001, 27, 3), (9, .getfield 300, 150, 3), (12, .if_icmp .ge 42, 0, 3), (15, .aload_n 0, 0, 1), (16, .getfield 1002, 34, 3), (19, .iload_n 2, 0, 1), (20, .aload_n 0, 0, 1), (21, .getfield 1001, 27, 3), (24, .iload_n 2, 0, 1), (25, .invokevirtual 306, 142, 3), (28, .invokevirtual 801, 154, 3), (31, .ifCond .eq 36, 0, 3), (34, .iconst 1, 0, 1), (35, .istore_n 1, 0, 1), (36, .iinc 2 1, 0, 3), (39, .goto 4, 0, 3), (42, .iload_n 1, 0, 1), (43, .ifCond .eq 50, 0, 3), (46, .iconst 1, 0, 1), (47, .goto 51, 0, 3), (50, .iconst 0, 0, 1), (51, .ireturn, 0, 1)]
def kr1010 : MR := ((⟨"LightPlate", "take", "()I"⟩, prog_1_method_9_code, 3, (some .int)), 1, (546, 544, 545), kc1010)
def kc1011 : List (Nat × Instr × Nat × Nat) := [(0, .aload_n 0, 0, 1), (1, .getfield 1002, 34, 3), (4, .invokevirtual 802, 158, 3), (7, .ifCond .eq 14, 0, 3), (10, .iconst 1, 0, 1), (11, .goto 15, 0, 3), (14, .iconst 0, 0, 1), (15, .ireturn, 0, 1)]
def kr1011 : MR := ((⟨"LightPlate", "right", "()I"⟩, prog_1_method_10_code, 1, (some .int)), 1, (554, 552, 553), kc1011)
def kc1012 : List (Nat × Instr × Nat × Nat) := [(0, .aload_n 0, 0, 1), (1, .getfield 1002, 34, 3), (4, .invokevirtual 804, 161, 3), (7, .ifCond .eq 20, 0, 3), (10, .aload_n 0, 0, 1), (11, .getfield 1002, 34, 3), (14, .getfield 806, 164, 3), (17, .goto 30, 0, 3), (20, .bipush (-10), 0, 2), (22, .aload_n 0, 0, 1), (23, .getfield 1002, 34, 3), (26, .getfield 806, 164, 3), (29, .isub, 0, 1), (30, .ireturn, 0, 1)]
def kr1012 : MR := ((⟨"LightPlate", "split", "()I"⟩, prog_1_method_11_code, 1, (some .int)), 1, (566, 564, 565), kc1012)
def kc1013 : List (Nat × Instr × Nat × Nat) := [(0, .iload_n 2, 0, 1), (1, .tableswitch 112 0 2 #[28, 53, 78], 0, 27), (28, .aload_n 0, 0, 1), (29, .getfield 1002, 34, 3), (32, .iload_n 1, 0, 1), (33, .invokevirtual 806, 167, 3), (36, .ifCond .eq 51, 0, 3), (39, .aload_n 0, 0, 1), (40, .getfield 1002, 34, 3), (43, .getfield 804, 170, 3), (46, .iload_n 1, 0, 1), (47, .iaload, 0, 1), (48, .goto 52, 0, 3), (51, .iconst (-1), 0, 1), (52, .ireturn, 0, 1), (53, .aload_n 0, 0, 1), (54, .getfield 1002, 34, 3), (57, .iload_n 1, 0, 1), (58, .invokevirtual 806, 167, 3), (61, .ifCond .eq 76, 0, 3), (64, .aload_n 0, 0, 1), (65, .getfield 1002, 34, 3), (68, .getfield 805, 173, 3), (71, .iload_n 1, 0, 1), (72, .iaload, 0, 1), (73, .goto 77, 0, 3), (76, .iconst (-1), 0, 1), (77, .ireturn, 0, 1), (78, .aload_n 0, 0, 1), (79, .getfield 1002, 34, 3), (82, .getfield 807, 176, 3), (85, .ifCond .eq 110, 0, 3), (88, .aload_n 0, 0, 1), (89, .iload_n 1, 0, 1), (90, .invokevirtual 1008, 139, 3), (93, .ifCond .eq 110, 0, 3), (96, .aload_n 0, 0, 1), (97, .getfield 1002, 34, 3), (100, .getfield 803, 180, 3), (103, .iload_n 1, 0, 1), (104, .aaload, 0, 1), (105, .iload_n 1, 0, 1), (106, .iaload, 0, 1), (107, .goto 111, 0, 3), (110, .iconst (-1), 0, 1), (111, .ireturn, 0, 1), (112, .iconst (-1), 0, 1), (113, .ireturn, 0, 1)]
def kr1013 : MR := ((⟨"LightPlate", "step", "(II)I"⟩, prog_1_method_12_code, 3, (some .int)), 3, (586, 584, 585), kc1013)
def kc1014 : List (Nat × Instr × Nat × Nat) := [(0, .aload_n 0, 0, 1), (1, .getfield 1002, 34, 3), (4, .getfield 807, 176, 3), (7, .ifCond .ne 13, 0, 3), (10, .bipush (-3), 0, 2), (12, .ireturn, 0, 1), (13, .aload_n 0, 0, 1), (14, .getfield 1002, 34, 3), (17, .invokevirtual 807, 183, 3), (20, .bipush 10, 0, 2), (22, .if_icmp .le 28, 0, 3), (25, .bipush (-4), 0, 2), (27, .ireturn, 0, 1), (28, .aload_n 0, 0, 1), (29, .getfield 1002, 34, 3), (32, .aload_n 0, 0, 1), (33, .getfield 1003, 41, 3), (36, .invokevirtual 808, 187, 3), (39, .aload_n 0, 0, 1), (40, .getfield 1003, 41, 3), (43, .getfield 602, 191, 3), (46, .ireturn, 0, 1)]
def kr1014 : MR := ((⟨"LightPlate", "undo", "()I"⟩, prog_1_method_13_code, 1, (some .int)), 1, (594, 592, 593), kc1014)
def kc1015 : List (Nat × Instr × Nat × Nat) := [(0, .iload_n 1, 0, 1), (1, .ifCond .lt 15, 0, 3), (4, .iload_n 1, 0, 1), (5, .aload_n 0, 0, 1), (6, .getfield 1003, 41, 3), (9, .getfield 602, 191, 3), (12, .if_icmp .lt 17, 0, 3), (15, .iconst (-1), 0, 1), (16, .ireturn, 0, 1), (17, .iload_n 2, 0, 1), (18, .lookupswitch 64 #[(0, 44), (1, 54)], 0, 26), (44, .aload_n 0, 0, 1), (45, .getfield 1003, 41, 3), (48, .getfield 600, 194, 3), (51, .iload_n 1, 0, 1), (52, .iaload, 0, 1), (53, .ireturn, 0, 1), (54, .aload_n 0, 0, 1), (55, .getfield 1003, 41, 3), (58, .getfield 601, 197, 3), (61, .iload_n 1, 0, 1), (62, .iaload, 0, 1), (63, .ireturn, 0, 1), (64, .iconst (-1), 0, 1), (65, .ireturn, 0, 1)]
def kr1015 : MR := ((⟨"LightPlate", "work", "(II)I"⟩, prog_1_method_14_code, 3, (some .int)), 3, (614, 612, 613), kc1015)
def kc1016 : List (Nat × Instr × Nat × Nat) := [(0, .aload_n 0, 0, 1), (1, .getfield 1004, 50, 3), (4, .invokevirtual 101, 200, 3), (7, .ireturn, 0, 1)]
def kr1016 : MR := ((⟨"LightPlate", "lay", "()I"⟩, prog_1_method_15_code, 1, (some .int)), 1, (618, 616, 617), kc1016)
def kc1017 : List (Nat × Instr × Nat × Nat) := [(0, .iload_n 3, 0, 1), (1, .iconst 1, 0, 1), (2, .if_icmp .lt 11, 0, 3), (5, .iload_n 3, 0, 1), (6, .bipush 8, 0, 2), (8, .if_icmp .le 14, 0, 3), (11, .bipush (-2), 0, 2), (13, .ireturn, 0, 1), (14, .aload_n 0, 0, 1), (15, .getfield 1005, 59, 3), (18, .getfield 501, 203, 3), (21, .iload_n 3, 0, 1), (22, .iadd, 0, 1), (23, .bipush 100, 0, 2), (25, .if_icmp .le 31, 0, 3), (28, .bipush (-4), 0, 2), (30, .ireturn, 0, 1), (31, .iload_n 3, 0, 1), (32, .iconst 1, 0, 1), (33, .isub, 0, 1), (34, .istore 4, 0, 2), (36, .iload 4, 0, 2), (38, .ifCond .lt 66, 0, 3), (41, .aload_n 0, 0, 1), (42, .getfield 1005, 59, 3), (45, .lload_n 1, 0, 1), (46, .bipush 8, 0, 2), (48, .iload 4, 0, 2), (50, .imul, 0, 1), (51, .lushr, 0, 1), (52, .l2i, 0, 1), (53, .sipush 255, 0, 3), (56, .iand, 0, 1), (57, .invokevirtual 501, 204, 3), (60, .iinc 4 (-1), 0, 3), (63, .goto 36, 0, 3), (66, .aload_n 0, 0, 1), (67, .getfield 1005, 59, 3), (70, .getfield 501, 203, 3), (73, .ireturn, 0, 1)]
def kr1017 : MR := ((⟨"LightPlate", "feed", "(JI)I"⟩, prog_1_method_16_code, 5, (some .int)), 3, (667, 665, 666), kc1017)
def kc1018 : List (Nat × Instr × Nat × Nat) := [(0, .aload_n 0, 0, 1), (1, .getfield 1005, 59, 3), (4, .invokevirtual 502, 207, 3), (7, .istore_n 1, 0, 1), (8, .iload_n 1, 0, 1), (9, .ifCond .eq 14, 0, 3), (12, .iload_n 1, 0, 1), (13, .ireturn, 0, 1), (14, .aload_n 0, 0, 1), (15, .getfield 1003, 41, 3), (18, .aload_n 0, 0, 1), (19, .getfield 1005, 59, 3), (22, .invokevirtual 514, 210, 3), (25, .invokevirtual 605, 214, 3), (28, .aload_n 0, 0, 1), (29, .getfield 1003, 41, 3), (32, .getfield 602, 191, 3), (35, .ireturn, 0, 1)]
def kr1018 : MR := ((⟨"LightPlate", "program", "()I"⟩, prog_1_method_17_code, 2, (some .int)), 1, (675, 673, 674), kc1018)
def kc1019 : List (Nat × Instr × Nat × Nat) := [(0, .iload_n 1, 0, 1), (1, .iconst 1, 0, 1), (2, .if_icmp .lt 11, 0, 3), (5, .iload_n 1, 0, 1), (6, .bipush 99, 0, 2), (8, .if_icmp .le 14, 0, 3), (11, .bipush (-2), 0, 2), (13, .ireturn, 0, 1), (14, .aload_n 0, 0, 1), (15, .getfield 1001, 27, 3), (18, .getfield 306, 217, 3), (21, .istore_n 2, 0, 1), (22, .aload_n 0, 0, 1), (23, .getfield 1001, 27, 3), (26, .iload_n 1, 0, 1), (27, .putfield 306, 217, 3), (30, .iload_n 2, 0, 1), (31, .ireturn, 0, 1)]
def kr1019 : MR := ((⟨"LightPlate", "creep", "(I)I"⟩, prog_1_method_18_code, 3, (some .int)), 2, (749, 747, 748), kc1019)
def kc1020 : List (Nat × Instr × Nat × Nat) := [(0, .aload_n 0, 0, 1), (1, .getfield 1001, 27, 3), (4, .iload_n 1, 0, 1), (5, .iload_n 2, 0, 1), (6, .invokevirtual 301, 102, 3), (9, .istore 4, 0, 2), (11, .iload 4, 0, 2), (13, .ifCond .ge 18, 0, 3), (16, .iconst (-1), 0, 1), (17, .ireturn, 0, 1), (18, .iload_n 3, 0, 1), (19, .invokestatic 1021, 220, 3), (22, .ifCond .ne 28, 0, 3), (25, .bipush (-2), 0, 2), (27, .ireturn, 0, 1), (28, .aload_n 0, 0, 1), (29, .getfield 1001, 27, 3), (32, .getfield 305, 129, 3), (35, .iload 4, 0, 2), (37, .iaload, 0, 1), (38, .istore 5, 0, 2), (40, .aload_n 0, 0, 1), (41, .getfield 1001, 27, 3), (44, .getfield 305, 129, 3), (47, .iload 4, 0, 2), (49, .iload_n 3, 0, 1), (50, .iastore, 0, 1), (51, .iload 5, 0, 2), (53, .ireturn, 0, 1)]
def kr1020 : MR := ((⟨"LightPlate", "offset", "(III)I"⟩, prog_1_method_19_code, 6, (some .int)), 4, (753, 751, 752), kc1020)
def kc1021 : List (Nat × Instr × Nat × Nat) := [(0, .iload_n 0, 0, 1), (1, .bipush (-8), 0, 2), (3, .if_icmp .lt 16, 0, 3), (6, .iload_n 0, 0, 1), (7, .bipush 8, 0, 2), (9, .if_icmp .gt 16, 0, 3), (12, .iconst 1, 0, 1), (13, .goto 17, 0, 3), (16, .iconst 0, 0, 1), (17, .freturn, 0, 1)]
def kr1021 : MR := ((⟨"LightPlate", "isOffset", "(I)Z"⟩, prog_1_method_34_code, 1, (some .boolean)), 1, (756, 755, 9999), kc1021)
def kc1022 : List (Nat × Instr × Nat × Nat) := [(0, .lload_n 1, 0, 1), (1, .lconst 0, 0, 1), (2, .lcmp, 0, 1), (3, .ifCond .lt 18, 0, 3), (6, .lload_n 1, 0, 1), (7, .aload_n 0, 0, 1), (8, .getfield 1007, 75, 3), (11, .getfield 702, 223, 3), (14, .lcmp, 0, 1), (15, .ifCond .lt 21, 0, 3), (18, .bipush (-2), 0, 2), (20, .ireturn, 0, 1), (21, .aload_n 0, 0, 1), (22, .getfield 1007, 75, 3), (25, .getfield 703, 227, 3), (28, .bipush 40, 0, 2), (30, .if_icmp .lt 36, 0, 3), (33, .bipush (-4), 0, 2), (35, .ireturn, 0, 1), (36, .aload_n 0, 0, 1), (37, .getfield 1007, 75, 3), (40, .lload_n 1, 0, 1), (41, .invokevirtual 701, 228, 3), (44, .ireturn, 0, 1)]
def kr1022 : MR := ((⟨"LightPlate", "run", "(J)I"⟩, prog_1_method_20_code, 3, (some .int)), 2, (760, 758, 759), kc1022)
def kc1023 : List (Nat × Instr × Nat × Nat) := [(0, .aload_n 0, 0, 1), (1, .getfield 1007, 75, 3), (4, .iload_n 1, 0, 1), (5, .invokevirtual 702, 232, 3), (8, .ifCond .eq 19, 0, 3), (11, .aload_n 0, 0, 1), (12, .iload_n 2, 0, 1), (13, .invokevirtual 1008, 139, 3), (16, .ifCond .ne 21, 0, 3), (19, .iconst (-1), 0, 1), (20, .ireturn, 0, 1), (21, .aload_n 0, 0, 1), (22, .getfield 1007, 75, 3), (25, .getfield 704, 235, 3), (28, .iload_n 1, 0, 1), (29, .aaload, 0, 1), (30, .iload_n 2, 0, 1), (31, .iaload, 0, 1), (32, .ireturn, 0, 1)]
def kr1023 : MR := ((⟨"LightPlate", "out", "(II)I"⟩, prog_1_method_21_code, 3, (some .int)), 3, (775, 773, 774), kc1023)
def kc1024 : List (Nat × Instr × Nat × Nat) := [(0, .aload_n 0, 0, 1), (1, .getfield 1007, 75, 3), (4, .iload_n 1, 0, 1), (5, .invokevirtual 702, 232, 3), (8, .ifCond .eq 19, 0, 3), (11, .aload_n 0, 0, 1), (12, .iload_n 2, 0, 1), (13, .invokevirtual 1008, 139, 3), (16, .ifCond .ne 21, 0, 3), (19, .iconst (-1), 0, 1), (20, .ireturn, 0, 1), (21, .aload_n 0, 0, 1), (22, .getfield 1007, 75, 3), (25, .iload_n 1, 0, 1), (26, .invokevirtual 703, 237, 3), (29, .iload_n 2, 0, 1), (30, .iaload, 0, 1), (31, .ireturn, 0, 1)]
def kr1024 : MR := ((⟨"LightPlate", "reworked", "(II)I"⟩, prog_1_method_22_code, 3, (some .int)), 3, (783, 781, 782), kc1024)
def kc1025 : List (Nat × Instr × Nat × Nat) := [(0, .iconst 0, 0, 1), (1, .istore_n 1, 0, 1), (2, .iload_n 1, 0, 1), (3, .aload_n 0, 0, 1), (4, .getfield 1007, 75, 3), (7, .getfield 703, 227, 3), (10, .if_icmp .ge 32, 0, 3), (13, .aload_n 0, 0, 1), (14, .getfield 1007, 75, 3), (17, .iload_n 1, 0, 1), (18, .invokevirtual 704, 240, 3), (21, .ifCond .ne 26, 0, 3), (24, .iload_n 1, 0, 1), (25, .ireturn, 0, 1), (26, .iinc 1 1, 0, 3), (29, .goto 2, 0, 3), (32, .bipush (-5), 0, 2), (34, .ireturn, 0, 1)]
def kr1025 : MR := ((⟨"LightPlate", "since", "()I"⟩, prog_1_method_23_code, 2, (some .int)), 1, (796, 794, 795), kc1025)
def kc1026 : List (Nat × Instr × Nat × Nat) := [(0, .aload_n 0, 0, 1), (1, .getfield 1001, 27, 3), (4, .iload_n 1, 0, 1), (5, .iload_n 2, 0, 1), (6, .invokevirtual 301, 102, 3), (9, .istore 5, 0, 2), (11, .iload 5, 0, 2), (13, .ifCond .ge 18, 0, 3), (16, .iconst (-1), 0, 1), (17, .ireturn, 0, 1), (18, .iload_n 3, 0, 1), (19, .invokestatic 1021, 220, 3), (22, .ifCond .eq 42, 0, 3), (25, .iload 4, 0, 2), (27, .ifCond .lt 42, 0, 3), (30, .iload 4, 0, 2), (32, .aload_n 0, 0, 1), (33, .getfield 1007, 75, 3), (36, .getfield 703, 227, 3), (39, .if_icmp .le 45, 0, 3), (42, .bipush (-2), 0, 2), (44, .ireturn, 0, 1), (45, .aload_n 0, 0, 1), (46, .getfield 1006, 66, 3), (49, .invokevirtual 201, 109, 3), (52, .ifCond .eq 58, 0, 3), (55, .bipush (-4), 0, 2), (57, .ireturn, 0, 1), (58, .aload_n 0, 0, 1), (59, .getfield 1006, 66, 3), (62, .iload 5, 0, 2), (64, .iload_n 3, 0, 1), (65, .iload 4, 0, 2), (67, .invokevirtual 204, 243, 3), (70, .aload_n 0, 0, 1), (71, .getfield 1006, 66, 3), (74, .getfield 200, 247, 3), (77, .ireturn, 0, 1)]
def kr1026 : MR := ((⟨"LightPlate", "found", "(IIII)I"⟩, prog_1_method_24_code, 6, (some .int)), 5, (805, 803, 804), kc1026)
def kc1027 : List (Nat × Instr × Nat × Nat) := [(0, .aload_n 0, 0, 1), (1, .getfield 1008, 82, 3), (4, .invokevirtual 401, 250, 3), (7, .aload_n 0, 0, 1), (8, .getfield 1008, 82, 3), (11, .getfield 403, 253, 3), (14, .ireturn, 0, 1)]
def kr1027 : MR := ((⟨"LightPlate", "probing", "()I"⟩, prog_1_method_25_code, 1, (some .int)), 1, (813, 811, 812), kc1027)
def kc1028 : List (Nat × Instr × Nat × Nat) := [(0, .aload_n 0, 0, 1), (1, .iload_n 1, 0, 1), (2, .invokevirtual 1008, 139, 3), (5, .ifCond .eq 16, 0, 3), (8, .aload_n 0, 0, 1), (9, .iload_n 2, 0, 1), (10, .invokevirtual 1008, 139, 3), (13, .ifCond .ne 18, 0, 3), (16, .iconst (-1), 0, 1), (17, .ireturn, 0, 1), (18, .aload_n 0, 0, 1), (19, .getfield 1008, 82, 3), (22, .getfield 402, 254, 3), (25, .ifCond .ne 31, 0, 3), (28, .bipush (-3), 0, 2), (30, .ireturn, 0, 1), (31, .aload_n 0, 0, 1), (32, .getfield 1008, 82, 3), (35, .getfield 404, 257, 3), (38, .bipush 20, 0, 2), (40, .if_icmp .lt 46, 0, 3), (43, .bipush (-4), 0, 2), (45, .ireturn, 0, 1), (46, .aload_n 0, 0, 1), (47, .getfield 1008, 82, 3), (50, .iload_n 1, 0, 1), (51, .iload_n 2, 0, 1), (52, .aload_n 0, 0, 1), (53, .getfield 1007, 75, 3), (56, .getfield 703, 227, 3), (59, .invokevirtual 403, 260, 3), (62, .ireturn, 0, 1)]
def kr1028 : MR := ((⟨"LightPlate", "probe", "(II)I"⟩, prog_1_method_26_code, 3, (some .int)), 3, (827, 825, 826), kc1028)
def kc1029 : List (Nat × Instr × Nat × Nat) := [(0, .aload_n 0, 0, 1), (1, .getfield 1008, 82, 3), (4, .getfield 402, 254, 3), (7, .ifCond .ne 13, 0, 3), (10, .bipush (-3), 0, 2), (12, .ireturn, 0, 1), (13, .iload_n 1, 0, 1), (14, .iconst (-1), 0, 1), (15, .if_icmp .ne 28, 0, 3), (18, .aload_n 0, 0, 1), (19, .getfield 1008, 82, 3), (22, .getfield 405, 264, 3), (25, .goto 36, 0, 3), (28, .aload_n 0, 0, 1), (29, .getfield 1008, 82, 3), (32, .iload_n 1, 0, 1), (33, .invokevirtual 407, 267, 3), (36, .ireturn, 0, 1)]
def kr1029 : MR := ((⟨"LightPlate", "held", "(I)I"⟩, prog_1_method_27_code, 2, (some .int)), 2, (853, 851, 852), kc1029)
def kc1030 : List (Nat × Instr × Nat × Nat) := [(0, .aload_n 0, 0, 1), (1, .getfield 1008, 82, 3), (4, .getfield 402, 254, 3), (7, .ifCond .eq 20, 0, 3), (10, .aload_n 0, 0, 1), (11, .getfield 1008, 82, 3), (14, .getfield 405, 264, 3), (17, .ifCond .ne 23, 0, 3), (20, .bipush (-3), 0, 2), (22, .ireturn, 0, 1), (23, .aload_n 0, 0, 1), (24, .getfield 1008, 82, 3), (27, .aload_n 0, 0, 1), (28, .getfield 1007, 75, 3), (31, .getfield 703, 227, 3), (34, .invokevirtual 408, 271, 3), (37, .ireturn, 0, 1)]
def kr1030 : MR := ((⟨"LightPlate", "next", "()I"⟩, prog_1_method_28_code, 1, (some .int)), 1, (861, 859, 860), kc1030)
def kc1031 : List (Nat × Instr × Nat × Nat) := [(0, .aload_n 0, 0, 1), (1, .getfield 1001, 27, 3), (4, .iload_n 2, 0, 1), (5, .iload_n 3, 0, 1), (6, .invokevirtual 301, 102, 3), (9, .istore 4, 0, 2), (11, .iload 4, 0, 2), (13, .ifCond .lt 26, 0, 3), (16, .iload_n 1, 0, 1), (17, .iconst (-1), 0, 1), (18, .if_icmp .lt 26, 0, 3), (21, .iload_n 1, 0, 1), (22, .iconst 2, 0, 1), (23, .if_icmp .lt 29, 0, 3), (26, .bipush (-5), 0, 2), (28, .ireturn, 0, 1), (29, .aload_n 0, 0, 1), (30, .getfield 1009, 91, 3), (33, .getfield 901, 136, 3), (36, .iload 4, 0, 2), (38, .iaload, 0, 1), (39, .istore 5, 0, 2), (41, .iload_n 1, 0, 1), (42, .iconst (-1), 0, 1), (43, .if_icmp .eq 61, 0, 3), (46, .iload 5, 0, 2), (48, .iconst (-1), 0, 1), (49, .if_icmp .eq 61, 0, 3), (52, .iload 5, 0, 2), (54, .iload_n 1, 0, 1), (55, .if_icmp .eq 61, 0, 3), (58, .bipush (-3), 0, 2), (60, .ireturn, 0, 1), (61, .aload_n 0, 0, 1), (62, .getfield 1009, 91, 3), (65, .getfield 901, 136, 3), (68, .iload 4, 0, 2), (70, .iload_n 1, 0, 1), (71, .iastore, 0, 1), (72, .iload 5, 0, 2), (74, .ireturn, 0, 1)]
def kr1031 : MR := ((⟨"LightPlate", "claim", "(III)I"⟩, prog_1_method_29_code, 6, (some .int)), 4, (876, 874, 875), kc1031)
def kc1032 : List (Nat × Instr × Nat × Nat) := [(0, .iconst 0, 0, 1), (1, .istore_n 1, 0, 1), (2, .iload_n 1, 0, 1), (3, .aload_n 0, 0, 1), (4, .getfield 1001, 27, 3), (7, .getfield 300, 150, 3), (10, .if_icmp .ge 32, 0, 3), (13, .aload_n 0, 0, 1), (14, .getfield 1009, 91, 3), (17, .iload_n 1, 0, 1), (18, .invokevirtual 901, 274, 3), (21, .ifCond .eq 26, 0, 3), (24, .iload_n 1, 0, 1), (25, .ireturn, 0, 1), (26, .iinc 1 1, 0, 3), (29, .goto 2, 0, 3), (32, .bipush (-5), 0, 2), (34, .ireturn, 0, 1)]
def kr1032 : MR := ((⟨"LightPlate", "meeting", "()I"⟩, prog_1_method_30_code, 2, (some .int)), 1, (880, 878, 879), kc1032)
def kc1033 : List (Nat × Instr × Nat × Nat) := [(0, .iload_n 1, 0, 1), (1, .tableswitch 112 0 7 #[48, 56, 64, 72, 80, 88, 96, 104], 0, 47), (48, .aload_n 0, 0, 1), (49, .getfield 1001, 27, 3), (52, .getfield 300, 150, 3), (55, .ireturn, 0, 1), (56, .aload_n 0, 0, 1), (57, .getfield 1001, 27, 3), (60, .invokevirtual 310, 277, 3), (63, .ireturn, 0, 1), (64, .aload_n 0, 0, 1), (65, .getfield 1003, 41, 3), (68, .getfield 602, 191, 3), (71, .ireturn, 0, 1), (72, .aload_n 0, 0, 1), (73, .getfield 1007, 75, 3), (76, .getfield 703, 227, 3), (79, .ireturn, 0, 1), (80, .aload_n 0, 0, 1), (81, .getfield 1006, 66, 3), (84, .getfield 200, 247, 3), (87, .ireturn, 0, 1), (88, .aload_n 0, 0, 1), (89, .getfield 1005, 59, 3), (92, .getfield 501, 203, 3), (95, .ireturn, 0, 1), (96, .aload_n 0, 0, 1), (97, .getfield 1001, 27, 3), (100, .invokevirtual 311, 280, 3), (103, .ireturn, 0, 1), (104, .aload_n 0, 0, 1), (105, .getfield 1001, 27, 3), (108, .getfield 306, 217, 3), (111, .ireturn, 0, 1), (112, .iconst (-1), 0, 1), (113, .ireturn, 0, 1)]
def kr1033 : MR := ((⟨"LightPlate", "count", "(I)I"⟩, prog_1_method_31_code, 2, (some .int)), 2, (888, 886, 887), kc1033)
def kc1100 : List (Nat × Instr × Nat × Nat) := [(0, .aload_n 0, 0, 1), (1, .monitorexit, 1, 3), (4, .aload_n 0, 0, 1), (5, .bipush 96, 0, 2), (7, .newarray .int, 0, 2), (9, .putfield 1101, 7, 3), (12, .aload_n 0, 0, 1), (13, .bipush 96, 0, 2), (15, .newarray .int, 0, 2), (17, .putfield 1102, 13, 3), (20, .aload_n 0, 0, 1), (21, .bipush 72, 0, 2), (23, .newarray .int, 0, 2), (25, .putfield 1103, 16, 3), (28, .aload_n 0, 0, 1), (29, .bipush 72, 0, 2), (31, .newarray .int, 0, 2), (33, .putfield 1104, 19, 3), (36, .aload_n 0, 0, 1), (37, .bipush 72, 0, 2), (39, .newarray .int, 0, 2), (41, .putfield 1105, 22, 3), (44, .aload_n 0, 0, 1), (45, .bipush 72, 0, 2), (47, .newarray .int, 0, 2), (49, .putfield 1106, 25, 3), (52, .aload_n 0, 0, 1), (53, .bipush 99, 0, 2), (55, .putfield 1107, 28, 3), (58, .aload_n 0, 0, 1), (59, .bipush 72, 0, 2), (61, .newarray .int, 0, 2), (63, .putfield 1108, 32, 3), (66, .aload_n 0, 0, 1), (67, .bipush 72, 0, 2), (69, .newarray .int, 0, 2), (71, .putfield 1109, 35, 3), (74, .aload_n 0, 0, 1), (75, .bipush 6, 0, 2), (77, .newarray .int, 0, 2), (79, .putfield 1110, 38, 3), (82, .aload_n 0, 0, 1), (83, .bipush 36, 0, 2), (85, .newarray .int, 0, 2), (87, .putfield 1111, 41, 3), (90, .aload_n 0, 0, 1), (91, .bipush 36, 0, 2), (93, .newarray .int, 0, 2), (95, .putfield 1112, 44, 3), (98, .aload_n 0, 0, 1), (99, .bipush 15, 0, 2), (101, .newarray .int, 0, 2), (103, .putfield 1113, 47, 3), (106, .aload_n 0, 0, 1), (107, .bipush 15, 0, 2), (109, .newarray .int, 0, 2), (111, .putfield 1114, 50, 3), (114, .aload_n 0, 0, 1), (115, .bipush 6, 0, 2), (117, .newarray .int, 0, 2), (119, .putfield 1115, 53, 3), (122, .aload_n 0, 0, 1), (123, .bipush 11, 0, 2), (125, .newarray .int, 0, 2), (127, .putfield 1119, 56, 3), (130, .aload_n 0, 0, 1), (131, .bipush 11, 0, 2), (133, .newarray .int, 0, 2), (135, .putfield 1120, 59, 3), (138, .aload_n 0, 0, 1), (139, .sipush 13312, 0, 3), (142, .newarray .boolean, 0, 2), (144, .putfield 1122, 62, 3), (147, .aload_n 0, 0, 1), (148, .bipush 100, 0, 2), (150, .newarray .int, 0, 2), (152, .putfield 1123, 66, 3), (155, .aload_n 0, 0, 1), (156, .sipush 1300, 0, 3), (159, .newarray .int, 0, 2), (161, .putfield 1124, 69, 3), (164, .aload_n 0, 0, 1), (165, .bipush 100, 0, 2), (167, .newarray .int, 0, 2), (169, .putfield 1125, 72, 3), (172, .aload_n 0, 0, 1), (173, .bipush 100, 0, 2), (175, .newarray .int, 0, 2), (177, .putfield 1126, 75, 3), (180, .aload_n 0, 0, 1), (181, .bipush 66, 0, 2), (183, .newarray .int, 0, 2), (185, .putfield 1127, 78, 3), (188, .aload_n 0, 0, 1), (189, .bipush 6, 0, 2), (191, .newarray .int, 0, 2), (193, .putfield 1128, 81, 3), (196, .aload_n 0, 0, 1), (197, .bipush 6, 0, 2), (199, .newarray .boolean, 0, 2), (201, .putfield 1129, 84, 3), (204, .aload_n 0, 0, 1), (205, .sipush 240, 0, 3), (208, .newarray .int, 0, 2), (210, .putfield 1135, 87, 3), (213, .aload_n 0, 0, 1), (214, .sipush 240, 0, 3), (217, .newarray .int, 0, 2), (219, .putfield 1136, 90, 3), (222, .aload_n 0, 0, 1), (223, .sipush 2880, 0, 3), (226, .newarray .int, 0, 2), (228, .putfield 1137, 93, 3), (231, .aload_n 0, 0, 1), (232, .bipush 60, 0, 2), (234, .newarray .int, 0, 2), (236, .putfield 1138, 96, 3), (239, .aload_n 0, 0, 1), (240, .bipush 60, 0, 2), (242, .newarray .int, 0, 2), (244, .putfield 1139, 99, 3), (247, .aload_n 0, 0, 1), (248, .bipush 60, 0, 2), (250, .newarray .int, 0, 2), (252, .putfield 1140, 102, 3), (255, .aload_n 0, 0, 1), (256, .bipush 72, 0, 2), (258, .newarray .int, 0, 2), (260, .putfield 1144, 105, 3), (263, .aload_n 0, 0, 1), (264, .sipush 289, 0, 3), (267, .newarray .int, 0, 2), (269, .putfield 1145, 108, 3), (272, .aload_n 0, 0, 1), (273, .sipush 289, 0, 3), (276, .newarray .boolean, 0, 2), (278, .putfield 1146, 111, 3), (281, .aload_n 0, 0, 1), (282, .bipush 97, 0, 2), (284, .newarray .int, 0, 2), (286, .putfield 1151, 114, 3), (289, .iload_n 1, 0, 1), (290, .iconst 5, 0, 1), (291, .irem, 0, 1), (292, .istore_n 2, 0, 1), (293, .aload_n 0, 0, 1), (294, .iload_n 2, 0, 1), (295, .ifCond .ge 304, 0, 3), (298, .iload_n 2, 0, 1), (299, .iconst 5, 0, 1), (300, .iadd, 0, 1), (301, .goto 305, 0, 3), (304, .iload_n 2, 0, 1), (305, .iconst 2, 0, 1), (306, .iadd, 0, 1), (307, .putfield 1100, 117, 3), (310, .aload_n 0, 0, 1), (311, .getfield 1101, 7, 3), (314, .iconst 0, 0, 1), (315, .iconst 1, 0, 1), (316, .iastore, 0, 1), (317, .iconst 1, 0, 1), (318, .istore_n 3, 0, 1), (319, .iload_n 3, 0, 1), (320, .bipush 96, 0, 2), (322, .if_icmp .ge 395, 0, 3), (325, .aload_n 0, 0, 1), (326, .getfield 1101, 7, 3), (329, .iload_n 3, 0, 1), (330, .aload_n 0, 0, 1), (331, .getfield 1101, 7, 3), (334, .iload_n 3, 0, 1), (335, .iconst 1, 0, 1), (336, .isub, 0, 1), (337, .iaload, 0, 1), (338, .bipush 22, 0, 2), (340, .imul, 0, 1), (341, .aload_n 0, 0, 1), (342, .getfield 1102, 13, 3), (345, .iload_n 3, 0, 1), (346, .iconst 1, 0, 1), (347, .isub, 0, 1), (348, .iaload, 0, 1), (349, .bipush 83, 0, 2), (351, .imul, 0, 1), (352, .isub, 0, 1), (353, .invokestatic 1101, 120, 3), (356, .iastore, 0, 1), (357, .aload_n 0, 0, 1), (358, .getfield 1102, 13, 3), (361, .iload_n 3, 0, 1), (362, .aload_n 0, 0, 1), (363, .getfield 1102, 13, 3), (366, .iload_n 3, 0, 1), (367, .iconst 1, 0, 1), (368, .isub, 0, 1), (369, .iaload, 0, 1), (370, .bipush 22, 0, 2), (372, .imul, 0, 1), (373, .aload_n 0, 0, 1), (374, .getfield 1101, 7, 3), (377, .iload_n 3, 0, 1), (378, .iconst 1, 0, 1), (379, .isub, 0, 1), (380, .iaload, 0, 1), (381, .bipush 83, 0, 2), (383, .imul, 0, 1), (384, .iadd, 0, 1), (385, .invokestatic 1101, 120, 3), (388, .iastore, 0, 1), (389, .iinc 3 1, 0, 3), (392, .goto 319, 0, 3), (395, .iconst 0, 0, 1), (396, .istore_n 3, 0, 1), (397, .iload_n 3, 0, 1), (398, .bipush 72, 0, 2), (400, .if_icmp .ge 423, 0, 3), (403, .aload_n 0, 0, 1), (404, .getfield 1104, 19, 3), (407, .iload_n 3, 0, 1), (408, .iconst (-1), 0, 1), (409, .iastore, 0, 1), (410, .aload_n 0, 0, 1), (411, .getfield 1105, 22, 3), (414, .iload_n 3, 0, 1), (415, .iconst (-1), 0, 1), (416, .iastore, 0, 1), (417, .iinc 3 1, 0, 3), (420, .goto 397, 0, 3), (423, .return_, 0, 1)]
def kr1100 : MR := ((⟨"LightPlateModel", "<init>", "(I)V"⟩, prog_13_method_1_code, 4, none), 2, (908, 907, 9999), kc1100)
def kc1101 : List (Nat × Instr × Nat × Nat) := [(0, .iload_n 0, 0, 1), (1, .bipush 97, 0, 2), (3, .irem, 0, 1), (4, .istore_n 1, 0, 1), (5, .iload_n 1, 0, 1), (6, .ifCond .ge 16, 0, 3), (9, .iload_n 1, 0, 1), (10, .bipush 97, 0, 2), (12, .iadd, 0, 1), (13, .goto 17, 0, 3), (16, .iload_n 1, 0, 1), (17, .ireturn, 0, 1)]
def kr1101 : MR := ((⟨"LightPlateModel", "fit", "(I)I"⟩, prog_13_method_3_code, 2, (some .int)), 1, (912, 911, 9999), kc1101)
def kc1102 : List (Nat × Instr × Nat × Nat) := [(0, .iload_n 2, 0, 1), (1, .ifCond .ne 16, 0, 3), (4, .aload_n 0, 0, 1), (5, .getfield 1101, 7, 3), (8, .iload_n 1, 0, 1), (9, .invokestatic 1103, 130, 3), (12, .iaload, 0, 1), (13, .goto 34, 0, 3), (16, .iload_n 2, 0, 1), (17, .iconst 1, 0, 1), (18, .if_icmp .ne 33, 0, 3), (21, .aload_n 0, 0, 1), (22, .getfield 1102, 13, 3), (25, .iload_n 1, 0, 1), (26, .invokestatic 1103, 130, 3), (29, .iaload, 0, 1), (30, .goto 34, 0, 3), (33, .iconst (-1), 0, 1), (34, .ireturn, 0, 1)]
def kr1102 : MR := ((⟨"LightPlateModel", "turn", "(II)I"⟩, prog_13_method_7_code, 3, (some .int)), 3, (1073, 1071, 1072), kc1102)
def kc1103 : List (Nat × Instr × Nat × Nat) := [(0, .iload_n 0, 0, 1), (1, .bipush 96, 0, 2), (3, .irem, 0, 1), (4, .istore_n 1, 0, 1), (5, .iload_n 1, 0, 1), (6, .ifCond .ge 16, 0, 3), (9, .iload_n 1, 0, 1), (10, .bipush 96, 0, 2), (12, .iadd, 0, 1), (13, .goto 17, 0, 3), (16, .iload_n 1, 0, 1), (17, .ireturn, 0, 1)]
def kr1103 : MR := ((⟨"LightPlateModel", "fitTurn", "(I)I"⟩, prog_13_method_4_code, 2, (some .int)), 1, (1076, 1075, 9999), kc1103)
def kc1104 : List (Nat × Instr × Nat × Nat) := [(0, .aload_n 0, 0, 1), (1, .iload_n 1, 0, 1), (2, .iload_n 2, 0, 1), (3, .invokevirtual 1105, 133, 3), (6, .ifCond .ne 11, 0, 3), (9, .iconst (-1), 0, 1), (10, .ireturn, 0, 1), (11, .iload_n 3, 0, 1), (12, .i2l, 0, 1), (13, .lconst 0, 0, 1), (14, .jsr_w 95, 137, 3), (17, .invokestatic 1106, 126, 3), (20, .ifCond .ne 26, 0, 3), (23, .bipush (-2), 0, 2), (25, .ireturn, 0, 1), (26, .aload_n 0, 0, 1), (27, .getfield 1142, 139, 3), (30, .bipush 60, 0, 2), (32, .if_icmp .ne 38, 0, 3), (35, .bipush (-4), 0, 2), (37, .ireturn, 0, 1), (38, .aload_n 0, 0, 1), (39, .getfield 1103, 16, 3), (42, .bipush 6, 0, 2), (44, .iload_n 1, 0, 1), (45, .imul, 0, 1), (46, .iload_n 2, 0, 1), (47, .iadd, 0, 1), (48, .iaload, 0, 1), (49, .istore 4, 0, 2), (51, .aload_n 0, 0, 1), (52, .getfield 1103, 16, 3), (55, .bipush 6, 0, 2), (57, .iload_n 1, 0, 1), (58, .imul, 0, 1), (59, .iload_n 2, 0, 1), (60, .iadd, 0, 1), (61, .iload_n 3, 0, 1), (62, .iastore, 0, 1), (63, .aload_n 0, 0, 1), (64, .dup, 0, 1), (65, .getfield 1142, 139, 3), (68, .iconst 1, 0, 1), (69, .iadd, 0, 1), (70, .putfield 1142, 139, 3), (73, .iload 4, 0, 2), (75, .ireturn, 0, 1)]
def kr1104 : MR := ((⟨"LightPlateModel", "set", "(III)I"⟩, prog_13_method_8_code, 5, (some .int)), 4, (1080, 1078, 1079), kc1104)
def kc1105 : List (Nat × Instr × Nat × Nat) := [(0, .iload_n 1, 0, 1), (1, .i2l, 0, 1), (2, .lconst 0, 0, 1), (3, .jsr_w 11, 124, 3), (6, .invokestatic 1106, 126, 3), (9, .ifCond .eq 41, 0, 3), (12, .iload_n 2, 0, 1), (13, .i2l, 0, 1), (14, .lconst 0, 0, 1), (15, .aload_n 0, 0, 1), (16, .getfield 1100, 117, 3), (19, .iconst 2, 0, 1), (20, .isub, 0, 1), (21, .i2l, 0, 1), (22, .invokestatic 1106, 126, 3), (25, .ifCond .eq 41, 0, 3), (28, .iload_n 2, 0, 1), (29, .iconst 2, 0, 1), (30, .irem, 0, 1), (31, .iload_n 1, 0, 1), (32, .iconst 2, 0, 1), (33, .irem, 0, 1), (34, .if_icmp .ne 41, 0, 3), (37, .iconst 1, 0, 1), (38, .goto 42, 0, 3), (41, .iconst 0, 0, 1), (42, .freturn, 0, 1)]
def kr1105 : MR := ((⟨"LightPlateModel", "isCell", "(II)Z"⟩, prog_13_method_6_code, 3, (some .boolean)), 3, (1084, 1083, 27), kc1105)
def kc1106 : List (Nat × Instr × Nat × Nat) := [(0, .lload_n 0, 0, 1), (1, .lload_n 2, 0, 1), (2, .lcmp, 0, 1), (3, .ifCond .lt 17, 0, 3), (6, .lload_n 0, 0, 1), (7, .lload 4, 0, 2), (9, .lcmp, 0, 1), (10, .ifCond .gt 17, 0, 3), (13, .iconst 1, 0, 1), (14, .goto 18, 0, 3), (17, .iconst 0, 0, 1), (18, .freturn, 0, 1)]
def kr1106 : MR := ((⟨"LightPlateModel", "isIn", "(JJJ)Z"⟩, prog_13_method_2_code, 6, (some .boolean)), 3, (1088, 1087, 9999), kc1106)
def kc1107 : List (Nat × Instr × Nat × Nat) := [(0, .aload_n 0, 0, 1), (1, .iload_n 1, 0, 1), (2, .iload_n 2, 0, 1), (3, .invokevirtual 1105, 133, 3), (6, .ifCond .ne 11, 0, 3), (9, .iconst (-1), 0, 1), (10, .ireturn, 0, 1), (11, .iload_n 3, 0, 1), (12, .i2l, 0, 1), (13, .lconst 0, 0, 1), (14, .jsr_w 95, 137, 3), (17, .invokestatic 1106, 126, 3), (20, .ifCond .ne 26, 0, 3), (23, .bipush (-2), 0, 2), (25, .ireturn, 0, 1), (26, .aload_n 0, 0, 1), (27, .getfield 1104, 19, 3), (30, .bipush 6, 0, 2), (32, .iload_n 1, 0, 1), (33, .imul, 0, 1), (34, .iload_n 2, 0, 1), (35, .iadd, 0, 1), (36, .iaload, 0, 1), (37, .ifCond .ge 44, 0, 3), (40, .iconst 1, 0, 1), (41, .goto 45, 0, 3), (44, .iconst 0, 0, 1), (45, .istore 4, 0, 2), (47, .aload_n 0, 0, 1), (48, .getfield 1104, 19, 3), (51, .bipush 6, 0, 2), (53, .iload_n 1, 0, 1), (54, .imul, 0, 1), (55, .iload_n 2, 0, 1), (56, .iadd, 0, 1), (57, .iload_n 3, 0, 1), (58, .iastore, 0, 1), (59, .iload 4, 0, 2), (61, .ireturn, 0, 1)]
def kr1107 : MR := ((⟨"LightPlateModel", "dies", "(III)I"⟩, prog_13_method_9_code, 5, (some .int)), 4, (1093, 1091, 1092), kc1107)
def kc1108 : List (Nat × Instr × Nat × Nat) := [(0, .aload_n 0, 0, 1), (1, .iload_n 1, 0, 1), (2, .iload_n 2, 0, 1), (3, .invokevirtual 1105, 133, 3), (6, .ifCond .ne 11, 0, 3), (9, .iconst (-1), 0, 1), (10, .ireturn, 0, 1), (11, .aload_n 0, 0, 1), (12, .getfield 1104, 19, 3), (15, .bipush 6, 0, 2), (17, .iload_n 1, 0, 1), (18, .imul, 0, 1), (19, .iload_n 2, 0, 1), (20, .iadd, 0, 1), (21, .iaload, 0, 1), (22, .istore_n 3, 0, 1), (23, .iload_n 3, 0, 1), (24, .ifCond .ge 30, 0, 3), (27, .bipush (-3), 0, 2), (29, .ireturn, 0, 1), (30, .aload_n 0, 0, 1), (31, .getfield 1104, 19, 3), (34, .bipush 6, 0, 2), (36, .iload_n 1, 0, 1), (37, .imul, 0, 1), (38, .iload_n 2, 0, 1), (39, .iadd, 0, 1), (40, .iconst (-1), 0, 1), (41, .iastore, 0, 1), (42, .iload_n 3, 0, 1), (43, .ireturn, 0, 1)]
def kr1108 : MR := ((⟨"LightPlateModel", "mend", "(II)I"⟩, prog_13_method_10_code, 4, (some .int)), 3, (1097, 1095, 1096), kc1108)
def kc1109 : List (Nat × Instr × Nat × Nat) := [(0, .aload_n 0, 0, 1), (1, .iload_n 1, 0, 1), (2, .iload_n 2, 0, 1), (3, .invokevirtual 1105, 133, 3), (6, .ifCond .ne 11, 0, 3), (9, .iconst (-1), 0, 1), (10, .ireturn, 0, 1), (11, .aload_n 0, 0, 1), (12, .invokevirtual 1110, 156, 3), (15, .bipush 6, 0, 2), (17, .iload_n 1, 0, 1), (18, .imul, 0, 1), (19, .iload_n 2, 0, 1), (20, .iadd, 0, 1), (21, .istore 4, 0, 2), (23, .iload_n 3, 0, 1), (24, .tableswitch 98 0 4 #[60, 68, 76, 83, 90], 0, 36), (60, .aload_n 0, 0, 1), (61, .getfield 1103, 16, 3), (64, .iload 4, 0, 2), (66, .iaload, 0, 1), (67, .ireturn, 0, 1), (68, .aload_n 0, 0, 1), (69, .getfield 1104, 19, 3), (72, .iload 4, 0, 2), (74, .iaload, 0, 1), (75, .ireturn, 0, 1), (76, .aload_n 0, 0, 1), (77, .iload_n 1, 0, 1), (78, .iload_n 2, 0, 1), (79, .invokevirtual 1111, 145, 3), (82, .ireturn, 0, 1), (83, .aload_n 0, 0, 1), (84, .iload_n 1, 0, 1), (85, .iload_n 2, 0, 1), (86, .invokevirtual 1113, 149, 3), (89, .ireturn, 0, 1), (90, .aload_n 0, 0, 1), (91, .getfield 1105, 22, 3), (94, .iload 4, 0, 2), (96, .iaload, 0, 1), (97, .ireturn, 0, 1), (98, .iconst (-1), 0, 1), (99, .ireturn, 0, 1)]
def kr1109 : MR := ((⟨"LightPlateModel", "cell", "(III)I"⟩, prog_13_method_18_code, 5, (some .int)), 4, (1101, 1099, 1100), kc1109)
def kc1110 : List (Nat × Instr × Nat × Nat) := [(0, .iconst 0, 0, 1), (1, .istore_n 1, 0, 1), (2, .iload_n 1, 0, 1), (3, .bipush 72, 0, 2), (5, .if_icmp .ge 38, 0, 3), (8, .aload_n 0, 0, 1), (9, .getfield 1108, 32, 3), (12, .iload_n 1, 0, 1), (13, .aload_n 0, 0, 1), (14, .getfield 1103, 16, 3), (17, .iload_n 1, 0, 1), (18, .iaload, 0, 1), (19, .iastore, 0, 1), (20, .aload_n 0, 0, 1), (21, .getfield 1109, 35, 3), (24, .iload_n 1, 0, 1), (25, .aload_n 0, 0, 1), (26, .getfield 1106, 25, 3), (29, .iload_n 1, 0, 1), (30, .iaload, 0, 1), (31, .iastore, 0, 1), (32, .iinc 1 1, 0, 3), (35, .goto 2, 0, 3), (38, .return_, 0, 1)]
def kr1110 : MR := ((⟨"LightPlateModel", "asNow", "()V"⟩, prog_13_method_17_code, 2, none), 1, (1105, 1104, 28), kc1110)
def kc1111 : List (Nat × Instr × Nat × Nat) := [(0, .aload_n 0, 0, 1), (1, .iload_n 1, 0, 1), (2, .iload_n 2, 0, 1), (3, .invokevirtual 1105, 133, 3), (6, .ifCond .ne 11, 0, 3), (9, .iconst 0, 0, 1), (10, .ireturn, 0, 1), (11, .aload_n 0, 0, 1), (12, .bipush 6, 0, 2), (14, .iload_n 1, 0, 1), (15, .imul, 0, 1), (16, .iload_n 2, 0, 1), (17, .iadd, 0, 1), (18, .invokevirtual 1112, 142, 3), (21, .istore_n 3, 0, 1), (22, .iload_n 3, 0, 1), (23, .bipush 96, 0, 2), (25, .iload_n 3, 0, 1), (26, .isub, 0, 1), (27, .if_icmp .ge 34, 0, 3), (30, .iload_n 3, 0, 1), (31, .goto 38, 0, 3), (34, .bipush 96, 0, 2), (36, .iload_n 3, 0, 1), (37, .isub, 0, 1), (38, .ireturn, 0, 1)]
def kr1111 : MR := ((⟨"LightPlateModel", "heat", "(II)I"⟩, prog_13_method_12_code, 4, (some .int)), 3, (1109, 1108, 29), kc1111)
def kc1112 : List (Nat × Instr × Nat × Nat) := [(0, .aload_n 0, 0, 1), (1, .getfield 1104, 19, 3), (4, .iload_n 1, 0, 1), (5, .iaload, 0, 1), (6, .ifCond .lt 18, 0, 3), (9, .aload_n 0, 0, 1), (10, .getfield 1104, 19, 3), (13, .iload_n 1, 0, 1), (14, .iaload, 0, 1), (15, .goto 24, 0, 3), (18, .aload_n 0, 0, 1), (19, .getfield 1108, 32, 3), (22, .iload_n 1, 0, 1), (23, .iaload, 0, 1), (24, .ireturn, 0, 1)]
def kr1112 : MR := ((⟨"LightPlateModel", "turnOf", "(I)I"⟩, prog_13_method_11_code, 2, (some .int)), 2, (1113, 1112, 30), kc1112)
def kc1113 : List (Nat × Instr × Nat × Nat) := [(0, .bipush 6, 0, 2), (2, .iload_n 1, 0, 1), (3, .imul, 0, 1), (4, .iload_n 2, 0, 1), (5, .iadd, 0, 1), (6, .istore_n 3, 0, 1), (7, .aload_n 0, 0, 1), (8, .getfield 1104, 19, 3), (11, .iload_n 3, 0, 1), (12, .iaload, 0, 1), (13, .ifCond .lt 23, 0, 3), (16, .aload_n 0, 0, 1), (17, .getfield 1104, 19, 3), (20, .iload_n 3, 0, 1), (21, .iaload, 0, 1), (22, .ireturn, 0, 1), (23, .aload_n 0, 0, 1), (24, .getfield 1108, 32, 3), (27, .iload_n 3, 0, 1), (28, .iaload, 0, 1), (29, .aload_n 0, 0, 1), (30, .iload_n 1, 0, 1), (31, .iload_n 2, 0, 1), (32, .iconst 2, 0, 1), (33, .isub, 0, 1), (34, .invokevirtual 1111, 145, 3), (37, .aload_n 0, 0, 1), (38, .iload_n 1, 0, 1), (39, .iload_n 2, 0, 1), (40, .iconst 2, 0, 1), (41, .iadd, 0, 1), (42, .invokevirtual 1111, 145, 3), (45, .iadd, 0, 1), (46, .aload_n 0, 0, 1), (47, .getfield 1107, 28, 3), (50, .idiv, 0, 1), (51, .iadd, 0, 1), (52, .aload_n 0, 0, 1), (53, .getfield 1109, 35, 3), (56, .iload_n 3, 0, 1), (57, .iaload, 0, 1), (58, .iadd, 0, 1), (59, .invokestatic 1103, 130, 3), (62, .ireturn, 0, 1)]
def kr1113 : MR := ((⟨"LightPlateModel", "trueTurn", "(II)I"⟩, prog_13_method_13_code, 4, (some .int)), 3, (1117, 1116, 31), kc1113)
def kc1114 : List (Nat × Instr × Nat × Nat) := [(0, .aload_n 0, 0, 1), (1, .iload_n 1, 0, 1), (2, .invokevirtual 1115, 159, 3), (5, .ifCond .eq 16, 0, 3), (8, .aload_n 0, 0, 1), (9, .iload_n 2, 0, 1), (10, .invokevirtual 1115, 159, 3), (13, .ifCond .ne 18, 0, 3), (16, .iconst (-1), 0, 1), (17, .ireturn, 0, 1), (18, .aload_n 0, 0, 1), (19, .invokevirtual 1110, 156, 3), (22, .aload_n 0, 0, 1), (23, .iload_n 2, 0, 1), (24, .invokevirtual 1116, 163, 3), (27, .aload_n 0, 0, 1), (28, .iconst 0, 0, 1), (29, .invokevirtual 1117, 167, 3), (32, .aload_n 0, 0, 1), (33, .getfield 1110, 38, 3), (36, .iload_n 1, 0, 1), (37, .iaload, 0, 1), (38, .ireturn, 0, 1)]
def kr1114 : MR := ((⟨"LightPlateModel", "table", "(II)I"⟩, prog_13_method_19_code, 3, (some .int)), 3, (1121, 1119, 1120), kc1114)
def kc1115 : List (Nat × Instr × Nat × Nat) := [(0, .iload_n 1, 0, 1), (1, .ifCond .lt 16, 0, 3), (4, .iload_n 1, 0, 1), (5, .aload_n 0, 0, 1), (6, .getfield 1100, 117, 3), (9, .if_icmp .ge 16, 0, 3), (12, .iconst 1, 0, 1), (13, .goto 17, 0, 3), (16, .iconst 0, 0, 1), (17, .freturn, 0, 1)]
def kr1115 : MR := ((⟨"LightPlateModel", "isLane", "(I)Z"⟩, prog_13_method_5_code, 2, (some .boolean)), 2, (1125, 1124, 32), kc1115)
def kc1116 : List (Nat × Instr × Nat × Nat) := [(0, .iconst 0, 0, 1), (1, .istore_n 2, 0, 1), (2, .iload_n 2, 0, 1), (3, .aload_n 0, 0, 1), (4, .getfield 1100, 117, 3), (7, .if_icmp .ge 32, 0, 3), (10, .aload_n 0, 0, 1), (11, .getfield 1110, 38, 3), (14, .iload_n 2, 0, 1), (15, .iload_n 2, 0, 1), (16, .iload_n 1, 0, 1), (17, .if_icmp .ne 24, 0, 3), (20, .iconst 1, 0, 1), (21, .goto 25, 0, 3), (24, .iconst 0, 0, 1), (25, .iastore, 0, 1), (26, .iinc 2 1, 0, 3), (29, .goto 2, 0, 3), (32, .return_, 0, 1)]
def kr1116 : MR := ((⟨"LightPlateModel", "enters", "(I)V"⟩, prog_13_method_16_code, 3, none), 2, (1129, 1128, 33), kc1116)
def kc1117 : List (Nat × Instr × Nat × Nat) := [(0, .iconst 0, 0, 1), (1, .istore_n 2, 0, 1), (2, .iload_n 2, 0, 1), (3, .bipush 12, 0, 2), (5, .if_icmp .ge 62, 0, 3), (8, .iload_n 2, 0, 1), (9, .iconst 2, 0, 1), (10, .irem, 0, 1), (11, .istore_n 3, 0, 1), (12, .iload_n 3, 0, 1), (13, .aload_n 0, 0, 1), (14, .getfield 1100, 117, 3), (17, .iconst 1, 0, 1), (18, .isub, 0, 1), (19, .if_icmp .ge 56, 0, 3), (22, .aload_n 0, 0, 1), (23, .iload_n 3, 0, 1), (24, .iload_n 1, 0, 1), (25, .ifCond .eq 37, 0, 3), (28, .aload_n 0, 0, 1), (29, .iload_n 2, 0, 1), (30, .iload_n 3, 0, 1), (31, .invokevirtual 1113, 149, 3), (34, .goto 47, 0, 3), (37, .aload_n 0, 0, 1), (38, .bipush 6, 0, 2), (40, .iload_n 2, 0, 1), (41, .imul, 0, 1), (42, .iload_n 3, 0, 1), (43, .iadd, 0, 1), (44, .invokevirtual 1112, 142, 3), (47, .invokevirtual 1118, 152, 3), (50, .iinc 3 2, 0, 3), (53, .goto 12, 0, 3), (56, .iinc 2 1, 0, 3), (59, .goto 2, 0, 3), (62, .return_, 0, 1)]
def kr1117 : MR := ((⟨"LightPlateModel", "goes", "(Z)V"⟩, prog_13_method_15_code, 4, none), 2, (1133, 1132, 34), kc1117)
def kc1118 : List (Nat × Instr × Nat × Nat) := [(0, .aload_n 0, 0, 1), (1, .getfield 1110, 38, 3), (4, .iload_n 1, 0, 1), (5, .iaload, 0, 1), (6, .istore_n 3, 0, 1), (7, .aload_n 0, 0, 1), (8, .getfield 1110, 38, 3), (11, .iload_n 1, 0, 1), (12, .iconst 1, 0, 1), (13, .iadd, 0, 1), (14, .iaload, 0, 1), (15, .istore 4, 0, 2), (17, .aload_n 0, 0, 1), (18, .getfield 1110, 38, 3), (21, .iload_n 1, 0, 1), (22, .aload_n 0, 0, 1), (23, .getfield 1101, 7, 3), (26, .iload_n 2, 0, 1), (27, .iaload, 0, 1), (28, .iload_n 3, 0, 1), (29, .imul, 0, 1), (30, .aload_n 0, 0, 1), (31, .getfield 1102, 13, 3), (34, .iload_n 2, 0, 1), (35, .iaload, 0, 1), (36, .iload 4, 0, 2), (38, .imul, 0, 1), (39, .isub, 0, 1), (40, .invokestatic 1101, 120, 3), (43, .iastore, 0, 1), (44, .aload_n 0, 0, 1), (45, .getfield 1110, 38, 3), (48, .iload_n 1, 0, 1), (49, .iconst 1, 0, 1), (50, .iadd, 0, 1), (51, .aload_n 0, 0, 1), (52, .getfield 1102, 13, 3), (55, .iload_n 2, 0, 1), (56, .iaload, 0, 1), (57, .iload_n 3, 0, 1), (58, .imul, 0, 1), (59, .aload_n 0, 0, 1), (60, .getfield 1101, 7, 3), (63, .iload_n 2, 0, 1), (64, .iaload, 0, 1), (65, .iload 4, 0, 2), (67, .imul, 0, 1), (68, .iadd, 0, 1), (69, .invokestatic 1101, 120, 3), (72, .iastore, 0, 1), (73, .return_, 0, 1)]
def kr1118 : MR := ((⟨"LightPlateModel", "turns", "(II)V"⟩, prog_13_method_14_code, 5, none), 3, (1137, 1136, 35), kc1118)
def kc1119 : List (Nat × Instr × Nat × Nat) := [(0, .aload_n 0, 0, 1), (1, .iload_n 1, 0, 1), (2, .invokevirtual 1115, 159, 3), (5, .ifCond .eq 16, 0, 3), (8, .aload_n 0, 0, 1), (9, .iload_n 2, 0, 1), (10, .invokevirtual 1115, 159, 3), (13, .ifCond .ne 18, 0, 3), (16, .iconst (-1), 0, 1), (17, .ireturn, 0, 1), (18, .iload_n 3, 0, 1), (19, .i2l, 0, 1), (20, .lconst 0, 0, 1), (21, .jsr_w 96, 171, 3), (24, .invokestatic 1106, 126, 3), (27, .ifCond .ne 33, 0, 3), (30, .bipush (-2), 0, 2), (32, .ireturn, 0, 1), (33, .aload_n 0, 0, 1), (34, .getfield 1111, 41, 3), (37, .bipush 6, 0, 2), (39, .iload_n 1, 0, 1), (40, .imul, 0, 1), (41, .iload_n 2, 0, 1), (42, .iadd, 0, 1), (43, .iaload, 0, 1), (44, .istore 4, 0, 2), (46, .aload_n 0, 0, 1), (47, .getfield 1111, 41, 3), (50, .bipush 6, 0, 2), (52, .iload_n 1, 0, 1), (53, .imul, 0, 1), (54, .iload_n 2, 0, 1), (55, .iadd, 0, 1), (56, .iload_n 3, 0, 1), (57, .iastore, 0, 1), (58, .iload 4, 0, 2), (60, .ireturn, 0, 1)]
def kr1119 : MR := ((⟨"LightPlateModel", "entry", "(III)I"⟩, prog_13_method_20_code, 5, (some .int)), 4, (1141, 1139, 1140), kc1119)
def kc1120 : List (Nat × Instr × Nat × Nat) := [(0, .iconst 0, 0, 1), (1, .istore_n 1, 0, 1), (2, .iconst 0, 0, 1), (3, .istore_n 2, 0, 1), (4, .iload_n 2, 0, 1), (5, .aload_n 0, 0, 1), (6, .getfield 1100, 117, 3), (9, .if_icmp .ge 77, 0, 3), (12, .iconst 0, 0, 1), (13, .istore_n 3, 0, 1), (14, .iload_n 3, 0, 1), (15, .aload_n 0, 0, 1), (16, .getfield 1100, 117, 3), (19, .if_icmp .ge 71, 0, 3), (22, .aload_n 0, 0, 1), (23, .iload_n 3, 0, 1), (24, .iload_n 2, 0, 1), (25, .invokevirtual 1114, 173, 3), (28, .istore 4, 0, 2), (30, .aload_n 0, 0, 1), (31, .getfield 1111, 41, 3), (34, .bipush 6, 0, 2), (36, .iload_n 3, 0, 1), (37, .imul, 0, 1), (38, .iload_n 2, 0, 1), (39, .iadd, 0, 1), (40, .iaload, 0, 1), (41, .iload 4, 0, 2), (43, .if_icmp .eq 50, 0, 3), (46, .iconst 1, 0, 1), (47, .goto 51, 0, 3), (50, .iload_n 1, 0, 1), (51, .istore_n 1, 0, 1), (52, .aload_n 0, 0, 1), (53, .getfield 1111, 41, 3), (56, .bipush 6, 0, 2), (58, .iload_n 3, 0, 1), (59, .imul, 0, 1), (60, .iload_n 2, 0, 1), (61, .iadd, 0, 1), (62, .iload 4, 0, 2), (64, .iastore, 0, 1), (65, .iinc 3 1, 0, 3), (68, .goto 14, 0, 3), (71, .iinc 2 1, 0, 3), (74, .goto 4, 0, 3), (77, .iload_n 1, 0, 1), (78, .ireturn, 0, 1)]
def kr1120 : MR := ((⟨"LightPlateModel", "take", "()I"⟩, prog_13_method_21_code, 5, (some .int)), 1, (1146, 1144, 1145), kc1120)
def kc1121 : List (Nat × Instr × Nat × Nat) := [(0, .iconst 0, 0, 1), (1, .istore_n 1, 0, 1), (2, .iload_n 1, 0, 1), (3, .aload_n 0, 0, 1), (4, .getfield 1100, 117, 3), (7, .if_icmp .ge 99, 0, 3), (10, .iconst 0, 0, 1), (11, .istore_n 2, 0, 1), (12, .iload_n 2, 0, 1), (13, .aload_n 0, 0, 1), (14, .getfield 1100, 117, 3), (17, .if_icmp .ge 93, 0, 3), (20, .iconst 0, 0, 1), (21, .istore_n 3, 0, 1), (22, .iconst 0, 0, 1), (23, .istore 4, 0, 2), (25, .iload 4, 0, 2), (27, .aload_n 0, 0, 1), (28, .getfield 1100, 117, 3), (31, .if_icmp .ge 68, 0, 3), (34, .iload_n 3, 0, 1), (35, .aload_n 0, 0, 1), (36, .getfield 1111, 41, 3), (39, .bipush 6, 0, 2), (41, .iload 4, 0, 2), (43, .imul, 0, 1), (44, .iload_n 1, 0, 1), (45, .iadd, 0, 1), (46, .iaload, 0, 1), (47, .aload_n 0, 0, 1), (48, .getfield 1111, 41, 3), (51, .bipush 6, 0, 2), (53, .iload 4, 0, 2), (55, .imul, 0, 1), (56, .iload_n 2, 0, 1), (57, .iadd, 0, 1), (58, .iaload, 0, 1), (59, .imul, 0, 1), (60, .iadd, 0, 1), (61, .istore_n 3, 0, 1), (62, .iinc 4 1, 0, 3), (65, .goto 25, 0, 3), (68, .iload_n 3, 0, 1), (69, .bipush 97, 0, 2), (71, .irem, 0, 1), (72, .iload_n 1, 0, 1), (73, .iload_n 2, 0, 1), (74, .if_icmp .ne 81, 0, 3), (77, .iconst 1, 0, 1), (78, .goto 82, 0, 3), (81, .iconst 0, 0, 1), (82, .if_icmp .eq 87, 0, 3), (85, .iconst 0, 0, 1), (86, .ireturn, 0, 1), (87, .iinc 2 1, 0, 3), (90, .goto 12, 0, 3), (93, .iinc 1 1, 0, 3), (96, .goto 2, 0, 3), (99, .iconst 1, 0, 1), (100, .ireturn, 0, 1)]
def kr1121 : MR := ((⟨"LightPlateModel", "right", "()I"⟩, prog_13_method_22_code, 5, (some .int)), 1, (1151, 1149, 1150), kc1121)
def kc1122 : List (Nat × Instr × Nat × Nat) := [(0, .iconst 0, 0, 1), (1, .istore_n 1, 0, 1), (2, .iload_n 1, 0, 1), (3, .bipush 36, 0, 2), (5, .if_icmp .ge 26, 0, 3), (8, .aload_n 0, 0, 1), (9, .getfield 1112, 44, 3), (12, .iload_n 1, 0, 1), (13, .aload_n 0, 0, 1), (14, .getfield 1111, 41, 3), (17, .iload_n 1, 0, 1), (18, .iaload, 0, 1), (19, .iastore, 0, 1), (20, .iinc 1 1, 0, 3), (23, .goto 2, 0, 3), (26, .aload_n 0, 0, 1), (27, .iconst 0, 0, 1), (28, .putfield 1116, 176, 3), (31, .aload_n 0, 0, 1), (32, .iconst 1, 0, 1), (33, .putfield 1117, 179, 3), (36, .aload_n 0, 0, 1), (37, .iconst 0, 0, 1), (38, .putfield 1118, 183, 3), (41, .iconst 0, 0, 1), (42, .istore_n 1, 0, 1), (43, .iload_n 1, 0, 1), (44, .aload_n 0, 0, 1), (45, .getfield 1100, 117, 3), (48, .iconst 1, 0, 1), (49, .isub, 0, 1), (50, .if_icmp .ge 275, 0, 3), (53, .aload_n 0, 0, 1), (54, .getfield 1100, 117, 3), (57, .iconst 1, 0, 1), (58, .isub, 0, 1), (59, .istore_n 2, 0, 1), (60, .iload_n 2, 0, 1), (61, .iload_n 1, 0, 1), (62, .if_icmp .le 269, 0, 3), (65, .aload_n 0, 0, 1), (66, .aload_n 0, 0, 1), (67, .getfield 1112, 44, 3), (70, .bipush 6, 0, 2), (72, .iload_n 2, 0, 1), (73, .iconst 1, 0, 1), (74, .isub, 0, 1), (75, .imul, 0, 1), (76, .iload_n 1, 0, 1), (77, .iadd, 0, 1), (78, .iaload, 0, 1), (79, .aload_n 0, 0, 1), (80, .getfield 1112, 44, 3), (83, .bipush 6, 0, 2), (85, .iload_n 2, 0, 1), (86, .imul, 0, 1), (87, .iload_n 1, 0, 1), (88, .iadd, 0, 1), (89, .iaload, 0, 1), (90, .invokevirtual 1123, 186, 3), (93, .istore_n 3, 0, 1), (94, .iload_n 3, 0, 1), (95, .bipush 96, 0, 2), (97, .if_icmp .ne 113, 0, 3), (100, .aload_n 0, 0, 1), (101, .iconst 1, 0, 1), (102, .putfield 1118, 183, 3), (105, .bipush (-10), 0, 2), (107, .aload_n 0, 0, 1), (108, .getfield 1116, 176, 3), (111, .isub, 0, 1), (112, .ireturn, 0, 1), (113, .iconst 0, 0, 1), (114, .istore 4, 0, 2), (116, .iload 4, 0, 2), (118, .aload_n 0, 0, 1), (119, .getfield 1100, 117, 3), (122, .if_icmp .ge 231, 0, 3), (125, .aload_n 0, 0, 1), (126, .getfield 1112, 44, 3), (129, .bipush 6, 0, 2), (131, .iload_n 2, 0, 1), (132, .iconst 1, 0, 1), (133, .isub, 0, 1), (134, .imul, 0, 1), (135, .iload 4, 0, 2), (137, .iadd, 0, 1), (138, .iaload, 0, 1), (139, .istore 5, 0, 2), (141, .aload_n 0, 0, 1), (142, .getfield 1112, 44, 3), (145, .bipush 6, 0, 2), (147, .iload_n 2, 0, 1), (148, .imul, 0, 1), (149, .iload 4, 0, 2), (151, .iadd, 0, 1), (152, .iaload, 0, 1), (153, .istore 6, 0, 2), (155, .aload_n 0, 0, 1), (156, .getfield 1112, 44, 3), (159, .bipush 6, 0, 2), (161, .iload_n 2, 0, 1), (162, .iconst 1, 0, 1), (163, .isub, 0, 1), (164, .imul, 0, 1), (165, .iload 4, 0, 2), (167, .iadd, 0, 1), (168, .aload_n 0, 0, 1), (169, .getfield 1101, 7, 3), (172, .iload_n 3, 0, 1), (173, .iaload, 0, 1), (174, .iload 5, 0, 2), (176, .imul, 0, 1), (177, .aload_n 0, 0, 1), (178, .getfield 1102, 13, 3), (181, .iload_n 3, 0, 1), (182, .iaload, 0, 1), (183, .iload 6, 0, 2), (185, .imul, 0, 1), (186, .isub, 0, 1), (187, .invokestatic 1101, 120, 3), (190, .iastore, 0, 1), (191, .aload_n 0, 0, 1), (192, .getfield 1112, 44, 3), (195, .bipush 6, 0, 2), (197, .iload_n 2, 0, 1), (198, .imul, 0, 1), (199, .iload 4, 0, 2), (201, .iadd, 0, 1), (202, .aload_n 0, 0, 1), (203, .getfield 1102, 13, 3), (206, .iload_n 3, 0, 1), (207, .iaload, 0, 1), (208, .iload 5, 0, 2), (210, .imul, 0, 1), (211, .aload_n 0, 0, 1), (212, .getfield 1101, 7, 3), (215, .iload_n 3, 0, 1), (216, .iaload, 0, 1), (217, .iload 6, 0, 2), (219, .imul, 0, 1), (220, .iadd, 0, 1), (221, .invokestatic 1101, 120, 3), (224, .iastore, 0, 1), (225, .iinc 4 1, 0, 3), (228, .goto 116, 0, 3), (231, .aload_n 0, 0, 1), (232, .getfield 1113, 47, 3), (235, .aload_n 0, 0, 1), (236, .getfield 1116, 176, 3), (239, .iload_n 2, 0, 1), (240, .iconst 1, 0, 1), (241, .isub, 0, 1), (242, .iastore, 0, 1), (243, .aload_n 0, 0, 1), (244, .getfield 1114, 50, 3), (247, .aload_n 0, 0, 1), (248, .getfield 1116, 176, 3), (251, .iload_n 3, 0, 1), (252, .iastore, 0, 1), (253, .aload_n 0, 0, 1), (254, .dup, 0, 1), (255, .getfield 1116, 176, 3), (258, .iconst 1, 0, 1), (259, .iadd, 0, 1), (260, .putfield 1116, 176, 3), (263, .iinc 2 (-1), 0, 3), (266, .goto 60, 0, 3), (269, .iinc 1 1, 0, 3), (272, .goto 43, 0, 3), (275, .iconst 0, 0, 1), (276, .istore_n 1, 0, 1), (277, .iload_n 1, 0, 1), (278, .aload_n 0, 0, 1), (279, .getfield 1100, 117, 3), (282, .if_icmp .ge 306, 0, 3), (285, .aload_n 0, 0, 1), (286, .getfield 1115, 53, 3), (289, .iload_n 1, 0, 1), (290, .aload_n 0, 0, 1), (291, .getfield 1112, 44, 3), (294, .bipush 7, 0, 2), (296, .iload_n 1, 0, 1), (297, .imul, 0, 1), (298, .iaload, 0, 1), (299, .iastore, 0, 1), (300, .iinc 1 1, 0, 3), (303, .goto 277, 0, 3), (306, .aload_n 0, 0, 1), (307, .getfield 1116, 176, 3), (310, .ireturn, 0, 1)]
def kr1122 : MR := ((⟨"LightPlateModel", "split", "()I"⟩, prog_13_method_24_code, 7, (some .int)), 1, (1155, 1153, 1154), kc1122)
def kc1123 : List (Nat × Instr × Nat × Nat) := [(0, .iconst 0, 0, 1), (1, .istore_n 3, 0, 1), (2, .iload_n 3, 0, 1), (3, .bipush 96, 0, 2), (5, .if_icmp .ge 37, 0, 3), (8, .aload_n 0, 0, 1), (9, .getfield 1102, 13, 3), (12, .iload_n 3, 0, 1), (13, .iaload, 0, 1), (14, .iload_n 1, 0, 1), (15, .imul, 0, 1), (16, .aload_n 0, 0, 1), (17, .getfield 1101, 7, 3), (20, .iload_n 3, 0, 1), (21, .iaload, 0, 1), (22, .iload_n 2, 0, 1), (23, .imul, 0, 1), (24, .iadd, 0, 1), (25, .invokestatic 1101, 120, 3), (28, .ifCond .eq 37, 0, 3), (31, .iinc 3 1, 0, 3), (34, .goto 2, 0, 3), (37, .iload_n 3, 0, 1), (38, .ireturn, 0, 1)]
def kr1123 : MR := ((⟨"LightPlateModel", "clears", "(II)I"⟩, prog_13_method_23_code, 4, (some .int)), 3, (1159, 1158, 36), kc1123)
def kc1124 : List (Nat × Instr × Nat × Nat) := [(0, .aload_n 0, 0, 1), (1, .getfield 1117, 179, 3), (4, .ifCond .eq 19, 0, 3), (7, .iload_n 2, 0, 1), (8, .i2l, 0, 1), (9, .lconst 0, 0, 1), (10, .jsr_w 2, 189, 3), (13, .invokestatic 1106, 126, 3), (16, .ifCond .ne 21, 0, 3), (19, .iconst (-1), 0, 1), (20, .ireturn, 0, 1), (21, .iload_n 2, 0, 1), (22, .iconst 2, 0, 1), (23, .if_icmp .ne 52, 0, 3), (26, .aload_n 0, 0, 1), (27, .getfield 1118, 183, 3), (30, .ifCond .ne 41, 0, 3), (33, .aload_n 0, 0, 1), (34, .iload_n 1, 0, 1), (35, .invokevirtual 1115, 159, 3), (38, .ifCond .ne 45, 0, 3), (41, .iconst (-1), 0, 1), (42, .goto 51, 0, 3), (45, .aload_n 0, 0, 1), (46, .getfield 1115, 53, 3), (49, .iload_n 1, 0, 1), (50, .iaload, 0, 1), (51, .ireturn, 0, 1), (52, .iload_n 1, 0, 1), (53, .i2l, 0, 1), (54, .lconst 0, 0, 1), (55, .aload_n 0, 0, 1), (56, .getfield 1116, 176, 3), (59, .iconst 1, 0, 1), (60, .isub, 0, 1), (61, .i2l, 0, 1), (62, .invokestatic 1106, 126, 3), (65, .ifCond .ne 70, 0, 3), (68, .iconst (-1), 0, 1), (69, .ireturn, 0, 1), (70, .iload_n 2, 0, 1), (71, .ifCond .ne 83, 0, 3), (74, .aload_n 0, 0, 1), (75, .getfield 1113, 47, 3), (78, .iload_n 1, 0, 1), (79, .iaload, 0, 1), (80, .goto 89, 0, 3), (83, .aload_n 0, 0, 1), (84, .getfield 1114, 50, 3), (87, .iload_n 1, 0, 1), (88, .iaload, 0, 1), (89, .ireturn, 0, 1)]
def kr1124 : MR := ((⟨"LightPlateModel", "step", "(II)I"⟩, prog_13_method_25_code, 3, (some .int)), 3, (1163, 1161, 1162), kc1124)
def kc1125 : List (Nat × Instr × Nat × Nat) := [(0, .aload_n 0, 0, 1), (1, .getfield 1117, 179, 3), (4, .ifCond .eq 14, 0, 3), (7, .aload_n 0, 0, 1), (8, .getfield 1118, 183, 3), (11, .ifCond .eq 17, 0, 3), (14, .bipush (-3), 0, 2), (16, .ireturn, 0, 1), (17, .iconst 0, 0, 1), (18, .istore_n 1, 0, 1), (19, .iconst 0, 0, 1), (20, .istore_n 2, 0, 1), (21, .iload_n 2, 0, 1), (22, .aload_n 0, 0, 1), (23, .getfield 1116, 176, 3), (26, .if_icmp .ge 52, 0, 3), (29, .iload_n 1, 0, 1), (30, .aload_n 0, 0, 1), (31, .getfield 1114, 50, 3), (34, .iload_n 2, 0, 1), (35, .iaload, 0, 1), (36, .ifCond .le 43, 0, 3), (39, .iconst 1, 0, 1), (40, .goto 44, 0, 3), (43, .iconst 0, 0, 1), (44, .iadd, 0, 1), (45, .istore_n 1, 0, 1), (46, .iinc 2 1, 0, 3), (49, .goto 21, 0, 3), (52, .iload_n 1, 0, 1), (53, .bipush 10, 0, 2), (55, .if_icmp .le 61, 0, 3), (58, .bipush (-4), 0, 2), (60, .ireturn, 0, 1), (61, .aload_n 0, 0, 1), (62, .iconst 0, 0, 1), (63, .putfield 1121, 191, 3), (66, .aload_n 0, 0, 1), (67, .getfield 1116, 176, 3), (70, .iconst 1, 0, 1), (71, .isub, 0, 1), (72, .istore_n 2, 0, 1), (73, .iload_n 2, 0, 1), (74, .ifCond .lt 138, 0, 3), (77, .aload_n 0, 0, 1), (78, .getfield 1114, 50, 3), (81, .iload_n 2, 0, 1), (82, .iaload, 0, 1), (83, .ifCond .ne 89, 0, 3), (86, .goto 132, 0, 3), (89, .aload_n 0, 0, 1), (90, .getfield 1119, 56, 3), (93, .aload_n 0, 0, 1), (94, .getfield 1121, 191, 3), (97, .aload_n 0, 0, 1), (98, .getfield 1113, 47, 3), (101, .iload_n 2, 0, 1), (102, .iaload, 0, 1), (103, .iastore, 0, 1), (104, .aload_n 0, 0, 1), (105, .getfield 1120, 59, 3), (108, .aload_n 0, 0, 1), (109, .getfield 1121, 191, 3), (112, .bipush 96, 0, 2), (114, .aload_n 0, 0, 1), (115, .getfield 1114, 50, 3), (118, .iload_n 2, 0, 1), (119, .iaload, 0, 1), (120, .isub, 0, 1), (121, .iastore, 0, 1), (122, .aload_n 0, 0, 1), (123, .dup, 0, 1), (124, .getfield 1121, 191, 3), (127, .iconst 1, 0, 1), (128, .iadd, 0, 1), (129, .putfield 1121, 191, 3), (132, .iinc 2 (-1), 0, 3), (135, .goto 73, 0, 3), (138, .aload_n 0, 0, 1), (139, .getfield 1121, 191, 3), (142, .ireturn, 0, 1)]
def kr1125 : MR := ((⟨"LightPlateModel", "undo", "()I"⟩, prog_13_method_26_code, 3, (some .int)), 1, (1168, 1166, 1167), kc1125)
def kc1126 : List (Nat × Instr × Nat × Nat) := [(0, .iload_n 1, 0, 1), (1, .i2l, 0, 1), (2, .lconst 0, 0, 1), (3, .aload_n 0, 0, 1), (4, .getfield 1121, 191, 3), (7, .iconst 1, 0, 1), (8, .isub, 0, 1), (9, .i2l, 0, 1), (10, .invokestatic 1106, 126, 3), (13, .ifCond .ne 20, 0, 3), (16, .iconst (-1), 0, 1), (17, .goto 48, 0, 3), (20, .iload_n 2, 0, 1), (21, .ifCond .ne 33, 0, 3), (24, .aload_n 0, 0, 1), (25, .getfield 1119, 56, 3), (28, .iload_n 1, 0, 1), (29, .iaload, 0, 1), (30, .goto 48, 0, 3), (33, .iload_n 2, 0, 1), (34, .iconst 1, 0, 1), (35, .if_icmp .ne 47, 0, 3), (38, .aload_n 0, 0, 1), (39, .getfield 1120, 59, 3), (42, .iload_n 1, 0, 1), (43, .iaload, 0, 1), (44, .goto 48, 0, 3), (47, .iconst (-1), 0, 1), (48, .ireturn, 0, 1)]
def kr1126 : MR := ((⟨"LightPlateModel", "work", "(II)I"⟩, prog_13_method_27_code, 3, (some .int)), 3, (1172, 1170, 1171), kc1126)
def kc1127 : List (Nat × Instr × Nat × Nat) := [(0, .bipush 12, 0, 2), (2, .istore_n 1, 0, 1), (3, .iload_n 1, 0, 1), (4, .ifCond .le 23, 0, 3), (7, .aload_n 0, 0, 1), (8, .iload_n 1, 0, 1), (9, .iconst 1, 0, 1), (10, .isub, 0, 1), (11, .invokevirtual 1128, 203, 3), (14, .ifCond .eq 23, 0, 3), (17, .iinc 1 (-1), 0, 3), (20, .goto 3, 0, 3), (23, .iload_n 1, 0, 1), (24, .istore_n 2, 0, 1), (25, .iconst 0, 0, 1), (26, .istore_n 3, 0, 1), (27, .iload_n 2, 0, 1), (28, .bipush 12, 0, 2), (30, .if_icmp .gt 64, 0, 3), (33, .iload_n 3, 0, 1), (34, .ifCond .ne 64, 0, 3), (37, .aload_n 0, 0, 1), (38, .iload_n 2, 0, 1), (39, .invokevirtual 1129, 206, 3), (42, .aload_n 0, 0, 1), (43, .getfield 1122, 62, 3), (46, .iconst 0, 0, 1), (47, .baload, 0, 1), (48, .istore_n 3, 0, 1), (49, .iload_n 2, 0, 1), (50, .iload_n 3, 0, 1), (51, .ifCond .eq 58, 0, 3), (54, .iconst 0, 0, 1), (55, .goto 59, 0, 3), (58, .iconst 1, 0, 1), (59, .iadd, 0, 1), (60, .istore_n 2, 0, 1), (61, .goto 27, 0, 3), (64, .iload_n 3, 0, 1), (65, .ifCond .ne 71, 0, 3), (68, .bipush (-5), 0, 2), (70, .ireturn, 0, 1), (71, .iconst 0, 0, 1), (72, .istore 4, 0, 2), (74, .iload 4, 0, 2), (76, .bipush 72, 0, 2), (78, .if_icmp .ge 115, 0, 3), (81, .aload_n 0, 0, 1), (82, .getfield 1103, 16, 3), (85, .iload 4, 0, 2), (87, .aload_n 0, 0, 1), (88, .getfield 1104, 19, 3), (91, .iload 4, 0, 2), (93, .iaload, 0, 1), (94, .ifCond .ge 101, 0, 3), (97, .iconst 0, 0, 1), (98, .goto 108, 0, 3), (101, .aload_n 0, 0, 1), (102, .getfield 1103, 16, 3), (105, .iload 4, 0, 2), (107, .iaload, 0, 1), (108, .iastore, 0, 1), (109, .iinc 4 1, 0, 3), (112, .goto 74, 0, 3), (115, .iconst 0, 0, 1), (116, .istore 4, 0, 2), (118, .iconst 0, 0, 1), (119, .istore 5, 0, 2), (121, .iload 5, 0, 2), (123, .iload_n 2, 0, 1), (124, .if_icmp .ge 274, 0, 3), (127, .iconst 1, 0, 1), (128, .aload_n 0, 0, 1), (129, .getfield 1121, 191, 3), (132, .ishl, 0, 1), (133, .iconst 1, 0, 1), (134, .isub, 0, 1), (135, .iload 4, 0, 2), (137, .iconst (-1), 0, 1), (138, .ixor, 0, 1), (139, .iand, 0, 1), (140, .istore 6, 0, 2), (142, .iload 6, 0, 2), (144, .istore 7, 0, 2), (146, .aload_n 0, 0, 1), (147, .getfield 1122, 62, 3), (150, .sipush 1024, 0, 3), (153, .iload 5, 0, 2), (155, .iconst 1, 0, 1), (156, .iadd, 0, 1), (157, .imul, 0, 1), (158, .iload 4, 0, 2), (160, .iload 7, 0, 2), (162, .ior, 0, 1), (163, .iadd, 0, 1), (164, .baload, 0, 1), (165, .ifCond .eq 181, 0, 3), (168, .aload_n 0, 0, 1), (169, .iload 5, 0, 2), (171, .iload 7, 0, 2), (173, .iload 4, 0, 2), (175, .invokevirtual 1130, 199, 3), (178, .ifCond .ne 193, 0, 3), (181, .iload 7, 0, 2), (183, .iconst 1, 0, 1), (184, .isub, 0, 1), (185, .iload 6, 0, 2), (187, .iand, 0, 1), (188, .istore 7, 0, 2), (190, .goto 146, 0, 3), (193, .iconst 0, 0, 1), (194, .istore 8, 0, 2), (196, .iload 8, 0, 2), (198, .aload_n 0, 0, 1), (199, .getfield 1121, 191, 3), (202, .if_icmp .ge 261, 0, 3), (205, .bipush 6, 0, 2), (207, .iload 5, 0, 2), (209, .imul, 0, 1), (210, .aload_n 0, 0, 1), (211, .getfield 1119, 56, 3), (214, .iload 8, 0, 2), (216, .iaload, 0, 1), (217, .iadd, 0, 1), (218, .istore 9, 0, 2), (220, .iload 7, 0, 2), (222, .iload 8, 0, 2), (224, .ishr, 0, 1), (225, .iconst 1, 0, 1), (226, .iand, 0, 1), (227, .iconst 1, 0, 1), (228, .if_icmp .ne 255, 0, 3), (231, .aload_n 0, 0, 1), (232, .getfield 1104, 19, 3), (235, .iload 9, 0, 2), (237, .iaload, 0, 1), (238, .ifCond .ge 255, 0, 3), (241, .aload_n 0, 0, 1), (242, .getfield 1103, 16, 3), (245, .iload 9, 0, 2), (247, .aload_n 0, 0, 1), (248, .getfield 1120, 59, 3), (251, .iload 8, 0, 2), (253, .iaload, 0, 1), (254, .iastore, 0, 1), (255, .iinc 8 1, 0, 3), (258, .goto 196, 0, 3), (261, .iload 4, 0, 2), (263, .iload 7, 0, 2), (265, .ior, 0, 1), (266, .istore 4, 0, 2), (268, .iinc 5 1, 0, 3), (271, .goto 121, 0, 3), (274, .iload_n 2, 0, 1), (275, .ireturn, 0, 1)]
def kr1127 : MR := ((⟨"LightPlateModel", "lay", "()I"⟩, prog_13_method_32_code, 10, (some .int)), 1, (1176, 1174, 1175), kc1127)
def kc1128 : List (Nat × Instr × Nat × Nat) := [(0, .iconst 1, 0, 1), (1, .istore_n 2, 0, 1), (2, .iconst 0, 0, 1), (3, .istore_n 3, 0, 1), (4, .iload_n 3, 0, 1), (5, .aload_n 0, 0, 1), (6, .getfield 1100, 117, 3), (9, .iconst 1, 0, 1), (10, .isub, 0, 1), (11, .if_icmp .ge 53, 0, 3), (14, .iload_n 2, 0, 1), (15, .ifCond .eq 45, 0, 3), (18, .aload_n 0, 0, 1), (19, .iload_n 1, 0, 1), (20, .iload_n 3, 0, 1), (21, .invokevirtual 1105, 133, 3), (24, .ifCond .eq 41, 0, 3), (27, .aload_n 0, 0, 1), (28, .getfield 1104, 19, 3), (31, .bipush 6, 0, 2), (33, .iload_n 1, 0, 1), (34, .imul, 0, 1), (35, .iload_n 3, 0, 1), (36, .iadd, 0, 1), (37, .iaload, 0, 1), (38, .ifCond .gt 45, 0, 3), (41, .iconst 1, 0, 1), (42, .goto 46, 0, 3), (45, .iconst 0, 0, 1), (46, .istore_n 2, 0, 1), (47, .iinc 3 1, 0, 3), (50, .goto 4, 0, 3), (53, .iload_n 2, 0, 1), (54, .freturn, 0, 1)]
def kr1128 : MR := ((⟨"LightPlateModel", "isBare", "(I)Z"⟩, prog_13_method_30_code, 4, (some .boolean)), 2, (1180, 1179, 37), kc1128)
def kc1129 : List (Nat × Instr × Nat × Nat) := [(0, .iconst 1, 0, 1), (1, .aload_n 0, 0, 1), (2, .getfield 1121, 191, 3), (5, .ishl, 0, 1), (6, .iconst 1, 0, 1), (7, .isub, 0, 1), (8, .istore_n 2, 0, 1), (9, .iconst 0, 0, 1), (10, .istore_n 3, 0, 1), (11, .iload_n 3, 0, 1), (12, .iload_n 2, 0, 1), (13, .if_icmp .gt 44, 0, 3), (16, .aload_n 0, 0, 1), (17, .getfield 1122, 62, 3), (20, .sipush 1024, 0, 3), (23, .iload_n 1, 0, 1), (24, .imul, 0, 1), (25, .iload_n 3, 0, 1), (26, .iadd, 0, 1), (27, .iload_n 3, 0, 1), (28, .iload_n 2, 0, 1), (29, .if_icmp .ne 36, 0, 3), (32, .iconst 1, 0, 1), (33, .goto 37, 0, 3), (36, .iconst 0, 0, 1), (37, .bastore, 0, 1), (38, .iinc 3 1, 0, 3), (41, .goto 11, 0, 3), (44, .iload_n 1, 0, 1), (45, .iconst 1, 0, 1), (46, .isub, 0, 1), (47, .istore_n 3, 0, 1), (48, .iload_n 3, 0, 1), (49, .ifCond .lt 180, 0, 3), (52, .iconst 0, 0, 1), (53, .istore 4, 0, 2), (55, .iload 4, 0, 2), (57, .iload_n 2, 0, 1), (58, .if_icmp .gt 174, 0, 3), (61, .iload_n 2, 0, 1), (62, .iload 4, 0, 2), (64, .iconst (-1), 0, 1), (65, .ixor, 0, 1), (66, .iand, 0, 1), (67, .istore 5, 0, 2), (69, .iconst 0, 0, 1), (70, .istore 6, 0, 2), (72, .iload 5, 0, 2), (74, .istore 7, 0, 2), (76, .iconst 1, 0, 1), (77, .istore 8, 0, 2), (79, .iload 8, 0, 2), (81, .ifCond .eq 153, 0, 3), (84, .iload 6, 0, 2), (86, .ifCond .ne 153, 0, 3), (89, .aload_n 0, 0, 1), (90, .getfield 1122, 62, 3), (93, .sipush 1024, 0, 3), (96, .iload_n 3, 0, 1), (97, .iconst 1, 0, 1), (98, .iadd, 0, 1), (99, .imul, 0, 1), (100, .iload 4, 0, 2), (102, .iload 7, 0, 2), (104, .ior, 0, 1), (105, .iadd, 0, 1), (106, .baload, 0, 1), (107, .ifCond .eq 126, 0, 3), (110, .aload_n 0, 0, 1), (111, .iload_n 3, 0, 1), (112, .iload 7, 0, 2), (114, .iload 4, 0, 2), (116, .invokevirtual 1130, 199, 3), (119, .ifCond .eq 126, 0, 3), (122, .iconst 1, 0, 1), (123, .goto 127, 0, 3), (126, .iconst 0, 0, 1), (127, .istore 6, 0, 2), (129, .iload 7, 0, 2), (131, .ifCond .le 138, 0, 3), (134, .iconst 1, 0, 1), (135, .goto 139, 0, 3), (138, .iconst 0, 0, 1), (139, .istore 8, 0, 2), (141, .iload 7, 0, 2), (143, .iconst 1, 0, 1), (144, .isub, 0, 1), (145, .iload 5, 0, 2), (147, .iand, 0, 1), (148, .istore 7, 0, 2), (150, .goto 79, 0, 3), (153, .aload_n 0, 0, 1), (154, .getfield 1122, 62, 3), (157, .sipush 1024, 0, 3), (160, .iload_n 3, 0, 1), (161, .imul, 0, 1), (162, .iload 4, 0, 2), (164, .iadd, 0, 1), (165, .iload 6, 0, 2), (167, .bastore, 0, 1), (168, .iinc 4 1, 0, 3), (171, .goto 55, 0, 3), (174, .iinc 3 (-1), 0, 3), (177, .goto 48, 0, 3), (180, .return_, 0, 1)]
def kr1129 : MR := ((⟨"LightPlateModel", "fillCan", "(I)V"⟩, prog_13_method_31_code, 9, none), 2, (1184, 1183, 38), kc1129)
def kc1130 : List (Nat × Instr × Nat × Nat) := [(0, .iload_n 2, 0, 1), (1, .iload_n 3, 0, 1), (2, .iand, 0, 1), (3, .ifCond .eq 8, 0, 3), (6, .iconst 0, 0, 1), (7, .freturn, 0, 1), (8, .iconst 0, 0, 1), (9, .istore 4, 0, 2), (11, .iload 4, 0, 2), (13, .aload_n 0, 0, 1), (14, .getfield 1121, 191, 3), (17, .if_icmp .ge 136, 0, 3), (20, .iload_n 2, 0, 1), (21, .iload 4, 0, 2), (23, .ishr, 0, 1), (24, .iconst 1, 0, 1), (25, .iand, 0, 1), (26, .ifCond .ne 32, 0, 3), (29, .goto 130, 0, 3), (32, .aload_n 0, 0, 1), (33, .iload_n 1, 0, 1), (34, .aload_n 0, 0, 1), (35, .getfield 1119, 56, 3), (38, .iload 4, 0, 2), (40, .iaload, 0, 1), (41, .invokevirtual 1105, 133, 3), (44, .ifCond .ne 49, 0, 3), (47, .iconst 0, 0, 1), (48, .freturn, 0, 1), (49, .bipush 6, 0, 2), (51, .iload_n 1, 0, 1), (52, .imul, 0, 1), (53, .aload_n 0, 0, 1), (54, .getfield 1119, 56, 3), (57, .iload 4, 0, 2), (59, .iaload, 0, 1), (60, .iadd, 0, 1), (61, .istore 5, 0, 2), (63, .aload_n 0, 0, 1), (64, .getfield 1104, 19, 3), (67, .iload 5, 0, 2), (69, .iaload, 0, 1), (70, .ifCond .lt 92, 0, 3), (73, .aload_n 0, 0, 1), (74, .getfield 1104, 19, 3), (77, .iload 5, 0, 2), (79, .iaload, 0, 1), (80, .aload_n 0, 0, 1), (81, .getfield 1120, 59, 3), (84, .iload 4, 0, 2), (86, .iaload, 0, 1), (87, .if_icmp .eq 92, 0, 3), (90, .iconst 0, 0, 1), (91, .freturn, 0, 1), (92, .iconst 0, 0, 1), (93, .istore 6, 0, 2), (95, .iload 6, 0, 2), (97, .iload 4, 0, 2), (99, .if_icmp .ge 130, 0, 3), (102, .aload_n 0, 0, 1), (103, .iload 6, 0, 2), (105, .iload 4, 0, 2), (107, .invokevirtual 1131, 196, 3), (110, .ifCond .eq 124, 0, 3), (113, .iload_n 3, 0, 1), (114, .iload 6, 0, 2), (116, .ishr, 0, 1), (117, .iconst 1, 0, 1), (118, .iand, 0, 1), (119, .ifCond .ne 124, 0, 3), (122, .iconst 0, 0, 1), (123, .freturn, 0, 1), (124, .iinc 6 1, 0, 3), (127, .goto 95, 0, 3), (130, .iinc 4 1, 0, 3), (133, .goto 11, 0, 3), (136, .iconst 0, 0, 1), (137, .istore 4, 0, 2), (139, .iload 4, 0, 2), (141, .aload_n 0, 0, 1), (142, .getfield 1100, 117, 3), (145, .iconst 1, 0, 1), (146, .isub, 0, 1), (147, .if_icmp .ge 246, 0, 3), (150, .aload_n 0, 0, 1), (151, .iload_n 1, 0, 1), (152, .iload 4, 0, 2), (154, .invokevirtual 1105, 133, 3), (157, .ifCond .eq 240, 0, 3), (160, .aload_n 0, 0, 1), (161, .getfield 1104, 19, 3), (164, .bipush 6, 0, 2), (166, .iload_n 1, 0, 1), (167, .imul, 0, 1), (168, .iload 4, 0, 2), (170, .iadd, 0, 1), (171, .iaload, 0, 1), (172, .ifCond .gt 178, 0, 3), (175, .goto 240, 0, 3), (178, .iconst 0, 0, 1), (179, .istore 5, 0, 2), (181, .iconst 0, 0, 1), (182, .istore 6, 0, 2), (184, .iload 6, 0, 2), (186, .aload_n 0, 0, 1), (187, .getfield 1121, 191, 3), (190, .if_icmp .ge 233, 0, 3), (193, .iload 5, 0, 2), (195, .ifCond .ne 220, 0, 3), (198, .iload_n 2, 0, 1), (199, .iload 6, 0, 2), (201, .ishr, 0, 1), (202, .iconst 1, 0, 1), (203, .iand, 0, 1), (204, .iconst 1, 0, 1), (205, .if_icmp .ne 224, 0, 3), (208, .aload_n 0, 0, 1), (209, .getfield 1119, 56, 3), (212, .iload 6, 0, 2), (214, .iaload, 0, 1), (215, .iload 4, 0, 2), (217, .if_icmp .ne 224, 0, 3), (220, .iconst 1, 0, 1), (221, .goto 225, 0, 3), (224, .iconst 0, 0, 1), (225, .istore 5, 0, 2), (227, .iinc 6 1, 0, 3), (230, .goto 184, 0, 3), (233, .iload 5, 0, 2), (235, .ifCond .ne 240, 0, 3), (238, .iconst 0, 0, 1), (239, .freturn, 0, 1), (240, .iinc 4 1, 0, 3), (243, .goto 139, 0, 3), (246, .iconst 1, 0, 1), (247, .freturn, 0, 1)]
def kr1130 : MR := ((⟨"LightPlateModel", "mayDo", "(III)Z"⟩, prog_13_method_29_code, 7, (some .boolean)), 4, (1188, 1187, 39), kc1130)
def kc1131 : List (Nat × Instr × Nat × Nat) := [(0, .aload_n 0, 0, 1), (1, .getfield 1119, 56, 3), (4, .iload_n 1, 0, 1), (5, .iaload, 0, 1), (6, .aload_n 0, 0, 1), (7, .getfield 1119, 56, 3), (10, .iload_n 2, 0, 1), (11, .iaload, 0, 1), (12, .isub, 0, 1), (13, .i2l, 0, 1), (14, .jsr_w (-1), 194, 3), (17, .lconst 1, 0, 1), (18, .invokestatic 1106, 126, 3), (21, .freturn, 0, 1)]
def kr1131 : MR := ((⟨"LightPlateModel", "haveLane", "(II)Z"⟩, prog_13_method_28_code, 3, (some .boolean)), 3, (1192, 1191, 40), kc1131)
def kc1132 : List (Nat × Instr × Nat × Nat) := [(0, .iload_n 3, 0, 1), (1, .i2l, 0, 1), (2, .lconst 1, 0, 1), (3, .jsr_w 8, 209, 3), (6, .invokestatic 1106, 126, 3), (9, .ifCond .ne 15, 0, 3), (12, .bipush (-2), 0, 2), (14, .ireturn, 0, 1), (15, .aload_n 0, 0, 1), (16, .getfield 1130, 211, 3), (19, .iload_n 3, 0, 1), (20, .iadd, 0, 1), (21, .bipush 100, 0, 2), (23, .if_icmp .le 29, 0, 3), (26, .bipush (-4), 0, 2), (28, .ireturn, 0, 1), (29, .iload_n 3, 0, 1), (30, .iconst 1, 0, 1), (31, .isub, 0, 1), (32, .istore 4, 0, 2), (34, .iload 4, 0, 2), (36, .ifCond .lt 76, 0, 3), (39, .aload_n 0, 0, 1), (40, .getfield 1123, 66, 3), (43, .aload_n 0, 0, 1), (44, .getfield 1130, 211, 3), (47, .lload_n 1, 0, 1), (48, .bipush 8, 0, 2), (50, .iload 4, 0, 2), (52, .imul, 0, 1), (53, .lshr, 0, 1), (54, .jsr_w 255, 214, 3), (57, .land, 0, 1), (58, .l2i, 0, 1), (59, .iastore, 0, 1), (60, .aload_n 0, 0, 1), (61, .dup, 0, 1), (62, .getfield 1130, 211, 3), (65, .iconst 1, 0, 1), (66, .iadd, 0, 1), (67, .putfield 1130, 211, 3), (70, .iinc 4 (-1), 0, 3), (73, .goto 34, 0, 3), (76, .aload_n 0, 0, 1), (77, .getfield 1130, 211, 3), (80, .ireturn, 0, 1)]
def kr1132 : MR := ((⟨"LightPlateModel", "feed", "(JI)I"⟩, prog_13_method_33_code, 5, (some .int)), 3, (1197, 1195, 1196), kc1132)
def kc1133 : List (Nat × Instr × Nat × Nat) := [(0, .aload_n 0, 0, 1), (1, .invokevirtual 1134, 256, 3), (4, .istore_n 1, 0, 1), (5, .aload_n 0, 0, 1), (6, .iconst 0, 0, 1), (7, .putfield 1130, 211, 3), (10, .iload_n 1, 0, 1), (11, .ifCond .ne 23, 0, 3), (14, .sipush (-1000), 0, 3), (17, .aload_n 0, 0, 1), (18, .getfield 1131, 216, 3), (21, .isub, 0, 1), (22, .ireturn, 0, 1), (23, .aload_n 0, 0, 1), (24, .getfield 1133, 246, 3), (27, .ifCond .lt 39, 0, 3), (30, .sipush (-2000), 0, 3), (33, .aload_n 0, 0, 1), (34, .getfield 1133, 246, 3), (37, .isub, 0, 1), (38, .ireturn, 0, 1), (39, .aload_n 0, 0, 1), (40, .getfield 1125, 72, 3), (43, .iconst 0, 0, 1), (44, .iaload, 0, 1), (45, .bipush 10, 0, 2), (47, .if_icmp .le 54, 0, 3), (50, .sipush (-3000), 0, 3), (53, .ireturn, 0, 1), (54, .aload_n 0, 0, 1), (55, .aload_n 0, 0, 1), (56, .getfield 1125, 72, 3), (59, .iconst 0, 0, 1), (60, .iaload, 0, 1), (61, .putfield 1121, 191, 3), (64, .iconst 0, 0, 1), (65, .istore_n 2, 0, 1), (66, .iload_n 2, 0, 1), (67, .aload_n 0, 0, 1), (68, .getfield 1121, 191, 3), (71, .if_icmp .ge 110, 0, 3), (74, .aload_n 0, 0, 1), (75, .getfield 1119, 56, 3), (78, .iload_n 2, 0, 1), (79, .aload_n 0, 0, 1), (80, .getfield 1124, 69, 3), (83, .iload_n 2, 0, 1), (84, .iaload, 0, 1), (85, .bipush 100, 0, 2), (87, .idiv, 0, 1), (88, .iastore, 0, 1), (89, .aload_n 0, 0, 1), (90, .getfield 1120, 59, 3), (93, .iload_n 2, 0, 1), (94, .aload_n 0, 0, 1), (95, .getfield 1124, 69, 3), (98, .iload_n 2, 0, 1), (99, .iaload, 0, 1), (100, .bipush 100, 0, 2), (102, .irem, 0, 1), (103, .iastore, 0, 1), (104, .iinc 2 1, 0, 3), (107, .goto 66, 0, 3), (110, .aload_n 0, 0, 1), (111, .getfield 1121, 191, 3), (114, .ireturn, 0, 1)]
def kr1133 : MR := ((⟨"LightPlateModel", "program", "()I"⟩, prog_13_method_44_code, 3, (some .int)), 1, (1203, 1201, 1202), kc1133)
def kc1134 : List (Nat × Instr × Nat × Nat) := [(0, .aload_n 0, 0, 1), (1, .iconst 0, 0, 1), (2, .putfield 1131, 216, 3), (5, .aload_n 0, 0, 1), (6, .iconst 0, 0, 1), (7, .putfield 1132, 229, 3), (10, .aload_n 0, 0, 1), (11, .getfield 1125, 72, 3), (14, .iconst 0, 0, 1), (15, .iconst 0, 0, 1), (16, .iastore, 0, 1), (17, .aload_n 0, 0, 1), (18, .iconst (-1), 0, 1), (19, .putfield 1133, 246, 3), (22, .iconst 0, 0, 1), (23, .istore_n 1, 0, 1), (24, .iload_n 1, 0, 1), (25, .bipush 6, 0, 2), (27, .if_icmp .ge 43, 0, 3), (30, .aload_n 0, 0, 1), (31, .getfield 1129, 84, 3), (34, .iload_n 1, 0, 1), (35, .iconst 0, 0, 1), (36, .bastore, 0, 1), (37, .iinc 1 1, 0, 3), (40, .goto 24, 0, 3), (43, .aload_n 0, 0, 1), (44, .invokevirtual 1135, 249, 3), (47, .ifCond .ne 52, 0, 3), (50, .iconst 0, 0, 1), (51, .freturn, 0, 1), (52, .aload_n 0, 0, 1), (53, .invokevirtual 1136, 219, 3), (56, .bipush 41, 0, 2), (58, .if_icmp .ne 85, 0, 3), (61, .aload_n 0, 0, 1), (62, .getfield 1132, 229, 3), (65, .ifCond .le 85, 0, 3), (68, .aload_n 0, 0, 1), (69, .dup, 0, 1), (70, .getfield 1131, 216, 3), (73, .iconst 1, 0, 1), (74, .iadd, 0, 1), (75, .putfield 1131, 216, 3), (78, .aload_n 0, 0, 1), (79, .invokevirtual 1143, 253, 3), (82, .goto 52, 0, 3), (85, .aload_n 0, 0, 1), (86, .invokevirtual 1136, 219, 3), (89, .iconst (-1), 0, 1), (90, .if_icmp .ne 102, 0, 3), (93, .aload_n 0, 0, 1), (94, .getfield 1132, 229, 3), (97, .ifCond .ne 102, 0, 3), (100, .iconst 1, 0, 1), (101, .freturn, 0, 1), (102, .aload_n 0, 0, 1), (103, .invokevirtual 1136, 219, 3), (106, .bipush 59, 0, 2), (108, .if_icmp .eq 113, 0, 3), (111, .iconst 0, 0, 1), (112, .freturn, 0, 1), (113, .aload_n 0, 0, 1), (114, .dup, 0, 1), (115, .getfield 1131, 216, 3), (118, .iconst 1, 0, 1), (119, .iadd, 0, 1), (120, .putfield 1131, 216, 3), (123, .goto 43, 0, 3)]
def kr1134 : MR := ((⟨"LightPlateModel", "parses", "()Z"⟩, prog_13_method_43_code, 2, (some .boolean)), 1, (1207, 1206, 41), kc1134)
def kc1135 : List (Nat × Instr × Nat × Nat) := [(0, .aload_n 0, 0, 1), (1, .invokevirtual 1136, 219, 3), (4, .istore_n 1, 0, 1), (5, .iload_n 1, 0, 1), (6, .bipush 116, 0, 2), (8, .if_icmp .eq 23, 0, 3), (11, .iload_n 1, 0, 1), (12, .bipush 117, 0, 2), (14, .if_icmp .eq 23, 0, 3), (17, .iload_n 1, 0, 1), (18, .bipush 115, 0, 2), (20, .if_icmp .ne 115, 0, 3), (23, .aload_n 0, 0, 1), (24, .dup, 0, 1), (25, .getfield 1131, 216, 3), (28, .iconst 1, 0, 1), (29, .iadd, 0, 1), (30, .putfield 1131, 216, 3), (33, .aload_n 0, 0, 1), (34, .aload_n 0, 0, 1), (35, .getfield 1100, 117, 3), (38, .iconst 2, 0, 1), (39, .isub, 0, 1), (40, .invokevirtual 1137, 235, 3), (43, .ifCond .ne 48, 0, 3), (46, .iconst 0, 0, 1), (47, .freturn, 0, 1), (48, .aload_n 0, 0, 1), (49, .getfield 1134, 226, 3), (52, .istore_n 2, 0, 1), (53, .iload_n 1, 0, 1), (54, .bipush 115, 0, 2), (56, .if_icmp .eq 70, 0, 3), (59, .aload_n 0, 0, 1), (60, .bipush 95, 0, 2), (62, .invokevirtual 1137, 235, 3), (65, .ifCond .ne 70, 0, 3), (68, .iconst 0, 0, 1), (69, .freturn, 0, 1), (70, .aload_n 0, 0, 1), (71, .bipush 100, 0, 2), (73, .iload_n 2, 0, 1), (74, .imul, 0, 1), (75, .iload_n 1, 0, 1), (76, .bipush 115, 0, 2), (78, .if_icmp .ne 86, 0, 3), (81, .bipush 24, 0, 2), (83, .goto 109, 0, 3), (86, .iload_n 1, 0, 1), (87, .bipush 116, 0, 2), (89, .if_icmp .ne 99, 0, 3), (92, .aload_n 0, 0, 1), (93, .getfield 1134, 226, 3), (96, .goto 109, 0, 3), (99, .bipush 96, 0, 2), (101, .aload_n 0, 0, 1), (102, .getfield 1134, 226, 3), (105, .isub, 0, 1), (106, .bipush 96, 0, 2), (108, .irem, 0, 1), (109, .iadd, 0, 1), (110, .invokevirtual 1139, 232, 3), (113, .iconst 1, 0, 1), (114, .freturn, 0, 1), (115, .iload_n 1, 0, 1), (116, .invokestatic 1138, 223, 3), (119, .ifCond .ne 132, 0, 3), (122, .aload_n 0, 0, 1), (123, .iload_n 1, 0, 1), (124, .invokevirtual 1140, 237, 3), (127, .ifCond .ne 132, 0, 3), (130, .iconst 0, 0, 1), (131, .freturn, 0, 1), (132, .aload_n 0, 0, 1), (133, .dup, 0, 1), (134, .getfield 1131, 216, 3), (137, .iconst 1, 0, 1), (138, .iadd, 0, 1), (139, .putfield 1131, 216, 3), (142, .aload_n 0, 0, 1), (143, .iload_n 1, 0, 1), (144, .invokevirtual 1140, 237, 3), (147, .ifCond .eq 169, 0, 3), (150, .aload_n 0, 0, 1), (151, .invokevirtual 1136, 219, 3), (154, .bipush 61, 0, 2), (156, .if_icmp .eq 169, 0, 3), (159, .aload_n 0, 0, 1), (160, .iload_n 1, 0, 1), (161, .bipush 97, 0, 2), (163, .isub, 0, 1), (164, .invokevirtual 1141, 240, 3), (167, .iconst 1, 0, 1), (168, .freturn, 0, 1), (169, .aload_n 0, 0, 1), (170, .iload_n 1, 0, 1), (171, .invokevirtual 1140, 237, 3), (174, .ifCond .eq 187, 0, 3), (177, .aload_n 0, 0, 1), (178, .dup, 0, 1), (179, .getfield 1131, 216, 3), (182, .iconst 1, 0, 1), (183, .iadd, 0, 1), (184, .putfield 1131, 216, 3), (187, .aload_n 0, 0, 1), (188, .invokevirtual 1136, 219, 3), (191, .bipush 40, 0, 2), (193, .if_icmp .eq 198, 0, 3), (196, .iconst 0, 0, 1), (197, .freturn, 0, 1), (198, .aload_n 0, 0, 1), (199, .dup, 0, 1), (200, .getfield 1131, 216, 3), (203, .iconst 1, 0, 1), (204, .iadd, 0, 1), (205, .putfield 1131, 216, 3), (208, .aload_n 0, 0, 1), (209, .aload_n 0, 0, 1), (210, .iload_n 1, 0, 1), (211, .invokevirtual 1140, 237, 3), (214, .ifCond .eq 227, 0, 3), (217, .bipush 10, 0, 2), (219, .iload_n 1, 0, 1), (220, .iadd, 0, 1), (221, .bipush 97, 0, 2), (223, .isub, 0, 1), (224, .goto 231, 0, 3), (227, .iload_n 1, 0, 1), (228, .bipush 48, 0, 2), (230, .isub, 0, 1), (231, .invokevirtual 1142, 243, 3), (234, .goto 0, 0, 3)]
def kr1135 : MR := ((⟨"LightPlateModel", "statement", "()Z"⟩, prog_13_method_41_code, 3, (some .boolean)), 1, (1211, 1210, 42), kc1135)
def kc1136 : List (Nat × Instr × Nat × Nat) := [(0, .aload_n 0, 0, 1), (1, .getfield 1131, 216, 3), (4, .aload_n 0, 0, 1), (5, .getfield 1130, 211, 3), (8, .if_icmp .ge 23, 0, 3), (11, .aload_n 0, 0, 1), (12, .getfield 1123, 66, 3), (15, .aload_n 0, 0, 1), (16, .getfield 1131, 216, 3), (19, .iaload, 0, 1), (20, .goto 24, 0, 3), (23, .iconst (-1), 0, 1), (24, .ireturn, 0, 1)]
def kr1136 : MR := ((⟨"LightPlateModel", "signAt", "()I"⟩, prog_13_method_34_code, 1, (some .int)), 1, (1215, 1214, 43), kc1136)
def kc1137 : List (Nat × Instr × Nat × Nat) := [(0, .aload_n 0, 0, 1), (1, .invokevirtual 1136, 219, 3), (4, .bipush 32, 0, 2), (6, .if_icmp .eq 11, 0, 3), (9, .iconst 0, 0, 1), (10, .freturn, 0, 1), (11, .aload_n 0, 0, 1), (12, .dup, 0, 1), (13, .getfield 1131, 216, 3), (16, .iconst 1, 0, 1), (17, .iadd, 0, 1), (18, .putfield 1131, 216, 3), (21, .aload_n 0, 0, 1), (22, .invokevirtual 1136, 219, 3), (25, .invokestatic 1138, 223, 3), (28, .ifCond .eq 42, 0, 3), (31, .aload_n 0, 0, 1), (32, .invokevirtual 1136, 219, 3), (35, .bipush 48, 0, 2), (37, .isub, 0, 1), (38, .iload_n 1, 0, 1), (39, .if_icmp .le 44, 0, 3), (42, .iconst 0, 0, 1), (43, .freturn, 0, 1), (44, .aload_n 0, 0, 1), (45, .aload_n 0, 0, 1), (46, .invokevirtual 1136, 219, 3), (49, .bipush 48, 0, 2), (51, .isub, 0, 1), (52, .putfield 1134, 226, 3), (55, .aload_n 0, 0, 1), (56, .dup, 0, 1), (57, .getfield 1131, 216, 3), (60, .iconst 1, 0, 1), (61, .iadd, 0, 1), (62, .putfield 1131, 216, 3), (65, .aload_n 0, 0, 1), (66, .invokevirtual 1136, 219, 3), (69, .invokestatic 1138, 223, 3), (72, .ifCond .eq 82, 0, 3), (75, .aload_n 0, 0, 1), (76, .getfield 1134, 226, 3), (79, .ifCond .ne 84, 0, 3), (82, .iconst 1, 0, 1), (83, .freturn, 0, 1), (84, .bipush 10, 0, 2), (86, .aload_n 0, 0, 1), (87, .getfield 1134, 226, 3), (90, .imul, 0, 1), (91, .aload_n 0, 0, 1), (92, .invokevirtual 1136, 219, 3), (95, .iadd, 0, 1), (96, .bipush 48, 0, 2), (98, .isub, 0, 1), (99, .iload_n 1, 0, 1), (100, .if_icmp .le 105, 0, 3), (103, .iconst 0, 0, 1), (104, .freturn, 0, 1), (105, .aload_n 0, 0, 1), (106, .bipush 10, 0, 2), (108, .aload_n 0, 0, 1), (109, .getfield 1134, 226, 3), (112, .imul, 0, 1), (113, .aload_n 0, 0, 1), (114, .invokevirtual 1136, 219, 3), (117, .iadd, 0, 1), (118, .bipush 48, 0, 2), (120, .isub, 0, 1), (121, .putfield 1134, 226, 3), (124, .aload_n 0, 0, 1), (125, .dup, 0, 1), (126, .getfield 1131, 216, 3), (129, .iconst 1, 0, 1), (130, .iadd, 0, 1), (131, .putfield 1131, 216, 3), (134, .iconst 1, 0, 1), (135, .freturn, 0, 1)]
def kr1137 : MR := ((⟨"LightPlateModel", "number", "(I)Z"⟩, prog_13_method_36_code, 2, (some .boolean)), 2, (1219, 1218, 44), kc1137)
def kc1138 : List (Nat × Instr × Nat × Nat) := [(0, .iload_n 0, 0, 1), (1, .bipush 48, 0, 2), (3, .if_icmp .lt 16, 0, 3), (6, .iload_n 0, 0, 1), (7, .bipush 57, 0, 2), (9, .if_icmp .gt 16, 0, 3), (12, .iconst 1, 0, 1), (13, .goto 17, 0, 3), (16, .iconst 0, 0, 1), (17, .freturn, 0, 1)]
def kr1138 : MR := ((⟨"LightPlateModel", "isDigit", "(I)Z"⟩, prog_13_method_35_code, 1, (some .boolean)), 1, (1222, 1221, 9999), kc1138)
def kc1139 : List (Nat × Instr × Nat × Nat) := [(0, .aload_n 0, 0, 1), (1, .getfield 1125, 72, 3), (4, .aload_n 0, 0, 1), (5, .getfield 1132, 229, 3), (8, .iaload, 0, 1), (9, .bipush 11, 0, 2), (11, .if_icmp .ne 15, 0, 3), (14, .return_, 0, 1), (15, .aload_n 0, 0, 1), (16, .getfield 1124, 69, 3), (19, .bipush 13, 0, 2), (21, .aload_n 0, 0, 1), (22, .getfield 1132, 229, 3), (25, .imul, 0, 1), (26, .aload_n 0, 0, 1), (27, .getfield 1125, 72, 3), (30, .aload_n 0, 0, 1), (31, .getfield 1132, 229, 3), (34, .iaload, 0, 1), (35, .iadd, 0, 1), (36, .iload_n 1, 0, 1), (37, .iastore, 0, 1), (38, .aload_n 0, 0, 1), (39, .getfield 1125, 72, 3), (42, .aload_n 0, 0, 1), (43, .getfield 1132, 229, 3), (46, .dup2, 0, 1), (47, .iaload, 0, 1), (48, .iconst 1, 0, 1), (49, .iadd, 0, 1), (50, .iastore, 0, 1), (51, .return_, 0, 1)]
def kr1139 : MR := ((⟨"LightPlateModel", "adds", "(I)V"⟩, prog_13_method_37_code, 2, none), 2, (1226, 1225, 45), kc1139)
def kc1140 : List (Nat × Instr × Nat × Nat) := [(0, .iload_n 1, 0, 1), (1, .bipush 97, 0, 2), (3, .if_icmp .lt 16, 0, 3), (6, .iload_n 1, 0, 1), (7, .bipush 102, 0, 2), (9, .if_icmp .gt 16, 0, 3), (12, .iconst 1, 0, 1), (13, .goto 17, 0, 3), (16, .iconst 0, 0, 1), (17, .freturn, 0, 1)]
def kr1140 : MR := ((⟨"LightPlateModel", "isName", "(I)Z"⟩, prog_13_method_40_code, 2, (some .boolean)), 2, (1230, 1229, 46), kc1140)
def kc1141 : List (Nat × Instr × Nat × Nat) := [(0, .aload_n 0, 0, 1), (1, .getfield 1129, 84, 3), (4, .iload_n 1, 0, 1), (5, .baload, 0, 1), (6, .ifCond .ne 27, 0, 3), (9, .aload_n 0, 0, 1), (10, .getfield 1133, 246, 3), (13, .ifCond .ge 26, 0, 3), (16, .aload_n 0, 0, 1), (17, .aload_n 0, 0, 1), (18, .getfield 1131, 216, 3), (21, .iconst 1, 0, 1), (22, .isub, 0, 1), (23, .putfield 1133, 246, 3), (26, .return_, 0, 1), (27, .iconst 0, 0, 1), (28, .istore_n 2, 0, 1), (29, .iload_n 2, 0, 1), (30, .aload_n 0, 0, 1), (31, .getfield 1128, 81, 3), (34, .iload_n 1, 0, 1), (35, .iaload, 0, 1), (36, .if_icmp .ge 60, 0, 3), (39, .aload_n 0, 0, 1), (40, .aload_n 0, 0, 1), (41, .getfield 1127, 78, 3), (44, .bipush 11, 0, 2), (46, .iload_n 1, 0, 1), (47, .imul, 0, 1), (48, .iload_n 2, 0, 1), (49, .iadd, 0, 1), (50, .iaload, 0, 1), (51, .invokevirtual 1139, 232, 3), (54, .iinc 2 1, 0, 3), (57, .goto 29, 0, 3), (60, .return_, 0, 1)]
def kr1141 : MR := ((⟨"LightPlateModel", "uses", "(I)V"⟩, prog_13_method_42_code, 3, none), 2, (1234, 1233, 47), kc1141)
def kc1142 : List (Nat × Instr × Nat × Nat) := [(0, .aload_n 0, 0, 1), (1, .dup, 0, 1), (2, .getfield 1132, 229, 3), (5, .iconst 1, 0, 1), (6, .iadd, 0, 1), (7, .putfield 1132, 229, 3), (10, .aload_n 0, 0, 1), (11, .getfield 1125, 72, 3), (14, .aload_n 0, 0, 1), (15, .getfield 1132, 229, 3), (18, .iconst 0, 0, 1), (19, .iastore, 0, 1), (20, .aload_n 0, 0, 1), (21, .getfield 1126, 75, 3), (24, .aload_n 0, 0, 1), (25, .getfield 1132, 229, 3), (28, .iload_n 1, 0, 1), (29, .iastore, 0, 1), (30, .return_, 0, 1)]
def kr1142 : MR := ((⟨"LightPlateModel", "opens", "(I)V"⟩, prog_13_method_38_code, 2, none), 2, (1238, 1237, 48), kc1142)
def kc1143 : List (Nat × Instr × Nat × Nat) := [(0, .aload_n 0, 0, 1), (1, .getfield 1126, 75, 3), (4, .aload_n 0, 0, 1), (5, .getfield 1132, 229, 3), (8, .iaload, 0, 1), (9, .istore_n 1, 0, 1), (10, .aload_n 0, 0, 1), (11, .getfield 1132, 229, 3), (14, .istore_n 2, 0, 1), (15, .aload_n 0, 0, 1), (16, .dup, 0, 1), (17, .getfield 1132, 229, 3), (20, .iconst 1, 0, 1), (21, .isub, 0, 1), (22, .putfield 1132, 229, 3), (25, .iload_n 1, 0, 1), (26, .bipush 10, 0, 2), (28, .if_icmp .lt 100, 0, 3), (31, .iload_n 1, 0, 1), (32, .bipush 10, 0, 2), (34, .isub, 0, 1), (35, .istore_n 3, 0, 1), (36, .aload_n 0, 0, 1), (37, .getfield 1129, 84, 3), (40, .iload_n 3, 0, 1), (41, .iconst 1, 0, 1), (42, .bastore, 0, 1), (43, .aload_n 0, 0, 1), (44, .getfield 1128, 81, 3), (47, .iload_n 3, 0, 1), (48, .aload_n 0, 0, 1), (49, .getfield 1125, 72, 3), (52, .iload_n 2, 0, 1), (53, .iaload, 0, 1), (54, .iastore, 0, 1), (55, .iconst 0, 0, 1), (56, .istore 4, 0, 2), (58, .iload 4, 0, 2), (60, .aload_n 0, 0, 1), (61, .getfield 1125, 72, 3), (64, .iload_n 2, 0, 1), (65, .iaload, 0, 1), (66, .if_icmp .ge 99, 0, 3), (69, .aload_n 0, 0, 1), (70, .getfield 1127, 78, 3), (73, .bipush 11, 0, 2), (75, .iload_n 3, 0, 1), (76, .imul, 0, 1), (77, .iload 4, 0, 2), (79, .iadd, 0, 1), (80, .aload_n 0, 0, 1), (81, .getfield 1124, 69, 3), (84, .bipush 13, 0, 2), (86, .iload_n 2, 0, 1), (87, .imul, 0, 1), (88, .iload 4, 0, 2), (90, .iadd, 0, 1), (91, .iaload, 0, 1), (92, .iastore, 0, 1), (93, .iinc 4 1, 0, 3), (96, .goto 58, 0, 3), (99, .return_, 0, 1), (100, .iconst 0, 0, 1), (101, .istore_n 3, 0, 1), (102, .iload_n 3, 0, 1), (103, .iload_n 1, 0, 1), (104, .if_icmp .ge 149, 0, 3), (107, .iconst 0, 0, 1), (108, .istore 4, 0, 2), (110, .iload 4, 0, 2), (112, .aload_n 0, 0, 1), (113, .getfield 1125, 72, 3), (116, .iload_n 2, 0, 1), (117, .iaload, 0, 1), (118, .if_icmp .ge 143, 0, 3), (121, .aload_n 0, 0, 1), (122, .aload_n 0, 0, 1), (123, .getfield 1124, 69, 3), (126, .bipush 13, 0, 2), (128, .iload_n 2, 0, 1), (129, .imul, 0, 1), (130, .iload 4, 0, 2), (132, .iadd, 0, 1), (133, .iaload, 0, 1), (134, .invokevirtual 1139, 232, 3), (137, .iinc 4 1, 0, 3), (140, .goto 110, 0, 3), (143, .iinc 3 1, 0, 3), (146, .goto 102, 0, 3), (149, .return_, 0, 1)]
def kr1143 : MR := ((⟨"LightPlateModel", "closes", "()V"⟩, prog_13_method_39_code, 5, none), 1, (1242, 1241, 49), kc1143)
def kc1144 : List (Nat × Instr × Nat × Nat) := [(0, .iload_n 1, 0, 1), (1, .i2l, 0, 1), (2, .lconst 1, 0, 1), (3, .jsr_w 99, 259, 3), (6, .invokestatic 1106, 126, 3), (9, .ifCond .ne 15, 0, 3), (12, .bipush (-2), 0, 2), (14, .ireturn, 0, 1), (15, .aload_n 0, 0, 1), (16, .getfield 1107, 28, 3), (19, .istore_n 2, 0, 1), (20, .aload_n 0, 0, 1), (21, .iload_n 1, 0, 1), (22, .putfield 1107, 28, 3), (25, .iload_n 2, 0, 1), (26, .ireturn, 0, 1)]
def kr1144 : MR := ((⟨"LightPlateModel", "creep", "(I)I"⟩, prog_13_method_45_code, 3, (some .int)), 2, (1246, 1244, 1245), kc1144)
def kc1145 : List (Nat × Instr × Nat × Nat) := [(0, .aload_n 0, 0, 1), (1, .iload_n 1, 0, 1), (2, .iload_n 2, 0, 1), (3, .invokevirtual 1105, 133, 3), (6, .ifCond .ne 11, 0, 3), (9, .iconst (-1), 0, 1), (10, .ireturn, 0, 1), (11, .iload_n 3, 0, 1), (12, .i2l, 0, 1), (13, .jsr_w (-8), 261, 3), (16, .jsr_w 8, 209, 3), (19, .invokestatic 1106, 126, 3), (22, .ifCond .ne 28, 0, 3), (25, .bipush (-2), 0, 2), (27, .ireturn, 0, 1), (28, .aload_n 0, 0, 1), (29, .getfield 1106, 25, 3), (32, .bipush 6, 0, 2), (34, .iload_n 1, 0, 1), (35, .imul, 0, 1), (36, .iload_n 2, 0, 1), (37, .iadd, 0, 1), (38, .iaload, 0, 1), (39, .istore 4, 0, 2), (41, .aload_n 0, 0, 1), (42, .getfield 1106, 25, 3), (45, .bipush 6, 0, 2), (47, .iload_n 1, 0, 1), (48, .imul, 0, 1), (49, .iload_n 2, 0, 1), (50, .iadd, 0, 1), (51, .iload_n 3, 0, 1), (52, .iastore, 0, 1), (53, .iload 4, 0, 2), (55, .ireturn, 0, 1)]
def kr1145 : MR := ((⟨"LightPlateModel", "offset", "(III)I"⟩, prog_13_method_46_code, 5, (some .int)), 4, (1251, 1249, 1250), kc1145)
def kc1146 : List (Nat × Instr × Nat × Nat) := [(0, .lload_n 1, 0, 1), (1, .lstore_n 3, 0, 1), (2, .iconst 0, 0, 1), (3, .istore 5, 0, 2), (5, .iload 5, 0, 2), (7, .aload_n 0, 0, 1), (8, .getfield 1100, 117, 3), (11, .if_icmp .ge 39, 0, 3), (14, .aload_n 0, 0, 1), (15, .getfield 1110, 38, 3), (18, .iload 5, 0, 2), (20, .lload_n 3, 0, 1), (21, .jsr_w 97, 263, 3), (24, .lrem, 0, 1), (25, .l2i, 0, 1), (26, .iastore, 0, 1), (27, .lload_n 3, 0, 1), (28, .jsr_w 97, 263, 3), (31, .ldiv, 0, 1), (32, .lstore_n 3, 0, 1), (33, .iinc 5 1, 0, 3), (36, .goto 5, 0, 3), (39, .lload_n 1, 0, 1), (40, .lconst 0, 0, 1), (41, .lcmp, 0, 1), (42, .ifCond .lt 51, 0, 3), (45, .lload_n 3, 0, 1), (46, .lconst 0, 0, 1), (47, .lcmp, 0, 1), (48, .ifCond .eq 54, 0, 3), (51, .bipush (-2), 0, 2), (53, .ireturn, 0, 1), (54, .aload_n 0, 0, 1), (55, .getfield 1141, 265, 3), (58, .bipush 40, 0, 2), (60, .if_icmp .ne 66, 0, 3), (63, .bipush (-4), 0, 2), (65, .ireturn, 0, 1), (66, .iconst 0, 0, 1), (67, .istore 5, 0, 2), (69, .iload 5, 0, 2), (71, .aload_n 0, 0, 1), (72, .getfield 1100, 117, 3), (75, .if_icmp .ge 106, 0, 3), (78, .aload_n 0, 0, 1), (79, .getfield 1135, 87, 3), (82, .bipush 6, 0, 2), (84, .aload_n 0, 0, 1), (85, .getfield 1141, 265, 3), (88, .imul, 0, 1), (89, .iload 5, 0, 2), (91, .iadd, 0, 1), (92, .aload_n 0, 0, 1), (93, .getfield 1110, 38, 3), (96, .iload 5, 0, 2), (98, .iaload, 0, 1), (99, .iastore, 0, 1), (100, .iinc 5 1, 0, 3), (103, .goto 69, 0, 3), (106, .iconst 0, 0, 1), (107, .istore 5, 0, 2), (109, .iload 5, 0, 2), (111, .bipush 72, 0, 2), (113, .if_icmp .ge 144, 0, 3), (116, .aload_n 0, 0, 1), (117, .getfield 1137, 93, 3), (120, .bipush 72, 0, 2), (122, .aload_n 0, 0, 1), (123, .getfield 1141, 265, 3), (126, .imul, 0, 1), (127, .iload 5, 0, 2), (129, .iadd, 0, 1), (130, .aload_n 0, 0, 1), (131, .getfield 1103, 16, 3), (134, .iload 5, 0, 2), (136, .iaload, 0, 1), (137, .iastore, 0, 1), (138, .iinc 5 1, 0, 3), (141, .goto 109, 0, 3), (144, .aload_n 0, 0, 1), (145, .invokevirtual 1110, 156, 3), (148, .aload_n 0, 0, 1), (149, .iconst 1, 0, 1), (150, .invokevirtual 1117, 167, 3), (153, .iconst 0, 0, 1), (154, .istore 5, 0, 2), (156, .iload 5, 0, 2), (158, .aload_n 0, 0, 1), (159, .getfield 1100, 117, 3), (162, .if_icmp .ge 193, 0, 3), (165, .aload_n 0, 0, 1), (166, .getfield 1136, 90, 3), (169, .bipush 6, 0, 2), (171, .aload_n 0, 0, 1), (172, .getfield 1141, 265, 3), (175, .imul, 0, 1), (176, .iload 5, 0, 2), (178, .iadd, 0, 1), (179, .aload_n 0, 0, 1), (180, .getfield 1110, 38, 3), (183, .iload 5, 0, 2), (185, .iaload, 0, 1), (186, .iastore, 0, 1), (187, .iinc 5 1, 0, 3), (190, .goto 156, 0, 3), (193, .aload_n 0, 0, 1), (194, .dup, 0, 1), (195, .getfield 1141, 265, 3), (198, .iconst 1, 0, 1), (199, .iadd, 0, 1), (200, .putfield 1141, 265, 3), (203, .aload_n 0, 0, 1), (204, .getfield 1141, 265, 3), (207, .iconst 1, 0, 1), (208, .isub, 0, 1), (209, .ireturn, 0, 1)]
def kr1146 : MR := ((⟨"LightPlateModel", "run", "(J)I"⟩, prog_13_method_47_code, 6, (some .int)), 2, (1256, 1254, 1255), kc1146)
def kc1147 : List (Nat × Instr × Nat × Nat) := [(0, .aload_n 0, 0, 1), (1, .iload_n 1, 0, 1), (2, .invokevirtual 1148, 268, 3), (5, .ifCond .eq 30, 0, 3), (8, .aload_n 0, 0, 1), (9, .iload_n 2, 0, 1), (10, .invokevirtual 1115, 159, 3), (13, .ifCond .eq 30, 0, 3), (16, .aload_n 0, 0, 1), (17, .getfield 1136, 90, 3), (20, .bipush 6, 0, 2), (22, .iload_n 1, 0, 1), (23, .imul, 0, 1), (24, .iload_n 2, 0, 1), (25, .iadd, 0, 1), (26, .iaload, 0, 1), (27, .goto 31, 0, 3), (30, .iconst (-1), 0, 1), (31, .ireturn, 0, 1)]
def kr1147 : MR := ((⟨"LightPlateModel", "out", "(II)I"⟩, prog_13_method_49_code, 3, (some .int)), 3, (1261, 1259, 1260), kc1147)
def kc1148 : List (Nat × Instr × Nat × Nat) := [(0, .iload_n 1, 0, 1), (1, .ifCond .lt 16, 0, 3), (4, .iload_n 1, 0, 1), (5, .aload_n 0, 0, 1), (6, .getfield 1141, 265, 3), (9, .if_icmp .ge 16, 0, 3), (12, .iconst 1, 0, 1), (13, .goto 17, 0, 3), (16, .iconst 0, 0, 1), (17, .freturn, 0, 1)]
def kr1148 : MR := ((⟨"LightPlateModel", "isRun", "(I)Z"⟩, prog_13_method_48_code, 2, (some .boolean)), 2, (1265, 1264, 50), kc1148)
def kc1149 : List (Nat × Instr × Nat × Nat) := [(0, .aload_n 0, 0, 1), (1, .iload_n 1, 0, 1), (2, .invokevirtual 1148, 268, 3), (5, .ifCond .eq 16, 0, 3), (8, .aload_n 0, 0, 1), (9, .iload_n 2, 0, 1), (10, .invokevirtual 1115, 159, 3), (13, .ifCond .ne 18, 0, 3), (16, .iconst (-1), 0, 1), (17, .ireturn, 0, 1), (18, .aload_n 0, 0, 1), (19, .iload_n 1, 0, 1), (20, .invokevirtual 1150, 277, 3), (23, .aload_n 0, 0, 1), (24, .getfield 1110, 38, 3), (27, .iload_n 2, 0, 1), (28, .iaload, 0, 1), (29, .ireturn, 0, 1)]
def kr1149 : MR := ((⟨"LightPlateModel", "reworked", "(II)I"⟩, prog_13_method_52_code, 3, (some .int)), 3, (1269, 1267, 1268), kc1149)
def kc1150 : List (Nat × Instr × Nat × Nat) := [(0, .iconst 0, 0, 1), (1, .istore_n 2, 0, 1), (2, .iload_n 2, 0, 1), (3, .bipush 72, 0, 2), (5, .if_icmp .ge 43, 0, 3), (8, .aload_n 0, 0, 1), (9, .getfield 1108, 32, 3), (12, .iload_n 2, 0, 1), (13, .aload_n 0, 0, 1), (14, .getfield 1137, 93, 3), (17, .bipush 72, 0, 2), (19, .iload_n 1, 0, 1), (20, .imul, 0, 1), (21, .iload_n 2, 0, 1), (22, .iadd, 0, 1), (23, .iaload, 0, 1), (24, .iastore, 0, 1), (25, .aload_n 0, 0, 1), (26, .getfield 1109, 35, 3), (29, .iload_n 2, 0, 1), (30, .aload_n 0, 0, 1), (31, .iload_n 2, 0, 1), (32, .iload_n 1, 0, 1), (33, .invokevirtual 1151, 274, 3), (36, .iastore, 0, 1), (37, .iinc 2 1, 0, 3), (40, .goto 2, 0, 3), (43, .iconst 0, 0, 1), (44, .istore_n 2, 0, 1), (45, .iload_n 2, 0, 1), (46, .aload_n 0, 0, 1), (47, .getfield 1100, 117, 3), (50, .if_icmp .ge 76, 0, 3), (53, .aload_n 0, 0, 1), (54, .getfield 1110, 38, 3), (57, .iload_n 2, 0, 1), (58, .aload_n 0, 0, 1), (59, .getfield 1135, 87, 3), (62, .bipush 6, 0, 2), (64, .iload_n 1, 0, 1), (65, .imul, 0, 1), (66, .iload_n 2, 0, 1), (67, .iadd, 0, 1), (68, .iaload, 0, 1), (69, .iastore, 0, 1), (70, .iinc 2 1, 0, 3), (73, .goto 45, 0, 3), (76, .aload_n 0, 0, 1), (77, .iconst 1, 0, 1), (78, .invokevirtual 1117, 167, 3), (81, .return_, 0, 1)]
def kr1150 : MR := ((⟨"LightPlateModel", "reworks", "(I)V"⟩, prog_13_method_51_code, 3, none), 2, (1273, 1272, 51), kc1150)
def kc1151 : List (Nat × Instr × Nat × Nat) := [(0, .iconst (-1), 0, 1), (1, .istore_n 3, 0, 1), (2, .iconst 0, 0, 1), (3, .istore 4, 0, 2), (5, .iload 4, 0, 2), (7, .aload_n 0, 0, 1), (8, .getfield 1143, 271, 3), (11, .if_icmp .ge 65, 0, 3), (14, .aload_n 0, 0, 1), (15, .getfield 1138, 96, 3), (18, .iload 4, 0, 2), (20, .iaload, 0, 1), (21, .iload_n 1, 0, 1), (22, .if_icmp .ne 59, 0, 3), (25, .aload_n 0, 0, 1), (26, .getfield 1140, 102, 3), (29, .iload 4, 0, 2), (31, .iaload, 0, 1), (32, .iload_n 2, 0, 1), (33, .if_icmp .gt 59, 0, 3), (36, .iload_n 3, 0, 1), (37, .ifCond .lt 56, 0, 3), (40, .aload_n 0, 0, 1), (41, .getfield 1140, 102, 3), (44, .iload 4, 0, 2), (46, .iaload, 0, 1), (47, .aload_n 0, 0, 1), (48, .getfield 1140, 102, 3), (51, .iload_n 3, 0, 1), (52, .iaload, 0, 1), (53, .if_icmp .lt 59, 0, 3), (56, .iload 4, 0, 2), (58, .istore_n 3, 0, 1), (59, .iinc 4 1, 0, 3), (62, .goto 5, 0, 3), (65, .iload_n 3, 0, 1), (66, .ifCond .ge 73, 0, 3), (69, .iconst 0, 0, 1), (70, .goto 79, 0, 3), (73, .aload_n 0, 0, 1), (74, .getfield 1139, 99, 3), (77, .iload_n 3, 0, 1), (78, .iaload, 0, 1), (79, .ireturn, 0, 1)]
def kr1151 : MR := ((⟨"LightPlateModel", "known", "(II)I"⟩, prog_13_method_50_code, 5, (some .int)), 3, (1277, 1276, 52), kc1151)
def kc1152 : List (Nat × Instr × Nat × Nat) := [(0, .iconst 0, 0, 1), (1, .istore_n 1, 0, 1), (2, .iload_n 1, 0, 1), (3, .aload_n 0, 0, 1), (4, .getfield 1141, 265, 3), (7, .if_icmp .ge 59, 0, 3), (10, .aload_n 0, 0, 1), (11, .iload_n 1, 0, 1), (12, .invokevirtual 1150, 277, 3), (15, .iconst 0, 0, 1), (16, .istore_n 2, 0, 1), (17, .iload_n 2, 0, 1), (18, .aload_n 0, 0, 1), (19, .getfield 1100, 117, 3), (22, .if_icmp .ge 53, 0, 3), (25, .aload_n 0, 0, 1), (26, .getfield 1110, 38, 3), (29, .iload_n 2, 0, 1), (30, .iaload, 0, 1), (31, .aload_n 0, 0, 1), (32, .getfield 1136, 90, 3), (35, .bipush 6, 0, 2), (37, .iload_n 1, 0, 1), (38, .imul, 0, 1), (39, .iload_n 2, 0, 1), (40, .iadd, 0, 1), (41, .iaload, 0, 1), (42, .if_icmp .eq 47, 0, 3), (45, .iload_n 1, 0, 1), (46, .ireturn, 0, 1), (47, .iinc 2 1, 0, 3), (50, .goto 17, 0, 3), (53, .iinc 1 1, 0, 3), (56, .goto 2, 0, 3), (59, .bipush (-5), 0, 2), (61, .ireturn, 0, 1)]
def kr1152 : MR := ((⟨"LightPlateModel", "since", "()I"⟩, prog_13_method_53_code, 3, (some .int)), 1, (1281, 1279, 1280), kc1152)
def kc1153 : List (Nat × Instr × Nat × Nat) := [(0, .aload_n 0, 0, 1), (1, .iload_n 1, 0, 1), (2, .iload_n 2, 0, 1), (3, .invokevirtual 1105, 133, 3), (6, .ifCond .ne 11, 0, 3), (9, .iconst (-1), 0, 1), (10, .ireturn, 0, 1), (11, .iload_n 3, 0, 1), (12, .i2l, 0, 1), (13, .jsr_w (-8), 261, 3), (16, .jsr_w 8, 209, 3), (19, .invokestatic 1106, 126, 3), (22, .ifCond .eq 40, 0, 3), (25, .iload 4, 0, 2), (27, .i2l, 0, 1), (28, .lconst 0, 0, 1), (29, .aload_n 0, 0, 1), (30, .getfield 1141, 265, 3), (33, .i2l, 0, 1), (34, .invokestatic 1106, 126, 3), (37, .ifCond .ne 43, 0, 3), (40, .bipush (-2), 0, 2), (42, .ireturn, 0, 1), (43, .aload_n 0, 0, 1), (44, .getfield 1142, 139, 3), (47, .bipush 60, 0, 2), (49, .if_icmp .ne 55, 0, 3), (52, .bipush (-4), 0, 2), (54, .ireturn, 0, 1), (55, .aload_n 0, 0, 1), (56, .getfield 1138, 96, 3), (59, .aload_n 0, 0, 1), (60, .getfield 1143, 271, 3), (63, .bipush 6, 0, 2), (65, .iload_n 1, 0, 1), (66, .imul, 0, 1), (67, .iload_n 2, 0, 1), (68, .iadd, 0, 1), (69, .iastore, 0, 1), (70, .aload_n 0, 0, 1), (71, .getfield 1139, 99, 3), (74, .aload_n 0, 0, 1), (75, .getfield 1143, 271, 3), (78, .iload_n 3, 0, 1), (79, .iastore, 0, 1), (80, .aload_n 0, 0, 1), (81, .getfield 1140, 102, 3), (84, .aload_n 0, 0, 1), (85, .getfield 1143, 271, 3), (88, .iload 4, 0, 2), (90, .iastore, 0, 1), (91, .aload_n 0, 0, 1), (92, .dup, 0, 1), (93, .getfield 1143, 271, 3), (96, .iconst 1, 0, 1), (97, .iadd, 0, 1), (98, .putfield 1143, 271, 3), (101, .aload_n 0, 0, 1), (102, .dup, 0, 1), (103, .getfield 1142, 139, 3), (106, .iconst 1, 0, 1), (107, .iadd, 0, 1), (108, .putfield 1142, 139, 3), (111, .aload_n 0, 0, 1), (112, .getfield 1142, 139, 3), (115, .ireturn, 0, 1)]
def kr1153 : MR := ((⟨"LightPlateModel", "found", "(IIII)I"⟩, prog_13_method_54_code, 5, (some .int)), 5, (1285, 1283, 1284), kc1153)
def kc1154 : List (Nat × Instr × Nat × Nat) := [(0, .aload_n 0, 0, 1), (1, .iconst 0, 0, 1), (2, .putfield 1147, 280, 3), (5, .iconst 0, 0, 1), (6, .istore_n 1, 0, 1), (7, .iload_n 1, 0, 1), (8, .bipush 72, 0, 2), (10, .if_icmp .ge 66, 0, 3), (13, .aload_n 0, 0, 1), (14, .iload_n 1, 0, 1), (15, .bipush 6, 0, 2), (17, .idiv, 0, 1), (18, .iload_n 1, 0, 1), (19, .bipush 6, 0, 2), (21, .irem, 0, 1), (22, .invokevirtual 1105, 133, 3), (25, .ifCond .eq 60, 0, 3), (28, .aload_n 0, 0, 1), (29, .getfield 1104, 19, 3), (32, .iload_n 1, 0, 1), (33, .iaload, 0, 1), (34, .ifCond .lt 40, 0, 3), (37, .goto 60, 0, 3), (40, .aload_n 0, 0, 1), (41, .getfield 1144, 105, 3), (44, .aload_n 0, 0, 1), (45, .getfield 1147, 280, 3), (48, .iload_n 1, 0, 1), (49, .iastore, 0, 1), (50, .aload_n 0, 0, 1), (51, .dup, 0, 1), (52, .getfield 1147, 280, 3), (55, .iconst 1, 0, 1), (56, .iadd, 0, 1), (57, .putfield 1147, 280, 3), (60, .iinc 1 1, 0, 3), (63, .goto 7, 0, 3), (66, .aload_n 0, 0, 1), (67, .iconst 1, 0, 1), (68, .iconst 4, 0, 1), (69, .aload_n 0, 0, 1), (70, .getfield 1147, 280, 3), (73, .imul, 0, 1), (74, .iadd, 0, 1), (75, .putfield 1148, 283, 3), (78, .iconst 0, 0, 1), (79, .istore_n 1, 0, 1), (80, .iload_n 1, 0, 1), (81, .aload_n 0, 0, 1), (82, .getfield 1148, 283, 3), (85, .if_icmp .ge 101, 0, 3), (88, .aload_n 0, 0, 1), (89, .getfield 1146, 111, 3), (92, .iload_n 1, 0, 1), (93, .iconst 1, 0, 1), (94, .bastore, 0, 1), (95, .iinc 1 1, 0, 3), (98, .goto 80, 0, 3), (101, .aload_n 0, 0, 1), (102, .iconst 1, 0, 1), (103, .putfield 1150, 286, 3), (106, .aload_n 0, 0, 1), (107, .iconst 0, 0, 1), (108, .putfield 1149, 289, 3), (111, .aload_n 0, 0, 1), (112, .getfield 1148, 283, 3), (115, .ireturn, 0, 1)]
def kr1154 : MR := ((⟨"LightPlateModel", "probing", "()I"⟩, prog_13_method_55_code, 2, (some .int)), 1, (1289, 1287, 1288), kc1154)
def kc1155 : List (Nat × Instr × Nat × Nat) := [(0, .aload_n 0, 0, 1), (1, .iload_n 1, 0, 1), (2, .invokevirtual 1115, 159, 3), (5, .ifCond .eq 16, 0, 3), (8, .aload_n 0, 0, 1), (9, .iload_n 2, 0, 1), (10, .invokevirtual 1115, 159, 3), (13, .ifCond .ne 18, 0, 3), (16, .iconst (-1), 0, 1), (17, .ireturn, 0, 1), (18, .aload_n 0, 0, 1), (19, .getfield 1150, 286, 3), (22, .ifCond .ne 28, 0, 3), (25, .bipush (-3), 0, 2), (27, .ireturn, 0, 1), (28, .aload_n 0, 0, 1), (29, .getfield 1149, 289, 3), (32, .bipush 20, 0, 2), (34, .if_icmp .ne 40, 0, 3), (37, .bipush (-4), 0, 2), (39, .ireturn, 0, 1), (40, .aload_n 0, 0, 1), (41, .invokevirtual 1110, 156, 3), (44, .aload_n 0, 0, 1), (45, .iload_n 1, 0, 1), (46, .invokevirtual 1116, 163, 3), (49, .aload_n 0, 0, 1), (50, .iconst 1, 0, 1), (51, .invokevirtual 1117, 167, 3), (54, .aload_n 0, 0, 1), (55, .getfield 1110, 38, 3), (58, .iload_n 2, 0, 1), (59, .iaload, 0, 1), (60, .istore_n 3, 0, 1), (61, .iconst 0, 0, 1), (62, .istore 4, 0, 2), (64, .iload 4, 0, 2), (66, .aload_n 0, 0, 1), (67, .getfield 1148, 283, 3), (70, .if_icmp .ge 113, 0, 3), (73, .aload_n 0, 0, 1), (74, .getfield 1146, 111, 3), (77, .iload 4, 0, 2), (79, .baload, 0, 1), (80, .ifCond .eq 107, 0, 3), (83, .aload_n 0, 0, 1), (84, .getfield 1146, 111, 3), (87, .iload 4, 0, 2), (89, .aload_n 0, 0, 1), (90, .iload 4, 0, 2), (92, .iload_n 1, 0, 1), (93, .iload_n 2, 0, 1), (94, .invokevirtual 1156, 295, 3), (97, .iload_n 3, 0, 1), (98, .if_icmp .ne 105, 0, 3), (101, .iconst 1, 0, 1), (102, .goto 106, 0, 3), (105, .iconst 0, 0, 1), (106, .bastore, 0, 1), (107, .iinc 4 1, 0, 3), (110, .goto 64, 0, 3), (113, .aload_n 0, 0, 1), (114, .dup, 0, 1), (115, .getfield 1149, 289, 3), (118, .iconst 1, 0, 1), (119, .iadd, 0, 1), (120, .putfield 1149, 289, 3), (123, .iload_n 3, 0, 1), (124, .ireturn, 0, 1)]
def kr1155 : MR := ((⟨"LightPlateModel", "probe", "(II)I"⟩, prog_13_method_58_code, 5, (some .int)), 3, (1293, 1291, 1292), kc1155)
def kc1156 : List (Nat × Instr × Nat × Nat) := [(0, .iconst 0, 0, 1), (1, .istore 4, 0, 2), (3, .iload 4, 0, 2), (5, .bipush 72, 0, 2), (7, .if_icmp .ge 47, 0, 3), (10, .aload_n 0, 0, 1), (11, .getfield 1108, 32, 3), (14, .iload 4, 0, 2), (16, .aload_n 0, 0, 1), (17, .getfield 1103, 16, 3), (20, .iload 4, 0, 2), (22, .iaload, 0, 1), (23, .iastore, 0, 1), (24, .aload_n 0, 0, 1), (25, .getfield 1109, 35, 3), (28, .iload 4, 0, 2), (30, .aload_n 0, 0, 1), (31, .iload 4, 0, 2), (33, .aload_n 0, 0, 1), (34, .getfield 1141, 265, 3), (37, .invokevirtual 1151, 274, 3), (40, .iastore, 0, 1), (41, .iinc 4 1, 0, 3), (44, .goto 3, 0, 3), (47, .iload_n 1, 0, 1), (48, .ifCond .le 77, 0, 3), (51, .aload_n 0, 0, 1), (52, .getfield 1109, 35, 3), (55, .aload_n 0, 0, 1), (56, .getfield 1144, 105, 3), (59, .iload_n 1, 0, 1), (60, .iconst 1, 0, 1), (61, .isub, 0, 1), (62, .iconst 4, 0, 1), (63, .idiv, 0, 1), (64, .iaload, 0, 1), (65, .dup2, 0, 1), (66, .iaload, 0, 1), (67, .iload_n 1, 0, 1), (68, .iconst 1, 0, 1), (69, .isub, 0, 1), (70, .iconst 4, 0, 1), (71, .irem, 0, 1), (72, .invokestatic 1157, 292, 3), (75, .iadd, 0, 1), (76, .iastore, 0, 1), (77, .aload_n 0, 0, 1), (78, .iload_n 2, 0, 1), (79, .invokevirtual 1116, 163, 3), (82, .aload_n 0, 0, 1), (83, .iconst 1, 0, 1), (84, .invokevirtual 1117, 167, 3), (87, .aload_n 0, 0, 1), (88, .getfield 1110, 38, 3), (91, .iload_n 3, 0, 1), (92, .iaload, 0, 1), (93, .ireturn, 0, 1)]
def kr1156 : MR := ((⟨"LightPlateModel", "comesTo", "(III)I"⟩, prog_13_method_57_code, 5, (some .int)), 4, (1297, 1296, 53), kc1156)
def kc1157 : List (Nat × Instr × Nat × Nat) := [(0, .iload_n 0, 0, 1), (1, .iconst 2, 0, 1), (2, .if_icmp .ge 11, 0, 3), (5, .iload_n 0, 0, 1), (6, .iconst 2, 0, 1), (7, .isub, 0, 1), (8, .goto 14, 0, 3), (11, .iload_n 0, 0, 1), (12, .iconst 1, 0, 1), (13, .isub, 0, 1), (14, .ireturn, 0, 1)]
def kr1157 : MR := ((⟨"LightPlateModel", "more", "(I)I"⟩, prog_13_method_56_code, 1, (some .int)), 1, (1300, 1299, 9999), kc1157)
def kc1158 : List (Nat × Instr × Nat × Nat) := [(0, .aload_n 0, 0, 1), (1, .getfield 1150, 286, 3), (4, .ifCond .ne 10, 0, 3), (7, .bipush (-3), 0, 2), (9, .ireturn, 0, 1), (10, .iconst 0, 0, 1), (11, .istore_n 2, 0, 1), (12, .iconst 0, 0, 1), (13, .istore_n 3, 0, 1), (14, .iload_n 3, 0, 1), (15, .aload_n 0, 0, 1), (16, .getfield 1148, 283, 3), (19, .if_icmp .ge 50, 0, 3), (22, .aload_n 0, 0, 1), (23, .getfield 1146, 111, 3), (26, .iload_n 3, 0, 1), (27, .baload, 0, 1), (28, .ifCond .ne 34, 0, 3), (31, .goto 44, 0, 3), (34, .iload_n 2, 0, 1), (35, .iload_n 1, 0, 1), (36, .if_icmp .ne 41, 0, 3), (39, .iload_n 3, 0, 1), (40, .ireturn, 0, 1), (41, .iinc 2 1, 0, 3), (44, .iinc 3 1, 0, 3), (47, .goto 14, 0, 3), (50, .iload_n 1, 0, 1), (51, .iconst (-1), 0, 1), (52, .if_icmp .ne 59, 0, 3), (55, .iload_n 2, 0, 1), (56, .goto 60, 0, 3), (59, .iconst (-1), 0, 1), (60, .ireturn, 0, 1)]
def kr1158 : MR := ((⟨"LightPlateModel", "held", "(I)I"⟩, prog_13_method_59_code, 4, (some .int)), 2, (1304, 1302, 1303), kc1158)
def kc1159 : List (Nat × Instr × Nat × Nat) := [(0, .aload_n 0, 0, 1), (1, .getfield 1150, 286, 3), (4, .ifCond .eq 15, 0, 3), (7, .aload_n 0, 0, 1), (8, .iconst (-1), 0, 1), (9, .invokevirtual 1158, 299, 3), (12, .ifCond .ne 18, 0, 3), (15, .bipush (-3), 0, 2), (17, .ireturn, 0, 1), (18, .iconst (-1), 0, 1), (19, .istore_n 1, 0, 1), (20, .sipush 1000, 0, 3), (23, .istore_n 2, 0, 1), (24, .iconst 0, 0, 1), (25, .istore_n 3, 0, 1), (26, .iload_n 3, 0, 1), (27, .aload_n 0, 0, 1), (28, .getfield 1100, 117, 3), (31, .if_icmp .ge 179, 0, 3), (34, .iconst 0, 0, 1), (35, .istore 4, 0, 2), (37, .iload 4, 0, 2), (39, .aload_n 0, 0, 1), (40, .getfield 1100, 117, 3), (43, .if_icmp .ge 173, 0, 3), (46, .iconst 0, 0, 1), (47, .istore 5, 0, 2), (49, .iload 5, 0, 2), (51, .bipush 97, 0, 2), (53, .if_icmp .ge 70, 0, 3), (56, .aload_n 0, 0, 1), (57, .getfield 1151, 114, 3), (60, .iload 5, 0, 2), (62, .iconst 0, 0, 1), (63, .iastore, 0, 1), (64, .iinc 5 1, 0, 3), (67, .goto 49, 0, 3), (70, .iconst 0, 0, 1), (71, .istore 5, 0, 2), (73, .iconst 0, 0, 1), (74, .istore 6, 0, 2), (76, .iload 6, 0, 2), (78, .aload_n 0, 0, 1), (79, .getfield 1148, 283, 3), (82, .if_icmp .ge 147, 0, 3), (85, .aload_n 0, 0, 1), (86, .getfield 1146, 111, 3), (89, .iload 6, 0, 2), (91, .baload, 0, 1), (92, .ifCond .ne 98, 0, 3), (95, .goto 141, 0, 3), (98, .aload_n 0, 0, 1), (99, .iload 6, 0, 2), (101, .iload_n 3, 0, 1), (102, .iload 4, 0, 2), (104, .invokevirtual 1156, 295, 3), (107, .istore 7, 0, 2), (109, .aload_n 0, 0, 1), (110, .getfield 1151, 114, 3), (113, .iload 7, 0, 2), (115, .dup2, 0, 1), (116, .iaload, 0, 1), (117, .iconst 1, 0, 1), (118, .iadd, 0, 1), (119, .iastore, 0, 1), (120, .aload_n 0, 0, 1), (121, .getfield 1151, 114, 3), (124, .iload 7, 0, 2), (126, .iaload, 0, 1), (127, .iload 5, 0, 2), (129, .if_icmp .le 141, 0, 3), (132, .aload_n 0, 0, 1), (133, .getfield 1151, 114, 3), (136, .iload 7, 0, 2), (138, .iaload, 0, 1), (139, .istore 5, 0, 2), (141, .iinc 6 1, 0, 3), (144, .goto 76, 0, 3), (147, .iload 5, 0, 2), (149, .iload_n 2, 0, 1), (150, .if_icmp .lt 156, 0, 3), (153, .goto 167, 0, 3), (156, .iload 5, 0, 2), (158, .istore_n 2, 0, 1), (159, .bipush 10, 0, 2), (161, .iload_n 3, 0, 1), (162, .imul, 0, 1), (163, .iload 4, 0, 2), (165, .iadd, 0, 1), (166, .istore_n 1, 0, 1), (167, .iinc 4 1, 0, 3), (170, .goto 37, 0, 3), (173, .iinc 3 1, 0, 3), (176, .goto 26, 0, 3), (179, .iload_n 1, 0, 1), (180, .ireturn, 0, 1)]
def kr1159 : MR := ((⟨"LightPlateModel", "next", "()I"⟩, prog_13_method_60_code, 8, (some .int)), 1, (1308, 1306, 1307), kc1159)
def kc1160 : List (Nat × Instr × Nat × Nat) := [(0, .aload_n 0, 0, 1), (1, .iload_n 2, 0, 1), (2, .iload_n 3, 0, 1), (3, .invokevirtual 1105, 133, 3), (6, .ifCond .eq 21, 0, 3), (9, .iload_n 1, 0, 1), (10, .i2l, 0, 1), (11, .jsr_w (-1), 194, 3), (14, .lconst 1, 0, 1), (15, .invokestatic 1106, 126, 3), (18, .ifCond .ne 24, 0, 3), (21, .bipush (-5), 0, 2), (23, .ireturn, 0, 1), (24, .aload_n 0, 0, 1), (25, .getfield 1105, 22, 3), (28, .bipush 6, 0, 2), (30, .iload_n 2, 0, 1), (31, .imul, 0, 1), (32, .iload_n 3, 0, 1), (33, .iadd, 0, 1), (34, .iaload, 0, 1), (35, .istore 4, 0, 2), (37, .iload_n 1, 0, 1), (38, .ifCond .lt 52, 0, 3), (41, .iload 4, 0, 2), (43, .iconst 1, 0, 1), (44, .iload_n 1, 0, 1), (45, .isub, 0, 1), (46, .if_icmp .ne 52, 0, 3), (49, .bipush (-3), 0, 2), (51, .ireturn, 0, 1), (52, .aload_n 0, 0, 1), (53, .getfield 1105, 22, 3), (56, .bipush 6, 0, 2), (58, .iload_n 2, 0, 1), (59, .imul, 0, 1), (60, .iload_n 3, 0, 1), (61, .iadd, 0, 1), (62, .iload_n 1, 0, 1), (63, .iastore, 0, 1), (64, .iload 4, 0, 2), (66, .ireturn, 0, 1)]
def kr1160 : MR := ((⟨"LightPlateModel", "claim", "(III)I"⟩, prog_13_method_61_code, 5, (some .int)), 4, (1313, 1311, 1312), kc1160)
def kc1161 : List (Nat × Instr × Nat × Nat) := [(0, .iconst 0, 0, 1), (1, .istore_n 1, 0, 1), (2, .iload_n 1, 0, 1), (3, .aload_n 0, 0, 1), (4, .getfield 1100, 117, 3), (7, .if_icmp .ge 27, 0, 3), (10, .aload_n 0, 0, 1), (11, .iload_n 1, 0, 1), (12, .invokevirtual 1162, 302, 3), (15, .iconst 3, 0, 1), (16, .if_icmp .ne 21, 0, 3), (19, .iload_n 1, 0, 1), (20, .ireturn, 0, 1), (21, .iinc 1 1, 0, 3), (24, .goto 2, 0, 3), (27, .bipush (-5), 0, 2), (29, .ireturn, 0, 1)]
def kr1161 : MR := ((⟨"LightPlateModel", "meeting", "()I"⟩, prog_13_method_63_code, 2, (some .int)), 1, (1317, 1315, 1316), kc1161)
def kc1162 : List (Nat × Instr × Nat × Nat) := [(0, .iconst 1, 0, 1), (1, .iload_n 1, 0, 1), (2, .ishl, 0, 1), (3, .istore_n 2, 0, 1), (4, .iconst 0, 0, 1), (5, .istore_n 3, 0, 1), (6, .iconst 0, 0, 1), (7, .istore 4, 0, 2), (9, .iload 4, 0, 2), (11, .bipush 12, 0, 2), (13, .if_icmp .ge 98, 0, 3), (16, .iload 4, 0, 2), (18, .iconst 2, 0, 1), (19, .irem, 0, 1), (20, .istore 5, 0, 2), (22, .iload 5, 0, 2), (24, .aload_n 0, 0, 1), (25, .getfield 1100, 117, 3), (28, .iconst 1, 0, 1), (29, .isub, 0, 1), (30, .if_icmp .ge 92, 0, 3), (33, .iload_n 2, 0, 1), (34, .iload 5, 0, 2), (36, .ishr, 0, 1), (37, .iconst 3, 0, 1), (38, .iand, 0, 1), (39, .ifCond .ne 45, 0, 3), (42, .goto 86, 0, 3), (45, .iload_n 2, 0, 1), (46, .iconst 3, 0, 1), (47, .iload 5, 0, 2), (49, .ishl, 0, 1), (50, .ior, 0, 1), (51, .istore_n 2, 0, 1), (52, .aload_n 0, 0, 1), (53, .getfield 1105, 22, 3), (56, .bipush 6, 0, 2), (58, .iload 4, 0, 2), (60, .imul, 0, 1), (61, .iload 5, 0, 2), (63, .iadd, 0, 1), (64, .iaload, 0, 1), (65, .ifCond .lt 86, 0, 3), (68, .iload_n 3, 0, 1), (69, .iconst 1, 0, 1), (70, .aload_n 0, 0, 1), (71, .getfield 1105, 22, 3), (74, .bipush 6, 0, 2), (76, .iload 4, 0, 2), (78, .imul, 0, 1), (79, .iload 5, 0, 2), (81, .iadd, 0, 1), (82, .iaload, 0, 1), (83, .ishl, 0, 1), (84, .ior, 0, 1), (85, .istore_n 3, 0, 1), (86, .iinc 5 2, 0, 3), (89, .goto 22, 0, 3), (92, .iinc 4 1, 0, 3), (95, .goto 9, 0, 3), (98, .iload_n 3, 0, 1), (99, .ireturn, 0, 1)]
def kr1162 : MR := ((⟨"LightPlateModel", "meets", "(I)I"⟩, prog_13_method_62_code, 6, (some .int)), 2, (1321, 1320, 54), kc1162)
def kc1163 : List (Nat × Instr × Nat × Nat) := [(0, .iconst 0, 0, 1), (1, .istore_n 2, 0, 1), (2, .iload_n 1, 0, 1), (3, .tableswitch 116 0 7 #[48, 53, 86, 91, 96, 101, 106, 111], 0, 45), (48, .aload_n 0, 0, 1), (49, .getfield 1100, 117, 3), (52, .ireturn, 0, 1), (53, .iconst 0, 0, 1), (54, .istore_n 3, 0, 1), (55, .iload_n 3, 0, 1), (56, .bipush 72, 0, 2), (58, .if_icmp .ge 84, 0, 3), (61, .iload_n 2, 0, 1), (62, .aload_n 0, 0, 1), (63, .getfield 1104, 19, 3), (66, .iload_n 3, 0, 1), (67, .iaload, 0, 1), (68, .ifCond .lt 75, 0, 3), (71, .iconst 1, 0, 1), (72, .goto 76, 0, 3), (75, .iconst 0, 0, 1), (76, .iadd, 0, 1), (77, .istore_n 2, 0, 1), (78, .iinc 3 1, 0, 3), (81, .goto 55, 0, 3), (84, .iload_n 2, 0, 1), (85, .ireturn, 0, 1), (86, .aload_n 0, 0, 1), (87, .getfield 1121, 191, 3), (90, .ireturn, 0, 1), (91, .aload_n 0, 0, 1), (92, .getfield 1141, 265, 3), (95, .ireturn, 0, 1), (96, .aload_n 0, 0, 1), (97, .getfield 1142, 139, 3), (100, .ireturn, 0, 1), (101, .aload_n 0, 0, 1), (102, .getfield 1130, 211, 3), (105, .ireturn, 0, 1), (106, .aload_n 0, 0, 1), (107, .invokevirtual 1164, 305, 3), (110, .ireturn, 0, 1), (111, .aload_n 0, 0, 1), (112, .getfield 1107, 28, 3), (115, .ireturn, 0, 1), (116, .iconst (-1), 0, 1), (117, .ireturn, 0, 1)]
def kr1163 : MR := ((⟨"LightPlateModel", "count", "(I)I"⟩, prog_13_method_65_code, 4, (some .int)), 2, (1325, 1323, 1324), kc1163)
def kc1164 : List (Nat × Instr × Nat × Nat) := [(0, .iconst 0, 0, 1), (1, .istore_n 1, 0, 1), (2, .iconst 0, 0, 1), (3, .istore_n 2, 0, 1), (4, .iload_n 2, 0, 1), (5, .bipush 12, 0, 2), (7, .if_icmp .ge 84, 0, 3), (10, .iconst 0, 0, 1), (11, .istore_n 3, 0, 1), (12, .bipush 6, 0, 2), (14, .iload_n 2, 0, 1), (15, .imul, 0, 1), (16, .istore 4, 0, 2), (18, .iload 4, 0, 2), (20, .bipush 6, 0, 2), (22, .iload_n 2, 0, 1), (23, .imul, 0, 1), (24, .bipush 6, 0, 2), (26, .iadd, 0, 1), (27, .if_icmp .ge 66, 0, 3), (30, .iload_n 3, 0, 1), (31, .ifCond .ne 54, 0, 3), (34, .aload_n 0, 0, 1), (35, .getfield 1103, 16, 3), (38, .iload 4, 0, 2), (40, .iaload, 0, 1), (41, .ifCond .gt 54, 0, 3), (44, .aload_n 0, 0, 1), (45, .getfield 1104, 19, 3), (48, .iload 4, 0, 2), (50, .iaload, 0, 1), (51, .ifCond .lt 58, 0, 3), (54, .iconst 1, 0, 1), (55, .goto 59, 0, 3), (58, .iconst 0, 0, 1), (59, .istore_n 3, 0, 1), (60, .iinc 4 1, 0, 3), (63, .goto 18, 0, 3), (66, .iload_n 1, 0, 1), (67, .iload_n 3, 0, 1), (68, .ifCond .eq 75, 0, 3), (71, .iconst 1, 0, 1), (72, .goto 76, 0, 3), (75, .iconst 0, 0, 1), (76, .iadd, 0, 1), (77, .istore_n 1, 0, 1), (78, .iinc 2 1, 0, 3), (81, .goto 4, 0, 3), (84, .iload_n 1, 0, 1), (85, .ireturn, 0, 1)]
def kr1164 : MR := ((⟨"LightPlateModel", "layersUsed", "()I"⟩, prog_13_method_64_code, 5, (some .int)), 1, (1329, 1328, 55), kc1164)
def kc1200 : List (Nat × Instr × Nat × Nat) := [(0, .iload_n 1, 0, 1), (1, .aload_n 0, 0, 1), (2, .arraylength, 0, 1), (3, .if_icmp .ge 12, 0, 3), (6, .aload_n 0, 0, 1), (7, .iload_n 1, 0, 1), (8, .iaload, 0, 1), (9, .goto 13, 0, 3), (12, .iconst 0, 0, 1), (13, .ireturn, 0, 1)]
def kr1200 : MR := ((⟨"LightPlateLaw", "cell", "([II)I"⟩, method_2_code, 2, (some .int)), 2, (903, 902, 9999), kc1200)
def kc1201_0 : List (Nat × Instr × Nat × Nat) := [(0, .new 10, 7, 3), (3, .dup, 0, 1), (4, .aload_n 0, 0, 1), (5, .iconst 0, 0, 1), (6, .invokestatic 1200, 9, 3), (9, .invokespecial 1000, 15, 3), (12, .astore_n 1, 0, 1), (13, .new 11, 18, 3), (16, .dup, 0, 1), (17, .aload_n 0, 0, 1), (18, .iconst 0, 0, 1), (19, .invokestatic 1200, 9, 3), (22, .invokespecial 1100, 20, 3), (25, .astore_n 2, 0, 1), (26, .iconst 1, 0, 1), (27, .istore_n 3, 0, 1), (28, .iload_n 3, 0, 1), (29, .aload_n 0, 0, 1), (30, .arraylength, 0, 1), (31, .iconst 5, 0, 1), (32, .isub, 0, 1), (33, .if_icmp .gt 1072, 0, 3), (36, .aload_n 0, 0, 1), (37, .iload_n 3, 0, 1), (38, .iaload, 0, 1), (39, .bipush 31, 0, 2), (41, .iand, 0, 1), (42, .tableswitch 1066 0 29 #[176, 209, 252, 295, 328, 371, 404, 447, 460, 473, 486, 519, 532, 565, 578, 641, 654, 677, 720, 773, 806, 839, 852, 905, 918, 951, 974, 987, 1030, 1043], 0, 134), (176, .aload_n 1, 0, 1), (177, .aload_n 0, 0, 1), (178, .iload_n 3, 0, 1), (179, .iconst 1, 0, 1), (180, .iadd, 0, 1), (181, .iaload, 0, 1), (182, .aload_n 0, 0, 1), (183, .iload_n 3, 0, 1), (184, .iconst 2, 0, 1), (185, .iadd, 0, 1), (186, .iaload, 0, 1), (187, .invokevirtual 1001, 21, 3), (190, .aload_n 2, 0, 1), (191, .aload_n 0, 0, 1), (192, .iload_n 3, 0, 1), (193, .iconst 1, 0, 1), (194, .iadd, 0, 1), (195, .iaload, 0, 1), (196, .aload_n 0, 0, 1), (197, .iload_n 3, 0, 1), (198, .iconst 2, 0, 1), (199, .iadd, 0, 1), (200, .iaload, 0, 1), (201, .invokevirtual 1102, 25, 3), (204, .if_icmp .eq 1066, 0, 3), (207, .iconst 0, 0, 1), (208, .freturn, 0, 1), (209, .aload_n 1, 0, 1), (210, .aload_n 0, 0, 1), (211, .iload_n 3, 0, 1), (212, .iconst 1, 0, 1), (213, .iadd, 0, 1), (214, .iaload, 0, 1), (215, .aload_n 0, 0, 1), (216, .iload_n 3, 0, 1), (217, .iconst 2, 0, 1), (218, .iadd, 0, 1), (219, .iaload, 0, 1), (220, .aload_n 0, 0, 1), (221, .iload_n 3, 0, 1), (222, .iconst 3, 0, 1), (223, .iadd, 0, 1), (224, .iaload, 0, 1), (225, .invokevirtual 1002, 26, 3), (228, .aload_n 2, 0, 1), (229, .aload_n 0, 0, 1), (230, .iload_n 3, 0, 1), (231, .iconst 1, 0, 1), (232, .iadd, 0, 1), (233, .iaload, 0, 1), (234, .aload_n 0, 0, 1), (235, .iload_n 3, 0, 1), (236, .iconst 2, 0, 1), (237, .iadd, 0, 1), (238, .iaload, 0, 1), (239, .aload_n 0, 0, 1), (240, .iload_n 3, 0, 1), (241, .iconst 3, 0, 1), (242, .iadd, 0, 1), (243, .iaload, 0, 1), (244, .invokevirtual 1104, 30, 3), (247, .if_icmp .eq 1066, 0, 3), (250, .iconst 0, 0, 1), (251, .freturn, 0, 1), (252, .aload_n 1, 0, 1), (253, .aload_n 0, 0, 1), (254, .iload_n 3, 0, 1), (255, .iconst 1, 0, 1), (256, .iadd, 0, 1), (257, .iaload, 0, 1), (258, .aload_n 0, 0, 1), (259, .iload_n 3, 0, 1)]
def kc1201_1 : List (Nat × Instr × Nat × Nat) := [(260, .iconst 2, 0, 1), (261, .iadd, 0, 1), (262, .iaload, 0, 1), (263, .aload_n 0, 0, 1), (264, .iload_n 3, 0, 1), (265, .iconst 3, 0, 1), (266, .iadd, 0, 1), (267, .iaload, 0, 1), (268, .invokevirtual 1004, 31, 3), (271, .aload_n 2, 0, 1), (272, .aload_n 0, 0, 1), (273, .iload_n 3, 0, 1), (274, .iconst 1, 0, 1), (275, .iadd, 0, 1), (276, .iaload, 0, 1), (277, .aload_n 0, 0, 1), (278, .iload_n 3, 0, 1), (279, .iconst 2, 0, 1), (280, .iadd, 0, 1), (281, .iaload, 0, 1), (282, .aload_n 0, 0, 1), (283, .iload_n 3, 0, 1), (284, .iconst 3, 0, 1), (285, .iadd, 0, 1), (286, .iaload, 0, 1), (287, .invokevirtual 1107, 34, 3), (290, .if_icmp .eq 1066, 0, 3), (293, .iconst 0, 0, 1), (294, .freturn, 0, 1), (295, .aload_n 1, 0, 1), (296, .aload_n 0, 0, 1), (297, .iload_n 3, 0, 1), (298, .iconst 1, 0, 1), (299, .iadd, 0, 1), (300, .iaload, 0, 1), (301, .aload_n 0, 0, 1), (302, .iload_n 3, 0, 1), (303, .iconst 2, 0, 1), (304, .iadd, 0, 1), (305, .iaload, 0, 1), (306, .invokevirtual 1005, 35, 3), (309, .aload_n 2, 0, 1), (310, .aload_n 0, 0, 1), (311, .iload_n 3, 0, 1), (312, .iconst 1, 0, 1), (313, .iadd, 0, 1), (314, .iaload, 0, 1), (315, .aload_n 0, 0, 1), (316, .iload_n 3, 0, 1), (317, .iconst 2, 0, 1), (318, .iadd, 0, 1), (319, .iaload, 0, 1), (320, .invokevirtual 1108, 38, 3), (323, .if_icmp .eq 1066, 0, 3), (326, .iconst 0, 0, 1), (327, .freturn, 0, 1), (328, .aload_n 1, 0, 1), (329, .aload_n 0, 0, 1), (330, .iload_n 3, 0, 1), (331, .iconst 1, 0, 1), (332, .iadd, 0, 1), (333, .iaload, 0, 1), (334, .aload_n 0, 0, 1), (335, .iload_n 3, 0, 1), (336, .iconst 2, 0, 1), (337, .iadd, 0, 1), (338, .iaload, 0, 1), (339, .aload_n 0, 0, 1), (340, .iload_n 3, 0, 1), (341, .iconst 3, 0, 1), (342, .iadd, 0, 1), (343, .iaload, 0, 1), (344, .invokevirtual 1006, 39, 3), (347, .aload_n 2, 0, 1), (348, .aload_n 0, 0, 1), (349, .iload_n 3, 0, 1), (350, .iconst 1, 0, 1), (351, .iadd, 0, 1), (352, .iaload, 0, 1), (353, .aload_n 0, 0, 1), (354, .iload_n 3, 0, 1), (355, .iconst 2, 0, 1), (356, .iadd, 0, 1), (357, .iaload, 0, 1), (358, .aload_n 0, 0, 1), (359, .iload_n 3, 0, 1), (360, .iconst 3, 0, 1), (361, .iadd, 0, 1), (362, .iaload, 0, 1), (363, .invokevirtual 1109, 41, 3), (366, .if_icmp .eq 1066, 0, 3), (369, .iconst 0, 0, 1), (370, .freturn, 0, 1), (371, .aload_n 1, 0, 1), (372, .aload_n 0, 0, 1), (373, .iload_n 3, 0, 1), (374, .iconst 1, 0, 1), (375, .iadd, 0, 1), (376, .iaload, 0, 1), (377, .aload_n 0, 0, 1)]
def kc1201_2 : List (Nat × Instr × Nat × Nat) := [(378, .iload_n 3, 0, 1), (379, .iconst 2, 0, 1), (380, .iadd, 0, 1), (381, .iaload, 0, 1), (382, .invokevirtual 1007, 42, 3), (385, .aload_n 2, 0, 1), (386, .aload_n 0, 0, 1), (387, .iload_n 3, 0, 1), (388, .iconst 1, 0, 1), (389, .iadd, 0, 1), (390, .iaload, 0, 1), (391, .aload_n 0, 0, 1), (392, .iload_n 3, 0, 1), (393, .iconst 2, 0, 1), (394, .iadd, 0, 1), (395, .iaload, 0, 1), (396, .invokevirtual 1114, 45, 3), (399, .if_icmp .eq 1066, 0, 3), (402, .iconst 0, 0, 1), (403, .freturn, 0, 1), (404, .aload_n 1, 0, 1), (405, .aload_n 0, 0, 1), (406, .iload_n 3, 0, 1), (407, .iconst 1, 0, 1), (408, .iadd, 0, 1), (409, .iaload, 0, 1), (410, .aload_n 0, 0, 1), (411, .iload_n 3, 0, 1), (412, .iconst 2, 0, 1), (413, .iadd, 0, 1), (414, .iaload, 0, 1), (415, .aload_n 0, 0, 1), (416, .iload_n 3, 0, 1), (417, .iconst 3, 0, 1), (418, .iadd, 0, 1), (419, .iaload, 0, 1), (420, .invokevirtual 1009, 46, 3), (423, .aload_n 2, 0, 1), (424, .aload_n 0, 0, 1), (425, .iload_n 3, 0, 1), (426, .iconst 1, 0, 1), (427, .iadd, 0, 1), (428, .iaload, 0, 1), (429, .aload_n 0, 0, 1), (430, .iload_n 3, 0, 1), (431, .iconst 2, 0, 1), (432, .iadd, 0, 1), (433, .iaload, 0, 1), (434, .aload_n 0, 0, 1), (435, .iload_n 3, 0, 1), (436, .iconst 3, 0, 1), (437, .iadd, 0, 1), (438, .iaload, 0, 1), (439, .invokevirtual 1119, 49, 3), (442, .if_icmp .eq 1066, 0, 3), (445, .iconst 0, 0, 1), (446, .freturn, 0, 1), (447, .aload_n 1, 0, 1), (448, .invokevirtual 1010, 50, 3), (451, .aload_n 2, 0, 1), (452, .invokevirtual 1120, 54, 3), (455, .if_icmp .eq 1066, 0, 3), (458, .iconst 0, 0, 1), (459, .freturn, 0, 1), (460, .aload_n 1, 0, 1), (461, .invokevirtual 1011, 55, 3), (464, .aload_n 2, 0, 1), (465, .invokevirtual 1121, 58, 3), (468, .if_icmp .eq 1066, 0, 3), (471, .iconst 0, 0, 1), (472, .freturn, 0, 1), (473, .aload_n 1, 0, 1), (474, .invokevirtual 1012, 59, 3), (477, .aload_n 2, 0, 1), (478, .invokevirtual 1122, 62, 3), (481, .if_icmp .eq 1066, 0, 3), (484, .iconst 0, 0, 1), (485, .freturn, 0, 1), (486, .aload_n 1, 0, 1), (487, .aload_n 0, 0, 1), (488, .iload_n 3, 0, 1), (489, .iconst 1, 0, 1), (490, .iadd, 0, 1), (491, .iaload, 0, 1), (492, .aload_n 0, 0, 1), (493, .iload_n 3, 0, 1), (494, .iconst 2, 0, 1), (495, .iadd, 0, 1), (496, .iaload, 0, 1), (497, .invokevirtual 1013, 63, 3), (500, .aload_n 2, 0, 1), (501, .aload_n 0, 0, 1), (502, .iload_n 3, 0, 1), (503, .iconst 1, 0, 1), (504, .iadd, 0, 1), (505, .iaload, 0, 1), (506, .aload_n 0, 0, 1), (507, .iload_n 3, 0, 1), (508, .iconst 2, 0, 1), (509, .iadd, 0, 1)]
def kc1201_3 : List (Nat × Instr × Nat × Nat) := [(510, .iaload, 0, 1), (511, .invokevirtual 1124, 66, 3), (514, .if_icmp .eq 1066, 0, 3), (517, .iconst 0, 0, 1), (518, .freturn, 0, 1), (519, .aload_n 1, 0, 1), (520, .invokevirtual 1014, 67, 3), (523, .aload_n 2, 0, 1), (524, .invokevirtual 1125, 70, 3), (527, .if_icmp .eq 1066, 0, 3), (530, .iconst 0, 0, 1), (531, .freturn, 0, 1), (532, .aload_n 1, 0, 1), (533, .aload_n 0, 0, 1), (534, .iload_n 3, 0, 1), (535, .iconst 1, 0, 1), (536, .iadd, 0, 1), (537, .iaload, 0, 1), (538, .aload_n 0, 0, 1), (539, .iload_n 3, 0, 1), (540, .iconst 2, 0, 1), (541, .iadd, 0, 1), (542, .iaload, 0, 1), (543, .invokevirtual 1015, 71, 3), (546, .aload_n 2, 0, 1), (547, .aload_n 0, 0, 1), (548, .iload_n 3, 0, 1), (549, .iconst 1, 0, 1), (550, .iadd, 0, 1), (551, .iaload, 0, 1), (552, .aload_n 0, 0, 1), (553, .iload_n 3, 0, 1), (554, .iconst 2, 0, 1), (555, .iadd, 0, 1), (556, .iaload, 0, 1), (557, .invokevirtual 1126, 74, 3), (560, .if_icmp .eq 1066, 0, 3), (563, .iconst 0, 0, 1), (564, .freturn, 0, 1), (565, .aload_n 1, 0, 1), (566, .invokevirtual 1016, 75, 3), (569, .aload_n 2, 0, 1), (570, .invokevirtual 1127, 78, 3), (573, .if_icmp .eq 1066, 0, 3), (576, .iconst 0, 0, 1), (577, .freturn, 0, 1), (578, .aload_n 1, 0, 1), (579, .aload_n 0, 0, 1), (580, .iload_n 3, 0, 1), (581, .iconst 1, 0, 1), (582, .iadd, 0, 1), (583, .iaload, 0, 1), (584, .i2l, 0, 1), (585, .bipush 32, 0, 2), (587, .lshl, 0, 1), (588, .aload_n 0, 0, 1), (589, .iload_n 3, 0, 1), (590, .iconst 2, 0, 1), (591, .iadd, 0, 1), (592, .iaload, 0, 1), (593, .i2l, 0, 1), (594, .jsr_w 4294967295, 79, 3), (597, .land, 0, 1), (598, .lor, 0, 1), (599, .aload_n 0, 0, 1), (600, .iload_n 3, 0, 1), (601, .iconst 3, 0, 1), (602, .iadd, 0, 1), (603, .iaload, 0, 1), (604, .invokevirtual 1017, 81, 3), (607, .aload_n 2, 0, 1), (608, .aload_n 0, 0, 1), (609, .iload_n 3, 0, 1), (610, .iconst 1, 0, 1), (611, .iadd, 0, 1), (612, .iaload, 0, 1), (613, .i2l, 0, 1), (614, .bipush 32, 0, 2), (616, .lshl, 0, 1), (617, .aload_n 0, 0, 1), (618, .iload_n 3, 0, 1), (619, .iconst 2, 0, 1), (620, .iadd, 0, 1), (621, .iaload, 0, 1), (622, .i2l, 0, 1), (623, .jsr_w 4294967295, 79, 3), (626, .land, 0, 1), (627, .lor, 0, 1), (628, .aload_n 0, 0, 1), (629, .iload_n 3, 0, 1), (630, .iconst 3, 0, 1), (631, .iadd, 0, 1), (632, .iaload, 0, 1), (633, .invokevirtual 1132, 85, 3), (636, .if_icmp .eq 1066, 0, 3), (639, .iconst 0, 0, 1), (640, .freturn, 0, 1), (641, .aload_n 1, 0, 1), (642, .invokevirtual 1018, 86, 3), (645, .aload_n 2, 0, 1)]
def kc1201_4 : List (Nat × Instr × Nat × Nat) := [(646, .invokevirtual 1133, 89, 3), (649, .if_icmp .eq 1066, 0, 3), (652, .iconst 0, 0, 1), (653, .freturn, 0, 1), (654, .aload_n 1, 0, 1), (655, .aload_n 0, 0, 1), (656, .iload_n 3, 0, 1), (657, .iconst 1, 0, 1), (658, .iadd, 0, 1), (659, .iaload, 0, 1), (660, .invokevirtual 1019, 90, 3), (663, .aload_n 2, 0, 1), (664, .aload_n 0, 0, 1), (665, .iload_n 3, 0, 1), (666, .iconst 1, 0, 1), (667, .iadd, 0, 1), (668, .iaload, 0, 1), (669, .invokevirtual 1144, 94, 3), (672, .if_icmp .eq 1066, 0, 3), (675, .iconst 0, 0, 1), (676, .freturn, 0, 1), (677, .aload_n 1, 0, 1), (678, .aload_n 0, 0, 1), (679, .iload_n 3, 0, 1), (680, .iconst 1, 0, 1), (681, .iadd, 0, 1), (682, .iaload, 0, 1), (683, .aload_n 0, 0, 1), (684, .iload_n 3, 0, 1), (685, .iconst 2, 0, 1), (686, .iadd, 0, 1), (687, .iaload, 0, 1), (688, .aload_n 0, 0, 1), (689, .iload_n 3, 0, 1), (690, .iconst 3, 0, 1), (691, .iadd, 0, 1), (692, .iaload, 0, 1), (693, .invokevirtual 1020, 95, 3), (696, .aload_n 2, 0, 1), (697, .aload_n 0, 0, 1), (698, .iload_n 3, 0, 1), (699, .iconst 1, 0, 1), (700, .iadd, 0, 1), (701, .iaload, 0, 1), (702, .aload_n 0, 0, 1), (703, .iload_n 3, 0, 1), (704, .iconst 2, 0, 1), (705, .iadd, 0, 1), (706, .iaload, 0, 1), (707, .aload_n 0, 0, 1), (708, .iload_n 3, 0, 1), (709, .iconst 3, 0, 1), (710, .iadd, 0, 1), (711, .iaload, 0, 1), (712, .invokevirtual 1145, 98, 3), (715, .if_icmp .eq 1066, 0, 3), (718, .iconst 0, 0, 1), (719, .freturn, 0, 1), (720, .aload_n 1, 0, 1), (721, .aload_n 0, 0, 1), (722, .iload_n 3, 0, 1), (723, .iconst 1, 0, 1), (724, .iadd, 0, 1), (725, .iaload, 0, 1), (726, .i2l, 0, 1), (727, .bipush 32, 0, 2), (729, .lshl, 0, 1), (730, .aload_n 0, 0, 1), (731, .iload_n 3, 0, 1), (732, .iconst 2, 0, 1), (733, .iadd, 0, 1), (734, .iaload, 0, 1), (735, .i2l, 0, 1), (736, .jsr_w 4294967295, 79, 3), (739, .land, 0, 1), (740, .lor, 0, 1), (741, .invokevirtual 1022, 99, 3), (744, .aload_n 2, 0, 1), (745, .aload_n 0, 0, 1), (746, .iload_n 3, 0, 1), (747, .iconst 1, 0, 1), (748, .iadd, 0, 1), (749, .iaload, 0, 1), (750, .i2l, 0, 1), (751, .bipush 32, 0, 2), (753, .lshl, 0, 1), (754, .aload_n 0, 0, 1), (755, .iload_n 3, 0, 1), (756, .iconst 2, 0, 1), (757, .iadd, 0, 1), (758, .iaload, 0, 1), (759, .i2l, 0, 1), (760, .jsr_w 4294967295, 79, 3), (763, .land, 0, 1), (764, .lor, 0, 1), (765, .invokevirtual 1146, 103, 3), (768, .if_icmp .eq 1066, 0, 3), (771, .iconst 0, 0, 1), (772, .freturn, 0, 1), (773, .aload_n 1, 0, 1)]
def kc1201_5 : List (Nat × Instr × Nat × Nat) := [(774, .aload_n 0, 0, 1), (775, .iload_n 3, 0, 1), (776, .iconst 1, 0, 1), (777, .iadd, 0, 1), (778, .iaload, 0, 1), (779, .aload_n 0, 0, 1), (780, .iload_n 3, 0, 1), (781, .iconst 2, 0, 1), (782, .iadd, 0, 1), (783, .iaload, 0, 1), (784, .invokevirtual 1023, 104, 3), (787, .aload_n 2, 0, 1), (788, .aload_n 0, 0, 1), (789, .iload_n 3, 0, 1), (790, .iconst 1, 0, 1), (791, .iadd, 0, 1), (792, .iaload, 0, 1), (793, .aload_n 0, 0, 1), (794, .iload_n 3, 0, 1), (795, .iconst 2, 0, 1), (796, .iadd, 0, 1), (797, .iaload, 0, 1), (798, .invokevirtual 1147, 107, 3), (801, .if_icmp .eq 1066, 0, 3), (804, .iconst 0, 0, 1), (805, .freturn, 0, 1), (806, .aload_n 1, 0, 1), (807, .aload_n 0, 0, 1), (808, .iload_n 3, 0, 1), (809, .iconst 1, 0, 1), (810, .iadd, 0, 1), (811, .iaload, 0, 1), (812, .aload_n 0, 0, 1), (813, .iload_n 3, 0, 1), (814, .iconst 2, 0, 1), (815, .iadd, 0, 1), (816, .iaload, 0, 1), (817, .invokevirtual 1024, 108, 3), (820, .aload_n 2, 0, 1), (821, .aload_n 0, 0, 1), (822, .iload_n 3, 0, 1), (823, .iconst 1, 0, 1), (824, .iadd, 0, 1), (825, .iaload, 0, 1), (826, .aload_n 0, 0, 1), (827, .iload_n 3, 0, 1), (828, .iconst 2, 0, 1), (829, .iadd, 0, 1), (830, .iaload, 0, 1), (831, .invokevirtual 1149, 111, 3), (834, .if_icmp .eq 1066, 0, 3), (837, .iconst 0, 0, 1), (838, .freturn, 0, 1), (839, .aload_n 1, 0, 1), (840, .invokevirtual 1025, 112, 3), (843, .aload_n 2, 0, 1), (844, .invokevirtual 1152, 115, 3), (847, .if_icmp .eq 1066, 0, 3), (850, .iconst 0, 0, 1), (851, .freturn, 0, 1), (852, .aload_n 1, 0, 1), (853, .aload_n 0, 0, 1), (854, .iload_n 3, 0, 1), (855, .iconst 1, 0, 1), (856, .iadd, 0, 1), (857, .iaload, 0, 1), (858, .aload_n 0, 0, 1), (859, .iload_n 3, 0, 1), (860, .iconst 2, 0, 1), (861, .iadd, 0, 1), (862, .iaload, 0, 1), (863, .aload_n 0, 0, 1), (864, .iload_n 3, 0, 1), (865, .iconst 3, 0, 1), (866, .iadd, 0, 1), (867, .iaload, 0, 1), (868, .aload_n 0, 0, 1), (869, .iload_n 3, 0, 1), (870, .iconst 4, 0, 1), (871, .iadd, 0, 1), (872, .iaload, 0, 1), (873, .invokevirtual 1026, 116, 3), (876, .aload_n 2, 0, 1), (877, .aload_n 0, 0, 1), (878, .iload_n 3, 0, 1), (879, .iconst 1, 0, 1), (880, .iadd, 0, 1), (881, .iaload, 0, 1), (882, .aload_n 0, 0, 1), (883, .iload_n 3, 0, 1), (884, .iconst 2, 0, 1), (885, .iadd, 0, 1), (886, .iaload, 0, 1), (887, .aload_n 0, 0, 1), (888, .iload_n 3, 0, 1), (889, .iconst 3, 0, 1), (890, .iadd, 0, 1), (891, .iaload, 0, 1), (892, .aload_n 0, 0, 1), (893, .iload_n 3, 0, 1)]
def kc1201_6 : List (Nat × Instr × Nat × Nat) := [(894, .iconst 4, 0, 1), (895, .iadd, 0, 1), (896, .iaload, 0, 1), (897, .invokevirtual 1153, 120, 3), (900, .if_icmp .eq 1066, 0, 3), (903, .iconst 0, 0, 1), (904, .freturn, 0, 1), (905, .aload_n 1, 0, 1), (906, .invokevirtual 1027, 121, 3), (909, .aload_n 2, 0, 1), (910, .invokevirtual 1154, 124, 3), (913, .if_icmp .eq 1066, 0, 3), (916, .iconst 0, 0, 1), (917, .freturn, 0, 1), (918, .aload_n 1, 0, 1), (919, .aload_n 0, 0, 1), (920, .iload_n 3, 0, 1), (921, .iconst 1, 0, 1), (922, .iadd, 0, 1), (923, .iaload, 0, 1), (924, .aload_n 0, 0, 1), (925, .iload_n 3, 0, 1), (926, .iconst 2, 0, 1), (927, .iadd, 0, 1), (928, .iaload, 0, 1), (929, .invokevirtual 1028, 125, 3), (932, .aload_n 2, 0, 1), (933, .aload_n 0, 0, 1), (934, .iload_n 3, 0, 1), (935, .iconst 1, 0, 1), (936, .iadd, 0, 1), (937, .iaload, 0, 1), (938, .aload_n 0, 0, 1), (939, .iload_n 3, 0, 1), (940, .iconst 2, 0, 1), (941, .iadd, 0, 1), (942, .iaload, 0, 1), (943, .invokevirtual 1155, 128, 3), (946, .if_icmp .eq 1066, 0, 3), (949, .iconst 0, 0, 1), (950, .freturn, 0, 1), (951, .aload_n 1, 0, 1), (952, .aload_n 0, 0, 1), (953, .iload_n 3, 0, 1), (954, .iconst 1, 0, 1), (955, .iadd, 0, 1), (956, .iaload, 0, 1), (957, .invokevirtual 1029, 129, 3), (960, .aload_n 2, 0, 1), (961, .aload_n 0, 0, 1), (962, .iload_n 3, 0, 1), (963, .iconst 1, 0, 1), (964, .iadd, 0, 1), (965, .iaload, 0, 1), (966, .invokevirtual 1158, 132, 3), (969, .if_icmp .eq 1066, 0, 3), (972, .iconst 0, 0, 1), (973, .freturn, 0, 1), (974, .aload_n 1, 0, 1), (975, .invokevirtual 1030, 133, 3), (978, .aload_n 2, 0, 1), (979, .invokevirtual 1159, 136, 3), (982, .if_icmp .eq 1066, 0, 3), (985, .iconst 0, 0, 1), (986, .freturn, 0, 1), (987, .aload_n 1, 0, 1), (988, .aload_n 0, 0, 1), (989, .iload_n 3, 0, 1), (990, .iconst 1, 0, 1), (991, .iadd, 0, 1), (992, .iaload, 0, 1), (993, .aload_n 0, 0, 1), (994, .iload_n 3, 0, 1), (995, .iconst 2, 0, 1), (996, .iadd, 0, 1), (997, .iaload, 0, 1), (998, .aload_n 0, 0, 1), (999, .iload_n 3, 0, 1), (1000, .iconst 3, 0, 1), (1001, .iadd, 0, 1), (1002, .iaload, 0, 1), (1003, .invokevirtual 1031, 137, 3), (1006, .aload_n 2, 0, 1), (1007, .aload_n 0, 0, 1), (1008, .iload_n 3, 0, 1), (1009, .iconst 1, 0, 1), (1010, .iadd, 0, 1), (1011, .iaload, 0, 1), (1012, .aload_n 0, 0, 1), (1013, .iload_n 3, 0, 1), (1014, .iconst 2, 0, 1), (1015, .iadd, 0, 1), (1016, .iaload, 0, 1), (1017, .aload_n 0, 0, 1), (1018, .iload_n 3, 0, 1), (1019, .iconst 3, 0, 1), (1020, .iadd, 0, 1), (1021, .iaload, 0, 1), (1022, .invokevirtual 1160, 140, 3), (1025, .if_icmp .eq 1066, 0, 3)]
def kc1201_7 : List (Nat × Instr × Nat × Nat) := [(1028, .iconst 0, 0, 1), (1029, .freturn, 0, 1), (1030, .aload_n 1, 0, 1), (1031, .invokevirtual 1032, 141, 3), (1034, .aload_n 2, 0, 1), (1035, .invokevirtual 1161, 144, 3), (1038, .if_icmp .eq 1066, 0, 3), (1041, .iconst 0, 0, 1), (1042, .freturn, 0, 1), (1043, .aload_n 1, 0, 1), (1044, .aload_n 0, 0, 1), (1045, .iload_n 3, 0, 1), (1046, .iconst 1, 0, 1), (1047, .iadd, 0, 1), (1048, .iaload, 0, 1), (1049, .invokevirtual 1033, 145, 3), (1052, .aload_n 2, 0, 1), (1053, .aload_n 0, 0, 1), (1054, .iload_n 3, 0, 1), (1055, .iconst 1, 0, 1), (1056, .iadd, 0, 1), (1057, .iaload, 0, 1), (1058, .invokevirtual 1163, 148, 3), (1061, .if_icmp .eq 1066, 0, 3), (1064, .iconst 0, 0, 1), (1065, .freturn, 0, 1), (1066, .iinc 3 5, 0, 3), (1069, .goto 28, 0, 3), (1072, .iconst 1, 0, 1), (1073, .freturn, 0, 1)]
def kc1201 : List (Nat × Instr × Nat × Nat) := kc1201_0 ++ (kc1201_1 ++ (kc1201_2 ++ (kc1201_3 ++ (kc1201_4 ++ (kc1201_5 ++ (kc1201_6 ++ (kc1201_7)))))))
def kr1201 : MR := ((⟨"LightPlateLaw", "law", "([I)Z"⟩, code, 4, (some .boolean)), 1, (9999, 9999, 9999), kc1201)
def kc1300 : List (Nat × Instr × Nat × Nat) := [(0, .iload_n 0, 0, 1), (1, .iload_n 1, 0, 1), (2, .irem, 0, 1), (3, .istore_n 2, 0, 1), (4, .iload_n 0, 0, 1), (5, .iload_n 1, 0, 1), (6, .ixor, 0, 1), (7, .ifCond .ge 18, 0, 3), (10, .iload_n 2, 0, 1), (11, .ifCond .eq 18, 0, 3), (14, .iload_n 2, 0, 1), (15, .iload_n 1, 0, 1), (16, .iadd, 0, 1), (17, .ireturn, 0, 1), (18, .iload_n 2, 0, 1), (19, .ireturn, 0, 1)]
def kr1300 : MR := ((⟨"java/lang/Math", "floorMod", "(II)I"⟩, prog_14_method_50_code, 3, (some .int)), 2, (82, 81, 9999), kc1300)
def kc1301 : List (Nat × Instr × Nat × Nat) := [(0, .iload_n 0, 0, 1), (1, .iload_n 1, 0, 1), (2, .if_icmp .gt 9, 0, 3), (5, .iload_n 0, 0, 1), (6, .goto 10, 0, 3), (9, .iload_n 1, 0, 1), (10, .ireturn, 0, 1)]
def kr1301 : MR := ((⟨"java/lang/Math", "min", "(II)I"⟩, prog_14_method_69_code, 2, (some .int)), 2, (503, 502, 9999), kc1301)
def kc1302 : List (Nat × Instr × Nat × Nat) := [(0, .iload_n 0, 0, 1), (1, .ifCond .ge 9, 0, 3), (4, .iload_n 0, 0, 1), (5, .ineg, 0, 1), (6, .goto 10, 0, 3), (9, .iload_n 0, 0, 1), (10, .ireturn, 0, 1)]
def kr1302 : MR := ((⟨"java/lang/Math", "abs", "(I)I"⟩, prog_14_method_59_code, 1, (some .int)), 1, (635, 634, 9999), kc1302)
def kc1303 : List (Nat × Instr × Nat × Nat) := [(0, .iload_n 0, 0, 1), (1, .iload_n 1, 0, 1), (2, .if_icmp .lt 9, 0, 3), (5, .iload_n 0, 0, 1), (6, .goto 10, 0, 3), (9, .iload_n 1, 0, 1), (10, .ireturn, 0, 1)]
def kr1303 : MR := ((⟨"java/lang/Math", "max", "(II)I"⟩, prog_14_method_65_code, 2, (some .int)), 2, (872, 871, 9999), kc1303)
def kc1400 : List (Nat × Instr × Nat × Nat) := [(0, .iconst 0, 0, 1), (1, .istore_n 2, 0, 1), (2, .aload_n 0, 0, 1), (3, .arraylength, 0, 1), (4, .istore_n 3, 0, 1), (5, .iload_n 2, 0, 1), (6, .iload_n 3, 0, 1), (7, .if_icmp .ge 20, 0, 3), (10, .aload_n 0, 0, 1), (11, .iload_n 2, 0, 1), (12, .iload_n 1, 0, 1), (13, .iastore, 0, 1), (14, .iinc 2 1, 0, 3), (17, .goto 5, 0, 3), (20, .return_, 0, 1)]
def kr1400 : MR := ((⟨"java/util/Arrays", "fill", "([II)V"⟩, prog_16_method_103_code, 4, none), 2, (108, 107, 9999), kc1400)
def kc1401 : List (Nat × Instr × Nat × Nat) := [(0, .aload_n 0, 0, 1), (1, .arraylength, 0, 1), (2, .iload_n 1, 0, 1), (3, .iload_n 2, 0, 1), (4, .invokestatic 1402, 13, 3), (7, .iload_n 1, 0, 1), (8, .istore 5, 0, 2), (10, .iload 5, 0, 2), (12, .iload_n 2, 0, 1), (13, .if_icmp .ge 27, 0, 3), (16, .aload_n 0, 0, 1), (17, .iload 5, 0, 2), (19, .lload_n 3, 0, 1), (20, .lastore, 0, 1), (21, .iinc 5 1, 0, 3), (24, .goto 10, 0, 3), (27, .return_, 0, 1)]
def kr1401 : MR := ((⟨"java/util/Arrays", "fill", "([JIIJ)V"⟩, prog_16_method_102_code, 6, none), 4, (629, 628, 9999), kc1401)
def kc1402 : List (Nat × Instr × Nat × Nat) := [(0, .iload_n 1, 0, 1), (1, .iload_n 2, 0, 1), (2, .if_icmp .le 46, 0, 3), (46, .iload_n 1, 0, 1), (47, .ifCond .ge 59, 0, 3), (59, .iload_n 2, 0, 1), (60, .iload_n 0, 0, 1), (61, .if_icmp .le 73, 0, 3), (73, .return_, 0, 1)]
def kr1402 : MR := ((⟨"java/util/Arrays", "rangeCheck", "(III)V"⟩, prog_16_method_30_code, 3, none), 3, (632, 631, 9999), kc1402)
def kl0 : List MR := [kr0, kr1, kr2]
def kl1 : List MR := [kr100, kr101, kr102, kr103, kr104, kr105, kr106, kr107, kr108]
def kl2 : List MR := [kr200, kr201, kr202, kr203, kr204]
def kl3 : List MR := [kr300, kr301, kr302, kr303, kr304, kr305, kr306, kr307, kr308, kr309, kr310, kr311, kr312]
def kl4 : List MR := [kr400, kr401, kr402, kr403, kr404, kr405, kr406, kr407, kr408, kr409]
def kl5 : List MR := [kr500, kr501, kr502, kr503, kr504, kr505, kr506, kr507, kr508, kr509, kr510, kr511, kr512, kr513, kr514]
def kl6 : List MR := [kr600, kr601, kr602, kr603, kr604, kr605]
def kl7 : List MR := [kr700, kr701, kr702, kr703, kr704]
def kl8 : List MR := [kr800, kr801, kr802, kr803, kr804, kr805, kr806, kr807, kr808]
def kl9 : List MR := [kr900, kr901]
def kl10 : List MR := [kr1000, kr1001, kr1002, kr1003, kr1004, kr1005, kr1006, kr1007, kr1008, kr1009, kr1010, kr1011, kr1012, kr1013, kr1014, kr1015, kr1016, kr1017, kr1018, kr1019, kr1020, kr1021, kr1022, kr1023, kr1024, kr1025, kr1026, kr1027, kr1028, kr1029, kr1030, kr1031, kr1032, kr1033]
def kl11 : List MR := [kr1100, kr1101, kr1102, kr1103, kr1104, kr1105, kr1106, kr1107, kr1108, kr1109, kr1110, kr1111, kr1112, kr1113, kr1114, kr1115, kr1116, kr1117, kr1118, kr1119, kr1120, kr1121, kr1122, kr1123, kr1124, kr1125, kr1126, kr1127, kr1128, kr1129, kr1130, kr1131, kr1132, kr1133, kr1134, kr1135, kr1136, kr1137, kr1138, kr1139, kr1140, kr1141, kr1142, kr1143, kr1144, kr1145, kr1146, kr1147, kr1148, kr1149, kr1150, kr1151, kr1152, kr1153, kr1154, kr1155, kr1156, kr1157, kr1158, kr1159, kr1160, kr1161, kr1162, kr1163, kr1164]
def kl12 : List MR := [kr1200, kr1201]
def kl13 : List MR := [kr1300, kr1301, kr1302, kr1303]
def kl14 : List MR := [kr1400, kr1401, kr1402]
def kT : List (List MR) := [kl0, kl1, kl2, kl3, kl4, kl5, kl6, kl7, kl8, kl9, kl10, kl11, kl12, kl13, kl14]
def mT (q : Nat) : Option MR := (kT.getD (q / 100) [])[q % 100]?
def nP (q : Nat) : Nat := match mT q with
  | some r => r.2.1
  | none => 99
def mL (q : Nat) : Nat := match mT q with
  | some r => r.1.2.2.1
  | none => 0
def cd (q pc : Nat) : Option (Instr × Nat) := match mT q with
  | some r => (r.2.2.2.find? fun w => w.1 == pc).map fun w => (w.2.1, w.2.2.2)
  | none => none
-- links: own class, entry, what, the place of its word
def lF : List (Nat × Nat × Nat × Nat) := [(0, 9, 0, 90), (0, 15, 1, 92), (1, 9, 102, 221), (1, 15, 103, 222), (1, 19, 100, 219), (1, 23, 101, 220), (1, 38, 602, 204), (1, 44, 104, 223), (1, 53, 600, 198), (1, 62, 105, 224), (1, 65, 304, 123), (1, 80, 302, 116), (1, 84, 601, 201), (1, 90, 303, 121), (2, 9, 202, 293), (2, 15, 203, 294), (2, 18, 204, 295), (2, 21, 205, 296), (2, 24, 200, 290), (2, 28, 201, 292), (3, 9, 302, 114), (3, 15, 303, 117), (3, 18, 304, 122), (3, 21, 305, 125), (3, 24, 306, 129), (3, 28, 307, 131), (3, 31, 308, 132), (3, 34, 300, 109), (3, 37, 301, 113), (4, 11, 406, 369), (4, 15, 407, 370), (4, 18, 408, 371), (4, 22, 409, 372), (4, 25, 410, 373), (4, 30, 411, 374), (4, 33, 412, 375), (4, 36, 413, 376), (4, 39, 414, 377), (4, 42, 400, 359), (4, 46, 401, 360), (4, 50, 402, 361), (4, 54, 404, 365), (4, 58, 403, 363), (4, 74, 405, 367), (4, 77, 303, 118), (4, 80, 305, 126), (4, 97, 300, 111), (5, 9, 502, 251), (5, 17, 503, 252), (5, 21, 504, 253), (5, 24, 505, 254), (5, 27, 506, 255), (5, 31, 500, 248), (5, 36, 501, 249), (5, 39, 507, 256), (5, 42, 508, 257), (5, 45, 509, 258), (5, 61, 510, 259), (6, 9, 600, 197), (6, 15, 601, 200), (6, 18, 602, 203), (7, 11, 704, 324), (7, 16, 705, 326), (7, 19, 706, 327), (7, 22, 707, 328), (7, 26, 708, 329), (7, 29, 709, 330), (7, 32, 700, 318), (7, 36, 701, 319), (7, 40, 300, 110), (7, 48, 702, 320), (7, 52, 703, 322), (7, 55, 303, 120), (7, 64, 305, 127), (8, 9, 804, 166), (8, 15, 805, 168), (8, 18, 800, 160), (8, 22, 801, 161), (8, 28, 802, 162), (8, 31, 803, 164), (8, 38, 806, 170), (8, 47, 807, 172), (9, 9, 901, 417), (9, 15, 902, 419), (9, 19, 900, 416), (9, 29, 302, 115), (10, 18, 1000, 427), (10, 27, 1001, 428), (10, 34, 1002, 429), (10, 41, 1003, 430), (10, 50, 1004, 431), (10, 59, 1005, 432), (10, 66, 1006, 433), (10, 75, 1007, 434), (10, 82, 1008, 435), (10, 91, 1009, 436), (10, 95, 0, 91), (10, 99, 1, 93), (10, 113, 303, 119), (10, 122, 304, 124), (10, 129, 305, 128), (10, 136, 901, 418), (10, 146, 802, 163), (10, 150, 300, 112), (10, 164, 806, 171), (10, 170, 804, 167), (10, 173, 805, 169), (10, 176, 807, 173), (10, 180, 803, 165), (10, 191, 602, 205), (10, 194, 600, 199), (10, 197, 601, 202), (10, 203, 501, 250), (10, 217, 306, 130), (10, 223, 702, 321), (10, 227, 703, 323), (10, 235, 704, 325), (10, 247, 200, 291), (10, 253, 403, 364), (10, 254, 402, 362), (10, 257, 404, 366), (10, 264, 405, 368), (11, 7, 1101, 914), (11, 13, 1102, 915), (11, 16, 1103, 916), (11, 19, 1104, 917), (11, 22, 1105, 918), (11, 25, 1106, 919), (11, 28, 1107, 920), (11, 32, 1108, 921), (11, 35, 1109, 922), (11, 38, 1110, 923), (11, 41, 1111, 924), (11, 44, 1112, 925), (11, 47, 1113, 926), (11, 50, 1114, 927), (11, 53, 1115, 928), (11, 56, 1119, 932), (11, 59, 1120, 933), (11, 62, 1122, 935), (11, 66, 1123, 936), (11, 69, 1124, 937), (11, 72, 1125, 938), (11, 75, 1126, 939), (11, 78, 1127, 940), (11, 81, 1128, 941), (11, 84, 1129, 942), (11, 87, 1135, 948), (11, 90, 1136, 949), (11, 93, 1137, 950), (11, 96, 1138, 951), (11, 99, 1139, 952), (11, 102, 1140, 953), (11, 105, 1144, 957), (11, 108, 1145, 958), (11, 111, 1146, 959), (11, 114, 1151, 964), (11, 117, 1100, 913), (11, 139, 1142, 955), (11, 176, 1116, 929), (11, 179, 1117, 930), (11, 183, 1118, 931), (11, 191, 1121, 934), (11, 211, 1130, 943), (11, 216, 1131, 944), (11, 226, 1134, 947), (11, 229, 1132, 945), (11, 246, 1133, 946), (11, 265, 1141, 954), (11, 271, 1143, 956), (11, 280, 1147, 960), (11, 283, 1148, 961), (11, 286, 1150, 963), (11, 289, 1149, 962)]
def lM : List (Nat × Nat × Nat × Nat) := [(0, 18, 1300, 89), (1, 27, 102, 623), (1, 30, 103, 636), (1, 34, 106, 650), (1, 47, 1401, 627), (1, 56, 1302, 633), (1, 70, 104, 640), (1, 73, 1301, 649), (1, 76, 308, 644), (1, 81, 105, 645), (1, 87, 302, 654), (1, 93, 107, 655), (1, 97, 108, 659), (1, 101, 301, 663), (2, 31, 1400, 792), (3, 41, 1400, 106), (3, 47, 1301, 501), (3, 53, 302, 508), (3, 57, 305, 509), (3, 61, 1300, 514), (3, 64, 304, 770), (3, 68, 308, 531), (3, 71, 1, 535), (3, 77, 307, 527), (3, 81, 312, 897), (3, 84, 303, 513), (4, 61, 308, 818), (4, 67, 302, 819), (4, 70, 402, 820), (4, 83, 309, 832), (4, 87, 404, 833), (4, 90, 405, 840), (4, 93, 406, 845), (4, 100, 409, 866), (4, 103, 203, 844), (4, 109, 1400, 837), (4, 121, 307, 839), (4, 125, 1300, 849), (4, 131, 1303, 870), (5, 48, 601, 680), (5, 51, 503, 681), (5, 55, 604, 740), (5, 58, 504, 685), (5, 65, 508, 701), (5, 69, 513, 730), (5, 72, 505, 689), (5, 76, 506, 693), (5, 79, 510, 709), (5, 82, 511, 713), (5, 85, 512, 717), (5, 88, 507, 697), (5, 92, 602, 712), (5, 96, 509, 705), (5, 99, 603, 721), (5, 103, 605, 734), (6, 22, 604, 725), (6, 26, 602, 729), (6, 30, 601, 738), (6, 33, 603, 739), (7, 67, 309, 766), (7, 71, 307, 771), (7, 75, 203, 788), (7, 81, 703, 801), (8, 34, 803, 559), (8, 51, 2, 574), (8, 57, 805, 578), (8, 61, 601, 603), (8, 66, 602, 607), (8, 69, 1, 582), (9, 23, 1400, 415), (10, 9, 1300, 80), (10, 17, 0, 85), (10, 24, 300, 102), (10, 33, 800, 154), (10, 47, 100, 215), (10, 56, 500, 241), (10, 72, 700, 312), (10, 81, 400, 354), (10, 88, 900, 411), (10, 102, 301, 466), (10, 105, 1003, 470), (10, 109, 201, 473), (10, 116, 202, 477), (10, 119, 302, 485), (10, 125, 303, 497), (10, 132, 304, 504), (10, 139, 1008, 519), (10, 142, 306, 523), (10, 154, 801, 547), (10, 158, 802, 555), (10, 161, 804, 567), (10, 167, 806, 587), (10, 183, 807, 595), (10, 187, 808, 599), (10, 200, 101, 619), (10, 204, 501, 668), (10, 207, 502, 676), (10, 210, 514, 741), (10, 214, 605, 745), (10, 220, 1021, 754), (10, 228, 701, 761), (10, 232, 702, 776), (10, 237, 703, 784), (10, 240, 704, 797), (10, 243, 204, 806), (10, 250, 401, 814), (10, 260, 403, 828), (10, 267, 407, 854), (10, 271, 408, 862), (10, 274, 901, 881), (10, 277, 310, 889), (10, 280, 311, 893), (11, 120, 1101, 910), (11, 126, 1106, 1086), (11, 130, 1103, 1074), (11, 133, 1105, 1081), (11, 142, 1112, 1110), (11, 145, 1111, 1106), (11, 149, 1113, 1114), (11, 152, 1118, 1134), (11, 156, 1110, 1102), (11, 159, 1115, 1122), (11, 163, 1116, 1126), (11, 167, 1117, 1130), (11, 173, 1114, 1147), (11, 186, 1123, 1156), (11, 196, 1131, 1189), (11, 199, 1130, 1185), (11, 203, 1128, 1177), (11, 206, 1129, 1181), (11, 219, 1136, 1212), (11, 223, 1138, 1220), (11, 232, 1139, 1223), (11, 235, 1137, 1216), (11, 237, 1140, 1227), (11, 240, 1141, 1231), (11, 243, 1142, 1235), (11, 249, 1135, 1208), (11, 253, 1143, 1239), (11, 256, 1134, 1204), (11, 268, 1148, 1262), (11, 274, 1151, 1274), (11, 277, 1150, 1270), (11, 292, 1157, 1298), (11, 295, 1156, 1294), (11, 299, 1158, 1309), (11, 302, 1162, 1318), (11, 305, 1164, 1326), (12, 9, 1200, 901), (12, 15, 1000, 74), (12, 20, 1100, 906), (12, 21, 1001, 458), (12, 25, 1102, 1070), (12, 26, 1002, 462), (12, 30, 1104, 1077), (12, 31, 1004, 481), (12, 34, 1107, 1090), (12, 35, 1005, 489), (12, 38, 1108, 1094), (12, 39, 1006, 493), (12, 41, 1109, 1098), (12, 42, 1007, 515), (12, 45, 1114, 1118), (12, 46, 1009, 539), (12, 49, 1119, 1138), (12, 50, 1010, 543), (12, 54, 1120, 1143), (12, 55, 1011, 551), (12, 58, 1121, 1148), (12, 59, 1012, 563), (12, 62, 1122, 1152), (12, 63, 1013, 583), (12, 66, 1124, 1160), (12, 67, 1014, 591), (12, 70, 1125, 1165), (12, 71, 1015, 611), (12, 74, 1126, 1169), (12, 75, 1016, 615), (12, 78, 1127, 1173), (12, 81, 1017, 664), (12, 85, 1132, 1194), (12, 86, 1018, 672), (12, 89, 1133, 1200), (12, 90, 1019, 746), (12, 94, 1144, 1243), (12, 95, 1020, 750), (12, 98, 1145, 1248), (12, 99, 1022, 757), (12, 103, 1146, 1253), (12, 104, 1023, 772), (12, 107, 1147, 1258), (12, 108, 1024, 780), (12, 111, 1149, 1266), (12, 112, 1025, 793), (12, 115, 1152, 1278), (12, 116, 1026, 802), (12, 120, 1153, 1282), (12, 121, 1027, 810), (12, 124, 1154, 1286), (12, 125, 1028, 824), (12, 128, 1155, 1290), (12, 129, 1029, 850), (12, 132, 1158, 1301), (12, 133, 1030, 858), (12, 136, 1159, 1305), (12, 137, 1031, 873), (12, 140, 1160, 1310), (12, 141, 1032, 877), (12, 144, 1161, 1314), (12, 145, 1033, 885), (12, 148, 1163, 1322), (14, 13, 1402, 630)]
def lV : List (Nat × Nat × Nat × Nat) := [(5, 35, 600, 247), (10, 40, 600, 193), (10, 65, 200, 286)]
def lC : List (Nat × Nat × Nat × Nat) := [(5, 15, 6, 245), (10, 15, 0, 83), (10, 22, 3, 100), (10, 31, 8, 152), (10, 38, 6, 191), (10, 45, 1, 213), (10, 54, 5, 239), (10, 63, 2, 284), (10, 70, 7, 310), (10, 79, 4, 352), (10, 86, 9, 409), (12, 7, 10, 72), (12, 18, 11, 904)]
def lL : List (Nat × Nat × Int × Nat) := [(7, 46, 97, 317), (11, 124, 11, 1085), (11, 137, 95, 1089), (11, 171, 96, 1142), (11, 189, 2, 1164), (11, 194, (-1), 1193), (11, 209, 8, 1198), (11, 214, 255, 1199), (11, 259, 99, 1247), (11, 261, (-8), 1252), (11, 263, 97, 1257), (12, 79, 4294967295, 1330)]
def lO : List (Nat × Nat × Nat) := [(0, 3, 88), (1, 3, 218), (2, 3, 289), (3, 3, 105), (4, 5, 357), (5, 3, 244), (6, 3, 196), (7, 3, 315), (8, 3, 157), (9, 3, 414), (10, 3, 77), (11, 1, 909)]
def lY : List (Nat × Nat × Nat) := [(4, 115, 838), (7, 58, 765), (8, 41, 571)]
def lW : List (Nat × Nat × Nat) := [(4, 28, 358), (7, 9, 316), (8, 26, 158)]
def pI : List Nat := [59, 64, 66, 60, 68, 65, 63, 67, 62, 69, 57, 70, 56, 58, 61]
end
section
/-! WHAT THE TABLES SAY, in a form that a program decides: each row of code is what 'decode' reads, its links are words of lw_tbl. -/
abbrev i32 (x : Int) : Prop := -2147483648 ≤ x ∧ x < 2147483648
abbrev i64 (x : Int) : Prop := -9223372036854775808 ≤ x ∧ x < 9223372036854775808
def unres (pc : Nat) (i : Instr) (idx : Nat) : Instr := match i with
  | .getfield _ => .getfield idx
  | .putfield _ => .putfield idx
  | .invokevirtual _ => .invokevirtual idx
  | .invokespecial _ => .invokespecial idx
  | .invokestatic _ => .invokestatic idx
  | .monitorexit => .invokespecial idx
  | .monitorenter => .invokestatic idx
  | .new _ => .new idx
  | .anewarray _ => .anewarray idx
  | .multianewarray _ _ => .multianewarray idx 2
  | .jsr_w _ => .ldc2_w idx
  | .ifCond c t => .ifCond c (t - (pc : Int))
  | .if_icmp c t => .if_icmp c (t - (pc : Int))
  | .goto t => .goto (t - (pc : Int))
  | .tableswitch d lo hi offs => .tableswitch (d - (pc : Int)) lo hi (offs.map fun t => t - (pc : Int))
  | .lookupswitch d ps => .lookupswitch (d - (pc : Int)) (ps.map fun q => (q.1, q.2 - (pc : Int)))
  | .freturn => .ireturn
  | i => i
def iln (i : Instr) (l : Nat) : Nat := match i with
  | .bipush _ => 2
  | .newarray _ => 2
  | .iload _ => 2
  | .lload _ => 2
  | .aload _ => 2
  | .istore _ => 2
  | .lstore _ => 2
  | .astore _ => 2
  | .sipush _ => 3
  | .getfield _ => 3
  | .putfield _ => 3
  | .invokevirtual _ => 3
  | .invokespecial _ => 3
  | .invokestatic _ => 3
  | .monitorexit => 3
  | .monitorenter => 3
  | .new _ => 3
  | .anewarray _ => 3
  | .jsr_w _ => 3
  | .ifCond _ _ => 3
  | .if_icmp _ _ => 3
  | .goto _ => 3
  | .iinc _ _ => 3
  | .multianewarray _ _ => 4
  | .tableswitch _ _ _ _ => l
  | .lookupswitch _ _ => l
  | _ => 1
def TF (c : Nat) : u_T := match clX[c]? with
  | some q => q.2.1
  | none => fun _ => ("", "", "", false)
def sta (r : MR) : Bool := decide ((parseMethodDescriptor r.1.1.desc).map (fun d => d.parameters.length) = some r.2.1)
def staQ (q : Nat) : Bool := match mT q with
  | some r => sta r
  | none => false
def insQ (q : Nat) : Bool := match mT q with
  | some r => decide ((parseMethodDescriptor r.1.1.desc).map (fun d => d.parameters.length) = some (r.2.1 - 1)) && decide (1 ≤ r.2.1)
  | none => false
def iniQ (q : Nat) : Bool := match mT q with
  | some r => decide (r.1.1.name = "<init>") && decide (r.1.2.2.2 = none)
  | none => false
def selQ (q : Nat) : Bool := match mT q with
  | some r => decide (lw_tbl[r.2.2.1.2.2]? = some (.selects r.1.1.cls r.1.1 r.1.1))
  | none => false
def side (own : Nat) (y : MethodName) (ret : Option FieldType) (i : Instr) (idx : Nat) : Bool := match i with
  | .getfield q => lF.any (fun w => w.1 == own && (w.2.1 == idx && w.2.2.1 == q)) && decide (q % 100 < cO (q / 100) ∧ q / 100 < 12)
  | .putfield q => lF.any (fun w => w.1 == own && (w.2.1 == idx && w.2.2.1 == q)) && (decide (q % 100 < cO (q / 100) ∧ q / 100 < 12) && (!(TF (q / 100) (q % 100)).2.2.2 || decide (y.name = "<init>" ∧ q / 100 = own)))
  | .invokevirtual q => lM.any (fun w => w.1 == own && (w.2.1 == idx && w.2.2.1 == q)) && (insQ q && selQ q)
  | .invokespecial q => (lM.any (fun w => w.1 == own && (w.2.1 == idx && w.2.2.1 == q)) || lV.any (fun w => w.1 == own && (w.2.1 == idx && w.2.2.1 == q))) && (insQ q && iniQ q)
  | .invokestatic q => lM.any (fun w => w.1 == own && (w.2.1 == idx && w.2.2.1 == q)) && staQ q
  | .monitorexit => lO.any fun w => w.1 == own && w.2.1 == idx
  | .monitorenter => lY.any fun w => w.1 == own && w.2.1 == idx
  | .new c => lC.any (fun w => w.1 == own && (w.2.1 == idx && w.2.2.1 == c)) && decide (c < 12)
  | .anewarray _ => lC.any fun w => w.1 == own && (w.2.1 == idx && w.2.2.1 == 6)
  | .multianewarray _ _ => lW.any fun w => w.1 == own && w.2.1 == idx
  | .jsr_w v => lL.any (fun w => w.1 == own && (w.2.1 == idx && w.2.2.1 == v)) && decide (i64 v)
  | .iconst n => decide (-1 ≤ n ∧ n ≤ 5)
  | .bipush n => decide (-128 ≤ n ∧ n ≤ 127)
  | .sipush n => decide (-32768 ≤ n ∧ n ≤ 32767)
  | .iinc _ n => decide (-128 ≤ n ∧ n ≤ 127)
  | .ifCond _ t => decide (0 ≤ t)
  | .if_icmp _ t => decide (0 ≤ t)
  | .goto t => decide (0 ≤ t)
  | .tableswitch d lo hi offs => decide (0 ≤ d ∧ offs.size = (hi - lo + 1).toNat) && offs.toList.all fun t => decide (0 ≤ t)
  | .lookupswitch d ps => decide (0 ≤ d) && (ps.toList.all (fun q => decide (0 ≤ q.2)) && (ps.toList.zip (ps.toList.drop 1)).all (fun (a, next) => a.1 < next.1))
  | .ireturn => decide (ret = some .int)
  | .freturn => decide (ret = some .boolean)
  | .areturn => decide (ret = some (.array .int) ∨ ret = some (.object "LightPlate$Row"))
  | .return_ => decide (ret = none)
  | .newarray t => decide (t = .int ∨ t = .boolean ∨ t = .long)
  | _ => true
def rwOK (own : Nat) (h : MethodName × ByteArray × Nat × Option FieldType) (w : Nat × Instr × Nat × Nat) : Bool := decide (decode h.2.1 w.1 = .ok (unres w.1 w.2.1 w.2.2.1, w.2.2.2)) && (decide (w.2.2.2 = iln w.2.1 w.2.2.2) && side own h.1 h.2.2.2 w.2.1 w.2.2.1)
def hdOK (own : Nat) (r : MR) : Bool := decide (r.1.1.cls = cN own ∧ plainFor r.1.1 = true ∧ r.1.2.2.1 ≤ 20) && (decide (r.1.1.cls ≠ "java/lang/invoke/MethodHandle") && decide (r.1.1.cls ≠ "java/lang/invoke/VarHandle"))
def rowOK (own : Nat) (r : MR) : Bool := r.2.2.2.all (rwOK own r.1) && hdOK own r
def wrdOK (own : Nat) (r : MR) : Bool := decide (lw_tbl[r.2.2.1.1]? = some (.code r.1.1 r.1.2.1 r.1.2.2.1 r.1.2.2.2)) && (decide (lw_tbl[r.2.2.1.2.1]? = some (if sta r then .static r.1.1 else .instanceMethod r.1.1)) && decide (lw_tbl[pI.getD own 0]? = some (.initialized (cN own))))
end
section
theorem ok0 : rowOK 0 kr0 = true := by decide +kernel
theorem wo0 : wrdOK 0 kr0 = true := by decide +kernel
theorem ok1 : rowOK 0 kr1 = true := by decide +kernel
theorem wo1 : wrdOK 0 kr1 = true := by decide +kernel
theorem ok2 : rowOK 0 kr2 = true := by decide +kernel
theorem wo2 : wrdOK 0 kr2 = true := by decide +kernel
theorem ok100 : rowOK 1 kr100 = true := by decide +kernel
theorem wo100 : wrdOK 1 kr100 = true := by decide +kernel
theorem ok101 : rowOK 1 kr101 = true := by decide +kernel
theorem wo101 : wrdOK 1 kr101 = true := by decide +kernel
theorem ok102 : rowOK 1 kr102 = true := by decide +kernel
theorem wo102 : wrdOK 1 kr102 = true := by decide +kernel
theorem ok103 : rowOK 1 kr103 = true := by decide +kernel
theorem wo103 : wrdOK 1 kr103 = true := by decide +kernel
theorem ok104 : rowOK 1 kr104 = true := by decide +kernel
theorem wo104 : wrdOK 1 kr104 = true := by decide +kernel
theorem ok105 : rowOK 1 kr105 = true := by decide +kernel
theorem wo105 : wrdOK 1 kr105 = true := by decide +kernel
theorem ok106 : rowOK 1 kr106 = true := by decide +kernel
theorem wo106 : wrdOK 1 kr106 = true := by decide +kernel
theorem ok107 : rowOK 1 kr107 = true := by decide +kernel
theorem wo107 : wrdOK 1 kr107 = true := by decide +kernel
theorem ok108 : rowOK 1 kr108 = true := by decide +kernel
theorem wo108 : wrdOK 1 kr108 = true := by decide +kernel
theorem ok200 : rowOK 2 kr200 = true := by decide +kernel
theorem wo200 : wrdOK 2 kr200 = true := by decide +kernel
theorem ok201 : rowOK 2 kr201 = true := by decide +kernel
theorem wo201 : wrdOK 2 kr201 = true := by decide +kernel
theorem ok202 : rowOK 2 kr202 = true := by decide +kernel
theorem wo202 : wrdOK 2 kr202 = true := by decide +kernel
theorem ok203 : rowOK 2 kr203 = true := by decide +kernel
theorem wo203 : wrdOK 2 kr203 = true := by decide +kernel
theorem ok204 : rowOK 2 kr204 = true := by decide +kernel
theorem wo204 : wrdOK 2 kr204 = true := by decide +kernel
theorem ok300 : rowOK 3 kr300 = true := by decide +kernel
theorem wo300 : wrdOK 3 kr300 = true := by decide +kernel
theorem ok301 : rowOK 3 kr301 = true := by decide +kernel
theorem wo301 : wrdOK 3 kr301 = true := by decide +kernel
theorem ok302 : rowOK 3 kr302 = true := by decide +kernel
theorem wo302 : wrdOK 3 kr302 = true := by decide +kernel
theorem ok303 : rowOK 3 kr303 = true := by decide +kernel
theorem wo303 : wrdOK 3 kr303 = true := by decide +kernel
theorem ok304 : rowOK 3 kr304 = true := by decide +kernel
theorem wo304 : wrdOK 3 kr304 = true := by decide +kernel
theorem ok305 : rowOK 3 kr305 = true := by decide +kernel
theorem wo305 : wrdOK 3 kr305 = true := by decide +kernel
theorem ok306 : rowOK 3 kr306 = true := by decide +kernel
theorem wo306 : wrdOK 3 kr306 = true := by decide +kernel
theorem ok307 : rowOK 3 kr307 = true := by decide +kernel
theorem wo307 : wrdOK 3 kr307 = true := by decide +kernel
theorem ok308 : rowOK 3 kr308 = true := by decide +kernel
theorem wo308 : wrdOK 3 kr308 = true := by decide +kernel
theorem ok309 : rowOK 3 kr309 = true := by decide +kernel
theorem wo309 : wrdOK 3 kr309 = true := by decide +kernel
theorem ok310 : rowOK 3 kr310 = true := by decide +kernel
theorem wo310 : wrdOK 3 kr310 = true := by decide +kernel
theorem ok311 : rowOK 3 kr311 = true := by decide +kernel
theorem wo311 : wrdOK 3 kr311 = true := by decide +kernel
theorem ok312 : rowOK 3 kr312 = true := by decide +kernel
theorem wo312 : wrdOK 3 kr312 = true := by decide +kernel
theorem ok400 : rowOK 4 kr400 = true := by decide +kernel
theorem wo400 : wrdOK 4 kr400 = true := by decide +kernel
end
section
theorem ok401 : rowOK 4 kr401 = true := by decide +kernel
theorem wo401 : wrdOK 4 kr401 = true := by decide +kernel
theorem ok402 : rowOK 4 kr402 = true := by decide +kernel
theorem wo402 : wrdOK 4 kr402 = true := by decide +kernel
theorem ok403 : rowOK 4 kr403 = true := by decide +kernel
theorem wo403 : wrdOK 4 kr403 = true := by decide +kernel
theorem ok404 : rowOK 4 kr404 = true := by decide +kernel
theorem wo404 : wrdOK 4 kr404 = true := by decide +kernel
theorem ok405 : rowOK 4 kr405 = true := by decide +kernel
theorem wo405 : wrdOK 4 kr405 = true := by decide +kernel
theorem ok406 : rowOK 4 kr406 = true := by decide +kernel
theorem wo406 : wrdOK 4 kr406 = true := by decide +kernel
theorem ok407 : rowOK 4 kr407 = true := by decide +kernel
theorem wo407 : wrdOK 4 kr407 = true := by decide +kernel
theorem ok408 : rowOK 4 kr408 = true := by decide +kernel
theorem wo408 : wrdOK 4 kr408 = true := by decide +kernel
theorem ok409 : rowOK 4 kr409 = true := by decide +kernel
theorem wo409 : wrdOK 4 kr409 = true := by decide +kernel
theorem ok500 : rowOK 5 kr500 = true := by decide +kernel
theorem wo500 : wrdOK 5 kr500 = true := by decide +kernel
theorem ok501 : rowOK 5 kr501 = true := by decide +kernel
theorem wo501 : wrdOK 5 kr501 = true := by decide +kernel
theorem ok502 : rowOK 5 kr502 = true := by decide +kernel
theorem wo502 : wrdOK 5 kr502 = true := by decide +kernel
theorem ok503 : rowOK 5 kr503 = true := by decide +kernel
theorem wo503 : wrdOK 5 kr503 = true := by decide +kernel
theorem ok504 : rowOK 5 kr504 = true := by decide +kernel
theorem wo504 : wrdOK 5 kr504 = true := by decide +kernel
theorem ok505 : rowOK 5 kr505 = true := by decide +kernel
theorem wo505 : wrdOK 5 kr505 = true := by decide +kernel
theorem ok506 : rowOK 5 kr506 = true := by decide +kernel
theorem wo506 : wrdOK 5 kr506 = true := by decide +kernel
theorem ok507 : rowOK 5 kr507 = true := by decide +kernel
theorem wo507 : wrdOK 5 kr507 = true := by decide +kernel
theorem ok508 : rowOK 5 kr508 = true := by decide +kernel
theorem wo508 : wrdOK 5 kr508 = true := by decide +kernel
theorem ok509 : rowOK 5 kr509 = true := by decide +kernel
theorem wo509 : wrdOK 5 kr509 = true := by decide +kernel
theorem ok510 : rowOK 5 kr510 = true := by decide +kernel
theorem wo510 : wrdOK 5 kr510 = true := by decide +kernel
theorem ok511 : rowOK 5 kr511 = true := by decide +kernel
theorem wo511 : wrdOK 5 kr511 = true := by decide +kernel
theorem ok512 : rowOK 5 kr512 = true := by decide +kernel
theorem wo512 : wrdOK 5 kr512 = true := by decide +kernel
theorem ok513 : rowOK 5 kr513 = true := by decide +kernel
theorem wo513 : wrdOK 5 kr513 = true := by decide +kernel
theorem ok514 : rowOK 5 kr514 = true := by decide +kernel
theorem wo514 : wrdOK 5 kr514 = true := by decide +kernel
theorem ok600 : rowOK 6 kr600 = true := by decide +kernel
theorem wo600 : wrdOK 6 kr600 = true := by decide +kernel
theorem ok601 : rowOK 6 kr601 = true := by decide +kernel
theorem wo601 : wrdOK 6 kr601 = true := by decide +kernel
theorem ok602 : rowOK 6 kr602 = true := by decide +kernel
theorem wo602 : wrdOK 6 kr602 = true := by decide +kernel
theorem ok603 : rowOK 6 kr603 = true := by decide +kernel
theorem wo603 : wrdOK 6 kr603 = true := by decide +kernel
theorem ok604 : rowOK 6 kr604 = true := by decide +kernel
theorem wo604 : wrdOK 6 kr604 = true := by decide +kernel
theorem ok605 : rowOK 6 kr605 = true := by decide +kernel
theorem wo605 : wrdOK 6 kr605 = true := by decide +kernel
theorem ok700 : rowOK 7 kr700 = true := by decide +kernel
theorem wo700 : wrdOK 7 kr700 = true := by decide +kernel
theorem ok701 : rowOK 7 kr701 = true := by decide +kernel
end
section
theorem wo701 : wrdOK 7 kr701 = true := by decide +kernel
theorem ok702 : rowOK 7 kr702 = true := by decide +kernel
theorem wo702 : wrdOK 7 kr702 = true := by decide +kernel
theorem ok703 : rowOK 7 kr703 = true := by decide +kernel
theorem wo703 : wrdOK 7 kr703 = true := by decide +kernel
theorem ok704 : rowOK 7 kr704 = true := by decide +kernel
theorem wo704 : wrdOK 7 kr704 = true := by decide +kernel
theorem ok800 : rowOK 8 kr800 = true := by decide +kernel
theorem wo800 : wrdOK 8 kr800 = true := by decide +kernel
theorem ok801 : rowOK 8 kr801 = true := by decide +kernel
theorem wo801 : wrdOK 8 kr801 = true := by decide +kernel
theorem ok802 : rowOK 8 kr802 = true := by decide +kernel
theorem wo802 : wrdOK 8 kr802 = true := by decide +kernel
theorem ok803 : rowOK 8 kr803 = true := by decide +kernel
theorem wo803 : wrdOK 8 kr803 = true := by decide +kernel
theorem ok804 : rowOK 8 kr804 = true := by decide +kernel
theorem wo804 : wrdOK 8 kr804 = true := by decide +kernel
theorem ok805 : rowOK 8 kr805 = true := by decide +kernel
theorem wo805 : wrdOK 8 kr805 = true := by decide +kernel
theorem ok806 : rowOK 8 kr806 = true := by decide +kernel
theorem wo806 : wrdOK 8 kr806 = true := by decide +kernel
theorem ok807 : rowOK 8 kr807 = true := by decide +kernel
theorem wo807 : wrdOK 8 kr807 = true := by decide +kernel
theorem ok808 : rowOK 8 kr808 = true := by decide +kernel
theorem wo808 : wrdOK 8 kr808 = true := by decide +kernel
theorem ok900 : rowOK 9 kr900 = true := by decide +kernel
theorem wo900 : wrdOK 9 kr900 = true := by decide +kernel
theorem ok901 : rowOK 9 kr901 = true := by decide +kernel
theorem wo901 : wrdOK 9 kr901 = true := by decide +kernel
theorem ok1000 : rowOK 10 kr1000 = true := by decide +kernel
theorem wo1000 : wrdOK 10 kr1000 = true := by decide +kernel
theorem ok1001 : rowOK 10 kr1001 = true := by decide +kernel
theorem wo1001 : wrdOK 10 kr1001 = true := by decide +kernel
theorem ok1002 : rowOK 10 kr1002 = true := by decide +kernel
theorem wo1002 : wrdOK 10 kr1002 = true := by decide +kernel
theorem ok1003 : rowOK 10 kr1003 = true := by decide +kernel
theorem wo1003 : wrdOK 10 kr1003 = true := by decide +kernel
theorem ok1004 : rowOK 10 kr1004 = true := by decide +kernel
theorem wo1004 : wrdOK 10 kr1004 = true := by decide +kernel
theorem ok1005 : rowOK 10 kr1005 = true := by decide +kernel
theorem wo1005 : wrdOK 10 kr1005 = true := by decide +kernel
theorem ok1006 : rowOK 10 kr1006 = true := by decide +kernel
theorem wo1006 : wrdOK 10 kr1006 = true := by decide +kernel
theorem ok1007 : rowOK 10 kr1007 = true := by decide +kernel
theorem wo1007 : wrdOK 10 kr1007 = true := by decide +kernel
theorem ok1008 : rowOK 10 kr1008 = true := by decide +kernel
theorem wo1008 : wrdOK 10 kr1008 = true := by decide +kernel
theorem ok1009 : rowOK 10 kr1009 = true := by decide +kernel
theorem wo1009 : wrdOK 10 kr1009 = true := by decide +kernel
theorem ok1010 : rowOK 10 kr1010 = true := by decide +kernel
theorem wo1010 : wrdOK 10 kr1010 = true := by decide +kernel
theorem ok1011 : rowOK 10 kr1011 = true := by decide +kernel
theorem wo1011 : wrdOK 10 kr1011 = true := by decide +kernel
theorem ok1012 : rowOK 10 kr1012 = true := by decide +kernel
theorem wo1012 : wrdOK 10 kr1012 = true := by decide +kernel
theorem ok1013 : rowOK 10 kr1013 = true := by decide +kernel
theorem wo1013 : wrdOK 10 kr1013 = true := by decide +kernel
theorem ok1014 : rowOK 10 kr1014 = true := by decide +kernel
theorem wo1014 : wrdOK 10 kr1014 = true := by decide +kernel
theorem ok1015 : rowOK 10 kr1015 = true := by decide +kernel
theorem wo1015 : wrdOK 10 kr1015 = true := by decide +kernel
theorem ok1016 : rowOK 10 kr1016 = true := by decide +kernel
theorem wo1016 : wrdOK 10 kr1016 = true := by decide +kernel
end
section
theorem ok1017 : rowOK 10 kr1017 = true := by decide +kernel
theorem wo1017 : wrdOK 10 kr1017 = true := by decide +kernel
theorem ok1018 : rowOK 10 kr1018 = true := by decide +kernel
theorem wo1018 : wrdOK 10 kr1018 = true := by decide +kernel
theorem ok1019 : rowOK 10 kr1019 = true := by decide +kernel
theorem wo1019 : wrdOK 10 kr1019 = true := by decide +kernel
theorem ok1020 : rowOK 10 kr1020 = true := by decide +kernel
theorem wo1020 : wrdOK 10 kr1020 = true := by decide +kernel
theorem ok1021 : rowOK 10 kr1021 = true := by decide +kernel
theorem wo1021 : wrdOK 10 kr1021 = true := by decide +kernel
theorem ok1022 : rowOK 10 kr1022 = true := by decide +kernel
theorem wo1022 : wrdOK 10 kr1022 = true := by decide +kernel
theorem ok1023 : rowOK 10 kr1023 = true := by decide +kernel
theorem wo1023 : wrdOK 10 kr1023 = true := by decide +kernel
theorem ok1024 : rowOK 10 kr1024 = true := by decide +kernel
theorem wo1024 : wrdOK 10 kr1024 = true := by decide +kernel
theorem ok1025 : rowOK 10 kr1025 = true := by decide +kernel
theorem wo1025 : wrdOK 10 kr1025 = true := by decide +kernel
theorem ok1026 : rowOK 10 kr1026 = true := by decide +kernel
theorem wo1026 : wrdOK 10 kr1026 = true := by decide +kernel
theorem ok1027 : rowOK 10 kr1027 = true := by decide +kernel
theorem wo1027 : wrdOK 10 kr1027 = true := by decide +kernel
theorem ok1028 : rowOK 10 kr1028 = true := by decide +kernel
theorem wo1028 : wrdOK 10 kr1028 = true := by decide +kernel
theorem ok1029 : rowOK 10 kr1029 = true := by decide +kernel
theorem wo1029 : wrdOK 10 kr1029 = true := by decide +kernel
theorem ok1030 : rowOK 10 kr1030 = true := by decide +kernel
theorem wo1030 : wrdOK 10 kr1030 = true := by decide +kernel
theorem ok1031 : rowOK 10 kr1031 = true := by decide +kernel
theorem wo1031 : wrdOK 10 kr1031 = true := by decide +kernel
theorem ok1032 : rowOK 10 kr1032 = true := by decide +kernel
theorem wo1032 : wrdOK 10 kr1032 = true := by decide +kernel
theorem ok1033 : rowOK 10 kr1033 = true := by decide +kernel
theorem wo1033 : wrdOK 10 kr1033 = true := by decide +kernel
theorem ok1100 : rowOK 11 kr1100 = true := by decide +kernel
theorem wo1100 : wrdOK 11 kr1100 = true := by decide +kernel
theorem ok1101 : rowOK 11 kr1101 = true := by decide +kernel
theorem wo1101 : wrdOK 11 kr1101 = true := by decide +kernel
theorem ok1102 : rowOK 11 kr1102 = true := by decide +kernel
theorem wo1102 : wrdOK 11 kr1102 = true := by decide +kernel
theorem ok1103 : rowOK 11 kr1103 = true := by decide +kernel
theorem wo1103 : wrdOK 11 kr1103 = true := by decide +kernel
theorem ok1104 : rowOK 11 kr1104 = true := by decide +kernel
theorem wo1104 : wrdOK 11 kr1104 = true := by decide +kernel
theorem ok1105 : rowOK 11 kr1105 = true := by decide +kernel
theorem wo1105 : wrdOK 11 kr1105 = true := by decide +kernel
theorem ok1106 : rowOK 11 kr1106 = true := by decide +kernel
theorem wo1106 : wrdOK 11 kr1106 = true := by decide +kernel
theorem ok1107 : rowOK 11 kr1107 = true := by decide +kernel
theorem wo1107 : wrdOK 11 kr1107 = true := by decide +kernel
theorem ok1108 : rowOK 11 kr1108 = true := by decide +kernel
theorem wo1108 : wrdOK 11 kr1108 = true := by decide +kernel
theorem ok1109 : rowOK 11 kr1109 = true := by decide +kernel
theorem wo1109 : wrdOK 11 kr1109 = true := by decide +kernel
theorem ok1110 : rowOK 11 kr1110 = true := by decide +kernel
theorem wo1110 : wrdOK 11 kr1110 = true := by decide +kernel
theorem ok1111 : rowOK 11 kr1111 = true := by decide +kernel
theorem wo1111 : wrdOK 11 kr1111 = true := by decide +kernel
theorem ok1112 : rowOK 11 kr1112 = true := by decide +kernel
theorem wo1112 : wrdOK 11 kr1112 = true := by decide +kernel
theorem ok1113 : rowOK 11 kr1113 = true := by decide +kernel
theorem wo1113 : wrdOK 11 kr1113 = true := by decide +kernel
theorem ok1114 : rowOK 11 kr1114 = true := by decide +kernel
end
section
theorem wo1114 : wrdOK 11 kr1114 = true := by decide +kernel
theorem ok1115 : rowOK 11 kr1115 = true := by decide +kernel
theorem wo1115 : wrdOK 11 kr1115 = true := by decide +kernel
theorem ok1116 : rowOK 11 kr1116 = true := by decide +kernel
theorem wo1116 : wrdOK 11 kr1116 = true := by decide +kernel
theorem ok1117 : rowOK 11 kr1117 = true := by decide +kernel
theorem wo1117 : wrdOK 11 kr1117 = true := by decide +kernel
theorem ok1118 : rowOK 11 kr1118 = true := by decide +kernel
theorem wo1118 : wrdOK 11 kr1118 = true := by decide +kernel
theorem ok1119 : rowOK 11 kr1119 = true := by decide +kernel
theorem wo1119 : wrdOK 11 kr1119 = true := by decide +kernel
theorem ok1120 : rowOK 11 kr1120 = true := by decide +kernel
theorem wo1120 : wrdOK 11 kr1120 = true := by decide +kernel
theorem ok1121 : rowOK 11 kr1121 = true := by decide +kernel
theorem wo1121 : wrdOK 11 kr1121 = true := by decide +kernel
theorem ok1122 : rowOK 11 kr1122 = true := by decide +kernel
theorem wo1122 : wrdOK 11 kr1122 = true := by decide +kernel
theorem ok1123 : rowOK 11 kr1123 = true := by decide +kernel
theorem wo1123 : wrdOK 11 kr1123 = true := by decide +kernel
theorem ok1124 : rowOK 11 kr1124 = true := by decide +kernel
theorem wo1124 : wrdOK 11 kr1124 = true := by decide +kernel
theorem ok1125 : rowOK 11 kr1125 = true := by decide +kernel
theorem wo1125 : wrdOK 11 kr1125 = true := by decide +kernel
theorem ok1126 : rowOK 11 kr1126 = true := by decide +kernel
theorem wo1126 : wrdOK 11 kr1126 = true := by decide +kernel
theorem ok1127 : rowOK 11 kr1127 = true := by decide +kernel
theorem wo1127 : wrdOK 11 kr1127 = true := by decide +kernel
theorem ok1128 : rowOK 11 kr1128 = true := by decide +kernel
theorem wo1128 : wrdOK 11 kr1128 = true := by decide +kernel
theorem ok1129 : rowOK 11 kr1129 = true := by decide +kernel
theorem wo1129 : wrdOK 11 kr1129 = true := by decide +kernel
theorem ok1130 : rowOK 11 kr1130 = true := by decide +kernel
theorem wo1130 : wrdOK 11 kr1130 = true := by decide +kernel
theorem ok1131 : rowOK 11 kr1131 = true := by decide +kernel
theorem wo1131 : wrdOK 11 kr1131 = true := by decide +kernel
theorem ok1132 : rowOK 11 kr1132 = true := by decide +kernel
theorem wo1132 : wrdOK 11 kr1132 = true := by decide +kernel
theorem ok1133 : rowOK 11 kr1133 = true := by decide +kernel
theorem wo1133 : wrdOK 11 kr1133 = true := by decide +kernel
theorem ok1134 : rowOK 11 kr1134 = true := by decide +kernel
theorem wo1134 : wrdOK 11 kr1134 = true := by decide +kernel
theorem ok1135 : rowOK 11 kr1135 = true := by decide +kernel
theorem wo1135 : wrdOK 11 kr1135 = true := by decide +kernel
theorem ok1136 : rowOK 11 kr1136 = true := by decide +kernel
theorem wo1136 : wrdOK 11 kr1136 = true := by decide +kernel
theorem ok1137 : rowOK 11 kr1137 = true := by decide +kernel
theorem wo1137 : wrdOK 11 kr1137 = true := by decide +kernel
theorem ok1138 : rowOK 11 kr1138 = true := by decide +kernel
theorem wo1138 : wrdOK 11 kr1138 = true := by decide +kernel
theorem ok1139 : rowOK 11 kr1139 = true := by decide +kernel
theorem wo1139 : wrdOK 11 kr1139 = true := by decide +kernel
theorem ok1140 : rowOK 11 kr1140 = true := by decide +kernel
theorem wo1140 : wrdOK 11 kr1140 = true := by decide +kernel
theorem ok1141 : rowOK 11 kr1141 = true := by decide +kernel
theorem wo1141 : wrdOK 11 kr1141 = true := by decide +kernel
theorem ok1142 : rowOK 11 kr1142 = true := by decide +kernel
theorem wo1142 : wrdOK 11 kr1142 = true := by decide +kernel
theorem ok1143 : rowOK 11 kr1143 = true := by decide +kernel
theorem wo1143 : wrdOK 11 kr1143 = true := by decide +kernel
theorem ok1144 : rowOK 11 kr1144 = true := by decide +kernel
theorem wo1144 : wrdOK 11 kr1144 = true := by decide +kernel
theorem ok1145 : rowOK 11 kr1145 = true := by decide +kernel
theorem wo1145 : wrdOK 11 kr1145 = true := by decide +kernel
end
section
theorem ok1146 : rowOK 11 kr1146 = true := by decide +kernel
theorem wo1146 : wrdOK 11 kr1146 = true := by decide +kernel
theorem ok1147 : rowOK 11 kr1147 = true := by decide +kernel
theorem wo1147 : wrdOK 11 kr1147 = true := by decide +kernel
theorem ok1148 : rowOK 11 kr1148 = true := by decide +kernel
theorem wo1148 : wrdOK 11 kr1148 = true := by decide +kernel
theorem ok1149 : rowOK 11 kr1149 = true := by decide +kernel
theorem wo1149 : wrdOK 11 kr1149 = true := by decide +kernel
theorem ok1150 : rowOK 11 kr1150 = true := by decide +kernel
theorem wo1150 : wrdOK 11 kr1150 = true := by decide +kernel
theorem ok1151 : rowOK 11 kr1151 = true := by decide +kernel
theorem wo1151 : wrdOK 11 kr1151 = true := by decide +kernel
theorem ok1152 : rowOK 11 kr1152 = true := by decide +kernel
theorem wo1152 : wrdOK 11 kr1152 = true := by decide +kernel
theorem ok1153 : rowOK 11 kr1153 = true := by decide +kernel
theorem wo1153 : wrdOK 11 kr1153 = true := by decide +kernel
theorem ok1154 : rowOK 11 kr1154 = true := by decide +kernel
theorem wo1154 : wrdOK 11 kr1154 = true := by decide +kernel
theorem ok1155 : rowOK 11 kr1155 = true := by decide +kernel
theorem wo1155 : wrdOK 11 kr1155 = true := by decide +kernel
theorem ok1156 : rowOK 11 kr1156 = true := by decide +kernel
theorem wo1156 : wrdOK 11 kr1156 = true := by decide +kernel
theorem ok1157 : rowOK 11 kr1157 = true := by decide +kernel
theorem wo1157 : wrdOK 11 kr1157 = true := by decide +kernel
theorem ok1158 : rowOK 11 kr1158 = true := by decide +kernel
theorem wo1158 : wrdOK 11 kr1158 = true := by decide +kernel
theorem ok1159 : rowOK 11 kr1159 = true := by decide +kernel
theorem wo1159 : wrdOK 11 kr1159 = true := by decide +kernel
theorem ok1160 : rowOK 11 kr1160 = true := by decide +kernel
theorem wo1160 : wrdOK 11 kr1160 = true := by decide +kernel
theorem ok1161 : rowOK 11 kr1161 = true := by decide +kernel
theorem wo1161 : wrdOK 11 kr1161 = true := by decide +kernel
theorem ok1162 : rowOK 11 kr1162 = true := by decide +kernel
theorem wo1162 : wrdOK 11 kr1162 = true := by decide +kernel
theorem ok1163 : rowOK 11 kr1163 = true := by decide +kernel
theorem wo1163 : wrdOK 11 kr1163 = true := by decide +kernel
theorem ok1164 : rowOK 11 kr1164 = true := by decide +kernel
theorem wo1164 : wrdOK 11 kr1164 = true := by decide +kernel
theorem ok1200 : rowOK 12 kr1200 = true := by decide +kernel
theorem wo1200 : wrdOK 12 kr1200 = true := by decide +kernel
theorem ok1201_0 : (kc1201_0.all (rwOK 12 kr1201.1)) = true := by decide +kernel
theorem ok1201_1 : (kc1201_1.all (rwOK 12 kr1201.1)) = true := by decide +kernel
theorem ok1201_2 : (kc1201_2.all (rwOK 12 kr1201.1)) = true := by decide +kernel
theorem ok1201_3 : (kc1201_3.all (rwOK 12 kr1201.1)) = true := by decide +kernel
theorem ok1201_4 : (kc1201_4.all (rwOK 12 kr1201.1)) = true := by decide +kernel
theorem ok1201_5 : (kc1201_5.all (rwOK 12 kr1201.1)) = true := by decide +kernel
theorem ok1201_6 : (kc1201_6.all (rwOK 12 kr1201.1)) = true := by decide +kernel
theorem ok1201_7 : (kc1201_7.all (rwOK 12 kr1201.1)) = true := by decide +kernel
theorem ok1201 : rowOK 12 kr1201 = true := by
  have h : kc1201.all (rwOK 12 kr1201.1) = true := by
    simp only [kc1201, List.all_append, ok1201_0, ok1201_1, ok1201_2, ok1201_3, ok1201_4, ok1201_5, ok1201_6, ok1201_7, Bool.and_self]
  have h2 : hdOK 12 kr1201 = true := by decide +kernel
  unfold rowOK
  rw [h2, show kr1201.2.2.2 = kc1201 from rfl, h]
  rfl
theorem ok1300 : rowOK 13 kr1300 = true := by decide +kernel
theorem wo1300 : wrdOK 13 kr1300 = true := by decide +kernel
theorem ok1301 : rowOK 13 kr1301 = true := by decide +kernel
theorem wo1301 : wrdOK 13 kr1301 = true := by decide +kernel
theorem ok1302 : rowOK 13 kr1302 = true := by decide +kernel
theorem wo1302 : wrdOK 13 kr1302 = true := by decide +kernel
theorem ok1303 : rowOK 13 kr1303 = true := by decide +kernel
theorem wo1303 : wrdOK 13 kr1303 = true := by decide +kernel
theorem ok1400 : rowOK 14 kr1400 = true := by decide +kernel
theorem wo1400 : wrdOK 14 kr1400 = true := by decide +kernel
theorem ok1401 : rowOK 14 kr1401 = true := by decide +kernel
theorem wo1401 : wrdOK 14 kr1401 = true := by decide +kernel
theorem ok1402 : rowOK 14 kr1402 = true := by decide +kernel
theorem wo1402 : wrdOK 14 kr1402 = true := by decide +kernel
end
section
theorem okl0 : ∀ r ∈ kl0, rowOK 0 r = true := List.forall_mem_cons.mpr ⟨ok0, List.forall_mem_cons.mpr ⟨ok1, List.forall_mem_cons.mpr ⟨ok2, fun _ h => absurd h List.not_mem_nil⟩⟩⟩
theorem wol0 : ∀ r ∈ kl0, wrdOK 0 r = true := List.forall_mem_cons.mpr ⟨wo0, List.forall_mem_cons.mpr ⟨wo1, List.forall_mem_cons.mpr ⟨wo2, fun _ h => absurd h List.not_mem_nil⟩⟩⟩
theorem okl1 : ∀ r ∈ kl1, rowOK 1 r = true := List.forall_mem_cons.mpr ⟨ok100, List.forall_mem_cons.mpr ⟨ok101, List.forall_mem_cons.mpr ⟨ok102, List.forall_mem_cons.mpr ⟨ok103, List.forall_mem_cons.mpr ⟨ok104, List.forall_mem_cons.mpr ⟨ok105, List.forall_mem_cons.mpr ⟨ok106, List.forall_mem_cons.mpr ⟨ok107, List.forall_mem_cons.mpr ⟨ok108, fun _ h => absurd h List.not_mem_nil⟩⟩⟩⟩⟩⟩⟩⟩⟩
theorem wol1 : ∀ r ∈ kl1, wrdOK 1 r = true := List.forall_mem_cons.mpr ⟨wo100, List.forall_mem_cons.mpr ⟨wo101, List.forall_mem_cons.mpr ⟨wo102, List.forall_mem_cons.mpr ⟨wo103, List.forall_mem_cons.mpr ⟨wo104, List.forall_mem_cons.mpr ⟨wo105, List.forall_mem_cons.mpr ⟨wo106, List.forall_mem_cons.mpr ⟨wo107, List.forall_mem_cons.mpr ⟨wo108, fun _ h => absurd h List.not_mem_nil⟩⟩⟩⟩⟩⟩⟩⟩⟩
theorem okl2 : ∀ r ∈ kl2, rowOK 2 r = true := List.forall_mem_cons.mpr ⟨ok200, List.forall_mem_cons.mpr ⟨ok201, List.forall_mem_cons.mpr ⟨ok202, List.forall_mem_cons.mpr ⟨ok203, List.forall_mem_cons.mpr ⟨ok204, fun _ h => absurd h List.not_mem_nil⟩⟩⟩⟩⟩
theorem wol2 : ∀ r ∈ kl2, wrdOK 2 r = true := List.forall_mem_cons.mpr ⟨wo200, List.forall_mem_cons.mpr ⟨wo201, List.forall_mem_cons.mpr ⟨wo202, List.forall_mem_cons.mpr ⟨wo203, List.forall_mem_cons.mpr ⟨wo204, fun _ h => absurd h List.not_mem_nil⟩⟩⟩⟩⟩
theorem okl3 : ∀ r ∈ kl3, rowOK 3 r = true := List.forall_mem_cons.mpr ⟨ok300, List.forall_mem_cons.mpr ⟨ok301, List.forall_mem_cons.mpr ⟨ok302, List.forall_mem_cons.mpr ⟨ok303, List.forall_mem_cons.mpr ⟨ok304, List.forall_mem_cons.mpr ⟨ok305, List.forall_mem_cons.mpr ⟨ok306, List.forall_mem_cons.mpr ⟨ok307, List.forall_mem_cons.mpr ⟨ok308, List.forall_mem_cons.mpr ⟨ok309, List.forall_mem_cons.mpr ⟨ok310, List.forall_mem_cons.mpr ⟨ok311, List.forall_mem_cons.mpr ⟨ok312, fun _ h => absurd h List.not_mem_nil⟩⟩⟩⟩⟩⟩⟩⟩⟩⟩⟩⟩⟩
theorem wol3 : ∀ r ∈ kl3, wrdOK 3 r = true := List.forall_mem_cons.mpr ⟨wo300, List.forall_mem_cons.mpr ⟨wo301, List.forall_mem_cons.mpr ⟨wo302, List.forall_mem_cons.mpr ⟨wo303, List.forall_mem_cons.mpr ⟨wo304, List.forall_mem_cons.mpr ⟨wo305, List.forall_mem_cons.mpr ⟨wo306, List.forall_mem_cons.mpr ⟨wo307, List.forall_mem_cons.mpr ⟨wo308, List.forall_mem_cons.mpr ⟨wo309, List.forall_mem_cons.mpr ⟨wo310, List.forall_mem_cons.mpr ⟨wo311, List.forall_mem_cons.mpr ⟨wo312, fun _ h => absurd h List.not_mem_nil⟩⟩⟩⟩⟩⟩⟩⟩⟩⟩⟩⟩⟩
theorem okl4 : ∀ r ∈ kl4, rowOK 4 r = true := List.forall_mem_cons.mpr ⟨ok400, List.forall_mem_cons.mpr ⟨ok401, List.forall_mem_cons.mpr ⟨ok402, List.forall_mem_cons.mpr ⟨ok403, List.forall_mem_cons.mpr ⟨ok404, List.forall_mem_cons.mpr ⟨ok405, List.forall_mem_cons.mpr ⟨ok406, List.forall_mem_cons.mpr ⟨ok407, List.forall_mem_cons.mpr ⟨ok408, List.forall_mem_cons.mpr ⟨ok409, fun _ h => absurd h List.not_mem_nil⟩⟩⟩⟩⟩⟩⟩⟩⟩⟩
theorem wol4 : ∀ r ∈ kl4, wrdOK 4 r = true := List.forall_mem_cons.mpr ⟨wo400, List.forall_mem_cons.mpr ⟨wo401, List.forall_mem_cons.mpr ⟨wo402, List.forall_mem_cons.mpr ⟨wo403, List.forall_mem_cons.mpr ⟨wo404, List.forall_mem_cons.mpr ⟨wo405, List.forall_mem_cons.mpr ⟨wo406, List.forall_mem_cons.mpr ⟨wo407, List.forall_mem_cons.mpr ⟨wo408, List.forall_mem_cons.mpr ⟨wo409, fun _ h => absurd h List.not_mem_nil⟩⟩⟩⟩⟩⟩⟩⟩⟩⟩
theorem okl5 : ∀ r ∈ kl5, rowOK 5 r = true := List.forall_mem_cons.mpr ⟨ok500, List.forall_mem_cons.mpr ⟨ok501, List.forall_mem_cons.mpr ⟨ok502, List.forall_mem_cons.mpr ⟨ok503, List.forall_mem_cons.mpr ⟨ok504, List.forall_mem_cons.mpr ⟨ok505, List.forall_mem_cons.mpr ⟨ok506, List.forall_mem_cons.mpr ⟨ok507, List.forall_mem_cons.mpr ⟨ok508, List.forall_mem_cons.mpr ⟨ok509, List.forall_mem_cons.mpr ⟨ok510, List.forall_mem_cons.mpr ⟨ok511, List.forall_mem_cons.mpr ⟨ok512, List.forall_mem_cons.mpr ⟨ok513, List.forall_mem_cons.mpr ⟨ok514, fun _ h => absurd h List.not_mem_nil⟩⟩⟩⟩⟩⟩⟩⟩⟩⟩⟩⟩⟩⟩⟩
theorem wol5 : ∀ r ∈ kl5, wrdOK 5 r = true := List.forall_mem_cons.mpr ⟨wo500, List.forall_mem_cons.mpr ⟨wo501, List.forall_mem_cons.mpr ⟨wo502, List.forall_mem_cons.mpr ⟨wo503, List.forall_mem_cons.mpr ⟨wo504, List.forall_mem_cons.mpr ⟨wo505, List.forall_mem_cons.mpr ⟨wo506, List.forall_mem_cons.mpr ⟨wo507, List.forall_mem_cons.mpr ⟨wo508, List.forall_mem_cons.mpr ⟨wo509, List.forall_mem_cons.mpr ⟨wo510, List.forall_mem_cons.mpr ⟨wo511, List.forall_mem_cons.mpr ⟨wo512, List.forall_mem_cons.mpr ⟨wo513, List.forall_mem_cons.mpr ⟨wo514, fun _ h => absurd h List.not_mem_nil⟩⟩⟩⟩⟩⟩⟩⟩⟩⟩⟩⟩⟩⟩⟩
theorem okl6 : ∀ r ∈ kl6, rowOK 6 r = true := List.forall_mem_cons.mpr ⟨ok600, List.forall_mem_cons.mpr ⟨ok601, List.forall_mem_cons.mpr ⟨ok602, List.forall_mem_cons.mpr ⟨ok603, List.forall_mem_cons.mpr ⟨ok604, List.forall_mem_cons.mpr ⟨ok605, fun _ h => absurd h List.not_mem_nil⟩⟩⟩⟩⟩⟩
theorem wol6 : ∀ r ∈ kl6, wrdOK 6 r = true := List.forall_mem_cons.mpr ⟨wo600, List.forall_mem_cons.mpr ⟨wo601, List.forall_mem_cons.mpr ⟨wo602, List.forall_mem_cons.mpr ⟨wo603, List.forall_mem_cons.mpr ⟨wo604, List.forall_mem_cons.mpr ⟨wo605, fun _ h => absurd h List.not_mem_nil⟩⟩⟩⟩⟩⟩
theorem okl7 : ∀ r ∈ kl7, rowOK 7 r = true := List.forall_mem_cons.mpr ⟨ok700, List.forall_mem_cons.mpr ⟨ok701, List.forall_mem_cons.mpr ⟨ok702, List.forall_mem_cons.mpr ⟨ok703, List.forall_mem_cons.mpr ⟨ok704, fun _ h => absurd h List.not_mem_nil⟩⟩⟩⟩⟩
theorem wol7 : ∀ r ∈ kl7, wrdOK 7 r = true := List.forall_mem_cons.mpr ⟨wo700, List.forall_mem_cons.mpr ⟨wo701, List.forall_mem_cons.mpr ⟨wo702, List.forall_mem_cons.mpr ⟨wo703, List.forall_mem_cons.mpr ⟨wo704, fun _ h => absurd h List.not_mem_nil⟩⟩⟩⟩⟩
theorem okl8 : ∀ r ∈ kl8, rowOK 8 r = true := List.forall_mem_cons.mpr ⟨ok800, List.forall_mem_cons.mpr ⟨ok801, List.forall_mem_cons.mpr ⟨ok802, List.forall_mem_cons.mpr ⟨ok803, List.forall_mem_cons.mpr ⟨ok804, List.forall_mem_cons.mpr ⟨ok805, List.forall_mem_cons.mpr ⟨ok806, List.forall_mem_cons.mpr ⟨ok807, List.forall_mem_cons.mpr ⟨ok808, fun _ h => absurd h List.not_mem_nil⟩⟩⟩⟩⟩⟩⟩⟩⟩
theorem wol8 : ∀ r ∈ kl8, wrdOK 8 r = true := List.forall_mem_cons.mpr ⟨wo800, List.forall_mem_cons.mpr ⟨wo801, List.forall_mem_cons.mpr ⟨wo802, List.forall_mem_cons.mpr ⟨wo803, List.forall_mem_cons.mpr ⟨wo804, List.forall_mem_cons.mpr ⟨wo805, List.forall_mem_cons.mpr ⟨wo806, List.forall_mem_cons.mpr ⟨wo807, List.forall_mem_cons.mpr ⟨wo808, fun _ h => absurd h List.not_mem_nil⟩⟩⟩⟩⟩⟩⟩⟩⟩
theorem okl9 : ∀ r ∈ kl9, rowOK 9 r = true := List.forall_mem_cons.mpr ⟨ok900, List.forall_mem_cons.mpr ⟨ok901, fun _ h => absurd h List.not_mem_nil⟩⟩
theorem wol9 : ∀ r ∈ kl9, wrdOK 9 r = true := List.forall_mem_cons.mpr ⟨wo900, List.forall_mem_cons.mpr ⟨wo901, fun _ h => absurd h List.not_mem_nil⟩⟩
theorem okl10 : ∀ r ∈ kl10, rowOK 10 r = true := List.forall_mem_cons.mpr ⟨ok1000, List.forall_mem_cons.mpr ⟨ok1001, List.forall_mem_cons.mpr ⟨ok1002, List.forall_mem_cons.mpr ⟨ok1003, List.forall_mem_cons.mpr ⟨ok1004, List.forall_mem_cons.mpr ⟨ok1005, List.forall_mem_cons.mpr ⟨ok1006, List.forall_mem_cons.mpr ⟨ok1007, List.forall_mem_cons.mpr ⟨ok1008, List.forall_mem_cons.mpr ⟨ok1009, List.forall_mem_cons.mpr ⟨ok1010, List.forall_mem_cons.mpr ⟨ok1011, List.forall_mem_cons.mpr ⟨ok1012, List.forall_mem_cons.mpr ⟨ok1013, List.forall_mem_cons.mpr ⟨ok1014, List.forall_mem_cons.mpr ⟨ok1015, List.forall_mem_cons.mpr ⟨ok1016, List.forall_mem_cons.mpr ⟨ok1017, List.forall_mem_cons.mpr ⟨ok1018, List.forall_mem_cons.mpr ⟨ok1019, List.forall_mem_cons.mpr ⟨ok1020, List.forall_mem_cons.mpr ⟨ok1021, List.forall_mem_cons.mpr ⟨ok1022, List.forall_mem_cons.mpr ⟨ok1023, List.forall_mem_cons.mpr ⟨ok1024, List.forall_mem_cons.mpr ⟨ok1025, List.forall_mem_cons.mpr ⟨ok1026, List.forall_mem_cons.mpr ⟨ok1027, List.forall_mem_cons.mpr ⟨ok1028, List.forall_mem_cons.mpr ⟨ok1029, List.forall_mem_cons.mpr ⟨ok1030, List.forall_mem_cons.mpr ⟨ok1031, List.forall_mem_cons.mpr ⟨ok1032, List.forall_mem_cons.mpr ⟨ok1033, fun _ h => absurd h List.not_mem_nil⟩⟩⟩⟩⟩⟩⟩⟩⟩⟩⟩⟩⟩⟩⟩⟩⟩⟩⟩⟩⟩⟩⟩⟩⟩⟩⟩⟩⟩⟩⟩⟩⟩⟩
theorem wol10 : ∀ r ∈ kl10, wrdOK 10 r = true := List.forall_mem_cons.mpr ⟨wo1000, List.forall_mem_cons.mpr ⟨wo1001, List.forall_mem_cons.mpr ⟨wo1002, List.forall_mem_cons.mpr ⟨wo1003, List.forall_mem_cons.mpr ⟨wo1004, List.forall_mem_cons.mpr ⟨wo1005, List.forall_mem_cons.mpr ⟨wo1006, List.forall_mem_cons.mpr ⟨wo1007, List.forall_mem_cons.mpr ⟨wo1008, List.forall_mem_cons.mpr ⟨wo1009, List.forall_mem_cons.mpr ⟨wo1010, List.forall_mem_cons.mpr ⟨wo1011, List.forall_mem_cons.mpr ⟨wo1012, List.forall_mem_cons.mpr ⟨wo1013, List.forall_mem_cons.mpr ⟨wo1014, List.forall_mem_cons.mpr ⟨wo1015, List.forall_mem_cons.mpr ⟨wo1016, List.forall_mem_cons.mpr ⟨wo1017, List.forall_mem_cons.mpr ⟨wo1018, List.forall_mem_cons.mpr ⟨wo1019, List.forall_mem_cons.mpr ⟨wo1020, List.forall_mem_cons.mpr ⟨wo1021, List.forall_mem_cons.mpr ⟨wo1022, List.forall_mem_cons.mpr ⟨wo1023, List.forall_mem_cons.mpr ⟨wo1024, List.forall_mem_cons.mpr ⟨wo1025, List.forall_mem_cons.mpr ⟨wo1026, List.forall_mem_cons.mpr ⟨wo1027, List.forall_mem_cons.mpr ⟨wo1028, List.forall_mem_cons.mpr ⟨wo1029, List.forall_mem_cons.mpr ⟨wo1030, List.forall_mem_cons.mpr ⟨wo1031, List.forall_mem_cons.mpr ⟨wo1032, List.forall_mem_cons.mpr ⟨wo1033, fun _ h => absurd h List.not_mem_nil⟩⟩⟩⟩⟩⟩⟩⟩⟩⟩⟩⟩⟩⟩⟩⟩⟩⟩⟩⟩⟩⟩⟩⟩⟩⟩⟩⟩⟩⟩⟩⟩⟩⟩
theorem okl11 : ∀ r ∈ kl11, rowOK 11 r = true := List.forall_mem_cons.mpr ⟨ok1100, List.forall_mem_cons.mpr ⟨ok1101, List.forall_mem_cons.mpr ⟨ok1102, List.forall_mem_cons.mpr ⟨ok1103, List.forall_mem_cons.mpr ⟨ok1104, List.forall_mem_cons.mpr ⟨ok1105, List.forall_mem_cons.mpr ⟨ok1106, List.forall_mem_cons.mpr ⟨ok1107, List.forall_mem_cons.mpr ⟨ok1108, List.forall_mem_cons.mpr ⟨ok1109, List.forall_mem_cons.mpr ⟨ok1110, List.forall_mem_cons.mpr ⟨ok1111, List.forall_mem_cons.mpr ⟨ok1112, List.forall_mem_cons.mpr ⟨ok1113, List.forall_mem_cons.mpr ⟨ok1114, List.forall_mem_cons.mpr ⟨ok1115, List.forall_mem_cons.mpr ⟨ok1116, List.forall_mem_cons.mpr ⟨ok1117, List.forall_mem_cons.mpr ⟨ok1118, List.forall_mem_cons.mpr ⟨ok1119, List.forall_mem_cons.mpr ⟨ok1120, List.forall_mem_cons.mpr ⟨ok1121, List.forall_mem_cons.mpr ⟨ok1122, List.forall_mem_cons.mpr ⟨ok1123, List.forall_mem_cons.mpr ⟨ok1124, List.forall_mem_cons.mpr ⟨ok1125, List.forall_mem_cons.mpr ⟨ok1126, List.forall_mem_cons.mpr ⟨ok1127, List.forall_mem_cons.mpr ⟨ok1128, List.forall_mem_cons.mpr ⟨ok1129, List.forall_mem_cons.mpr ⟨ok1130, List.forall_mem_cons.mpr ⟨ok1131, List.forall_mem_cons.mpr ⟨ok1132, List.forall_mem_cons.mpr ⟨ok1133, List.forall_mem_cons.mpr ⟨ok1134, List.forall_mem_cons.mpr ⟨ok1135, List.forall_mem_cons.mpr ⟨ok1136, List.forall_mem_cons.mpr ⟨ok1137, List.forall_mem_cons.mpr ⟨ok1138, List.forall_mem_cons.mpr ⟨ok1139, List.forall_mem_cons.mpr ⟨ok1140, List.forall_mem_cons.mpr ⟨ok1141, List.forall_mem_cons.mpr ⟨ok1142, List.forall_mem_cons.mpr ⟨ok1143, List.forall_mem_cons.mpr ⟨ok1144, List.forall_mem_cons.mpr ⟨ok1145, List.forall_mem_cons.mpr ⟨ok1146, List.forall_mem_cons.mpr ⟨ok1147, List.forall_mem_cons.mpr ⟨ok1148, List.forall_mem_cons.mpr ⟨ok1149, List.forall_mem_cons.mpr ⟨ok1150, List.forall_mem_cons.mpr ⟨ok1151, List.forall_mem_cons.mpr ⟨ok1152, List.forall_mem_cons.mpr ⟨ok1153, List.forall_mem_cons.mpr ⟨ok1154, List.forall_mem_cons.mpr ⟨ok1155, List.forall_mem_cons.mpr ⟨ok1156, List.forall_mem_cons.mpr ⟨ok1157, List.forall_mem_cons.mpr ⟨ok1158, List.forall_mem_cons.mpr ⟨ok1159, List.forall_mem_cons.mpr ⟨ok1160, List.forall_mem_cons.mpr ⟨ok1161, List.forall_mem_cons.mpr ⟨ok1162, List.forall_mem_cons.mpr ⟨ok1163, List.forall_mem_cons.mpr ⟨ok1164, fun _ h => absurd h List.not_mem_nil⟩⟩⟩⟩⟩⟩⟩⟩⟩⟩⟩⟩⟩⟩⟩⟩⟩⟩⟩⟩⟩⟩⟩⟩⟩⟩⟩⟩⟩⟩⟩⟩⟩⟩⟩⟩⟩⟩⟩⟩⟩⟩⟩⟩⟩⟩⟩⟩⟩⟩⟩⟩⟩⟩⟩⟩⟩⟩⟩⟩⟩⟩⟩⟩⟩
theorem wol11 : ∀ r ∈ kl11, wrdOK 11 r = true := List.forall_mem_cons.mpr ⟨wo1100, List.forall_mem_cons.mpr ⟨wo1101, List.forall_mem_cons.mpr ⟨wo1102, List.forall_mem_cons.mpr ⟨wo1103, List.forall_mem_cons.mpr ⟨wo1104, List.forall_mem_cons.mpr ⟨wo1105, List.forall_mem_cons.mpr ⟨wo1106, List.forall_mem_cons.mpr ⟨wo1107, List.forall_mem_cons.mpr ⟨wo1108, List.forall_mem_cons.mpr ⟨wo1109, List.forall_mem_cons.mpr ⟨wo1110, List.forall_mem_cons.mpr ⟨wo1111, List.forall_mem_cons.mpr ⟨wo1112, List.forall_mem_cons.mpr ⟨wo1113, List.forall_mem_cons.mpr ⟨wo1114, List.forall_mem_cons.mpr ⟨wo1115, List.forall_mem_cons.mpr ⟨wo1116, List.forall_mem_cons.mpr ⟨wo1117, List.forall_mem_cons.mpr ⟨wo1118, List.forall_mem_cons.mpr ⟨wo1119, List.forall_mem_cons.mpr ⟨wo1120, List.forall_mem_cons.mpr ⟨wo1121, List.forall_mem_cons.mpr ⟨wo1122, List.forall_mem_cons.mpr ⟨wo1123, List.forall_mem_cons.mpr ⟨wo1124, List.forall_mem_cons.mpr ⟨wo1125, List.forall_mem_cons.mpr ⟨wo1126, List.forall_mem_cons.mpr ⟨wo1127, List.forall_mem_cons.mpr ⟨wo1128, List.forall_mem_cons.mpr ⟨wo1129, List.forall_mem_cons.mpr ⟨wo1130, List.forall_mem_cons.mpr ⟨wo1131, List.forall_mem_cons.mpr ⟨wo1132, List.forall_mem_cons.mpr ⟨wo1133, List.forall_mem_cons.mpr ⟨wo1134, List.forall_mem_cons.mpr ⟨wo1135, List.forall_mem_cons.mpr ⟨wo1136, List.forall_mem_cons.mpr ⟨wo1137, List.forall_mem_cons.mpr ⟨wo1138, List.forall_mem_cons.mpr ⟨wo1139, List.forall_mem_cons.mpr ⟨wo1140, List.forall_mem_cons.mpr ⟨wo1141, List.forall_mem_cons.mpr ⟨wo1142, List.forall_mem_cons.mpr ⟨wo1143, List.forall_mem_cons.mpr ⟨wo1144, List.forall_mem_cons.mpr ⟨wo1145, List.forall_mem_cons.mpr ⟨wo1146, List.forall_mem_cons.mpr ⟨wo1147, List.forall_mem_cons.mpr ⟨wo1148, List.forall_mem_cons.mpr ⟨wo1149, List.forall_mem_cons.mpr ⟨wo1150, List.forall_mem_cons.mpr ⟨wo1151, List.forall_mem_cons.mpr ⟨wo1152, List.forall_mem_cons.mpr ⟨wo1153, List.forall_mem_cons.mpr ⟨wo1154, List.forall_mem_cons.mpr ⟨wo1155, List.forall_mem_cons.mpr ⟨wo1156, List.forall_mem_cons.mpr ⟨wo1157, List.forall_mem_cons.mpr ⟨wo1158, List.forall_mem_cons.mpr ⟨wo1159, List.forall_mem_cons.mpr ⟨wo1160, List.forall_mem_cons.mpr ⟨wo1161, List.forall_mem_cons.mpr ⟨wo1162, List.forall_mem_cons.mpr ⟨wo1163, List.forall_mem_cons.mpr ⟨wo1164, fun _ h => absurd h List.not_mem_nil⟩⟩⟩⟩⟩⟩⟩⟩⟩⟩⟩⟩⟩⟩⟩⟩⟩⟩⟩⟩⟩⟩⟩⟩⟩⟩⟩⟩⟩⟩⟩⟩⟩⟩⟩⟩⟩⟩⟩⟩⟩⟩⟩⟩⟩⟩⟩⟩⟩⟩⟩⟩⟩⟩⟩⟩⟩⟩⟩⟩⟩⟩⟩⟩⟩
theorem okl12 : ∀ r ∈ kl12, rowOK 12 r = true := List.forall_mem_cons.mpr ⟨ok1200, List.forall_mem_cons.mpr ⟨ok1201, fun _ h => absurd h List.not_mem_nil⟩⟩
theorem okl13 : ∀ r ∈ kl13, rowOK 13 r = true := List.forall_mem_cons.mpr ⟨ok1300, List.forall_mem_cons.mpr ⟨ok1301, List.forall_mem_cons.mpr ⟨ok1302, List.forall_mem_cons.mpr ⟨ok1303, fun _ h => absurd h List.not_mem_nil⟩⟩⟩⟩
theorem wol13 : ∀ r ∈ kl13, wrdOK 13 r = true := List.forall_mem_cons.mpr ⟨wo1300, List.forall_mem_cons.mpr ⟨wo1301, List.forall_mem_cons.mpr ⟨wo1302, List.forall_mem_cons.mpr ⟨wo1303, fun _ h => absurd h List.not_mem_nil⟩⟩⟩⟩
theorem okl14 : ∀ r ∈ kl14, rowOK 14 r = true := List.forall_mem_cons.mpr ⟨ok1400, List.forall_mem_cons.mpr ⟨ok1401, List.forall_mem_cons.mpr ⟨ok1402, fun _ h => absurd h List.not_mem_nil⟩⟩⟩
theorem wol14 : ∀ r ∈ kl14, wrdOK 14 r = true := List.forall_mem_cons.mpr ⟨wo1400, List.forall_mem_cons.mpr ⟨wo1401, List.forall_mem_cons.mpr ⟨wo1402, fun _ h => absurd h List.not_mem_nil⟩⟩⟩
theorem lF_ok : lF.all (fun w => decide (lw_tbl[w.2.2.2]? = some (.fieldLink (cN w.1) w.2.1 (TF (w.2.2.1 / 100) (w.2.2.1 % 100)).1 (TF (w.2.2.1 / 100) (w.2.2.1 % 100)).2.1 (TF (w.2.2.1 / 100) (w.2.2.1 % 100)).2.2.1))) = true := by decide +kernel
theorem lM_ok : lM.all (fun w => decide ((mT w.2.2.1).bind (fun r => lw_tbl[w.2.2.2]?.bind fun z => if z = .methodLink (cN w.1) w.2.1 r.1.1 then some true else none) = some true)) = true := by decide +kernel
theorem lV_ok : lV.all (fun w => decide ((mT w.2.2.1).bind (fun r => lw_tbl[w.2.2.2]?.bind fun z => if z = .methodLinkNest (cN w.1) w.2.1 r.1.1 "LightPlate" then some true else none) = some true)) = true := by decide +kernel
theorem lC_ok : lC.all (fun w => decide (lw_tbl[w.2.2.2]? = some (.classLink (cN w.1) w.2.1 (cN w.2.2.1)))) = true := by decide +kernel
theorem lL_ok : lL.all (fun w => decide (lw_tbl[w.2.2.2]? = some (.constantLong (cN w.1) w.2.1 (Int64.ofInt w.2.2.1)))) = true := by decide +kernel
theorem lO_ok : lO.all (fun w => decide (lw_tbl[w.2.2]? = some (.methodLink (cN w.1) w.2.1 objectInit))) = true := by decide +kernel
theorem lY_ok : lY.all (fun w => decide (lw_tbl[w.2.2]? = some (.methodLink (cN w.1) w.2.1 ⟨"java/lang/System", "arraycopy", "(Ljava/lang/Object;ILjava/lang/Object;II)V"⟩))) = true := by decide +kernel
theorem lW_ok : lW.all (fun w => decide (lw_tbl[w.2.2]? = some (.classLink (cN w.1) w.2.1 "[[I"))) = true := by decide +kernel
end
section
/-! A PLAIN MACHINE: whole numbers as Int, cells by numbers of our own; one step of it, and its runs. Section by section: values, memory, steps, runs. -/
abbrev XV : Type := Int ⊕ (Int ⊕ (Nat ⊕ Unit))
abbrev xI (x : Int) : XV := Sum.inl x
abbrev xL (x : Int) : XV := Sum.inr (Sum.inl x)
abbrev xR (a : Nat) : XV := Sum.inr (Sum.inr (Sum.inl a))
abbrev xU : XV := Sum.inr (Sum.inr (Sum.inr ()))
/-- what stands still: kinds and lengths, references, cells and slots made, which number the next cell gets -/
abbrev XG : Type := (Nat → Nat × Nat) × (Nat → Int → Option Nat) × Nat × Nat × (Nat → Nat)
abbrev XM : Type := (Nat → Int → Int) × XG
abbrev XO : Type := Option (Option XV × XM)
abbrev XR : Type := (List XV × List XV × XM) ⊕ ((Nat × List XV × List XV × XM) ⊕ ((Option XV × XM) ⊕ (Nat × List XV × List XV × List XV × XM)))
def vA (V : Nat → Int → Int) (a : Nat) (f : Int → Int) : Nat → Int → Int := fun b => if b = a then f else V b
def vU (f : Int → Int) (i : Int) (x : Int) : Int → Int := fun j => if j = i then x else f j
/-- one new cell a of a kind -/
def gN (G : XG) (a : Nat) (sh : Nat × Nat) (n : Nat) : XG := (fun b => if b = a then sh else G.1 b, fun b => if b = a then fun _ => none else G.2.1 b, G.2.2.1 + 1, G.2.2.2.1 + n, G.2.2.2.2)
def gR (G : XG) (a : Nat) (i : Int) (b : Nat) : XG := (G.1, fun c => if c = a then (fun j => if j = i then some b else G.2.1 a j) else G.2.1 c, G.2.2)
def b32 (f : Int32 → Int32 → Int32) (x y : Int) : Int := (f (Int32.ofInt x) (Int32.ofInt y)).toInt
def b64 (f : Int64 → Int64 → Int64) (x y : Int) : Int := (f (Int64.ofInt x) (Int64.ofInt y)).toInt
def s64 (f : Int64 → Int32 → Int64) (x y : Int) : Int := (f (Int64.ofInt x) (Int32.ofInt y)).toInt
abbrev rN (ls st : List XV) (μ : XM) : Option XR := some (.inl (ls, st, μ))
abbrev rG (t : Nat) (ls st : List XV) (μ : XM) : Option XR := some (.inr (.inl (t, ls, st, μ)))
abbrev rT (v : Option XV) (μ : XM) : Option XR := some (.inr (.inr (.inl (v, μ))))
abbrev rC (mj : Nat) (as ls st : List XV) (μ : XM) : Option XR := some (.inr (.inr (.inr (mj, as, ls, st, μ))))
def ldI (ls : List XV) (i : Nat) (k : Int → Option XR) : Option XR := match ls[i]? with
  | some (.inl x) => k x
  | _ => none
def ldL (ls : List XV) (i : Nat) (k : Int → Option XR) : Option XR := match ls[i]? with
  | some (.inr (.inl x)) => k x
  | _ => none
def ldA (ls : List XV) (i : Nat) (k : Nat → Option XR) : Option XR := match ls[i]? with
  | some (.inr (.inr (.inl x))) => k x
  | _ => none
/-- a long lies just below place i -/
def lgB (ls : List XV) (i : Nat) : Bool := match i with
  | 0 => false
  | j + 1 => match ls[j]? with
    | some (.inr (.inl _)) => true
    | _ => false
def st1 (ls : List XV) (i : Nat) (v : XV) (k : List XV → Option XR) : Option XR := if i < ls.length ∧ lgB ls i = false then k (ls.set i v) else none
def st2 (ls : List XV) (i : Nat) (v : XV) (k : List XV → Option XR) : Option XR := if i + 1 < ls.length ∧ lgB ls i = false then k ((ls.set i v).set (i + 1) xU) else none
def tI (st : List XV) (k : Int → List XV → Option XR) : Option XR := match st with
  | .inl x :: st => k x st
  | _ => none
def tL (st : List XV) (k : Int → List XV → Option XR) : Option XR := match st with
  | .inr (.inl x) :: st => k x st
  | _ => none
def tA (st : List XV) (k : Nat → List XV → Option XR) : Option XR := match st with
  | .inr (.inr (.inl x)) :: st => k x st
  | _ => none
def bI (st : List XV) (k : Int → Int → List XV → Option XR) : Option XR := tI st fun y st => tI st fun x st => k x y st
def bL (st : List XV) (k : Int → Int → List XV → Option XR) : Option XR := tL st fun y st => tL st fun x st => k x y st
def c1 (v : XV) : Bool := match v with
  | .inl _ => true
  | .inr (.inr (.inl _)) => true
  | _ => false
def br (c : ClassFile.Cond) (x y : Int) (a b : Option XR) : Option XR := match c with
  | .eq => if x = y then a else b
  | .ne => if x = y then b else a
  | .lt => if x < y then a else b
  | .ge => if y ≤ x then a else b
  | .gt => if y < x then a else b
  | .le => if x ≤ y then a else b
def lkp : List (Int × Int) → Int → Int → Int
  | [], d, _ => d
  | q :: l, d, x => if x = q.1 then q.2 else lkp l d x
def xw (v : XV) : List XV := match v with
  | .inr (.inl x) => [xL x, xU]
  | v => [v]
-- ft: the types of fields by class and slot: 0 int, 1 boolean, 2 long, 3 a reference; np: how many arguments a method takes; co: how many fields a class has. Methods are numbered 100 * class + place
section XSteps

/-- one step. Codes are resolved: fields as 100 * class + slot, classes and methods by our numbers, jumps by their targets; jsr_w: a long constant; monitorexit: Object's constructor; monitorenter: System.arraycopy of ints; freturn: the return of a boolean -/
def xs (i : Instr) (ls st : List XV) (μ : XM) : Option XR := match i with
  | .iconst n => rN ls (xI n :: st) μ
  | .bipush n => rN ls (xI n :: st) μ
  | .sipush n => rN ls (xI n :: st) μ
  | .lconst n => rN ls (xL (n.val : Nat) :: st) μ
  | .jsr_w v => rN ls (xL v :: st) μ
  | .iload_n k => ldI ls k.val fun x => rN ls (xI x :: st) μ
  | .iload k => ldI ls k fun x => rN ls (xI x :: st) μ
  | .lload_n k => ldL ls k.val fun x => rN ls (xL x :: st) μ
  | .lload k => ldL ls k fun x => rN ls (xL x :: st) μ
  | .aload_n k => ldA ls k.val fun x => rN ls (xR x :: st) μ
  | .aload k => ldA ls k fun x => rN ls (xR x :: st) μ
  | .istore_n k => tI st fun x st => st1 ls k.val (xI x) fun ls => rN ls st μ
  | .istore k => tI st fun x st => st1 ls k (xI x) fun ls => rN ls st μ
  | .astore_n k => tA st fun x st => st1 ls k.val (xR x) fun ls => rN ls st μ
  | .astore k => tA st fun x st => st1 ls k (xR x) fun ls => rN ls st μ
  | .lstore_n k => tL st fun x st => st2 ls k.val (xL x) fun ls => rN ls st μ
  | .lstore k => tL st fun x st => st2 ls k (xL x) fun ls => rN ls st μ
  | .iinc k n => ldI ls k fun x => if i32 (x + n) then st1 ls k (xI (x + n)) fun ls => rN ls st μ else none
  | .iadd => bI st fun x y st => if i32 (x + y) then rN ls (xI (x + y) :: st) μ else none
  | .isub => bI st fun x y st => if i32 (x - y) then rN ls (xI (x - y) :: st) μ else none
  | .imul => bI st fun x y st => if i32 (x * y) then rN ls (xI (x * y) :: st) μ else none
  | .idiv => bI st fun x y st => if 0 < y then rN ls (xI (x.tdiv y) :: st) μ else none
  | .irem => bI st fun x y st => if 0 < y then rN ls (xI (x.tmod y) :: st) μ else none
  | .ineg => tI st fun x st => if i32 (-x) then rN ls (xI (-x) :: st) μ else none
  | .iand => bI st fun x y st => rN ls (xI (b32 (fun a b => a &&& b) x y) :: st) μ
  | .ior => bI st fun x y st => rN ls (xI (b32 (fun a b => a ||| b) x y) :: st) μ
  | .ixor => bI st fun x y st => rN ls (xI (b32 (fun a b => a ^^^ b) x y) :: st) μ
  | .ishl => bI st fun x y st => rN ls (xI (b32 (fun a b => a <<< (b &&& 31)) x y) :: st) μ
  | .ishr => bI st fun x y st => rN ls (xI (b32 (fun a b => a >>> (b &&& 31)) x y) :: st) μ
  | .i2l => tI st fun x st => rN ls (xL x :: st) μ
  | .l2i => tL st fun x st => rN ls (xI (Int64.ofInt x).toInt32.toInt :: st) μ
  | .lmul => bL st fun x y st => if i64 (x * y) then rN ls (xL (x * y) :: st) μ else none
  | .ldiv => bL st fun x y st => if 0 < y then rN ls (xL (x.tdiv y) :: st) μ else none
  | .lrem => bL st fun x y st => if 0 < y then rN ls (xL (x.tmod y) :: st) μ else none
  | .land => bL st fun x y st => rN ls (xL (b64 (fun a b => a &&& b) x y) :: st) μ
  | .lor => bL st fun x y st => rN ls (xL (b64 (fun a b => a ||| b) x y) :: st) μ
  | .lshl => tI st fun y st => tL st fun x st => rN ls (xL (s64 (fun a b => a <<< (b.toInt64 &&& 63)) x y) :: st) μ
  | .lshr => tI st fun y st => tL st fun x st => rN ls (xL (s64 (fun a b => a >>> (b.toInt64 &&& 63)) x y) :: st) μ
  | .lushr => tI st fun y st => tL st fun x st => rN ls (xL (s64 (fun a b => (a.toUInt64 >>> (b.toInt64.toUInt64 &&& Int64.toUInt64 63)).toInt64) x y) :: st) μ
  | .lcmp => bL st fun x y st => rN ls (xI (if x < y then -1 else if x = y then 0 else 1) :: st) μ
  | .dup => match st with
    | v :: st => if c1 v then rN ls (v :: v :: st) μ else none
    | _ => none
  | .dup_x1 => match st with
    | v :: w :: st => if c1 v && c1 w then rN ls (v :: w :: v :: st) μ else none
    | _ => none
  | .dup2 => match st with
    | v :: w :: st => if c1 v && c1 w then rN ls (v :: w :: v :: w :: st) μ else none
    | _ => none
  | .ifCond c t => tI st fun x st => br c x 0 (rG t.toNat ls st μ) (rN ls st μ)
  | .if_icmp c t => bI st fun x y st => br c x y (rG t.toNat ls st μ) (rN ls st μ)
  | .goto t => rG t.toNat ls st μ
  | .tableswitch d lo hi offs => tI st fun x st => if x < lo ∨ hi < x then rG d.toNat ls st μ else match offs[(x - lo).toNat]? with
    | some t => rG t.toNat ls st μ
    | none => none
  | .lookupswitch d ps => tI st fun x st => rG (lkp ps.toList d x).toNat ls st μ
  | .ireturn => match st with
    | [.inl x] => rT (some (xI x)) μ
    | _ => none
  | .freturn => match st with
    | [.inl x] => if x = 0 ∨ x = 1 then rT (some (xI x)) μ else none
    | _ => none
  | .areturn => match st with
    | [.inr (.inr (.inl a))] => rT (some (xR a)) μ
    | _ => none
  | .return_ => match st with
    | [] => rT none μ
    | _ => none
  | .arraylength => tA st fun a st => if ((μ.2.1 a).1 = 1 ∨ (μ.2.1 a).1 = 3 ∨ (μ.2.1 a).1 = 9) ∧ (μ.2.1 a).2 ≤ 100000 then rN ls (xI ((μ.2.1 a).2 : Nat) :: st) μ else none
  | .iaload => tI st fun j st => tA st fun a st => if ((μ.2.1 a).1 = 1 ∨ (μ.2.1 a).1 = 9) ∧ 0 ≤ j ∧ j < ((μ.2.1 a).2 : Nat) then rN ls (xI (μ.1 a j) :: st) μ else none
  | .baload => tI st fun j st => tA st fun a st => if (μ.2.1 a).1 = 2 ∧ 0 ≤ j ∧ j < ((μ.2.1 a).2 : Nat) then rN ls (xI (μ.1 a j) :: st) μ else none
  | .laload => tI st fun j st => tA st fun a st => if (μ.2.1 a).1 = 3 ∧ 0 ≤ j ∧ j < ((μ.2.1 a).2 : Nat) then rN ls (xL (μ.1 a j) :: st) μ else none
  | .aaload => tI st fun j st => tA st fun a st => if ((μ.2.1 a).1 = 4 ∨ (μ.2.1 a).1 = 5) ∧ 0 ≤ j ∧ j < ((μ.2.1 a).2 : Nat) then (match μ.2.2.1 a j with
    | some b => rN ls (xR b :: st) μ
    | none => none) else none
  | .iastore => tI st fun x st => tI st fun j st => tA st fun a st => if (μ.2.1 a).1 = 1 ∧ 0 ≤ j ∧ j < ((μ.2.1 a).2 : Nat) then rN ls st (vA μ.1 a (vU (μ.1 a) j x), μ.2) else none
  | .bastore => tI st fun x st => tI st fun j st => tA st fun a st => if ((μ.2.1 a).1 = 2 ∧ (x = 0 ∨ x = 1)) ∧ 0 ≤ j ∧ j < ((μ.2.1 a).2 : Nat) then rN ls st (vA μ.1 a (vU (μ.1 a) j x), μ.2) else none
  | .lastore => tL st fun x st => tI st fun j st => tA st fun a st => if (μ.2.1 a).1 = 3 ∧ 0 ≤ j ∧ j < ((μ.2.1 a).2 : Nat) then rN ls st (vA μ.1 a (vU (μ.1 a) j x), μ.2) else none
  | .aastore => tA st fun b st => tI st fun j st => tA st fun a st => if ((μ.2.1 a).1 = 5 ∧ (μ.2.1 b).1 = 16) ∧ 0 ≤ j ∧ j < ((μ.2.1 a).2 : Nat) then rN ls st (μ.1, gR μ.2 a j b) else none
  | .getfield q => tA st fun a st => if (μ.2.1 a).1 = 10 + q / 100 then (if fT (q / 100) (q % 100) = 0 ∨ fT (q / 100) (q % 100) = 1 then rN ls (xI (μ.1 a ((q % 100 : Nat) : Int)) :: st) μ
      else if fT (q / 100) (q % 100) = 2 then rN ls (xL (μ.1 a ((q % 100 : Nat) : Int)) :: st) μ
      else if fT (q / 100) (q % 100) = 3 then (match μ.2.2.1 a ((q % 100 : Nat) : Int) with
        | some b => rN ls (xR b :: st) μ
        | none => none) else none) else none
  | .putfield q => if fT (q / 100) (q % 100) = 0 then tI st fun x st => tA st fun a st => (if (μ.2.1 a).1 = 10 + q / 100 then rN ls st (vA μ.1 a (vU (μ.1 a) ((q % 100 : Nat) : Int) x), μ.2) else none)
      else if fT (q / 100) (q % 100) = 1 then tI st fun x st => tA st fun a st => (if (μ.2.1 a).1 = 10 + q / 100 ∧ (x = 0 ∨ x = 1) then rN ls st (vA μ.1 a (vU (μ.1 a) ((q % 100 : Nat) : Int) x), μ.2) else none)
      else if fT (q / 100) (q % 100) = 2 then tL st fun x st => tA st fun a st => (if (μ.2.1 a).1 = 10 + q / 100 then rN ls st (vA μ.1 a (vU (μ.1 a) ((q % 100 : Nat) : Int) x), μ.2) else none)
      else if fT (q / 100) (q % 100) = 3 then tA st fun b st => tA st fun a st => (if (μ.2.1 a).1 = 10 + q / 100 then rN ls st (μ.1, gR μ.2 a ((q % 100 : Nat) : Int) b) else none)
      else none
  | .new c => rN ls (xR (μ.2.2.2.2.2 μ.2.2.2.1) :: st) (vA μ.1 (μ.2.2.2.2.2 μ.2.2.2.1) (fun _ => 0), gN μ.2 (μ.2.2.2.2.2 μ.2.2.2.1) (10 + c, 0) (cO c))
  | .newarray ty => tI st fun n st => if 0 ≤ n ∧ n ≤ 100000 then rN ls (xR (μ.2.2.2.2.2 μ.2.2.2.1) :: st) (vA μ.1 (μ.2.2.2.2.2 μ.2.2.2.1) (fun _ => 0), gN μ.2 (μ.2.2.2.2.2 μ.2.2.2.1) ((match ty with
    | .int => 1
    | .boolean => 2
    | .long => 3
    | _ => 7), n.toNat) n.toNat) else none
  | .anewarray _ => tI st fun n st => if 0 ≤ n ∧ n ≤ 100000 then rN ls (xR (μ.2.2.2.2.2 μ.2.2.2.1) :: st) (vA μ.1 (μ.2.2.2.2.2 μ.2.2.2.1) (fun _ => 0), gN μ.2 (μ.2.2.2.2.2 μ.2.2.2.1) (5, n.toNat) n.toNat) else none
  | .multianewarray _ _ => bI st fun n k st => if (0 ≤ n ∧ n ≤ 10000) ∧ (0 ≤ k ∧ k ≤ 10000) then rN ls (xR (μ.2.2.2.2.2 μ.2.2.2.1) :: st)
      (fun b => if (List.range (1 + n.toNat)).any (fun j => b == μ.2.2.2.2.2 (μ.2.2.2.1 + j)) then fun _ => 0 else μ.1 b,
       fun b => if b = μ.2.2.2.2.2 μ.2.2.2.1 then (4, n.toNat) else if (List.range n.toNat).any (fun j => b == μ.2.2.2.2.2 (μ.2.2.2.1 + 1 + j)) then (1, k.toNat) else μ.2.1 b,
       fun b => if b = μ.2.2.2.2.2 μ.2.2.2.1 then (fun j => if 0 ≤ j ∧ j < n then some (μ.2.2.2.2.2 (μ.2.2.2.1 + 1 + j.toNat)) else none) else μ.2.2.1 b,
       μ.2.2.2.1 + 1 + n.toNat, μ.2.2.2.2.1 + n.toNat + n.toNat * k.toNat, μ.2.2.2.2.2) else none
  | .invokevirtual q => if nP q ≤ st.length ∧ (st.drop (nP q)).length ≤ 4 ∧ ((st.take (nP q)).reverse.flatMap xw).length ≤ mL q then (match (st.take (nP q)).reverse with
    | .inr (.inr (.inl a)) :: as => if (μ.2.1 a).1 = 10 + q / 100 then rC q (xR a :: as) ls (st.drop (nP q)) μ else none
    | _ => none) else none
  | .invokespecial q => if nP q ≤ st.length ∧ (st.drop (nP q)).length ≤ 4 ∧ ((st.take (nP q)).reverse.flatMap xw).length ≤ mL q then (match (st.take (nP q)).reverse with
    | .inr (.inr (.inl a)) :: as => rC q (xR a :: as) ls (st.drop (nP q)) μ
    | _ => none) else none
  | .invokestatic q => if nP q ≤ st.length ∧ (st.drop (nP q)).length ≤ 4 ∧ ((st.take (nP q)).reverse.flatMap xw).length ≤ mL q then rC q (st.take (nP q)).reverse ls (st.drop (nP q)) μ else none
  | .monitorexit => tA st fun _ st => if st.length ≤ 4 then rN ls st μ else none
  | .monitorenter => tI st fun n st => tI st fun dp st => tA st fun a st => tI st fun sp st => tA st fun b st => if ((μ.2.1 a).1 = 1 ∧ (μ.2.1 b).1 = 1 ∧ a ≠ b) ∧ (0 ≤ n ∧ 0 ≤ sp ∧ 0 ≤ dp) ∧ sp + n ≤ ((μ.2.1 b).2 : Nat) ∧ dp + n ≤ ((μ.2.1 a).2 : Nat) ∧ st.length ≤ 4
      then rN ls st (vA μ.1 a (fun j => if dp ≤ j ∧ j < dp + n then μ.1 b (sp + (j - dp)) else μ.1 a j), μ.2) else none
  | _ => none
end XSteps
end
section
/-! RUNS of the plain machine: by steps (ex), to their end (run), and by blocks (bx). -/
/-- the locals with which method q begins -/
def en (q : Nat) (as : List XV) : List XV := as.flatMap xw ++ List.replicate (mL q - (as.flatMap xw).length) xU
def xst (K : Nat → Nat → Nat → List XV → List XV → XM → XO) (d q pc : Nat) (ls st : List XV) (μ : XM) : XO := match cd q pc with
  | none => none
  | some w => match xs w.1 ls st μ with
    | none => none
    | some (.inl r) => K d q (pc + w.2) r.1 r.2.1 r.2.2
    | some (.inr (.inl r)) => K d q r.1 r.2.1 r.2.2.1 r.2.2.2
    | some (.inr (.inr (.inl r))) => some r
    | some (.inr (.inr (.inr r))) => match d with
      | 0 => none
      | d' + 1 => match K d' r.1 0 (en r.1 r.2.1) [] r.2.2.2.2 with
        | none => none
        | some o => K (d' + 1) q (pc + w.2) r.2.2.1 (o.1.toList ++ r.2.2.2.1) o.2
def ex : Nat → Nat → Nat → Nat → List XV → List XV → XM → XO
  | 0 => fun _ _ _ _ _ _ => none
  | f + 1 => xst (ex f)
theorem xst_mono {K K' : Nat → Nat → Nat → List XV → List XV → XM → XO} (h : ∀ d q pc ls st μ r, K d q pc ls st μ = some r → K' d q pc ls st μ = some r) {d q pc : Nat} {ls st : List XV} {μ : XM} {r : Option XV × XM} (hr : xst K d q pc ls st μ = some r) : xst K' d q pc ls st μ = some r := by
  unfold xst at hr ⊢
  cases hc : cd q pc with
  | none => rw [hc] at hr; cases hr
  | some w =>
    rw [hc] at hr
    simp only at hr ⊢
    cases hx : xs w.1 ls st μ with
    | none => rw [hx] at hr; cases hr
    | some z =>
      rw [hx] at hr
      rcases z with z | z | z | z
      · exact h _ _ _ _ _ _ _ hr
      · exact h _ _ _ _ _ _ _ hr
      · exact hr
      · simp only at hr ⊢
        cases d with
        | zero => cases hr
        | succ d =>
          simp only at hr ⊢
          cases hk : K d z.1 0 (en z.1 z.2.1) [] z.2.2.2.2 with
          | none => rw [hk] at hr; cases hr
          | some o =>
            rw [hk] at hr
            rw [h _ _ _ _ _ _ _ hk]
            exact h _ _ _ _ _ _ _ hr
theorem ex_step (f : Nat) : ∀ d q pc ls st μ r, ex f d q pc ls st μ = some r → ex (f + 1) d q pc ls st μ = some r := by
  induction f with
  | zero => intro d q pc ls st μ r h; cases h
  | succ f ih => intro d q pc ls st μ r h; exact xst_mono ih h
theorem ex_le {f g : Nat} (h : f ≤ g) {d q pc : Nat} {ls st : List XV} {μ : XM} {r : Option XV × XM} (hr : ex f d q pc ls st μ = some r) : ex g d q pc ls st μ = some r := by
  induction h with
  | refl => exact hr
  | step _ ih => exact ex_step _ _ _ _ _ _ _ _ ih
theorem ex_one {f g d q pc : Nat} {ls st : List XV} {μ : XM} {r r' : Option XV × XM} (h : ex f d q pc ls st μ = some r) (h' : ex g d q pc ls st μ = some r') : r = r' := by
  have h1 := ex_le (Nat.le_max_left f g) h
  have h2 := ex_le (Nat.le_max_right f g) h'
  exact Option.some.inj (h1.symm.trans h2)
noncomputable def run (d q pc : Nat) (ls st : List XV) (μ : XM) : XO := @dite _ (∃ r, ∃ f, ex f d q pc ls st μ = some r) (Classical.propDecidable _) (fun h => some h.choose) (fun _ => none)
theorem run_iff {d q pc : Nat} {ls st : List XV} {μ : XM} {r : Option XV × XM} : run d q pc ls st μ = some r ↔ ∃ f, ex f d q pc ls st μ = some r := by
  unfold run
  by_cases h : ∃ r, ∃ f, ex f d q pc ls st μ = some r
  · rw [dif_pos h]
    constructor
    · intro e
      have e' := Option.some.inj e
      exact e' ▸ h.choose_spec
    · rintro ⟨f, hf⟩
      obtain ⟨g, hg⟩ := h.choose_spec
      exact congrArg some (ex_one hg hf)
  · rw [dif_neg h]
    constructor
    · intro e; cases e
    · rintro ⟨f, hf⟩; exact absurd ⟨r, f, hf⟩ h
theorem xst_run {d q pc : Nat} {ls st : List XV} {μ : XM} {r : Option XV × XM} (hr : xst run d q pc ls st μ = some r) : ∃ f, xst (ex f) d q pc ls st μ = some r := by
  unfold xst at hr ⊢
  cases hc : cd q pc with
  | none => rw [hc] at hr; cases hr
  | some w =>
    rw [hc] at hr
    simp only at hr ⊢
    cases hx : xs w.1 ls st μ with
    | none => rw [hx] at hr; cases hr
    | some z =>
      rw [hx] at hr
      rcases z with z | z | z | z
      · exact run_iff.mp hr
      · exact run_iff.mp hr
      · exact ⟨0, hr⟩
      · simp only at hr ⊢
        cases d with
        | zero => cases hr
        | succ d =>
          simp only at hr ⊢
          cases hk : run d z.1 0 (en z.1 z.2.1) [] z.2.2.2.2 with
          | none => rw [hk] at hr; cases hr
          | some o =>
            rw [hk] at hr
            obtain ⟨f1, h1⟩ := run_iff.mp hk
            obtain ⟨f2, h2⟩ := run_iff.mp hr
            refine ⟨max f1 f2, ?_⟩
            rw [ex_le (Nat.le_max_left f1 f2) h1]
            exact ex_le (Nat.le_max_right f1 f2) h2
theorem run_eq (d q pc : Nat) (ls st : List XV) (μ : XM) : run d q pc ls st μ = xst run d q pc ls st μ := by
  apply Option.ext
  intro r
  constructor
  · intro h
    obtain ⟨f, hf⟩ := run_iff.mp h
    cases f with
    | zero => cases hf
    | succ f => exact xst_mono (fun d q pc ls st μ r h => run_iff.mpr ⟨f, h⟩) hf
  · intro h
    obtain ⟨f, hf⟩ := xst_run h
    exact run_iff.mpr ⟨f + 1, hf⟩
/-- a row of instructions, then on at nx -/
noncomputable def bx (d q : Nat) : List Instr → Nat → List XV → List XV → XM → XO
  | [], nx, ls, st, μ => run d q nx ls st μ
  | i :: is, nx, ls, st, μ => match xs i ls st μ with
    | none => none
    | some (.inl r) => bx d q is nx r.1 r.2.1 r.2.2
    | some (.inr (.inl r)) => run d q r.1 r.2.1 r.2.2.1 r.2.2.2
    | some (.inr (.inr (.inl r))) => some r
    | some (.inr (.inr (.inr r))) => match d with
      | 0 => none
      | d' + 1 => match run d' r.1 0 (en r.1 r.2.1) [] r.2.2.2.2 with
        | none => none
        | some o => bx (d' + 1) q is nx r.2.2.1 (o.1.toList ++ r.2.2.2.1) o.2
def isB (q : Nat) : Nat → List Instr → Nat → Bool
  | pc, [], nx => pc == nx
  | pc, i :: is, nx => match cd q pc with
    | some w => decide (w.1 = i) && isB q (pc + w.2) is nx
    | none => false
theorem run_blk {q : Nat} : ∀ {is : List Instr} {pc nx : Nat}, isB q pc is nx = true → ∀ (d : Nat) (ls st : List XV) (μ : XM), run d q pc ls st μ = bx d q is nx ls st μ := by
  intro is
  induction is with
  | nil =>
    intro pc nx h d ls st μ
    have e : pc = nx := by simpa [isB] using h
    subst e
    rw [bx]
  | cons i is ih =>
    intro pc nx h d ls st μ
    rw [run_eq, bx, xst]
    unfold isB at h
    cases hc : cd q pc with
    | none => rw [hc] at h; cases h
    | some w =>
      rw [hc] at h
      simp only [Bool.and_eq_true, decide_eq_true_eq] at h
      obtain ⟨e, h⟩ := h
      simp only
      rw [e]
      cases hx : xs i ls st μ with
      | none => rfl
      | some z =>
        rcases z with z | z | z | z
        · exact ih h _ _ _ _
        · rfl
        · rfl
        · simp only
          cases d with
          | zero => rfl
          | succ d =>
            simp only
            cases hk : run d z.1 0 (en z.1 z.2.1) [] z.2.2.2.2 with
            | none => rfl
            | some o => exact ih h _ _ _ _
end
section
/-! the words that stay through a call by themselves (gW), and others that we carry along (oW) -/
def gW : List Cond := lw_tbl.filter goodWord
theorem gW_in {w : Cond} (h : w ∈ lw_tbl) (hg : goodWord w = true) : w ∈ gW := List.mem_filter.mpr ⟨h, hg⟩
theorem gW_at {w : Cond} {k : Nat} (h : lw_tbl[k]? = some w) (hg : goodWord w = true) : w ∈ gW := gW_in (List.mem_of_getElem? h) hg
def oW : List Cond := [.arrayOver (.array .int), .arrayOver (.object "LightPlate$Row"), .methodLinkNest "LightPlate" 40 ⟨"LightPlate$Row", "<init>", "()V"⟩ "LightPlate", .methodLinkNest "LightPlate$Reader" 35 ⟨"LightPlate$Row", "<init>", "()V"⟩ "LightPlate", .methodLinkNest "LightPlate" 65 ⟨"LightPlate$Log", "<init>", "()V"⟩ "LightPlate"]
theorem oW_in : ∀ w ∈ oW, w ∈ lw_tbl := by decide +kernel
def xE (U : State) : Prop := ∀ w ∈ oW, w.before #[] U = true
theorem xE.warm {s U : State} (hW : s.WarmedH U.vm) (h : xE s) : xE U := by
  intro w hw
  have h1 := h w hw
  simp only [oW, List.mem_cons, List.not_mem_nil, or_false] at hw
  rcases hw with rfl | rfl | rfl | rfl | rfl
  · exact over_moved hW.alike h1
  · exact va_AO.moved hW.alike h1
  · exact va_Nw.warmM hW h1
  · exact va_Nw.warmM hW h1
  · exact va_Nw.warmM hW h1
end
section
/-! NUMBERS: Int beside Int32 and Int64 -/
theorem n32 {x : Int} (h : i32 x) : (Int32.ofInt x).toInt = x := Int32.toInt_ofInt_of_le (by have := h.1; omega) (by have := h.2; omega)
theorem n64 {x : Int} (h : i64 x) : (Int64.ofInt x).toInt = x := Int64.toInt_ofInt_of_le (by have := h.1; omega) (by have := h.2; omega)
theorem n32i (x : Int32) : i32 x.toInt := ⟨by have := x.le_toInt; omega, by have := x.toInt_lt; omega⟩
theorem n64i (x : Int64) : i64 x.toInt := ⟨by have := x.le_toInt; omega, by have := x.toInt_lt; omega⟩
theorem lt32 {x y : Int} (hx : i32 x) (hy : i32 y) : Int32.ofInt x < Int32.ofInt y ↔ x < y := by rw [Int32.lt_iff_toInt_lt, n32 hx, n32 hy]
theorem le32 {x y : Int} (hx : i32 x) (hy : i32 y) : Int32.ofInt x ≤ Int32.ofInt y ↔ x ≤ y := by rw [Int32.le_iff_toInt_le, n32 hx, n32 hy]
theorem eq32 {x y : Int} (hx : i32 x) (hy : i32 y) : Int32.ofInt x = Int32.ofInt y ↔ x = y := by rw [← Int32.toInt_inj, n32 hx, n32 hy]
theorem lt64 {x y : Int} (hx : i64 x) (hy : i64 y) : Int64.ofInt x < Int64.ofInt y ↔ x < y := by rw [Int64.lt_iff_toInt_lt, n64 hx, n64 hy]
theorem eq64 {x y : Int} (hx : i64 x) (hy : i64 y) : Int64.ofInt x = Int64.ofInt y ↔ x = y := by rw [← Int64.toInt_inj, n64 hx, n64 hy]
theorem o32 : Int32.ofInt 0 = 0 := rfl
theorem z32 : i32 0 := by decide
theorem cl32 {x : Int} (h : i32 x) : (Int32.ofInt x).toNatClampNeg = x.toNat := by
  show (Int32.ofInt x).toInt.toNat = x.toNat
  rw [n32 h]
theorem in32 {j : Int} {n : Nat} (hj : i32 j) (h0 : 0 ≤ j) (h : j < (n : Int)) : ¬ (Int32.ofInt j < 0 ∨ n ≤ (Int32.ofInt j).toNatClampNeg) := by
  rw [cl32 hj, ← o32, lt32 hj z32]
  omega
theorem ne32 {y : Int} (hy : i32 y) (h : 0 < y) : ¬ Int32.ofInt y = 0 := by
  rw [← o32, eq32 hy z32]; omega
theorem ne64 {y : Int} (hy : i64 y) (h : 0 < y) : ¬ Int64.ofInt y = 0 := by
  rw [show (0 : Int64) = Int64.ofInt 0 from rfl, eq64 hy (by decide)]; omega
theorem mn32 : Int32.minValue.toInt = -2147483648 := rfl
theorem mx32 : Int32.maxValue.toInt = 2147483647 := rfl
theorem mn64 : Int64.minValue.toInt = -9223372036854775808 := rfl
theorem mx64 : Int64.maxValue.toInt = 9223372036854775807 := rfl
theorem div32 {x y : Int} (hx : i32 x) (hy : i32 y) : Int32.ofInt (x.tdiv y) = Int32.ofInt x / Int32.ofInt y :=
  Int32.ofInt_tdiv (by rw [mn32]; exact hx.1) (by rw [mx32]; have := hx.2; omega) (by rw [mn32]; exact hy.1) (by rw [mx32]; have := hy.2; omega)
theorem div64 {x y : Int} (hx : i64 x) (hy : i64 y) : Int64.ofInt (x.tdiv y) = Int64.ofInt x / Int64.ofInt y :=
  Int64.ofInt_tdiv (by rw [mn64]; exact hx.1) (by rw [mx64]; have := hx.2; omega) (by rw [mn64]; exact hy.1) (by rw [mx64]; have := hy.2; omega)
theorem rem32 {x y : Int} (hx : i32 x) (hy : i32 y) : Int32.ofInt (x.tmod y) = Int32.ofInt x - Int32.ofInt x / Int32.ofInt y * Int32.ofInt y := by
  rw [← div32 hx hy, ← Int32.ofInt_mul, ← Int32.ofInt_sub]
  congr 1
  rw [Int.tmod_def, Int.mul_comm]
theorem rem64 {x y : Int} (hx : i64 x) (hy : i64 y) : Int64.ofInt (x.tmod y) = Int64.ofInt x - Int64.ofInt x / Int64.ofInt y * Int64.ofInt y := by
  rw [← div64 hx hy, ← Int64.ofInt_mul, ← Int64.ofInt_sub]
  congr 1
  rw [Int.tmod_def, Int.mul_comm]
theorem tdiv_le {x y : Int} (hy : 0 < y) : (x.tdiv y).natAbs ≤ x.natAbs := by
  rw [Int.natAbs_tdiv]
  exact Nat.div_le_self _ _
theorem tmod_le {x y : Int} : (x.tmod y).natAbs ≤ x.natAbs := by
  rw [Int.natAbs_tmod]
  exact Nat.mod_le _ _
theorem tdiv_pos {x y : Int} (hy : 0 < y) (h : 0 ≤ x) : 0 ≤ x.tdiv y := Int.tdiv_nonneg h (Int.le_of_lt hy)
theorem i32_tdiv {x y : Int} (hx : i32 x) (hy : 0 < y) : i32 (x.tdiv y) := by
  have h := tdiv_le (x := x) hy
  have h1 := hx.1; have h2 := hx.2
  have h3 : 0 ≤ x → 0 ≤ x.tdiv y := tdiv_pos hy
  have h4 : x ≤ 0 → x.tdiv y ≤ 0 := fun h => by
    have h5 := tdiv_pos (x := -x) hy (by omega)
    rw [Int.neg_tdiv] at h5
    omega
  rcases Int.le_total 0 x with g | g
  · have := h3 g
    constructor <;> omega
  · have := h4 g
    constructor <;> omega
theorem i32_tmod {x y : Int} (hx : i32 x) : i32 (x.tmod y) := by
  have h := tmod_le (x := x) (y := y)
  have h1 := hx.1; have h2 := hx.2
  rcases Int.le_total 0 x with g | g
  · have := Int.tmod_nonneg y g
    constructor <;> omega
  · have h5 := Int.tmod_nonneg y (a := -x) (by omega)
    rw [Int.neg_tmod] at h5
    constructor <;> omega
theorem i64_tdiv {x y : Int} (hx : i64 x) (hy : 0 < y) : i64 (x.tdiv y) := by
  have h := tdiv_le (x := x) hy
  have h1 := hx.1; have h2 := hx.2
  have h3 : 0 ≤ x → 0 ≤ x.tdiv y := tdiv_pos hy
  have h4 : x ≤ 0 → x.tdiv y ≤ 0 := fun h => by
    have h5 := tdiv_pos (x := -x) hy (by omega)
    rw [Int.neg_tdiv] at h5
    omega
  rcases Int.le_total 0 x with g | g
  · have := h3 g
    constructor <;> omega
  · have := h4 g
    constructor <;> omega
theorem i64_tmod {x y : Int} (hx : i64 x) : i64 (x.tmod y) := by
  have h := tmod_le (x := x) (y := y)
  have h1 := hx.1; have h2 := hx.2
  rcases Int.le_total 0 x with g | g
  · have := Int.tmod_nonneg y g
    constructor <;> omega
  · have h5 := Int.tmod_nonneg y (a := -x) (by omega)
    rw [Int.neg_tmod] at h5
    constructor <;> omega
theorem i64_of {x : Int} (h : i32 x) : i64 x := by have := h.1; have := h.2; constructor <;> omega
theorem l64 {x : Int} (h : i32 x) : (Int32.ofInt x).toInt64 = Int64.ofInt x := by
  rw [← Int64.ofInt_int32ToInt, n32 h]
theorem cmp64 {x y : Int} (hx : i64 x) (hy : i64 y) : lg_cmp (Int64.ofInt x) (Int64.ofInt y) = Int32.ofInt (if x < y then -1 else if x = y then 0 else 1) := by
  unfold lg_cmp
  by_cases h : x < y
  · have h3 : ¬ y < x := by omega
    have h4 : ¬ x = y := by omega
    simp [lt64 hx hy, lt64 hy hx, eq64 hx hy, h, h3, h4]
  · by_cases h2 : x = y
    · subst h2
      simp [lt64 hx hx]
    · have h3 : y < x := by omega
      simp [lt64 hx hy, lt64 hy hx, eq64 hx hy, h, h2, h3]
/-! INVERSIONS of a step's parts -/
theorem tI_inv {st : List XV} {k : Int → List XV → Option XR} {z : XR} (h : tI st k = some z) : ∃ x st', st = xI x :: st' ∧ k x st' = some z := by
  unfold tI at h
  split at h
  · exact ⟨_, _, rfl, h⟩
  · cases h
theorem tL_inv {st : List XV} {k : Int → List XV → Option XR} {z : XR} (h : tL st k = some z) : ∃ x st', st = xL x :: st' ∧ k x st' = some z := by
  unfold tL at h
  split at h
  · exact ⟨_, _, rfl, h⟩
  · cases h
theorem tA_inv {st : List XV} {k : Nat → List XV → Option XR} {z : XR} (h : tA st k = some z) : ∃ x st', st = xR x :: st' ∧ k x st' = some z := by
  unfold tA at h
  split at h
  · exact ⟨_, _, rfl, h⟩
  · cases h
theorem bI_inv {st : List XV} {k : Int → Int → List XV → Option XR} {z : XR} (h : bI st k = some z) : ∃ x y st', st = xI y :: xI x :: st' ∧ k x y st' = some z := by
  obtain ⟨y, s1, e1, h1⟩ := tI_inv h
  obtain ⟨x, s2, e2, h2⟩ := tI_inv h1
  exact ⟨x, y, s2, by rw [e1, e2], h2⟩
theorem bL_inv {st : List XV} {k : Int → Int → List XV → Option XR} {z : XR} (h : bL st k = some z) : ∃ x y st', st = xL y :: xL x :: st' ∧ k x y st' = some z := by
  obtain ⟨y, s1, e1, h1⟩ := tL_inv h
  obtain ⟨x, s2, e2, h2⟩ := tL_inv h1
  exact ⟨x, y, s2, by rw [e1, e2], h2⟩
theorem ldI_inv {ls : List XV} {i : Nat} {k : Int → Option XR} {z : XR} (h : ldI ls i k = some z) : ∃ x, ls[i]? = some (xI x) ∧ k x = some z := by
  unfold ldI at h
  split at h
  · exact ⟨_, by assumption, h⟩
  · cases h
theorem ldL_inv {ls : List XV} {i : Nat} {k : Int → Option XR} {z : XR} (h : ldL ls i k = some z) : ∃ x, ls[i]? = some (xL x) ∧ k x = some z := by
  unfold ldL at h
  split at h
  · exact ⟨_, by assumption, h⟩
  · cases h
theorem ldA_inv {ls : List XV} {i : Nat} {k : Nat → Option XR} {z : XR} (h : ldA ls i k = some z) : ∃ x, ls[i]? = some (xR x) ∧ k x = some z := by
  unfold ldA at h
  split at h
  · exact ⟨_, by assumption, h⟩
  · cases h
theorem st1_inv {ls : List XV} {i : Nat} {v : XV} {k : List XV → Option XR} {z : XR} (h : st1 ls i v k = some z) : i < ls.length ∧ lgB ls i = false ∧ k (ls.set i v) = some z := by
  unfold st1 at h
  split at h
  · next hc => exact ⟨hc.1, hc.2, h⟩
  · cases h
theorem st2_inv {ls : List XV} {i : Nat} {v : XV} {k : List XV → Option XR} {z : XR} (h : st2 ls i v k = some z) : i + 1 < ls.length ∧ lgB ls i = false ∧ k ((ls.set i v).set (i + 1) xU) = some z := by
  unfold st2 at h
  split at h
  · next hc => exact ⟨hc.1, hc.2, h⟩
  · cases h
theorem if_inv {c : Prop} [Decidable c] {a : Option XR} {z : XR} (h : (if c then a else none) = some z) : c ∧ a = some z := by
  by_cases hc : c
  · rw [if_pos hc] at h; exact ⟨hc, h⟩
  · rw [if_neg hc] at h; cases h
theorem rN_inj {ls st ls' st' : List XV} {μ μ' : XM} (h : rN ls st μ = some (.inl (ls', st', μ'))) : ls = ls' ∧ st = st' ∧ μ = μ' := by
  cases h; exact ⟨rfl, rfl, rfl⟩
end
section
/-! HOW THE PLAIN MACHINE STANDS IN THE REAL ONE -/
def tv (ad : Nat → Nat) (v : XV) : Value := match v with
  | .inl x => .int (Int32.ofInt x)
  | .inr (.inl x) => .long (Int64.ofInt x)
  | .inr (.inr (.inl a)) => .ref (ad a)
  | _ => .null
def okV (v : XV) : Prop := match v with
  | .inl x => i32 x
  | .inr (.inl x) => i64 x
  | _ => True
theorem okc {v : XV} {st : List XV} : (∀ w ∈ v :: st, okV w) ↔ okV v ∧ ∀ w ∈ st, okV w := List.forall_mem_cons
def lvl (ad : Nat → Nat) : List XV → Nat → List (Nat × Value)
  | [], _ => []
  | .inr (.inr (.inr _)) :: vs, i => lvl ad vs (i + 1)
  | .inl x :: vs, i => (i, tv ad (.inl x)) :: lvl ad vs (i + 1)
  | .inr (.inl x) :: vs, i => (i, tv ad (.inr (.inl x))) :: lvl ad vs (i + 1)
  | .inr (.inr (.inl x)) :: vs, i => (i, tv ad (.inr (.inr (.inl x)))) :: lvl ad vs (i + 1)
theorem lvl_mem {ad : Nat → Nat} : ∀ {ls : List XV} {i : Nat} {q : Nat × Value}, q ∈ lvl ad ls i ↔ ∃ k v, ls[k]? = some v ∧ v ≠ xU ∧ q = (i + k, tv ad v) := by
  intro ls
  induction ls with
  | nil => intro i q; simp [lvl]
  | cons v vs ih =>
    intro i q
    have tail : (q ∈ lvl ad vs (i + 1)) ↔ ∃ k w, (v :: vs)[k + 1]? = some w ∧ w ≠ xU ∧ q = (i + (k + 1), tv ad w) := by
      rw [ih]
      constructor
      · rintro ⟨k, w, h1, h2, h3⟩
        exact ⟨k, w, by simpa using h1, h2, by rw [h3]; congr 1; omega⟩
      · rintro ⟨k, w, h1, h2, h3⟩
        exact ⟨k, w, by simpa using h1, h2, by rw [h3]; congr 1; omega⟩
    have key : (∃ k w, (v :: vs)[k]? = some w ∧ w ≠ xU ∧ q = (i + k, tv ad w)) ↔ (v ≠ xU ∧ q = (i, tv ad v)) ∨ ∃ k w, (v :: vs)[k + 1]? = some w ∧ w ≠ xU ∧ q = (i + (k + 1), tv ad w) := by
      constructor
      · rintro ⟨k, w, h1, h2, h3⟩
        cases k with
        | zero =>
          have e : v = w := by simpa using h1
          subst e
          exact Or.inl ⟨h2, h3⟩
        | succ k => exact Or.inr ⟨k, w, h1, h2, h3⟩
      · rintro (⟨h1, h2⟩ | ⟨k, w, h1, h2, h3⟩)
        · exact ⟨0, v, rfl, h1, h2⟩
        · exact ⟨k + 1, w, h1, h2, h3⟩
    rw [key, ← tail]
    rcases v with x | x | x | x
    · simp [lvl]
    · simp [lvl]
    · simp [lvl]
    · simp [lvl]
theorem has_sub {ls : Array Slot} {n : Nat} {l l' : List (Nat × Value)} (h : lv_has ls n l) (hs : ∀ q ∈ l', q ∈ l) : lv_has ls n l' := ⟨h.1, h.2.1, fun q hq => h.2.2 q (hs q hq)⟩
theorem has_at {ad : Nat → Nat} {lsA : Array Slot} {n : Nat} {ls : List XV} (h : lv_has lsA n (lvl ad ls 0)) {i : Nat} {v : XV} (hv : ls[i]? = some v) (hu : v ≠ xU) : lsA[i]? = some (.val (tv ad v)) := by
  have h1 : (i, tv ad v) ∈ lvl ad ls 0 := lvl_mem.mpr ⟨i, v, hv, hu, by rw [Nat.zero_add]⟩
  exact h.2.2 _ h1
theorem lgB_cat {ad : Nat → Nat} {ls : List XV} {i k : Nat} {w : XV} (h : lgB ls i = false) (hk : k + 1 = i) (hw : ls[k]? = some w) : (tv ad w).category ≠ 2 := by
  subst hk
  simp only [lgB, hw] at h
  rcases w with x | x | x | x
  · simp [tv, Value.category]
  · simp at h
  · simp [tv, Value.category]
  · simp [tv, Value.category]
theorem lvl_set1 {ad : Nat → Nat} {ls : List XV} {i : Nat} {v : XV} (hl : lgB ls i = false) : ∀ q ∈ lvl ad (ls.set i v) 0, q ∈ (i, tv ad v) :: (lvl ad ls 0).filter (fun q => !(q.1 == i) && !(q.1 + 1 == i && q.2.category == 2)) := by
  intro q hq
  obtain ⟨k, w, h1, h2, rfl⟩ := lvl_mem.mp hq
  rw [Nat.zero_add]
  by_cases hk : k = i
  · subst hk
    have hlt : k < ls.length := by
      have := (List.getElem?_eq_some_iff.mp h1).1
      simpa using this
    rw [List.getElem?_set_self hlt] at h1
    cases h1
    exact List.mem_cons_self
  · rw [List.getElem?_set_ne (Ne.symm hk)] at h1
    refine List.mem_cons_of_mem _ (List.mem_filter.mpr ⟨lvl_mem.mpr ⟨k, w, h1, h2, by rw [Nat.zero_add]⟩, ?_⟩)
    by_cases hk1 : k + 1 = i
    · have := lgB_cat (ad := ad) hl hk1 h1
      simp [hk, this]
    · simp [hk, hk1]
theorem lvl_set2 {ad : Nat → Nat} {ls : List XV} {i : Nat} {v : XV} (hl : lgB ls i = false) : ∀ q ∈ lvl ad ((ls.set i v).set (i + 1) xU) 0, q ∈ (i, tv ad v) :: (lvl ad ls 0).filter (fun q => !(q.1 == i) && (!(q.1 == i + 1) && !(q.1 + 1 == i && q.2.category == 2))) := by
  intro q hq
  obtain ⟨k, w, h1, h2, rfl⟩ := lvl_mem.mp hq
  rw [Nat.zero_add]
  have hk2 : k ≠ i + 1 := by
    intro hk
    subst hk
    have hlt : i + 1 < (ls.set i v).length := by
      have := (List.getElem?_eq_some_iff.mp h1).1
      simpa using this
    rw [List.getElem?_set_self hlt] at h1
    cases h1
    exact h2 rfl
  rw [List.getElem?_set_ne (Ne.symm hk2)] at h1
  by_cases hk : k = i
  · subst hk
    have hlt : k < ls.length := by
      have := (List.getElem?_eq_some_iff.mp h1).1
      simpa using this
    rw [List.getElem?_set_self hlt] at h1
    cases h1
    exact List.mem_cons_self
  · rw [List.getElem?_set_ne (Ne.symm hk)] at h1
    refine List.mem_cons_of_mem _ (List.mem_filter.mpr ⟨lvl_mem.mpr ⟨k, w, h1, h2, by rw [Nat.zero_add]⟩, ?_⟩)
    by_cases hk1 : k + 1 = i
    · have := lgB_cat (ad := ad) hl hk1 h1
      simp [hk, hk2, this]
    · simp [hk, hk2, hk1]
theorem ok_set {ls : List XV} (h : ∀ v ∈ ls, okV v) {i : Nat} {v : XV} (hv : okV v) : ∀ w ∈ ls.set i v, okV w := by
  intro w hw
  rcases List.mem_or_eq_of_mem_set hw with h1 | h1
  · exact h w h1
  · rw [h1]; exact hv
theorem ok_at {ls : List XV} (h : ∀ v ∈ ls, okV v) {i : Nat} {v : XV} (hv : ls[i]? = some v) : okV v := h v (List.mem_of_getElem? hv)
/-- what field k of object a of class c holds -/
def fV (ad : Nat → Nat) (μ : XM) (a c k : Nat) : Value := if fT c k = 2 then .long (Int64.ofInt (μ.1 a k)) else if fT c k = 3 then va_rf ((μ.2.2.1 a k).map ad) else .int (Int32.ofInt (μ.1 a k))
/-- the real cell of our cell a -/
def cR (ad : Nat → Nat) (dC : Nat → ClassId) (dI : Nat → Nat → Nat) (U : State) (H : Heap) (μ : XM) (a : Nat) : Prop := match (μ.2.1 a).1 with
  | 0 => True
  | 1 => ∃ cA, H[ad a]? = some (arrV cA (μ.2.1 a).2 (fun j => .int (Int32.ofInt (μ.1 a j)))) ∧ ArrOfT U cA .int
  | 2 => ∃ cA, H[ad a]? = some (arrV cA (μ.2.1 a).2 (fun j => .int (Int32.ofInt (μ.1 a j)))) ∧ ArrOfT U cA .boolean
  | 3 => ∃ cA, H[ad a]? = some (arrV cA (μ.2.1 a).2 (fun j => .long (Int64.ofInt (μ.1 a j)))) ∧ ArrOfT U cA .long
  | 4 => ∃ cA, H[ad a]? = some (arrV cA (μ.2.1 a).2 (fun j => va_rf ((μ.2.2.1 a j).map ad))) ∧ ArrOfT U cA (.array .int)
  | 5 => ∃ cA, H[ad a]? = some (arrV cA (μ.2.1 a).2 (fun j => va_rf ((μ.2.2.1 a j).map ad))) ∧ ArrOfT U cA (.object "LightPlate$Row") ∧ va_RA U cA (.object "LightPlate$Row")
  | 6 => False
  | 7 => False
  | 8 => False
  | 9 => ∃ scr : Cell, H[ad a]? = some scr ∧ U.isArrayOf scr .int ∧ scr.vm ≠ .unknown ∧ scr.slots.size = (μ.2.1 a).2 ∧ ∀ j : Nat, j < (μ.2.1 a).2 → scr.slots[j]? = some (.int (Int32.ofInt (μ.1 a j)))
  | k + 10 => ∃ q : vw_C, clX[k]? = some q ∧ t_OB (ad a) (dC k) q.2.2 (dI k) H (fun j => fV ad μ a k j)
/-- the numbers of our cell a are in their ranges -/
def okC (μ : XM) (a : Nat) (i : Int) : Prop := match (μ.2.1 a).1 with
  | 1 => i32 (μ.1 a i)
  | 2 => μ.1 a i = 0 ∨ μ.1 a i = 1
  | 3 => i64 (μ.1 a i)
  | 9 => i32 (μ.1 a i)
  | k + 10 => (fT k i.toNat = 0 → i32 (μ.1 a i)) ∧ (fT k i.toNat = 1 → μ.1 a i = 0 ∨ μ.1 a i = 1) ∧ (fT k i.toNat = 2 → i64 (μ.1 a i))
  | _ => True
def xP (ad : Nat → Nat) (dC : Nat → ClassId) (dI : Nat → Nat → Nat) (B : Nat) (U : State) (H : Heap) (μ : XM) : Prop :=
  (∀ a, cR ad dC dI U H μ a) ∧ (∀ a i, okC μ a i) ∧ H.size = B + μ.2.2.2.1 ∧ (∀ j, ad (μ.2.2.2.2.2 j) = B + j) ∧ (∀ a, (μ.2.1 a).1 ≠ 0 → ((μ.2.1 a).1 = 9 ∧ a = 0 ∧ ad a < B) ∨ ((μ.2.1 a).1 ≠ 9 ∧ ∃ j, j < μ.2.2.2.1 ∧ a = μ.2.2.2.2.2 j))
section XRep
variable {ad : Nat → Nat} {dC : Nat → ClassId} {dI : Nat → Nat → Nat} {B : Nat} {U : State} {H H' : Heap} {μ μ' : XM} {a b : Nat}
theorem cR_kept (hs : μ'.2.1 b = μ.2.1 b) (hv : μ'.1 b = μ.1 b) (hr : μ'.2.2.1 b = μ.2.2.1 b) (hh : (μ.2.1 b).1 ≠ 0 → H'[ad b]? = H[ad b]?) (h : cR ad dC dI U H μ b) : cR ad dC dI U H' μ' b := by
  by_cases h0 : (μ.2.1 b).1 = 0
  · unfold cR
    rw [hs, h0]
    trivial
  · have hh := hh h0
    have hf : ∀ k j, fV ad μ' b k j = fV ad μ b k j := fun k j => by simp only [fV, hv, hr]
    unfold cR at h ⊢
    rw [hs, hv, hr]
    generalize hk : (μ.2.1 b).1 = k at h ⊢
    match k, h with
    | 0, _ => trivial
    | 1, ⟨cA, h1, h2⟩ => exact ⟨cA, hh.trans h1, h2⟩
    | 2, ⟨cA, h1, h2⟩ => exact ⟨cA, hh.trans h1, h2⟩
    | 3, ⟨cA, h1, h2⟩ => exact ⟨cA, hh.trans h1, h2⟩
    | 4, ⟨cA, h1, h2⟩ => exact ⟨cA, hh.trans h1, h2⟩
    | 5, ⟨cA, h1, h2⟩ => exact ⟨cA, hh.trans h1, h2⟩
    | 9, ⟨scr, h1, h2⟩ => exact ⟨scr, hh.trans h1, h2⟩
    | k + 10, ⟨q, h1, h2⟩ => exact ⟨q, h1, (h2.kept hh).to (fun j _ => (hf k j).symm)⟩
theorem cR_moved {U' : State} (hvm : U.vm.Alike U'.vm) (h : cR ad dC dI U H μ b) : cR ad dC dI U' H μ b := by
  unfold cR at h ⊢
  generalize hk : (μ.2.1 b).1 = k at h ⊢
  match k, h with
  | 0, _ => trivial
  | 1, ⟨cA, h1, h2⟩ => exact ⟨cA, h1, arrOfT_moved hvm h2⟩
  | 2, ⟨cA, h1, h2⟩ => exact ⟨cA, h1, arrOfT_moved hvm h2⟩
  | 3, ⟨cA, h1, h2⟩ => exact ⟨cA, h1, arrOfT_moved hvm h2⟩
  | 4, ⟨cA, h1, h2⟩ => exact ⟨cA, h1, arrOfT_moved hvm h2⟩
  | 5, ⟨cA, h1, h2, h3⟩ => exact ⟨cA, h1, arrOfT_moved hvm h2, h3.moved hvm⟩
  | 9, ⟨scr, h1, h2, h3⟩ => exact ⟨scr, h1, State.isArrayOf_alike hvm h2, h3⟩
  | k + 10, h => exact h
theorem xP.moved {U' : State} (hvm : U.vm.Alike U'.vm) (h : xP ad dC dI B U H μ) : xP ad dC dI B U' H μ := ⟨fun a => cR_moved hvm (h.1 a), h.2⟩
theorem xP.apart (h : xP ad dC dI B U H μ) (ha : (μ.2.1 a).1 ≠ 0) (hb : (μ.2.1 b).1 ≠ 0) (hne : b ≠ a) : ad b ≠ ad a := by
  obtain ⟨-, -, -, h4, h5⟩ := h
  intro e
  rcases h5 a ha with ⟨-, e1, l1⟩ | ⟨-, j, hj, e1⟩ <;> rcases h5 b hb with ⟨-, e2, l2⟩ | ⟨-, k, hk, e2⟩
  · exact hne (e2.trans e1.symm)
  · have := h4 k
    rw [← e2] at this
    omega
  · have := h4 j
    rw [← e1] at this
    omega
  · have h1 := h4 j
    have h2 := h4 k
    rw [← e1] at h1
    rw [← e2] at h2
    have : j = k := by omega
    subst this
    exact hne (e2.trans e1.symm)
theorem xP.low (h : xP ad dC dI B U H μ) (ha : (μ.2.1 a).1 ≠ 0) (h9 : (μ.2.1 a).1 ≠ 9) : B ≤ ad a := by
  obtain ⟨-, -, -, h4, h5⟩ := h
  rcases h5 a ha with ⟨e, -⟩ | ⟨-, j, hj, e1⟩
  · exact absurd e h9
  · have := h4 j
    rw [← e1] at this
    omega
theorem okC_kept (hs : μ'.2.1 b = μ.2.1 b) (hv : μ'.1 b = μ.1 b) {i : Int} (h : okC μ b i) : okC μ' b i := by
  unfold okC at h ⊢
  rw [hs, hv]
  exact h
/-- one of our cells is written -/
theorem xP.put (h : xP ad dC dI B U H μ) (ha : (μ.2.1 a).1 ≠ 0) (hs : μ'.2.1 = μ.2.1) (hn : μ'.2.2.2 = μ.2.2.2) (hv : ∀ b, b ≠ a → μ'.1 b = μ.1 b) (hr : ∀ b, b ≠ a → μ'.2.2.1 b = μ.2.2.1 b) (hz : H'.size = H.size) (ho : ∀ q, q ≠ ad a → H'[q]? = H[q]?) (hc : cR ad dC dI U H' μ' a) (hk : ∀ i, okC μ' a i) : xP ad dC dI B U H' μ' := by
  refine ⟨fun b => ?_, fun b i => ?_, ?_, ?_, ?_⟩
  · by_cases e : b = a
    · subst e; exact hc
    · exact cR_kept (by rw [hs]) (hv b e) (hr b e) (fun hb => ho _ (h.apart ha hb e)) (h.1 b)
  · by_cases e : b = a
    · subst e; exact hk i
    · exact okC_kept (by rw [hs]) (hv b e) (h.2.1 b i)
  · rw [hz, hn]; exact h.2.2.1
  · rw [hn]; exact h.2.2.2.1
  · rw [hn, hs]; exact h.2.2.2.2
/-- the next number is free -/
theorem xP.free (h : xP ad dC dI B U H μ) {k : Nat} (hk : μ.2.2.2.1 ≤ k) : (μ.2.1 (μ.2.2.2.2.2 k)).1 = 0 := by
  obtain ⟨-, -, -, h4, h5⟩ := h
  by_cases h0 : (μ.2.1 (μ.2.2.2.2.2 k)).1 = 0
  · exact h0
  · have h1 := h4 k
    rcases h5 _ h0 with ⟨-, -, l1⟩ | ⟨-, j, hj, e1⟩
    · omega
    · have h2 := h4 j
      rw [← e1] at h2
      omega
theorem xP.new (h : xP ad dC dI B U H μ) {sh : Nat × Nat} {n : Nat} (h0 : sh.1 ≠ 0) (h9 : sh.1 ≠ 9) (hz : H'.size = H.size + 1) (ho : ∀ q, q < H.size → H'[q]? = H[q]?)
    (hc : cR ad dC dI U H' (vA μ.1 (μ.2.2.2.2.2 μ.2.2.2.1) (fun _ => 0), gN μ.2 (μ.2.2.2.2.2 μ.2.2.2.1) sh n) (μ.2.2.2.2.2 μ.2.2.2.1)) : xP ad dC dI B U H' (vA μ.1 (μ.2.2.2.2.2 μ.2.2.2.1) (fun _ => 0), gN μ.2 (μ.2.2.2.2.2 μ.2.2.2.1) sh n) := by
  have hf := h.free (Nat.le_refl _)
  generalize ha : μ.2.2.2.2.2 μ.2.2.2.1 = a at hc hf ⊢
  have e1 : ∀ b, b ≠ a → (gN μ.2 a sh n).1 b = μ.2.1 b := fun b e => by simp [gN, e]
  have e2 : (gN μ.2 a sh n).1 a = sh := by simp [gN]
  refine ⟨fun b => ?_, fun b i => ?_, ?_, ?_, ?_⟩
  · by_cases e : b = a
    · rw [e]; exact hc
    · refine cR_kept (e1 b e) (by simp [vA, e]) (by simp [gN, e]) (fun hb => ho _ ?_) (h.1 b)
      rcases h.2.2.2.2 b hb with ⟨-, -, l⟩ | ⟨-, j, hj, e3⟩
      · rw [h.2.2.1]; omega
      · rw [e3, h.2.2.2.1, h.2.2.1]; omega
  · by_cases e : b = a
    · subst e
      unfold okC
      simp only [e2, vA, if_pos]
      split <;> first | trivial | decide | (exact Or.inl rfl) | skip
      exact ⟨fun _ => by decide, fun _ => by simp, fun _ => by decide⟩
    · exact okC_kept (e1 b e) (by simp [vA, e]) (h.2.1 b i)
  · rw [hz, h.2.2.1]; simp [gN]; omega
  · exact h.2.2.2.1
  · intro b hb
    by_cases e : b = a
    · subst e
      refine Or.inr ⟨by rw [e2]; exact h9, μ.2.2.2.1, by simp [gN], ?_⟩
      simp [gN]; exact ha.symm
    · rw [e1 b e] at hb ⊢
      rcases h.2.2.2.2 b hb with hl | ⟨h1, j, hj, e3⟩
      · exact Or.inl hl
      · exact Or.inr ⟨h1, j, by simp [gN]; omega, by simp [gN]; exact e3⟩
end XRep
end
section
/-! ONE STEP of the plain machine is one of the real machine's -/
/-- a method of the table, at work -/
def XC (p : Program) (s : State) (m : MethodId) (args : Array Value) (meth : Method) (c : Code) (dC : Nat → ClassId) (dI : Nat → Nat → Nat) (q : Nat) (r : MR) : Prop :=
  mT q = some r ∧ p.tables.exec = Jvm.exec ∧ c.code = r.1.2.1 ∧ meth.sig.returnType = r.1.2.2.2 ∧ c.maxLocals = r.1.2.2.1 ∧ s.vm.findClass (cN (q / 100)) = some m.cls ∧ (∀ w ∈ gW, w.before args s = true) ∧ meth.locks = false ∧ (r.1.1.name = "<init>" → meth.name = "<init>") ∧ va_K (dC, dI) clX [] s ∧ xE s
def XW (p : Program) (l : Launch) (e : Env) (R : Room) (s : State) (m : MethodId) (args : Array Value) (below : List Frame) (meth : Method) (c : Code) (Q : State → Prop) (ad : Nat → Nat) (dC : Nat → ClassId) (dI : Nat → Nat → Nat) (B n0 s0 : Nat) (pc : Nat) (ls st : List XV) (μ : XM) : Prop :=
  ∀ (H : Heap) (locs : List Loc) (lsA : Array Slot), lv_has lsA c.maxLocals (lvl ad ls 0) → ls.length = c.maxLocals → (∀ v ∈ ls, okV v) → (∀ v ∈ st, okV v) → xP ad dC dI B s H μ → va_S (fun q => B ≤ q) s.heap H locs → n0 ≤ μ.2.2.2.1 → s0 ≤ μ.2.2.2.2.1 →
    W p l e R s m args below meth c H locs (μ.2.2.2.1 - n0) (μ.2.2.2.2.1 - s0) Q (F0 m pc lsA (st.map (tv ad)))
theorem mT_in {q : Nat} {r : MR} (h : mT q = some r) : r ∈ kT.getD (q / 100) [] := List.mem_of_getElem? h
theorem okl : ∀ c : Nat, ∀ r ∈ kT.getD c [], rowOK c r = true
  | 0 => okl0
  | 1 => okl1
  | 2 => okl2
  | 3 => okl3
  | 4 => okl4
  | 5 => okl5
  | 6 => okl6
  | 7 => okl7
  | 8 => okl8
  | 9 => okl9
  | 10 => okl10
  | 11 => okl11
  | 12 => okl12
  | 13 => okl13
  | 14 => okl14
  | n + 15 => fun r h => absurd h (by simp [kT])
theorem wol : ∀ c : Nat, c ≠ 12 → ∀ r ∈ kT.getD c [], wrdOK c r = true
  | 0 => fun _ => wol0
  | 1 => fun _ => wol1
  | 2 => fun _ => wol2
  | 3 => fun _ => wol3
  | 4 => fun _ => wol4
  | 5 => fun _ => wol5
  | 6 => fun _ => wol6
  | 7 => fun _ => wol7
  | 8 => fun _ => wol8
  | 9 => fun _ => wol9
  | 10 => fun _ => wol10
  | 11 => fun _ => wol11
  | 12 => fun h => absurd rfl h
  | 13 => fun _ => wol13
  | 14 => fun _ => wol14
  | n + 15 => fun _ r h => absurd h (by simp [kT])
theorem cd_row {q pc : Nat} {r : MR} {i : Instr} {len : Nat} (hm : mT q = some r) (h : cd q pc = some (i, len)) : ∃ idx, decode r.1.2.1 pc = .ok (unres pc i idx, len) ∧ len = iln i len ∧ side (q / 100) r.1.1 r.1.2.2.2 i idx = true := by
  unfold cd at h
  rw [hm] at h
  simp only at h
  obtain ⟨w, hw, e⟩ := Option.map_eq_some_iff.mp h
  have hp : w.1 = pc := by simpa using List.find?_some hw
  have hmem := List.mem_of_find?_eq_some hw
  have hr := okl (q / 100) r (mT_in hm)
  unfold rowOK at hr
  rw [Bool.and_eq_true] at hr
  have h1 := List.all_eq_true.mp hr.1 w hmem
  unfold rwOK at h1
  simp only [Bool.and_eq_true, decide_eq_true_eq] at h1
  cases e
  rw [← hp]
  exact ⟨w.2.2.1, h1.1, h1.2.1, h1.2.2⟩
theorem lF_at {own idx q : Nat} {args : Array Value} {s : State} (hts : ∀ w ∈ gW, w.before args s = true) (h : lF.any (fun w => w.1 == own && (w.2.1 == idx && w.2.2.1 == q)) = true) : (Cond.fieldLink (cN own) idx (TF (q / 100) (q % 100)).1 (TF (q / 100) (q % 100)).2.1 (TF (q / 100) (q % 100)).2.2.1).before args s = true := by
  obtain ⟨w, hw, h1⟩ := List.any_eq_true.mp h
  simp only [Bool.and_eq_true, beq_iff_eq] at h1
  obtain ⟨rfl, rfl, rfl⟩ := h1
  have h2 := List.all_eq_true.mp lF_ok w hw
  exact hts _ (gW_at (of_decide_eq_true h2) rfl)
theorem TF_at {c k : Nat} {q : vw_C} (h : clX[c]? = some q) : TF c = q.2.1 := by
  unfold TF
  rw [h]
theorem u_in : ∀ c : Nat, ∀ q : vw_C, clX[c]? = some q → ∀ w ∈ u_ws q.1 q.2.1 q.2.2, w ∈ gW
  | 0 => fun q h => by cases h; decide +kernel
  | 1 => fun q h => by cases h; decide +kernel
  | 2 => fun q h => by cases h; decide +kernel
  | 3 => fun q h => by cases h; decide +kernel
  | 4 => fun q h => by cases h; decide +kernel
  | 5 => fun q h => by cases h; decide +kernel
  | 6 => fun q h => by cases h; decide +kernel
  | 7 => fun q h => by cases h; decide +kernel
  | 8 => fun q h => by cases h; decide +kernel
  | 9 => fun q h => by cases h; decide +kernel
  | 10 => fun q h => by cases h; decide +kernel
  | 11 => fun q h => by cases h; decide +kernel
  | n + 12 => fun q h => by simp [clX] at h
theorem u_nm : ∀ c : Nat, ∀ q : vw_C, clX[c]? = some q → ∀ a, a < q.2.2 → ∀ b, b < q.2.2 → a ≠ b → (q.2.1 a).2.1 ≠ (q.2.1 b).2.1
  | 0 => fun q h => by cases h; decide +kernel
  | 1 => fun q h => by cases h; decide +kernel
  | 2 => fun q h => by cases h; decide +kernel
  | 3 => fun q h => by cases h; decide +kernel
  | 4 => fun q h => by cases h; decide +kernel
  | 5 => fun q h => by cases h; decide +kernel
  | 6 => fun q h => by cases h; decide +kernel
  | 7 => fun q h => by cases h; decide +kernel
  | 8 => fun q h => by cases h; decide +kernel
  | 9 => fun q h => by cases h; decide +kernel
  | 10 => fun q h => by cases h; decide +kernel
  | 11 => fun q h => by cases h; decide +kernel
  | n + 12 => fun q h => by simp [clX] at h
theorem u_ty : ∀ c : Nat, ∀ q : vw_C, clX[c]? = some q → ∀ k, k < q.2.2 → parseFieldDescriptor (q.2.1 k).2.2.1 = some (fY c k) ∧ (q.2.1 k).1 = q.1 ∧ q.1 = cN c ∧ q.2.2 = cO c
  | 0 => fun q h => by cases h; decide +kernel
  | 1 => fun q h => by cases h; decide +kernel
  | 2 => fun q h => by cases h; decide +kernel
  | 3 => fun q h => by cases h; decide +kernel
  | 4 => fun q h => by cases h; decide +kernel
  | 5 => fun q h => by cases h; decide +kernel
  | 6 => fun q h => by cases h; decide +kernel
  | 7 => fun q h => by cases h; decide +kernel
  | 8 => fun q h => by cases h; decide +kernel
  | 9 => fun q h => by cases h; decide +kernel
  | 10 => fun q h => by cases h; decide +kernel
  | 11 => fun q h => by cases h; decide +kernel
  | n + 12 => fun q h => by simp [clX] at h
theorem u_ft : ∀ c : Nat, ∀ q : vw_C, clX[c]? = some q → ∀ k, k < q.2.2 → (fT c k = 0 ∧ fY c k = .int) ∨ (fT c k = 1 ∧ fY c k = .boolean) ∨ (fT c k = 2 ∧ fY c k = .long) ∨ (fT c k = 3 ∧ (fY c k).isReference = true)
  | 0 => fun q h => by cases h; decide +kernel
  | 1 => fun q h => by cases h; decide +kernel
  | 2 => fun q h => by cases h; decide +kernel
  | 3 => fun q h => by cases h; decide +kernel
  | 4 => fun q h => by cases h; decide +kernel
  | 5 => fun q h => by cases h; decide +kernel
  | 6 => fun q h => by cases h; decide +kernel
  | 7 => fun q h => by cases h; decide +kernel
  | 8 => fun q h => by cases h; decide +kernel
  | 9 => fun q h => by cases h; decide +kernel
  | 10 => fun q h => by cases h; decide +kernel
  | 11 => fun q h => by cases h; decide +kernel
  | n + 12 => fun q h => by simp [clX] at h
theorem cl_at : ∀ c : Nat, c < 12 → ∃ q : vw_C, clX[c]? = some q := fun c h => ⟨clX[c]'(by simpa [clX] using h), List.getElem?_eq_getElem _⟩
end
section
/-! THE STEPS, a lemma each -/
section XStep
variable {p : Program} {l : Launch} {e : Env} {R : Room} {s : State} {m : MethodId} {args : Array Value} {below : List Frame} {meth : Method} {c : Code} {Q : State → Prop} {ad : Nat → Nat} {dC : Nat → ClassId} {dI : Nat → Nat → Nat} {B n0 s0 : Nat} {q : Nat} {r : MR} {pc : Nat} {ls st : List XV} {μ : XM}
theorem XW.pure {pc' : Nat} {st' : List XV} (hs : ∀ (H : Heap) (locs : List Loc) (lsA : Array Slot) (cells slots : Nat), lv_has lsA c.maxLocals (lvl ad ls 0) → (∀ v ∈ ls, okV v) → (∀ v ∈ st, okV v) → (W p l e R s m args below meth c H locs cells slots Q (F0 m pc' lsA (st'.map (tv ad))) → W p l e R s m args below meth c H locs cells slots Q (F0 m pc lsA (st.map (tv ad)))) ∧ ∀ v ∈ st', okV v)
    (k : XW p l e R s m args below meth c Q ad dC dI B n0 s0 pc' ls st' μ) : XW p l e R s m args below meth c Q ad dC dI B n0 s0 pc ls st μ := by
  intro H locs lsA h1 h2 h3 h4 h5 h6 h7 h8
  obtain ⟨g, g2⟩ := hs H locs lsA (μ.2.2.2.1 - n0) (μ.2.2.2.2.1 - s0) h1 h3 h4
  exact g (k H locs lsA h1 h2 h3 g2 h5 h6 h7 h8)
theorem xw_iconst {n : Int} (C : XC p s m args meth c dC dI q r) (hd : decode r.1.2.1 pc = .ok (.iconst n, 1)) (hn : -1 ≤ n ∧ n ≤ 5) (k : XW p l e R s m args below meth c Q ad dC dI B n0 s0 (pc + 1) ls (xI n :: st) μ) : XW p l e R s m args below meth c Q ad dC dI B n0 s0 pc ls (st) μ :=
  XW.pure (st' := xI n :: st) (fun H locs lsA cells slots hl ho hs => ⟨fun w => lv_iconst (v := Int32.ofInt n) C.2.1 C.2.2.1 hd rfl w, okc.mpr ⟨⟨by have := hn.1; omega, by have := hn.2; omega⟩, hs⟩⟩) k
theorem xw_bipush {n : Int} (C : XC p s m args meth c dC dI q r) (hd : decode r.1.2.1 pc = .ok (.bipush n, 2)) (hn : -128 ≤ n ∧ n ≤ 127) (k : XW p l e R s m args below meth c Q ad dC dI B n0 s0 (pc + 2) ls (xI n :: st) μ) : XW p l e R s m args below meth c Q ad dC dI B n0 s0 pc ls (st) μ :=
  XW.pure (st' := xI n :: st) (fun H locs lsA cells slots hl ho hs => ⟨fun w => lv_bipush (v := Int32.ofInt n) C.2.1 C.2.2.1 hd (by rw [← Int32.ofInt_int8ToInt, Int8.toInt_ofInt_of_le (by have := hn.1; omega) (by have := hn.2; omega)]) w, okc.mpr ⟨⟨by have := hn.1; omega, by have := hn.2; omega⟩, hs⟩⟩) k
theorem xw_sipush {n : Int} (C : XC p s m args meth c dC dI q r) (hd : decode r.1.2.1 pc = .ok (.sipush n, 3)) (hn : -32768 ≤ n ∧ n ≤ 32767) (k : XW p l e R s m args below meth c Q ad dC dI B n0 s0 (pc + 3) ls (xI n :: st) μ) : XW p l e R s m args below meth c Q ad dC dI B n0 s0 pc ls (st) μ :=
  XW.pure (st' := xI n :: st) (fun H locs lsA cells slots hl ho hs => ⟨fun w => lv_sipush (v := Int32.ofInt n) C.2.1 C.2.2.1 hd (by rw [← Int32.ofInt_int16ToInt, Int16.toInt_ofInt_of_le (by have := hn.1; omega) (by have := hn.2; omega)]) w, okc.mpr ⟨⟨by have := hn.1; omega, by have := hn.2; omega⟩, hs⟩⟩) k
theorem xw_lconst {n : Fin 2} (C : XC p s m args meth c dC dI q r) (hd : decode r.1.2.1 pc = .ok (.lconst n, 1)) (k : XW p l e R s m args below meth c Q ad dC dI B n0 s0 (pc + 1) ls (xL (n.val : Nat) :: st) μ) : XW p l e R s m args below meth c Q ad dC dI B n0 s0 pc ls (st) μ :=
  XW.pure (st' := xL (n.val : Nat) :: st) (fun H locs lsA cells slots hl ho hs => ⟨fun w => lv_lconst (v := Int64.ofInt (n.val : Nat)) C.2.1 C.2.2.1 hd (Int64.ofInt_eq_ofNat).symm w, okc.mpr ⟨⟨by omega, by have := n.isLt; omega⟩, hs⟩⟩) k
theorem xw_ldc2 {v : Int} {idx : Nat} (C : XC p s m args meth c dC dI q r) (hd : decode r.1.2.1 pc = .ok (.ldc2_w idx, 3)) (hv : i64 v) (hk : (Cond.constantLong (cN (q / 100)) idx (Int64.ofInt v)).before args s = true) (k : XW p l e R s m args below meth c Q ad dC dI B n0 s0 (pc + 3) ls (xL v :: st) μ) : XW p l e R s m args below meth c Q ad dC dI B n0 s0 pc ls (st) μ :=
  XW.pure (st' := xL v :: st) (fun H locs lsA cells slots hl ho hs => ⟨fun w => lv_ldc2 C.2.1 C.2.2.1 C.2.2.2.2.2.1 hk hd w, okc.mpr ⟨hv, hs⟩⟩) k
theorem xw_iload_n {k0 : Fin 4} {x : Int} (C : XC p s m args meth c dC dI q r) (hd : decode r.1.2.1 pc = .ok (.iload_n k0, 1)) (hx : ls[k0.val]? = some (xI x)) (k : XW p l e R s m args below meth c Q ad dC dI B n0 s0 (pc + 1) ls (xI x :: st) μ) : XW p l e R s m args below meth c Q ad dC dI B n0 s0 pc ls (st) μ :=
  XW.pure (st' := xI x :: st) (fun H locs lsA cells slots hl ho hs => ⟨fun w => lv_iload_n C.2.1 C.2.2.1 hd rfl (has_at hl hx (fun h => by cases h)) w, okc.mpr ⟨ok_at ho hx, hs⟩⟩) k
theorem xw_iload {k0 : Nat} {x : Int} (C : XC p s m args meth c dC dI q r) (hd : decode r.1.2.1 pc = .ok (.iload k0, 2)) (hx : ls[k0]? = some (xI x)) (k : XW p l e R s m args below meth c Q ad dC dI B n0 s0 (pc + 2) ls (xI x :: st) μ) : XW p l e R s m args below meth c Q ad dC dI B n0 s0 pc ls (st) μ :=
  XW.pure (st' := xI x :: st) (fun H locs lsA cells slots hl ho hs => ⟨fun w => lv_iload C.2.1 C.2.2.1 hd (has_at hl hx (fun h => by cases h)) w, okc.mpr ⟨ok_at ho hx, hs⟩⟩) k
theorem xw_lload_n {k0 : Fin 4} {x : Int} (C : XC p s m args meth c dC dI q r) (hd : decode r.1.2.1 pc = .ok (.lload_n k0, 1)) (hx : ls[k0.val]? = some (xL x)) (k : XW p l e R s m args below meth c Q ad dC dI B n0 s0 (pc + 1) ls (xL x :: st) μ) : XW p l e R s m args below meth c Q ad dC dI B n0 s0 pc ls (st) μ :=
  XW.pure (st' := xL x :: st) (fun H locs lsA cells slots hl ho hs => ⟨fun w => lv_lload_n C.2.1 C.2.2.1 hd rfl (has_at hl hx (fun h => by cases h)) w, okc.mpr ⟨ok_at ho hx, hs⟩⟩) k
theorem xw_lload {k0 : Nat} {x : Int} (C : XC p s m args meth c dC dI q r) (hd : decode r.1.2.1 pc = .ok (.lload k0, 2)) (hx : ls[k0]? = some (xL x)) (k : XW p l e R s m args below meth c Q ad dC dI B n0 s0 (pc + 2) ls (xL x :: st) μ) : XW p l e R s m args below meth c Q ad dC dI B n0 s0 pc ls (st) μ :=
  XW.pure (st' := xL x :: st) (fun H locs lsA cells slots hl ho hs => ⟨fun w => lv_lload C.2.1 C.2.2.1 hd (has_at hl hx (fun h => by cases h)) w, okc.mpr ⟨ok_at ho hx, hs⟩⟩) k
theorem xw_aload_n {k0 : Fin 4} {x : Nat} (C : XC p s m args meth c dC dI q r) (hd : decode r.1.2.1 pc = .ok (.aload_n k0, 1)) (hx : ls[k0.val]? = some (xR x)) (k : XW p l e R s m args below meth c Q ad dC dI B n0 s0 (pc + 1) ls (xR x :: st) μ) : XW p l e R s m args below meth c Q ad dC dI B n0 s0 pc ls (st) μ :=
  XW.pure (st' := xR x :: st) (fun H locs lsA cells slots hl ho hs => ⟨fun w => lv_aload_n C.2.1 C.2.2.1 hd rfl (has_at hl hx (fun h => by cases h)) w, okc.mpr ⟨ok_at ho hx, hs⟩⟩) k
theorem xw_aload {k0 : Nat} {x : Nat} (C : XC p s m args meth c dC dI q r) (hd : decode r.1.2.1 pc = .ok (.aload k0, 2)) (hx : ls[k0]? = some (xR x)) (k : XW p l e R s m args below meth c Q ad dC dI B n0 s0 (pc + 2) ls (xR x :: st) μ) : XW p l e R s m args below meth c Q ad dC dI B n0 s0 pc ls (st) μ :=
  XW.pure (st' := xR x :: st) (fun H locs lsA cells slots hl ho hs => ⟨fun w => lv_aload C.2.1 C.2.2.1 hd (has_at hl hx (fun h => by cases h)) w, okc.mpr ⟨ok_at ho hx, hs⟩⟩) k
theorem xw_iadd {x y : Int} (C : XC p s m args meth c dC dI q r) (hd : decode r.1.2.1 pc = .ok (.iadd, 1)) (hr : i32 (x + y)) (k : XW p l e R s m args below meth c Q ad dC dI B n0 s0 (pc + 1) ls (xI (x + y) :: st) μ) : XW p l e R s m args below meth c Q ad dC dI B n0 s0 pc ls (xI y :: xI x :: st) μ :=
  XW.pure (st' := xI (x + y) :: st) (fun H locs lsA cells slots hl ho hs => ⟨fun w => lv_iadd C.2.1 C.2.2.1 hd (by rw [show Value.int (Int32.ofInt x + Int32.ofInt y) = tv ad (xI (x + y)) from by simp [tv]]; exact w), okc.mpr ⟨hr, (okc.mp (okc.mp hs).2).2⟩⟩) k
theorem xw_isub {x y : Int} (C : XC p s m args meth c dC dI q r) (hd : decode r.1.2.1 pc = .ok (.isub, 1)) (hr : i32 (x - y)) (k : XW p l e R s m args below meth c Q ad dC dI B n0 s0 (pc + 1) ls (xI (x - y) :: st) μ) : XW p l e R s m args below meth c Q ad dC dI B n0 s0 pc ls (xI y :: xI x :: st) μ :=
  XW.pure (st' := xI (x - y) :: st) (fun H locs lsA cells slots hl ho hs => ⟨fun w => lv_isub C.2.1 C.2.2.1 hd (by rw [show Value.int (Int32.ofInt x - Int32.ofInt y) = tv ad (xI (x - y)) from by simp [tv]]; exact w), okc.mpr ⟨hr, (okc.mp (okc.mp hs).2).2⟩⟩) k
theorem xw_imul {x y : Int} (C : XC p s m args meth c dC dI q r) (hd : decode r.1.2.1 pc = .ok (.imul, 1)) (hr : i32 (x * y)) (k : XW p l e R s m args below meth c Q ad dC dI B n0 s0 (pc + 1) ls (xI (x * y) :: st) μ) : XW p l e R s m args below meth c Q ad dC dI B n0 s0 pc ls (xI y :: xI x :: st) μ :=
  XW.pure (st' := xI (x * y) :: st) (fun H locs lsA cells slots hl ho hs => ⟨fun w => lv_imul C.2.1 C.2.2.1 hd (by rw [show Value.int (Int32.ofInt x * Int32.ofInt y) = tv ad (xI (x * y)) from by simp [tv]]; exact w), okc.mpr ⟨hr, (okc.mp (okc.mp hs).2).2⟩⟩) k
theorem xw_idiv {x y : Int} (C : XC p s m args meth c dC dI q r) (hd : decode r.1.2.1 pc = .ok (.idiv, 1)) (hy : 0 < y) (k : XW p l e R s m args below meth c Q ad dC dI B n0 s0 (pc + 1) ls (xI (x.tdiv y) :: st) μ) : XW p l e R s m args below meth c Q ad dC dI B n0 s0 pc ls (xI y :: xI x :: st) μ :=
  XW.pure (st' := xI (x.tdiv y) :: st) (fun H locs lsA cells slots hl ho hs => ⟨fun w => lv_idiv C.2.1 C.2.2.1 hd (ne32 (okc.mp hs).1 hy) (by rw [show Value.int (Int32.ofInt x / Int32.ofInt y) = tv ad (xI (x.tdiv y)) from by (show _ = Value.int (Int32.ofInt (x.tdiv y)); rw [div32 (okc.mp (okc.mp hs).2).1 (okc.mp hs).1])]; exact w), okc.mpr ⟨i32_tdiv (okc.mp (okc.mp hs).2).1 hy, (okc.mp (okc.mp hs).2).2⟩⟩) k
theorem xw_irem {x y : Int} (C : XC p s m args meth c dC dI q r) (hd : decode r.1.2.1 pc = .ok (.irem, 1)) (hy : 0 < y) (k : XW p l e R s m args below meth c Q ad dC dI B n0 s0 (pc + 1) ls (xI (x.tmod y) :: st) μ) : XW p l e R s m args below meth c Q ad dC dI B n0 s0 pc ls (xI y :: xI x :: st) μ :=
  XW.pure (st' := xI (x.tmod y) :: st) (fun H locs lsA cells slots hl ho hs => ⟨fun w => lv_irem C.2.1 C.2.2.1 hd (ne32 (okc.mp hs).1 hy) (by rw [show Value.int (Int32.ofInt x - Int32.ofInt x / Int32.ofInt y * Int32.ofInt y) = tv ad (xI (x.tmod y)) from by (show _ = Value.int (Int32.ofInt (x.tmod y)); rw [rem32 (okc.mp (okc.mp hs).2).1 (okc.mp hs).1])]; exact w), okc.mpr ⟨i32_tmod (okc.mp (okc.mp hs).2).1, (okc.mp (okc.mp hs).2).2⟩⟩) k
theorem xw_iand {x y : Int} (C : XC p s m args meth c dC dI q r) (hd : decode r.1.2.1 pc = .ok (.iand, 1)) (k : XW p l e R s m args below meth c Q ad dC dI B n0 s0 (pc + 1) ls (xI (b32 (fun a b => a &&& b) x y) :: st) μ) : XW p l e R s m args below meth c Q ad dC dI B n0 s0 pc ls (xI y :: xI x :: st) μ :=
  XW.pure (st' := xI (b32 (fun a b => a &&& b) x y) :: st) (fun H locs lsA cells slots hl ho hs => ⟨fun w => lv_iand C.2.1 C.2.2.1 hd (by rw [show Value.int (Int32.ofInt x &&& Int32.ofInt y) = tv ad (xI (b32 (fun a b => a &&& b) x y)) from by (show _ = Value.int (Int32.ofInt (b32 _ x y)); rw [b32, Int32.ofInt_toInt])]; exact w), okc.mpr ⟨n32i _, (okc.mp (okc.mp hs).2).2⟩⟩) k
theorem xw_ior {x y : Int} (C : XC p s m args meth c dC dI q r) (hd : decode r.1.2.1 pc = .ok (.ior, 1)) (k : XW p l e R s m args below meth c Q ad dC dI B n0 s0 (pc + 1) ls (xI (b32 (fun a b => a ||| b) x y) :: st) μ) : XW p l e R s m args below meth c Q ad dC dI B n0 s0 pc ls (xI y :: xI x :: st) μ :=
  XW.pure (st' := xI (b32 (fun a b => a ||| b) x y) :: st) (fun H locs lsA cells slots hl ho hs => ⟨fun w => lv_ior C.2.1 C.2.2.1 hd (by rw [show Value.int (Int32.ofInt x ||| Int32.ofInt y) = tv ad (xI (b32 (fun a b => a ||| b) x y)) from by (show _ = Value.int (Int32.ofInt (b32 _ x y)); rw [b32, Int32.ofInt_toInt])]; exact w), okc.mpr ⟨n32i _, (okc.mp (okc.mp hs).2).2⟩⟩) k
theorem xw_ixor {x y : Int} (C : XC p s m args meth c dC dI q r) (hd : decode r.1.2.1 pc = .ok (.ixor, 1)) (k : XW p l e R s m args below meth c Q ad dC dI B n0 s0 (pc + 1) ls (xI (b32 (fun a b => a ^^^ b) x y) :: st) μ) : XW p l e R s m args below meth c Q ad dC dI B n0 s0 pc ls (xI y :: xI x :: st) μ :=
  XW.pure (st' := xI (b32 (fun a b => a ^^^ b) x y) :: st) (fun H locs lsA cells slots hl ho hs => ⟨fun w => lv_ixor C.2.1 C.2.2.1 hd (by rw [show Value.int (Int32.ofInt x ^^^ Int32.ofInt y) = tv ad (xI (b32 (fun a b => a ^^^ b) x y)) from by (show _ = Value.int (Int32.ofInt (b32 _ x y)); rw [b32, Int32.ofInt_toInt])]; exact w), okc.mpr ⟨n32i _, (okc.mp (okc.mp hs).2).2⟩⟩) k
theorem xw_ishl {x y : Int} (C : XC p s m args meth c dC dI q r) (hd : decode r.1.2.1 pc = .ok (.ishl, 1)) (k : XW p l e R s m args below meth c Q ad dC dI B n0 s0 (pc + 1) ls (xI (b32 (fun a b => a <<< (b &&& 31)) x y) :: st) μ) : XW p l e R s m args below meth c Q ad dC dI B n0 s0 pc ls (xI y :: xI x :: st) μ :=
  XW.pure (st' := xI (b32 (fun a b => a <<< (b &&& 31)) x y) :: st) (fun H locs lsA cells slots hl ho hs => ⟨fun w => lv_ishl C.2.1 C.2.2.1 hd (by rw [show Value.int (Int32.ofInt x <<< (Int32.ofInt y &&& 31)) = tv ad (xI (b32 (fun a b => a <<< (b &&& 31)) x y)) from by (show _ = Value.int (Int32.ofInt (b32 _ x y)); rw [b32, Int32.ofInt_toInt])]; exact w), okc.mpr ⟨n32i _, (okc.mp (okc.mp hs).2).2⟩⟩) k
theorem xw_ishr {x y : Int} (C : XC p s m args meth c dC dI q r) (hd : decode r.1.2.1 pc = .ok (.ishr, 1)) (k : XW p l e R s m args below meth c Q ad dC dI B n0 s0 (pc + 1) ls (xI (b32 (fun a b => a >>> (b &&& 31)) x y) :: st) μ) : XW p l e R s m args below meth c Q ad dC dI B n0 s0 pc ls (xI y :: xI x :: st) μ :=
  XW.pure (st' := xI (b32 (fun a b => a >>> (b &&& 31)) x y) :: st) (fun H locs lsA cells slots hl ho hs => ⟨fun w => lv_ishr C.2.1 C.2.2.1 hd (by rw [show Value.int (Int32.ofInt x >>> (Int32.ofInt y &&& 31)) = tv ad (xI (b32 (fun a b => a >>> (b &&& 31)) x y)) from by (show _ = Value.int (Int32.ofInt (b32 _ x y)); rw [b32, Int32.ofInt_toInt])]; exact w), okc.mpr ⟨n32i _, (okc.mp (okc.mp hs).2).2⟩⟩) k
theorem xw_ineg {x : Int} (C : XC p s m args meth c dC dI q r) (hd : decode r.1.2.1 pc = .ok (.ineg, 1)) (hr : i32 (-x)) (k : XW p l e R s m args below meth c Q ad dC dI B n0 s0 (pc + 1) ls (xI (-x) :: st) μ) : XW p l e R s m args below meth c Q ad dC dI B n0 s0 pc ls (xI x :: st) μ :=
  XW.pure (st' := xI (-x) :: st) (fun H locs lsA cells slots hl ho hs => ⟨fun w => lv_ineg C.2.1 C.2.2.1 hd (by rw [show Value.int (-Int32.ofInt x) = tv ad (xI (-x)) from by simp [tv]]; exact w), okc.mpr ⟨hr, (okc.mp hs).2⟩⟩) k
theorem xw_i2l {x : Int} (C : XC p s m args meth c dC dI q r) (hd : decode r.1.2.1 pc = .ok (.i2l, 1)) (k : XW p l e R s m args below meth c Q ad dC dI B n0 s0 (pc + 1) ls (xL x :: st) μ) : XW p l e R s m args below meth c Q ad dC dI B n0 s0 pc ls (xI x :: st) μ :=
  XW.pure (st' := xL x :: st) (fun H locs lsA cells slots hl ho hs => ⟨fun w => lv_i2l (v := Int64.ofInt x) C.2.1 C.2.2.1 hd (l64 (okc.mp hs).1) w, okc.mpr ⟨i64_of (okc.mp hs).1, (okc.mp hs).2⟩⟩) k
theorem xw_l2i {x : Int} (C : XC p s m args meth c dC dI q r) (hd : decode r.1.2.1 pc = .ok (.l2i, 1)) (k : XW p l e R s m args below meth c Q ad dC dI B n0 s0 (pc + 1) ls (xI (Int64.ofInt x).toInt32.toInt :: st) μ) : XW p l e R s m args below meth c Q ad dC dI B n0 s0 pc ls (xL x :: st) μ :=
  XW.pure (st' := xI (Int64.ofInt x).toInt32.toInt :: st) (fun H locs lsA cells slots hl ho hs => ⟨fun w => lv_l2i (v := Int32.ofInt (Int64.ofInt x).toInt32.toInt) C.2.1 C.2.2.1 hd (Int32.ofInt_toInt _).symm w, okc.mpr ⟨n32i _, (okc.mp hs).2⟩⟩) k
theorem xw_lmul {x y : Int} (C : XC p s m args meth c dC dI q r) (hd : decode r.1.2.1 pc = .ok (.lmul, 1)) (hr : i64 (x * y)) (k : XW p l e R s m args below meth c Q ad dC dI B n0 s0 (pc + 1) ls (xL (x * y) :: st) μ) : XW p l e R s m args below meth c Q ad dC dI B n0 s0 pc ls (xL y :: xL x :: st) μ :=
  XW.pure (st' := xL (x * y) :: st) (fun H locs lsA cells slots hl ho hs => ⟨fun w => lv_lmul C.2.1 C.2.2.1 hd (by rw [show Value.long (Int64.ofInt x * Int64.ofInt y) = tv ad (xL (x * y)) from by simp [tv]]; exact w), okc.mpr ⟨hr, (okc.mp (okc.mp hs).2).2⟩⟩) k
theorem xw_ldiv {x y : Int} (C : XC p s m args meth c dC dI q r) (hd : decode r.1.2.1 pc = .ok (.ldiv, 1)) (hy : 0 < y) (k : XW p l e R s m args below meth c Q ad dC dI B n0 s0 (pc + 1) ls (xL (x.tdiv y) :: st) μ) : XW p l e R s m args below meth c Q ad dC dI B n0 s0 pc ls (xL y :: xL x :: st) μ :=
  XW.pure (st' := xL (x.tdiv y) :: st) (fun H locs lsA cells slots hl ho hs => ⟨fun w => lv_ldiv C.2.1 C.2.2.1 hd (ne64 (okc.mp hs).1 hy) (by rw [show Value.long (Int64.ofInt x / Int64.ofInt y) = tv ad (xL (x.tdiv y)) from by (show _ = Value.long (Int64.ofInt (x.tdiv y)); rw [div64 (okc.mp (okc.mp hs).2).1 (okc.mp hs).1])]; exact w), okc.mpr ⟨i64_tdiv (okc.mp (okc.mp hs).2).1 hy, (okc.mp (okc.mp hs).2).2⟩⟩) k
theorem xw_lrem {x y : Int} (C : XC p s m args meth c dC dI q r) (hd : decode r.1.2.1 pc = .ok (.lrem, 1)) (hy : 0 < y) (k : XW p l e R s m args below meth c Q ad dC dI B n0 s0 (pc + 1) ls (xL (x.tmod y) :: st) μ) : XW p l e R s m args below meth c Q ad dC dI B n0 s0 pc ls (xL y :: xL x :: st) μ :=
  XW.pure (st' := xL (x.tmod y) :: st) (fun H locs lsA cells slots hl ho hs => ⟨fun w => lv_lrem C.2.1 C.2.2.1 hd (ne64 (okc.mp hs).1 hy) (by rw [show Value.long (Int64.ofInt x - Int64.ofInt x / Int64.ofInt y * Int64.ofInt y) = tv ad (xL (x.tmod y)) from by (show _ = Value.long (Int64.ofInt (x.tmod y)); rw [rem64 (okc.mp (okc.mp hs).2).1 (okc.mp hs).1])]; exact w), okc.mpr ⟨i64_tmod (okc.mp (okc.mp hs).2).1, (okc.mp (okc.mp hs).2).2⟩⟩) k
theorem xw_land {x y : Int} (C : XC p s m args meth c dC dI q r) (hd : decode r.1.2.1 pc = .ok (.land, 1)) (k : XW p l e R s m args below meth c Q ad dC dI B n0 s0 (pc + 1) ls (xL (b64 (fun a b => a &&& b) x y) :: st) μ) : XW p l e R s m args below meth c Q ad dC dI B n0 s0 pc ls (xL y :: xL x :: st) μ :=
  XW.pure (st' := xL (b64 (fun a b => a &&& b) x y) :: st) (fun H locs lsA cells slots hl ho hs => ⟨fun w => lv_land C.2.1 C.2.2.1 hd (by rw [show Value.long (Int64.ofInt x &&& Int64.ofInt y) = tv ad (xL (b64 (fun a b => a &&& b) x y)) from by (show _ = Value.long (Int64.ofInt (b64 _ x y)); rw [b64, Int64.ofInt_toInt])]; exact w), okc.mpr ⟨n64i _, (okc.mp (okc.mp hs).2).2⟩⟩) k
theorem xw_lor {x y : Int} (C : XC p s m args meth c dC dI q r) (hd : decode r.1.2.1 pc = .ok (.lor, 1)) (k : XW p l e R s m args below meth c Q ad dC dI B n0 s0 (pc + 1) ls (xL (b64 (fun a b => a ||| b) x y) :: st) μ) : XW p l e R s m args below meth c Q ad dC dI B n0 s0 pc ls (xL y :: xL x :: st) μ :=
  XW.pure (st' := xL (b64 (fun a b => a ||| b) x y) :: st) (fun H locs lsA cells slots hl ho hs => ⟨fun w => lv_lor C.2.1 C.2.2.1 hd (by rw [show Value.long (Int64.ofInt x ||| Int64.ofInt y) = tv ad (xL (b64 (fun a b => a ||| b) x y)) from by (show _ = Value.long (Int64.ofInt (b64 _ x y)); rw [b64, Int64.ofInt_toInt])]; exact w), okc.mpr ⟨n64i _, (okc.mp (okc.mp hs).2).2⟩⟩) k
theorem xw_lshl {x y : Int} (C : XC p s m args meth c dC dI q r) (hd : decode r.1.2.1 pc = .ok (.lshl, 1)) (k : XW p l e R s m args below meth c Q ad dC dI B n0 s0 (pc + 1) ls (xL (s64 (fun a b => a <<< (b.toInt64 &&& 63)) x y) :: st) μ) : XW p l e R s m args below meth c Q ad dC dI B n0 s0 pc ls (xI y :: xL x :: st) μ :=
  XW.pure (st' := xL (s64 (fun a b => a <<< (b.toInt64 &&& 63)) x y) :: st) (fun H locs lsA cells slots hl ho hs => ⟨fun w => lv_lshl (v := Int64.ofInt (s64 (fun a b => a <<< (b.toInt64 &&& 63)) x y)) C.2.1 C.2.2.1 hd (by rw [s64, Int64.ofInt_toInt]) w, okc.mpr ⟨n64i _, (okc.mp (okc.mp hs).2).2⟩⟩) k
theorem xw_lshr {x y : Int} (C : XC p s m args meth c dC dI q r) (hd : decode r.1.2.1 pc = .ok (.lshr, 1)) (k : XW p l e R s m args below meth c Q ad dC dI B n0 s0 (pc + 1) ls (xL (s64 (fun a b => a >>> (b.toInt64 &&& 63)) x y) :: st) μ) : XW p l e R s m args below meth c Q ad dC dI B n0 s0 pc ls (xI y :: xL x :: st) μ :=
  XW.pure (st' := xL (s64 (fun a b => a >>> (b.toInt64 &&& 63)) x y) :: st) (fun H locs lsA cells slots hl ho hs => ⟨fun w => lv_lshr (v := Int64.ofInt (s64 (fun a b => a >>> (b.toInt64 &&& 63)) x y)) C.2.1 C.2.2.1 hd (by rw [s64, Int64.ofInt_toInt]) w, okc.mpr ⟨n64i _, (okc.mp (okc.mp hs).2).2⟩⟩) k
theorem xw_lushr {x y : Int} (C : XC p s m args meth c dC dI q r) (hd : decode r.1.2.1 pc = .ok (.lushr, 1)) (k : XW p l e R s m args below meth c Q ad dC dI B n0 s0 (pc + 1) ls (xL (s64 (fun a b => (a.toUInt64 >>> (b.toInt64.toUInt64 &&& Int64.toUInt64 63)).toInt64) x y) :: st) μ) : XW p l e R s m args below meth c Q ad dC dI B n0 s0 pc ls (xI y :: xL x :: st) μ :=
  XW.pure (st' := xL (s64 (fun a b => (a.toUInt64 >>> (b.toInt64.toUInt64 &&& Int64.toUInt64 63)).toInt64) x y) :: st) (fun H locs lsA cells slots hl ho hs => ⟨fun w => lv_lushr (v := Int64.ofInt (s64 (fun a b => (a.toUInt64 >>> (b.toInt64.toUInt64 &&& Int64.toUInt64 63)).toInt64) x y)) C.2.1 C.2.2.1 hd (by rw [s64, Int64.ofInt_toInt]) w, okc.mpr ⟨n64i _, (okc.mp (okc.mp hs).2).2⟩⟩) k
theorem xw_lcmp {x y : Int} (C : XC p s m args meth c dC dI q r) (hd : decode r.1.2.1 pc = .ok (.lcmp, 1)) (k : XW p l e R s m args below meth c Q ad dC dI B n0 s0 (pc + 1) ls (xI (if x < y then -1 else if x = y then 0 else 1) :: st) μ) : XW p l e R s m args below meth c Q ad dC dI B n0 s0 pc ls (xL y :: xL x :: st) μ :=
  XW.pure (st' := xI (if x < y then -1 else if x = y then 0 else 1) :: st) (fun H locs lsA cells slots hl ho hs => ⟨fun w => W.lcmp C.2.1 C.2.2.1 hd (by rw [cmp64 (okc.mp (okc.mp hs).2).1 (okc.mp hs).1]; exact w), okc.mpr ⟨(by show i32 _; split <;> first | decide | (split <;> decide)), (okc.mp (okc.mp hs).2).2⟩⟩) k
theorem c1_cat {v : XV} (h : c1 v = true) : (tv ad v).category = 1 := by
  rcases v with x | x | x | x
  · rfl
  · cases h
  · rfl
  · cases h
theorem xw_dup {v : XV} (C : XC p s m args meth c dC dI q r) (hd : decode r.1.2.1 pc = .ok (.dup, 1)) (hv : c1 v = true) (k : XW p l e R s m args below meth c Q ad dC dI B n0 s0 (pc + 1) ls (v :: v :: st) μ) : XW p l e R s m args below meth c Q ad dC dI B n0 s0 pc ls (v :: st) μ :=
  XW.pure (st' := v :: v :: st) (fun H locs lsA cells slots hl ho hs => ⟨fun w => lv_dup C.2.1 C.2.2.1 hd (c1_cat hv) w, okc.mpr ⟨(okc.mp hs).1, hs⟩⟩) k
theorem xw_dup_x1 {v u : XV} (C : XC p s m args meth c dC dI q r) (hd : decode r.1.2.1 pc = .ok (.dup_x1, 1)) (hv : c1 v = true) (hu : c1 u = true) (k : XW p l e R s m args below meth c Q ad dC dI B n0 s0 (pc + 1) ls (v :: u :: v :: st) μ) : XW p l e R s m args below meth c Q ad dC dI B n0 s0 pc ls (v :: u :: st) μ :=
  XW.pure (st' := v :: u :: v :: st) (fun H locs lsA cells slots hl ho hs => ⟨fun w => lv_dup_x1 C.2.1 C.2.2.1 hd (c1_cat hv) (c1_cat hu) w, okc.mpr ⟨(okc.mp hs).1, okc.mpr ⟨(okc.mp (okc.mp hs).2).1, okc.mpr ⟨(okc.mp hs).1, (okc.mp (okc.mp hs).2).2⟩⟩⟩⟩) k
theorem xw_dup2 {v u : XV} (C : XC p s m args meth c dC dI q r) (hd : decode r.1.2.1 pc = .ok (.dup2, 1)) (hv : c1 v = true) (hu : c1 u = true) (k : XW p l e R s m args below meth c Q ad dC dI B n0 s0 (pc + 1) ls (v :: u :: v :: u :: st) μ) : XW p l e R s m args below meth c Q ad dC dI B n0 s0 pc ls (v :: u :: st) μ :=
  XW.pure (st' := v :: u :: v :: u :: st) (fun H locs lsA cells slots hl ho hs => ⟨fun w => lv_dup2_11 C.2.1 C.2.2.1 hd (c1_cat hv) (c1_cat hu) w, okc.mpr ⟨(okc.mp hs).1, okc.mpr ⟨(okc.mp (okc.mp hs).2).1, hs⟩⟩⟩) k
theorem xw_goto {off : Int} {t : Nat} (C : XC p s m args meth c dC dI q r) (hd : decode r.1.2.1 pc = .ok (.goto off, 3)) (ht : (pc : Int) + off = (t : Int)) (k : XW p l e R s m args below meth c Q ad dC dI B n0 s0 t ls st μ) : XW p l e R s m args below meth c Q ad dC dI B n0 s0 pc ls st μ :=
  XW.pure (st' := st) (fun H locs lsA cells slots hl ho hs => ⟨fun w => lv_goto C.2.1 C.2.2.1 hd ht w, hs⟩) k
def cP (c : ClassFile.Cond) (x y : Int) : Prop := match c with
  | .eq => x = y
  | .ne => ¬ x = y
  | .lt => x < y
  | .ge => y ≤ x
  | .gt => y < x
  | .le => x ≤ y
theorem br_spec {cnd : ClassFile.Cond} {x y : Int} {a b : Option XR} {z : XR} (h : br cnd x y a b = some z) : (cP cnd x y ∧ a = some z) ∨ (¬ cP cnd x y ∧ b = some z) := by
  cases cnd <;> simp only [br] at h <;> simp only [cP] <;> split at h <;> first | exact Or.inl ⟨by assumption, h⟩ | exact Or.inr ⟨by assumption, h⟩ | exact Or.inr ⟨fun z => z (by assumption), h⟩
theorem xw_if {cnd : ClassFile.Cond} {x off : Int} {t : Nat} (C : XC p s m args meth c dC dI q r) (hd : decode r.1.2.1 pc = .ok (.ifCond cnd off, 3)) (ht : (pc : Int) + off = (t : Int)) (k1 : cP cnd x 0 → XW p l e R s m args below meth c Q ad dC dI B n0 s0 t ls st μ) (k2 : ¬ cP cnd x 0 → XW p l e R s m args below meth c Q ad dC dI B n0 s0 (pc + 3) ls st μ) : XW p l e R s m args below meth c Q ad dC dI B n0 s0 pc ls (xI x :: st) μ := by
  intro H locs lsA h1 h2 h3 h4 h5 h6 h7 h8
  have hx := (okc.mp h4).1
  have K1 := fun h => k1 h H locs lsA h1 h2 h3 (okc.mp h4).2 h5 h6 h7 h8
  have K2 := fun h => k2 h H locs lsA h1 h2 h3 (okc.mp h4).2 h5 h6 h7 h8
  have ex : Int32.ofInt x = 0 ↔ x = 0 := by rw [← o32]; exact eq32 hx z32
  have lx : Int32.ofInt x < 0 ↔ x < 0 := by rw [← o32]; exact lt32 hx z32
  have lx' : 0 < Int32.ofInt x ↔ 0 < x := by rw [← o32]; exact lt32 z32 hx
  have gx : Int32.ofInt x ≤ 0 ↔ x ≤ 0 := by rw [← o32]; exact le32 hx z32
  have gx' : 0 ≤ Int32.ofInt x ↔ 0 ≤ x := by rw [← o32]; exact le32 z32 hx
  cases cnd
  · exact lv_if_eq C.2.1 C.2.2.1 hd ht (fun h => K1 (ex.mp h)) (fun h => K2 (fun z => h (ex.mpr z)))
  · exact lv_if_ne C.2.1 C.2.2.1 hd ht (fun h => K1 (fun z => h (ex.mpr z))) (fun h => K2 (fun z => z (ex.mp h)))
  · exact lv_if_lt C.2.1 C.2.2.1 hd ht (fun h => K1 (lx.mp h)) (fun h => K2 (fun z => h (lx.mpr z)))
  · exact lv_if_ge C.2.1 C.2.2.1 hd ht (fun h => K1 (gx'.mp h)) (fun h => K2 (fun z => h (gx'.mpr z)))
  · exact lv_if_gt C.2.1 C.2.2.1 hd ht (fun h => K1 (lx'.mp h)) (fun h => K2 (fun z => h (lx'.mpr z)))
  · exact lv_if_le C.2.1 C.2.2.1 hd ht (fun h => K1 (gx.mp h)) (fun h => K2 (fun z => h (gx.mpr z)))
theorem xw_icmp {cnd : ClassFile.Cond} {x y off : Int} {t : Nat} (C : XC p s m args meth c dC dI q r) (hd : decode r.1.2.1 pc = .ok (.if_icmp cnd off, 3)) (ht : (pc : Int) + off = (t : Int)) (k1 : cP cnd x y → XW p l e R s m args below meth c Q ad dC dI B n0 s0 t ls st μ) (k2 : ¬ cP cnd x y → XW p l e R s m args below meth c Q ad dC dI B n0 s0 (pc + 3) ls st μ) : XW p l e R s m args below meth c Q ad dC dI B n0 s0 pc ls (xI y :: xI x :: st) μ := by
  intro H locs lsA h1 h2 h3 h4 h5 h6 h7 h8
  have hy := (okc.mp h4).1
  have hx := (okc.mp (okc.mp h4).2).1
  have h4 := (okc.mp (okc.mp h4).2).2
  have K1 := fun h => k1 h H locs lsA h1 h2 h3 h4 h5 h6 h7 h8
  have K2 := fun h => k2 h H locs lsA h1 h2 h3 h4 h5 h6 h7 h8
  have ex := eq32 hx hy
  have lx := lt32 hx hy
  have lx' := lt32 hy hx
  have gx := le32 hx hy
  have gx' := le32 hy hx
  cases cnd
  · exact lv_icmp_eq C.2.1 C.2.2.1 hd ht (fun h => K1 (ex.mp h)) (fun h => K2 (fun z => h (ex.mpr z)))
  · exact lv_icmp_ne C.2.1 C.2.2.1 hd ht (fun h => K1 (fun z => h (ex.mpr z))) (fun h => K2 (fun z => z (ex.mp h)))
  · exact lv_icmp_lt C.2.1 C.2.2.1 hd ht (fun h => K1 (lx.mp h)) (fun h => K2 (fun z => h (lx.mpr z)))
  · exact lv_icmp_ge C.2.1 C.2.2.1 hd ht (fun h => K1 (gx'.mp h)) (fun h => K2 (fun z => h (gx'.mpr z)))
  · exact lv_icmp_gt C.2.1 C.2.2.1 hd ht (fun h => K1 (lx'.mp h)) (fun h => K2 (fun z => h (lx'.mpr z)))
  · exact lv_icmp_le C.2.1 C.2.2.1 hd ht (fun h => K1 (gx.mp h)) (fun h => K2 (fun z => h (gx.mpr z)))
theorem xw_istore_n {k0 : Fin 4} {x : Int} (C : XC p s m args meth c dC dI q r) (hd : decode r.1.2.1 pc = .ok (.istore_n k0, 1)) (hn : k0.val < ls.length) (hl : lgB ls k0.val = false) (k : XW p l e R s m args below meth c Q ad dC dI B n0 s0 (pc + 1) (ls.set k0.val (xI x)) st μ) : XW p l e R s m args below meth c Q ad dC dI B n0 s0 pc ls (xI x :: st) μ := by
  intro H locs lsA h1 h2 h3 h4 h5 h6 h7 h8
  refine lv_istore_n C.2.1 C.2.2.1 hd rfl h1 (by rw [← h2]; exact hn) rfl (fun ls2 g => ?_)
  exact k H locs ls2 (has_sub g (lvl_set1 hl)) (by rw [List.length_set]; exact h2) (ok_set h3 (okc.mp h4).1) (okc.mp h4).2 h5 h6 h7 h8
theorem xw_istore {k0 : Nat} {x : Int} (C : XC p s m args meth c dC dI q r) (hd : decode r.1.2.1 pc = .ok (.istore k0, 2)) (hn : k0 < ls.length) (hl : lgB ls k0 = false) (k : XW p l e R s m args below meth c Q ad dC dI B n0 s0 (pc + 2) (ls.set k0 (xI x)) st μ) : XW p l e R s m args below meth c Q ad dC dI B n0 s0 pc ls (xI x :: st) μ := by
  intro H locs lsA h1 h2 h3 h4 h5 h6 h7 h8
  refine lv_istore C.2.1 C.2.2.1 hd h1 (by rw [← h2]; exact hn) rfl (fun ls2 g => ?_)
  exact k H locs ls2 (has_sub g (lvl_set1 hl)) (by rw [List.length_set]; exact h2) (ok_set h3 (okc.mp h4).1) (okc.mp h4).2 h5 h6 h7 h8
theorem xw_astore_n {k0 : Fin 4} {x : Nat} (C : XC p s m args meth c dC dI q r) (hd : decode r.1.2.1 pc = .ok (.astore_n k0, 1)) (hn : k0.val < ls.length) (hl : lgB ls k0.val = false) (k : XW p l e R s m args below meth c Q ad dC dI B n0 s0 (pc + 1) (ls.set k0.val (xR x)) st μ) : XW p l e R s m args below meth c Q ad dC dI B n0 s0 pc ls (xR x :: st) μ := by
  intro H locs lsA h1 h2 h3 h4 h5 h6 h7 h8
  refine lv_astore_n C.2.1 C.2.2.1 hd rfl h1 (by rw [← h2]; exact hn) rfl (fun ls2 g => ?_)
  exact k H locs ls2 (has_sub g (lvl_set1 hl)) (by rw [List.length_set]; exact h2) (ok_set h3 (okc.mp h4).1) (okc.mp h4).2 h5 h6 h7 h8
theorem xw_astore {k0 : Nat} {x : Nat} (C : XC p s m args meth c dC dI q r) (hd : decode r.1.2.1 pc = .ok (.astore k0, 2)) (hn : k0 < ls.length) (hl : lgB ls k0 = false) (k : XW p l e R s m args below meth c Q ad dC dI B n0 s0 (pc + 2) (ls.set k0 (xR x)) st μ) : XW p l e R s m args below meth c Q ad dC dI B n0 s0 pc ls (xR x :: st) μ := by
  intro H locs lsA h1 h2 h3 h4 h5 h6 h7 h8
  refine lv_astore C.2.1 C.2.2.1 hd h1 (by rw [← h2]; exact hn) rfl (fun ls2 g => ?_)
  exact k H locs ls2 (has_sub g (lvl_set1 hl)) (by rw [List.length_set]; exact h2) (ok_set h3 (okc.mp h4).1) (okc.mp h4).2 h5 h6 h7 h8
theorem xw_lstore_n {k0 : Fin 4} {x : Int} (C : XC p s m args meth c dC dI q r) (hd : decode r.1.2.1 pc = .ok (.lstore_n k0, 1)) (hn : k0.val + 1 < ls.length) (hl : lgB ls k0.val = false) (k : XW p l e R s m args below meth c Q ad dC dI B n0 s0 (pc + 1) ((ls.set k0.val (xL x)).set (k0.val + 1) xU) st μ) : XW p l e R s m args below meth c Q ad dC dI B n0 s0 pc ls (xL x :: st) μ := by
  intro H locs lsA h1 h2 h3 h4 h5 h6 h7 h8
  refine lv_lstore_n C.2.1 C.2.2.1 hd rfl h1 (by rw [← h2]; exact hn) rfl (fun ls2 g => ?_)
  exact k H locs ls2 (has_sub g (lvl_set2 hl)) (by rw [List.length_set, List.length_set]; exact h2) (ok_set (ok_set h3 (okc.mp h4).1) trivial) (okc.mp h4).2 h5 h6 h7 h8
theorem xw_lstore {k0 : Nat} {x : Int} (C : XC p s m args meth c dC dI q r) (hd : decode r.1.2.1 pc = .ok (.lstore k0, 2)) (hn : k0 + 1 < ls.length) (hl : lgB ls k0 = false) (k : XW p l e R s m args below meth c Q ad dC dI B n0 s0 (pc + 2) ((ls.set k0 (xL x)).set (k0 + 1) xU) st μ) : XW p l e R s m args below meth c Q ad dC dI B n0 s0 pc ls (xL x :: st) μ := by
  intro H locs lsA h1 h2 h3 h4 h5 h6 h7 h8
  refine lv_lstore C.2.1 C.2.2.1 hd h1 (by rw [← h2]; exact hn) rfl (fun ls2 g => ?_)
  exact k H locs ls2 (has_sub g (lvl_set2 hl)) (by rw [List.length_set, List.length_set]; exact h2) (ok_set (ok_set h3 (okc.mp h4).1) trivial) (okc.mp h4).2 h5 h6 h7 h8
theorem xw_iinc {k0 : Nat} {n x : Int} (C : XC p s m args meth c dC dI q r) (hd : decode r.1.2.1 pc = .ok (.iinc k0 n, 3)) (hx : ls[k0]? = some (xI x)) (hr : i32 (x + n)) (hn : k0 < ls.length) (hl : lgB ls k0 = false) (k : XW p l e R s m args below meth c Q ad dC dI B n0 s0 (pc + 3) (ls.set k0 (xI (x + n))) st μ) : XW p l e R s m args below meth c Q ad dC dI B n0 s0 pc ls st μ := by
  intro H locs lsA h1 h2 h3 h4 h5 h6 h7 h8
  have hm : (k0, Value.int (Int32.ofInt x)) ∈ lvl ad ls 0 := lvl_mem.mpr ⟨k0, xI x, hx, (fun h => by cases h), by rw [Nat.zero_add]; rfl⟩
  obtain ⟨j, hj⟩ := List.getElem?_of_mem hm
  refine lv_iinc (v := Int32.ofInt (x + n)) C.2.1 C.2.2.1 hd h1 hj (by rw [Int32.ofInt_add]) (by rw [← h2]; exact hn) rfl (fun ls2 g => ?_)
  exact k H locs ls2 (has_sub g (lvl_set1 (v := xI (x + n)) hl)) (by rw [List.length_set]; exact h2) (ok_set h3 hr) h4 h5 h6 h7 h8
theorem xw_tabO {d lo hi : Int} {offs : Array Int} {len : Nat} {x : Int} {t : Nat} (C : XC p s m args meth c dC dI q r) (hd : decode r.1.2.1 pc = .ok (.tableswitch d lo hi offs, len)) (h : x < lo ∨ hi < x) (ht : (pc : Int) + d = (t : Int)) (k : XW p l e R s m args below meth c Q ad dC dI B n0 s0 t ls st μ) : XW p l e R s m args below meth c Q ad dC dI B n0 s0 pc ls (xI x :: st) μ :=
  XW.pure (st' := st) (fun H locs lsA cells slots hl ho hs => ⟨fun w => lv_tableOut C.2.1 C.2.2.1 hd (by rw [n32 (okc.mp hs).1]; exact h) ht w, (okc.mp hs).2⟩) k
theorem xw_tabI {d lo hi : Int} {offs : Array Int} {len : Nat} {x off : Int} {t : Nat} (C : XC p s m args meth c dC dI q r) (hd : decode r.1.2.1 pc = .ok (.tableswitch d lo hi offs, len)) (h : ¬ (x < lo ∨ hi < x)) (ho2 : offs[(x - lo).toNat]? = some off) (ht : (pc : Int) + off = (t : Int)) (k : XW p l e R s m args below meth c Q ad dC dI B n0 s0 t ls st μ) : XW p l e R s m args below meth c Q ad dC dI B n0 s0 pc ls (xI x :: st) μ :=
  XW.pure (st' := st) (fun H locs lsA cells slots hl ho hs => ⟨fun w => lv_tableIn C.2.1 C.2.2.1 hd (by rw [n32 (okc.mp hs).1]; exact fun z => h (Or.inl z)) (by rw [n32 (okc.mp hs).1]; exact fun z => h (Or.inr z)) (by rw [n32 (okc.mp hs).1]; exact ho2) ht w, (okc.mp hs).2⟩) k
theorem xw_look {d : Int} {ps : Array (Int × Int)} {len : Nat} {x : Int} {t : Nat} (C : XC p s m args meth c dC dI q r) (hd : decode r.1.2.1 pc = .ok (.lookupswitch d ps, len)) (hp : (ps.toList.zip (ps.toList.drop 1)).all (fun (a, next) => a.1 < next.1) = true) (ht : (pc : Int) + Op.lookupswitch.offset ps.toList d x = (t : Int)) (k : XW p l e R s m args below meth c Q ad dC dI B n0 s0 t ls st μ) : XW p l e R s m args below meth c Q ad dC dI B n0 s0 pc ls (xI x :: st) μ :=
  XW.pure (st' := st) (fun H locs lsA cells slots hl ho hs => ⟨fun w => lv_lookup C.2.1 C.2.2.1 hd hp (by rw [n32 (okc.mp hs).1]) ht w, (okc.mp hs).2⟩) k
end XStep
end
section
/-! THE STEPS that touch memory -/
theorem u_sz : ∀ c : Nat, ∀ q : vw_C, clX[c]? = some q → q.2.2 = cO c
  | 0 => fun q h => by cases h; rfl
  | 1 => fun q h => by cases h; rfl
  | 2 => fun q h => by cases h; rfl
  | 3 => fun q h => by cases h; rfl
  | 4 => fun q h => by cases h; rfl
  | 5 => fun q h => by cases h; rfl
  | 6 => fun q h => by cases h; rfl
  | 7 => fun q h => by cases h; rfl
  | 8 => fun q h => by cases h; rfl
  | 9 => fun q h => by cases h; rfl
  | 10 => fun q h => by cases h; rfl
  | 11 => fun q h => by cases h; rfl
  | n + 12 => fun q h => by simp [clX] at h
section XMem0
variable {ad : Nat → Nat} {dC : Nat → ClassId} {dI : Nat → Nat → Nat} {U : State} {H : Heap} {μ : XM} {a : Nat} {i : Int}
theorem cR_1 (e : (μ.2.1 a).1 = 1) : cR ad dC dI U H μ a ↔ ∃ cA, H[ad a]? = some (arrV cA (μ.2.1 a).2 (fun j => .int (Int32.ofInt (μ.1 a j)))) ∧ ArrOfT U cA .int := by unfold cR; rw [e]
theorem cR_2 (e : (μ.2.1 a).1 = 2) : cR ad dC dI U H μ a ↔ ∃ cA, H[ad a]? = some (arrV cA (μ.2.1 a).2 (fun j => .int (Int32.ofInt (μ.1 a j)))) ∧ ArrOfT U cA .boolean := by unfold cR; rw [e]
theorem cR_3 (e : (μ.2.1 a).1 = 3) : cR ad dC dI U H μ a ↔ ∃ cA, H[ad a]? = some (arrV cA (μ.2.1 a).2 (fun j => .long (Int64.ofInt (μ.1 a j)))) ∧ ArrOfT U cA .long := by unfold cR; rw [e]
theorem cR_4 (e : (μ.2.1 a).1 = 4) : cR ad dC dI U H μ a ↔ ∃ cA, H[ad a]? = some (arrV cA (μ.2.1 a).2 (fun j => va_rf ((μ.2.2.1 a j).map ad))) ∧ ArrOfT U cA (.array .int) := by unfold cR; rw [e]
theorem cR_5 (e : (μ.2.1 a).1 = 5) : cR ad dC dI U H μ a ↔ ∃ cA, H[ad a]? = some (arrV cA (μ.2.1 a).2 (fun j => va_rf ((μ.2.2.1 a j).map ad))) ∧ ArrOfT U cA (.object "LightPlate$Row") ∧ va_RA U cA (.object "LightPlate$Row") := by unfold cR; rw [e]
theorem cR_9 (e : (μ.2.1 a).1 = 9) : cR ad dC dI U H μ a ↔ ∃ scr : Cell, H[ad a]? = some scr ∧ U.isArrayOf scr .int ∧ scr.vm ≠ .unknown ∧ scr.slots.size = (μ.2.1 a).2 ∧ ∀ j : Nat, j < (μ.2.1 a).2 → scr.slots[j]? = some (.int (Int32.ofInt (μ.1 a j))) := by unfold cR; rw [e]
theorem cR_o {k : Nat} (e : (μ.2.1 a).1 = 10 + k) : cR ad dC dI U H μ a ↔ ∃ q : vw_C, clX[k]? = some q ∧ t_OB (ad a) (dC k) q.2.2 (dI k) H (fun j => fV ad μ a k j) := by unfold cR; rw [e, Nat.add_comm]
theorem okC_1 (e : (μ.2.1 a).1 = 1) : okC μ a i ↔ i32 (μ.1 a i) := by unfold okC; rw [e]
theorem okC_2 (e : (μ.2.1 a).1 = 2) : okC μ a i ↔ (μ.1 a i = 0 ∨ μ.1 a i = 1) := by unfold okC; rw [e]
theorem okC_3 (e : (μ.2.1 a).1 = 3) : okC μ a i ↔ i64 (μ.1 a i) := by unfold okC; rw [e]
theorem okC_4 (e : (μ.2.1 a).1 = 4) : okC μ a i ↔ True := by unfold okC; rw [e]
theorem okC_5 (e : (μ.2.1 a).1 = 5) : okC μ a i ↔ True := by unfold okC; rw [e]
theorem okC_9 (e : (μ.2.1 a).1 = 9) : okC μ a i ↔ i32 (μ.1 a i) := by unfold okC; rw [e]
theorem okC_o {k : Nat} (e : (μ.2.1 a).1 = 10 + k) : okC μ a i ↔ ((fT k i.toNat = 0 → i32 (μ.1 a i)) ∧ (fT k i.toNat = 1 → μ.1 a i = 0 ∨ μ.1 a i = 1) ∧ (fT k i.toNat = 2 → i64 (μ.1 a i))) := by unfold okC; rw [e, Nat.add_comm]
theorem upd_fun {f : Int → Int} {k : Int} {x : Int} (h0 : 0 ≤ k) (mk : Int → Value) : updV (fun j : Nat => mk (f j)) k.toNat (mk x) = fun j : Nat => mk (vU f k x j) := by
  funext j
  by_cases h : j = k.toNat
  · have h2 : (j : Int) = k := by omega
    simp only [updV, vU, if_pos h, if_pos h2]
  · have h2 : ¬ (j : Int) = k := by omega
    simp [updV, vU, h, h2]
theorem vA_at {V : Nat → Int → Int} {f : Int → Int} : vA V a f a = f := by simp [vA]
theorem z01 {x : Int} (h : x = 0 ∨ x = 1) : i32 x := by rcases h with rfl | rfl <;> decide
theorem nb01 {x : Int} (h : x = 0 ∨ x = 1) : narrow .boolean (.int (Int32.ofInt x)) = .int (Int32.ofInt x) := by rcases h with rfl | rfl <;> rfl
theorem fb01 {x : Int} (h : x = 0 ∨ x = 1) : fits .boolean (.int (Int32.ofInt x)) = true := by rcases h with rfl | rfl <;> rfl
end XMem0
section XMem
variable {p : Program} {l : Launch} {ev : Env} {R : Room} {s : State} {m : MethodId} {args : Array Value} {below : List Frame} {meth : Method} {c : Code} {Q : State → Prop} {ad : Nat → Nat} {dC : Nat → ClassId} {dI : Nat → Nat → Nat} {B n0 s0 : Nat} {q : Nat} {r : MR} {pc : Nat} {ls st : List XV} {μ : XM}
theorem xw_alen {a : Nat} (C : XC p s m args meth c dC dI q r) (hd : decode r.1.2.1 pc = .ok (.arraylength, 1)) (hk : (μ.2.1 a).1 = 1 ∨ (μ.2.1 a).1 = 3 ∨ (μ.2.1 a).1 = 9) (hn : (μ.2.1 a).2 ≤ 100000) (k : XW p l ev R s m args below meth c Q ad dC dI B n0 s0 (pc + 1) ls (xI ((μ.2.1 a).2 : Nat) :: st) μ) : XW p l ev R s m args below meth c Q ad dC dI B n0 s0 pc ls (xR a :: st) μ := by
  intro H locs lsA h1 h2 h3 h4 h5 h6 h7 h8
  have K := k H locs lsA h1 h2 h3 (okc.mpr ⟨⟨by omega, by omega⟩, (okc.mp h4).2⟩) h5 h6 h7 h8
  rcases hk with e | e | e
  · obtain ⟨cA, g1, g2⟩ := (cR_1 e).mp (h5.1 a)
    exact W.alen (n := Int32.ofInt ((μ.2.1 a).2 : Nat)) C.2.1 C.2.2.1 g1 (g2 _ _) (by rw [arrV_size, Int32.ofInt_eq_ofNat]) rfl rfl hd K
  · obtain ⟨cA, g1, g2⟩ := (cR_3 e).mp (h5.1 a)
    exact W.alen (n := Int32.ofInt ((μ.2.1 a).2 : Nat)) C.2.1 C.2.2.1 g1 (g2 _ _) (by rw [arrV_size, Int32.ofInt_eq_ofNat]) rfl rfl hd K
  · obtain ⟨scr, g1, g2, g3, g4, g5⟩ := (cR_9 e).mp (h5.1 a)
    exact W.alen (n := Int32.ofInt ((μ.2.1 a).2 : Nat)) C.2.1 C.2.2.1 g1 g2 (by rw [g4, Int32.ofInt_eq_ofNat]) rfl rfl hd K
theorem xw_iald {a : Nat} {j : Int} (C : XC p s m args meth c dC dI q r) (hd : decode r.1.2.1 pc = .ok (.iaload, 1)) (e : (μ.2.1 a).1 = 1) (h0 : 0 ≤ j) (hj : j < ((μ.2.1 a).2 : Nat)) (k : XW p l ev R s m args below meth c Q ad dC dI B n0 s0 (pc + 1) ls (xI (μ.1 a j) :: st) μ) : XW p l ev R s m args below meth c Q ad dC dI B n0 s0 pc ls (xI j :: xR a :: st) μ := by
  intro H locs lsA h1 h2 h3 h4 h5 h6 h7 h8
  have hj32 : i32 j := (okc.mp h4).1
  have hok := h5.2.1 a j
  rw [okC_1 e] at hok
  have K := k H locs lsA h1 h2 h3 (okc.mpr ⟨hok, (okc.mp (okc.mp h4).2).2⟩) h5 h6 h7 h8
  obtain ⟨cA, g1, g2⟩ := (cR_1 e).mp (h5.1 a)
  exact W.iald (v := .int (Int32.ofInt (μ.1 a j))) C.2.1 C.2.2.1 g1 (g2 _ _) (fun z => by cases z) (by rw [arrV_size]; exact in32 hj32 h0 hj) (by rw [cl32 hj32, arrV_read _ _ (by omega)]; simp only [Int.toNat_of_nonneg h0]) rfl rfl hd K
theorem xw_zald {a : Nat} {j : Int} (C : XC p s m args meth c dC dI q r) (hd : decode r.1.2.1 pc = .ok (.baload, 1)) (e : (μ.2.1 a).1 = 2) (h0 : 0 ≤ j) (hj : j < ((μ.2.1 a).2 : Nat)) (k : XW p l ev R s m args below meth c Q ad dC dI B n0 s0 (pc + 1) ls (xI (μ.1 a j) :: st) μ) : XW p l ev R s m args below meth c Q ad dC dI B n0 s0 pc ls (xI j :: xR a :: st) μ := by
  intro H locs lsA h1 h2 h3 h4 h5 h6 h7 h8
  have hj32 : i32 j := (okc.mp h4).1
  have hok := h5.2.1 a j
  rw [okC_2 e] at hok
  have K := k H locs lsA h1 h2 h3 (okc.mpr ⟨z01 hok, (okc.mp (okc.mp h4).2).2⟩) h5 h6 h7 h8
  obtain ⟨cA, g1, g2⟩ := (cR_2 e).mp (h5.1 a)
  exact W.zald (v := .int (Int32.ofInt (μ.1 a j))) C.2.1 C.2.2.1 g1 (g2 _ _) (fun z => by cases z) (by rw [arrV_size]; exact in32 hj32 h0 hj) (by rw [cl32 hj32, arrV_read _ _ (by omega)]; simp only [Int.toNat_of_nonneg h0]) rfl rfl hd K
theorem xw_lald {a : Nat} {j : Int} (C : XC p s m args meth c dC dI q r) (hd : decode r.1.2.1 pc = .ok (.laload, 1)) (e : (μ.2.1 a).1 = 3) (h0 : 0 ≤ j) (hj : j < ((μ.2.1 a).2 : Nat)) (k : XW p l ev R s m args below meth c Q ad dC dI B n0 s0 (pc + 1) ls (xL (μ.1 a j) :: st) μ) : XW p l ev R s m args below meth c Q ad dC dI B n0 s0 pc ls (xI j :: xR a :: st) μ := by
  intro H locs lsA h1 h2 h3 h4 h5 h6 h7 h8
  have hj32 : i32 j := (okc.mp h4).1
  have hok := h5.2.1 a j
  rw [okC_3 e] at hok
  have K := k H locs lsA h1 h2 h3 (okc.mpr ⟨hok, (okc.mp (okc.mp h4).2).2⟩) h5 h6 h7 h8
  obtain ⟨cA, g1, g2⟩ := (cR_3 e).mp (h5.1 a)
  exact W.lald (v := .long (Int64.ofInt (μ.1 a j))) C.2.1 C.2.2.1 g1 (g2 _ _) (fun z => by cases z) (by rw [arrV_size]; exact in32 hj32 h0 hj) (by rw [cl32 hj32, arrV_read _ _ (by omega)]; simp only [Int.toNat_of_nonneg h0]) rfl rfl hd K
theorem xw_sald {a : Nat} {j : Int} (C : XC p s m args meth c dC dI q r) (hd : decode r.1.2.1 pc = .ok (.iaload, 1)) (e : (μ.2.1 a).1 = 9) (h0 : 0 ≤ j) (hj : j < ((μ.2.1 a).2 : Nat)) (k : XW p l ev R s m args below meth c Q ad dC dI B n0 s0 (pc + 1) ls (xI (μ.1 a j) :: st) μ) : XW p l ev R s m args below meth c Q ad dC dI B n0 s0 pc ls (xI j :: xR a :: st) μ := by
  intro H locs lsA h1 h2 h3 h4 h5 h6 h7 h8
  have hj32 : i32 j := (okc.mp h4).1
  have hok := h5.2.1 a j
  rw [okC_9 e] at hok
  have K := k H locs lsA h1 h2 h3 (okc.mpr ⟨hok, (okc.mp (okc.mp h4).2).2⟩) h5 h6 h7 h8
  obtain ⟨scr, g1, g2, g3, g4, g5⟩ := (cR_9 e).mp (h5.1 a)
  exact W.iald (v := .int (Int32.ofInt (μ.1 a j))) C.2.1 C.2.2.1 g1 g2 g3 (by rw [g4]; exact in32 hj32 h0 hj) (by have g6 := g5 j.toNat (by omega); rw [Int.toNat_of_nonneg h0] at g6; rw [cl32 hj32]; exact g6) rfl rfl hd K
theorem xw_aald4 {a b : Nat} {j : Int} (C : XC p s m args meth c dC dI q r) (hd : decode r.1.2.1 pc = .ok (.aaload, 1)) (e : (μ.2.1 a).1 = 4) (h0 : 0 ≤ j) (hj : j < ((μ.2.1 a).2 : Nat)) (hb : μ.2.2.1 a j = some b) (k : XW p l ev R s m args below meth c Q ad dC dI B n0 s0 (pc + 1) ls (xR b :: st) μ) : XW p l ev R s m args below meth c Q ad dC dI B n0 s0 pc ls (xI j :: xR a :: st) μ := by
  intro H locs lsA h1 h2 h3 h4 h5 h6 h7 h8
  have hj32 : i32 j := (okc.mp h4).1
  have K := k H locs lsA h1 h2 h3 (okc.mpr ⟨trivial, (okc.mp (okc.mp h4).2).2⟩) h5 h6 h7 h8
  obtain ⟨cA, g1, g2⟩ := (cR_4 e).mp (h5.1 a)
  exact W.aald (v := .ref (ad b)) (ty := .array .int) C.2.1 C.2.2.1 g1 (g2 _ _) rfl (fun z => by cases z) (by rw [arrV_size]; exact in32 hj32 h0 hj) (by rw [cl32 hj32, arrV_read _ _ (by omega)]; simp only [Int.toNat_of_nonneg h0, hb]; rfl) rfl rfl hd K
theorem xw_aald5 {a b : Nat} {j : Int} (C : XC p s m args meth c dC dI q r) (hd : decode r.1.2.1 pc = .ok (.aaload, 1)) (e : (μ.2.1 a).1 = 5) (h0 : 0 ≤ j) (hj : j < ((μ.2.1 a).2 : Nat)) (hb : μ.2.2.1 a j = some b) (k : XW p l ev R s m args below meth c Q ad dC dI B n0 s0 (pc + 1) ls (xR b :: st) μ) : XW p l ev R s m args below meth c Q ad dC dI B n0 s0 pc ls (xI j :: xR a :: st) μ := by
  intro H locs lsA h1 h2 h3 h4 h5 h6 h7 h8
  have hj32 : i32 j := (okc.mp h4).1
  have K := k H locs lsA h1 h2 h3 (okc.mpr ⟨trivial, (okc.mp (okc.mp h4).2).2⟩) h5 h6 h7 h8
  obtain ⟨cA, g1, g2, -⟩ := (cR_5 e).mp (h5.1 a)
  exact W.aald (v := .ref (ad b)) (ty := .object "LightPlate$Row") C.2.1 C.2.2.1 g1 (g2 _ _) rfl (fun z => by cases z) (by rw [arrV_size]; exact in32 hj32 h0 hj) (by rw [cl32 hj32, arrV_read _ _ (by omega)]; simp only [Int.toNat_of_nonneg h0, hb]; rfl) rfl rfl hd K
theorem xw_iast {a : Nat} {j x : Int} (C : XC p s m args meth c dC dI q r) (hd : decode r.1.2.1 pc = .ok (.iastore, 1)) (e : (μ.2.1 a).1 = 1) (h0 : 0 ≤ j) (hj : j < ((μ.2.1 a).2 : Nat)) (k : XW p l ev R s m args below meth c Q ad dC dI B n0 s0 (pc + 1) ls st (vA μ.1 a (vU (μ.1 a) j x), μ.2)) : XW p l ev R s m args below meth c Q ad dC dI B n0 s0 pc ls (xI x :: xI j :: xR a :: st) μ := by
  intro H locs lsA h1 h2 h3 h4 h5 h6 h7 h8
  have hx := (okc.mp h4).1
  have hj32 : i32 j := (okc.mp (okc.mp h4).2).1
  have h4 := (okc.mp (okc.mp (okc.mp h4).2).2).2
  have hk0 : (μ.2.1 a).1 ≠ 0 := by rw [e]; decide
  have hk9 : (μ.2.1 a).1 ≠ 9 := by rw [e]; decide
  obtain ⟨cA, g1, g2⟩ := (cR_1 e).mp (h5.1 a)
  refine W.iast C.2.1 C.2.2.1 g1 (g2 _ _) (fun z => by cases z) (by rw [arrV_size]; exact in32 hj32 h0 hj) rfl rfl hd (fun H' e1 e2 e3 => ?_)
  refine k H' _ lsA h1 h2 h3 h4 (h5.put hk0 rfl rfl (fun b hb => by simp [vA, hb]) (fun _ _ => rfl) e2 e3 ((cR_1 (μ := (vA μ.1 a (vU (μ.1 a) j x), μ.2)) e).mpr ⟨cA, ?_, g2⟩) (fun i => ?_)) (h6.put e2 e3 (h5.low hk0 hk9)) h7 h8
  · rw [e1, cl32 hj32, arrV_store, upd_fun (f := μ.1 a) h0 (fun z => .int (Int32.ofInt z))]
    simp only [vA_at]
  · rw [okC_1 (μ := (vA μ.1 a (vU (μ.1 a) j x), μ.2)) e]
    simp only [vA_at]
    have hok := h5.2.1 a i
    rw [okC_1 e] at hok
    by_cases hi : i = j
    · simp only [vU, if_pos hi]; exact hx
    · simp only [vU, if_neg hi]; exact hok
theorem xw_zast {a : Nat} {j x : Int} (C : XC p s m args meth c dC dI q r) (hd : decode r.1.2.1 pc = .ok (.bastore, 1)) (e : (μ.2.1 a).1 = 2) (hb01 : x = 0 ∨ x = 1) (h0 : 0 ≤ j) (hj : j < ((μ.2.1 a).2 : Nat)) (k : XW p l ev R s m args below meth c Q ad dC dI B n0 s0 (pc + 1) ls st (vA μ.1 a (vU (μ.1 a) j x), μ.2)) : XW p l ev R s m args below meth c Q ad dC dI B n0 s0 pc ls (xI x :: xI j :: xR a :: st) μ := by
  intro H locs lsA h1 h2 h3 h4 h5 h6 h7 h8
  have hx := (okc.mp h4).1
  have hj32 : i32 j := (okc.mp (okc.mp h4).2).1
  have h4 := (okc.mp (okc.mp (okc.mp h4).2).2).2
  have hk0 : (μ.2.1 a).1 ≠ 0 := by rw [e]; decide
  have hk9 : (μ.2.1 a).1 ≠ 9 := by rw [e]; decide
  obtain ⟨cA, g1, g2⟩ := (cR_2 e).mp (h5.1 a)
  refine W.zast C.2.1 C.2.2.1 g1 (g2 _ _) (fun z => by cases z) (by rw [arrV_size]; exact in32 hj32 h0 hj) rfl rfl hd (fun H' e1 e2 e3 => ?_)
  refine k H' _ lsA h1 h2 h3 h4 (h5.put hk0 rfl rfl (fun b hb => by simp [vA, hb]) (fun _ _ => rfl) e2 e3 ((cR_2 (μ := (vA μ.1 a (vU (μ.1 a) j x), μ.2)) e).mpr ⟨cA, ?_, g2⟩) (fun i => ?_)) (h6.put e2 e3 (h5.low hk0 hk9)) h7 h8
  · rw [e1, cl32 hj32, nb01 hb01, arrV_store, upd_fun (f := μ.1 a) h0 (fun z => .int (Int32.ofInt z))]
    simp only [vA_at]
  · rw [okC_2 (μ := (vA μ.1 a (vU (μ.1 a) j x), μ.2)) e]
    simp only [vA_at]
    have hok := h5.2.1 a i
    rw [okC_2 e] at hok
    by_cases hi : i = j
    · simp only [vU, if_pos hi]; exact hb01
    · simp only [vU, if_neg hi]; exact hok
theorem xw_last {a : Nat} {j x : Int} (C : XC p s m args meth c dC dI q r) (hd : decode r.1.2.1 pc = .ok (.lastore, 1)) (e : (μ.2.1 a).1 = 3) (h0 : 0 ≤ j) (hj : j < ((μ.2.1 a).2 : Nat)) (k : XW p l ev R s m args below meth c Q ad dC dI B n0 s0 (pc + 1) ls st (vA μ.1 a (vU (μ.1 a) j x), μ.2)) : XW p l ev R s m args below meth c Q ad dC dI B n0 s0 pc ls (xL x :: xI j :: xR a :: st) μ := by
  intro H locs lsA h1 h2 h3 h4 h5 h6 h7 h8
  have hx := (okc.mp h4).1
  have hj32 : i32 j := (okc.mp (okc.mp h4).2).1
  have h4 := (okc.mp (okc.mp (okc.mp h4).2).2).2
  have hk0 : (μ.2.1 a).1 ≠ 0 := by rw [e]; decide
  have hk9 : (μ.2.1 a).1 ≠ 9 := by rw [e]; decide
  obtain ⟨cA, g1, g2⟩ := (cR_3 e).mp (h5.1 a)
  refine W.last C.2.1 C.2.2.1 g1 (g2 _ _) (fun z => by cases z) (by rw [arrV_size]; exact in32 hj32 h0 hj) rfl rfl hd (fun H' e1 e2 e3 => ?_)
  refine k H' _ lsA h1 h2 h3 h4 (h5.put hk0 rfl rfl (fun b hb => by simp [vA, hb]) (fun _ _ => rfl) e2 e3 ((cR_3 (μ := (vA μ.1 a (vU (μ.1 a) j x), μ.2)) e).mpr ⟨cA, ?_, g2⟩) (fun i => ?_)) (h6.put e2 e3 (h5.low hk0 hk9)) h7 h8
  · rw [e1, cl32 hj32, arrV_store, upd_fun (f := μ.1 a) h0 (fun z => .long (Int64.ofInt z))]
    simp only [vA_at]
  · rw [okC_3 (μ := (vA μ.1 a (vU (μ.1 a) j x), μ.2)) e]
    simp only [vA_at]
    have hok := h5.2.1 a i
    rw [okC_3 e] at hok
    by_cases hi : i = j
    · simp only [vU, if_pos hi]; exact hx
    · simp only [vU, if_neg hi]; exact hok
theorem xw_aast {a b : Nat} {j : Int} (C : XC p s m args meth c dC dI q r) (hd : decode r.1.2.1 pc = .ok (.aastore, 1)) (e : (μ.2.1 a).1 = 5) (eb : (μ.2.1 b).1 = 16) (h0 : 0 ≤ j) (hj : j < ((μ.2.1 a).2 : Nat)) (k : XW p l ev R s m args below meth c Q ad dC dI B n0 s0 (pc + 1) ls st (μ.1, gR μ.2 a j b)) : XW p l ev R s m args below meth c Q ad dC dI B n0 s0 pc ls (xR b :: xI j :: xR a :: st) μ := by
  intro H locs lsA h1 h2 h3 h4 h5 h6 h7 h8
  have hj32 : i32 j := (okc.mp (okc.mp h4).2).1
  have h4 := (okc.mp (okc.mp (okc.mp h4).2).2).2
  have hk0 : (μ.2.1 a).1 ≠ 0 := by rw [e]; decide
  have hk9 : (μ.2.1 a).1 ≠ 9 := by rw [e]; decide
  obtain ⟨cA, g1, g2, g3⟩ := (cR_5 e).mp (h5.1 a)
  obtain ⟨qv, v0, cellV, v1, v2, v3, -⟩ := (cR_o (k := 6) eb).mp (h5.1 b)
  have hq6 : clX[6]? = some ("LightPlate$Row", TF6, 3) := rfl
  have hcls := (C.2.2.2.2.2.2.2.2.2.1.1 6 _ hq6).2
  obtain ⟨kA, comp, k1, k2, k3, k4⟩ := id g3
  have hcomp : comp = dC 6 := Option.some.inj (k3.symm.trans hcls.1)
  subst hcomp
  obtain ⟨kC, hkC, hkk⟩ := hcls.2
  refine W.aast C.2.1 C.2.2.1 g1 (fun q h => by cases h) (fun h => by cases h) k1 k2 rfl hkC ⟨fun z => in32 hj32 h0 hj (Or.inl z), by show _ < (arrV _ _ _).slots.size; rw [arrV_size, cl32 hj32]; omega⟩ v1 (fun q h => by rw [v3] at h; cases h) (by rw [v2]; exact hkC) (by rw [v2]; exact va_assign hcls) rfl rfl hd (fun H' e1 e2 e3 => ?_)
  refine k H' _ lsA h1 h2 h3 h4 (h5.put hk0 rfl rfl (fun _ _ => rfl) (fun b hb => by simp [gR, hb]) e2 e3 ((cR_5 (μ := (μ.1, gR μ.2 a j b)) e).mpr ⟨cA, ?_, g2, g3⟩) (fun i => (okC_5 (μ := (μ.1, gR μ.2 a j b)) e).mpr trivial)) (h6.put e2 e3 (h5.low hk0 hk9)) h7 h8
  rw [e1, cl32 hj32, arrV_store]
  congr 2
  funext i
  by_cases hi : i = j.toNat
  · have h9 : (i : Int) = j := by omega
    subst hi
    simp [updV, gR, va_rf, Int.toNat_of_nonneg h0]
  · have h9 : ¬ (i : Int) = j := by omega
    simp [updV, gR, hi, h9]
theorem xw_getI {a k0 ci idx : Nat} (C : XC p s m args meth c dC dI q r) (hd : decode r.1.2.1 pc = .ok (.getfield idx, 3)) (e : (μ.2.1 a).1 = 10 + ci) (hk0 : k0 < cO ci) (hlink : (Cond.fieldLink (cN (q / 100)) idx (TF ci k0).1 (TF ci k0).2.1 (TF ci k0).2.2.1).before args s = true) (ht : fT ci k0 = 0) (k : XW p l ev R s m args below meth c Q ad dC dI B n0 s0 (pc + 3) ls (xI (μ.1 a (k0 : Int)) :: st) μ) : XW p l ev R s m args below meth c Q ad dC dI B n0 s0 pc ls (xR a :: st) μ := by
  intro H locs lsA h1 h2 h3 h4 h5 h6 h7 h8
  obtain ⟨qq, g1, cell, z1, z2, z3, z4⟩ := (cR_o e).mp (h5.1 a)
  obtain ⟨hS, hfc, kC, hkC, hkind⟩ := C.2.2.2.2.2.2.2.2.2.1.1 ci qq g1
  have hN : qq.2.2 = cO ci := u_sz ci qq g1
  have hk : k0 < qq.2.2 := by rw [hN]; exact hk0
  rw [TF_at (k := k0) g1] at hlink
  obtain ⟨cf, kf, fi, f, hi, hsl⟩ := hS k0 hk
  have hok := (okC_o e).mp (h5.2.1 a (k0 : Int))
  rw [Int.toNat_natCast] at hok
  refine W.getf C.2.1 C.2.2.1 C.2.2.2.2.2.1 hlink hi (u_facts hfc hkC (u_lays C.2.2.2.2.2.2.1 (u_in ci qq g1) hk) hi).1 z1 (by rw [z3]; exact fun h => by cases h) (v := fV ad μ a ci k0) (by rw [hsl, z4 k0 hk]) rfl rfl hd ?_
  have K := k H locs lsA h1 h2 h3 (okc.mpr ⟨hok.1 ht, (okc.mp h4).2⟩) h5 h6 h7 h8
  rw [show fV ad μ a ci k0 = tv ad (xI (μ.1 a (k0 : Int))) from by simp [fV, ht, tv]]
  exact K
theorem xw_getZ {a k0 ci idx : Nat} (C : XC p s m args meth c dC dI q r) (hd : decode r.1.2.1 pc = .ok (.getfield idx, 3)) (e : (μ.2.1 a).1 = 10 + ci) (hk0 : k0 < cO ci) (hlink : (Cond.fieldLink (cN (q / 100)) idx (TF ci k0).1 (TF ci k0).2.1 (TF ci k0).2.2.1).before args s = true) (ht : fT ci k0 = 1) (k : XW p l ev R s m args below meth c Q ad dC dI B n0 s0 (pc + 3) ls (xI (μ.1 a (k0 : Int)) :: st) μ) : XW p l ev R s m args below meth c Q ad dC dI B n0 s0 pc ls (xR a :: st) μ := by
  intro H locs lsA h1 h2 h3 h4 h5 h6 h7 h8
  obtain ⟨qq, g1, cell, z1, z2, z3, z4⟩ := (cR_o e).mp (h5.1 a)
  obtain ⟨hS, hfc, kC, hkC, hkind⟩ := C.2.2.2.2.2.2.2.2.2.1.1 ci qq g1
  have hN : qq.2.2 = cO ci := u_sz ci qq g1
  have hk : k0 < qq.2.2 := by rw [hN]; exact hk0
  rw [TF_at (k := k0) g1] at hlink
  obtain ⟨cf, kf, fi, f, hi, hsl⟩ := hS k0 hk
  have hok := (okC_o e).mp (h5.2.1 a (k0 : Int))
  rw [Int.toNat_natCast] at hok
  refine W.getf C.2.1 C.2.2.1 C.2.2.2.2.2.1 hlink hi (u_facts hfc hkC (u_lays C.2.2.2.2.2.2.1 (u_in ci qq g1) hk) hi).1 z1 (by rw [z3]; exact fun h => by cases h) (v := fV ad μ a ci k0) (by rw [hsl, z4 k0 hk]) rfl rfl hd ?_
  have K := k H locs lsA h1 h2 h3 (okc.mpr ⟨z01 (hok.2.1 ht), (okc.mp h4).2⟩) h5 h6 h7 h8
  rw [show fV ad μ a ci k0 = tv ad (xI (μ.1 a (k0 : Int))) from by simp [fV, ht, tv]]
  exact K
theorem xw_getL {a k0 ci idx : Nat} (C : XC p s m args meth c dC dI q r) (hd : decode r.1.2.1 pc = .ok (.getfield idx, 3)) (e : (μ.2.1 a).1 = 10 + ci) (hk0 : k0 < cO ci) (hlink : (Cond.fieldLink (cN (q / 100)) idx (TF ci k0).1 (TF ci k0).2.1 (TF ci k0).2.2.1).before args s = true) (ht : fT ci k0 = 2) (k : XW p l ev R s m args below meth c Q ad dC dI B n0 s0 (pc + 3) ls (xL (μ.1 a (k0 : Int)) :: st) μ) : XW p l ev R s m args below meth c Q ad dC dI B n0 s0 pc ls (xR a :: st) μ := by
  intro H locs lsA h1 h2 h3 h4 h5 h6 h7 h8
  obtain ⟨qq, g1, cell, z1, z2, z3, z4⟩ := (cR_o e).mp (h5.1 a)
  obtain ⟨hS, hfc, kC, hkC, hkind⟩ := C.2.2.2.2.2.2.2.2.2.1.1 ci qq g1
  have hN : qq.2.2 = cO ci := u_sz ci qq g1
  have hk : k0 < qq.2.2 := by rw [hN]; exact hk0
  rw [TF_at (k := k0) g1] at hlink
  obtain ⟨cf, kf, fi, f, hi, hsl⟩ := hS k0 hk
  have hok := (okC_o e).mp (h5.2.1 a (k0 : Int))
  rw [Int.toNat_natCast] at hok
  refine W.getf C.2.1 C.2.2.1 C.2.2.2.2.2.1 hlink hi (u_facts hfc hkC (u_lays C.2.2.2.2.2.2.1 (u_in ci qq g1) hk) hi).1 z1 (by rw [z3]; exact fun h => by cases h) (v := fV ad μ a ci k0) (by rw [hsl, z4 k0 hk]) rfl rfl hd ?_
  have K := k H locs lsA h1 h2 h3 (okc.mpr ⟨hok.2.2 ht, (okc.mp h4).2⟩) h5 h6 h7 h8
  rw [show fV ad μ a ci k0 = tv ad (xL (μ.1 a (k0 : Int))) from by simp [fV, ht, tv]]
  exact K
theorem xw_getR {a k0 ci idx : Nat} {b : Nat} (C : XC p s m args meth c dC dI q r) (hd : decode r.1.2.1 pc = .ok (.getfield idx, 3)) (e : (μ.2.1 a).1 = 10 + ci) (hk0 : k0 < cO ci) (hlink : (Cond.fieldLink (cN (q / 100)) idx (TF ci k0).1 (TF ci k0).2.1 (TF ci k0).2.2.1).before args s = true) (ht : fT ci k0 = 3) (hb : μ.2.2.1 a (k0 : Int) = some b) (k : XW p l ev R s m args below meth c Q ad dC dI B n0 s0 (pc + 3) ls (xR b :: st) μ) : XW p l ev R s m args below meth c Q ad dC dI B n0 s0 pc ls (xR a :: st) μ := by
  intro H locs lsA h1 h2 h3 h4 h5 h6 h7 h8
  obtain ⟨qq, g1, cell, z1, z2, z3, z4⟩ := (cR_o e).mp (h5.1 a)
  obtain ⟨hS, hfc, kC, hkC, hkind⟩ := C.2.2.2.2.2.2.2.2.2.1.1 ci qq g1
  have hN : qq.2.2 = cO ci := u_sz ci qq g1
  have hk : k0 < qq.2.2 := by rw [hN]; exact hk0
  rw [TF_at (k := k0) g1] at hlink
  obtain ⟨cf, kf, fi, f, hi, hsl⟩ := hS k0 hk
  have hok := (okC_o e).mp (h5.2.1 a (k0 : Int))
  rw [Int.toNat_natCast] at hok
  refine W.getf C.2.1 C.2.2.1 C.2.2.2.2.2.1 hlink hi (u_facts hfc hkC (u_lays C.2.2.2.2.2.2.1 (u_in ci qq g1) hk) hi).1 z1 (by rw [z3]; exact fun h => by cases h) (v := fV ad μ a ci k0) (by rw [hsl, z4 k0 hk]) rfl rfl hd ?_
  have K := k H locs lsA h1 h2 h3 (okc.mpr ⟨trivial, (okc.mp h4).2⟩) h5 h6 h7 h8
  rw [show fV ad μ a ci k0 = tv ad (xR b) from by simp [fV, ht, tv, hb, va_rf]]
  exact K
theorem xw_putI {a k0 ci idx : Nat} {x : Int} (C : XC p s m args meth c dC dI q r) (hd : decode r.1.2.1 pc = .ok (.putfield idx, 3)) (e : (μ.2.1 a).1 = 10 + ci) (hk0 : k0 < cO ci) (hlink : (Cond.fieldLink (cN (q / 100)) idx (TF ci k0).1 (TF ci k0).2.1 (TF ci k0).2.2.1).before args s = true) (hfin : (TF ci k0).2.2.2 = true → r.1.1.name = "<init>" ∧ ci = q / 100) (ht : fT ci k0 = 0) (k : XW p l ev R s m args below meth c Q ad dC dI B n0 s0 (pc + 3) ls st (vA μ.1 a (vU (μ.1 a) (k0 : Int) x), μ.2)) : XW p l ev R s m args below meth c Q ad dC dI B n0 s0 pc ls (xI x :: xR a :: st) μ := by
  intro H locs lsA h1 h2 h3 h4 h5 h6 h7 h8
  have hx := (okc.mp h4).1
  have h4 := (okc.mp (okc.mp h4).2).2
  have hka0 : (μ.2.1 a).1 ≠ 0 := by omega
  have hka9 : (μ.2.1 a).1 ≠ 9 := by omega
  obtain ⟨qq, g1, cell, z1, z2, z3, z4⟩ := (cR_o e).mp (h5.1 a)
  have hKn := C.2.2.2.2.2.2.2.2.2.1
  obtain ⟨hS, hfc, kC, hkC, hkind⟩ := hKn.1 ci qq g1
  have hN : qq.2.2 = cO ci := u_sz ci qq g1
  have hk : k0 < qq.2.2 := by rw [hN]; exact hk0
  rw [TF_at (k := k0) g1] at hlink hfin
  have hin := u_in ci qq g1
  have hts := C.2.2.2.2.2.2.1
  obtain ⟨hpd, hcl, hcn, -⟩ := u_ty ci qq g1 k0 hk
  have hap := va_apart (own := cN (q / 100)) hts hin (fY ci) (fun k hk => (u_ty ci qq g1 k hk).1) (u_nm ci qq g1) hKn g1
  obtain ⟨cf, kf, fi, f, hi, hsl⟩ := hS k0 hk
  have hlay := u_lays hts hin hk
  have hst := (u_facts hfc hkC hlay hi).1
  have hty := u_ft ci qq g1 k0 hk
  have hnar : narrow (fY ci k0) (.int (Int32.ofInt x)) = .int (Int32.ofInt x) := (by rcases hty with ⟨h, h'⟩ | ⟨h, h'⟩ | ⟨h, h'⟩ | ⟨h, h'⟩ <;> first | (rw [h]at ht; exact absurd ht (by decide)) | (rw [h']; rfl))
  have hfit : fits (fY ci k0) (.int (Int32.ofInt x)) = true := (by rcases hty with ⟨h, h'⟩ | ⟨h, h'⟩ | ⟨h, h'⟩ | ⟨h, h'⟩ <;> first | (rw [h]at ht; exact absurd ht (by decide)) | (rw [h']; rfl))
  have fin : ∀ (H' : Heap) (locs' : List Loc), H'[ad a]? = some (cell.setSlot f.slot (.int (Int32.ofInt x))) → H'.size = H.size → (∀ q, q ≠ ad a → H'[q]? = H[q]?) → va_S (fun q => B ≤ q) s.heap H' locs' → W p l ev R s m args below meth c H' locs' (μ.2.2.2.1 - n0) (μ.2.2.2.2.1 - s0) Q (F0 m (pc + 3) lsA (st.map (tv ad))) := by
    intro H' locs' e1 e2 e3 e4
    rw [hsl] at e1
    refine k H' locs' lsA h1 h2 h3 h4 (h5.put hka0 rfl rfl (fun b hb => by simp [vA, gR, hb]) (fun b hb => by simp [gR, hb]) e2 e3 ((cR_o (μ := (vA μ.1 a (vU (μ.1 a) (k0 : Int) x), μ.2)) e).mpr ⟨qq, g1, t_OB.to (V := updV (fun j => fV ad μ a ci j) k0 (.int (Int32.ofInt x))) ⟨_, e1, z2, z3, t_set z4 hap hk _⟩ (fun j _ => ?_)⟩) (fun i => ?_)) e4 h7 h8
    · by_cases hj : j = k0
      · subst hj; simp [updV, fV, vA, vU, gR, ht, va_rf]
      · have hj2 : ¬ (j : Int) = (k0 : Int) := by omega
        simp only [updV, fV, vA, vU, gR, hj, hj2, if_false, if_true]
    · rw [okC_o (μ := (vA μ.1 a (vU (μ.1 a) (k0 : Int) x), μ.2)) e]
      have hok := (okC_o e).mp (h5.2.1 a i)
      by_cases hj : i = (k0 : Int)
      · subst hj; simp [vA, vU, ht]; exact hx
      · simpa [vA, vU, hj] using hok
  by_cases hf : (qq.2.1 k0).2.2.2 = true
  · obtain ⟨hin2, hown⟩ := hfin hf
    have hcf : m.cls = cf := by
      have hl2 := hts _ (hin _ (u_in_lay hk))
      unfold u_lay at hl2
      rw [if_pos hf] at hl2
      obtain ⟨_, _, c', _, _, _, -, -, hf', -, -, -, hown2, -⟩ := Cond.laysFinal_spec hl2
      have e1 : c' = cf := by have := hi.symm.trans hf'; simp at this; exact this.1.symm
      rw [hcl, hcn, hown] at hown2
      rw [← e1]; exact Option.some.inj (C.2.2.2.2.2.1.symm.trans hown2)
    have h9 := u_fits hfc hkC hkind hlay hi hpd hnar hfit
    exact W.putFinK C.2.1 C.2.2.1 C.2.2.2.2.2.1 hlink hi hst hcf (C.2.2.2.2.2.2.2.2.1 hin2) (by rw [z2]; exact h9) z1 z3 (by rw [hsl]; exact k2_hasslot (z4 k0 hk)) rfl rfl hd (fun H' e1 e2 e3 => fin H' _ e1 e2 e3 (h6.put e2 e3 (h5.low hka0 hka9)))
  · have hl2 := hts _ (hin _ (u_in_lay hk))
    unfold u_lay at hl2
    rw [if_neg hf] at hl2
    have h9 := u_store hfc hkC hkind hl2 hi hpd hnar hfit
    exact W.putK C.2.1 C.2.2.1 (f := f) ⟨C.2.2.2.2.2.1, hlink, ⟨_, _, _, hi⟩, hst⟩ (by rw [z2]; exact h9) z1 z3 (by rw [hsl]; exact k2_hasslot (z4 k0 hk)) rfl rfl hd (fun H' e1 e2 e3 => fin H' _ e1 e2 e3 (h6.put e2 e3 (h5.low hka0 hka9)))
theorem xw_putZ {a k0 ci idx : Nat} {x : Int} (C : XC p s m args meth c dC dI q r) (hd : decode r.1.2.1 pc = .ok (.putfield idx, 3)) (e : (μ.2.1 a).1 = 10 + ci) (hk0 : k0 < cO ci) (hlink : (Cond.fieldLink (cN (q / 100)) idx (TF ci k0).1 (TF ci k0).2.1 (TF ci k0).2.2.1).before args s = true) (hfin : (TF ci k0).2.2.2 = true → r.1.1.name = "<init>" ∧ ci = q / 100) (ht : fT ci k0 = 1) (hb01 : x = 0 ∨ x = 1) (k : XW p l ev R s m args below meth c Q ad dC dI B n0 s0 (pc + 3) ls st (vA μ.1 a (vU (μ.1 a) (k0 : Int) x), μ.2)) : XW p l ev R s m args below meth c Q ad dC dI B n0 s0 pc ls (xI x :: xR a :: st) μ := by
  intro H locs lsA h1 h2 h3 h4 h5 h6 h7 h8
  have hx := (okc.mp h4).1
  have h4 := (okc.mp (okc.mp h4).2).2
  have hka0 : (μ.2.1 a).1 ≠ 0 := by omega
  have hka9 : (μ.2.1 a).1 ≠ 9 := by omega
  obtain ⟨qq, g1, cell, z1, z2, z3, z4⟩ := (cR_o e).mp (h5.1 a)
  have hKn := C.2.2.2.2.2.2.2.2.2.1
  obtain ⟨hS, hfc, kC, hkC, hkind⟩ := hKn.1 ci qq g1
  have hN : qq.2.2 = cO ci := u_sz ci qq g1
  have hk : k0 < qq.2.2 := by rw [hN]; exact hk0
  rw [TF_at (k := k0) g1] at hlink hfin
  have hin := u_in ci qq g1
  have hts := C.2.2.2.2.2.2.1
  obtain ⟨hpd, hcl, hcn, -⟩ := u_ty ci qq g1 k0 hk
  have hap := va_apart (own := cN (q / 100)) hts hin (fY ci) (fun k hk => (u_ty ci qq g1 k hk).1) (u_nm ci qq g1) hKn g1
  obtain ⟨cf, kf, fi, f, hi, hsl⟩ := hS k0 hk
  have hlay := u_lays hts hin hk
  have hst := (u_facts hfc hkC hlay hi).1
  have hty := u_ft ci qq g1 k0 hk
  have hnar : narrow (fY ci k0) (.int (Int32.ofInt x)) = .int (Int32.ofInt x) := (by rcases hty with ⟨h, h'⟩ | ⟨h, h'⟩ | ⟨h, h'⟩ | ⟨h, h'⟩ <;> first | (rw [h]at ht; exact absurd ht (by decide)) | (rw [h']; exact nb01 hb01))
  have hfit : fits (fY ci k0) (.int (Int32.ofInt x)) = true := (by rcases hty with ⟨h, h'⟩ | ⟨h, h'⟩ | ⟨h, h'⟩ | ⟨h, h'⟩ <;> first | (rw [h]at ht; exact absurd ht (by decide)) | (rw [h']; exact fb01 hb01))
  have fin : ∀ (H' : Heap) (locs' : List Loc), H'[ad a]? = some (cell.setSlot f.slot (.int (Int32.ofInt x))) → H'.size = H.size → (∀ q, q ≠ ad a → H'[q]? = H[q]?) → va_S (fun q => B ≤ q) s.heap H' locs' → W p l ev R s m args below meth c H' locs' (μ.2.2.2.1 - n0) (μ.2.2.2.2.1 - s0) Q (F0 m (pc + 3) lsA (st.map (tv ad))) := by
    intro H' locs' e1 e2 e3 e4
    rw [hsl] at e1
    refine k H' locs' lsA h1 h2 h3 h4 (h5.put hka0 rfl rfl (fun b hb => by simp [vA, gR, hb]) (fun b hb => by simp [gR, hb]) e2 e3 ((cR_o (μ := (vA μ.1 a (vU (μ.1 a) (k0 : Int) x), μ.2)) e).mpr ⟨qq, g1, t_OB.to (V := updV (fun j => fV ad μ a ci j) k0 (.int (Int32.ofInt x))) ⟨_, e1, z2, z3, t_set z4 hap hk _⟩ (fun j _ => ?_)⟩) (fun i => ?_)) e4 h7 h8
    · by_cases hj : j = k0
      · subst hj; simp [updV, fV, vA, vU, gR, ht, va_rf]
      · have hj2 : ¬ (j : Int) = (k0 : Int) := by omega
        simp only [updV, fV, vA, vU, gR, hj, hj2, if_false, if_true]
    · rw [okC_o (μ := (vA μ.1 a (vU (μ.1 a) (k0 : Int) x), μ.2)) e]
      have hok := (okC_o e).mp (h5.2.1 a i)
      by_cases hj : i = (k0 : Int)
      · subst hj; simp [vA, vU, ht]; exact hb01
      · simpa [vA, vU, hj] using hok
  by_cases hf : (qq.2.1 k0).2.2.2 = true
  · obtain ⟨hin2, hown⟩ := hfin hf
    have hcf : m.cls = cf := by
      have hl2 := hts _ (hin _ (u_in_lay hk))
      unfold u_lay at hl2
      rw [if_pos hf] at hl2
      obtain ⟨_, _, c', _, _, _, -, -, hf', -, -, -, hown2, -⟩ := Cond.laysFinal_spec hl2
      have e1 : c' = cf := by have := hi.symm.trans hf'; simp at this; exact this.1.symm
      rw [hcl, hcn, hown] at hown2
      rw [← e1]; exact Option.some.inj (C.2.2.2.2.2.1.symm.trans hown2)
    have h9 := u_fits hfc hkC hkind hlay hi hpd hnar hfit
    exact W.putFinK C.2.1 C.2.2.1 C.2.2.2.2.2.1 hlink hi hst hcf (C.2.2.2.2.2.2.2.2.1 hin2) (by rw [z2]; exact h9) z1 z3 (by rw [hsl]; exact k2_hasslot (z4 k0 hk)) rfl rfl hd (fun H' e1 e2 e3 => fin H' _ e1 e2 e3 (h6.put e2 e3 (h5.low hka0 hka9)))
  · have hl2 := hts _ (hin _ (u_in_lay hk))
    unfold u_lay at hl2
    rw [if_neg hf] at hl2
    have h9 := u_store hfc hkC hkind hl2 hi hpd hnar hfit
    exact W.putK C.2.1 C.2.2.1 (f := f) ⟨C.2.2.2.2.2.1, hlink, ⟨_, _, _, hi⟩, hst⟩ (by rw [z2]; exact h9) z1 z3 (by rw [hsl]; exact k2_hasslot (z4 k0 hk)) rfl rfl hd (fun H' e1 e2 e3 => fin H' _ e1 e2 e3 (h6.put e2 e3 (h5.low hka0 hka9)))
theorem xw_putL {a k0 ci idx : Nat} {x : Int} (C : XC p s m args meth c dC dI q r) (hd : decode r.1.2.1 pc = .ok (.putfield idx, 3)) (e : (μ.2.1 a).1 = 10 + ci) (hk0 : k0 < cO ci) (hlink : (Cond.fieldLink (cN (q / 100)) idx (TF ci k0).1 (TF ci k0).2.1 (TF ci k0).2.2.1).before args s = true) (hfin : (TF ci k0).2.2.2 = true → r.1.1.name = "<init>" ∧ ci = q / 100) (ht : fT ci k0 = 2) (k : XW p l ev R s m args below meth c Q ad dC dI B n0 s0 (pc + 3) ls st (vA μ.1 a (vU (μ.1 a) (k0 : Int) x), μ.2)) : XW p l ev R s m args below meth c Q ad dC dI B n0 s0 pc ls (xL x :: xR a :: st) μ := by
  intro H locs lsA h1 h2 h3 h4 h5 h6 h7 h8
  have hx := (okc.mp h4).1
  have h4 := (okc.mp (okc.mp h4).2).2
  have hka0 : (μ.2.1 a).1 ≠ 0 := by omega
  have hka9 : (μ.2.1 a).1 ≠ 9 := by omega
  obtain ⟨qq, g1, cell, z1, z2, z3, z4⟩ := (cR_o e).mp (h5.1 a)
  have hKn := C.2.2.2.2.2.2.2.2.2.1
  obtain ⟨hS, hfc, kC, hkC, hkind⟩ := hKn.1 ci qq g1
  have hN : qq.2.2 = cO ci := u_sz ci qq g1
  have hk : k0 < qq.2.2 := by rw [hN]; exact hk0
  rw [TF_at (k := k0) g1] at hlink hfin
  have hin := u_in ci qq g1
  have hts := C.2.2.2.2.2.2.1
  obtain ⟨hpd, hcl, hcn, -⟩ := u_ty ci qq g1 k0 hk
  have hap := va_apart (own := cN (q / 100)) hts hin (fY ci) (fun k hk => (u_ty ci qq g1 k hk).1) (u_nm ci qq g1) hKn g1
  obtain ⟨cf, kf, fi, f, hi, hsl⟩ := hS k0 hk
  have hlay := u_lays hts hin hk
  have hst := (u_facts hfc hkC hlay hi).1
  have hty := u_ft ci qq g1 k0 hk
  have hnar : narrow (fY ci k0) (.long (Int64.ofInt x)) = .long (Int64.ofInt x) := (by rcases hty with ⟨h, h'⟩ | ⟨h, h'⟩ | ⟨h, h'⟩ | ⟨h, h'⟩ <;> first | (rw [h]at ht; exact absurd ht (by decide)) | (rw [h']; rfl))
  have hfit : fits (fY ci k0) (.long (Int64.ofInt x)) = true := (by rcases hty with ⟨h, h'⟩ | ⟨h, h'⟩ | ⟨h, h'⟩ | ⟨h, h'⟩ <;> first | (rw [h]at ht; exact absurd ht (by decide)) | (rw [h']; rfl))
  have fin : ∀ (H' : Heap) (locs' : List Loc), H'[ad a]? = some (cell.setSlot f.slot (.long (Int64.ofInt x))) → H'.size = H.size → (∀ q, q ≠ ad a → H'[q]? = H[q]?) → va_S (fun q => B ≤ q) s.heap H' locs' → W p l ev R s m args below meth c H' locs' (μ.2.2.2.1 - n0) (μ.2.2.2.2.1 - s0) Q (F0 m (pc + 3) lsA (st.map (tv ad))) := by
    intro H' locs' e1 e2 e3 e4
    rw [hsl] at e1
    refine k H' locs' lsA h1 h2 h3 h4 (h5.put hka0 rfl rfl (fun b hb => by simp [vA, gR, hb]) (fun b hb => by simp [gR, hb]) e2 e3 ((cR_o (μ := (vA μ.1 a (vU (μ.1 a) (k0 : Int) x), μ.2)) e).mpr ⟨qq, g1, t_OB.to (V := updV (fun j => fV ad μ a ci j) k0 (.long (Int64.ofInt x))) ⟨_, e1, z2, z3, t_set z4 hap hk _⟩ (fun j _ => ?_)⟩) (fun i => ?_)) e4 h7 h8
    · by_cases hj : j = k0
      · subst hj; simp [updV, fV, vA, vU, gR, ht, va_rf]
      · have hj2 : ¬ (j : Int) = (k0 : Int) := by omega
        simp only [updV, fV, vA, vU, gR, hj, hj2, if_false, if_true]
    · rw [okC_o (μ := (vA μ.1 a (vU (μ.1 a) (k0 : Int) x), μ.2)) e]
      have hok := (okC_o e).mp (h5.2.1 a i)
      by_cases hj : i = (k0 : Int)
      · subst hj; simp [vA, vU, ht]; exact hx
      · simpa [vA, vU, hj] using hok
  by_cases hf : (qq.2.1 k0).2.2.2 = true
  · obtain ⟨hin2, hown⟩ := hfin hf
    have hcf : m.cls = cf := by
      have hl2 := hts _ (hin _ (u_in_lay hk))
      unfold u_lay at hl2
      rw [if_pos hf] at hl2
      obtain ⟨_, _, c', _, _, _, -, -, hf', -, -, -, hown2, -⟩ := Cond.laysFinal_spec hl2
      have e1 : c' = cf := by have := hi.symm.trans hf'; simp at this; exact this.1.symm
      rw [hcl, hcn, hown] at hown2
      rw [← e1]; exact Option.some.inj (C.2.2.2.2.2.1.symm.trans hown2)
    have h9 := u_fits hfc hkC hkind hlay hi hpd hnar hfit
    exact W.putFinK C.2.1 C.2.2.1 C.2.2.2.2.2.1 hlink hi hst hcf (C.2.2.2.2.2.2.2.2.1 hin2) (by rw [z2]; exact h9) z1 z3 (by rw [hsl]; exact k2_hasslot (z4 k0 hk)) rfl rfl hd (fun H' e1 e2 e3 => fin H' _ e1 e2 e3 (h6.put e2 e3 (h5.low hka0 hka9)))
  · have hl2 := hts _ (hin _ (u_in_lay hk))
    unfold u_lay at hl2
    rw [if_neg hf] at hl2
    have h9 := u_store hfc hkC hkind hl2 hi hpd hnar hfit
    exact W.putK C.2.1 C.2.2.1 (f := f) ⟨C.2.2.2.2.2.1, hlink, ⟨_, _, _, hi⟩, hst⟩ (by rw [z2]; exact h9) z1 z3 (by rw [hsl]; exact k2_hasslot (z4 k0 hk)) rfl rfl hd (fun H' e1 e2 e3 => fin H' _ e1 e2 e3 (h6.put e2 e3 (h5.low hka0 hka9)))
theorem xw_putR {a k0 ci idx : Nat} {x : Nat} (C : XC p s m args meth c dC dI q r) (hd : decode r.1.2.1 pc = .ok (.putfield idx, 3)) (e : (μ.2.1 a).1 = 10 + ci) (hk0 : k0 < cO ci) (hlink : (Cond.fieldLink (cN (q / 100)) idx (TF ci k0).1 (TF ci k0).2.1 (TF ci k0).2.2.1).before args s = true) (hfin : (TF ci k0).2.2.2 = true → r.1.1.name = "<init>" ∧ ci = q / 100) (ht : fT ci k0 = 3) (k : XW p l ev R s m args below meth c Q ad dC dI B n0 s0 (pc + 3) ls st (μ.1, gR μ.2 a (k0 : Int) x)) : XW p l ev R s m args below meth c Q ad dC dI B n0 s0 pc ls (xR x :: xR a :: st) μ := by
  intro H locs lsA h1 h2 h3 h4 h5 h6 h7 h8
  have hx := (okc.mp h4).1
  have h4 := (okc.mp (okc.mp h4).2).2
  have hka0 : (μ.2.1 a).1 ≠ 0 := by omega
  have hka9 : (μ.2.1 a).1 ≠ 9 := by omega
  obtain ⟨qq, g1, cell, z1, z2, z3, z4⟩ := (cR_o e).mp (h5.1 a)
  have hKn := C.2.2.2.2.2.2.2.2.2.1
  obtain ⟨hS, hfc, kC, hkC, hkind⟩ := hKn.1 ci qq g1
  have hN : qq.2.2 = cO ci := u_sz ci qq g1
  have hk : k0 < qq.2.2 := by rw [hN]; exact hk0
  rw [TF_at (k := k0) g1] at hlink hfin
  have hin := u_in ci qq g1
  have hts := C.2.2.2.2.2.2.1
  obtain ⟨hpd, hcl, hcn, -⟩ := u_ty ci qq g1 k0 hk
  have hap := va_apart (own := cN (q / 100)) hts hin (fY ci) (fun k hk => (u_ty ci qq g1 k hk).1) (u_nm ci qq g1) hKn g1
  obtain ⟨cf, kf, fi, f, hi, hsl⟩ := hS k0 hk
  have hlay := u_lays hts hin hk
  have hst := (u_facts hfc hkC hlay hi).1
  have hty := u_ft ci qq g1 k0 hk
  have hnar : narrow (fY ci k0) (.ref (ad x)) = .ref (ad x) := (by rcases hty with ⟨h, h'⟩ | ⟨h, h'⟩ | ⟨h, h'⟩ | ⟨h, h'⟩ <;> first | (rw [h]at ht; exact absurd ht (by decide)) | (revert h'; generalize fY ci k0 = z; intro h'; cases z <;> first | rfl | cases h'))
  have hfit : fits (fY ci k0) (.ref (ad x)) = true := (by rcases hty with ⟨h, h'⟩ | ⟨h, h'⟩ | ⟨h, h'⟩ | ⟨h, h'⟩ <;> first | (rw [h]at ht; exact absurd ht (by decide)) | (revert h'; generalize fY ci k0 = z; intro h'; cases z <;> first | rfl | cases h'))
  have fin : ∀ (H' : Heap) (locs' : List Loc), H'[ad a]? = some (cell.setSlot f.slot (.ref (ad x))) → H'.size = H.size → (∀ q, q ≠ ad a → H'[q]? = H[q]?) → va_S (fun q => B ≤ q) s.heap H' locs' → W p l ev R s m args below meth c H' locs' (μ.2.2.2.1 - n0) (μ.2.2.2.2.1 - s0) Q (F0 m (pc + 3) lsA (st.map (tv ad))) := by
    intro H' locs' e1 e2 e3 e4
    rw [hsl] at e1
    refine k H' locs' lsA h1 h2 h3 h4 (h5.put hka0 rfl rfl (fun b hb => by simp [vA, gR, hb]) (fun b hb => by simp [gR, hb]) e2 e3 ((cR_o (μ := (μ.1, gR μ.2 a (k0 : Int) x)) e).mpr ⟨qq, g1, t_OB.to (V := updV (fun j => fV ad μ a ci j) k0 (.ref (ad x))) ⟨_, e1, z2, z3, t_set z4 hap hk _⟩ (fun j _ => ?_)⟩) (fun i => ?_)) e4 h7 h8
    · by_cases hj : j = k0
      · subst hj; simp [updV, fV, vA, vU, gR, ht, va_rf]
      · have hj2 : ¬ (j : Int) = (k0 : Int) := by omega
        simp only [updV, fV, vA, vU, gR, hj, hj2, if_false, if_true]
    · rw [okC_o (μ := (μ.1, gR μ.2 a (k0 : Int) x)) e]
      have hok := (okC_o e).mp (h5.2.1 a i)
      by_cases hj : i = (k0 : Int)
      · subst hj; simp [vA, vU, ht]
      · simpa [vA, vU, hj] using hok
  by_cases hf : (qq.2.1 k0).2.2.2 = true
  · obtain ⟨hin2, hown⟩ := hfin hf
    have hcf : m.cls = cf := by
      have hl2 := hts _ (hin _ (u_in_lay hk))
      unfold u_lay at hl2
      rw [if_pos hf] at hl2
      obtain ⟨_, _, c', _, _, _, -, -, hf', -, -, -, hown2, -⟩ := Cond.laysFinal_spec hl2
      have e1 : c' = cf := by have := hi.symm.trans hf'; simp at this; exact this.1.symm
      rw [hcl, hcn, hown] at hown2
      rw [← e1]; exact Option.some.inj (C.2.2.2.2.2.1.symm.trans hown2)
    have h9 := u_fits hfc hkC hkind hlay hi hpd hnar hfit
    exact W.putFinK C.2.1 C.2.2.1 C.2.2.2.2.2.1 hlink hi hst hcf (C.2.2.2.2.2.2.2.2.1 hin2) (by rw [z2]; exact h9) z1 z3 (by rw [hsl]; exact k2_hasslot (z4 k0 hk)) rfl rfl hd (fun H' e1 e2 e3 => fin H' _ e1 e2 e3 (h6.put e2 e3 (h5.low hka0 hka9)))
  · have hl2 := hts _ (hin _ (u_in_lay hk))
    unfold u_lay at hl2
    rw [if_neg hf] at hl2
    have h9 := u_store hfc hkC hkind hl2 hi hpd hnar hfit
    exact W.putK C.2.1 C.2.2.1 (f := f) ⟨C.2.2.2.2.2.1, hlink, ⟨_, _, _, hi⟩, hst⟩ (by rw [z2]; exact h9) z1 z3 (by rw [hsl]; exact k2_hasslot (z4 k0 hk)) rfl rfl hd (fun H' e1 e2 e3 => fin H' _ e1 e2 e3 (h6.put e2 e3 (h5.low hka0 hka9)))
end XMem
end
section
/-! THE STEPS that make cells; Object's constructor; System.arraycopy -/
theorem u_ins : ∀ c : Nat, ∀ q : vw_C, clX[c]? = some q → Cond.instantiable q.1 q.2.2 ∈ gW ∧ Cond.initialized q.1 ∈ gW ∧ q.1 = cN c
  | 0 => fun q h => by cases h; exact ⟨by decide +kernel, by decide +kernel, rfl⟩
  | 1 => fun q h => by cases h; exact ⟨by decide +kernel, by decide +kernel, rfl⟩
  | 2 => fun q h => by cases h; exact ⟨by decide +kernel, by decide +kernel, rfl⟩
  | 3 => fun q h => by cases h; exact ⟨by decide +kernel, by decide +kernel, rfl⟩
  | 4 => fun q h => by cases h; exact ⟨by decide +kernel, by decide +kernel, rfl⟩
  | 5 => fun q h => by cases h; exact ⟨by decide +kernel, by decide +kernel, rfl⟩
  | 6 => fun q h => by cases h; exact ⟨by decide +kernel, by decide +kernel, rfl⟩
  | 7 => fun q h => by cases h; exact ⟨by decide +kernel, by decide +kernel, rfl⟩
  | 8 => fun q h => by cases h; exact ⟨by decide +kernel, by decide +kernel, rfl⟩
  | 9 => fun q h => by cases h; exact ⟨by decide +kernel, by decide +kernel, rfl⟩
  | 10 => fun q h => by cases h; exact ⟨by decide +kernel, by decide +kernel, rfl⟩
  | 11 => fun q h => by cases h; exact ⟨by decide +kernel, by decide +kernel, rfl⟩
  | n + 12 => fun q h => by simp [clX] at h
theorem ac_int : Cond.arrayClass .int ∈ gW := by decide +kernel
theorem ac_bool : Cond.arrayClass .boolean ∈ gW := by decide +kernel
theorem ac_long : Cond.arrayClass .long ∈ gW := by decide +kernel
theorem oi_1 : Cond.instanceMethod Lib.objectInit ∈ gW := by decide +kernel
theorem oi_2 : Cond.code Lib.objectInit ⟨#[0xb1]⟩ 1 none ∈ gW := by decide +kernel
theorem cp_1 : Cond.native arraycopyName ∈ gW := by decide +kernel
theorem cp_2 : Cond.static arraycopyName ∈ gW := by decide +kernel
theorem cp_3 : Cond.initialized "java/lang/System" ∈ gW := by decide +kernel
theorem cat_le {ad : Nat → Nat} : ∀ st : List XV, ((st.map (tv ad)).map fun v => v.category).sum ≤ 2 * st.length
  | [] => Nat.le_refl _
  | v :: st => by
    have h := cat_le (ad := ad) st
    have h2 : (tv ad v).category ≤ 2 := by rcases lv_cat (tv ad v) with h | h <;> rw [h] <;> decide
    simp only [List.map_cons, List.sum_cons, List.length_cons]
    omega
section XAl
variable {p : Program} {l : Launch} {ev : Env} {R : Room} {s : State} {m : MethodId} {args : Array Value} {below : List Frame} {meth : Method} {c : Code} {Q : State → Prop} {ad : Nat → Nat} {dC : Nat → ClassId} {dI : Nat → Nat → Nat} {B n0 s0 : Nat} {q : Nat} {r : MR} {pc : Nat} {ls st : List XV} {μ : XM}
theorem xS_new {A : Nat → Prop} {H0 H H' : Heap} {locs : List Loc} (h : va_S A H0 H locs) (z : H.size ≤ H'.size) (o : ∀ q, q < H.size → H'[q]? = H[q]?) : va_S A H0 H' locs := ⟨Nat.le_trans h.1 z, fun x h1 h2 => (o x (Nat.lt_of_lt_of_le h1 h.1)).trans (h.2.1 x h1 h2), h.2.2⟩
theorem xw_new {ci idx : Nat} (C : XC p s m args meth c dC dI q r) (hd : decode r.1.2.1 pc = .ok (.new idx, 3)) (hci : ci < 12) (hl : (Cond.classLink (cN (q / 100)) idx (cN ci)).before args s = true) (hc : μ.2.2.2.1 + 1 - n0 ≤ R.cells) (hs : μ.2.2.2.2.1 + cO ci - s0 ≤ R.slots)
    (k : XW p l ev R s m args below meth c Q ad dC dI B n0 s0 (pc + 3) ls (xR (μ.2.2.2.2.2 μ.2.2.2.1) :: st) (vA μ.1 (μ.2.2.2.2.2 μ.2.2.2.1) (fun _ => 0), gN μ.2 (μ.2.2.2.2.2 μ.2.2.2.1) (10 + ci, 0) (cO ci))) : XW p l ev R s m args below meth c Q ad dC dI B n0 s0 pc ls st μ := by
  intro H locs lsA h1 h2 h3 h4 h5 h6 h7 h8
  obtain ⟨qq, g1⟩ := cl_at ci hci
  obtain ⟨w1, w2, w3⟩ := u_ins ci qq g1
  have hKn := C.2.2.2.2.2.2.2.2.2.1.1 ci qq g1
  have hsz := u_sz ci qq g1
  have hh : H.size = ad (μ.2.2.2.2.2 μ.2.2.2.1) := by rw [h5.2.2.1, h5.2.2.2.1]
  rw [← w3] at hl
  refine W.newcK (h := ad (μ.2.2.2.2.2 μ.2.2.2.1)) C.2.1 C.2.2.1 C.2.2.2.2.2.1 hl (C.2.2.2.2.2.2.1 _ w1) (C.2.2.2.2.2.2.1 _ w2) rfl hd (by omega) (by rw [hsz]; omega) hKn.2.1 hh (fun H' kC hkC e1 z1 o1 => ?_)
  rw [← hh] at z1 o1
  have hb := u_born (fY ci) C.2.2.2.2.2.2.1 (u_in ci qq g1) hKn hkC e1 (fun k hk => (u_ty ci qq g1 k hk).1)
  have e0 : (gN μ.2 (μ.2.2.2.2.2 μ.2.2.2.1) (10 + ci, 0) (cO ci)).1 (μ.2.2.2.2.2 μ.2.2.2.1) = (10 + ci, 0) := by simp [gN]
  have hP := h5.new (sh := (10 + ci, 0)) (n := cO ci) (by simp) (by simp; omega) z1 o1 ((cR_o (k := ci) (by rw [e0])).mpr ⟨qq, g1, hb.to (fun j hj => by
    have ht := u_ft ci qq g1 j hj
    simp only [fV, vA, gN, if_pos]
    rcases ht with ⟨t1, t2⟩ | ⟨t1, t2⟩ | ⟨t1, t2⟩ | ⟨t1, t2⟩
    · rw [t1, t2]; rfl
    · rw [t1, t2]; rfl
    · rw [t1, t2]; rfl
    · rw [t1]; revert t2; generalize fY ci j = z; intro t2; cases z <;> first | rfl | cases t2)⟩)
  have K := k H' locs lsA h1 h2 h3 (okc.mpr ⟨trivial, h4⟩) hP (xS_new h6 (by omega) o1) (by simp only [gN]; omega) (by simp only [gN]; omega)
  simp only [gN] at K
  rw [show μ.2.2.2.1 + 1 - n0 = μ.2.2.2.1 - n0 + 1 by omega, show μ.2.2.2.2.1 + cO ci - s0 = μ.2.2.2.2.1 - s0 + cO ci by omega] at K
  rw [hsz]
  exact K
theorem xw_na_int {n : Int} (C : XC p s m args meth c dC dI q r) (hd : decode r.1.2.1 pc = .ok (.newarray .int, 2)) (hn0 : 0 ≤ n) (hn1 : n ≤ 100000) (hc : μ.2.2.2.1 + 1 - n0 ≤ R.cells) (hs : μ.2.2.2.2.1 + n.toNat - s0 ≤ R.slots)
    (k : XW p l ev R s m args below meth c Q ad dC dI B n0 s0 (pc + 2) ls (xR (μ.2.2.2.2.2 μ.2.2.2.1) :: st) (vA μ.1 (μ.2.2.2.2.2 μ.2.2.2.1) (fun _ => 0), gN μ.2 (μ.2.2.2.2.2 μ.2.2.2.1) (1, n.toNat) n.toNat)) : XW p l ev R s m args below meth c Q ad dC dI B n0 s0 pc ls (xI n :: st) μ := by
  intro H locs lsA h1 h2 h3 h4 h5 h6 h7 h8
  have hn32 : i32 n := (okc.mp h4).1
  have h4 := (okc.mp h4).2
  have hh : H.size = ad (μ.2.2.2.2.2 μ.2.2.2.1) := by rw [h5.2.2.1, h5.2.2.2.1]
  refine va_newaK (atype := .int) (h := ad (μ.2.2.2.2.2 μ.2.2.2.1)) (N := n.toNat) C.2.1 C.2.2.1 (C.2.2.2.2.2.2.1 _ ac_int) rfl hd rfl (by rw [← o32, lt32 hn32 z32]; omega) (cl32 hn32) (by show n.toNat * 4 ≤ 536870912; omega) (by omega) (by omega) hh (fun H' cA e1 z1 o1 hAr hNm => ?_)
  rw [← hh] at z1 o1
  have e0 : (gN μ.2 (μ.2.2.2.2.2 μ.2.2.2.1) (1, n.toNat) n.toNat).1 (μ.2.2.2.2.2 μ.2.2.2.1) = (1, n.toNat) := by simp [gN]
  have hP := h5.new (sh := (1, n.toNat)) (n := n.toNat) (by simp) (by simp) z1 o1 ((cR_1 (by rw [e0])).mpr ⟨cA, by rw [e1, e0]; simp only [vA, if_pos]; rfl, hAr⟩)
  have K := k H' locs lsA h1 h2 h3 (okc.mpr ⟨trivial, h4⟩) hP (xS_new h6 (by omega) o1) (by simp only [gN]; omega) (by simp only [gN]; omega)
  simp only [gN] at K
  rw [show μ.2.2.2.1 + 1 - n0 = μ.2.2.2.1 - n0 + 1 by omega, show μ.2.2.2.2.1 + n.toNat - s0 = μ.2.2.2.2.1 - s0 + n.toNat by omega] at K
  exact K
theorem xw_na_bool {n : Int} (C : XC p s m args meth c dC dI q r) (hd : decode r.1.2.1 pc = .ok (.newarray .boolean, 2)) (hn0 : 0 ≤ n) (hn1 : n ≤ 100000) (hc : μ.2.2.2.1 + 1 - n0 ≤ R.cells) (hs : μ.2.2.2.2.1 + n.toNat - s0 ≤ R.slots)
    (k : XW p l ev R s m args below meth c Q ad dC dI B n0 s0 (pc + 2) ls (xR (μ.2.2.2.2.2 μ.2.2.2.1) :: st) (vA μ.1 (μ.2.2.2.2.2 μ.2.2.2.1) (fun _ => 0), gN μ.2 (μ.2.2.2.2.2 μ.2.2.2.1) (2, n.toNat) n.toNat)) : XW p l ev R s m args below meth c Q ad dC dI B n0 s0 pc ls (xI n :: st) μ := by
  intro H locs lsA h1 h2 h3 h4 h5 h6 h7 h8
  have hn32 : i32 n := (okc.mp h4).1
  have h4 := (okc.mp h4).2
  have hh : H.size = ad (μ.2.2.2.2.2 μ.2.2.2.1) := by rw [h5.2.2.1, h5.2.2.2.1]
  refine va_newaK (atype := .boolean) (h := ad (μ.2.2.2.2.2 μ.2.2.2.1)) (N := n.toNat) C.2.1 C.2.2.1 (C.2.2.2.2.2.2.1 _ ac_bool) rfl hd rfl (by rw [← o32, lt32 hn32 z32]; omega) (cl32 hn32) (by show n.toNat * 1 ≤ 536870912; omega) (by omega) (by omega) hh (fun H' cA e1 z1 o1 hAr hNm => ?_)
  rw [← hh] at z1 o1
  have e0 : (gN μ.2 (μ.2.2.2.2.2 μ.2.2.2.1) (2, n.toNat) n.toNat).1 (μ.2.2.2.2.2 μ.2.2.2.1) = (2, n.toNat) := by simp [gN]
  have hP := h5.new (sh := (2, n.toNat)) (n := n.toNat) (by simp) (by simp) z1 o1 ((cR_2 (by rw [e0])).mpr ⟨cA, by rw [e1, e0]; simp only [vA, if_pos]; rfl, hAr⟩)
  have K := k H' locs lsA h1 h2 h3 (okc.mpr ⟨trivial, h4⟩) hP (xS_new h6 (by omega) o1) (by simp only [gN]; omega) (by simp only [gN]; omega)
  simp only [gN] at K
  rw [show μ.2.2.2.1 + 1 - n0 = μ.2.2.2.1 - n0 + 1 by omega, show μ.2.2.2.2.1 + n.toNat - s0 = μ.2.2.2.2.1 - s0 + n.toNat by omega] at K
  exact K
theorem xw_na_long {n : Int} (C : XC p s m args meth c dC dI q r) (hd : decode r.1.2.1 pc = .ok (.newarray .long, 2)) (hn0 : 0 ≤ n) (hn1 : n ≤ 100000) (hc : μ.2.2.2.1 + 1 - n0 ≤ R.cells) (hs : μ.2.2.2.2.1 + n.toNat - s0 ≤ R.slots)
    (k : XW p l ev R s m args below meth c Q ad dC dI B n0 s0 (pc + 2) ls (xR (μ.2.2.2.2.2 μ.2.2.2.1) :: st) (vA μ.1 (μ.2.2.2.2.2 μ.2.2.2.1) (fun _ => 0), gN μ.2 (μ.2.2.2.2.2 μ.2.2.2.1) (3, n.toNat) n.toNat)) : XW p l ev R s m args below meth c Q ad dC dI B n0 s0 pc ls (xI n :: st) μ := by
  intro H locs lsA h1 h2 h3 h4 h5 h6 h7 h8
  have hn32 : i32 n := (okc.mp h4).1
  have h4 := (okc.mp h4).2
  have hh : H.size = ad (μ.2.2.2.2.2 μ.2.2.2.1) := by rw [h5.2.2.1, h5.2.2.2.1]
  refine va_newaK (atype := .long) (h := ad (μ.2.2.2.2.2 μ.2.2.2.1)) (N := n.toNat) C.2.1 C.2.2.1 (C.2.2.2.2.2.2.1 _ ac_long) rfl hd rfl (by rw [← o32, lt32 hn32 z32]; omega) (cl32 hn32) (by show n.toNat * 8 ≤ 536870912; omega) (by omega) (by omega) hh (fun H' cA e1 z1 o1 hAr hNm => ?_)
  rw [← hh] at z1 o1
  have e0 : (gN μ.2 (μ.2.2.2.2.2 μ.2.2.2.1) (3, n.toNat) n.toNat).1 (μ.2.2.2.2.2 μ.2.2.2.1) = (3, n.toNat) := by simp [gN]
  have hP := h5.new (sh := (3, n.toNat)) (n := n.toNat) (by simp) (by simp) z1 o1 ((cR_3 (by rw [e0])).mpr ⟨cA, by rw [e1, e0]; simp only [vA, if_pos]; rfl, hAr⟩)
  have K := k H' locs lsA h1 h2 h3 (okc.mpr ⟨trivial, h4⟩) hP (xS_new h6 (by omega) o1) (by simp only [gN]; omega) (by simp only [gN]; omega)
  simp only [gN] at K
  rw [show μ.2.2.2.1 + 1 - n0 = μ.2.2.2.1 - n0 + 1 by omega, show μ.2.2.2.2.1 + n.toNat - s0 = μ.2.2.2.2.1 - s0 + n.toNat by omega] at K
  exact K
theorem xw_anew {n : Int} {idx : Nat} (C : XC p s m args meth c dC dI q r) (hd : decode r.1.2.1 pc = .ok (.anewarray idx, 3)) (hl : (Cond.classLink (cN (q / 100)) idx "LightPlate$Row").before args s = true) (hn0 : 0 ≤ n) (hn1 : n ≤ 100000) (hc : μ.2.2.2.1 + 1 - n0 ≤ R.cells) (hs : μ.2.2.2.2.1 + n.toNat - s0 ≤ R.slots)
    (k : XW p l ev R s m args below meth c Q ad dC dI B n0 s0 (pc + 3) ls (xR (μ.2.2.2.2.2 μ.2.2.2.1) :: st) (vA μ.1 (μ.2.2.2.2.2 μ.2.2.2.1) (fun _ => 0), gN μ.2 (μ.2.2.2.2.2 μ.2.2.2.1) (5, n.toNat) n.toNat)) : XW p l ev R s m args below meth c Q ad dC dI B n0 s0 pc ls (xI n :: st) μ := by
  intro H locs lsA h1 h2 h3 h4 h5 h6 h7 h8
  have hn32 : i32 n := (okc.mp h4).1
  have h4 := (okc.mp h4).2
  have hh : H.size = ad (μ.2.2.2.2.2 μ.2.2.2.1) := by rw [h5.2.2.1, h5.2.2.2.1]
  have hov : va_AO "LightPlate$Row" s := C.2.2.2.2.2.2.2.2.2.2 _ (by simp [oW])
  have hcl := cl32 hn32
  refine W.anew C.2.1 C.2.2.1 C.2.2.2.2.2.1 hl (va_AO.use hov) rfl hd rfl (by rw [← o32, lt32 hn32 z32]; omega) (by rw [hcl]; omega) (by omega) (by rw [hcl]; omega) (fun cA kA comp f1 f2 f3 f4 => ?_)
  rw [hcl]
  generalize hH1 : H.push ({ cls := cA, slots := Array.replicate n.toNat .null, vm := .none } : Cell) = H'
  have z1 : H'.size = H.size + 1 := by rw [← hH1, Array.size_push]
  have e1 : H'[H.size]? = some (arrV cA n.toNat (fun _ => .null)) := by rw [← hH1, Array.getElem?_push_size, ← arrV_new]
  have o1 : ∀ q : Nat, q < H.size → H'[q]? = H[q]? := fun q hq => by rw [← hH1, Array.getElem?_push, if_neg (Nat.ne_of_lt hq)]
  have hAr : ArrOfT s cA (.object "LightPlate$Row") := fun N z => ⟨(fun k h => by cases h), kA, f2, comp, f3⟩
  rw [hh] at e1
  have e0 : (gN μ.2 (μ.2.2.2.2.2 μ.2.2.2.1) (5, n.toNat) n.toNat).1 (μ.2.2.2.2.2 μ.2.2.2.1) = (5, n.toNat) := by simp [gN]
  have hP := h5.new (sh := (5, n.toNat)) (n := n.toNat) (by simp) (by simp) z1 o1 ((cR_5 (by rw [e0])).mpr ⟨cA, by rw [e1, e0]; simp only [gN, if_pos]; rfl, hAr, kA, comp, f2, f3, f4, f1⟩)
  have K := k H' locs lsA h1 h2 h3 (okc.mpr ⟨trivial, h4⟩) hP (xS_new h6 (by omega) o1) (by simp only [gN]; omega) (by simp only [gN]; omega)
  simp only [gN] at K
  rw [show μ.2.2.2.1 + 1 - n0 = μ.2.2.2.1 - n0 + 1 by omega, show μ.2.2.2.2.1 + n.toNat - s0 = μ.2.2.2.2.1 - s0 + n.toNat by omega] at K
  rw [hh]
  exact K
theorem xw_obj {a idx : Nat} (C : XC p s m args meth c dC dI q r) (hd : decode r.1.2.1 pc = .ok (.invokespecial idx, 3)) (hl : (Cond.methodLink (cN (q / 100)) idx Lib.objectInit).before args s = true) (hst : st.length ≤ 4) (hf : 1 ≤ R.frames) (hlo : 100 ≤ R.locals) (k : XW p l ev R s m args below meth c Q ad dC dI B n0 s0 (pc + 3) ls st μ) : XW p l ev R s m args below meth c Q ad dC dI B n0 s0 pc ls (xR a :: st) μ := by
  intro H locs lsA h1 h2 h3 h4 h5 h6 h7 h8
  exact W.objInit (g := F0 m pc lsA (.ref (ad a) :: st.map (tv ad))) C.2.1 C.2.2.1 C.2.2.2.2.2.1 hl (C.2.2.2.2.2.2.1 _ oi_1) (C.2.2.2.2.2.2.1 _ oi_2) rfl h1.1 rfl hd hf (by have := cat_le (ad := ad) st; show 2 * 0 + _ + 12 ≤ _; omega) (k H locs lsA h1 h2 h3 (okc.mp h4).2 h5 h6 h7 h8)
theorem xw_copy {a b idx : Nat} {n dp sp : Int} (C : XC p s m args meth c dC dI q r) (hd : decode r.1.2.1 pc = .ok (.invokestatic idx, 3)) (hl : (Cond.methodLink (cN (q / 100)) idx arraycopyName).before args s = true) (ea : (μ.2.1 a).1 = 1) (eb : (μ.2.1 b).1 = 1) (h0 : 0 ≤ n ∧ 0 ≤ sp ∧ 0 ≤ dp) (hb : sp + n ≤ ((μ.2.1 b).2 : Nat)) (ha : dp + n ≤ ((μ.2.1 a).2 : Nat)) (hst : st.length ≤ 4) (hf : 1 ≤ R.frames) (hlo : 100 ≤ R.locals)
    (k : XW p l ev R s m args below meth c Q ad dC dI B n0 s0 (pc + 3) ls st (vA μ.1 a (fun j => if dp ≤ j ∧ j < dp + n then μ.1 b (sp + (j - dp)) else μ.1 a j), μ.2)) : XW p l ev R s m args below meth c Q ad dC dI B n0 s0 pc ls (xI n :: xI dp :: xR a :: xI sp :: xR b :: st) μ := by
  intro H locs lsA h1 h2 h3 h4 h5 h6 h7 h8
  have hn : i32 n := (okc.mp h4).1
  have h4 := (okc.mp h4).2
  have hdp : i32 dp := (okc.mp h4).1
  have h4 := (okc.mp (okc.mp h4).2).2
  have hsp : i32 sp := (okc.mp h4).1
  have h4 := (okc.mp (okc.mp h4).2).2
  have hka0 : (μ.2.1 a).1 ≠ 0 := by omega
  have hka9 : (μ.2.1 a).1 ≠ 9 := by omega
  obtain ⟨c1', g1, g2⟩ := (cR_1 ea).mp (h5.1 a)
  obtain ⟨c0', f1, f2⟩ := (cR_1 eb).mp (h5.1 b)
  intro T hT Xs
  obtain ⟨-, k0, hk0, cm0, hkk0⟩ := f2 (μ.2.1 b).2 (fun j => .int (Int32.ofInt (μ.1 b j)))
  obtain ⟨-, k1, hk1, cm1, hkk1⟩ := g2 (μ.2.1 a).2 (fun j => .int (Int32.ofInt (μ.1 a j)))
  have e8 : nativeFrameWords "java/lang/System" "arraycopy" 5 = 7 := by decide +kernel
  have en : ∀ z : Int, i32 z → 0 ≤ z → ¬ Int32.ofInt z < 0 := fun z hz h => by rw [← o32, lt32 hz z32]; omega
  obtain ⟨vm', X', step⟩ := Xs.arraycopy C.2.1 C.2.2.2.2.2.1 hl (C.2.2.2.2.2.2.1 _ cp_1) (C.2.2.2.2.2.2.1 _ cp_2) (C.2.2.2.2.2.2.1 _ cp_3) (src := ad b) (dst := ad a) (cs := arrV c0' (μ.2.1 b).2 (fun j => .int (Int32.ofInt (μ.1 b j)))) (cd := arrV c1' (μ.2.1 a).2 (fun j => .int (Int32.ofInt (μ.1 a j)))) (srcPos := Int32.ofInt sp) (destPos := Int32.ofInt dp) (n := Int32.ofInt n) (by rw [hT]; exact f1) (by rw [hT]; exact g1)
    (fun _ h => by cases h) (fun _ h => by cases h) (fun h => by cases h) (fun h => by cases h) hk0 hk1 hkk0 hkk1 (by simp [refKind]) (en sp hsp h0.2.1) (en dp hdp h0.2.2) (en n hn h0.1)
    (by rw [n32 hsp, n32 hn, arrV_size]; omega)
    (by rw [n32 hdp, n32 hn, arrV_size]; omega)
    (fun vm₁ _ i hi => by
      rw [cl32 hn] at hi
      have e9 : (arrV c0' (μ.2.1 b).2 (fun j => .int (Int32.ofInt (μ.1 b j)))).slots.getD ((Int32.ofInt sp).toNatClampNeg + i) .null = .int (Int32.ofInt (μ.1 b ((sp.toNat + i : Nat) : Int))) := by
        rw [cl32 hsp, Array.getD_eq_getD_getElem?, arrV_read _ _ (by omega)]
        rfl
      rw [e9]
      exact ⟨rfl, trivial⟩)
    (g := F0 m pc lsA (.int (Int32.ofInt n) :: .int (Int32.ofInt dp) :: .ref (ad a) :: .int (Int32.ofInt sp) :: .ref (ad b) :: st.map (tv ad))) rfl h1.1 (rest := st.map (tv ad)) rfl (by rw [C.2.2.1]; exact hd) hf (by have := cat_le (ad := ad) st; show 2 * 0 + _ + _ ≤ _; rw [e8]; omega)
  have e1 : copied (arrV c0' (μ.2.1 b).2 (fun j => .int (Int32.ofInt (μ.1 b j)))) (arrV c1' (μ.2.1 a).2 (fun j => .int (Int32.ofInt (μ.1 a j)))) (Int32.ofInt sp) (Int32.ofInt dp) (Int32.ofInt n) = arrV c1' (μ.2.1 a).2 (fun j : Nat => .int (Int32.ofInt (if dp ≤ (j : Int) ∧ (j : Int) < dp + n then μ.1 b (sp + ((j : Int) - dp)) else μ.1 a j))) := by
    have e2 := va_copied (fun z : Int => Value.int (Int32.ofInt z)) c0' c1' (n0 := (μ.2.1 b).2) (n1 := (μ.2.1 a).2) (sp := sp.toNat) (dp := dp.toNat) (n := n.toNat) (fun j : Nat => μ.1 b j) (fun j : Nat => μ.1 a j) (by omega)
    unfold va_cpy at e2
    unfold copied
    rw [cl32 hsp, cl32 hdp, cl32 hn]
    rw [e2]
    congr 1
    funext j
    by_cases hj : dp.toNat ≤ j ∧ j < dp.toNat + n.toNat
    · have hj2 : dp ≤ (j : Int) ∧ (j : Int) < dp + n := by omega
      rw [if_pos hj, if_pos hj2]
      show Value.int (Int32.ofInt (μ.1 b ((sp.toNat + (j - dp.toNat) : Nat) : Int))) = _
      rw [show ((sp.toNat + (j - dp.toNat) : Nat) : Int) = sp + ((j : Int) - dp) by omega]
    · have hj2 : ¬ (dp ≤ (j : Int) ∧ (j : Int) < dp + n) := by omega
      rw [if_neg hj, if_neg hj2]
  rw [e1] at X' step
  have hl2 : ad a < H.size := (Array.getElem?_eq_some_iff.mp g1).1
  generalize hcell : arrV c1' (μ.2.1 a).2 (fun j : Nat => Value.int (Int32.ofInt (if dp ≤ (j : Int) ∧ (j : Int) < dp + n then μ.1 b (sp + ((j : Int) - dp)) else μ.1 a j))) = cell at X' step
  have hheap : ((T.setVm vm').setCell (ad a) cell).heap = H.setIfInBounds (ad a) cell := by rw [← hT]; rfl
  have oq : ∀ q : Nat, q ≠ ad a → (H.setIfInBounds (ad a) cell)[q]? = H[q]? := fun q hq => by simp [Array.getElem?_setIfInBounds, Ne.symm hq]
  have hP := h5.put (a := a) (μ' := (vA μ.1 a (fun j => if dp ≤ j ∧ j < dp + n then μ.1 b (sp + (j - dp)) else μ.1 a j), μ.2)) hka0 rfl rfl (fun b hb => by simp [vA, hb]) (fun _ _ => rfl) (by simp) oq ((cR_1 (μ := (vA μ.1 a _, μ.2)) ea).mpr ⟨c1', by
      show (H.setIfInBounds (ad a) cell)[ad a]? = _
      rw [show (H.setIfInBounds (ad a) cell)[ad a]? = some cell by simp [Array.getElem?_setIfInBounds, hl2], ← hcell]
      simp only [vA_at], g2⟩) (fun i => by
      rw [okC_1 (μ := (vA μ.1 a _, μ.2)) ea]
      simp only [vA_at]
      have hb1 := (okC_1 eb).mp (h5.2.1 b (sp + (i - dp)))
      have ha1 := (okC_1 ea).mp (h5.2.1 a i)
      split
      · exact hb1
      · exact ha1)
  obtain ⟨t, a1, b1⟩ := k _ _ lsA h1 h2 h3 h4 hP ⟨by simp; exact h6.1, fun q g1 g2 => by
      rw [oq q (fun e => g2 (by rw [e]; exact h5.low hka0 hka9))]
      exact h6.2.1 q g1 g2, fun q hq => by
      rcases List.mem_append.mp hq with h | h
      · exact h6.2.2 q h
      · obtain ⟨z, -, hz⟩ := List.mem_map.mp h
        rw [← hz]
        exact h5.low hka0 hka9⟩ h7 h8 _ hheap X'
  exact ⟨t, step t a1, b1⟩
end XAl
end
section
/-! new int[n][k] -/
theorem any_iff {N b : Nat} {f : Nat → Nat} : ((List.range N).any fun j => b == f j) = true ↔ ∃ j, j < N ∧ b = f j := by
  simp [List.any_eq_true, List.mem_range]
theorem mna_outer (c : ClassId) (N h0 : Nat) : ∀ i : Nat, Jvm.Free.Multi.outerC c N h0 i = arrV c N (fun j => va_rf (if j < i then some (h0 + 1 + j) else none))
  | 0 => by
    show ({ cls := c, slots := Array.replicate N .null, vm := .none } : Cell) = _
    rw [arrV_new]
    refine congrArg (arrV c N) (funext fun j => ?_)
    simp [va_rf]
  | i + 1 => by
    show (Jvm.Free.Multi.outerC c N h0 i).setSlot i (.ref (h0 + 1 + i)) = _
    rw [mna_outer c N h0 i, arrV_store]
    refine congrArg (arrV c N) (funext fun j => ?_)
    by_cases e : j = i
    · subst e
      simp [updV, va_rf]
    · by_cases h : j < i
      · simp [updV, e, h, Nat.lt_succ_of_lt h]
      · simp [updV, e, h, show ¬ j < i + 1 by omega]
section XMna
variable {p : Program} {l : Launch} {ev : Env} {R : Room} {s : State} {m : MethodId} {args : Array Value} {below : List Frame} {meth : Method} {c : Code} {Q : State → Prop} {ad : Nat → Nat} {dC : Nat → ClassId} {dI : Nat → Nat → Nat} {B n0 s0 : Nat} {q : Nat} {r : MR} {pc : Nat} {ls st : List XV} {μ : XM}
theorem xP.mna {U : State} {H H' : Heap} {n k0 : Int} {cA comp : ClassId} (h : xP ad dC dI B U H μ) (z : H'.size = H.size + 1 + n.toNat) (o : ∀ q, q < H.size → H'[q]? = H[q]?) (e1 : H'[H.size]? = some (arrV cA n.toNat (fun j => va_rf (if j < n.toNat then some (H.size + 1 + j) else none)))) (t1 : ArrOfT U cA (.array .int)) (e2 : ∀ j, j < n.toNat → H'[H.size + 1 + j]? = some (arrV comp k0.toNat (fun _ => .int 0))) (t2 : ArrOfT U comp .int) : xP ad dC dI B U H' ((fun b => if (List.range (1 + n.toNat)).any (fun j => b == μ.2.2.2.2.2 (μ.2.2.2.1 + j)) then fun _ => 0 else μ.1 b),
       (fun b => if b = μ.2.2.2.2.2 μ.2.2.2.1 then (4, n.toNat) else if (List.range n.toNat).any (fun j => b == μ.2.2.2.2.2 (μ.2.2.2.1 + 1 + j)) then (1, k0.toNat) else μ.2.1 b),
       (fun b => if b = μ.2.2.2.2.2 μ.2.2.2.1 then (fun j => if 0 ≤ j ∧ j < n then some (μ.2.2.2.2.2 (μ.2.2.2.1 + 1 + j.toNat)) else none) else μ.2.2.1 b),
       μ.2.2.2.1 + 1 + n.toNat, μ.2.2.2.2.1 + n.toNat + n.toNat * k0.toNat, μ.2.2.2.2.2) := by
  have hz := h.2.2.1
  have hiv := h.2.2.2.1
  have inj : ∀ i j, μ.2.2.2.2.2 i = μ.2.2.2.2.2 j → i = j := fun i j e => by
    have h1 := hiv i
    have h2 := hiv j
    rw [e] at h1
    omega
  have old : ∀ b, (μ.2.1 b).1 ≠ 0 → ∀ j, b ≠ μ.2.2.2.2.2 (μ.2.2.2.1 + j) := fun b hb j e => hb (by rw [e]; exact h.free (by omega))
  have lt : ∀ b, (μ.2.1 b).1 ≠ 0 → ad b < H.size := fun b hb => by
    rcases h.2.2.2.2 b hb with ⟨-, -, l⟩ | ⟨-, j, hj, e3⟩
    · omega
    · rw [e3, hiv]; omega
  have sh0 : ∀ b, b ≠ μ.2.2.2.2.2 μ.2.2.2.1 → ¬ ((List.range n.toNat).any (fun j => b == μ.2.2.2.2.2 (μ.2.2.2.1 + 1 + j)) = true) → ¬ ((List.range (1 + n.toNat)).any (fun j => b == μ.2.2.2.2.2 (μ.2.2.2.1 + j)) = true) := by
    intro b h1 h2 h3
    obtain ⟨j, hj, e⟩ := any_iff.mp h3
    cases j with
    | zero => exact h1 e
    | succ j => exact h2 (any_iff.mpr ⟨j, by omega, by rw [e, show μ.2.2.2.1 + (j + 1) = μ.2.2.2.1 + 1 + j by omega]⟩)
  refine ⟨fun b => ?_, fun b i => ?_, ?_, ?_, ?_⟩
  · by_cases hb0 : b = μ.2.2.2.2.2 μ.2.2.2.1
    · unfold cR
      simp only [if_pos hb0]
      refine ⟨cA, ?_, t1⟩
      have ea : ad b = H.size := by rw [hb0, hiv, hz]
      rw [ea, e1]
      congr 2
      funext j
      by_cases hj : j < n.toNat
      · have hj2 : 0 ≤ (j : Int) ∧ (j : Int) < n := by omega
        simp only [if_pos hj, if_pos hj2, Option.map_some, hiv, hz, Int.toNat_natCast]
        rw [show B + μ.2.2.2.1 + 1 + j = B + (μ.2.2.2.1 + 1 + j) by omega]
      · have hj2 : ¬ (0 ≤ (j : Int) ∧ (j : Int) < n) := by omega
        simp only [if_neg hj, if_neg hj2, Option.map_none]
    · by_cases hb1 : (List.range n.toNat).any (fun j => b == μ.2.2.2.2.2 (μ.2.2.2.1 + 1 + j)) = true
      · obtain ⟨j, hj, eb⟩ := any_iff.mp hb1
        have hb2 : (List.range (1 + n.toNat)).any (fun j => b == μ.2.2.2.2.2 (μ.2.2.2.1 + j)) = true := any_iff.mpr ⟨1 + j, by omega, by rw [eb, show μ.2.2.2.1 + (1 + j) = μ.2.2.2.1 + 1 + j by omega]⟩
        unfold cR
        simp only [if_neg hb0, if_pos hb1, if_pos hb2]
        refine ⟨comp, ?_, t2⟩
        rw [show ad b = H.size + 1 + j by rw [eb, hiv, hz]; omega, e2 j hj]
        rfl
      · have hb2 := sh0 b hb0 hb1
        refine cR_kept (μ := μ) ?_ ?_ ?_ (fun hb => o _ (lt b hb)) (h.1 b)
        · simp only [if_neg hb0, if_neg hb1]
        · simp only [if_neg hb2]
        · simp only [if_neg hb0]
  · by_cases hb0 : b = μ.2.2.2.2.2 μ.2.2.2.1
    · unfold okC
      simp only [if_pos hb0]
    · by_cases hb1 : (List.range n.toNat).any (fun j => b == μ.2.2.2.2.2 (μ.2.2.2.1 + 1 + j)) = true
      · obtain ⟨j, hj, eb⟩ := any_iff.mp hb1
        have hb2 : (List.range (1 + n.toNat)).any (fun j => b == μ.2.2.2.2.2 (μ.2.2.2.1 + j)) = true := any_iff.mpr ⟨1 + j, by omega, by rw [eb, show μ.2.2.2.1 + (1 + j) = μ.2.2.2.1 + 1 + j by omega]⟩
        unfold okC
        simp only [if_neg hb0, if_pos hb1, if_pos hb2]
        decide
      · refine okC_kept (μ := μ) ?_ ?_ (h.2.1 b i)
        · simp only [if_neg hb0, if_neg hb1]
        · simp only [if_neg (sh0 b hb0 hb1)]
  · simp only
    omega
  · exact hiv
  · intro b hb
    simp only at hb ⊢
    by_cases hb0 : b = μ.2.2.2.2.2 μ.2.2.2.1
    · simp only [if_pos hb0]
      exact Or.inr ⟨by decide, μ.2.2.2.1, by omega, hb0⟩
    · by_cases hb1 : (List.range n.toNat).any (fun j => b == μ.2.2.2.2.2 (μ.2.2.2.1 + 1 + j)) = true
      · obtain ⟨j, hj, eb⟩ := any_iff.mp hb1
        simp only [if_neg hb0, if_pos hb1]
        exact Or.inr ⟨by decide, μ.2.2.2.1 + 1 + j, by omega, eb⟩
      · simp only [if_neg hb0, if_neg hb1] at hb ⊢
        rcases h.2.2.2.2 b hb with hl | ⟨h1, j, hj, e3⟩
        · exact Or.inl hl
        · exact Or.inr ⟨h1, j, by omega, e3⟩
theorem xw_mna {n k0 : Int} {idx : Nat} (C : XC p s m args meth c dC dI q r) (hd : decode r.1.2.1 pc = .ok (.multianewarray idx 2, 4)) (hl : (Cond.classLink (cN (q / 100)) idx "[[I").before args s = true) (hn : 0 ≤ n ∧ n ≤ 10000) (hk : 0 ≤ k0 ∧ k0 ≤ 10000) (hc : μ.2.2.2.1 + 1 + n.toNat - n0 ≤ R.cells) (hs : μ.2.2.2.2.1 + n.toNat + n.toNat * k0.toNat - s0 ≤ R.slots)
    (k : XW p l ev R s m args below meth c Q ad dC dI B n0 s0 (pc + 4) ls (xR (μ.2.2.2.2.2 μ.2.2.2.1) :: st) ((fun b => if (List.range (1 + n.toNat)).any (fun j => b == μ.2.2.2.2.2 (μ.2.2.2.1 + j)) then fun _ => 0 else μ.1 b),
       (fun b => if b = μ.2.2.2.2.2 μ.2.2.2.1 then (4, n.toNat) else if (List.range n.toNat).any (fun j => b == μ.2.2.2.2.2 (μ.2.2.2.1 + 1 + j)) then (1, k0.toNat) else μ.2.1 b),
       (fun b => if b = μ.2.2.2.2.2 μ.2.2.2.1 then (fun j => if 0 ≤ j ∧ j < n then some (μ.2.2.2.2.2 (μ.2.2.2.1 + 1 + j.toNat)) else none) else μ.2.2.1 b),
       μ.2.2.2.1 + 1 + n.toNat, μ.2.2.2.2.1 + n.toNat + n.toNat * k0.toNat, μ.2.2.2.2.2)) : XW p l ev R s m args below meth c Q ad dC dI B n0 s0 pc ls (xI k0 :: xI n :: st) μ := by
  intro H locs lsA h1 h2 h3 h4 h5 h6 h7 h8
  have hk32 : i32 k0 := (okc.mp h4).1
  have hn32 : i32 n := (okc.mp (okc.mp h4).2).1
  have h4 := (okc.mp (okc.mp h4).2).2
  have hov0 : (Cond.arrayOver (.array .int)).before #[] s = true := C.2.2.2.2.2.2.2.2.2.2 _ (by simp [oW])
  have hov : (Cond.arrayOver (.array .int)).before args s = true := hov0
  have cn := cl32 hn32
  have ck := cl32 hk32
  intro T hT Xs
  obtain ⟨vm₁, cA, comp, -, fA, fC, hO, hI, X', step⟩ := Xs.multianewarray2F (ty := .int) C.2.1 C.2.2.2.2.2.1 hl hov (C.2.2.2.2.2.2.1 _ ac_int) (g := F0 m pc lsA (.int (Int32.ofInt k0) :: .int (Int32.ofInt n) :: st.map (tv ad))) rfl (by rw [C.2.2.1]; exact hd) rfl (by rw [← o32, lt32 hn32 z32]; omega) (by rw [← o32, lt32 hk32 z32]; omega) (by rw [cn]; omega) (by rw [ck]; show k0.toNat * 4 ≤ 536870912; omega) (by rw [ck]; omega) rfl rfl (by rw [cn]; omega) (by rw [cn, ck]; omega)
  rw [cn, ck] at X' step
  generalize hF : Jvm.Free.Multi.fill (T.setVm vm₁) cA comp n.toNat k0.toNat (defaultValue .int) n.toNat = F at X' step
  have hTh : (T.setVm vm₁).heap = H := hT
  obtain ⟨f1, f2, -, -⟩ := Jvm.Free.Multi.fill_facts (T.setVm vm₁) cA comp n.toNat k0.toNat (defaultValue .int) n.toNat
  rw [hF, hTh] at f1 f2
  rw [mna_outer] at f2
  have hold : ∀ x : Nat, x < H.size → F.heap[x]? = H[x]? := fun x hx => by
    have := Jvm.Free.Multi.fill_old (T.setVm vm₁) cA comp n.toNat k0.toNat (defaultValue .int) (a := x) (by rw [hTh]; exact hx) n.toNat
    rw [hF, hTh] at this
    exact this
  have hrow : ∀ j : Nat, j < n.toNat → F.heap[H.size + 1 + j]? = some (arrV comp k0.toNat (fun _ => .int 0)) := fun j hj => by
    have := Jvm.Free.Multi.fill_inner (T.setVm vm₁) cA comp n.toNat k0.toNat (defaultValue .int) n.toNat j hj
    rw [hF, hTh] at this
    rw [this]
    unfold Jvm.Free.Multi.innerC
    rw [arrV_new]
    rfl
  have hAr : ArrOfT s cA (.array .int) := fun N9 z9 => by
    obtain ⟨-, k9, hk9, cm9, hkk9⟩ := (hO 0 0 0).1
    exact ⟨(fun q hq => by cases hq), k9, hk9, cm9, hkk9⟩
  have hAi : ArrOfT s comp .int := fun N9 z9 => by
    obtain ⟨-, k9, hk9, cm9, hkk9⟩ := (hI 0 (.int 0)).1
    exact ⟨(fun q hq => by cases hq), k9, hk9, cm9, hkk9⟩
  have hP := h5.mna (n := n) (k0 := k0) f1 hold f2 hAr hrow hAi
  have hh : H.size = ad (μ.2.2.2.2.2 μ.2.2.2.1) := by rw [h5.2.2.1, h5.2.2.2.1]
  have K := k F.heap locs lsA h1 h2 h3 (okc.mpr ⟨trivial, h4⟩) hP (xS_new h6 (by omega) hold) (by simp only; omega) (by simp only; omega)
  simp only at K
  rw [show μ.2.2.2.1 + 1 + n.toNat - n0 = μ.2.2.2.1 - n0 + 1 + n.toNat by omega, show μ.2.2.2.2.1 + n.toNat + n.toNat * k0.toNat - s0 = μ.2.2.2.2.1 - s0 + n.toNat + n.toNat * k0.toNat by omega] at K
  obtain ⟨t, a1, b1⟩ := K F rfl X'
  refine ⟨t, step t ?_, b1⟩
  rw [hT, hh]
  exact a1
end XMna
end
section
/-! ALL STEPS together -/
theorem no_some {z : XR} (h : (none : Option XR) = some z) : False := by cases h
theorem lC_at {own idx : Nat} {ci : Nat} {args : Array Value} {s : State} (hts : ∀ w ∈ gW, w.before args s = true) (h : lC.any (fun w => w.1 == own && (w.2.1 == idx && w.2.2.1 == ci)) = true) : (Cond.classLink (cN own) idx (cN ci)).before args s = true := by
  obtain ⟨w, hw, h1⟩ := List.any_eq_true.mp h
  simp only [Bool.and_eq_true, beq_iff_eq] at h1
  obtain ⟨rfl, rfl, rfl⟩ := h1
  have h2 := List.all_eq_true.mp lC_ok w hw
  exact hts _ (gW_at (of_decide_eq_true h2) rfl)
theorem lL_at {own idx : Nat} {v : Int} {args : Array Value} {s : State} (hts : ∀ w ∈ gW, w.before args s = true) (h : lL.any (fun w => w.1 == own && (w.2.1 == idx && w.2.2.1 == v)) = true) : (Cond.constantLong (cN own) idx (Int64.ofInt v)).before args s = true := by
  obtain ⟨w, hw, h1⟩ := List.any_eq_true.mp h
  simp only [Bool.and_eq_true, beq_iff_eq] at h1
  obtain ⟨rfl, rfl, rfl⟩ := h1
  have h2 := List.all_eq_true.mp lL_ok w hw
  exact hts _ (gW_at (of_decide_eq_true h2) rfl)
theorem lO_at {own idx : Nat} {args : Array Value} {s : State} (hts : ∀ w ∈ gW, w.before args s = true) (h : lO.any (fun w => w.1 == own && w.2.1 == idx) = true) : (Cond.methodLink (cN own) idx Lib.objectInit).before args s = true := by
  obtain ⟨w, hw, h1⟩ := List.any_eq_true.mp h
  simp only [Bool.and_eq_true, beq_iff_eq] at h1
  obtain ⟨rfl, rfl⟩ := h1
  have h2 := List.all_eq_true.mp lO_ok w hw
  exact hts _ (gW_at (of_decide_eq_true h2) rfl)
theorem lY_at {own idx : Nat} {args : Array Value} {s : State} (hts : ∀ w ∈ gW, w.before args s = true) (h : lY.any (fun w => w.1 == own && w.2.1 == idx) = true) : (Cond.methodLink (cN own) idx arraycopyName).before args s = true := by
  obtain ⟨w, hw, h1⟩ := List.any_eq_true.mp h
  simp only [Bool.and_eq_true, beq_iff_eq] at h1
  obtain ⟨rfl, rfl⟩ := h1
  have h2 := List.all_eq_true.mp lY_ok w hw
  exact hts _ (gW_at (of_decide_eq_true h2) rfl)
theorem lW_at {own idx : Nat} {args : Array Value} {s : State} (hts : ∀ w ∈ gW, w.before args s = true) (h : lW.any (fun w => w.1 == own && w.2.1 == idx) = true) : (Cond.classLink (cN own) idx "[[I").before args s = true := by
  obtain ⟨w, hw, h1⟩ := List.any_eq_true.mp h
  simp only [Bool.and_eq_true, beq_iff_eq] at h1
  obtain ⟨rfl, rfl⟩ := h1
  have h2 := List.all_eq_true.mp lW_ok w hw
  exact hts _ (gW_at (of_decide_eq_true h2) rfl)
theorem lkp_off (pc : Int) : ∀ (ps : List (Int × Int)) (d x : Int), Op.lookupswitch.offset (ps.map fun q => (q.1, q.2 - pc)) (d - pc) x = lkp ps d x - pc
  | [], d, x => rfl
  | q :: ps, d, x => by
    show (if q.1 = x then q.2 - pc else Op.lookupswitch.offset (ps.map fun q => (q.1, q.2 - pc)) (d - pc) x) = (if x = q.1 then q.2 else lkp ps d x) - pc
    rw [lkp_off pc ps d x]
    by_cases h : q.1 = x
    · rw [if_pos h, if_pos h.symm]
    · rw [if_neg h, if_neg (fun z => h z.symm)]
theorem lkp_pos : ∀ (ps : List (Int × Int)) (d x : Int), 0 ≤ d → (ps.all fun q => decide (0 ≤ q.2)) = true → 0 ≤ lkp ps d x
  | [], d, x, h, _ => h
  | q :: ps, d, x, h, ha => by
    simp only [List.all_cons, Bool.and_eq_true, decide_eq_true_eq] at ha
    unfold lkp
    split
    · exact ha.1
    · exact lkp_pos ps d x h ha.2
section XAsm
variable {p : Program} {l : Launch} {e : Env} {R : Room} {s : State} {m : MethodId} {args : Array Value} {below : List Frame} {meth : Method} {c : Code} {Q : State → Prop} {ad : Nat → Nat} {dC : Nat → ClassId} {dI : Nat → Nat → Nat} {B n0 s0 : Nat} {q : Nat} {r : MR} {pc : Nat} {ls st : List XV} {μ : XM}
theorem xw_next {i : Instr} {len : Nat} {ls' st' : List XV} {μ' : XM} (C : XC p s m args meth c dC dI q r) (hc : cd q pc = some (i, len)) (hx : xs i ls st μ = some (.inl (ls', st', μ'))) (hf : 1 ≤ R.frames) (hlo : 100 ≤ R.locals) (hcell : μ'.2.2.2.1 - n0 ≤ R.cells) (hslot : μ'.2.2.2.2.1 - s0 ≤ R.slots) (k : XW p l e R s m args below meth c Q ad dC dI B n0 s0 (pc + len) ls' st' μ') : XW p l e R s m args below meth c Q ad dC dI B n0 s0 pc ls st μ := by
  obtain ⟨idx, hd, hlen, hs⟩ := cd_row C.1 hc
  cases i
  case iconst n =>
    have hl9 : len = 1 := hlen
    subst hl9
    have hn := of_decide_eq_true hs
    obtain ⟨rfl, rfl, rfl⟩ := rN_inj hx
    exact xw_iconst C hd hn k
  case bipush n =>
    have hl9 : len = 2 := hlen
    subst hl9
    have hn := of_decide_eq_true hs
    obtain ⟨rfl, rfl, rfl⟩ := rN_inj hx
    exact xw_bipush C hd hn k
  case sipush n =>
    have hl9 : len = 3 := hlen
    subst hl9
    have hn := of_decide_eq_true hs
    obtain ⟨rfl, rfl, rfl⟩ := rN_inj hx
    exact xw_sipush C hd hn k
  case lconst n =>
    have hl9 : len = 1 := hlen
    subst hl9
    obtain ⟨rfl, rfl, rfl⟩ := rN_inj hx
    exact xw_lconst C hd k
  case jsr_w v =>
    have hl9 : len = 3 := hlen
    subst hl9
    simp only [side, Bool.and_eq_true, decide_eq_true_eq] at hs
    obtain ⟨rfl, rfl, rfl⟩ := rN_inj hx
    exact xw_ldc2 C hd hs.2 (lL_at C.2.2.2.2.2.2.1 hs.1) k
  case iload_n k0 =>
    have hl9 : len = 1 := hlen
    subst hl9
    obtain ⟨x, h0, h⟩ := ldI_inv hx
    obtain ⟨rfl, rfl, rfl⟩ := rN_inj h
    exact xw_iload_n C hd h0 k
  case iload k0 =>
    have hl9 : len = 2 := hlen
    subst hl9
    obtain ⟨x, h0, h⟩ := ldI_inv hx
    obtain ⟨rfl, rfl, rfl⟩ := rN_inj h
    exact xw_iload C hd h0 k
  case lload_n k0 =>
    have hl9 : len = 1 := hlen
    subst hl9
    obtain ⟨x, h0, h⟩ := ldL_inv hx
    obtain ⟨rfl, rfl, rfl⟩ := rN_inj h
    exact xw_lload_n C hd h0 k
  case lload k0 =>
    have hl9 : len = 2 := hlen
    subst hl9
    obtain ⟨x, h0, h⟩ := ldL_inv hx
    obtain ⟨rfl, rfl, rfl⟩ := rN_inj h
    exact xw_lload C hd h0 k
  case aload_n k0 =>
    have hl9 : len = 1 := hlen
    subst hl9
    obtain ⟨x, h0, h⟩ := ldA_inv hx
    obtain ⟨rfl, rfl, rfl⟩ := rN_inj h
    exact xw_aload_n C hd h0 k
  case aload k0 =>
    have hl9 : len = 2 := hlen
    subst hl9
    obtain ⟨x, h0, h⟩ := ldA_inv hx
    obtain ⟨rfl, rfl, rfl⟩ := rN_inj h
    exact xw_aload C hd h0 k
  case istore_n k0 =>
    have hl9 : len = 1 := hlen
    subst hl9
    obtain ⟨x, s1, e1, h⟩ := tI_inv hx
    obtain ⟨g1, g2, h⟩ := st1_inv h
    obtain ⟨rfl, rfl, rfl⟩ := rN_inj h
    subst e1
    exact xw_istore_n C hd g1 g2 k
  case istore k0 =>
    have hl9 : len = 2 := hlen
    subst hl9
    obtain ⟨x, s1, e1, h⟩ := tI_inv hx
    obtain ⟨g1, g2, h⟩ := st1_inv h
    obtain ⟨rfl, rfl, rfl⟩ := rN_inj h
    subst e1
    exact xw_istore C hd g1 g2 k
  case astore_n k0 =>
    have hl9 : len = 1 := hlen
    subst hl9
    obtain ⟨x, s1, e1, h⟩ := tA_inv hx
    obtain ⟨g1, g2, h⟩ := st1_inv h
    obtain ⟨rfl, rfl, rfl⟩ := rN_inj h
    subst e1
    exact xw_astore_n C hd g1 g2 k
  case astore k0 =>
    have hl9 : len = 2 := hlen
    subst hl9
    obtain ⟨x, s1, e1, h⟩ := tA_inv hx
    obtain ⟨g1, g2, h⟩ := st1_inv h
    obtain ⟨rfl, rfl, rfl⟩ := rN_inj h
    subst e1
    exact xw_astore C hd g1 g2 k
  case lstore_n k0 =>
    have hl9 : len = 1 := hlen
    subst hl9
    obtain ⟨x, s1, e1, h⟩ := tL_inv hx
    obtain ⟨g1, g2, h⟩ := st2_inv h
    obtain ⟨rfl, rfl, rfl⟩ := rN_inj h
    subst e1
    exact xw_lstore_n C hd g1 g2 k
  case lstore k0 =>
    have hl9 : len = 2 := hlen
    subst hl9
    obtain ⟨x, s1, e1, h⟩ := tL_inv hx
    obtain ⟨g1, g2, h⟩ := st2_inv h
    obtain ⟨rfl, rfl, rfl⟩ := rN_inj h
    subst e1
    exact xw_lstore C hd g1 g2 k
  case iinc k0 n =>
    have hl9 : len = 3 := hlen
    subst hl9
    obtain ⟨x, h0, h⟩ := ldI_inv hx
    obtain ⟨hr, h⟩ := if_inv h
    obtain ⟨g1, g2, h⟩ := st1_inv h
    obtain ⟨rfl, rfl, rfl⟩ := rN_inj h
    exact xw_iinc C hd h0 hr g1 g2 k
  case iadd =>
    have hl9 : len = 1 := hlen
    subst hl9
    obtain ⟨x, y, s1, e1, h⟩ := bI_inv hx
    obtain ⟨hr, h⟩ := if_inv h
    obtain ⟨rfl, rfl, rfl⟩ := rN_inj h
    subst e1
    exact xw_iadd C hd hr k
  case isub =>
    have hl9 : len = 1 := hlen
    subst hl9
    obtain ⟨x, y, s1, e1, h⟩ := bI_inv hx
    obtain ⟨hr, h⟩ := if_inv h
    obtain ⟨rfl, rfl, rfl⟩ := rN_inj h
    subst e1
    exact xw_isub C hd hr k
  case imul =>
    have hl9 : len = 1 := hlen
    subst hl9
    obtain ⟨x, y, s1, e1, h⟩ := bI_inv hx
    obtain ⟨hr, h⟩ := if_inv h
    obtain ⟨rfl, rfl, rfl⟩ := rN_inj h
    subst e1
    exact xw_imul C hd hr k
  case idiv =>
    have hl9 : len = 1 := hlen
    subst hl9
    obtain ⟨x, y, s1, e1, h⟩ := bI_inv hx
    obtain ⟨hr, h⟩ := if_inv h
    obtain ⟨rfl, rfl, rfl⟩ := rN_inj h
    subst e1
    exact xw_idiv C hd hr k
  case irem =>
    have hl9 : len = 1 := hlen
    subst hl9
    obtain ⟨x, y, s1, e1, h⟩ := bI_inv hx
    obtain ⟨hr, h⟩ := if_inv h
    obtain ⟨rfl, rfl, rfl⟩ := rN_inj h
    subst e1
    exact xw_irem C hd hr k
  case iand =>
    have hl9 : len = 1 := hlen
    subst hl9
    obtain ⟨x, y, s1, e1, h⟩ := bI_inv hx
    obtain ⟨rfl, rfl, rfl⟩ := rN_inj h
    subst e1
    exact xw_iand C hd k
  case ior =>
    have hl9 : len = 1 := hlen
    subst hl9
    obtain ⟨x, y, s1, e1, h⟩ := bI_inv hx
    obtain ⟨rfl, rfl, rfl⟩ := rN_inj h
    subst e1
    exact xw_ior C hd k
  case ixor =>
    have hl9 : len = 1 := hlen
    subst hl9
    obtain ⟨x, y, s1, e1, h⟩ := bI_inv hx
    obtain ⟨rfl, rfl, rfl⟩ := rN_inj h
    subst e1
    exact xw_ixor C hd k
  case ishl =>
    have hl9 : len = 1 := hlen
    subst hl9
    obtain ⟨x, y, s1, e1, h⟩ := bI_inv hx
    obtain ⟨rfl, rfl, rfl⟩ := rN_inj h
    subst e1
    exact xw_ishl C hd k
  case ishr =>
    have hl9 : len = 1 := hlen
    subst hl9
    obtain ⟨x, y, s1, e1, h⟩ := bI_inv hx
    obtain ⟨rfl, rfl, rfl⟩ := rN_inj h
    subst e1
    exact xw_ishr C hd k
  case lmul =>
    have hl9 : len = 1 := hlen
    subst hl9
    obtain ⟨x, y, s1, e1, h⟩ := bL_inv hx
    obtain ⟨hr, h⟩ := if_inv h
    obtain ⟨rfl, rfl, rfl⟩ := rN_inj h
    subst e1
    exact xw_lmul C hd hr k
  case ldiv =>
    have hl9 : len = 1 := hlen
    subst hl9
    obtain ⟨x, y, s1, e1, h⟩ := bL_inv hx
    obtain ⟨hr, h⟩ := if_inv h
    obtain ⟨rfl, rfl, rfl⟩ := rN_inj h
    subst e1
    exact xw_ldiv C hd hr k
  case lrem =>
    have hl9 : len = 1 := hlen
    subst hl9
    obtain ⟨x, y, s1, e1, h⟩ := bL_inv hx
    obtain ⟨hr, h⟩ := if_inv h
    obtain ⟨rfl, rfl, rfl⟩ := rN_inj h
    subst e1
    exact xw_lrem C hd hr k
  case land =>
    have hl9 : len = 1 := hlen
    subst hl9
    obtain ⟨x, y, s1, e1, h⟩ := bL_inv hx
    obtain ⟨rfl, rfl, rfl⟩ := rN_inj h
    subst e1
    exact xw_land C hd k
  case lor =>
    have hl9 : len = 1 := hlen
    subst hl9
    obtain ⟨x, y, s1, e1, h⟩ := bL_inv hx
    obtain ⟨rfl, rfl, rfl⟩ := rN_inj h
    subst e1
    exact xw_lor C hd k
  case lcmp =>
    have hl9 : len = 1 := hlen
    subst hl9
    obtain ⟨x, y, s1, e1, h⟩ := bL_inv hx
    obtain ⟨rfl, rfl, rfl⟩ := rN_inj h
    subst e1
    exact xw_lcmp C hd k
  case lshl =>
    have hl9 : len = 1 := hlen
    subst hl9
    obtain ⟨y, s1, e1, h⟩ := tI_inv hx
    obtain ⟨x, s2, e2, h⟩ := tL_inv h
    obtain ⟨rfl, rfl, rfl⟩ := rN_inj h
    subst e2
    subst e1
    exact xw_lshl C hd k
  case lshr =>
    have hl9 : len = 1 := hlen
    subst hl9
    obtain ⟨y, s1, e1, h⟩ := tI_inv hx
    obtain ⟨x, s2, e2, h⟩ := tL_inv h
    obtain ⟨rfl, rfl, rfl⟩ := rN_inj h
    subst e2
    subst e1
    exact xw_lshr C hd k
  case lushr =>
    have hl9 : len = 1 := hlen
    subst hl9
    obtain ⟨y, s1, e1, h⟩ := tI_inv hx
    obtain ⟨x, s2, e2, h⟩ := tL_inv h
    obtain ⟨rfl, rfl, rfl⟩ := rN_inj h
    subst e2
    subst e1
    exact xw_lushr C hd k
  case ineg =>
    have hl9 : len = 1 := hlen
    subst hl9
    obtain ⟨x, s1, e1, h⟩ := tI_inv hx
    obtain ⟨hr, h⟩ := if_inv h
    obtain ⟨rfl, rfl, rfl⟩ := rN_inj h
    subst e1
    exact xw_ineg C hd hr k
  case i2l =>
    have hl9 : len = 1 := hlen
    subst hl9
    obtain ⟨x, s1, e1, h⟩ := tI_inv hx
    obtain ⟨rfl, rfl, rfl⟩ := rN_inj h
    subst e1
    exact xw_i2l C hd k
  case l2i =>
    have hl9 : len = 1 := hlen
    subst hl9
    obtain ⟨x, s1, e1, h⟩ := tL_inv hx
    obtain ⟨rfl, rfl, rfl⟩ := rN_inj h
    subst e1
    exact xw_l2i C hd k
  case dup =>
    have hl9 : len = 1 := hlen
    subst hl9
    match st, hx with
    | v :: s1, hx =>
      obtain ⟨hv, h⟩ := if_inv hx
      obtain ⟨rfl, rfl, rfl⟩ := rN_inj h
      exact xw_dup C hd hv k
  case dup_x1 =>
    have hl9 : len = 1 := hlen
    subst hl9
    match st, hx with
    | v :: u :: s1, hx =>
      obtain ⟨hv, h⟩ := if_inv hx
      rw [Bool.and_eq_true] at hv
      obtain ⟨rfl, rfl, rfl⟩ := rN_inj h
      exact xw_dup_x1 C hd hv.1 hv.2 k
  case dup2 =>
    have hl9 : len = 1 := hlen
    subst hl9
    match st, hx with
    | v :: u :: s1, hx =>
      obtain ⟨hv, h⟩ := if_inv hx
      rw [Bool.and_eq_true] at hv
      obtain ⟨rfl, rfl, rfl⟩ := rN_inj h
      exact xw_dup2 C hd hv.1 hv.2 k
  case ifCond cnd t =>
    have hl9 : len = 3 := hlen
    subst hl9
    have ht0 := of_decide_eq_true hs
    obtain ⟨x, s1, e1, h⟩ := tI_inv hx
    rcases br_spec h with ⟨-, h⟩ | ⟨hn, h⟩
    · cases h
    · obtain ⟨rfl, rfl, rfl⟩ := rN_inj h
      subst e1
      exact xw_if (t := t.toNat) C hd (by omega) (fun z => absurd z hn) (fun _ => k)
  case if_icmp cnd t =>
    have hl9 : len = 3 := hlen
    subst hl9
    have ht0 := of_decide_eq_true hs
    obtain ⟨x, y, s1, e1, h⟩ := bI_inv hx
    rcases br_spec h with ⟨-, h⟩ | ⟨hn, h⟩
    · cases h
    · obtain ⟨rfl, rfl, rfl⟩ := rN_inj h
      subst e1
      exact xw_icmp (t := t.toNat) C hd (by omega) (fun z => absurd z hn) (fun _ => k)
  case arraylength =>
    have hl9 : len = 1 := hlen
    subst hl9
    obtain ⟨a, s1, e1, h⟩ := tA_inv hx
    obtain ⟨hk, h⟩ := if_inv h
    obtain ⟨rfl, rfl, rfl⟩ := rN_inj h
    subst e1
    exact xw_alen C hd hk.1 hk.2 k
  case iaload =>
    have hl9 : len = 1 := hlen
    subst hl9
    obtain ⟨j, s1, e1, h⟩ := tI_inv hx
    obtain ⟨a, s2, e2, h⟩ := tA_inv h
    obtain ⟨hk, h⟩ := if_inv h
    obtain ⟨rfl, rfl, rfl⟩ := rN_inj h
    subst e2
    subst e1
    rcases hk.1 with e9 | e9
    · exact xw_iald C hd e9 hk.2.1 hk.2.2 k
    · exact xw_sald C hd e9 hk.2.1 hk.2.2 k
  case baload =>
    have hl9 : len = 1 := hlen
    subst hl9
    obtain ⟨j, s1, e1, h⟩ := tI_inv hx
    obtain ⟨a, s2, e2, h⟩ := tA_inv h
    obtain ⟨hk, h⟩ := if_inv h
    obtain ⟨rfl, rfl, rfl⟩ := rN_inj h
    subst e2
    subst e1
    exact xw_zald C hd hk.1 hk.2.1 hk.2.2 k
  case laload =>
    have hl9 : len = 1 := hlen
    subst hl9
    obtain ⟨j, s1, e1, h⟩ := tI_inv hx
    obtain ⟨a, s2, e2, h⟩ := tA_inv h
    obtain ⟨hk, h⟩ := if_inv h
    obtain ⟨rfl, rfl, rfl⟩ := rN_inj h
    subst e2
    subst e1
    exact xw_lald C hd hk.1 hk.2.1 hk.2.2 k
  case aaload =>
    have hl9 : len = 1 := hlen
    subst hl9
    obtain ⟨j, s1, e1, h⟩ := tI_inv hx
    obtain ⟨a, s2, e2, h⟩ := tA_inv h
    obtain ⟨hk, h⟩ := if_inv h
    cases hb : μ.2.2.1 a j with
    | none => rw [hb] at h; cases h
    | some b =>
      rw [hb] at h
      obtain ⟨rfl, rfl, rfl⟩ := rN_inj h
      subst e2
      subst e1
      rcases hk.1 with e9 | e9
      · exact xw_aald4 C hd e9 hk.2.1 hk.2.2 hb k
      · exact xw_aald5 C hd e9 hk.2.1 hk.2.2 hb k
  case iastore =>
    have hl9 : len = 1 := hlen
    subst hl9
    obtain ⟨x, s1, e1, h⟩ := tI_inv hx
    obtain ⟨j, s2, e2, h⟩ := tI_inv h
    obtain ⟨a, s3, e3, h⟩ := tA_inv h
    obtain ⟨hk, h⟩ := if_inv h
    obtain ⟨rfl, rfl, rfl⟩ := rN_inj h
    subst e3
    subst e2
    subst e1
    exact xw_iast C hd hk.1 hk.2.1 hk.2.2 k
  case bastore =>
    have hl9 : len = 1 := hlen
    subst hl9
    obtain ⟨x, s1, e1, h⟩ := tI_inv hx
    obtain ⟨j, s2, e2, h⟩ := tI_inv h
    obtain ⟨a, s3, e3, h⟩ := tA_inv h
    obtain ⟨hk, h⟩ := if_inv h
    obtain ⟨rfl, rfl, rfl⟩ := rN_inj h
    subst e3
    subst e2
    subst e1
    exact xw_zast C hd hk.1.1 hk.1.2 hk.2.1 hk.2.2 k
  case lastore =>
    have hl9 : len = 1 := hlen
    subst hl9
    obtain ⟨x, s1, e1, h⟩ := tL_inv hx
    obtain ⟨j, s2, e2, h⟩ := tI_inv h
    obtain ⟨a, s3, e3, h⟩ := tA_inv h
    obtain ⟨hk, h⟩ := if_inv h
    obtain ⟨rfl, rfl, rfl⟩ := rN_inj h
    subst e3
    subst e2
    subst e1
    exact xw_last C hd hk.1 hk.2.1 hk.2.2 k
  case aastore =>
    have hl9 : len = 1 := hlen
    subst hl9
    obtain ⟨x, s1, e1, h⟩ := tA_inv hx
    obtain ⟨j, s2, e2, h⟩ := tI_inv h
    obtain ⟨a, s3, e3, h⟩ := tA_inv h
    obtain ⟨hk, h⟩ := if_inv h
    obtain ⟨rfl, rfl, rfl⟩ := rN_inj h
    subst e3
    subst e2
    subst e1
    exact xw_aast C hd hk.1.1 hk.1.2 hk.2.1 hk.2.2 k
  case getfield w =>
    have hl9 : len = 3 := hlen
    subst hl9
    simp only [side, Bool.and_eq_true, decide_eq_true_eq] at hs
    obtain ⟨a, s1, e1, h⟩ := tA_inv hx
    obtain ⟨hk, h⟩ := if_inv h
    subst e1
    have hlk := lF_at C.2.2.2.2.2.2.1 hs.1
    by_cases t0 : fT (w / 100) (w % 100) = 0 ∨ fT (w / 100) (w % 100) = 1
    · rw [if_pos t0] at h
      obtain ⟨rfl, rfl, rfl⟩ := rN_inj h
      rcases t0 with t0 | t0
      · exact xw_getI C hd hk hs.2.1 hlk t0 k
      · exact xw_getZ C hd hk hs.2.1 hlk t0 k
    · rw [if_neg t0] at h
      by_cases t2 : fT (w / 100) (w % 100) = 2
      · rw [if_pos t2] at h
        obtain ⟨rfl, rfl, rfl⟩ := rN_inj h
        exact xw_getL C hd hk hs.2.1 hlk t2 k
      · rw [if_neg t2] at h
        obtain ⟨t3, h⟩ := if_inv h
        cases hb : μ.2.2.1 a ((w % 100 : Nat) : Int) with
        | none => rw [hb] at h; cases h
        | some b =>
          rw [hb] at h
          obtain ⟨rfl, rfl, rfl⟩ := rN_inj h
          exact xw_getR C hd hk hs.2.1 hlk t3 hb k
  case putfield w =>
    have hl9 : len = 3 := hlen
    subst hl9
    simp only [side, Bool.and_eq_true, Bool.or_eq_true, Bool.not_eq_true', decide_eq_true_eq] at hs
    have hlk := lF_at C.2.2.2.2.2.2.1 hs.1
    have hfin : (TF (w / 100) (w % 100)).2.2.2 = true → r.1.1.name = "<init>" ∧ w / 100 = q / 100 := fun z => by
      rcases hs.2.2 with z2 | z2
      · rw [z] at z2; cases z2
      · exact z2
    by_cases t0 : fT (w / 100) (w % 100) = 0
    · have hx : (if fT (w / 100) (w % 100) = 0 then _ else _) = _ := hx
      rw [if_pos t0] at hx
      obtain ⟨x, s1, e1, h⟩ := tI_inv hx
      obtain ⟨a, s2, e2, h⟩ := tA_inv h
      obtain ⟨hk, h⟩ := if_inv h
      obtain ⟨rfl, rfl, rfl⟩ := rN_inj h
      subst e2
      subst e1
      exact xw_putI C hd hk hs.2.1.1 hlk hfin t0 k
    · have hx : (if fT (w / 100) (w % 100) = 0 then _ else _) = _ := hx
      rw [if_neg t0] at hx
      by_cases t1 : fT (w / 100) (w % 100) = 1
      · rw [if_pos t1] at hx
        obtain ⟨x, s1, e1, h⟩ := tI_inv hx
        obtain ⟨a, s2, e2, h⟩ := tA_inv h
        obtain ⟨hk, h⟩ := if_inv h
        obtain ⟨rfl, rfl, rfl⟩ := rN_inj h
        subst e2
        subst e1
        exact xw_putZ C hd hk.1 hs.2.1.1 hlk hfin t1 hk.2 k
      · rw [if_neg t1] at hx
        by_cases t2 : fT (w / 100) (w % 100) = 2
        · rw [if_pos t2] at hx
          obtain ⟨x, s1, e1, h⟩ := tL_inv hx
          obtain ⟨a, s2, e2, h⟩ := tA_inv h
          obtain ⟨hk, h⟩ := if_inv h
          obtain ⟨rfl, rfl, rfl⟩ := rN_inj h
          subst e2
          subst e1
          exact xw_putL C hd hk hs.2.1.1 hlk hfin t2 k
        · rw [if_neg t2] at hx
          obtain ⟨t3, hx⟩ := if_inv hx
          obtain ⟨x, s1, e1, h⟩ := tA_inv hx
          obtain ⟨a, s2, e2, h⟩ := tA_inv h
          obtain ⟨hk, h⟩ := if_inv h
          obtain ⟨rfl, rfl, rfl⟩ := rN_inj h
          subst e2
          subst e1
          exact xw_putR C hd hk hs.2.1.1 hlk hfin t3 k
  case new w =>
    have hl9 : len = 3 := hlen
    subst hl9
    simp only [side, Bool.and_eq_true, decide_eq_true_eq] at hs
    obtain ⟨rfl, rfl, rfl⟩ := rN_inj hx
    exact xw_new C hd hs.2 (lC_at C.2.2.2.2.2.2.1 hs.1) hcell hslot k
  case newarray ty =>
    have hl9 : len = 2 := hlen
    subst hl9
    simp only [side, decide_eq_true_eq] at hs
    obtain ⟨n, s1, e1, h⟩ := tI_inv hx
    obtain ⟨hk, h⟩ := if_inv h
    subst e1
    rcases hs with rfl | rfl | rfl
    · obtain ⟨rfl, rfl, rfl⟩ := rN_inj h
      exact xw_na_int C hd hk.1 hk.2 hcell hslot k
    · obtain ⟨rfl, rfl, rfl⟩ := rN_inj h
      exact xw_na_bool C hd hk.1 hk.2 hcell hslot k
    · obtain ⟨rfl, rfl, rfl⟩ := rN_inj h
      exact xw_na_long C hd hk.1 hk.2 hcell hslot k
  case anewarray w =>
    have hl9 : len = 3 := hlen
    subst hl9
    simp only [side] at hs
    obtain ⟨n, s1, e1, h⟩ := tI_inv hx
    obtain ⟨hk, h⟩ := if_inv h
    obtain ⟨rfl, rfl, rfl⟩ := rN_inj h
    subst e1
    exact xw_anew C hd (lC_at (ci := 6) C.2.2.2.2.2.2.1 hs) hk.1 hk.2 hcell hslot k
  case multianewarray w1 w2 =>
    have hl9 : len = 4 := hlen
    subst hl9
    simp only [side] at hs
    obtain ⟨n, k0, s1, e1, h⟩ := bI_inv hx
    obtain ⟨hk, h⟩ := if_inv h
    obtain ⟨rfl, rfl, rfl⟩ := rN_inj h
    subst e1
    exact xw_mna C hd (lW_at C.2.2.2.2.2.2.1 hs) hk.1 hk.2 hcell hslot k
  case monitorexit =>
    have hl9 : len = 3 := hlen
    subst hl9
    simp only [side] at hs
    obtain ⟨a, s1, e1, h⟩ := tA_inv hx
    obtain ⟨hk, h⟩ := if_inv h
    obtain ⟨rfl, rfl, rfl⟩ := rN_inj h
    subst e1
    exact xw_obj C hd (lO_at C.2.2.2.2.2.2.1 hs) hk hf hlo k
  case monitorenter =>
    have hl9 : len = 3 := hlen
    subst hl9
    simp only [side] at hs
    obtain ⟨n, s1, e1, h⟩ := tI_inv hx
    obtain ⟨dp, s2, e2, h⟩ := tI_inv h
    obtain ⟨a, s3, e3, h⟩ := tA_inv h
    obtain ⟨sp, s4, e4, h⟩ := tI_inv h
    obtain ⟨b, s5, e5, h⟩ := tA_inv h
    obtain ⟨hk, h⟩ := if_inv h
    obtain ⟨rfl, rfl, rfl⟩ := rN_inj h
    subst e5
    subst e4
    subst e3
    subst e2
    subst e1
    exact xw_copy C hd (lY_at C.2.2.2.2.2.2.1 hs) hk.1.1 hk.1.2.1 hk.2.1 hk.2.2.1 hk.2.2.2.1 hk.2.2.2.2 hf hlo k
  case goto t => cases hx
  case tableswitch d lo hi offs =>
    obtain ⟨x, s1, e1, h⟩ := tI_inv hx
    revert h
    split
    · intro h; cases h
    · split
      · intro h; cases h
      · intro h; cases h
  case lookupswitch d ps =>
    obtain ⟨x, s1, e1, h⟩ := tI_inv hx
    cases h
  case ireturn =>
    revert hx
    simp only [xs]
    split <;> intro h <;> cases h
  case areturn =>
    revert hx
    simp only [xs]
    split <;> intro h <;> cases h
  case return_ =>
    revert hx
    simp only [xs]
    split <;> intro h <;> cases h
  case freturn =>
    revert hx
    simp only [xs]
    split
    · split <;> intro h <;> cases h
    · intro h; cases h
  case invokevirtual w =>
    obtain ⟨-, h⟩ := if_inv hx
    revert h
    split
    · first | (split <;> intro h <;> cases h) | (intro h; cases h)
    · intro h; cases h
  case invokespecial w =>
    obtain ⟨-, h⟩ := if_inv hx
    revert h
    split
    · first | (split <;> intro h <;> cases h) | (intro h; cases h)
    · intro h; cases h
  case invokestatic w =>
    obtain ⟨-, h⟩ := if_inv hx
    cases h
  all_goals exact (no_some hx).elim
end XAsm
end
section
/-! JUMPS, RETURNS, CALLS: what a step that doesn't just go on says -/
section XGo
variable {p : Program} {l : Launch} {ev : Env} {R : Room} {s : State} {m : MethodId} {args : Array Value} {below : List Frame} {meth : Method} {c : Code} {Q : State → Prop} {ad : Nat → Nat} {dC : Nat → ClassId} {dI : Nat → Nat → Nat} {B n0 s0 : Nat} {q : Nat} {r : MR} {pc : Nat} {ls st : List XV} {μ : XM}
theorem xw_go {i : Instr} {len t : Nat} {ls' st' : List XV} {μ' : XM} (C : XC p s m args meth c dC dI q r) (hc : cd q pc = some (i, len)) (hx : xs i ls st μ = some (.inr (.inl (t, ls', st', μ')))) (k : XW p l ev R s m args below meth c Q ad dC dI B n0 s0 t ls' st' μ') : XW p l ev R s m args below meth c Q ad dC dI B n0 s0 pc ls st μ := by
  obtain ⟨idx, hd, hlen, hs⟩ := cd_row C.1 hc
  cases i
  case ifCond cnd t0 =>
    have hl9 : len = 3 := hlen
    subst hl9
    have ht0 := of_decide_eq_true hs
    obtain ⟨x, s1, e1, h⟩ := tI_inv hx
    rcases br_spec h with ⟨hn, h⟩ | ⟨-, h⟩
    · cases h
      subst e1
      exact xw_if (t := t0.toNat) C hd (by omega) (fun _ => k) (fun z => absurd hn z)
    · cases h
  case if_icmp cnd t0 =>
    have hl9 : len = 3 := hlen
    subst hl9
    have ht0 := of_decide_eq_true hs
    obtain ⟨x, y, s1, e1, h⟩ := bI_inv hx
    rcases br_spec h with ⟨hn, h⟩ | ⟨-, h⟩
    · cases h
      subst e1
      exact xw_icmp (t := t0.toNat) C hd (by omega) (fun _ => k) (fun z => absurd hn z)
    · cases h
  case goto t0 =>
    have hl9 : len = 3 := hlen
    subst hl9
    have ht0 := of_decide_eq_true hs
    cases hx
    exact xw_goto (t := t0.toNat) C hd (by omega) k
  case tableswitch d lo hi offs =>
    simp only [side, Bool.and_eq_true, decide_eq_true_eq] at hs
    obtain ⟨x, s1, e1, h⟩ := tI_inv hx
    subst e1
    by_cases hcnd : x < lo ∨ hi < x
    · rw [if_pos hcnd] at h
      cases h
      exact xw_tabO (t := d.toNat) C hd hcnd (by omega) k
    · rw [if_neg hcnd] at h
      cases ho : offs[(x - lo).toNat]? with
      | none => rw [ho] at h; cases h
      | some t0 =>
        rw [ho] at h
        cases h
        have hm : t0 ∈ offs.toList := by
          rw [← Array.getElem?_toList] at ho
          exact List.mem_of_getElem? ho
        have h0 : 0 ≤ t0 := of_decide_eq_true (List.all_eq_true.mp hs.2 t0 hm)
        exact xw_tabI (t := t0.toNat) (off := t0 - (pc : Int)) C hd hcnd (by simp [ho]) (by omega) k
  case lookupswitch d ps =>
    simp only [side, Bool.and_eq_true, decide_eq_true_eq] at hs
    obtain ⟨x, s1, e1, h⟩ := tI_inv hx
    subst e1
    cases h
    have h0 := lkp_pos ps.toList d x hs.1 hs.2.1
    refine xw_look (t := (lkp ps.toList d x).toNat) C hd ?_ ?_ k
    · have h2 := hs.2.2
      simp only [Array.toList_map, ← List.map_drop, List.zip_map, List.all_map]
      exact h2
    · rw [Array.toList_map, lkp_off]
      omega
  all_goals
    first
    | exact (no_some hx).elim
    | (revert hx
       simp only [xs, bI, bL, tI, tL, tA, ldI, ldL, ldA, st1, st2, br]
       repeat' split
       all_goals (intro hx; cases hx))
end XGo
end
section
/-! RETURNS, CALLS, and that cells and slots only grow -/
def retOK (b : ByteArray) (ret : Option FieldType) (pc : Nat) (v : Option XV) : Prop :=
  (decode b pc = .ok (.ireturn, 1) ∧ ∃ x, v = some (xI x) ∧ (ret = some .int ∨ (ret = some .boolean ∧ (x = 0 ∨ x = 1)))) ∨ (decode b pc = .ok (.areturn, 1) ∧ (∃ a, v = some (xR a)) ∧ (ret = some (.array .int) ∨ ret = some (.object "LightPlate$Row"))) ∨ (decode b pc = .ok (.return_, 1) ∧ v = none ∧ ret = none)
section XRet
variable {q : Nat} {r : MR} {pc : Nat} {ls st : List XV} {μ : XM}
theorem xs_ret {i : Instr} {len : Nat} {v : Option XV} {μ' : XM} (hm : mT q = some r) (hc : cd q pc = some (i, len)) (hx : xs i ls st μ = some (.inr (.inr (.inl (v, μ'))))) : μ' = μ ∧ st = v.toList ∧ retOK r.1.2.1 r.1.2.2.2 pc v := by
  obtain ⟨idx, hd, hlen, hs⟩ := cd_row hm hc
  cases i
  case ireturn =>
    have hl9 : len = 1 := hlen
    subst hl9
    have hr := of_decide_eq_true hs
    revert hx
    simp only [xs]
    split
    · intro h
      cases h
      exact ⟨rfl, rfl, Or.inl ⟨hd, _, rfl, Or.inl hr⟩⟩
    · intro h; cases h
  case freturn =>
    have hl9 : len = 1 := hlen
    subst hl9
    have hr := of_decide_eq_true hs
    revert hx
    simp only [xs]
    split
    · intro h
      obtain ⟨h1, h⟩ := if_inv h
      cases h
      exact ⟨rfl, rfl, Or.inl ⟨hd, _, rfl, Or.inr ⟨hr, h1⟩⟩⟩
    · intro h; cases h
  case areturn =>
    have hl9 : len = 1 := hlen
    subst hl9
    have hr := of_decide_eq_true hs
    revert hx
    simp only [xs]
    split
    · intro h
      cases h
      exact ⟨rfl, rfl, Or.inr (Or.inl ⟨hd, ⟨_, rfl⟩, hr⟩)⟩
    · intro h; cases h
  case return_ =>
    have hl9 : len = 1 := hlen
    subst hl9
    have hr := of_decide_eq_true hs
    revert hx
    simp only [xs]
    split
    · intro h
      cases h
      exact ⟨rfl, rfl, Or.inr (Or.inr ⟨hd, rfl, hr⟩)⟩
    · intro h; cases h
  all_goals
    first
    | exact (no_some hx).elim
    | (revert hx
       simp only [xs, bI, bL, tI, tL, tA, ldI, ldL, ldA, st1, st2, br]
       repeat' split
       all_goals (intro hx; cases hx))
def zm (z : XR) : XM := match z with
  | .inl w => w.2.2
  | .inr (.inl w) => w.2.2.2
  | .inr (.inr (.inl w)) => w.2
  | .inr (.inr (.inr w)) => w.2.2.2.2
theorem xs_mono {i : Instr} {z : XR} (hx : xs i ls st μ = some z) : μ.2.2.2.1 ≤ (zm z).2.2.2.1 ∧ μ.2.2.2.2.1 ≤ (zm z).2.2.2.2.1 := by
  cases i
  all_goals
    first
    | exact (no_some hx).elim
    | (revert hx
       simp only [xs, bI, bL, tI, tL, tA, ldI, ldL, ldA, st1, st2, br]
       repeat' split
       all_goals (intro hx; first | (cases hx; done) | (cases hx; exact ⟨Nat.le_refl _, Nat.le_refl _⟩) | (cases hx; simp only [zm, gN]; omega)))
theorem ex_mono : ∀ (f : Nat) {d q pc : Nat} {ls st : List XV} {μ : XM} {o : Option XV × XM}, ex f d q pc ls st μ = some o → μ.2.2.2.1 ≤ o.2.2.2.2.1 ∧ μ.2.2.2.2.1 ≤ o.2.2.2.2.2.1 := by
  intro f
  induction f with
  | zero => intro d q pc ls st μ o h; cases h
  | succ f ih =>
    intro d q pc ls st μ o h
    have h : xst (ex f) d q pc ls st μ = some o := h
    unfold xst at h
    cases hc : cd q pc with
    | none => rw [hc] at h; cases h
    | some w =>
      rw [hc] at h
      simp only at h
      cases hx : xs w.1 ls st μ with
      | none => rw [hx] at h; cases h
      | some z =>
        have hm := xs_mono hx
        rw [hx] at h
        rcases z with z | z | z | z
        · have h2 := ih h
          simp only [zm] at hm
          omega
        · have h2 := ih h
          simp only [zm] at hm
          omega
        · cases h
          exact hm
        · simp only at h
          cases d with
          | zero => cases h
          | succ d =>
            simp only at h
            cases hk : ex f d z.1 0 (en z.1 z.2.1) [] z.2.2.2.2 with
            | none => rw [hk] at h; cases h
            | some o1 =>
              rw [hk] at h
              have h2 := ih hk
              have h3 := ih h
              simp only [zm] at hm
              omega
theorem xs_call {i : Instr} {len w : Nat} {as ls' rest : List XV} {μ' : XM} (hm : mT q = some r) (hc : cd q pc = some (i, len)) (hx : xs i ls st μ = some (.inr (.inr (.inr (w, as, ls', rest, μ'))))) :
    ls' = ls ∧ μ' = μ ∧ st = as.reverse ++ rest ∧ rest.length ≤ 4 ∧ (as.flatMap xw).length ≤ mL w ∧ len = 3 ∧ ∃ idx,
      (decode r.1.2.1 pc = .ok (.invokevirtual idx, 3) ∧ side (q / 100) r.1.1 r.1.2.2.2 (.invokevirtual w) idx = true ∧ ∃ a as', as = xR a :: as' ∧ (μ.2.1 a).1 = 10 + w / 100) ∨
      (decode r.1.2.1 pc = .ok (.invokespecial idx, 3) ∧ side (q / 100) r.1.1 r.1.2.2.2 (.invokespecial w) idx = true ∧ ∃ a as', as = xR a :: as') ∨
      (decode r.1.2.1 pc = .ok (.invokestatic idx, 3) ∧ side (q / 100) r.1.1 r.1.2.2.2 (.invokestatic w) idx = true) := by
  obtain ⟨idx, hd, hlen, hs⟩ := cd_row hm hc
  cases i
  case invokevirtual w0 =>
    have hl9 : len = 3 := hlen
    obtain ⟨h0, h⟩ := if_inv hx
    revert h
    split
    · next a as' he =>
      intro h
      obtain ⟨hk, h⟩ := if_inv h
      cases h
      refine ⟨rfl, rfl, ?_, h0.2.1, by rw [← he]; exact h0.2.2, hl9, idx, Or.inl ⟨hl9 ▸ hd, hs, a, as', rfl, hk⟩⟩
      rw [← he, List.reverse_reverse, List.take_append_drop]
    · intro h; cases h
  case invokespecial w0 =>
    have hl9 : len = 3 := hlen
    obtain ⟨h0, h⟩ := if_inv hx
    revert h
    split
    · next a as' he =>
      intro h
      cases h
      refine ⟨rfl, rfl, ?_, h0.2.1, by rw [← he]; exact h0.2.2, hl9, idx, Or.inr (Or.inl ⟨hl9 ▸ hd, hs, a, as', rfl⟩)⟩
      rw [← he, List.reverse_reverse, List.take_append_drop]
    · intro h; cases h
  case invokestatic w0 =>
    have hl9 : len = 3 := hlen
    obtain ⟨h0, h⟩ := if_inv hx
    cases h
    refine ⟨rfl, rfl, ?_, h0.2.1, h0.2.2, hl9, idx, Or.inr (Or.inr ⟨hl9 ▸ hd, hs⟩)⟩
    rw [List.reverse_reverse, List.take_append_drop]
  all_goals
    first
    | exact (no_some hx).elim
    | (revert hx
       simp only [xs, bI, bL, tI, tL, tA, ldI, ldL, ldA, st1, st2, br]
       repeat' split
       all_goals (intro hx; cases hx))
end XRet
end
section
/-! THE PLAIN MACHINE'S RUNS ARE THE REAL MACHINE'S -/
theorem metF {l : Launch} {y : MethodName} {ws ws' : List Cond} {rm : Room} {Pc : Array Value → State → Prop} {Qc : Array Value → State → Outcome → State → Prop} {mc ms : Nat} {free : Addr → Prop} {cc : ByteArray} {maxL : Nat} {ret : Option FieldType}
    (hy : plainFor y = true) (hw : ws = Cond.code y cc maxL ret :: ws')
    (body : ∀ p e s m args below meth c s₁, BodyLoose p l y (headSpec ws rm) cc maxL ret e s m args below meth c s₁ → c.maxLocals = maxL → Pc args s →
      W p l e (headSpec ws rm).room s m args below meth c s.heap [] 0 0 (MQ below Qc args s mc ms free) (entryFrame m args maxL)) : Met l y ws rm Pc Qc mc ms free := by
  refine MetFree.of_bodySF (code := cc) (maxLocals := maxL) (ret := ret) hy ?_ ?_
  · intro args s m h hn
    obtain ⟨meth, c, h1, h2, h3, h4, h5, h6, -, -⟩ := Cond.code_spec hn (atoms_spec (ws := ws) h _ (by rw [hw]; exact List.mem_cons_self))
    exact ⟨meth, c, h1, h2, h3, h4, h5, h6⟩
  · intro p e s m args below meth c s₁ B hml hP _
    have hh0 : s₁.heap = s.heap := by rw [B.state]; rfl
    obtain ⟨t, a1, o, b1, b2, b3⟩ := body p e s m args below meth c s₁ B hml hP s₁ hh0 (Stand.of_body B)
    exact ⟨t, o, a1, b1, b2, ⟨b3.1, b3.2⟩⟩
theorem sl_len {ad : Nat → Nat} : ∀ as : List XV, (lg_sl (as.map (tv ad))).length = (as.flatMap xw).length
  | [] => rfl
  | v :: as => by
    have h := sl_len (ad := ad) as
    unfold lg_sl at h ⊢
    rw [List.map_cons, List.flatMap_cons, List.flatMap_cons, List.length_append, List.length_append, h]
    congr 1
    rcases v with x | x | x | x <;> rfl
theorem en_len {w : Nat} {as : List XV} (h : (as.flatMap xw).length ≤ mL w) : (en w as).length = mL w := by
  unfold en
  rw [List.length_append, List.length_replicate]
  omega
theorem ent_mem {ad : Nat → Nat} (k : Nat) : ∀ (as : List XV) (i : Nat), ∀ z ∈ lvl ad (as.flatMap xw ++ List.replicate k xU) i, z ∈ lv_args i (as.map (tv ad))
  | [], i, z, h => by
    obtain ⟨j, v, h1, h2, -⟩ := lvl_mem.mp h
    have h3 : v ∈ List.replicate k xU := by simpa using List.mem_of_getElem? h1
    exact absurd (List.eq_of_mem_replicate h3) h2
  | v :: as, i, z, h => by
    rcases v with x | x | x | x
    · have h : z ∈ (i, tv ad (xI x)) :: lvl ad (as.flatMap xw ++ List.replicate k xU) (i + 1) := h
      rcases List.mem_cons.mp h with rfl | h
      · exact List.mem_cons_self
      · exact List.mem_cons_of_mem _ (ent_mem k as (i + 1) z h)
    · have h : z ∈ (i, tv ad (xL x)) :: lvl ad (as.flatMap xw ++ List.replicate k xU) (i + 1 + 1) := h
      rcases List.mem_cons.mp h with rfl | h
      · exact List.mem_cons_self
      · exact List.mem_cons_of_mem _ (ent_mem k as (i + 2) z h)
    · have h : z ∈ (i, tv ad (xR x)) :: lvl ad (as.flatMap xw ++ List.replicate k xU) (i + 1) := h
      rcases List.mem_cons.mp h with rfl | h
      · exact List.mem_cons_self
      · exact List.mem_cons_of_mem _ (ent_mem k as (i + 1) z h)
    · have h : z ∈ lvl ad (as.flatMap xw ++ List.replicate k xU) (i + 1) := h
      exact List.mem_cons_of_mem _ (ent_mem k as (i + 1) z h)
theorem ok_en {w : Nat} {as : List XV} (h : ∀ v ∈ as, okV v) : ∀ v ∈ en w as, okV v := by
  intro v hv
  unfold en at hv
  rcases List.mem_append.mp hv with h1 | h1
  · obtain ⟨u, hu, h2⟩ := List.mem_flatMap.mp h1
    have h3 := h u hu
    rcases u with x | x | x | x
    · have : v = xI x := by simpa [xw] using h2
      rw [this]; exact h3
    · have : v = xL x ∨ v = xU := by simpa [xw] using h2
      rcases this with rfl | rfl
      · exact h3
      · trivial
    · have : v = xR x := by simpa [xw] using h2
      rw [this]; trivial
    · have : v = xU := by simpa [xw] using h2
      rw [this]; trivial
  · rw [List.eq_of_mem_replicate h1]; trivial
theorem lM_no : lM.all (fun w => !(w.2.2.1 == 1201)) = true := by decide +kernel
theorem lV_no : lV.all (fun w => !(w.2.2.1 == 1201)) = true := by decide +kernel
theorem wrd_at {q : Nat} {r : MR} (h : mT q = some r) (hq : q ≠ 1201) : wrdOK (q / 100) r = true := by
  by_cases h12 : q / 100 = 12
  · have hr := h
    unfold mT at hr
    rw [h12] at hr
    have hl : (kT.getD 12 []) = [kr1200, kr1201] := rfl
    rw [hl] at hr
    have h2 : q % 100 < 2 := (List.getElem?_eq_some_iff.mp hr).1
    have h0 : q % 100 = 0 := by omega
    rw [h0] at hr
    cases hr
    rw [h12]
    exact wo1200
  · exact wol (q / 100) h12 r (mT_in h)
def KRt (p : Program) (l : Launch) (ev : Env) (R : Room) (s : State) (m : MethodId) (args : Array Value) (below : List Frame) (meth : Method) (c : Code) (Q : State → Prop) (ad : Nat → Nat) (dC : Nat → ClassId) (dI : Nat → Nat → Nat) (B n0 s0 : Nat) (r : MR) (v : Option XV) (μ : XM) : Prop :=
  ∀ (pc : Nat) (lsA : Array Slot) (H : Heap) (locs : List Loc), retOK r.1.2.1 r.1.2.2.2 pc v → (∀ w, v = some w → okV w) → xP ad dC dI B s H μ → va_S (fun q => B ≤ q) s.heap H locs → n0 ≤ μ.2.2.2.1 → s0 ≤ μ.2.2.2.2.1 →
    W p l ev R s m args below meth c H locs (μ.2.2.2.1 - n0) (μ.2.2.2.2.1 - s0) Q (F0 m pc lsA (v.toList.map (tv ad)))
def SD (f : Nat) : Prop := ∀ (d q pc : Nat) (ls st : List XV) (μ : XM) (v : Option XV) (μ' : XM), ex f d q pc ls st μ = some (v, μ') → ∀ (p : Program) (l : Launch) (ev : Env) (R : Room) (s : State) (m : MethodId) (args : Array Value) (below : List Frame) (meth : Method) (c : Code) (Q : State → Prop) (ad : Nat → Nat) (dC : Nat → ClassId) (dI : Nat → Nat → Nat) (B n0 s0 : Nat) (r : MR),
  XC p s m args meth c dC dI q r → d + 1 ≤ R.frames → 100 * (d + 1) ≤ R.locals → μ'.2.2.2.1 - n0 ≤ R.cells → μ'.2.2.2.2.1 - s0 ≤ R.slots → KRt p l ev R s m args below meth c Q ad dC dI B n0 s0 r v μ' → XW p l ev R s m args below meth c Q ad dC dI B n0 s0 pc ls st μ
theorem xE.alike {u U : State} (h : u.vm = U.vm) (hE : xE u) : xE U := by
  intro w hw
  have h1 := hE w hw
  simp only [oW, List.mem_cons, List.not_mem_nil, or_false] at hw
  rcases hw with rfl | rfl | rfl | rfl | rfl
  · exact over_moved (by rw [h]; exact Vm.Alike.refl _) h1
  · exact va_AO.moved (by rw [h]; exact Vm.Alike.refl _) h1
  · exact va_Nw.same rfl h h1
  · exact va_Nw.same rfl h h1
  · exact va_Nw.same rfl h h1
def cPc (ad : Nat → Nat) (dC : Nat → ClassId) (dI : Nat → Nat → Nat) (B : Nat) (as : List XV) (μ : XM) : Array Value → State → Prop := fun A U => A = (as.map (tv ad)).toArray ∧ xP ad dC dI B U U.heap μ ∧ va_K (dC, dI) clX [] U ∧ xE U
def cQc (ad : Nat → Nat) (dC : Nat → ClassId) (dI : Nat → Nat → Nat) (B : Nat) (v : Option XV) (μ : XM) : Array Value → State → Outcome → State → Prop := fun _ st oc t => oc = .returned (v.map (tv ad)) ∧ (∀ w, v = some w → okV w) ∧ xP ad dC dI B t t.heap μ ∧ va_F (fun q => B ≤ q) st t
def cRm (d : Nat) (mc ms : Nat) : Room := { frames := d + 1, cells := mc, slots := ms, locals := 100 * (d + 1) }
def cWs (r : MR) : List Cond := Cond.code r.1.1 r.1.2.1 r.1.2.2.1 r.1.2.2.2 :: gW
theorem hd_at {q : Nat} {r : MR} (h : mT q = some r) : (r.1.1.cls = cN (q / 100) ∧ plainFor r.1.1 = true ∧ r.1.2.2.1 ≤ 20) ∧ r.1.1.cls ≠ "java/lang/invoke/MethodHandle" ∧ r.1.1.cls ≠ "java/lang/invoke/VarHandle" := by
  have hr := okl (q / 100) r (mT_in h)
  unfold rowOK hdOK at hr
  simp only [Bool.and_eq_true, decide_eq_true_eq] at hr
  exact hr.2
theorem mL_at {q : Nat} {r : MR} (h : mT q = some r) : mL q = r.1.2.2.1 := by
  unfold mL
  rw [h]
/-- a method's contract out of its run -/
theorem met_of {f d w : Nat} {as : List XV} {μ μ1 : XM} {v : Option XV} {r : MR} (IH : SD f) (hex : ex f d w 0 (en w as) [] μ = some (v, μ1)) (hm : mT w = some r) (hl : (as.flatMap xw).length ≤ mL w) (hok : ∀ v ∈ as, okV v) (l : Launch) (ad : Nat → Nat) (dC : Nat → ClassId) (dI : Nat → Nat → Nat) (B : Nat) :
    Met l r.1.1 (cWs r) (cRm d (μ1.2.2.2.1 - μ.2.2.2.1) (μ1.2.2.2.2.1 - μ.2.2.2.2.1)) (cPc ad dC dI B as μ) (cQc ad dC dI B v μ1) (μ1.2.2.2.1 - μ.2.2.2.1) (μ1.2.2.2.2.1 - μ.2.2.2.2.1) (fun q => B ≤ q) := by
  obtain ⟨⟨hcl, hpl, h20⟩, -⟩ := hd_at hm
  refine metF (cc := r.1.2.1) (maxL := r.1.2.2.1) (ret := r.1.2.2.2) hpl rfl ?_
  intro p e s m args below meth c s₁ Bd hml hv
  obtain ⟨rfl, hP, hK, hE⟩ := hv
  have hts := atoms_spec (ws := cWs r) Bd.pre
  have hlocks := Bd.notSynchronized
  have hown : s.vm.findClass (cN (w / 100)) = some m.cls := by rw [← hcl]; exact findClass_of_methodNamed Bd.named
  have hC : XC p s m (as.map (tv ad)).toArray meth c dC dI w r := ⟨hm, Bd.exec, Bd.bytes, Bd.returns, hml, hown, fun w hw => hts w (List.mem_cons_of_mem _ hw), hlocks, fun h => (name_of_methodNamed Bd.named Bd.method).1.trans h, hK, hE⟩
  have hmono := ex_mono f hex
  have hlen : (lg_sl (as.map (tv ad))).length ≤ r.1.2.2.1 := by rw [sl_len, ← mL_at hm]; exact hl
  have hent := lv_entry (as.map (tv ad)) hlen
  rw [lg_entry_eq]
  generalize (lg_sl (as.map (tv ad)) ++ List.replicate (r.1.2.2.1 - (lg_sl (as.map (tv ad))).length) Slot.unset).toArray = lsA at hent ⊢
  have K := IH d w 0 (en w as) [] μ v μ1 hex p l e (headSpec (cWs r) (cRm d (μ1.2.2.2.1 - μ.2.2.2.1) (μ1.2.2.2.2.1 - μ.2.2.2.2.1))).room s m (as.map (tv ad)).toArray below meth c
    (MQ below (cQc ad dC dI B v μ1) (as.map (tv ad)).toArray s (μ1.2.2.2.1 - μ.2.2.2.1) (μ1.2.2.2.2.1 - μ.2.2.2.2.1) (fun q => B ≤ q)) ad dC dI B μ.2.2.2.1 μ.2.2.2.2.1 r hC (Nat.le_refl _) (Nat.le_refl _) (Nat.le_refl _) (Nat.le_refl _) ?_
  · have K2 := K s.heap [] lsA (by rw [hml]; exact has_sub hent (ent_mem _ as 0)) (by rw [en_len hl, hml, mL_at hm]) (ok_en hok) (fun _ h => by cases h) hP va_S.rf (Nat.le_refl _) (Nat.le_refl _)
    rw [Nat.sub_self, Nat.sub_self] at K2
    exact K2
  · intro pc lsA H locs hret hvok hP2 hS h7 h8
    have hq : ∀ t : State, t.heap = H → s.WarmedH t.vm → cQc ad dC dI B v μ1 (as.map (tv ad)).toArray s (.returned (v.map (tv ad))) t := fun t ht hW => ⟨rfl, hvok, by rw [ht]; exact hP2.moved hW.alike, hS.F ht⟩
    rcases hret with ⟨hdg, x, rfl, hr⟩ | ⟨hdg, ⟨a, rfl⟩, hr⟩ | ⟨hdg, rfl, hr⟩
    · rcases hr with hr | ⟨hr, h01⟩
      · exact W.iret (v := Int32.ofInt x) Bd.exec Bd.bytes (by rw [Bd.returns]; exact hr) hq hS.2.2 hdg hlocks
      · exact W.zret (v := Int32.ofInt x) (ty := .boolean) Bd.exec Bd.bytes (by rw [Bd.returns]; exact hr) (nb01 h01) hq hS.2.2 hdg hlocks
    · rcases hr with hr | hr
      · exact W.aret (v := .ref (ad a)) (rt := .array .int) Bd.exec Bd.bytes (by rw [Bd.returns]; exact hr) (Or.inr ⟨_, rfl⟩) (Or.inr ⟨_, rfl⟩) hq hS.2.2 hdg hlocks
      · exact W.aret (v := .ref (ad a)) (rt := .object "LightPlate$Row") Bd.exec Bd.bytes (by rw [Bd.returns]; exact hr) (Or.inl ⟨_, rfl⟩) (Or.inr ⟨_, rfl⟩) hq hS.2.2 hdg hlocks
    · exact W.vret Bd.exec Bd.bytes (by rw [Bd.returns]; exact hr) hq hS.2.2 hdg hlocks
end
section
/-! CALLS, and the theorem -/
theorem lV_o : lV.all (fun z => decide ((mT z.2.2.1).bind (fun r => if Cond.methodLinkNest (cN z.1) z.2.1 r.1.1 "LightPlate" ∈ oW then some true else none) = some true)) = true := by decide +kernel
section XCall
variable {p : Program} {l : Launch} {ev : Env} {R : Room} {s : State} {m : MethodId} {args : Array Value} {below : List Frame} {meth : Method} {c : Code} {Q : State → Prop} {ad : Nat → Nat} {dC : Nat → ClassId} {dI : Nat → Nat → Nat} {B n0 s0 : Nat} {q : Nat} {r : MR} {pc : Nat} {ls : List XV} {μ : XM}
theorem ok_app {as bs : List XV} : (∀ v ∈ as ++ bs, okV v) ↔ (∀ v ∈ as, okV v) ∧ ∀ v ∈ bs, okV v := by
  constructor
  · intro h
    exact ⟨fun v hv => h v (List.mem_append_left _ hv), fun v hv => h v (List.mem_append_right _ hv)⟩
  · rintro ⟨h1, h2⟩ v hv
    rcases List.mem_append.mp hv with h | h
    · exact h1 v h
    · exact h2 v h
/-- behind a call -/
theorem call_go {H : Heap} {locs : List Loc} {lsA : Array Slot} {st0 : List Value} {a : Array Value} {rest : List XV} {v1 : Option XV} {μ1 : XM} (hm1 : μ.2.2.2.1 ≤ μ1.2.2.2.1) (hm2 : μ.2.2.2.2.1 ≤ μ1.2.2.2.2.1)
    (hr : va_Run p l ev R s m args below meth c H locs (μ.2.2.2.1 - n0) (μ.2.2.2.2.1 - s0) (μ1.2.2.2.1 - μ.2.2.2.1) (μ1.2.2.2.2.1 - μ.2.2.2.2.1) (F0 m pc lsA st0) (rest.map (tv ad)) (cQc ad dC dI B v1 μ1 a) (fun q => B ≤ q))
    (h1 : lv_has lsA c.maxLocals (lvl ad ls 0)) (h2 : ls.length = c.maxLocals) (h3 : ∀ v ∈ ls, okV v) (h4 : ∀ v ∈ rest, okV v) (h6 : va_S (fun q => B ≤ q) s.heap H locs) (h7 : n0 ≤ μ.2.2.2.1) (h8 : s0 ≤ μ.2.2.2.2.1)
    (k : XW p l ev R s m args below meth c Q ad dC dI B n0 s0 (pc + 3) ls (v1.toList ++ rest) μ1) : W p l ev R s m args below meth c H locs (μ.2.2.2.1 - n0) (μ.2.2.2.2.1 - s0) Q (F0 m pc lsA st0) := by
  intro T hT X
  obtain ⟨v, st₀, t, T', L, h0, X', hL, e1, e2, ⟨hv, hvok, hP, hz, hk⟩, st⟩ := hr T hT X
  cases hv
  rw [h0] at hz hk
  have X2 : Stand p l ev R s m args below meth c T' (locs ++ L) (μ1.2.2.2.1 - n0) (μ1.2.2.2.2.1 - s0) := by
    rw [show μ1.2.2.2.1 - n0 = μ.2.2.2.1 - n0 + (μ1.2.2.2.1 - μ.2.2.2.1) by omega, show μ1.2.2.2.2.1 - s0 = μ.2.2.2.2.1 - s0 + (μ1.2.2.2.2.1 - μ.2.2.2.2.1) by omega]
    exact X'
  have hP2 : xP ad dC dI B s T'.heap μ1 := by
    rw [e1]
    exact hP.moved (by rw [← e2]; exact X'.warmed.alike.symm)
  obtain ⟨t2, a1, b1⟩ := k T'.heap (locs ++ L) lsA h1 h2 h3 (ok_app.mpr ⟨fun w hw => hvok w (by cases v1 with | none => cases hw | some z => rw [List.mem_singleton.mp hw]), h4⟩) hP2
    ⟨Nat.le_trans h6.1 (by rw [e1]; exact hz), fun q g1 g2 => by rw [e1, hk q (Nat.lt_of_lt_of_le g1 h6.1) g2]; exact h6.2.1 q g1 g2, fun q hq => by
      rcases List.mem_append.mp hq with h | h
      · exact h6.2.2 q h
      · exact hL q h⟩ (by omega) (by omega) T' rfl X2
  refine ⟨t2, st t2 ?_, b1⟩
  have e3 : (v1.toList ++ rest).map (tv ad) = (v1.map (tv ad)).toList ++ rest.map (tv ad) := by cases v1 <;> rfl
  rw [e3] at a1
  exact a1
theorem good_ws {w : Nat} {r1 : MR} (hm : mT w = some r1) (hw : w ≠ 1201) : GoodIn gW (cWs r1) := by
  have hwd := wrd_at hm hw
  unfold wrdOK at hwd
  simp only [Bool.and_eq_true, decide_eq_true_eq] at hwd
  intro z hz
  rcases List.mem_cons.mp hz with rfl | h
  · exact ⟨gW_at hwd.1 rfl, good_of_word rfl⟩
  · exact ⟨h, good_of_word (List.mem_filter.mp h).2⟩
theorem xw_call {d f w idx : Nat} {as rest : List XV} {v1 : Option XV} {μ1 : XM} (IH : SD f) (C : XC p s m args meth c dC dI q r) (hR1 : d + 1 + 1 ≤ R.frames) (hR2 : 100 * (d + 1 + 1) ≤ R.locals) (hR3 : μ1.2.2.2.1 - n0 ≤ R.cells) (hR4 : μ1.2.2.2.2.1 - s0 ≤ R.slots)
    (hrest : rest.length ≤ 4) (hl : (as.flatMap xw).length ≤ mL w)
    (hi : (decode r.1.2.1 pc = .ok (.invokevirtual idx, 3) ∧ side (q / 100) r.1.1 r.1.2.2.2 (.invokevirtual w) idx = true ∧ ∃ a as', as = xR a :: as' ∧ (μ.2.1 a).1 = 10 + w / 100) ∨
      (decode r.1.2.1 pc = .ok (.invokespecial idx, 3) ∧ side (q / 100) r.1.1 r.1.2.2.2 (.invokespecial w) idx = true ∧ ∃ a as', as = xR a :: as') ∨
      (decode r.1.2.1 pc = .ok (.invokestatic idx, 3) ∧ side (q / 100) r.1.1 r.1.2.2.2 (.invokestatic w) idx = true))
    (hnp : as.length = nP w)
    (hex : ex f d w 0 (en w as) [] μ = some (v1, μ1)) (k : XW p l ev R s m args below meth c Q ad dC dI B n0 s0 (pc + 3) ls (v1.toList ++ rest) μ1) : XW p l ev R s m args below meth c Q ad dC dI B n0 s0 pc ls (as.reverse ++ rest) μ := by
  intro H locs lsA h1 h2 h3 h4 h5 h6 h7 h8
  obtain ⟨ha, h4r⟩ := ok_app.mp h4
  have hok : ∀ v ∈ as, okV v := fun v hv => ha v (List.mem_reverse.mpr hv)
  have hmono := ex_mono f hex
  have hm1 : μ.2.2.2.1 ≤ μ1.2.2.2.1 := hmono.1
  have hm2 : μ.2.2.2.2.1 ≤ μ1.2.2.2.2.1 := hmono.2
  have hts := C.2.2.2.2.2.2.1
  have hK := C.2.2.2.2.2.2.2.2.2.1
  have hS : CallFix p m c r.1.2.1 c.maxLocals s args gW (cN (q / 100)) := ⟨C.2.1, C.2.2.1, rfl, C.2.2.2.2.2.1, hts⟩
  have hcat : 2 * (F0 m pc lsA ((as.reverse ++ rest).map (tv ad))).monitorRoom + ((rest.map (tv ad)).map fun v => v.category).sum ≤ 8 := lv_room (by have := cat_le (ad := ad) rest; omega)
  have hpre : FrameBlind (cPc ad dC dI B as μ) := fun a U g mk hq => ⟨hq.1, hq.2.1.moved (Vm.Alike.refl U.vm), va_K.moved (u := U) (U := U.calling g mk a) (Vm.Alike.refl U.vm) hq.2.2.1, xE.alike (u := U) (U := U.calling g mk a) rfl hq.2.2.2⟩
  have hpc : ∀ U : State, U.heap = H → s.WarmedH U.vm → cPc ad dC dI B as μ (as.map (tv ad)).toArray U := fun U hU hW => ⟨rfl, by rw [hU]; exact h5.moved hW.alike, va_K.moved hW.alike hK, xE.warm hW C.2.2.2.2.2.2.2.2.2.2⟩
  have hfit : (μ.2.2.2.1 - n0) + (μ1.2.2.2.1 - μ.2.2.2.1) ≤ R.cells ∧ (μ.2.2.2.2.1 - s0) + (μ1.2.2.2.2.1 - μ.2.2.2.2.1) ≤ R.slots := ⟨by omega, by omega⟩
  have mt : ∀ {b : Bool}, b = true → (match mT w with | some _ => b | none => false) = true → ∃ r1, mT w = some r1 := fun hb h => by
    cases hw : mT w with
    | none => rw [hw] at h; cases h
    | some r1 => exact ⟨r1, rfl⟩
  have roomOK : ∀ r1 : MR, mT w = some r1 → (cRm d (μ1.2.2.2.1 - μ.2.2.2.1) (μ1.2.2.2.2.1 - μ.2.2.2.2.1)).frames + 1 ≤ R.frames ∧ 8 + (r1.1.2.2.1 + 11) + (cRm d (μ1.2.2.2.1 - μ.2.2.2.1) (μ1.2.2.2.2.1 - μ.2.2.2.2.1)).locals ≤ R.locals := fun r1 h => by
    have h20 := (hd_at h).1.2.2
    exact ⟨hR1, by show 8 + (r1.1.2.2.1 + 11) + 100 * (d + 1) ≤ R.locals; omega⟩
  have npw : ∀ r1 : MR, mT w = some r1 → nP w = r1.2.1 := fun r1 h => by unfold nP; rw [h]
  have lMat : ∀ r1 : MR, mT w = some r1 → lM.any (fun z => z.1 == q / 100 && (z.2.1 == idx && z.2.2.1 == w)) = true → w ≠ 1201 ∧ (Cond.methodLink (cN (q / 100)) idx r1.1.1).before args s = true := by
    intro r1 hr1 h
    obtain ⟨z, hz, hz2⟩ := List.any_eq_true.mp h
    simp only [Bool.and_eq_true, beq_iff_eq] at hz2
    obtain ⟨z1, z2, z3⟩ := hz2
    have h2 := List.all_eq_true.mp lM_ok z hz
    have h3 := of_decide_eq_true h2
    have h5 := List.all_eq_true.mp lM_no z hz
    rw [z3, hr1] at h3
    have h4 : lw_tbl[z.2.2.2]? = some (.methodLink (cN (q / 100)) idx r1.1.1) := by
      rw [z1, z2] at h3
      cases hq : lw_tbl[z.2.2.2]? with
      | none => rw [hq] at h3; simp at h3
      | some u =>
        rw [hq] at h3
        simp only [Option.bind_some] at h3
        by_cases hu : u = .methodLink (cN (q / 100)) idx r1.1.1
        · rw [hu]
        · rw [if_neg hu] at h3; cases h3
    refine ⟨fun e => ?_, hts _ (gW_at h4 rfl)⟩
    rw [z3, e] at h5
    simp at h5
  rcases hi with ⟨hd, hs, a, as', rfl, hka⟩ | ⟨hd, hs, a, as', rfl⟩ | ⟨hd, hs⟩
  · simp only [side, Bool.and_eq_true] at hs
    obtain ⟨hs1, hs2, hs3⟩ := hs
    cases hw : mT w with
    | none => unfold insQ at hs2; rw [hw] at hs2; cases hs2
    | some r1 =>
      obtain ⟨hn, hlink⟩ := lMat r1 hw hs1
      have hwd := wrd_at hw hn
      unfold wrdOK at hwd
      simp only [Bool.and_eq_true, decide_eq_true_eq] at hwd
      unfold insQ at hs2
      rw [hw] at hs2
      simp only [Bool.and_eq_true, decide_eq_true_eq] at hs2
      unfold selQ at hs3
      rw [hw] at hs3
      have hsel := of_decide_eq_true hs3
      obtain ⟨⟨hcl, hpl, h20⟩, hne1, hne2⟩ := hd_at hw
      have hst : sta r1 = false := by
        unfold sta
        rw [decide_eq_false_iff_not, hs2.1]
        intro e
        have := Option.some.inj e
        omega
      rw [hst] at hwd
      have hn1 : as'.length = r1.2.1 - 1 := by
        have : (xR a :: as').length = r1.2.1 := by rw [hnp, npw r1 hw]
        simp only [List.length_cons] at this
        omega
      have hM := met_of (l := l) (ad := ad) (dC := dC) (dI := dI) (B := B) IH hex hw hl hok
      have hini : (Cond.initialized r1.1.1.cls).before args s = true := by rw [hcl]; exact hts _ (gW_at hwd.2.2 rfl)
      have hcb := callB_of (R := R) (rm := cRm d (μ1.2.2.2.1 - μ.2.2.2.1) (μ1.2.2.2.2.1 - μ.2.2.2.2.1)) (r1.2.1 - 1) hts (good_ws hw hn) rfl rfl rfl hini hlink ⟨hne1, hne2, hs2.1⟩ (roomOK r1 hw)
      have hcw : CallW R s args (cN (q / 100)) r1.1.1.cls idx r1.1.1 r1.1.2.1 r1.1.2.2.1 r1.1.2.2.2 (cWs r1) (cRm d (μ1.2.2.2.1 - μ.2.2.2.1) (μ1.2.2.2.2.1 - μ.2.2.2.2.1)) (μ1.2.2.2.1 - μ.2.2.2.1) (μ1.2.2.2.2.1 - μ.2.2.2.2.1) (r1.2.1 - 1) := ⟨hcb, hts _ (gW_at hwd.2.1 rfl), hts _ (gW_at hsel rfl)⟩
      obtain ⟨qq, g1, cell, z1, z2, z3, -⟩ := (cR_o hka).mp (h5.1 a)
      have hcls := (hK.1 (w / 100) qq g1).2
      have hcn := (u_ins (w / 100) qq g1).2.2
      have hrun := va_runV (e := ev) (As := as'.map (tv ad)) (rest := rest.map (tv ad)) (g := F0 m pc lsA (((xR a :: as').reverse ++ rest).map (tv ad))) (locs := locs) (below := below) (meth := meth) (b := ad a) (H := H) (cells := μ.2.2.2.1 - n0) (slots := μ.2.2.2.2.1 - s0) hS hM hcw ⟨hpre, ⟨cell, z1, by rw [z3]; rfl, by rw [hcl, ← hcn, z2]; exact hcls.1⟩, hpc⟩ rfl (by rw [List.length_map]; exact hn1) h1.1 (by simp [tv]) hcat hd hfit
      exact call_go hm1 hm2 hrun h1 h2 h3 h4r h6 h7 h8 k
  · simp only [side, Bool.and_eq_true, Bool.or_eq_true] at hs
    obtain ⟨hs1, hs2, hs3⟩ := hs
    cases hw : mT w with
    | none => unfold insQ at hs2; rw [hw] at hs2; cases hs2
    | some r1 =>
      unfold insQ at hs2
      rw [hw] at hs2
      simp only [Bool.and_eq_true, decide_eq_true_eq] at hs2
      unfold iniQ at hs3
      rw [hw] at hs3
      simp only [Bool.and_eq_true, decide_eq_true_eq] at hs3
      obtain ⟨hnm, hret⟩ := hs3
      obtain ⟨⟨hcl, hpl, h20⟩, hne1, hne2⟩ := hd_at hw
      have hst : sta r1 = false := by
        unfold sta
        rw [decide_eq_false_iff_not, hs2.1]
        intro e
        have := Option.some.inj e
        omega
      have hn1 : as'.length = r1.2.1 - 1 := by
        have : (xR a :: as').length = r1.2.1 := by rw [hnp, npw r1 hw]
        simp only [List.length_cons] at this
        omega
      have hM := met_of (l := l) (ad := ad) (dC := dC) (dI := dI) (B := B) IH hex hw hl hok
      have hws : cWs r1 = Cond.code r1.1.1 r1.1.2.1 r1.1.2.2.1 none :: gW := by unfold cWs; rw [hret]
      by_cases hA : lM.any (fun z => z.1 == q / 100 && (z.2.1 == idx && z.2.2.1 == w)) = true
      · obtain ⟨hn, hlink⟩ := lMat r1 hw hA
        have hwd := wrd_at hw hn
        unfold wrdOK at hwd
        simp only [Bool.and_eq_true, decide_eq_true_eq] at hwd
        rw [hst] at hwd
        have hini : (Cond.initialized r1.1.1.cls).before args s = true := by rw [hcl]; exact hts _ (gW_at hwd.2.2 rfl)
        have hcb := callB_of (R := R) (rm := cRm d (μ1.2.2.2.1 - μ.2.2.2.1) (μ1.2.2.2.2.1 - μ.2.2.2.2.1)) (r1.2.1 - 1) hts (good_ws hw hn) hws rfl rfl hini hlink ⟨hne1, hne2, hs2.1⟩ (roomOK r1 hw)
        have hrun := va_runI (e := ev) (As := as'.map (tv ad)) (rest := rest.map (tv ad)) (g := F0 m pc lsA (((xR a :: as').reverse ++ rest).map (tv ad))) (locs := locs) (below := below) (meth := meth) (b := ad a) (H := H) (cells := μ.2.2.2.1 - n0) (slots := μ.2.2.2.2.1 - s0) hS hM ⟨hcb, hnm, hts _ (gW_at hwd.2.1 rfl)⟩ ⟨hpre, hpc⟩ rfl (by rw [List.length_map]; exact hn1) h1.1 (by simp [tv]) hcat hd hfit
        exact call_go hm1 hm2 hrun h1 h2 h3 h4r h6 h7 h8 k
      · have hB : lV.any (fun z => z.1 == q / 100 && (z.2.1 == idx && z.2.2.1 == w)) = true := by
          rcases hs1 with h | h
          · exact absurd h hA
          · exact h
        obtain ⟨z, hz, hz2⟩ := List.any_eq_true.mp hB
        simp only [Bool.and_eq_true, beq_iff_eq] at hz2
        obtain ⟨z1, z2, z3⟩ := hz2
        have h9 := of_decide_eq_true (List.all_eq_true.mp lV_o z hz)
        have hn9 := List.all_eq_true.mp lV_no z hz
        have hn : w ≠ 1201 := fun e => by
          rw [z3, e] at hn9
          simp at hn9
        rw [z1, z2, z3, hw] at h9
        simp only [Option.bind_some] at h9
        have hin : Cond.methodLinkNest (cN (q / 100)) idx r1.1.1 "LightPlate" ∈ oW := by
          by_cases h : Cond.methodLinkNest (cN (q / 100)) idx r1.1.1 "LightPlate" ∈ oW
          · exact h
          · rw [if_neg h] at h9; cases h9
        have hlink : va_Nw (.methodLinkNest (cN (q / 100)) idx r1.1.1 "LightPlate") s := C.2.2.2.2.2.2.2.2.2.2 _ hin
        have hwd := wrd_at hw hn
        unfold wrdOK at hwd
        simp only [Bool.and_eq_true, decide_eq_true_eq] at hwd
        rw [hst] at hwd
        have hini : (Cond.initialized r1.1.1.cls).before args s = true := by rw [hcl]; exact hts _ (gW_at hwd.2.2 rfl)
        have hcb := va_cnB (R := R) (rm := cRm d (μ1.2.2.2.1 - μ.2.2.2.1) (μ1.2.2.2.2.1 - μ.2.2.2.2.1)) (r1.2.1 - 1) hts (good_ws hw hn) hws rfl rfl hlink hini ⟨hne1, hne2, hs2.1⟩ (roomOK r1 hw)
        have hrun := va_runIN (e := ev) (As := as'.map (tv ad)) (rest := rest.map (tv ad)) (g := F0 m pc lsA (((xR a :: as').reverse ++ rest).map (tv ad))) (locs := locs) (below := below) (meth := meth) (b := ad a) (H := H) (cells := μ.2.2.2.1 - n0) (slots := μ.2.2.2.2.1 - s0) hS hM ⟨hcb, hnm, hts _ (gW_at hwd.2.1 rfl)⟩ ⟨hpre, hpc⟩ rfl (by rw [List.length_map]; exact hn1) h1.1 (by simp [tv]) hcat hd hfit
        exact call_go hm1 hm2 hrun h1 h2 h3 h4r h6 h7 h8 k
  · simp only [side, Bool.and_eq_true] at hs
    obtain ⟨hs1, hs2⟩ := hs
    cases hw : mT w with
    | none => unfold staQ at hs2; rw [hw] at hs2; cases hs2
    | some r1 =>
      obtain ⟨hn, hlink⟩ := lMat r1 hw hs1
      have hwd := wrd_at hw hn
      unfold wrdOK at hwd
      simp only [Bool.and_eq_true, decide_eq_true_eq] at hwd
      unfold staQ at hs2
      rw [hw] at hs2
      have hst : sta r1 = true := hs2
      have hpar := of_decide_eq_true (show decide _ = true from hst)
      rw [hst] at hwd
      obtain ⟨⟨hcl, hpl, h20⟩, hne1, hne2⟩ := hd_at hw
      have hM := met_of (l := l) (ad := ad) (dC := dC) (dI := dI) (B := B) IH hex hw hl hok
      have hini : (Cond.initialized r1.1.1.cls).before args s = true := by rw [hcl]; exact hts _ (gW_at hwd.2.2 rfl)
      have hcb := callB_of (R := R) (rm := cRm d (μ1.2.2.2.1 - μ.2.2.2.1) (μ1.2.2.2.2.1 - μ.2.2.2.2.1)) r1.2.1 hts (good_ws hw hn) rfl rfl rfl hini hlink ⟨hne1, hne2, hpar⟩ (roomOK r1 hw)
      have hrun := va_runS (e := ev) (As := as.map (tv ad)) (rest := rest.map (tv ad)) (g := F0 m pc lsA ((as.reverse ++ rest).map (tv ad))) (locs := locs) (below := below) (meth := meth) (H := H) (cells := μ.2.2.2.1 - n0) (slots := μ.2.2.2.2.1 - s0) hS hM ⟨hcb, hts _ (gW_at hwd.2.1 rfl)⟩ ⟨hpre, hpc⟩ rfl (by rw [List.length_map, hnp, npw r1 hw]) h1.1 (by simp) hcat hd hfit
      exact call_go hm1 hm2 hrun h1 h2 h3 h4r h6 h7 h8 k
end XCall
theorem xs_np {i : Instr} {w : Nat} {as ls ls' st rest : List XV} {μ μ' : XM} (hx : xs i ls st μ = some (.inr (.inr (.inr (w, as, ls', rest, μ'))))) : as.length = nP w := by
  cases i
  case invokevirtual w0 =>
    obtain ⟨h0, h⟩ := if_inv hx
    revert h
    split
    · next a as' he =>
      intro h
      obtain ⟨hk, h⟩ := if_inv h
      cases h
      rw [← he, List.length_reverse, List.length_take]
      omega
    · intro h; cases h
  case invokespecial w0 =>
    obtain ⟨h0, h⟩ := if_inv hx
    revert h
    split
    · next a as' he =>
      intro h
      cases h
      rw [← he, List.length_reverse, List.length_take]
      omega
    · intro h; cases h
  case invokestatic w0 =>
    obtain ⟨h0, h⟩ := if_inv hx
    cases h
    rw [List.length_reverse, List.length_take]
    omega
  all_goals
    first
    | exact (no_some hx).elim
    | (revert hx
       simp only [xs, bI, bL, tI, tL, tA, ldI, ldL, ldA, st1, st2, br]
       repeat' split
       all_goals (intro hx; cases hx))
/-- SOUNDNESS -/
theorem sound : ∀ f, SD f := by
  intro f
  induction f with
  | zero => intro d q pc ls st μ v μ' h; cases h
  | succ f IH =>
    intro d q pc ls st μ v μ' hh p l ev R s m args below meth c Q ad dC dI B n0 s0 r C hR1 hR2 hR3 hR4 hK
    have h : xst (ex f) d q pc ls st μ = some (v, μ') := hh
    clear hh
    unfold xst at h
    cases hc : cd q pc with
    | none => rw [hc] at h; cases h
    | some w =>
      rw [hc] at h
      obtain ⟨i, len⟩ := w
      simp only at h
      cases hx : xs i ls st μ with
      | none => rw [hx] at h; cases h
      | some z =>
        rw [hx] at h
        rcases z with ⟨ls', st', μ2⟩ | ⟨t, ls', st', μ2⟩ | ⟨v2, μ2⟩ | ⟨w, as, ls', rest, μ2⟩
        · have hm := ex_mono f h
          simp only at hm
          exact xw_next C hc hx (by omega) (by omega) (by omega) (by omega) (IH d q (pc + len) ls' st' μ2 v μ' h p l ev R s m args below meth c Q ad dC dI B n0 s0 r C hR1 hR2 hR3 hR4 hK)
        · exact xw_go C hc hx (IH d q t ls' st' μ2 v μ' h p l ev R s m args below meth c Q ad dC dI B n0 s0 r C hR1 hR2 hR3 hR4 hK)
        · cases h
          obtain ⟨rfl, rfl, hret⟩ := xs_ret C.1 hc hx
          intro H locs lsA h1 h2 h3 h4 h5 h6 h7 h8
          exact hK pc lsA H locs hret (fun w hw => h4 w (by rw [hw]; exact List.mem_cons_self)) h5 h6 h7 h8
        · have hnp := xs_np hx
          obtain ⟨rfl, rfl, rfl, hrest, hl, hlen, idx, hi⟩ := xs_call C.1 hc hx
          try simp only at h
          cases d with
          | zero => cases h
          | succ d =>
            try simp only at h
            cases hk : ex f d w 0 (en w as) [] μ2 with
            | none => rw [hk] at h; cases h
            | some o =>
              rw [hk] at h
              obtain ⟨v1, μ1⟩ := o
              have hm := ex_mono f h
              simp only at hm
              subst hlen
              exact xw_call IH C hR1 hR2 (by omega) (by omega) hrest hl hi hnp hk (IH (d + 1) q (pc + 3) ls' (v1.toList ++ rest) μ1 v μ' h p l ev R s m args below meth c Q ad dC dI B n0 s0 r C hR1 hR2 hR3 hR4 hK)
end
section
def R_law : String := "LightPlateLaw"
def lw_P (b : Addr) (xs : List Int32) (args : Array Value) (s : State) : Prop := args = #[.ref b] ∧ s.IntsAt b xs ∧ xs.length ≤ 2561 ∧ (Jvm.Cond.and given_1 narrow_1).before args s = true
def lw_Q (_ : Array Value) (s : State) (o : Outcome) (t : State) : Prop := o = .returned (some (.int 1)) ∧ Framed s o t [] 600000 7302250
def lw_Z (below : List Frame) (a : Array Value) (s : State) : State → Prop := fun t => ∃ o, t.status = .running ∧ Ended t below o ∧ lw_Q a s o t
/-- the law's own end, with 1 on the stack, nothing written that was there before, its room as the claim has it -/
theorem lw_ret {p : Program} {l : Launch} {e : Env} {s : State} {m : MethodId} {below : List Frame} {meth : Method} {c : Code} {b : Nat} (hx : p.tables.exec = Jvm.exec) (hb : c.code = code) (hr : meth.sig.returnType = ret) (hlocks : meth.locks = false) {pc : Nat} {H : Heap} {ls : Array Slot} (hdg : decode code pc = .ok (.ireturn, 1)) : W p l e room_1 s m #[Value.ref b] below meth c H [] 600000 7302250 (lw_Z below #[Value.ref b] s) (F0 m pc ls [.int 1]) := by
  intro T hT X
  obtain ⟨fs, hret, hrun, hended, hW, hframe⟩ := X.leave (v := some (.int 1)) (hlocks := hlocks) (fun h => by rw [hr] at h; cases h)
  have hmeth' : T.vm.method? m = some meth := X.method'
  refine ⟨T.setFrames fs, ?_, .returned (some (.int 1)), hrun, hended, rfl, ⟨_, rfl⟩, hW, hframe⟩
  jvm_step X.here [X.here.top, hx, hb, hdg, hmeth', hr, ret, narrow_b1]
  (try refine ⟨rfl, ?_⟩); (try refine ⟨rfl, ?_⟩)
  first | (intro acts; rw [hret _ acts rfl rfl rfl]) | rw [hret _ _ rfl rfl rfl]
  exact Steps.refl _
/-- what holds at the law's entry: the machine, the code, the tables' words (any of lw_tbl by 'hts w (by decide +kernel)'), the script of L ints xs at the cell b, what the Statement gives of the start (any of its parts by flat_of_before) -/
def lw_At (p : Program) (s : State) (m : MethodId) (meth : Method) (c : Code) (b L : Nat) (xs : Nat → Int32) : Prop :=
  p.tables.exec = Jvm.exec ∧ c.code = code ∧ meth.sig.returnType = ret ∧ c.maxLocals = 4 ∧ s.vm.findClass R_law = some m.cls ∧ (∀ w ∈ lw_tbl, w.before #[Value.ref b] s = true) ∧ va_X b L xs s s.heap ∧ b < s.heap.size ∧ meth.locks = false ∧ (Jvm.Cond.and given_1 narrow_1).before #[Value.ref b] s = true
end
section
/-! THE LAW's START: its run in the plain machine gives the walk -/
def m0 (L : Nat) (xs : Nat → Int32) (iv : Nat → Nat) : XM := (fun a j => if a = 0 then (xs j.toNat).toInt else 0, (fun a => if a = 0 then (9, L) else (0, 0)), (fun _ _ => none), 0, 0, iv)
theorem kn_all {s : State} {args : Array Value} (hts : ∀ w ∈ gW, w.before args s = true) : ∃ (dC : Nat → ClassId) (dI : Nat → Nat → Nat), va_K (dC, dI) clX [] s := by
  have h : ∀ c : Nat, ∃ z : ClassId × (Nat → Nat), ∀ q, clX[c]? = some q → u_Kn s q.1 q.2.1 q.2.2 z.1 z.2 := by
    intro c
    cases hc : clX[c]? with
    | none => exact ⟨(0, fun _ => 0), fun q h => by cases h⟩
    | some q =>
      obtain ⟨cC, iS, h⟩ := u_known hts (u_in c q hc) (hts _ (u_ins c q hc).1)
      exact ⟨(cC, iS), fun q' h' => by cases h'; exact h⟩
  obtain ⟨f, hf⟩ := Classical.axiomOfChoice h
  exact ⟨fun c => (f c).1, fun c => (f c).2, fun c q hq => hf c q hq, fun k q hk => by cases hk⟩
theorem start_of {p : Program} {e : Env} {s : State} {m : MethodId} {below : List Frame} {meth : Method} {c : Code} (l : Launch) {b L : Nat} {xs : Nat → Int32} (C0 : lw_At p s m meth c b L xs) {iv o : Nat → Nat} (ho : ∀ j, o (iv j) = j) (hi : ∀ j, iv j ≠ 0) {μ' : XM} (hrun : run 800 1201 0 (en 1201 [xR 0]) [] (m0 L xs iv) = some (some (xI 1), μ')) (hc : μ'.2.2.2.1 ≤ 600000) (hs : μ'.2.2.2.2.1 ≤ 7302250) :
    W p l e room_1 s m #[Value.ref b] below meth c s.heap [] 0 0 (lw_Z below #[Value.ref b] s) (entryFrame m ([Value.ref b] : List Value).toArray 4) := by
  obtain ⟨hx, hb, hr, hml, hown, hts0, hX, hbl, hlocks, hgv⟩ := C0
  obtain ⟨f, hex⟩ := run_iff.mp hrun
  have hts : ∀ w ∈ gW, w.before #[Value.ref b] s = true := fun w hw => hts0 w (List.mem_filter.mp hw).1
  have hE : xE s := by
    intro w hw
    have h1 := hts0 w (oW_in w hw)
    simp only [oW, List.mem_cons, List.not_mem_nil, or_false] at hw
    rcases hw with rfl | rfl | rfl | rfl | rfl
    · exact h1
    · exact va_AO.of h1
    · exact va_Nw.of rfl h1
    · exact va_Nw.of rfl h1
    · exact va_Nw.of rfl h1
  obtain ⟨dC, dI, hK⟩ := kn_all hts
  have hC : XC p s m #[Value.ref b] meth c dC dI 1201 kr1201 := ⟨rfl, hx, hb, hr, hml, hown, hts, hlocks, fun h => absurd h (by decide), hK, hE⟩
  have hP : xP (fun a => if a = 0 then b else s.heap.size + o a) dC dI s.heap.size s s.heap (m0 L xs iv) := by
    refine ⟨fun a => ?_, fun a i => ?_, rfl, fun j => ?_, fun a ha => ?_⟩
    · by_cases h0 : a = 0
      · subst h0
        obtain ⟨scr, g1, g2, g3, g4, g5⟩ := hX
        refine (cR_9 (μ := m0 L xs iv) rfl).mpr ⟨scr, g1, g2, g3, g4, fun j hj => ?_⟩
        rw [g5 j hj]
        show _ = some (Value.int (Int32.ofInt (xs j).toInt))
        rw [Int32.ofInt_toInt]
      · unfold cR
        simp only [m0, if_neg h0]
    · by_cases h0 : a = 0
      · subst h0
        exact (okC_9 (μ := m0 L xs iv) rfl).mpr (n32i _)
      · unfold okC
        simp only [m0, if_neg h0]
    · show (if iv j = 0 then b else s.heap.size + o (iv j)) = _
      rw [if_neg (hi j), ho]
    · by_cases h0 : a = 0
      · subst h0
        exact Or.inl ⟨rfl, rfl, hbl⟩
      · exact absurd (by simp only [m0, if_neg h0]) ha
  have K := sound f 800 1201 0 (en 1201 [xR 0]) [] (m0 L xs iv) (some (xI 1)) μ' hex p l e room_1 s m #[Value.ref b] below meth c (lw_Z below #[Value.ref b] s) (fun a => if a = 0 then b else s.heap.size + o a) dC dI s.heap.size 0 0 kr1201 hC (by decide) (by decide) (by show μ'.2.2.2.1 - 0 ≤ 600000; omega) (by show μ'.2.2.2.2.1 - 0 ≤ 7302250; omega) ?_
  · have hent := lv_entry ([Value.ref b]) (n := 4) (Nat.le_of_ble_eq_true rfl)
    rw [lg_entry_eq]
    generalize (lg_sl ([Value.ref b]) ++ List.replicate (4 - (lg_sl ([Value.ref b])).length) Slot.unset).toArray = lsA at hent ⊢
    exact K s.heap [] lsA (by rw [hml]; exact hent) (by rw [hml]; rfl) (fun v hv => by
      have hv2 : v ∈ [xR 0, xU, xU, xU] := hv
      have : v = xR 0 ∨ v = xU := by simpa using hv2
      rcases this with rfl | rfl <;> trivial) (fun _ h => by cases h) hP va_S.rf (Nat.le_refl _) (Nat.le_refl _)
  · intro pc lsA H locs hret hvok hP2 hS h7 h8
    rcases hret with ⟨hdg, x, hv, -⟩ | ⟨-, ⟨a, hv⟩, -⟩ | ⟨-, hv, -⟩
    · refine va_forget (fun q hq => hS.2.2 q hq) ?_
      refine W.widen (k := 600000) (n := 7302250) (by omega) (by omega) ?_
      exact lw_ret hx hb hr hlocks hdg
    · cases hv
    · cases hv
end
section
/-! BLOCKS: what an instruction does to a row of instructions; conditions are for 'simp (disch := ..)' -/
def isL (v : XV) : Bool := match v with
  | .inr (.inl _) => true
  | _ => false
theorem isL_I (x : Int) : isL (xI x) = false := rfl
theorem isL_R (a : Nat) : isL (xR a) = false := rfl
theorem isL_U : isL xU = false := rfl
theorem if_ff {α : Type} (a b : α) : (if false = true then a else b) = b := rfl
section BX
variable {d q : Nat} {is : List Instr} {nx : Nat} {ls st : List XV} {μ : XM} {V : Nat → Int → Int} {G : XG}
theorem bx_nil : bx d q [] nx ls st μ = run d q nx ls st μ := by rw [bx]
theorem bx_iconst {n : Int} : bx d q (.iconst n :: is) nx ls st μ = bx d q is nx ls (xI n :: st) μ := by rw [bx]; rfl
theorem bx_bipush {n : Int} : bx d q (.bipush n :: is) nx ls st μ = bx d q is nx ls (xI n :: st) μ := by rw [bx]; rfl
theorem bx_sipush {n : Int} : bx d q (.sipush n :: is) nx ls st μ = bx d q is nx ls (xI n :: st) μ := by rw [bx]; rfl
theorem bx_ldc2 {v : Int} : bx d q (.jsr_w v :: is) nx ls st μ = bx d q is nx ls (xL v :: st) μ := by rw [bx]; rfl
theorem bx_lconst0 : bx d q (.lconst 0 :: is) nx ls st μ = bx d q is nx ls (xL 0 :: st) μ := by rw [bx]; rfl
theorem bx_lconst1 : bx d q (.lconst 1 :: is) nx ls st μ = bx d q is nx ls (xL 1 :: st) μ := by rw [bx]; rfl
theorem bx_iload_0 {x : Int} : bx d q (.iload_n 0 :: is) nx (xI x :: ls) st μ = bx d q is nx (xI x :: ls) (xI x :: st) μ := by rw [bx]; rfl
theorem bx_iload_1 {a0 : XV} {x : Int} : bx d q (.iload_n 1 :: is) nx (a0 :: xI x :: ls) st μ = bx d q is nx (a0 :: xI x :: ls) (xI x :: st) μ := by rw [bx]; rfl
theorem bx_iload_2 {a0 a1 : XV} {x : Int} : bx d q (.iload_n 2 :: is) nx (a0 :: a1 :: xI x :: ls) st μ = bx d q is nx (a0 :: a1 :: xI x :: ls) (xI x :: st) μ := by rw [bx]; rfl
theorem bx_iload_3 {a0 a1 a2 : XV} {x : Int} : bx d q (.iload_n 3 :: is) nx (a0 :: a1 :: a2 :: xI x :: ls) st μ = bx d q is nx (a0 :: a1 :: a2 :: xI x :: ls) (xI x :: st) μ := by rw [bx]; rfl
theorem bx_iload4 {a0 a1 a2 a3 : XV} {x : Int} : bx d q (.iload 4 :: is) nx (a0 :: a1 :: a2 :: a3 :: xI x :: ls) st μ = bx d q is nx (a0 :: a1 :: a2 :: a3 :: xI x :: ls) (xI x :: st) μ := by rw [bx]; rfl
theorem bx_iload5 {a0 a1 a2 a3 a4 : XV} {x : Int} : bx d q (.iload 5 :: is) nx (a0 :: a1 :: a2 :: a3 :: a4 :: xI x :: ls) st μ = bx d q is nx (a0 :: a1 :: a2 :: a3 :: a4 :: xI x :: ls) (xI x :: st) μ := by rw [bx]; rfl
theorem bx_iload6 {a0 a1 a2 a3 a4 a5 : XV} {x : Int} : bx d q (.iload 6 :: is) nx (a0 :: a1 :: a2 :: a3 :: a4 :: a5 :: xI x :: ls) st μ = bx d q is nx (a0 :: a1 :: a2 :: a3 :: a4 :: a5 :: xI x :: ls) (xI x :: st) μ := by rw [bx]; rfl
theorem bx_iload7 {a0 a1 a2 a3 a4 a5 a6 : XV} {x : Int} : bx d q (.iload 7 :: is) nx (a0 :: a1 :: a2 :: a3 :: a4 :: a5 :: a6 :: xI x :: ls) st μ = bx d q is nx (a0 :: a1 :: a2 :: a3 :: a4 :: a5 :: a6 :: xI x :: ls) (xI x :: st) μ := by rw [bx]; rfl
theorem bx_iload8 {a0 a1 a2 a3 a4 a5 a6 a7 : XV} {x : Int} : bx d q (.iload 8 :: is) nx (a0 :: a1 :: a2 :: a3 :: a4 :: a5 :: a6 :: a7 :: xI x :: ls) st μ = bx d q is nx (a0 :: a1 :: a2 :: a3 :: a4 :: a5 :: a6 :: a7 :: xI x :: ls) (xI x :: st) μ := by rw [bx]; rfl
theorem bx_iload9 {a0 a1 a2 a3 a4 a5 a6 a7 a8 : XV} {x : Int} : bx d q (.iload 9 :: is) nx (a0 :: a1 :: a2 :: a3 :: a4 :: a5 :: a6 :: a7 :: a8 :: xI x :: ls) st μ = bx d q is nx (a0 :: a1 :: a2 :: a3 :: a4 :: a5 :: a6 :: a7 :: a8 :: xI x :: ls) (xI x :: st) μ := by rw [bx]; rfl
theorem bx_iload10 {a0 a1 a2 a3 a4 a5 a6 a7 a8 a9 : XV} {x : Int} : bx d q (.iload 10 :: is) nx (a0 :: a1 :: a2 :: a3 :: a4 :: a5 :: a6 :: a7 :: a8 :: a9 :: xI x :: ls) st μ = bx d q is nx (a0 :: a1 :: a2 :: a3 :: a4 :: a5 :: a6 :: a7 :: a8 :: a9 :: xI x :: ls) (xI x :: st) μ := by rw [bx]; rfl
theorem bx_lload_0 {x : Int} : bx d q (.lload_n 0 :: is) nx (xL x :: ls) st μ = bx d q is nx (xL x :: ls) (xL x :: st) μ := by rw [bx]; rfl
theorem bx_lload_1 {a0 : XV} {x : Int} : bx d q (.lload_n 1 :: is) nx (a0 :: xL x :: ls) st μ = bx d q is nx (a0 :: xL x :: ls) (xL x :: st) μ := by rw [bx]; rfl
theorem bx_lload_2 {a0 a1 : XV} {x : Int} : bx d q (.lload_n 2 :: is) nx (a0 :: a1 :: xL x :: ls) st μ = bx d q is nx (a0 :: a1 :: xL x :: ls) (xL x :: st) μ := by rw [bx]; rfl
theorem bx_lload_3 {a0 a1 a2 : XV} {x : Int} : bx d q (.lload_n 3 :: is) nx (a0 :: a1 :: a2 :: xL x :: ls) st μ = bx d q is nx (a0 :: a1 :: a2 :: xL x :: ls) (xL x :: st) μ := by rw [bx]; rfl
theorem bx_lload4 {a0 a1 a2 a3 : XV} {x : Int} : bx d q (.lload 4 :: is) nx (a0 :: a1 :: a2 :: a3 :: xL x :: ls) st μ = bx d q is nx (a0 :: a1 :: a2 :: a3 :: xL x :: ls) (xL x :: st) μ := by rw [bx]; rfl
theorem bx_lload5 {a0 a1 a2 a3 a4 : XV} {x : Int} : bx d q (.lload 5 :: is) nx (a0 :: a1 :: a2 :: a3 :: a4 :: xL x :: ls) st μ = bx d q is nx (a0 :: a1 :: a2 :: a3 :: a4 :: xL x :: ls) (xL x :: st) μ := by rw [bx]; rfl
theorem bx_lload6 {a0 a1 a2 a3 a4 a5 : XV} {x : Int} : bx d q (.lload 6 :: is) nx (a0 :: a1 :: a2 :: a3 :: a4 :: a5 :: xL x :: ls) st μ = bx d q is nx (a0 :: a1 :: a2 :: a3 :: a4 :: a5 :: xL x :: ls) (xL x :: st) μ := by rw [bx]; rfl
theorem bx_lload7 {a0 a1 a2 a3 a4 a5 a6 : XV} {x : Int} : bx d q (.lload 7 :: is) nx (a0 :: a1 :: a2 :: a3 :: a4 :: a5 :: a6 :: xL x :: ls) st μ = bx d q is nx (a0 :: a1 :: a2 :: a3 :: a4 :: a5 :: a6 :: xL x :: ls) (xL x :: st) μ := by rw [bx]; rfl
theorem bx_lload8 {a0 a1 a2 a3 a4 a5 a6 a7 : XV} {x : Int} : bx d q (.lload 8 :: is) nx (a0 :: a1 :: a2 :: a3 :: a4 :: a5 :: a6 :: a7 :: xL x :: ls) st μ = bx d q is nx (a0 :: a1 :: a2 :: a3 :: a4 :: a5 :: a6 :: a7 :: xL x :: ls) (xL x :: st) μ := by rw [bx]; rfl
theorem bx_lload9 {a0 a1 a2 a3 a4 a5 a6 a7 a8 : XV} {x : Int} : bx d q (.lload 9 :: is) nx (a0 :: a1 :: a2 :: a3 :: a4 :: a5 :: a6 :: a7 :: a8 :: xL x :: ls) st μ = bx d q is nx (a0 :: a1 :: a2 :: a3 :: a4 :: a5 :: a6 :: a7 :: a8 :: xL x :: ls) (xL x :: st) μ := by rw [bx]; rfl
theorem bx_lload10 {a0 a1 a2 a3 a4 a5 a6 a7 a8 a9 : XV} {x : Int} : bx d q (.lload 10 :: is) nx (a0 :: a1 :: a2 :: a3 :: a4 :: a5 :: a6 :: a7 :: a8 :: a9 :: xL x :: ls) st μ = bx d q is nx (a0 :: a1 :: a2 :: a3 :: a4 :: a5 :: a6 :: a7 :: a8 :: a9 :: xL x :: ls) (xL x :: st) μ := by rw [bx]; rfl
theorem bx_aload_0 {x : Nat} : bx d q (.aload_n 0 :: is) nx (xR x :: ls) st μ = bx d q is nx (xR x :: ls) (xR x :: st) μ := by rw [bx]; rfl
theorem bx_aload_1 {a0 : XV} {x : Nat} : bx d q (.aload_n 1 :: is) nx (a0 :: xR x :: ls) st μ = bx d q is nx (a0 :: xR x :: ls) (xR x :: st) μ := by rw [bx]; rfl
theorem bx_aload_2 {a0 a1 : XV} {x : Nat} : bx d q (.aload_n 2 :: is) nx (a0 :: a1 :: xR x :: ls) st μ = bx d q is nx (a0 :: a1 :: xR x :: ls) (xR x :: st) μ := by rw [bx]; rfl
theorem bx_aload_3 {a0 a1 a2 : XV} {x : Nat} : bx d q (.aload_n 3 :: is) nx (a0 :: a1 :: a2 :: xR x :: ls) st μ = bx d q is nx (a0 :: a1 :: a2 :: xR x :: ls) (xR x :: st) μ := by rw [bx]; rfl
theorem bx_aload4 {a0 a1 a2 a3 : XV} {x : Nat} : bx d q (.aload 4 :: is) nx (a0 :: a1 :: a2 :: a3 :: xR x :: ls) st μ = bx d q is nx (a0 :: a1 :: a2 :: a3 :: xR x :: ls) (xR x :: st) μ := by rw [bx]; rfl
theorem bx_aload5 {a0 a1 a2 a3 a4 : XV} {x : Nat} : bx d q (.aload 5 :: is) nx (a0 :: a1 :: a2 :: a3 :: a4 :: xR x :: ls) st μ = bx d q is nx (a0 :: a1 :: a2 :: a3 :: a4 :: xR x :: ls) (xR x :: st) μ := by rw [bx]; rfl
theorem bx_aload6 {a0 a1 a2 a3 a4 a5 : XV} {x : Nat} : bx d q (.aload 6 :: is) nx (a0 :: a1 :: a2 :: a3 :: a4 :: a5 :: xR x :: ls) st μ = bx d q is nx (a0 :: a1 :: a2 :: a3 :: a4 :: a5 :: xR x :: ls) (xR x :: st) μ := by rw [bx]; rfl
theorem bx_aload7 {a0 a1 a2 a3 a4 a5 a6 : XV} {x : Nat} : bx d q (.aload 7 :: is) nx (a0 :: a1 :: a2 :: a3 :: a4 :: a5 :: a6 :: xR x :: ls) st μ = bx d q is nx (a0 :: a1 :: a2 :: a3 :: a4 :: a5 :: a6 :: xR x :: ls) (xR x :: st) μ := by rw [bx]; rfl
theorem bx_aload8 {a0 a1 a2 a3 a4 a5 a6 a7 : XV} {x : Nat} : bx d q (.aload 8 :: is) nx (a0 :: a1 :: a2 :: a3 :: a4 :: a5 :: a6 :: a7 :: xR x :: ls) st μ = bx d q is nx (a0 :: a1 :: a2 :: a3 :: a4 :: a5 :: a6 :: a7 :: xR x :: ls) (xR x :: st) μ := by rw [bx]; rfl
theorem bx_aload9 {a0 a1 a2 a3 a4 a5 a6 a7 a8 : XV} {x : Nat} : bx d q (.aload 9 :: is) nx (a0 :: a1 :: a2 :: a3 :: a4 :: a5 :: a6 :: a7 :: a8 :: xR x :: ls) st μ = bx d q is nx (a0 :: a1 :: a2 :: a3 :: a4 :: a5 :: a6 :: a7 :: a8 :: xR x :: ls) (xR x :: st) μ := by rw [bx]; rfl
theorem bx_aload10 {a0 a1 a2 a3 a4 a5 a6 a7 a8 a9 : XV} {x : Nat} : bx d q (.aload 10 :: is) nx (a0 :: a1 :: a2 :: a3 :: a4 :: a5 :: a6 :: a7 :: a8 :: a9 :: xR x :: ls) st μ = bx d q is nx (a0 :: a1 :: a2 :: a3 :: a4 :: a5 :: a6 :: a7 :: a8 :: a9 :: xR x :: ls) (xR x :: st) μ := by rw [bx]; rfl
theorem bx_istore_0 {b : XV} {x : Int} : bx d q (.istore_n 0 :: is) nx (b :: ls) (xI x :: st) μ = bx d q is nx (xI x :: ls) st μ := by rw [bx]; rfl
theorem bx_istore_1 {a0 b : XV} {x : Int} : bx d q (.istore_n 1 :: is) nx (a0 :: b :: ls) (xI x :: st) μ = if isL a0 = true then none else bx d q is nx (a0 :: xI x :: ls) st μ := by
  rw [bx]
  rcases a0 with y | y | y | y <;> rfl
theorem bx_istore_2 {a0 a1 b : XV} {x : Int} : bx d q (.istore_n 2 :: is) nx (a0 :: a1 :: b :: ls) (xI x :: st) μ = if isL a1 = true then none else bx d q is nx (a0 :: a1 :: xI x :: ls) st μ := by
  rw [bx]
  rcases a1 with y | y | y | y <;> rfl
theorem bx_istore_3 {a0 a1 a2 b : XV} {x : Int} : bx d q (.istore_n 3 :: is) nx (a0 :: a1 :: a2 :: b :: ls) (xI x :: st) μ = if isL a2 = true then none else bx d q is nx (a0 :: a1 :: a2 :: xI x :: ls) st μ := by
  rw [bx]
  rcases a2 with y | y | y | y <;> rfl
theorem bx_istore4 {a0 a1 a2 a3 b : XV} {x : Int} : bx d q (.istore 4 :: is) nx (a0 :: a1 :: a2 :: a3 :: b :: ls) (xI x :: st) μ = if isL a3 = true then none else bx d q is nx (a0 :: a1 :: a2 :: a3 :: xI x :: ls) st μ := by
  rw [bx]
  rcases a3 with y | y | y | y <;> rfl
theorem bx_istore5 {a0 a1 a2 a3 a4 b : XV} {x : Int} : bx d q (.istore 5 :: is) nx (a0 :: a1 :: a2 :: a3 :: a4 :: b :: ls) (xI x :: st) μ = if isL a4 = true then none else bx d q is nx (a0 :: a1 :: a2 :: a3 :: a4 :: xI x :: ls) st μ := by
  rw [bx]
  rcases a4 with y | y | y | y <;> rfl
theorem bx_istore6 {a0 a1 a2 a3 a4 a5 b : XV} {x : Int} : bx d q (.istore 6 :: is) nx (a0 :: a1 :: a2 :: a3 :: a4 :: a5 :: b :: ls) (xI x :: st) μ = if isL a5 = true then none else bx d q is nx (a0 :: a1 :: a2 :: a3 :: a4 :: a5 :: xI x :: ls) st μ := by
  rw [bx]
  rcases a5 with y | y | y | y <;> rfl
theorem bx_istore7 {a0 a1 a2 a3 a4 a5 a6 b : XV} {x : Int} : bx d q (.istore 7 :: is) nx (a0 :: a1 :: a2 :: a3 :: a4 :: a5 :: a6 :: b :: ls) (xI x :: st) μ = if isL a6 = true then none else bx d q is nx (a0 :: a1 :: a2 :: a3 :: a4 :: a5 :: a6 :: xI x :: ls) st μ := by
  rw [bx]
  rcases a6 with y | y | y | y <;> rfl
theorem bx_istore8 {a0 a1 a2 a3 a4 a5 a6 a7 b : XV} {x : Int} : bx d q (.istore 8 :: is) nx (a0 :: a1 :: a2 :: a3 :: a4 :: a5 :: a6 :: a7 :: b :: ls) (xI x :: st) μ = if isL a7 = true then none else bx d q is nx (a0 :: a1 :: a2 :: a3 :: a4 :: a5 :: a6 :: a7 :: xI x :: ls) st μ := by
  rw [bx]
  rcases a7 with y | y | y | y <;> rfl
theorem bx_istore9 {a0 a1 a2 a3 a4 a5 a6 a7 a8 b : XV} {x : Int} : bx d q (.istore 9 :: is) nx (a0 :: a1 :: a2 :: a3 :: a4 :: a5 :: a6 :: a7 :: a8 :: b :: ls) (xI x :: st) μ = if isL a8 = true then none else bx d q is nx (a0 :: a1 :: a2 :: a3 :: a4 :: a5 :: a6 :: a7 :: a8 :: xI x :: ls) st μ := by
  rw [bx]
  rcases a8 with y | y | y | y <;> rfl
theorem bx_istore10 {a0 a1 a2 a3 a4 a5 a6 a7 a8 a9 b : XV} {x : Int} : bx d q (.istore 10 :: is) nx (a0 :: a1 :: a2 :: a3 :: a4 :: a5 :: a6 :: a7 :: a8 :: a9 :: b :: ls) (xI x :: st) μ = if isL a9 = true then none else bx d q is nx (a0 :: a1 :: a2 :: a3 :: a4 :: a5 :: a6 :: a7 :: a8 :: a9 :: xI x :: ls) st μ := by
  rw [bx]
  rcases a9 with y | y | y | y <;> rfl
theorem bx_astore_0 {b : XV} {x : Nat} : bx d q (.astore_n 0 :: is) nx (b :: ls) (xR x :: st) μ = bx d q is nx (xR x :: ls) st μ := by rw [bx]; rfl
theorem bx_astore_1 {a0 b : XV} {x : Nat} : bx d q (.astore_n 1 :: is) nx (a0 :: b :: ls) (xR x :: st) μ = if isL a0 = true then none else bx d q is nx (a0 :: xR x :: ls) st μ := by
  rw [bx]
  rcases a0 with y | y | y | y <;> rfl
theorem bx_astore_2 {a0 a1 b : XV} {x : Nat} : bx d q (.astore_n 2 :: is) nx (a0 :: a1 :: b :: ls) (xR x :: st) μ = if isL a1 = true then none else bx d q is nx (a0 :: a1 :: xR x :: ls) st μ := by
  rw [bx]
  rcases a1 with y | y | y | y <;> rfl
theorem bx_astore_3 {a0 a1 a2 b : XV} {x : Nat} : bx d q (.astore_n 3 :: is) nx (a0 :: a1 :: a2 :: b :: ls) (xR x :: st) μ = if isL a2 = true then none else bx d q is nx (a0 :: a1 :: a2 :: xR x :: ls) st μ := by
  rw [bx]
  rcases a2 with y | y | y | y <;> rfl
theorem bx_astore4 {a0 a1 a2 a3 b : XV} {x : Nat} : bx d q (.astore 4 :: is) nx (a0 :: a1 :: a2 :: a3 :: b :: ls) (xR x :: st) μ = if isL a3 = true then none else bx d q is nx (a0 :: a1 :: a2 :: a3 :: xR x :: ls) st μ := by
  rw [bx]
  rcases a3 with y | y | y | y <;> rfl
theorem bx_astore5 {a0 a1 a2 a3 a4 b : XV} {x : Nat} : bx d q (.astore 5 :: is) nx (a0 :: a1 :: a2 :: a3 :: a4 :: b :: ls) (xR x :: st) μ = if isL a4 = true then none else bx d q is nx (a0 :: a1 :: a2 :: a3 :: a4 :: xR x :: ls) st μ := by
  rw [bx]
  rcases a4 with y | y | y | y <;> rfl
theorem bx_astore6 {a0 a1 a2 a3 a4 a5 b : XV} {x : Nat} : bx d q (.astore 6 :: is) nx (a0 :: a1 :: a2 :: a3 :: a4 :: a5 :: b :: ls) (xR x :: st) μ = if isL a5 = true then none else bx d q is nx (a0 :: a1 :: a2 :: a3 :: a4 :: a5 :: xR x :: ls) st μ := by
  rw [bx]
  rcases a5 with y | y | y | y <;> rfl
theorem bx_astore7 {a0 a1 a2 a3 a4 a5 a6 b : XV} {x : Nat} : bx d q (.astore 7 :: is) nx (a0 :: a1 :: a2 :: a3 :: a4 :: a5 :: a6 :: b :: ls) (xR x :: st) μ = if isL a6 = true then none else bx d q is nx (a0 :: a1 :: a2 :: a3 :: a4 :: a5 :: a6 :: xR x :: ls) st μ := by
  rw [bx]
  rcases a6 with y | y | y | y <;> rfl
theorem bx_astore8 {a0 a1 a2 a3 a4 a5 a6 a7 b : XV} {x : Nat} : bx d q (.astore 8 :: is) nx (a0 :: a1 :: a2 :: a3 :: a4 :: a5 :: a6 :: a7 :: b :: ls) (xR x :: st) μ = if isL a7 = true then none else bx d q is nx (a0 :: a1 :: a2 :: a3 :: a4 :: a5 :: a6 :: a7 :: xR x :: ls) st μ := by
  rw [bx]
  rcases a7 with y | y | y | y <;> rfl
theorem bx_astore9 {a0 a1 a2 a3 a4 a5 a6 a7 a8 b : XV} {x : Nat} : bx d q (.astore 9 :: is) nx (a0 :: a1 :: a2 :: a3 :: a4 :: a5 :: a6 :: a7 :: a8 :: b :: ls) (xR x :: st) μ = if isL a8 = true then none else bx d q is nx (a0 :: a1 :: a2 :: a3 :: a4 :: a5 :: a6 :: a7 :: a8 :: xR x :: ls) st μ := by
  rw [bx]
  rcases a8 with y | y | y | y <;> rfl
theorem bx_astore10 {a0 a1 a2 a3 a4 a5 a6 a7 a8 a9 b : XV} {x : Nat} : bx d q (.astore 10 :: is) nx (a0 :: a1 :: a2 :: a3 :: a4 :: a5 :: a6 :: a7 :: a8 :: a9 :: b :: ls) (xR x :: st) μ = if isL a9 = true then none else bx d q is nx (a0 :: a1 :: a2 :: a3 :: a4 :: a5 :: a6 :: a7 :: a8 :: a9 :: xR x :: ls) st μ := by
  rw [bx]
  rcases a9 with y | y | y | y <;> rfl
theorem bx_lstore_1 {a0 b b2 : XV} {x : Int} : bx d q (.lstore_n 1 :: is) nx (a0 :: b :: b2 :: ls) (xL x :: st) μ = if isL a0 = true then none else bx d q is nx (a0 :: xL x :: xU :: ls) st μ := by
  rw [bx]
  rcases a0 with y | y | y | y <;> rfl
theorem bx_lstore_2 {a0 a1 b b2 : XV} {x : Int} : bx d q (.lstore_n 2 :: is) nx (a0 :: a1 :: b :: b2 :: ls) (xL x :: st) μ = if isL a1 = true then none else bx d q is nx (a0 :: a1 :: xL x :: xU :: ls) st μ := by
  rw [bx]
  rcases a1 with y | y | y | y <;> rfl
theorem bx_lstore_3 {a0 a1 a2 b b2 : XV} {x : Int} : bx d q (.lstore_n 3 :: is) nx (a0 :: a1 :: a2 :: b :: b2 :: ls) (xL x :: st) μ = if isL a2 = true then none else bx d q is nx (a0 :: a1 :: a2 :: xL x :: xU :: ls) st μ := by
  rw [bx]
  rcases a2 with y | y | y | y <;> rfl
theorem bx_lstore4 {a0 a1 a2 a3 b b2 : XV} {x : Int} : bx d q (.lstore 4 :: is) nx (a0 :: a1 :: a2 :: a3 :: b :: b2 :: ls) (xL x :: st) μ = if isL a3 = true then none else bx d q is nx (a0 :: a1 :: a2 :: a3 :: xL x :: xU :: ls) st μ := by
  rw [bx]
  rcases a3 with y | y | y | y <;> rfl
theorem bx_lstore5 {a0 a1 a2 a3 a4 b b2 : XV} {x : Int} : bx d q (.lstore 5 :: is) nx (a0 :: a1 :: a2 :: a3 :: a4 :: b :: b2 :: ls) (xL x :: st) μ = if isL a4 = true then none else bx d q is nx (a0 :: a1 :: a2 :: a3 :: a4 :: xL x :: xU :: ls) st μ := by
  rw [bx]
  rcases a4 with y | y | y | y <;> rfl
theorem bx_lstore6 {a0 a1 a2 a3 a4 a5 b b2 : XV} {x : Int} : bx d q (.lstore 6 :: is) nx (a0 :: a1 :: a2 :: a3 :: a4 :: a5 :: b :: b2 :: ls) (xL x :: st) μ = if isL a5 = true then none else bx d q is nx (a0 :: a1 :: a2 :: a3 :: a4 :: a5 :: xL x :: xU :: ls) st μ := by
  rw [bx]
  rcases a5 with y | y | y | y <;> rfl
theorem bx_lstore7 {a0 a1 a2 a3 a4 a5 a6 b b2 : XV} {x : Int} : bx d q (.lstore 7 :: is) nx (a0 :: a1 :: a2 :: a3 :: a4 :: a5 :: a6 :: b :: b2 :: ls) (xL x :: st) μ = if isL a6 = true then none else bx d q is nx (a0 :: a1 :: a2 :: a3 :: a4 :: a5 :: a6 :: xL x :: xU :: ls) st μ := by
  rw [bx]
  rcases a6 with y | y | y | y <;> rfl
theorem bx_lstore8 {a0 a1 a2 a3 a4 a5 a6 a7 b b2 : XV} {x : Int} : bx d q (.lstore 8 :: is) nx (a0 :: a1 :: a2 :: a3 :: a4 :: a5 :: a6 :: a7 :: b :: b2 :: ls) (xL x :: st) μ = if isL a7 = true then none else bx d q is nx (a0 :: a1 :: a2 :: a3 :: a4 :: a5 :: a6 :: a7 :: xL x :: xU :: ls) st μ := by
  rw [bx]
  rcases a7 with y | y | y | y <;> rfl
theorem bx_lstore9 {a0 a1 a2 a3 a4 a5 a6 a7 a8 b b2 : XV} {x : Int} : bx d q (.lstore 9 :: is) nx (a0 :: a1 :: a2 :: a3 :: a4 :: a5 :: a6 :: a7 :: a8 :: b :: b2 :: ls) (xL x :: st) μ = if isL a8 = true then none else bx d q is nx (a0 :: a1 :: a2 :: a3 :: a4 :: a5 :: a6 :: a7 :: a8 :: xL x :: xU :: ls) st μ := by
  rw [bx]
  rcases a8 with y | y | y | y <;> rfl
theorem bx_iinc1 {a0 : XV} {x n : Int} (h : i32 (x + n)) : bx d q (.iinc 1 n :: is) nx (a0 :: xI x :: ls) st μ = if isL a0 = true then none else bx d q is nx (a0 :: xI (x + n) :: ls) st μ := by
  rw [bx]
  simp only [xs, ldI, List.getElem?_cons_succ, List.getElem?_cons_zero, if_pos h]
  rcases a0 with y | y | y | y <;> rfl
theorem bx_iinc2 {a0 a1 : XV} {x n : Int} (h : i32 (x + n)) : bx d q (.iinc 2 n :: is) nx (a0 :: a1 :: xI x :: ls) st μ = if isL a1 = true then none else bx d q is nx (a0 :: a1 :: xI (x + n) :: ls) st μ := by
  rw [bx]
  simp only [xs, ldI, List.getElem?_cons_succ, List.getElem?_cons_zero, if_pos h]
  rcases a1 with y | y | y | y <;> rfl
theorem bx_iinc3 {a0 a1 a2 : XV} {x n : Int} (h : i32 (x + n)) : bx d q (.iinc 3 n :: is) nx (a0 :: a1 :: a2 :: xI x :: ls) st μ = if isL a2 = true then none else bx d q is nx (a0 :: a1 :: a2 :: xI (x + n) :: ls) st μ := by
  rw [bx]
  simp only [xs, ldI, List.getElem?_cons_succ, List.getElem?_cons_zero, if_pos h]
  rcases a2 with y | y | y | y <;> rfl
theorem bx_iinc4 {a0 a1 a2 a3 : XV} {x n : Int} (h : i32 (x + n)) : bx d q (.iinc 4 n :: is) nx (a0 :: a1 :: a2 :: a3 :: xI x :: ls) st μ = if isL a3 = true then none else bx d q is nx (a0 :: a1 :: a2 :: a3 :: xI (x + n) :: ls) st μ := by
  rw [bx]
  simp only [xs, ldI, List.getElem?_cons_succ, List.getElem?_cons_zero, if_pos h]
  rcases a3 with y | y | y | y <;> rfl
theorem bx_iinc5 {a0 a1 a2 a3 a4 : XV} {x n : Int} (h : i32 (x + n)) : bx d q (.iinc 5 n :: is) nx (a0 :: a1 :: a2 :: a3 :: a4 :: xI x :: ls) st μ = if isL a4 = true then none else bx d q is nx (a0 :: a1 :: a2 :: a3 :: a4 :: xI (x + n) :: ls) st μ := by
  rw [bx]
  simp only [xs, ldI, List.getElem?_cons_succ, List.getElem?_cons_zero, if_pos h]
  rcases a4 with y | y | y | y <;> rfl
theorem bx_iinc6 {a0 a1 a2 a3 a4 a5 : XV} {x n : Int} (h : i32 (x + n)) : bx d q (.iinc 6 n :: is) nx (a0 :: a1 :: a2 :: a3 :: a4 :: a5 :: xI x :: ls) st μ = if isL a5 = true then none else bx d q is nx (a0 :: a1 :: a2 :: a3 :: a4 :: a5 :: xI (x + n) :: ls) st μ := by
  rw [bx]
  simp only [xs, ldI, List.getElem?_cons_succ, List.getElem?_cons_zero, if_pos h]
  rcases a5 with y | y | y | y <;> rfl
theorem bx_iinc7 {a0 a1 a2 a3 a4 a5 a6 : XV} {x n : Int} (h : i32 (x + n)) : bx d q (.iinc 7 n :: is) nx (a0 :: a1 :: a2 :: a3 :: a4 :: a5 :: a6 :: xI x :: ls) st μ = if isL a6 = true then none else bx d q is nx (a0 :: a1 :: a2 :: a3 :: a4 :: a5 :: a6 :: xI (x + n) :: ls) st μ := by
  rw [bx]
  simp only [xs, ldI, List.getElem?_cons_succ, List.getElem?_cons_zero, if_pos h]
  rcases a6 with y | y | y | y <;> rfl
theorem bx_iinc8 {a0 a1 a2 a3 a4 a5 a6 a7 : XV} {x n : Int} (h : i32 (x + n)) : bx d q (.iinc 8 n :: is) nx (a0 :: a1 :: a2 :: a3 :: a4 :: a5 :: a6 :: a7 :: xI x :: ls) st μ = if isL a7 = true then none else bx d q is nx (a0 :: a1 :: a2 :: a3 :: a4 :: a5 :: a6 :: a7 :: xI (x + n) :: ls) st μ := by
  rw [bx]
  simp only [xs, ldI, List.getElem?_cons_succ, List.getElem?_cons_zero, if_pos h]
  rcases a7 with y | y | y | y <;> rfl
theorem bx_iinc9 {a0 a1 a2 a3 a4 a5 a6 a7 a8 : XV} {x n : Int} (h : i32 (x + n)) : bx d q (.iinc 9 n :: is) nx (a0 :: a1 :: a2 :: a3 :: a4 :: a5 :: a6 :: a7 :: a8 :: xI x :: ls) st μ = if isL a8 = true then none else bx d q is nx (a0 :: a1 :: a2 :: a3 :: a4 :: a5 :: a6 :: a7 :: a8 :: xI (x + n) :: ls) st μ := by
  rw [bx]
  simp only [xs, ldI, List.getElem?_cons_succ, List.getElem?_cons_zero, if_pos h]
  rcases a8 with y | y | y | y <;> rfl
theorem bx_iinc10 {a0 a1 a2 a3 a4 a5 a6 a7 a8 a9 : XV} {x n : Int} (h : i32 (x + n)) : bx d q (.iinc 10 n :: is) nx (a0 :: a1 :: a2 :: a3 :: a4 :: a5 :: a6 :: a7 :: a8 :: a9 :: xI x :: ls) st μ = if isL a9 = true then none else bx d q is nx (a0 :: a1 :: a2 :: a3 :: a4 :: a5 :: a6 :: a7 :: a8 :: a9 :: xI (x + n) :: ls) st μ := by
  rw [bx]
  simp only [xs, ldI, List.getElem?_cons_succ, List.getElem?_cons_zero, if_pos h]
  rcases a9 with y | y | y | y <;> rfl
theorem bx_iadd {x y : Int} (h : i32 (x + y)) : bx d q (.iadd :: is) nx ls (xI y :: xI x :: st) μ = bx d q is nx ls (xI (x + y) :: st) μ := by rw [bx]; simp only [xs, bI, bL, tI, tL, tA, if_pos h]
theorem bx_isub {x y : Int} (h : i32 (x - y)) : bx d q (.isub :: is) nx ls (xI y :: xI x :: st) μ = bx d q is nx ls (xI (x - y) :: st) μ := by rw [bx]; simp only [xs, bI, bL, tI, tL, tA, if_pos h]
theorem bx_imul {x y : Int} (h : i32 (x * y)) : bx d q (.imul :: is) nx ls (xI y :: xI x :: st) μ = bx d q is nx ls (xI (x * y) :: st) μ := by rw [bx]; simp only [xs, bI, bL, tI, tL, tA, if_pos h]
theorem bx_idiv {x y : Int} (h : 0 < y) : bx d q (.idiv :: is) nx ls (xI y :: xI x :: st) μ = bx d q is nx ls (xI (x.tdiv y) :: st) μ := by rw [bx]; simp only [xs, bI, bL, tI, tL, tA, if_pos h]
theorem bx_irem {x y : Int} (h : 0 < y) : bx d q (.irem :: is) nx ls (xI y :: xI x :: st) μ = bx d q is nx ls (xI (x.tmod y) :: st) μ := by rw [bx]; simp only [xs, bI, bL, tI, tL, tA, if_pos h]
theorem bx_ineg {x : Int} (h : i32 (-x)) : bx d q (.ineg :: is) nx ls (xI x :: st) μ = bx d q is nx ls (xI (-x) :: st) μ := by rw [bx]; simp only [xs, bI, bL, tI, tL, tA, if_pos h]
theorem bx_iand {x y : Int} : bx d q (.iand :: is) nx ls (xI y :: xI x :: st) μ = bx d q is nx ls (xI (b32 (fun a b => a &&& b) x y) :: st) μ := by rw [bx]; rfl
theorem bx_ior {x y : Int} : bx d q (.ior :: is) nx ls (xI y :: xI x :: st) μ = bx d q is nx ls (xI (b32 (fun a b => a ||| b) x y) :: st) μ := by rw [bx]; rfl
theorem bx_ixor {x y : Int} : bx d q (.ixor :: is) nx ls (xI y :: xI x :: st) μ = bx d q is nx ls (xI (b32 (fun a b => a ^^^ b) x y) :: st) μ := by rw [bx]; rfl
theorem bx_ishl {x y : Int} : bx d q (.ishl :: is) nx ls (xI y :: xI x :: st) μ = bx d q is nx ls (xI (b32 (fun a b => a <<< (b &&& 31)) x y) :: st) μ := by rw [bx]; rfl
theorem bx_ishr {x y : Int} : bx d q (.ishr :: is) nx ls (xI y :: xI x :: st) μ = bx d q is nx ls (xI (b32 (fun a b => a >>> (b &&& 31)) x y) :: st) μ := by rw [bx]; rfl
theorem bx_i2l {x : Int} : bx d q (.i2l :: is) nx ls (xI x :: st) μ = bx d q is nx ls (xL x :: st) μ := by rw [bx]; rfl
theorem bx_l2i {x : Int} : bx d q (.l2i :: is) nx ls (xL x :: st) μ = bx d q is nx ls (xI (Int64.ofInt x).toInt32.toInt :: st) μ := by rw [bx]; rfl
theorem bx_lmul {x y : Int} (h : i64 (x * y)) : bx d q (.lmul :: is) nx ls (xL y :: xL x :: st) μ = bx d q is nx ls (xL (x * y) :: st) μ := by rw [bx]; simp only [xs, bI, bL, tI, tL, tA, if_pos h]
theorem bx_ldiv {x y : Int} (h : 0 < y) : bx d q (.ldiv :: is) nx ls (xL y :: xL x :: st) μ = bx d q is nx ls (xL (x.tdiv y) :: st) μ := by rw [bx]; simp only [xs, bI, bL, tI, tL, tA, if_pos h]
theorem bx_lrem {x y : Int} (h : 0 < y) : bx d q (.lrem :: is) nx ls (xL y :: xL x :: st) μ = bx d q is nx ls (xL (x.tmod y) :: st) μ := by rw [bx]; simp only [xs, bI, bL, tI, tL, tA, if_pos h]
theorem bx_land {x y : Int} : bx d q (.land :: is) nx ls (xL y :: xL x :: st) μ = bx d q is nx ls (xL (b64 (fun a b => a &&& b) x y) :: st) μ := by rw [bx]; rfl
theorem bx_lor {x y : Int} : bx d q (.lor :: is) nx ls (xL y :: xL x :: st) μ = bx d q is nx ls (xL (b64 (fun a b => a ||| b) x y) :: st) μ := by rw [bx]; rfl
theorem bx_lshl {x y : Int} : bx d q (.lshl :: is) nx ls (xI y :: xL x :: st) μ = bx d q is nx ls (xL (s64 (fun a b => a <<< (b.toInt64 &&& 63)) x y) :: st) μ := by rw [bx]; rfl
theorem bx_lshr {x y : Int} : bx d q (.lshr :: is) nx ls (xI y :: xL x :: st) μ = bx d q is nx ls (xL (s64 (fun a b => a >>> (b.toInt64 &&& 63)) x y) :: st) μ := by rw [bx]; rfl
theorem bx_lushr {x y : Int} : bx d q (.lushr :: is) nx ls (xI y :: xL x :: st) μ = bx d q is nx ls (xL (s64 (fun a b => (a.toUInt64 >>> (b.toInt64.toUInt64 &&& Int64.toUInt64 63)).toInt64) x y) :: st) μ := by rw [bx]; rfl
theorem bx_lcmp {x y : Int} : bx d q (.lcmp :: is) nx ls (xL y :: xL x :: st) μ = bx d q is nx ls (xI (if x < y then -1 else if x = y then 0 else 1) :: st) μ := by rw [bx]; rfl
theorem bx_dupI {x : Int} : bx d q (.dup :: is) nx ls (xI x :: st) μ = bx d q is nx ls (xI x :: xI x :: st) μ := by rw [bx]; rfl
theorem bx_dupR {x : Nat} : bx d q (.dup :: is) nx ls (xR x :: st) μ = bx d q is nx ls (xR x :: xR x :: st) μ := by rw [bx]; rfl
theorem bx_dup_x1 {x : Int} {a : Nat} : bx d q (.dup_x1 :: is) nx ls (xI x :: xR a :: st) μ = bx d q is nx ls (xI x :: xR a :: xI x :: st) μ := by rw [bx]; rfl
theorem bx_dup2 {x : Int} {a : Nat} : bx d q (.dup2 :: is) nx ls (xI x :: xR a :: st) μ = bx d q is nx ls (xI x :: xR a :: xI x :: xR a :: st) μ := by rw [bx]; rfl
theorem bx_if_eq {x t : Int} : bx d q (.ifCond .eq t :: is) nx ls (xI x :: st) μ = if x = 0 then run d q t.toNat ls st μ else bx d q is nx ls st μ := by
  rw [bx]
  simp only [xs, bI, tI, br]
  by_cases h : x = 0
  · simp only [if_pos h]
  · simp only [if_neg h]
theorem bx_ic_eq {x y t : Int} : bx d q (.if_icmp .eq t :: is) nx ls (xI y :: xI x :: st) μ = if x = y then run d q t.toNat ls st μ else bx d q is nx ls st μ := by
  rw [bx]
  simp only [xs, bI, tI, br]
  by_cases h : x = y
  · simp only [if_pos h]
  · simp only [if_neg h]
theorem bx_if_ne {x t : Int} : bx d q (.ifCond .ne t :: is) nx ls (xI x :: st) μ = if x = 0 then bx d q is nx ls st μ else run d q t.toNat ls st μ := by
  rw [bx]
  simp only [xs, bI, tI, br]
  by_cases h : x = 0
  · simp only [if_pos h]
  · simp only [if_neg h]
theorem bx_ic_ne {x y t : Int} : bx d q (.if_icmp .ne t :: is) nx ls (xI y :: xI x :: st) μ = if x = y then bx d q is nx ls st μ else run d q t.toNat ls st μ := by
  rw [bx]
  simp only [xs, bI, tI, br]
  by_cases h : x = y
  · simp only [if_pos h]
  · simp only [if_neg h]
theorem bx_if_lt {x t : Int} : bx d q (.ifCond .lt t :: is) nx ls (xI x :: st) μ = if x < 0 then run d q t.toNat ls st μ else bx d q is nx ls st μ := by
  rw [bx]
  simp only [xs, bI, tI, br]
  by_cases h : x < 0
  · simp only [if_pos h]
  · simp only [if_neg h]
theorem bx_ic_lt {x y t : Int} : bx d q (.if_icmp .lt t :: is) nx ls (xI y :: xI x :: st) μ = if x < y then run d q t.toNat ls st μ else bx d q is nx ls st μ := by
  rw [bx]
  simp only [xs, bI, tI, br]
  by_cases h : x < y
  · simp only [if_pos h]
  · simp only [if_neg h]
theorem bx_if_ge {x t : Int} : bx d q (.ifCond .ge t :: is) nx ls (xI x :: st) μ = if 0 ≤ x then run d q t.toNat ls st μ else bx d q is nx ls st μ := by
  rw [bx]
  simp only [xs, bI, tI, br]
  by_cases h : 0 ≤ x
  · simp only [if_pos h]
  · simp only [if_neg h]
theorem bx_ic_ge {x y t : Int} : bx d q (.if_icmp .ge t :: is) nx ls (xI y :: xI x :: st) μ = if y ≤ x then run d q t.toNat ls st μ else bx d q is nx ls st μ := by
  rw [bx]
  simp only [xs, bI, tI, br]
  by_cases h : y ≤ x
  · simp only [if_pos h]
  · simp only [if_neg h]
theorem bx_if_gt {x t : Int} : bx d q (.ifCond .gt t :: is) nx ls (xI x :: st) μ = if 0 < x then run d q t.toNat ls st μ else bx d q is nx ls st μ := by
  rw [bx]
  simp only [xs, bI, tI, br]
  by_cases h : 0 < x
  · simp only [if_pos h]
  · simp only [if_neg h]
theorem bx_ic_gt {x y t : Int} : bx d q (.if_icmp .gt t :: is) nx ls (xI y :: xI x :: st) μ = if y < x then run d q t.toNat ls st μ else bx d q is nx ls st μ := by
  rw [bx]
  simp only [xs, bI, tI, br]
  by_cases h : y < x
  · simp only [if_pos h]
  · simp only [if_neg h]
theorem bx_if_le {x t : Int} : bx d q (.ifCond .le t :: is) nx ls (xI x :: st) μ = if x ≤ 0 then run d q t.toNat ls st μ else bx d q is nx ls st μ := by
  rw [bx]
  simp only [xs, bI, tI, br]
  by_cases h : x ≤ 0
  · simp only [if_pos h]
  · simp only [if_neg h]
theorem bx_ic_le {x y t : Int} : bx d q (.if_icmp .le t :: is) nx ls (xI y :: xI x :: st) μ = if x ≤ y then run d q t.toNat ls st μ else bx d q is nx ls st μ := by
  rw [bx]
  simp only [xs, bI, tI, br]
  by_cases h : x ≤ y
  · simp only [if_pos h]
  · simp only [if_neg h]
theorem bx_goto {t : Int} : bx d q (.goto t :: is) nx ls st μ = run d q t.toNat ls st μ := by rw [bx]; rfl
theorem bx_iret {x : Int} : bx d q (.ireturn :: is) nx ls [xI x] μ = some (some (xI x), μ) := by rw [bx]; rfl
theorem bx_zret {x : Int} (h : x = 0 ∨ x = 1) : bx d q (.freturn :: is) nx ls [xI x] μ = some (some (xI x), μ) := by rw [bx]; simp only [xs, if_pos h]
theorem bx_aret {a : Nat} : bx d q (.areturn :: is) nx ls [xR a] μ = some (some (xR a), μ) := by rw [bx]; rfl
theorem bx_vret : bx d q (.return_ :: is) nx ls [] μ = some (none, μ) := by rw [bx]; rfl
theorem bx_alen {a k n : Nat} (hs : G.1 a = (k, n)) (h : (k = 1 ∨ k = 3 ∨ k = 9) ∧ n ≤ 100000) : bx d q (.arraylength :: is) nx ls (xR a :: st) (V, G) = bx d q is nx ls (xI (n : Nat) :: st) (V, G) := by
  rw [bx]
  simp only [xs, tA, hs, if_pos h]
theorem bx_iald {a n : Nat} {j : Int} (hs : G.1 a = (1, n)) (h0 : 0 ≤ j) (h : j < n) : bx d q (.iaload :: is) nx ls (xI j :: xR a :: st) (V, G) = bx d q is nx ls (xI (V a j) :: st) (V, G) := by
  rw [bx]
  simp only [xs, tI, tA, hs]
  rw [if_pos ⟨Or.inl trivial, h0, h⟩]
theorem bx_sald {a n : Nat} {j : Int} (hs : G.1 a = (9, n)) (h0 : 0 ≤ j) (h : j < n) : bx d q (.iaload :: is) nx ls (xI j :: xR a :: st) (V, G) = bx d q is nx ls (xI (V a j) :: st) (V, G) := by
  rw [bx]
  simp only [xs, tI, tA, hs]
  rw [if_pos ⟨Or.inr trivial, h0, h⟩]
theorem bx_zald {a n : Nat} {j : Int} (hs : G.1 a = (2, n)) (h0 : 0 ≤ j) (h : j < n) : bx d q (.baload :: is) nx ls (xI j :: xR a :: st) (V, G) = bx d q is nx ls (xI (V a j) :: st) (V, G) := by
  rw [bx]
  simp only [xs, tI, tA, hs]
  rw [if_pos ⟨trivial, h0, h⟩]
theorem bx_lald {a n : Nat} {j : Int} (hs : G.1 a = (3, n)) (h0 : 0 ≤ j) (h : j < n) : bx d q (.laload :: is) nx ls (xI j :: xR a :: st) (V, G) = bx d q is nx ls (xL (V a j) :: st) (V, G) := by
  rw [bx]
  simp only [xs, tI, tA, hs]
  rw [if_pos ⟨trivial, h0, h⟩]
theorem bx_iast {a n : Nat} {j x : Int} (hs : G.1 a = (1, n)) (h0 : 0 ≤ j) (h : j < n) : bx d q (.iastore :: is) nx ls (xI x :: xI j :: xR a :: st) (V, G) = bx d q is nx ls st (vA V a (vU (V a) j x), G) := by
  rw [bx]
  simp only [xs, tI, tL, tA, hs]
  rw [if_pos ⟨trivial, h0, h⟩]
theorem bx_zast {a n : Nat} {j x : Int} (hs : G.1 a = (2, n)) (hb : x = 0 ∨ x = 1) (h0 : 0 ≤ j) (h : j < n) : bx d q (.bastore :: is) nx ls (xI x :: xI j :: xR a :: st) (V, G) = bx d q is nx ls st (vA V a (vU (V a) j x), G) := by
  rw [bx]
  simp only [xs, tI, tL, tA, hs]
  rw [if_pos ⟨⟨trivial, hb⟩, h0, h⟩]
theorem bx_last {a n : Nat} {j x : Int} (hs : G.1 a = (3, n)) (h0 : 0 ≤ j) (h : j < n) : bx d q (.lastore :: is) nx ls (xL x :: xI j :: xR a :: st) (V, G) = bx d q is nx ls st (vA V a (vU (V a) j x), G) := by
  rw [bx]
  simp only [xs, tI, tL, tA, hs]
  rw [if_pos ⟨trivial, h0, h⟩]
theorem bx_aald {a b n k : Nat} {j : Int} (hs : G.1 a = (k, n)) (hk : k = 4 ∨ k = 5) (h0 : 0 ≤ j) (h : j < n) (hb : G.2.1 a j = some b) : bx d q (.aaload :: is) nx ls (xI j :: xR a :: st) (V, G) = bx d q is nx ls (xR b :: st) (V, G) := by
  rw [bx]
  simp only [xs, tI, tA, hs, hb]
  rw [if_pos ⟨hk, h0, h⟩]
theorem bx_copy {a b na nb : Nat} {n dp sp : Int} (ha : G.1 a = (1, na)) (hb : G.1 b = (1, nb)) (hne : a ≠ b) (h1 : 0 ≤ n ∧ 0 ≤ sp ∧ 0 ≤ dp) (h2 : sp + n ≤ nb) (h3 : dp + n ≤ na) (h4 : st.length ≤ 4) : bx d q (.monitorenter :: is) nx ls (xI n :: xI dp :: xR a :: xI sp :: xR b :: st) (V, G) = bx d q is nx ls st (vA V a (fun j => if dp ≤ j ∧ j < dp + n then V b (sp + (j - dp)) else V a j), G) := by
  rw [bx]
  simp only [xs, tI, tA, ha, hb]
  rw [if_pos ⟨⟨trivial, trivial, hne⟩, h1, h2, h3, h4⟩]
theorem bx_obj {a : Nat} (h : st.length ≤ 4) : bx d q (.monitorexit :: is) nx ls (xR a :: st) μ = bx d q is nx ls st μ := by rw [bx]; simp only [xs, tA, if_pos h]
theorem bx_look {dd : Int} {ps : Array (Int × Int)} {x : Int} : bx d q (.lookupswitch dd ps :: is) nx ls (xI x :: st) μ = run d q (lkp ps.toList dd x).toNat ls st μ := by rw [bx]; rfl
theorem bx_tabO {dd lo hi : Int} {offs : Array Int} {x : Int} (h : x < lo ∨ hi < x) : bx d q (.tableswitch dd lo hi offs :: is) nx ls (xI x :: st) μ = run d q dd.toNat ls st μ := by rw [bx]; simp only [xs, tI, if_pos h]
theorem bx_tabI {dd lo hi : Int} {offs : Array Int} {x t : Int} (h : ¬ (x < lo ∨ hi < x)) (ht : offs[(x - lo).toNat]? = some t) : bx d q (.tableswitch dd lo hi offs :: is) nx ls (xI x :: st) μ = run d q t.toNat ls st μ := by rw [bx]; simp only [xs, tI, if_neg h, ht]
/-- what a call is made of -/
theorem bx_callv {w : Nat} {as rest : List XV} {a : Nat} {as' : List XV} (e : as = xR a :: as') (hst : st = as.reverse ++ rest) (hn : nP w = as.length) (hk : (μ.2.1 a).1 = 10 + w / 100) (hr : rest.length ≤ 4) (hl : (as.flatMap xw).length ≤ mL w) : bx (d + 1) q (.invokevirtual w :: is) nx ls st μ = (run d w 0 (en w as) [] μ).bind fun o => bx (d + 1) q is nx ls (o.1.toList ++ rest) o.2 := by
  subst hst
  have h1 : (as.reverse ++ rest).take (nP w) = as.reverse := by rw [hn, ← List.length_reverse, List.take_left']; rfl
  have h2 : (as.reverse ++ rest).drop (nP w) = rest := by rw [hn, ← List.length_reverse, List.drop_left']; rfl
  rw [bx]
  simp only [xs, h1, h2, List.reverse_reverse]
  rw [if_pos ⟨by rw [hn]; simp, hr, hl⟩]
  subst e
  simp only [if_pos hk]
  cases run d w 0 (en w (xR a :: as')) [] μ <;> rfl
theorem bx_calls {w : Nat} {as rest : List XV} (hst : st = as.reverse ++ rest) (hn : nP w = as.length) (hr : rest.length ≤ 4) (hl : (as.flatMap xw).length ≤ mL w) : bx (d + 1) q (.invokestatic w :: is) nx ls st μ = (run d w 0 (en w as) [] μ).bind fun o => bx (d + 1) q is nx ls (o.1.toList ++ rest) o.2 := by
  subst hst
  have h1 : (as.reverse ++ rest).take (nP w) = as.reverse := by rw [hn, ← List.length_reverse, List.take_left']; rfl
  have h2 : (as.reverse ++ rest).drop (nP w) = rest := by rw [hn, ← List.length_reverse, List.drop_left']; rfl
  rw [bx]
  simp only [xs, h1, h2, List.reverse_reverse]
  rw [if_pos ⟨by rw [hn]; simp, hr, hl⟩]
  simp only [rC]
  cases run d w 0 (en w as) [] μ <;> rfl
theorem bx_calli {w : Nat} {as rest : List XV} {a : Nat} {as' : List XV} (e : as = xR a :: as') (hst : st = as.reverse ++ rest) (hn : nP w = as.length) (hr : rest.length ≤ 4) (hl : (as.flatMap xw).length ≤ mL w) : bx (d + 1) q (.invokespecial w :: is) nx ls st μ = (run d w 0 (en w as) [] μ).bind fun o => bx (d + 1) q is nx ls (o.1.toList ++ rest) o.2 := by
  subst hst
  have h1 : (as.reverse ++ rest).take (nP w) = as.reverse := by rw [hn, ← List.length_reverse, List.take_left']; rfl
  have h2 : (as.reverse ++ rest).drop (nP w) = rest := by rw [hn, ← List.length_reverse, List.drop_left']; rfl
  rw [bx]
  simp only [xs, h1, h2, List.reverse_reverse]
  rw [if_pos ⟨by rw [hn]; simp, hr, hl⟩]
  subst e
  simp only [rC]
  cases run d w 0 (en w (xR a :: as')) [] μ <;> rfl
theorem bind_some {o : Option XV × XM} {f : Option XV × XM → XO} : (some o).bind f = f o := rfl
theorem tl_some {v : XV} : (some v).toList ++ st = v :: st := rfl
theorem tl_none : (none : Option XV).toList ++ st = st := rfl
end BX
end
section
/-! THE CELLS of both objects, as their constructors leave them; fields, arrays and calls in a block. Written by our program genst.py -/
def shL : List (Nat × Nat) := [(9, 1), (20, 0), (10, 0), (1, 96), (1, 96), (13, 0), (1, 36), (1, 36), (1, 36), (1, 36), (1, 36), (1, 6), (18, 0), (1, 15), (1, 15), (4, 6), (1, 6), (1, 6), (1, 6), (1, 6), (1, 6), (1, 6), (4, 6), (1, 6), (1, 6), (1, 6), (1, 6), (1, 6), (1, 6), (16, 0), (1, 10), (1, 10), (11, 0), (3, 1024), (1, 10), (15, 0), (1, 100), (5, 51), (1, 51), (5, 6), (2, 6), (16, 0), (1, 10), (1, 10), (16, 0), (1, 10), (1, 10), (16, 0), (1, 10), (1, 10), (16, 0), (1, 10), (1, 10), (16, 0), (1, 10), (1, 10), (16, 0), (1, 10), (1, 10), (16, 0), (1, 10), (1, 10), (16, 0), (1, 10), (1, 10), (16, 0), (1, 10), (1, 10), (16, 0), (1, 10), (1, 10), (16, 0), (1, 10), (1, 10), (16, 0), (1, 10), (1, 10), (16, 0), (1, 10), (1, 10), (16, 0), (1, 10), (1, 10), (16, 0), (1, 10), (1, 10), (16, 0), (1, 10), (1, 10), (16, 0), (1, 10), (1, 10), (16, 0), (1, 10), (1, 10), (16, 0), (1, 10), (1, 10), (16, 0), (1, 10), (1, 10), (16, 0), (1, 10), (1, 10), (16, 0), (1, 10), (1, 10), (16, 0), (1, 10), (1, 10), (16, 0), (1, 10), (1, 10), (16, 0), (1, 10), (1, 10), (16, 0), (1, 10), (1, 10), (16, 0), (1, 10), (1, 10), (16, 0), (1, 10), (1, 10), (16, 0), (1, 10), (1, 10), (16, 0), (1, 10), (1, 10), (16, 0), (1, 10), (1, 10), (16, 0), (1, 10), (1, 10), (16, 0), (1, 10), (1, 10), (16, 0), (1, 10), (1, 10), (16, 0), (1, 10), (1, 10), (16, 0), (1, 10), (1, 10), (16, 0), (1, 10), (1, 10), (16, 0), (1, 10), (1, 10), (16, 0), (1, 10), (1, 10), (16, 0), (1, 10), (1, 10), (16, 0), (1, 10), (1, 10), (16, 0), (1, 10), (1, 10), (16, 0), (1, 10), (1, 10), (16, 0), (1, 10), (1, 10), (16, 0), (1, 10), (1, 10), (16, 0), (1, 10), (1, 10), (16, 0), (1, 10), (1, 10), (16, 0), (1, 10), (1, 10), (16, 0), (1, 10), (1, 10), (16, 0), (1, 10), (1, 10), (16, 0), (1, 10), (1, 10), (16, 0), (1, 10), (1, 10), (16, 0), (1, 10), (1, 10), (16, 0), (1, 10), (1, 10), (16, 0), (1, 10), (1, 10), (16, 0), (1, 10), (1, 10), (16, 0), (1, 10), (1, 10), (12, 0), (1, 60), (1, 60), (1, 60), (1, 36), (17, 0), (4, 40), (1, 6), (1, 6), (1, 6), (1, 6), (1, 6), (1, 6), (1, 6), (1, 6), (1, 6), (1, 6), (1, 6), (1, 6), (1, 6), (1, 6), (1, 6), (1, 6), (1, 6), (1, 6), (1, 6), (1, 6), (1, 6), (1, 6), (1, 6), (1, 6), (1, 6), (1, 6), (1, 6), (1, 6), (1, 6), (1, 6), (1, 6), (1, 6), (1, 6), (1, 6), (1, 6), (1, 6), (1, 6), (1, 6), (1, 6), (1, 6), (4, 40), (1, 6), (1, 6), (1, 6), (1, 6), (1, 6), (1, 6), (1, 6), (1, 6), (1, 6), (1, 6), (1, 6), (1, 6), (1, 6), (1, 6), (1, 6), (1, 6), (1, 6), (1, 6), (1, 6), (1, 6), (1, 6), (1, 6), (1, 6), (1, 6), (1, 6), (1, 6), (1, 6), (1, 6), (1, 6), (1, 6), (1, 6), (1, 6), (1, 6), (1, 6), (1, 6), (1, 6), (1, 6), (1, 6), (1, 6), (1, 6), (4, 40), (1, 36), (1, 36), (1, 36), (1, 36), (1, 36), (1, 36), (1, 36), (1, 36), (1, 36), (1, 36), (1, 36), (1, 36), (1, 36), (1, 36), (1, 36), (1, 36), (1, 36), (1, 36), (1, 36), (1, 36), (1, 36), (1, 36), (1, 36), (1, 36), (1, 36), (1, 36), (1, 36), (1, 36), (1, 36), (1, 36), (1, 36), (1, 36), (1, 36), (1, 36), (1, 36), (1, 36), (1, 36), (1, 36), (1, 36), (1, 36), (1, 36), (1, 36), (1, 6), (14, 0), (1, 145), (1, 145), (2, 145), (1, 36), (1, 36), (4, 13), (1, 6), (1, 6), (1, 6), (1, 6), (1, 6), (1, 6), (1, 6), (1, 6), (1, 6), (1, 6), (1, 6), (1, 6), (1, 6), (1, 6), (4, 6), (1, 97), (1, 97), (1, 97), (1, 97), (1, 97), (1, 97), (1, 6), (19, 0), (1, 36), (2, 6), (21, 0), (1, 96), (1, 96), (1, 72), (1, 72), (1, 72), (1, 72), (1, 72), (1, 72), (1, 6), (1, 36), (1, 36), (1, 15), (1, 15), (1, 6), (1, 11), (1, 11), (2, 13312), (1, 100), (1, 1300), (1, 100), (1, 100), (1, 66), (1, 6), (2, 6), (1, 240), (1, 240), (1, 2880), (1, 60), (1, 60), (1, 60), (1, 72), (1, 289), (2, 289), (1, 97)]
def okI (n a : Nat) : Bool := if a < 16 then decide (1 ≤ a) else if a < 22 then decide (a < 16 + n) else if a < 23 then true else if a < 29 then decide (a < 23 + n) else decide (a < 411)
def shF (n a : Nat) : Nat × Nat := if a < 15 then shL.getD a (0, 0) else if a < 16 then (4, n) else if a < 22 then (1, n) else if a < 23 then (4, n) else if a < 29 then (1, n) else shL.getD a (0, 0)
def rfL : List (List (Option Nat)) := [[], [some 2, some 5, some 12, some 29, some 32, some 35, some 212, some 217, some 344, some 373], [some 3, some 4], [], [], [none, some 2, some 6, some 7, some 8, some 9, none, some 10, some 11], [], [], [], [], [], [], [none, some 2, some 15, some 22, some 13, some 14, none, none], [], [], [], [], [], [], [], [], [], [], [], [], [], [], [], [], [some 30, some 31, none], [], [], [some 5, some 29, some 33, some 34, none, none], [], [], [none, none, some 36, some 37, some 38, some 39, some 40, none, none, none, none], [], [], [], [], [], [some 42, some 43, none], [], [], [some 45, some 46, none], [], [], [some 48, some 49, none], [], [], [some 51, some 52, none], [], [], [some 54, some 55, none], [], [], [some 57, some 58, none], [], [], [some 60, some 61, none], [], [], [some 63, some 64, none], [], [], [some 66, some 67, none], [], [], [some 69, some 70, none], [], [], [some 72, some 73, none], [], [], [some 75, some 76, none], [], [], [some 78, some 79, none], [], [], [some 81, some 82, none], [], [], [some 84, some 85, none], [], [], [some 87, some 88, none], [], [], [some 90, some 91, none], [], [], [some 93, some 94, none], [], [], [some 96, some 97, none], [], [], [some 99, some 100, none], [], [], [some 102, some 103, none], [], [], [some 105, some 106, none], [], [], [some 108, some 109, none], [], [], [some 111, some 112, none], [], [], [some 114, some 115, none], [], [], [some 117, some 118, none], [], [], [some 120, some 121, none], [], [], [some 123, some 124, none], [], [], [some 126, some 127, none], [], [], [some 129, some 130, none], [], [], [some 132, some 133, none], [], [], [some 135, some 136, none], [], [], [some 138, some 139, none], [], [], [some 141, some 142, none], [], [], [some 144, some 145, none], [], [], [some 147, some 148, none], [], [], [some 150, some 151, none], [], [], [some 153, some 154, none], [], [], [some 156, some 157, none], [], [], [some 159, some 160, none], [], [], [some 162, some 163, none], [], [], [some 165, some 166, none], [], [], [some 168, some 169, none], [], [], [some 171, some 172, none], [], [], [some 174, some 175, none], [], [], [some 177, some 178, none], [], [], [some 180, some 181, none], [], [], [some 183, some 184, none], [], [], [some 186, some 187, none], [], [], [some 189, some 190, none], [], [], [some 192, some 193, none], [], [], [some 195, some 196, none], [], [], [some 198, some 199, none], [], [], [some 201, some 202, none], [], [], [some 204, some 205, none], [], [], [some 207, some 208, none], [], [], [some 210, some 211, none], [], [], [none, none, some 213, some 214, some 215, some 216], [], [], [], [], [some 5, some 212, none, none, some 218, some 259, some 300, some 341, some 342, some 343], [], [], [], [], [], [], [], [], [], [], [], [], [], [], [], [], [], [], [], [], [], [], [], [], [], [], [], [], [], [], [], [], [], [], [], [], [], [], [], [], [], [], [], [], [], [], [], [], [], [], [], [], [], [], [], [], [], [], [], [], [], [], [], [], [], [], [], [], [], [], [], [], [], [], [], [], [], [], [], [], [], [], [], [], [], [], [], [], [], [], [], [], [], [], [], [], [], [], [], [], [], [], [], [], [], [], [], [], [], [], [], [], [], [], [], [], [], [], [], [], [], [], [], [], [], [], [some 5, some 212, none, none, none, none, some 345, some 346, some 347, some 348, some 349, some 350, some 364, some 365, some 372], [], [], [], [], [], [], [], [], [], [], [], [], [], [], [], [], [], [], [], [], [], [], [], [], [], [], [], [], [some 5, some 374, some 375], [], [], [none, some 377, some 378, some 379, some 380, some 381, some 382, none, some 383, some 384, some 385, some 386, some 387, some 388, some 389, some 390, none, none, none, some 391, some 392, none, some 393, some 394, some 395, some 396, some 397, some 398, some 399, some 400, none, none, none, none, none, some 401, some 402, some 403, some 404, some 405, some 406, none, none, none, some 407, some 408, some 409, none, none, none, none, some 410], [], [], [], [], [], [], [], [], [], [], [], [], [], [], [], [], [], [], [], [], [], [], [], [], [], [], [], [], [], [], [], [], [], []]
def rfA (n a : Nat) (i : Int) : Option Nat := if a = 15 then (if 0 ≤ i ∧ i < n then some (16 + i.toNat) else none) else if a = 22 then (if 0 ≤ i ∧ i < n then some (23 + i.toNat) else none) else if a = 218 then (if 0 ≤ i ∧ i < 40 then some (219 + i.toNat) else none) else if a = 259 then (if 0 ≤ i ∧ i < 40 then some (260 + i.toNat) else none) else if a = 300 then (if 0 ≤ i ∧ i < 40 then some (301 + i.toNat) else none) else if a = 350 then (if 0 ≤ i ∧ i < 13 then some (351 + i.toNat) else none) else if a = 365 then (if 0 ≤ i ∧ i < 6 then some (366 + i.toNat) else none) else if a = 37 then (if 0 ≤ i ∧ i < 51 then some (41 + 3 * i.toNat) else none) else if a = 39 then (if 0 ≤ i ∧ i < 6 then some (194 + 3 * i.toNat) else none) else none
def Good (n L : Nat) (G : XG) : Prop := G.1 0 = (9, L) ∧ (∀ a, okI n a = true → G.1 a = shF n a) ∧ (∀ a (k b : Nat), (rfL.getD a []).getD k none = some b → G.2.1 a (k : Int) = some b) ∧ (∀ a i b, rfA n a i = some b → G.2.1 a i = some b)
section ST
variable {n L : Nat} {d q : Nat} {is : List Instr} {nx : Nat} {ls st : List XV} {V : Nat → Int → Int} {G : XG}
theorem gsh (hG : Good n L G) (a : Nat) {z : Nat × Nat} (h : okI n a = true) (hz : shF n a = z) : G.1 a = z := (hG.2.1 a h).trans hz
theorem ia3 (hG : Good n L G) {j : Int} (h0 : 0 ≤ j) (h : j < 96) : bx d q (.iaload :: is) nx ls (xI j :: xR 3 :: st) (V, G) = bx d q is nx ls (xI (V 3 j) :: st) (V, G) := bx_iald (gsh hG 3 rfl rfl) h0 h
theorem is3 (hG : Good n L G) {j x : Int} (h0 : 0 ≤ j) (h : j < 96) : bx d q (.iastore :: is) nx ls (xI x :: xI j :: xR 3 :: st) (V, G) = bx d q is nx ls st (vA V 3 (vU (V 3) j x), G) := bx_iast (gsh hG 3 rfl rfl) h0 h
theorem ia4 (hG : Good n L G) {j : Int} (h0 : 0 ≤ j) (h : j < 96) : bx d q (.iaload :: is) nx ls (xI j :: xR 4 :: st) (V, G) = bx d q is nx ls (xI (V 4 j) :: st) (V, G) := bx_iald (gsh hG 4 rfl rfl) h0 h
theorem is4 (hG : Good n L G) {j x : Int} (h0 : 0 ≤ j) (h : j < 96) : bx d q (.iastore :: is) nx ls (xI x :: xI j :: xR 4 :: st) (V, G) = bx d q is nx ls st (vA V 4 (vU (V 4) j x), G) := bx_iast (gsh hG 4 rfl rfl) h0 h
theorem ia6 (hG : Good n L G) {j : Int} (h0 : 0 ≤ j) (h : j < 36) : bx d q (.iaload :: is) nx ls (xI j :: xR 6 :: st) (V, G) = bx d q is nx ls (xI (V 6 j) :: st) (V, G) := bx_iald (gsh hG 6 rfl rfl) h0 h
theorem is6 (hG : Good n L G) {j x : Int} (h0 : 0 ≤ j) (h : j < 36) : bx d q (.iastore :: is) nx ls (xI x :: xI j :: xR 6 :: st) (V, G) = bx d q is nx ls st (vA V 6 (vU (V 6) j x), G) := bx_iast (gsh hG 6 rfl rfl) h0 h
theorem ia7 (hG : Good n L G) {j : Int} (h0 : 0 ≤ j) (h : j < 36) : bx d q (.iaload :: is) nx ls (xI j :: xR 7 :: st) (V, G) = bx d q is nx ls (xI (V 7 j) :: st) (V, G) := bx_iald (gsh hG 7 rfl rfl) h0 h
theorem is7 (hG : Good n L G) {j x : Int} (h0 : 0 ≤ j) (h : j < 36) : bx d q (.iastore :: is) nx ls (xI x :: xI j :: xR 7 :: st) (V, G) = bx d q is nx ls st (vA V 7 (vU (V 7) j x), G) := bx_iast (gsh hG 7 rfl rfl) h0 h
theorem ia8 (hG : Good n L G) {j : Int} (h0 : 0 ≤ j) (h : j < 36) : bx d q (.iaload :: is) nx ls (xI j :: xR 8 :: st) (V, G) = bx d q is nx ls (xI (V 8 j) :: st) (V, G) := bx_iald (gsh hG 8 rfl rfl) h0 h
theorem is8 (hG : Good n L G) {j x : Int} (h0 : 0 ≤ j) (h : j < 36) : bx d q (.iastore :: is) nx ls (xI x :: xI j :: xR 8 :: st) (V, G) = bx d q is nx ls st (vA V 8 (vU (V 8) j x), G) := bx_iast (gsh hG 8 rfl rfl) h0 h
theorem ia9 (hG : Good n L G) {j : Int} (h0 : 0 ≤ j) (h : j < 36) : bx d q (.iaload :: is) nx ls (xI j :: xR 9 :: st) (V, G) = bx d q is nx ls (xI (V 9 j) :: st) (V, G) := bx_iald (gsh hG 9 rfl rfl) h0 h
theorem is9 (hG : Good n L G) {j x : Int} (h0 : 0 ≤ j) (h : j < 36) : bx d q (.iastore :: is) nx ls (xI x :: xI j :: xR 9 :: st) (V, G) = bx d q is nx ls st (vA V 9 (vU (V 9) j x), G) := bx_iast (gsh hG 9 rfl rfl) h0 h
theorem ia10 (hG : Good n L G) {j : Int} (h0 : 0 ≤ j) (h : j < 36) : bx d q (.iaload :: is) nx ls (xI j :: xR 10 :: st) (V, G) = bx d q is nx ls (xI (V 10 j) :: st) (V, G) := bx_iald (gsh hG 10 rfl rfl) h0 h
theorem is10 (hG : Good n L G) {j x : Int} (h0 : 0 ≤ j) (h : j < 36) : bx d q (.iastore :: is) nx ls (xI x :: xI j :: xR 10 :: st) (V, G) = bx d q is nx ls st (vA V 10 (vU (V 10) j x), G) := bx_iast (gsh hG 10 rfl rfl) h0 h
theorem ia11 (hG : Good n L G) {j : Int} (h0 : 0 ≤ j) (h : j < 6) : bx d q (.iaload :: is) nx ls (xI j :: xR 11 :: st) (V, G) = bx d q is nx ls (xI (V 11 j) :: st) (V, G) := bx_iald (gsh hG 11 rfl rfl) h0 h
theorem is11 (hG : Good n L G) {j x : Int} (h0 : 0 ≤ j) (h : j < 6) : bx d q (.iastore :: is) nx ls (xI x :: xI j :: xR 11 :: st) (V, G) = bx d q is nx ls st (vA V 11 (vU (V 11) j x), G) := bx_iast (gsh hG 11 rfl rfl) h0 h
theorem ia13 (hG : Good n L G) {j : Int} (h0 : 0 ≤ j) (h : j < 15) : bx d q (.iaload :: is) nx ls (xI j :: xR 13 :: st) (V, G) = bx d q is nx ls (xI (V 13 j) :: st) (V, G) := bx_iald (gsh hG 13 rfl rfl) h0 h
theorem is13 (hG : Good n L G) {j x : Int} (h0 : 0 ≤ j) (h : j < 15) : bx d q (.iastore :: is) nx ls (xI x :: xI j :: xR 13 :: st) (V, G) = bx d q is nx ls st (vA V 13 (vU (V 13) j x), G) := bx_iast (gsh hG 13 rfl rfl) h0 h
theorem ia14 (hG : Good n L G) {j : Int} (h0 : 0 ≤ j) (h : j < 15) : bx d q (.iaload :: is) nx ls (xI j :: xR 14 :: st) (V, G) = bx d q is nx ls (xI (V 14 j) :: st) (V, G) := bx_iald (gsh hG 14 rfl rfl) h0 h
theorem is14 (hG : Good n L G) {j x : Int} (h0 : 0 ≤ j) (h : j < 15) : bx d q (.iastore :: is) nx ls (xI x :: xI j :: xR 14 :: st) (V, G) = bx d q is nx ls st (vA V 14 (vU (V 14) j x), G) := bx_iast (gsh hG 14 rfl rfl) h0 h
theorem ia33 (hG : Good n L G) {j : Int} (h0 : 0 ≤ j) (h : j < 1024) : bx d q (.laload :: is) nx ls (xI j :: xR 33 :: st) (V, G) = bx d q is nx ls (xL (V 33 j) :: st) (V, G) := bx_lald (gsh hG 33 rfl rfl) h0 h
theorem is33 (hG : Good n L G) {j x : Int} (h0 : 0 ≤ j) (h : j < 1024) : bx d q (.lastore :: is) nx ls (xL x :: xI j :: xR 33 :: st) (V, G) = bx d q is nx ls st (vA V 33 (vU (V 33) j x), G) := bx_last (gsh hG 33 rfl rfl) h0 h
theorem ia34 (hG : Good n L G) {j : Int} (h0 : 0 ≤ j) (h : j < 10) : bx d q (.iaload :: is) nx ls (xI j :: xR 34 :: st) (V, G) = bx d q is nx ls (xI (V 34 j) :: st) (V, G) := bx_iald (gsh hG 34 rfl rfl) h0 h
theorem is34 (hG : Good n L G) {j x : Int} (h0 : 0 ≤ j) (h : j < 10) : bx d q (.iastore :: is) nx ls (xI x :: xI j :: xR 34 :: st) (V, G) = bx d q is nx ls st (vA V 34 (vU (V 34) j x), G) := bx_iast (gsh hG 34 rfl rfl) h0 h
theorem ia36 (hG : Good n L G) {j : Int} (h0 : 0 ≤ j) (h : j < 100) : bx d q (.iaload :: is) nx ls (xI j :: xR 36 :: st) (V, G) = bx d q is nx ls (xI (V 36 j) :: st) (V, G) := bx_iald (gsh hG 36 rfl rfl) h0 h
theorem is36 (hG : Good n L G) {j x : Int} (h0 : 0 ≤ j) (h : j < 100) : bx d q (.iastore :: is) nx ls (xI x :: xI j :: xR 36 :: st) (V, G) = bx d q is nx ls st (vA V 36 (vU (V 36) j x), G) := bx_iast (gsh hG 36 rfl rfl) h0 h
theorem ia38 (hG : Good n L G) {j : Int} (h0 : 0 ≤ j) (h : j < 51) : bx d q (.iaload :: is) nx ls (xI j :: xR 38 :: st) (V, G) = bx d q is nx ls (xI (V 38 j) :: st) (V, G) := bx_iald (gsh hG 38 rfl rfl) h0 h
theorem is38 (hG : Good n L G) {j x : Int} (h0 : 0 ≤ j) (h : j < 51) : bx d q (.iastore :: is) nx ls (xI x :: xI j :: xR 38 :: st) (V, G) = bx d q is nx ls st (vA V 38 (vU (V 38) j x), G) := bx_iast (gsh hG 38 rfl rfl) h0 h
theorem ia40 (hG : Good n L G) {j : Int} (h0 : 0 ≤ j) (h : j < 6) : bx d q (.baload :: is) nx ls (xI j :: xR 40 :: st) (V, G) = bx d q is nx ls (xI (V 40 j) :: st) (V, G) := bx_zald (gsh hG 40 rfl rfl) h0 h
theorem is40 (hG : Good n L G) {j x : Int} (hb : x = 0 ∨ x = 1) (h0 : 0 ≤ j) (h : j < 6) : bx d q (.bastore :: is) nx ls (xI x :: xI j :: xR 40 :: st) (V, G) = bx d q is nx ls st (vA V 40 (vU (V 40) j x), G) := bx_zast (gsh hG 40 rfl rfl) hb h0 h
theorem ia213 (hG : Good n L G) {j : Int} (h0 : 0 ≤ j) (h : j < 60) : bx d q (.iaload :: is) nx ls (xI j :: xR 213 :: st) (V, G) = bx d q is nx ls (xI (V 213 j) :: st) (V, G) := bx_iald (gsh hG 213 rfl rfl) h0 h
theorem is213 (hG : Good n L G) {j x : Int} (h0 : 0 ≤ j) (h : j < 60) : bx d q (.iastore :: is) nx ls (xI x :: xI j :: xR 213 :: st) (V, G) = bx d q is nx ls st (vA V 213 (vU (V 213) j x), G) := bx_iast (gsh hG 213 rfl rfl) h0 h
theorem ia214 (hG : Good n L G) {j : Int} (h0 : 0 ≤ j) (h : j < 60) : bx d q (.iaload :: is) nx ls (xI j :: xR 214 :: st) (V, G) = bx d q is nx ls (xI (V 214 j) :: st) (V, G) := bx_iald (gsh hG 214 rfl rfl) h0 h
theorem is214 (hG : Good n L G) {j x : Int} (h0 : 0 ≤ j) (h : j < 60) : bx d q (.iastore :: is) nx ls (xI x :: xI j :: xR 214 :: st) (V, G) = bx d q is nx ls st (vA V 214 (vU (V 214) j x), G) := bx_iast (gsh hG 214 rfl rfl) h0 h
theorem ia215 (hG : Good n L G) {j : Int} (h0 : 0 ≤ j) (h : j < 60) : bx d q (.iaload :: is) nx ls (xI j :: xR 215 :: st) (V, G) = bx d q is nx ls (xI (V 215 j) :: st) (V, G) := bx_iald (gsh hG 215 rfl rfl) h0 h
theorem is215 (hG : Good n L G) {j x : Int} (h0 : 0 ≤ j) (h : j < 60) : bx d q (.iastore :: is) nx ls (xI x :: xI j :: xR 215 :: st) (V, G) = bx d q is nx ls st (vA V 215 (vU (V 215) j x), G) := bx_iast (gsh hG 215 rfl rfl) h0 h
theorem ia216 (hG : Good n L G) {j : Int} (h0 : 0 ≤ j) (h : j < 36) : bx d q (.iaload :: is) nx ls (xI j :: xR 216 :: st) (V, G) = bx d q is nx ls (xI (V 216 j) :: st) (V, G) := bx_iald (gsh hG 216 rfl rfl) h0 h
theorem is216 (hG : Good n L G) {j x : Int} (h0 : 0 ≤ j) (h : j < 36) : bx d q (.iastore :: is) nx ls (xI x :: xI j :: xR 216 :: st) (V, G) = bx d q is nx ls st (vA V 216 (vU (V 216) j x), G) := bx_iast (gsh hG 216 rfl rfl) h0 h
theorem ia341 (hG : Good n L G) {j : Int} (h0 : 0 ≤ j) (h : j < 36) : bx d q (.iaload :: is) nx ls (xI j :: xR 341 :: st) (V, G) = bx d q is nx ls (xI (V 341 j) :: st) (V, G) := bx_iald (gsh hG 341 rfl rfl) h0 h
theorem is341 (hG : Good n L G) {j x : Int} (h0 : 0 ≤ j) (h : j < 36) : bx d q (.iastore :: is) nx ls (xI x :: xI j :: xR 341 :: st) (V, G) = bx d q is nx ls st (vA V 341 (vU (V 341) j x), G) := bx_iast (gsh hG 341 rfl rfl) h0 h
theorem ia342 (hG : Good n L G) {j : Int} (h0 : 0 ≤ j) (h : j < 36) : bx d q (.iaload :: is) nx ls (xI j :: xR 342 :: st) (V, G) = bx d q is nx ls (xI (V 342 j) :: st) (V, G) := bx_iald (gsh hG 342 rfl rfl) h0 h
theorem is342 (hG : Good n L G) {j x : Int} (h0 : 0 ≤ j) (h : j < 36) : bx d q (.iastore :: is) nx ls (xI x :: xI j :: xR 342 :: st) (V, G) = bx d q is nx ls st (vA V 342 (vU (V 342) j x), G) := bx_iast (gsh hG 342 rfl rfl) h0 h
theorem ia343 (hG : Good n L G) {j : Int} (h0 : 0 ≤ j) (h : j < 6) : bx d q (.iaload :: is) nx ls (xI j :: xR 343 :: st) (V, G) = bx d q is nx ls (xI (V 343 j) :: st) (V, G) := bx_iald (gsh hG 343 rfl rfl) h0 h
theorem is343 (hG : Good n L G) {j x : Int} (h0 : 0 ≤ j) (h : j < 6) : bx d q (.iastore :: is) nx ls (xI x :: xI j :: xR 343 :: st) (V, G) = bx d q is nx ls st (vA V 343 (vU (V 343) j x), G) := bx_iast (gsh hG 343 rfl rfl) h0 h
theorem ia345 (hG : Good n L G) {j : Int} (h0 : 0 ≤ j) (h : j < 145) : bx d q (.iaload :: is) nx ls (xI j :: xR 345 :: st) (V, G) = bx d q is nx ls (xI (V 345 j) :: st) (V, G) := bx_iald (gsh hG 345 rfl rfl) h0 h
theorem is345 (hG : Good n L G) {j x : Int} (h0 : 0 ≤ j) (h : j < 145) : bx d q (.iastore :: is) nx ls (xI x :: xI j :: xR 345 :: st) (V, G) = bx d q is nx ls st (vA V 345 (vU (V 345) j x), G) := bx_iast (gsh hG 345 rfl rfl) h0 h
theorem ia346 (hG : Good n L G) {j : Int} (h0 : 0 ≤ j) (h : j < 145) : bx d q (.iaload :: is) nx ls (xI j :: xR 346 :: st) (V, G) = bx d q is nx ls (xI (V 346 j) :: st) (V, G) := bx_iald (gsh hG 346 rfl rfl) h0 h
theorem is346 (hG : Good n L G) {j x : Int} (h0 : 0 ≤ j) (h : j < 145) : bx d q (.iastore :: is) nx ls (xI x :: xI j :: xR 346 :: st) (V, G) = bx d q is nx ls st (vA V 346 (vU (V 346) j x), G) := bx_iast (gsh hG 346 rfl rfl) h0 h
theorem ia347 (hG : Good n L G) {j : Int} (h0 : 0 ≤ j) (h : j < 145) : bx d q (.baload :: is) nx ls (xI j :: xR 347 :: st) (V, G) = bx d q is nx ls (xI (V 347 j) :: st) (V, G) := bx_zald (gsh hG 347 rfl rfl) h0 h
theorem is347 (hG : Good n L G) {j x : Int} (hb : x = 0 ∨ x = 1) (h0 : 0 ≤ j) (h : j < 145) : bx d q (.bastore :: is) nx ls (xI x :: xI j :: xR 347 :: st) (V, G) = bx d q is nx ls st (vA V 347 (vU (V 347) j x), G) := bx_zast (gsh hG 347 rfl rfl) hb h0 h
theorem ia348 (hG : Good n L G) {j : Int} (h0 : 0 ≤ j) (h : j < 36) : bx d q (.iaload :: is) nx ls (xI j :: xR 348 :: st) (V, G) = bx d q is nx ls (xI (V 348 j) :: st) (V, G) := bx_iald (gsh hG 348 rfl rfl) h0 h
theorem is348 (hG : Good n L G) {j x : Int} (h0 : 0 ≤ j) (h : j < 36) : bx d q (.iastore :: is) nx ls (xI x :: xI j :: xR 348 :: st) (V, G) = bx d q is nx ls st (vA V 348 (vU (V 348) j x), G) := bx_iast (gsh hG 348 rfl rfl) h0 h
theorem ia349 (hG : Good n L G) {j : Int} (h0 : 0 ≤ j) (h : j < 36) : bx d q (.iaload :: is) nx ls (xI j :: xR 349 :: st) (V, G) = bx d q is nx ls (xI (V 349 j) :: st) (V, G) := bx_iald (gsh hG 349 rfl rfl) h0 h
theorem is349 (hG : Good n L G) {j x : Int} (h0 : 0 ≤ j) (h : j < 36) : bx d q (.iastore :: is) nx ls (xI x :: xI j :: xR 349 :: st) (V, G) = bx d q is nx ls st (vA V 349 (vU (V 349) j x), G) := bx_iast (gsh hG 349 rfl rfl) h0 h
theorem ia364 (hG : Good n L G) {j : Int} (h0 : 0 ≤ j) (h : j < 6) : bx d q (.iaload :: is) nx ls (xI j :: xR 364 :: st) (V, G) = bx d q is nx ls (xI (V 364 j) :: st) (V, G) := bx_iald (gsh hG 364 rfl rfl) h0 h
theorem is364 (hG : Good n L G) {j x : Int} (h0 : 0 ≤ j) (h : j < 6) : bx d q (.iastore :: is) nx ls (xI x :: xI j :: xR 364 :: st) (V, G) = bx d q is nx ls st (vA V 364 (vU (V 364) j x), G) := bx_iast (gsh hG 364 rfl rfl) h0 h
theorem ia372 (hG : Good n L G) {j : Int} (h0 : 0 ≤ j) (h : j < 6) : bx d q (.iaload :: is) nx ls (xI j :: xR 372 :: st) (V, G) = bx d q is nx ls (xI (V 372 j) :: st) (V, G) := bx_iald (gsh hG 372 rfl rfl) h0 h
theorem is372 (hG : Good n L G) {j x : Int} (h0 : 0 ≤ j) (h : j < 6) : bx d q (.iastore :: is) nx ls (xI x :: xI j :: xR 372 :: st) (V, G) = bx d q is nx ls st (vA V 372 (vU (V 372) j x), G) := bx_iast (gsh hG 372 rfl rfl) h0 h
theorem ia374 (hG : Good n L G) {j : Int} (h0 : 0 ≤ j) (h : j < 36) : bx d q (.iaload :: is) nx ls (xI j :: xR 374 :: st) (V, G) = bx d q is nx ls (xI (V 374 j) :: st) (V, G) := bx_iald (gsh hG 374 rfl rfl) h0 h
theorem is374 (hG : Good n L G) {j x : Int} (h0 : 0 ≤ j) (h : j < 36) : bx d q (.iastore :: is) nx ls (xI x :: xI j :: xR 374 :: st) (V, G) = bx d q is nx ls st (vA V 374 (vU (V 374) j x), G) := bx_iast (gsh hG 374 rfl rfl) h0 h
theorem ia375 (hG : Good n L G) {j : Int} (h0 : 0 ≤ j) (h : j < 6) : bx d q (.baload :: is) nx ls (xI j :: xR 375 :: st) (V, G) = bx d q is nx ls (xI (V 375 j) :: st) (V, G) := bx_zald (gsh hG 375 rfl rfl) h0 h
theorem is375 (hG : Good n L G) {j x : Int} (hb : x = 0 ∨ x = 1) (h0 : 0 ≤ j) (h : j < 6) : bx d q (.bastore :: is) nx ls (xI x :: xI j :: xR 375 :: st) (V, G) = bx d q is nx ls st (vA V 375 (vU (V 375) j x), G) := bx_zast (gsh hG 375 rfl rfl) hb h0 h
theorem ia377 (hG : Good n L G) {j : Int} (h0 : 0 ≤ j) (h : j < 96) : bx d q (.iaload :: is) nx ls (xI j :: xR 377 :: st) (V, G) = bx d q is nx ls (xI (V 377 j) :: st) (V, G) := bx_iald (gsh hG 377 rfl rfl) h0 h
theorem is377 (hG : Good n L G) {j x : Int} (h0 : 0 ≤ j) (h : j < 96) : bx d q (.iastore :: is) nx ls (xI x :: xI j :: xR 377 :: st) (V, G) = bx d q is nx ls st (vA V 377 (vU (V 377) j x), G) := bx_iast (gsh hG 377 rfl rfl) h0 h
theorem ia378 (hG : Good n L G) {j : Int} (h0 : 0 ≤ j) (h : j < 96) : bx d q (.iaload :: is) nx ls (xI j :: xR 378 :: st) (V, G) = bx d q is nx ls (xI (V 378 j) :: st) (V, G) := bx_iald (gsh hG 378 rfl rfl) h0 h
theorem is378 (hG : Good n L G) {j x : Int} (h0 : 0 ≤ j) (h : j < 96) : bx d q (.iastore :: is) nx ls (xI x :: xI j :: xR 378 :: st) (V, G) = bx d q is nx ls st (vA V 378 (vU (V 378) j x), G) := bx_iast (gsh hG 378 rfl rfl) h0 h
theorem ia379 (hG : Good n L G) {j : Int} (h0 : 0 ≤ j) (h : j < 72) : bx d q (.iaload :: is) nx ls (xI j :: xR 379 :: st) (V, G) = bx d q is nx ls (xI (V 379 j) :: st) (V, G) := bx_iald (gsh hG 379 rfl rfl) h0 h
theorem is379 (hG : Good n L G) {j x : Int} (h0 : 0 ≤ j) (h : j < 72) : bx d q (.iastore :: is) nx ls (xI x :: xI j :: xR 379 :: st) (V, G) = bx d q is nx ls st (vA V 379 (vU (V 379) j x), G) := bx_iast (gsh hG 379 rfl rfl) h0 h
theorem ia380 (hG : Good n L G) {j : Int} (h0 : 0 ≤ j) (h : j < 72) : bx d q (.iaload :: is) nx ls (xI j :: xR 380 :: st) (V, G) = bx d q is nx ls (xI (V 380 j) :: st) (V, G) := bx_iald (gsh hG 380 rfl rfl) h0 h
theorem is380 (hG : Good n L G) {j x : Int} (h0 : 0 ≤ j) (h : j < 72) : bx d q (.iastore :: is) nx ls (xI x :: xI j :: xR 380 :: st) (V, G) = bx d q is nx ls st (vA V 380 (vU (V 380) j x), G) := bx_iast (gsh hG 380 rfl rfl) h0 h
theorem ia381 (hG : Good n L G) {j : Int} (h0 : 0 ≤ j) (h : j < 72) : bx d q (.iaload :: is) nx ls (xI j :: xR 381 :: st) (V, G) = bx d q is nx ls (xI (V 381 j) :: st) (V, G) := bx_iald (gsh hG 381 rfl rfl) h0 h
theorem is381 (hG : Good n L G) {j x : Int} (h0 : 0 ≤ j) (h : j < 72) : bx d q (.iastore :: is) nx ls (xI x :: xI j :: xR 381 :: st) (V, G) = bx d q is nx ls st (vA V 381 (vU (V 381) j x), G) := bx_iast (gsh hG 381 rfl rfl) h0 h
theorem ia382 (hG : Good n L G) {j : Int} (h0 : 0 ≤ j) (h : j < 72) : bx d q (.iaload :: is) nx ls (xI j :: xR 382 :: st) (V, G) = bx d q is nx ls (xI (V 382 j) :: st) (V, G) := bx_iald (gsh hG 382 rfl rfl) h0 h
theorem is382 (hG : Good n L G) {j x : Int} (h0 : 0 ≤ j) (h : j < 72) : bx d q (.iastore :: is) nx ls (xI x :: xI j :: xR 382 :: st) (V, G) = bx d q is nx ls st (vA V 382 (vU (V 382) j x), G) := bx_iast (gsh hG 382 rfl rfl) h0 h
theorem ia383 (hG : Good n L G) {j : Int} (h0 : 0 ≤ j) (h : j < 72) : bx d q (.iaload :: is) nx ls (xI j :: xR 383 :: st) (V, G) = bx d q is nx ls (xI (V 383 j) :: st) (V, G) := bx_iald (gsh hG 383 rfl rfl) h0 h
theorem is383 (hG : Good n L G) {j x : Int} (h0 : 0 ≤ j) (h : j < 72) : bx d q (.iastore :: is) nx ls (xI x :: xI j :: xR 383 :: st) (V, G) = bx d q is nx ls st (vA V 383 (vU (V 383) j x), G) := bx_iast (gsh hG 383 rfl rfl) h0 h
theorem ia384 (hG : Good n L G) {j : Int} (h0 : 0 ≤ j) (h : j < 72) : bx d q (.iaload :: is) nx ls (xI j :: xR 384 :: st) (V, G) = bx d q is nx ls (xI (V 384 j) :: st) (V, G) := bx_iald (gsh hG 384 rfl rfl) h0 h
theorem is384 (hG : Good n L G) {j x : Int} (h0 : 0 ≤ j) (h : j < 72) : bx d q (.iastore :: is) nx ls (xI x :: xI j :: xR 384 :: st) (V, G) = bx d q is nx ls st (vA V 384 (vU (V 384) j x), G) := bx_iast (gsh hG 384 rfl rfl) h0 h
theorem ia385 (hG : Good n L G) {j : Int} (h0 : 0 ≤ j) (h : j < 6) : bx d q (.iaload :: is) nx ls (xI j :: xR 385 :: st) (V, G) = bx d q is nx ls (xI (V 385 j) :: st) (V, G) := bx_iald (gsh hG 385 rfl rfl) h0 h
theorem is385 (hG : Good n L G) {j x : Int} (h0 : 0 ≤ j) (h : j < 6) : bx d q (.iastore :: is) nx ls (xI x :: xI j :: xR 385 :: st) (V, G) = bx d q is nx ls st (vA V 385 (vU (V 385) j x), G) := bx_iast (gsh hG 385 rfl rfl) h0 h
theorem ia386 (hG : Good n L G) {j : Int} (h0 : 0 ≤ j) (h : j < 36) : bx d q (.iaload :: is) nx ls (xI j :: xR 386 :: st) (V, G) = bx d q is nx ls (xI (V 386 j) :: st) (V, G) := bx_iald (gsh hG 386 rfl rfl) h0 h
theorem is386 (hG : Good n L G) {j x : Int} (h0 : 0 ≤ j) (h : j < 36) : bx d q (.iastore :: is) nx ls (xI x :: xI j :: xR 386 :: st) (V, G) = bx d q is nx ls st (vA V 386 (vU (V 386) j x), G) := bx_iast (gsh hG 386 rfl rfl) h0 h
theorem ia387 (hG : Good n L G) {j : Int} (h0 : 0 ≤ j) (h : j < 36) : bx d q (.iaload :: is) nx ls (xI j :: xR 387 :: st) (V, G) = bx d q is nx ls (xI (V 387 j) :: st) (V, G) := bx_iald (gsh hG 387 rfl rfl) h0 h
theorem is387 (hG : Good n L G) {j x : Int} (h0 : 0 ≤ j) (h : j < 36) : bx d q (.iastore :: is) nx ls (xI x :: xI j :: xR 387 :: st) (V, G) = bx d q is nx ls st (vA V 387 (vU (V 387) j x), G) := bx_iast (gsh hG 387 rfl rfl) h0 h
theorem ia388 (hG : Good n L G) {j : Int} (h0 : 0 ≤ j) (h : j < 15) : bx d q (.iaload :: is) nx ls (xI j :: xR 388 :: st) (V, G) = bx d q is nx ls (xI (V 388 j) :: st) (V, G) := bx_iald (gsh hG 388 rfl rfl) h0 h
theorem is388 (hG : Good n L G) {j x : Int} (h0 : 0 ≤ j) (h : j < 15) : bx d q (.iastore :: is) nx ls (xI x :: xI j :: xR 388 :: st) (V, G) = bx d q is nx ls st (vA V 388 (vU (V 388) j x), G) := bx_iast (gsh hG 388 rfl rfl) h0 h
theorem ia389 (hG : Good n L G) {j : Int} (h0 : 0 ≤ j) (h : j < 15) : bx d q (.iaload :: is) nx ls (xI j :: xR 389 :: st) (V, G) = bx d q is nx ls (xI (V 389 j) :: st) (V, G) := bx_iald (gsh hG 389 rfl rfl) h0 h
theorem is389 (hG : Good n L G) {j x : Int} (h0 : 0 ≤ j) (h : j < 15) : bx d q (.iastore :: is) nx ls (xI x :: xI j :: xR 389 :: st) (V, G) = bx d q is nx ls st (vA V 389 (vU (V 389) j x), G) := bx_iast (gsh hG 389 rfl rfl) h0 h
theorem ia390 (hG : Good n L G) {j : Int} (h0 : 0 ≤ j) (h : j < 6) : bx d q (.iaload :: is) nx ls (xI j :: xR 390 :: st) (V, G) = bx d q is nx ls (xI (V 390 j) :: st) (V, G) := bx_iald (gsh hG 390 rfl rfl) h0 h
theorem is390 (hG : Good n L G) {j x : Int} (h0 : 0 ≤ j) (h : j < 6) : bx d q (.iastore :: is) nx ls (xI x :: xI j :: xR 390 :: st) (V, G) = bx d q is nx ls st (vA V 390 (vU (V 390) j x), G) := bx_iast (gsh hG 390 rfl rfl) h0 h
theorem ia391 (hG : Good n L G) {j : Int} (h0 : 0 ≤ j) (h : j < 11) : bx d q (.iaload :: is) nx ls (xI j :: xR 391 :: st) (V, G) = bx d q is nx ls (xI (V 391 j) :: st) (V, G) := bx_iald (gsh hG 391 rfl rfl) h0 h
theorem is391 (hG : Good n L G) {j x : Int} (h0 : 0 ≤ j) (h : j < 11) : bx d q (.iastore :: is) nx ls (xI x :: xI j :: xR 391 :: st) (V, G) = bx d q is nx ls st (vA V 391 (vU (V 391) j x), G) := bx_iast (gsh hG 391 rfl rfl) h0 h
theorem ia392 (hG : Good n L G) {j : Int} (h0 : 0 ≤ j) (h : j < 11) : bx d q (.iaload :: is) nx ls (xI j :: xR 392 :: st) (V, G) = bx d q is nx ls (xI (V 392 j) :: st) (V, G) := bx_iald (gsh hG 392 rfl rfl) h0 h
theorem is392 (hG : Good n L G) {j x : Int} (h0 : 0 ≤ j) (h : j < 11) : bx d q (.iastore :: is) nx ls (xI x :: xI j :: xR 392 :: st) (V, G) = bx d q is nx ls st (vA V 392 (vU (V 392) j x), G) := bx_iast (gsh hG 392 rfl rfl) h0 h
theorem ia393 (hG : Good n L G) {j : Int} (h0 : 0 ≤ j) (h : j < 13312) : bx d q (.baload :: is) nx ls (xI j :: xR 393 :: st) (V, G) = bx d q is nx ls (xI (V 393 j) :: st) (V, G) := bx_zald (gsh hG 393 rfl rfl) h0 h
theorem is393 (hG : Good n L G) {j x : Int} (hb : x = 0 ∨ x = 1) (h0 : 0 ≤ j) (h : j < 13312) : bx d q (.bastore :: is) nx ls (xI x :: xI j :: xR 393 :: st) (V, G) = bx d q is nx ls st (vA V 393 (vU (V 393) j x), G) := bx_zast (gsh hG 393 rfl rfl) hb h0 h
theorem ia394 (hG : Good n L G) {j : Int} (h0 : 0 ≤ j) (h : j < 100) : bx d q (.iaload :: is) nx ls (xI j :: xR 394 :: st) (V, G) = bx d q is nx ls (xI (V 394 j) :: st) (V, G) := bx_iald (gsh hG 394 rfl rfl) h0 h
theorem is394 (hG : Good n L G) {j x : Int} (h0 : 0 ≤ j) (h : j < 100) : bx d q (.iastore :: is) nx ls (xI x :: xI j :: xR 394 :: st) (V, G) = bx d q is nx ls st (vA V 394 (vU (V 394) j x), G) := bx_iast (gsh hG 394 rfl rfl) h0 h
theorem ia395 (hG : Good n L G) {j : Int} (h0 : 0 ≤ j) (h : j < 1300) : bx d q (.iaload :: is) nx ls (xI j :: xR 395 :: st) (V, G) = bx d q is nx ls (xI (V 395 j) :: st) (V, G) := bx_iald (gsh hG 395 rfl rfl) h0 h
theorem is395 (hG : Good n L G) {j x : Int} (h0 : 0 ≤ j) (h : j < 1300) : bx d q (.iastore :: is) nx ls (xI x :: xI j :: xR 395 :: st) (V, G) = bx d q is nx ls st (vA V 395 (vU (V 395) j x), G) := bx_iast (gsh hG 395 rfl rfl) h0 h
theorem ia396 (hG : Good n L G) {j : Int} (h0 : 0 ≤ j) (h : j < 100) : bx d q (.iaload :: is) nx ls (xI j :: xR 396 :: st) (V, G) = bx d q is nx ls (xI (V 396 j) :: st) (V, G) := bx_iald (gsh hG 396 rfl rfl) h0 h
theorem is396 (hG : Good n L G) {j x : Int} (h0 : 0 ≤ j) (h : j < 100) : bx d q (.iastore :: is) nx ls (xI x :: xI j :: xR 396 :: st) (V, G) = bx d q is nx ls st (vA V 396 (vU (V 396) j x), G) := bx_iast (gsh hG 396 rfl rfl) h0 h
theorem ia397 (hG : Good n L G) {j : Int} (h0 : 0 ≤ j) (h : j < 100) : bx d q (.iaload :: is) nx ls (xI j :: xR 397 :: st) (V, G) = bx d q is nx ls (xI (V 397 j) :: st) (V, G) := bx_iald (gsh hG 397 rfl rfl) h0 h
theorem is397 (hG : Good n L G) {j x : Int} (h0 : 0 ≤ j) (h : j < 100) : bx d q (.iastore :: is) nx ls (xI x :: xI j :: xR 397 :: st) (V, G) = bx d q is nx ls st (vA V 397 (vU (V 397) j x), G) := bx_iast (gsh hG 397 rfl rfl) h0 h
theorem ia398 (hG : Good n L G) {j : Int} (h0 : 0 ≤ j) (h : j < 66) : bx d q (.iaload :: is) nx ls (xI j :: xR 398 :: st) (V, G) = bx d q is nx ls (xI (V 398 j) :: st) (V, G) := bx_iald (gsh hG 398 rfl rfl) h0 h
theorem is398 (hG : Good n L G) {j x : Int} (h0 : 0 ≤ j) (h : j < 66) : bx d q (.iastore :: is) nx ls (xI x :: xI j :: xR 398 :: st) (V, G) = bx d q is nx ls st (vA V 398 (vU (V 398) j x), G) := bx_iast (gsh hG 398 rfl rfl) h0 h
theorem ia399 (hG : Good n L G) {j : Int} (h0 : 0 ≤ j) (h : j < 6) : bx d q (.iaload :: is) nx ls (xI j :: xR 399 :: st) (V, G) = bx d q is nx ls (xI (V 399 j) :: st) (V, G) := bx_iald (gsh hG 399 rfl rfl) h0 h
theorem is399 (hG : Good n L G) {j x : Int} (h0 : 0 ≤ j) (h : j < 6) : bx d q (.iastore :: is) nx ls (xI x :: xI j :: xR 399 :: st) (V, G) = bx d q is nx ls st (vA V 399 (vU (V 399) j x), G) := bx_iast (gsh hG 399 rfl rfl) h0 h
theorem ia400 (hG : Good n L G) {j : Int} (h0 : 0 ≤ j) (h : j < 6) : bx d q (.baload :: is) nx ls (xI j :: xR 400 :: st) (V, G) = bx d q is nx ls (xI (V 400 j) :: st) (V, G) := bx_zald (gsh hG 400 rfl rfl) h0 h
theorem is400 (hG : Good n L G) {j x : Int} (hb : x = 0 ∨ x = 1) (h0 : 0 ≤ j) (h : j < 6) : bx d q (.bastore :: is) nx ls (xI x :: xI j :: xR 400 :: st) (V, G) = bx d q is nx ls st (vA V 400 (vU (V 400) j x), G) := bx_zast (gsh hG 400 rfl rfl) hb h0 h
theorem ia401 (hG : Good n L G) {j : Int} (h0 : 0 ≤ j) (h : j < 240) : bx d q (.iaload :: is) nx ls (xI j :: xR 401 :: st) (V, G) = bx d q is nx ls (xI (V 401 j) :: st) (V, G) := bx_iald (gsh hG 401 rfl rfl) h0 h
theorem is401 (hG : Good n L G) {j x : Int} (h0 : 0 ≤ j) (h : j < 240) : bx d q (.iastore :: is) nx ls (xI x :: xI j :: xR 401 :: st) (V, G) = bx d q is nx ls st (vA V 401 (vU (V 401) j x), G) := bx_iast (gsh hG 401 rfl rfl) h0 h
theorem ia402 (hG : Good n L G) {j : Int} (h0 : 0 ≤ j) (h : j < 240) : bx d q (.iaload :: is) nx ls (xI j :: xR 402 :: st) (V, G) = bx d q is nx ls (xI (V 402 j) :: st) (V, G) := bx_iald (gsh hG 402 rfl rfl) h0 h
theorem is402 (hG : Good n L G) {j x : Int} (h0 : 0 ≤ j) (h : j < 240) : bx d q (.iastore :: is) nx ls (xI x :: xI j :: xR 402 :: st) (V, G) = bx d q is nx ls st (vA V 402 (vU (V 402) j x), G) := bx_iast (gsh hG 402 rfl rfl) h0 h
theorem ia403 (hG : Good n L G) {j : Int} (h0 : 0 ≤ j) (h : j < 2880) : bx d q (.iaload :: is) nx ls (xI j :: xR 403 :: st) (V, G) = bx d q is nx ls (xI (V 403 j) :: st) (V, G) := bx_iald (gsh hG 403 rfl rfl) h0 h
theorem is403 (hG : Good n L G) {j x : Int} (h0 : 0 ≤ j) (h : j < 2880) : bx d q (.iastore :: is) nx ls (xI x :: xI j :: xR 403 :: st) (V, G) = bx d q is nx ls st (vA V 403 (vU (V 403) j x), G) := bx_iast (gsh hG 403 rfl rfl) h0 h
theorem ia404 (hG : Good n L G) {j : Int} (h0 : 0 ≤ j) (h : j < 60) : bx d q (.iaload :: is) nx ls (xI j :: xR 404 :: st) (V, G) = bx d q is nx ls (xI (V 404 j) :: st) (V, G) := bx_iald (gsh hG 404 rfl rfl) h0 h
theorem is404 (hG : Good n L G) {j x : Int} (h0 : 0 ≤ j) (h : j < 60) : bx d q (.iastore :: is) nx ls (xI x :: xI j :: xR 404 :: st) (V, G) = bx d q is nx ls st (vA V 404 (vU (V 404) j x), G) := bx_iast (gsh hG 404 rfl rfl) h0 h
theorem ia405 (hG : Good n L G) {j : Int} (h0 : 0 ≤ j) (h : j < 60) : bx d q (.iaload :: is) nx ls (xI j :: xR 405 :: st) (V, G) = bx d q is nx ls (xI (V 405 j) :: st) (V, G) := bx_iald (gsh hG 405 rfl rfl) h0 h
theorem is405 (hG : Good n L G) {j x : Int} (h0 : 0 ≤ j) (h : j < 60) : bx d q (.iastore :: is) nx ls (xI x :: xI j :: xR 405 :: st) (V, G) = bx d q is nx ls st (vA V 405 (vU (V 405) j x), G) := bx_iast (gsh hG 405 rfl rfl) h0 h
theorem ia406 (hG : Good n L G) {j : Int} (h0 : 0 ≤ j) (h : j < 60) : bx d q (.iaload :: is) nx ls (xI j :: xR 406 :: st) (V, G) = bx d q is nx ls (xI (V 406 j) :: st) (V, G) := bx_iald (gsh hG 406 rfl rfl) h0 h
theorem is406 (hG : Good n L G) {j x : Int} (h0 : 0 ≤ j) (h : j < 60) : bx d q (.iastore :: is) nx ls (xI x :: xI j :: xR 406 :: st) (V, G) = bx d q is nx ls st (vA V 406 (vU (V 406) j x), G) := bx_iast (gsh hG 406 rfl rfl) h0 h
theorem ia407 (hG : Good n L G) {j : Int} (h0 : 0 ≤ j) (h : j < 72) : bx d q (.iaload :: is) nx ls (xI j :: xR 407 :: st) (V, G) = bx d q is nx ls (xI (V 407 j) :: st) (V, G) := bx_iald (gsh hG 407 rfl rfl) h0 h
theorem is407 (hG : Good n L G) {j x : Int} (h0 : 0 ≤ j) (h : j < 72) : bx d q (.iastore :: is) nx ls (xI x :: xI j :: xR 407 :: st) (V, G) = bx d q is nx ls st (vA V 407 (vU (V 407) j x), G) := bx_iast (gsh hG 407 rfl rfl) h0 h
theorem ia408 (hG : Good n L G) {j : Int} (h0 : 0 ≤ j) (h : j < 289) : bx d q (.iaload :: is) nx ls (xI j :: xR 408 :: st) (V, G) = bx d q is nx ls (xI (V 408 j) :: st) (V, G) := bx_iald (gsh hG 408 rfl rfl) h0 h
theorem is408 (hG : Good n L G) {j x : Int} (h0 : 0 ≤ j) (h : j < 289) : bx d q (.iastore :: is) nx ls (xI x :: xI j :: xR 408 :: st) (V, G) = bx d q is nx ls st (vA V 408 (vU (V 408) j x), G) := bx_iast (gsh hG 408 rfl rfl) h0 h
theorem ia409 (hG : Good n L G) {j : Int} (h0 : 0 ≤ j) (h : j < 289) : bx d q (.baload :: is) nx ls (xI j :: xR 409 :: st) (V, G) = bx d q is nx ls (xI (V 409 j) :: st) (V, G) := bx_zald (gsh hG 409 rfl rfl) h0 h
theorem is409 (hG : Good n L G) {j x : Int} (hb : x = 0 ∨ x = 1) (h0 : 0 ≤ j) (h : j < 289) : bx d q (.bastore :: is) nx ls (xI x :: xI j :: xR 409 :: st) (V, G) = bx d q is nx ls st (vA V 409 (vU (V 409) j x), G) := bx_zast (gsh hG 409 rfl rfl) hb h0 h
theorem ia410 (hG : Good n L G) {j : Int} (h0 : 0 ≤ j) (h : j < 97) : bx d q (.iaload :: is) nx ls (xI j :: xR 410 :: st) (V, G) = bx d q is nx ls (xI (V 410 j) :: st) (V, G) := bx_iald (gsh hG 410 rfl rfl) h0 h
theorem is410 (hG : Good n L G) {j x : Int} (h0 : 0 ≤ j) (h : j < 97) : bx d q (.iastore :: is) nx ls (xI x :: xI j :: xR 410 :: st) (V, G) = bx d q is nx ls st (vA V 410 (vU (V 410) j x), G) := bx_iast (gsh hG 410 rfl rfl) h0 h
theorem aa15 (hG : Good n L G) {j : Int} (h0 : 0 ≤ j) (h : j < n) : bx d q (.aaload :: is) nx ls (xI j :: xR 15 :: st) (V, G) = bx d q is nx ls (xR (16 + j.toNat) :: st) (V, G) := bx_aald (gsh hG 15 rfl rfl) (Or.inl rfl) h0 h (hG.2.2.2 15 j (16 + j.toNat) (show (if 0 ≤ j ∧ j < (n : Int) then some (16 + j.toNat) else none) = _ from if_pos ⟨h0, h⟩))
theorem sf16 (hG : Good n L G) (hn : n ≤ 6) {r : Nat} (h : r < n) : G.1 (16 + r) = (1, n) := by
  refine gsh hG (16 + r) ?_ ?_
  · unfold okI
    rw [if_neg (by omega), if_pos (by omega)]
    exact decide_eq_true (by omega)
  · unfold shF
    rw [if_neg (by omega), if_neg (by omega), if_pos (by omega)]
theorem ia16 (hG : Good n L G) (hn : n ≤ 6) {r : Nat} {j : Int} (hr : r < n) (h0 : 0 ≤ j) (h : j < (n : Nat)) : bx d q (.iaload :: is) nx ls (xI j :: xR (16 + r) :: st) (V, G) = bx d q is nx ls (xI (V (16 + r) j) :: st) (V, G) := bx_iald (sf16 hG hn hr) h0 h
theorem is16 (hG : Good n L G) (hn : n ≤ 6) {r : Nat} {j x : Int} (hr : r < n) (h0 : 0 ≤ j) (h : j < (n : Nat)) : bx d q (.iastore :: is) nx ls (xI x :: xI j :: xR (16 + r) :: st) (V, G) = bx d q is nx ls st (vA V (16 + r) (vU (V (16 + r)) j x), G) := bx_iast (sf16 hG hn hr) h0 h
theorem aa22 (hG : Good n L G) {j : Int} (h0 : 0 ≤ j) (h : j < n) : bx d q (.aaload :: is) nx ls (xI j :: xR 22 :: st) (V, G) = bx d q is nx ls (xR (23 + j.toNat) :: st) (V, G) := bx_aald (gsh hG 22 rfl rfl) (Or.inl rfl) h0 h (hG.2.2.2 22 j (23 + j.toNat) (show (if 0 ≤ j ∧ j < (n : Int) then some (23 + j.toNat) else none) = _ from if_pos ⟨h0, h⟩))
theorem sf23 (hG : Good n L G) (hn : n ≤ 6) {r : Nat} (h : r < n) : G.1 (23 + r) = (1, n) := by
  refine gsh hG (23 + r) ?_ ?_
  · unfold okI
    rw [if_neg (by omega), if_neg (by omega), if_neg (by omega), if_pos (by omega)]
    exact decide_eq_true (by omega)
  · unfold shF
    rw [if_neg (by omega), if_neg (by omega), if_neg (by omega), if_neg (by omega), if_pos (by omega)]
theorem ia23 (hG : Good n L G) (hn : n ≤ 6) {r : Nat} {j : Int} (hr : r < n) (h0 : 0 ≤ j) (h : j < (n : Nat)) : bx d q (.iaload :: is) nx ls (xI j :: xR (23 + r) :: st) (V, G) = bx d q is nx ls (xI (V (23 + r) j) :: st) (V, G) := bx_iald (sf23 hG hn hr) h0 h
theorem is23 (hG : Good n L G) (hn : n ≤ 6) {r : Nat} {j x : Int} (hr : r < n) (h0 : 0 ≤ j) (h : j < (n : Nat)) : bx d q (.iastore :: is) nx ls (xI x :: xI j :: xR (23 + r) :: st) (V, G) = bx d q is nx ls st (vA V (23 + r) (vU (V (23 + r)) j x), G) := bx_iast (sf23 hG hn hr) h0 h
theorem aa218 (hG : Good n L G) {j : Int} (h0 : 0 ≤ j) (h : j < 40) : bx d q (.aaload :: is) nx ls (xI j :: xR 218 :: st) (V, G) = bx d q is nx ls (xR (219 + j.toNat) :: st) (V, G) := bx_aald (gsh hG 218 rfl rfl) (Or.inl rfl) h0 h (hG.2.2.2 218 j (219 + j.toNat) (show (if 0 ≤ j ∧ j < (40 : Int) then some (219 + j.toNat) else none) = _ from if_pos ⟨h0, h⟩))
theorem sf219 (hG : Good n L G) {r : Nat} (h : r < 40) : G.1 (219 + r) = (1, 6) := by
  refine gsh hG (219 + r) ?_ ?_
  · unfold okI
    rw [if_neg (by omega), if_neg (by omega), if_neg (by omega), if_neg (by omega)]
    exact decide_eq_true (by omega)
  · unfold shF
    rw [if_neg (by omega), if_neg (by omega), if_neg (by omega), if_neg (by omega), if_neg (by omega)]
    exact (show ∀ r, r < 40 → shL.getD (219 + r) (0, 0) = (1, 6) by decide +kernel) r h
theorem ia219 (hG : Good n L G) {r : Nat} {j : Int} (hr : r < 40) (h0 : 0 ≤ j) (h : j < 6) : bx d q (.iaload :: is) nx ls (xI j :: xR (219 + r) :: st) (V, G) = bx d q is nx ls (xI (V (219 + r) j) :: st) (V, G) := bx_iald (sf219 hG hr) h0 h
theorem is219 (hG : Good n L G) {r : Nat} {j x : Int} (hr : r < 40) (h0 : 0 ≤ j) (h : j < 6) : bx d q (.iastore :: is) nx ls (xI x :: xI j :: xR (219 + r) :: st) (V, G) = bx d q is nx ls st (vA V (219 + r) (vU (V (219 + r)) j x), G) := bx_iast (sf219 hG hr) h0 h
theorem aa259 (hG : Good n L G) {j : Int} (h0 : 0 ≤ j) (h : j < 40) : bx d q (.aaload :: is) nx ls (xI j :: xR 259 :: st) (V, G) = bx d q is nx ls (xR (260 + j.toNat) :: st) (V, G) := bx_aald (gsh hG 259 rfl rfl) (Or.inl rfl) h0 h (hG.2.2.2 259 j (260 + j.toNat) (show (if 0 ≤ j ∧ j < (40 : Int) then some (260 + j.toNat) else none) = _ from if_pos ⟨h0, h⟩))
theorem sf260 (hG : Good n L G) {r : Nat} (h : r < 40) : G.1 (260 + r) = (1, 6) := by
  refine gsh hG (260 + r) ?_ ?_
  · unfold okI
    rw [if_neg (by omega), if_neg (by omega), if_neg (by omega), if_neg (by omega)]
    exact decide_eq_true (by omega)
  · unfold shF
    rw [if_neg (by omega), if_neg (by omega), if_neg (by omega), if_neg (by omega), if_neg (by omega)]
    exact (show ∀ r, r < 40 → shL.getD (260 + r) (0, 0) = (1, 6) by decide +kernel) r h
theorem ia260 (hG : Good n L G) {r : Nat} {j : Int} (hr : r < 40) (h0 : 0 ≤ j) (h : j < 6) : bx d q (.iaload :: is) nx ls (xI j :: xR (260 + r) :: st) (V, G) = bx d q is nx ls (xI (V (260 + r) j) :: st) (V, G) := bx_iald (sf260 hG hr) h0 h
theorem is260 (hG : Good n L G) {r : Nat} {j x : Int} (hr : r < 40) (h0 : 0 ≤ j) (h : j < 6) : bx d q (.iastore :: is) nx ls (xI x :: xI j :: xR (260 + r) :: st) (V, G) = bx d q is nx ls st (vA V (260 + r) (vU (V (260 + r)) j x), G) := bx_iast (sf260 hG hr) h0 h
theorem aa300 (hG : Good n L G) {j : Int} (h0 : 0 ≤ j) (h : j < 40) : bx d q (.aaload :: is) nx ls (xI j :: xR 300 :: st) (V, G) = bx d q is nx ls (xR (301 + j.toNat) :: st) (V, G) := bx_aald (gsh hG 300 rfl rfl) (Or.inl rfl) h0 h (hG.2.2.2 300 j (301 + j.toNat) (show (if 0 ≤ j ∧ j < (40 : Int) then some (301 + j.toNat) else none) = _ from if_pos ⟨h0, h⟩))
theorem sf301 (hG : Good n L G) {r : Nat} (h : r < 40) : G.1 (301 + r) = (1, 36) := by
  refine gsh hG (301 + r) ?_ ?_
  · unfold okI
    rw [if_neg (by omega), if_neg (by omega), if_neg (by omega), if_neg (by omega)]
    exact decide_eq_true (by omega)
  · unfold shF
    rw [if_neg (by omega), if_neg (by omega), if_neg (by omega), if_neg (by omega), if_neg (by omega)]
    exact (show ∀ r, r < 40 → shL.getD (301 + r) (0, 0) = (1, 36) by decide +kernel) r h
theorem ia301 (hG : Good n L G) {r : Nat} {j : Int} (hr : r < 40) (h0 : 0 ≤ j) (h : j < 36) : bx d q (.iaload :: is) nx ls (xI j :: xR (301 + r) :: st) (V, G) = bx d q is nx ls (xI (V (301 + r) j) :: st) (V, G) := bx_iald (sf301 hG hr) h0 h
theorem is301 (hG : Good n L G) {r : Nat} {j x : Int} (hr : r < 40) (h0 : 0 ≤ j) (h : j < 36) : bx d q (.iastore :: is) nx ls (xI x :: xI j :: xR (301 + r) :: st) (V, G) = bx d q is nx ls st (vA V (301 + r) (vU (V (301 + r)) j x), G) := bx_iast (sf301 hG hr) h0 h
theorem aa350 (hG : Good n L G) {j : Int} (h0 : 0 ≤ j) (h : j < 13) : bx d q (.aaload :: is) nx ls (xI j :: xR 350 :: st) (V, G) = bx d q is nx ls (xR (351 + j.toNat) :: st) (V, G) := bx_aald (gsh hG 350 rfl rfl) (Or.inl rfl) h0 h (hG.2.2.2 350 j (351 + j.toNat) (show (if 0 ≤ j ∧ j < (13 : Int) then some (351 + j.toNat) else none) = _ from if_pos ⟨h0, h⟩))
theorem sf351 (hG : Good n L G) {r : Nat} (h : r < 13) : G.1 (351 + r) = (1, 6) := by
  refine gsh hG (351 + r) ?_ ?_
  · unfold okI
    rw [if_neg (by omega), if_neg (by omega), if_neg (by omega), if_neg (by omega)]
    exact decide_eq_true (by omega)
  · unfold shF
    rw [if_neg (by omega), if_neg (by omega), if_neg (by omega), if_neg (by omega), if_neg (by omega)]
    exact (show ∀ r, r < 13 → shL.getD (351 + r) (0, 0) = (1, 6) by decide +kernel) r h
theorem ia351 (hG : Good n L G) {r : Nat} {j : Int} (hr : r < 13) (h0 : 0 ≤ j) (h : j < 6) : bx d q (.iaload :: is) nx ls (xI j :: xR (351 + r) :: st) (V, G) = bx d q is nx ls (xI (V (351 + r) j) :: st) (V, G) := bx_iald (sf351 hG hr) h0 h
theorem is351 (hG : Good n L G) {r : Nat} {j x : Int} (hr : r < 13) (h0 : 0 ≤ j) (h : j < 6) : bx d q (.iastore :: is) nx ls (xI x :: xI j :: xR (351 + r) :: st) (V, G) = bx d q is nx ls st (vA V (351 + r) (vU (V (351 + r)) j x), G) := bx_iast (sf351 hG hr) h0 h
theorem aa365 (hG : Good n L G) {j : Int} (h0 : 0 ≤ j) (h : j < 6) : bx d q (.aaload :: is) nx ls (xI j :: xR 365 :: st) (V, G) = bx d q is nx ls (xR (366 + j.toNat) :: st) (V, G) := bx_aald (gsh hG 365 rfl rfl) (Or.inl rfl) h0 h (hG.2.2.2 365 j (366 + j.toNat) (show (if 0 ≤ j ∧ j < (6 : Int) then some (366 + j.toNat) else none) = _ from if_pos ⟨h0, h⟩))
theorem sf366 (hG : Good n L G) {r : Nat} (h : r < 6) : G.1 (366 + r) = (1, 97) := by
  refine gsh hG (366 + r) ?_ ?_
  · unfold okI
    rw [if_neg (by omega), if_neg (by omega), if_neg (by omega), if_neg (by omega)]
    exact decide_eq_true (by omega)
  · unfold shF
    rw [if_neg (by omega), if_neg (by omega), if_neg (by omega), if_neg (by omega), if_neg (by omega)]
    exact (show ∀ r, r < 6 → shL.getD (366 + r) (0, 0) = (1, 97) by decide +kernel) r h
theorem ia366 (hG : Good n L G) {r : Nat} {j : Int} (hr : r < 6) (h0 : 0 ≤ j) (h : j < 97) : bx d q (.iaload :: is) nx ls (xI j :: xR (366 + r) :: st) (V, G) = bx d q is nx ls (xI (V (366 + r) j) :: st) (V, G) := bx_iald (sf366 hG hr) h0 h
theorem is366 (hG : Good n L G) {r : Nat} {j x : Int} (hr : r < 6) (h0 : 0 ≤ j) (h : j < 97) : bx d q (.iastore :: is) nx ls (xI x :: xI j :: xR (366 + r) :: st) (V, G) = bx d q is nx ls st (vA V (366 + r) (vU (V (366 + r)) j x), G) := bx_iast (sf366 hG hr) h0 h
theorem gf1_0 (hG : Good n L G) : bx d q (.getfield 1000 :: is) nx ls (xR 1 :: st) (V, G) = bx d q is nx ls (xR 2 :: st) (V, G) := by
  rw [bx]
  have h : G.1 1 = (20, 0) := gsh hG 1 rfl rfl
  have h2 : G.2.1 1 ((1000 % 100 : Nat) : Int) = some 2 := hG.2.2.1 1 0 2 rfl
  simp only [xs, tA, h]
  rw [h2]; rfl
theorem gf1_1 (hG : Good n L G) : bx d q (.getfield 1001 :: is) nx ls (xR 1 :: st) (V, G) = bx d q is nx ls (xR 5 :: st) (V, G) := by
  rw [bx]
  have h : G.1 1 = (20, 0) := gsh hG 1 rfl rfl
  have h2 : G.2.1 1 ((1001 % 100 : Nat) : Int) = some 5 := hG.2.2.1 1 1 5 rfl
  simp only [xs, tA, h]
  rw [h2]; rfl
theorem gf1_2 (hG : Good n L G) : bx d q (.getfield 1002 :: is) nx ls (xR 1 :: st) (V, G) = bx d q is nx ls (xR 12 :: st) (V, G) := by
  rw [bx]
  have h : G.1 1 = (20, 0) := gsh hG 1 rfl rfl
  have h2 : G.2.1 1 ((1002 % 100 : Nat) : Int) = some 12 := hG.2.2.1 1 2 12 rfl
  simp only [xs, tA, h]
  rw [h2]; rfl
theorem gf1_3 (hG : Good n L G) : bx d q (.getfield 1003 :: is) nx ls (xR 1 :: st) (V, G) = bx d q is nx ls (xR 29 :: st) (V, G) := by
  rw [bx]
  have h : G.1 1 = (20, 0) := gsh hG 1 rfl rfl
  have h2 : G.2.1 1 ((1003 % 100 : Nat) : Int) = some 29 := hG.2.2.1 1 3 29 rfl
  simp only [xs, tA, h]
  rw [h2]; rfl
theorem gf1_4 (hG : Good n L G) : bx d q (.getfield 1004 :: is) nx ls (xR 1 :: st) (V, G) = bx d q is nx ls (xR 32 :: st) (V, G) := by
  rw [bx]
  have h : G.1 1 = (20, 0) := gsh hG 1 rfl rfl
  have h2 : G.2.1 1 ((1004 % 100 : Nat) : Int) = some 32 := hG.2.2.1 1 4 32 rfl
  simp only [xs, tA, h]
  rw [h2]; rfl
theorem gf1_5 (hG : Good n L G) : bx d q (.getfield 1005 :: is) nx ls (xR 1 :: st) (V, G) = bx d q is nx ls (xR 35 :: st) (V, G) := by
  rw [bx]
  have h : G.1 1 = (20, 0) := gsh hG 1 rfl rfl
  have h2 : G.2.1 1 ((1005 % 100 : Nat) : Int) = some 35 := hG.2.2.1 1 5 35 rfl
  simp only [xs, tA, h]
  rw [h2]; rfl
theorem gf1_6 (hG : Good n L G) : bx d q (.getfield 1006 :: is) nx ls (xR 1 :: st) (V, G) = bx d q is nx ls (xR 212 :: st) (V, G) := by
  rw [bx]
  have h : G.1 1 = (20, 0) := gsh hG 1 rfl rfl
  have h2 : G.2.1 1 ((1006 % 100 : Nat) : Int) = some 212 := hG.2.2.1 1 6 212 rfl
  simp only [xs, tA, h]
  rw [h2]; rfl
theorem gf1_7 (hG : Good n L G) : bx d q (.getfield 1007 :: is) nx ls (xR 1 :: st) (V, G) = bx d q is nx ls (xR 217 :: st) (V, G) := by
  rw [bx]
  have h : G.1 1 = (20, 0) := gsh hG 1 rfl rfl
  have h2 : G.2.1 1 ((1007 % 100 : Nat) : Int) = some 217 := hG.2.2.1 1 7 217 rfl
  simp only [xs, tA, h]
  rw [h2]; rfl
theorem gf1_8 (hG : Good n L G) : bx d q (.getfield 1008 :: is) nx ls (xR 1 :: st) (V, G) = bx d q is nx ls (xR 344 :: st) (V, G) := by
  rw [bx]
  have h : G.1 1 = (20, 0) := gsh hG 1 rfl rfl
  have h2 : G.2.1 1 ((1008 % 100 : Nat) : Int) = some 344 := hG.2.2.1 1 8 344 rfl
  simp only [xs, tA, h]
  rw [h2]; rfl
theorem gf1_9 (hG : Good n L G) : bx d q (.getfield 1009 :: is) nx ls (xR 1 :: st) (V, G) = bx d q is nx ls (xR 373 :: st) (V, G) := by
  rw [bx]
  have h : G.1 1 = (20, 0) := gsh hG 1 rfl rfl
  have h2 : G.2.1 1 ((1009 % 100 : Nat) : Int) = some 373 := hG.2.2.1 1 9 373 rfl
  simp only [xs, tA, h]
  rw [h2]; rfl
theorem gf2_0 (hG : Good n L G) : bx d q (.getfield 0 :: is) nx ls (xR 2 :: st) (V, G) = bx d q is nx ls (xR 3 :: st) (V, G) := by
  rw [bx]
  have h : G.1 2 = (10, 0) := gsh hG 2 rfl rfl
  have h2 : G.2.1 2 ((0 % 100 : Nat) : Int) = some 3 := hG.2.2.1 2 0 3 rfl
  simp only [xs, tA, h]
  rw [h2]; rfl
theorem gf2_1 (hG : Good n L G) : bx d q (.getfield 1 :: is) nx ls (xR 2 :: st) (V, G) = bx d q is nx ls (xR 4 :: st) (V, G) := by
  rw [bx]
  have h : G.1 2 = (10, 0) := gsh hG 2 rfl rfl
  have h2 : G.2.1 2 ((1 % 100 : Nat) : Int) = some 4 := hG.2.2.1 2 1 4 rfl
  simp only [xs, tA, h]
  rw [h2]; rfl
theorem gf5_0 (hG : Good n L G) : bx d q (.getfield 300 :: is) nx ls (xR 5 :: st) (V, G) = bx d q is nx ls (xI (V 5 0) :: st) (V, G) := by
  rw [bx]
  have h : G.1 5 = (13, 0) := gsh hG 5 rfl rfl
  simp only [xs, tA, h]
  rfl
theorem pf5_0 (hG : Good n L G) {x : Int} : bx d q (.putfield 300 :: is) nx ls (xI x :: xR 5 :: st) (V, G) = bx d q is nx ls st (vA V 5 (vU (V 5) 0 x), G) := by
  rw [bx]
  have h : G.1 5 = (13, 0) := gsh hG 5 rfl rfl
  simp only [xs, tI, tL, tA, h]
  rfl
theorem gf5_1 (hG : Good n L G) : bx d q (.getfield 301 :: is) nx ls (xR 5 :: st) (V, G) = bx d q is nx ls (xR 2 :: st) (V, G) := by
  rw [bx]
  have h : G.1 5 = (13, 0) := gsh hG 5 rfl rfl
  have h2 : G.2.1 5 ((301 % 100 : Nat) : Int) = some 2 := hG.2.2.1 5 1 2 rfl
  simp only [xs, tA, h]
  rw [h2]; rfl
theorem gf5_2 (hG : Good n L G) : bx d q (.getfield 302 :: is) nx ls (xR 5 :: st) (V, G) = bx d q is nx ls (xR 6 :: st) (V, G) := by
  rw [bx]
  have h : G.1 5 = (13, 0) := gsh hG 5 rfl rfl
  have h2 : G.2.1 5 ((302 % 100 : Nat) : Int) = some 6 := hG.2.2.1 5 2 6 rfl
  simp only [xs, tA, h]
  rw [h2]; rfl
theorem gf5_3 (hG : Good n L G) : bx d q (.getfield 303 :: is) nx ls (xR 5 :: st) (V, G) = bx d q is nx ls (xR 7 :: st) (V, G) := by
  rw [bx]
  have h : G.1 5 = (13, 0) := gsh hG 5 rfl rfl
  have h2 : G.2.1 5 ((303 % 100 : Nat) : Int) = some 7 := hG.2.2.1 5 3 7 rfl
  simp only [xs, tA, h]
  rw [h2]; rfl
theorem gf5_4 (hG : Good n L G) : bx d q (.getfield 304 :: is) nx ls (xR 5 :: st) (V, G) = bx d q is nx ls (xR 8 :: st) (V, G) := by
  rw [bx]
  have h : G.1 5 = (13, 0) := gsh hG 5 rfl rfl
  have h2 : G.2.1 5 ((304 % 100 : Nat) : Int) = some 8 := hG.2.2.1 5 4 8 rfl
  simp only [xs, tA, h]
  rw [h2]; rfl
theorem gf5_5 (hG : Good n L G) : bx d q (.getfield 305 :: is) nx ls (xR 5 :: st) (V, G) = bx d q is nx ls (xR 9 :: st) (V, G) := by
  rw [bx]
  have h : G.1 5 = (13, 0) := gsh hG 5 rfl rfl
  have h2 : G.2.1 5 ((305 % 100 : Nat) : Int) = some 9 := hG.2.2.1 5 5 9 rfl
  simp only [xs, tA, h]
  rw [h2]; rfl
theorem gf5_6 (hG : Good n L G) : bx d q (.getfield 306 :: is) nx ls (xR 5 :: st) (V, G) = bx d q is nx ls (xI (V 5 6) :: st) (V, G) := by
  rw [bx]
  have h : G.1 5 = (13, 0) := gsh hG 5 rfl rfl
  simp only [xs, tA, h]
  rfl
theorem pf5_6 (hG : Good n L G) {x : Int} : bx d q (.putfield 306 :: is) nx ls (xI x :: xR 5 :: st) (V, G) = bx d q is nx ls st (vA V 5 (vU (V 5) 6 x), G) := by
  rw [bx]
  have h : G.1 5 = (13, 0) := gsh hG 5 rfl rfl
  simp only [xs, tI, tL, tA, h]
  rfl
theorem gf5_7 (hG : Good n L G) : bx d q (.getfield 307 :: is) nx ls (xR 5 :: st) (V, G) = bx d q is nx ls (xR 10 :: st) (V, G) := by
  rw [bx]
  have h : G.1 5 = (13, 0) := gsh hG 5 rfl rfl
  have h2 : G.2.1 5 ((307 % 100 : Nat) : Int) = some 10 := hG.2.2.1 5 7 10 rfl
  simp only [xs, tA, h]
  rw [h2]; rfl
theorem gf5_8 (hG : Good n L G) : bx d q (.getfield 308 :: is) nx ls (xR 5 :: st) (V, G) = bx d q is nx ls (xR 11 :: st) (V, G) := by
  rw [bx]
  have h : G.1 5 = (13, 0) := gsh hG 5 rfl rfl
  have h2 : G.2.1 5 ((308 % 100 : Nat) : Int) = some 11 := hG.2.2.1 5 8 11 rfl
  simp only [xs, tA, h]
  rw [h2]; rfl
theorem gf12_0 (hG : Good n L G) : bx d q (.getfield 800 :: is) nx ls (xR 12 :: st) (V, G) = bx d q is nx ls (xI (V 12 0) :: st) (V, G) := by
  rw [bx]
  have h : G.1 12 = (18, 0) := gsh hG 12 rfl rfl
  simp only [xs, tA, h]
  rfl
theorem pf12_0 (hG : Good n L G) {x : Int} : bx d q (.putfield 800 :: is) nx ls (xI x :: xR 12 :: st) (V, G) = bx d q is nx ls st (vA V 12 (vU (V 12) 0 x), G) := by
  rw [bx]
  have h : G.1 12 = (18, 0) := gsh hG 12 rfl rfl
  simp only [xs, tI, tL, tA, h]
  rfl
theorem gf12_1 (hG : Good n L G) : bx d q (.getfield 801 :: is) nx ls (xR 12 :: st) (V, G) = bx d q is nx ls (xR 2 :: st) (V, G) := by
  rw [bx]
  have h : G.1 12 = (18, 0) := gsh hG 12 rfl rfl
  have h2 : G.2.1 12 ((801 % 100 : Nat) : Int) = some 2 := hG.2.2.1 12 1 2 rfl
  simp only [xs, tA, h]
  rw [h2]; rfl
theorem gf12_2 (hG : Good n L G) : bx d q (.getfield 802 :: is) nx ls (xR 12 :: st) (V, G) = bx d q is nx ls (xR 15 :: st) (V, G) := by
  rw [bx]
  have h : G.1 12 = (18, 0) := gsh hG 12 rfl rfl
  have h2 : G.2.1 12 ((802 % 100 : Nat) : Int) = some 15 := hG.2.2.1 12 2 15 rfl
  simp only [xs, tA, h]
  rw [h2]; rfl
theorem gf12_3 (hG : Good n L G) : bx d q (.getfield 803 :: is) nx ls (xR 12 :: st) (V, G) = bx d q is nx ls (xR 22 :: st) (V, G) := by
  rw [bx]
  have h : G.1 12 = (18, 0) := gsh hG 12 rfl rfl
  have h2 : G.2.1 12 ((803 % 100 : Nat) : Int) = some 22 := hG.2.2.1 12 3 22 rfl
  simp only [xs, tA, h]
  rw [h2]; rfl
theorem gf12_4 (hG : Good n L G) : bx d q (.getfield 804 :: is) nx ls (xR 12 :: st) (V, G) = bx d q is nx ls (xR 13 :: st) (V, G) := by
  rw [bx]
  have h : G.1 12 = (18, 0) := gsh hG 12 rfl rfl
  have h2 : G.2.1 12 ((804 % 100 : Nat) : Int) = some 13 := hG.2.2.1 12 4 13 rfl
  simp only [xs, tA, h]
  rw [h2]; rfl
theorem gf12_5 (hG : Good n L G) : bx d q (.getfield 805 :: is) nx ls (xR 12 :: st) (V, G) = bx d q is nx ls (xR 14 :: st) (V, G) := by
  rw [bx]
  have h : G.1 12 = (18, 0) := gsh hG 12 rfl rfl
  have h2 : G.2.1 12 ((805 % 100 : Nat) : Int) = some 14 := hG.2.2.1 12 5 14 rfl
  simp only [xs, tA, h]
  rw [h2]; rfl
theorem gf12_6 (hG : Good n L G) : bx d q (.getfield 806 :: is) nx ls (xR 12 :: st) (V, G) = bx d q is nx ls (xI (V 12 6) :: st) (V, G) := by
  rw [bx]
  have h : G.1 12 = (18, 0) := gsh hG 12 rfl rfl
  simp only [xs, tA, h]
  rfl
theorem pf12_6 (hG : Good n L G) {x : Int} : bx d q (.putfield 806 :: is) nx ls (xI x :: xR 12 :: st) (V, G) = bx d q is nx ls st (vA V 12 (vU (V 12) 6 x), G) := by
  rw [bx]
  have h : G.1 12 = (18, 0) := gsh hG 12 rfl rfl
  simp only [xs, tI, tL, tA, h]
  rfl
theorem gf12_7 (hG : Good n L G) : bx d q (.getfield 807 :: is) nx ls (xR 12 :: st) (V, G) = bx d q is nx ls (xI (V 12 7) :: st) (V, G) := by
  rw [bx]
  have h : G.1 12 = (18, 0) := gsh hG 12 rfl rfl
  simp only [xs, tA, h]
  rfl
theorem pf12_7 (hG : Good n L G) {x : Int} (hb : x = 0 ∨ x = 1) : bx d q (.putfield 807 :: is) nx ls (xI x :: xR 12 :: st) (V, G) = bx d q is nx ls st (vA V 12 (vU (V 12) 7 x), G) := by
  rw [bx]
  have h : G.1 12 = (18, 0) := gsh hG 12 rfl rfl
  simp only [xs, tI, tL, tA, h]
  rw [if_neg (show ¬ fT (807 / 100) (807 % 100) = 0 by decide +kernel), if_pos (show fT (807 / 100) (807 % 100) = 1 by decide +kernel), if_pos ⟨trivial, hb⟩]
  rfl
theorem gf32_0 (hG : Good n L G) : bx d q (.getfield 100 :: is) nx ls (xR 32 :: st) (V, G) = bx d q is nx ls (xR 5 :: st) (V, G) := by
  rw [bx]
  have h : G.1 32 = (11, 0) := gsh hG 32 rfl rfl
  have h2 : G.2.1 32 ((100 % 100 : Nat) : Int) = some 5 := hG.2.2.1 32 0 5 rfl
  simp only [xs, tA, h]
  rw [h2]; rfl
theorem gf32_1 (hG : Good n L G) : bx d q (.getfield 101 :: is) nx ls (xR 32 :: st) (V, G) = bx d q is nx ls (xR 29 :: st) (V, G) := by
  rw [bx]
  have h : G.1 32 = (11, 0) := gsh hG 32 rfl rfl
  have h2 : G.2.1 32 ((101 % 100 : Nat) : Int) = some 29 := hG.2.2.1 32 1 29 rfl
  simp only [xs, tA, h]
  rw [h2]; rfl
theorem gf32_2 (hG : Good n L G) : bx d q (.getfield 102 :: is) nx ls (xR 32 :: st) (V, G) = bx d q is nx ls (xR 33 :: st) (V, G) := by
  rw [bx]
  have h : G.1 32 = (11, 0) := gsh hG 32 rfl rfl
  have h2 : G.2.1 32 ((102 % 100 : Nat) : Int) = some 33 := hG.2.2.1 32 2 33 rfl
  simp only [xs, tA, h]
  rw [h2]; rfl
theorem gf32_3 (hG : Good n L G) : bx d q (.getfield 103 :: is) nx ls (xR 32 :: st) (V, G) = bx d q is nx ls (xR 34 :: st) (V, G) := by
  rw [bx]
  have h : G.1 32 = (11, 0) := gsh hG 32 rfl rfl
  have h2 : G.2.1 32 ((103 % 100 : Nat) : Int) = some 34 := hG.2.2.1 32 3 34 rfl
  simp only [xs, tA, h]
  rw [h2]; rfl
theorem gf32_4 (hG : Good n L G) : bx d q (.getfield 104 :: is) nx ls (xR 32 :: st) (V, G) = bx d q is nx ls (xI (V 32 4) :: st) (V, G) := by
  rw [bx]
  have h : G.1 32 = (11, 0) := gsh hG 32 rfl rfl
  simp only [xs, tA, h]
  rfl
theorem pf32_4 (hG : Good n L G) {x : Int} : bx d q (.putfield 104 :: is) nx ls (xI x :: xR 32 :: st) (V, G) = bx d q is nx ls st (vA V 32 (vU (V 32) 4 x), G) := by
  rw [bx]
  have h : G.1 32 = (11, 0) := gsh hG 32 rfl rfl
  simp only [xs, tI, tL, tA, h]
  rfl
theorem gf32_5 (hG : Good n L G) : bx d q (.getfield 105 :: is) nx ls (xR 32 :: st) (V, G) = bx d q is nx ls (xI (V 32 5) :: st) (V, G) := by
  rw [bx]
  have h : G.1 32 = (11, 0) := gsh hG 32 rfl rfl
  simp only [xs, tA, h]
  rfl
theorem pf32_5 (hG : Good n L G) {x : Int} : bx d q (.putfield 105 :: is) nx ls (xI x :: xR 32 :: st) (V, G) = bx d q is nx ls st (vA V 32 (vU (V 32) 5 x), G) := by
  rw [bx]
  have h : G.1 32 = (11, 0) := gsh hG 32 rfl rfl
  simp only [xs, tI, tL, tA, h]
  rfl
theorem gf35_0 (hG : Good n L G) : bx d q (.getfield 500 :: is) nx ls (xR 35 :: st) (V, G) = bx d q is nx ls (xI (V 35 0) :: st) (V, G) := by
  rw [bx]
  have h : G.1 35 = (15, 0) := gsh hG 35 rfl rfl
  simp only [xs, tA, h]
  rfl
theorem pf35_0 (hG : Good n L G) {x : Int} : bx d q (.putfield 500 :: is) nx ls (xI x :: xR 35 :: st) (V, G) = bx d q is nx ls st (vA V 35 (vU (V 35) 0 x), G) := by
  rw [bx]
  have h : G.1 35 = (15, 0) := gsh hG 35 rfl rfl
  simp only [xs, tI, tL, tA, h]
  rfl
theorem gf35_1 (hG : Good n L G) : bx d q (.getfield 501 :: is) nx ls (xR 35 :: st) (V, G) = bx d q is nx ls (xI (V 35 1) :: st) (V, G) := by
  rw [bx]
  have h : G.1 35 = (15, 0) := gsh hG 35 rfl rfl
  simp only [xs, tA, h]
  rfl
theorem pf35_1 (hG : Good n L G) {x : Int} : bx d q (.putfield 501 :: is) nx ls (xI x :: xR 35 :: st) (V, G) = bx d q is nx ls st (vA V 35 (vU (V 35) 1 x), G) := by
  rw [bx]
  have h : G.1 35 = (15, 0) := gsh hG 35 rfl rfl
  simp only [xs, tI, tL, tA, h]
  rfl
theorem gf35_2 (hG : Good n L G) : bx d q (.getfield 502 :: is) nx ls (xR 35 :: st) (V, G) = bx d q is nx ls (xR 36 :: st) (V, G) := by
  rw [bx]
  have h : G.1 35 = (15, 0) := gsh hG 35 rfl rfl
  have h2 : G.2.1 35 ((502 % 100 : Nat) : Int) = some 36 := hG.2.2.1 35 2 36 rfl
  simp only [xs, tA, h]
  rw [h2]; rfl
theorem gf35_3 (hG : Good n L G) : bx d q (.getfield 503 :: is) nx ls (xR 35 :: st) (V, G) = bx d q is nx ls (xR 37 :: st) (V, G) := by
  rw [bx]
  have h : G.1 35 = (15, 0) := gsh hG 35 rfl rfl
  have h2 : G.2.1 35 ((503 % 100 : Nat) : Int) = some 37 := hG.2.2.1 35 3 37 rfl
  simp only [xs, tA, h]
  rw [h2]; rfl
theorem gf35_4 (hG : Good n L G) : bx d q (.getfield 504 :: is) nx ls (xR 35 :: st) (V, G) = bx d q is nx ls (xR 38 :: st) (V, G) := by
  rw [bx]
  have h : G.1 35 = (15, 0) := gsh hG 35 rfl rfl
  have h2 : G.2.1 35 ((504 % 100 : Nat) : Int) = some 38 := hG.2.2.1 35 4 38 rfl
  simp only [xs, tA, h]
  rw [h2]; rfl
theorem gf35_5 (hG : Good n L G) : bx d q (.getfield 505 :: is) nx ls (xR 35 :: st) (V, G) = bx d q is nx ls (xR 39 :: st) (V, G) := by
  rw [bx]
  have h : G.1 35 = (15, 0) := gsh hG 35 rfl rfl
  have h2 : G.2.1 35 ((505 % 100 : Nat) : Int) = some 39 := hG.2.2.1 35 5 39 rfl
  simp only [xs, tA, h]
  rw [h2]; rfl
theorem gf35_6 (hG : Good n L G) : bx d q (.getfield 506 :: is) nx ls (xR 35 :: st) (V, G) = bx d q is nx ls (xR 40 :: st) (V, G) := by
  rw [bx]
  have h : G.1 35 = (15, 0) := gsh hG 35 rfl rfl
  have h2 : G.2.1 35 ((506 % 100 : Nat) : Int) = some 40 := hG.2.2.1 35 6 40 rfl
  simp only [xs, tA, h]
  rw [h2]; rfl
theorem gf35_7 (hG : Good n L G) : bx d q (.getfield 507 :: is) nx ls (xR 35 :: st) (V, G) = bx d q is nx ls (xI (V 35 7) :: st) (V, G) := by
  rw [bx]
  have h : G.1 35 = (15, 0) := gsh hG 35 rfl rfl
  simp only [xs, tA, h]
  rfl
theorem pf35_7 (hG : Good n L G) {x : Int} : bx d q (.putfield 507 :: is) nx ls (xI x :: xR 35 :: st) (V, G) = bx d q is nx ls st (vA V 35 (vU (V 35) 7 x), G) := by
  rw [bx]
  have h : G.1 35 = (15, 0) := gsh hG 35 rfl rfl
  simp only [xs, tI, tL, tA, h]
  rfl
theorem gf35_8 (hG : Good n L G) : bx d q (.getfield 508 :: is) nx ls (xR 35 :: st) (V, G) = bx d q is nx ls (xI (V 35 8) :: st) (V, G) := by
  rw [bx]
  have h : G.1 35 = (15, 0) := gsh hG 35 rfl rfl
  simp only [xs, tA, h]
  rfl
theorem pf35_8 (hG : Good n L G) {x : Int} : bx d q (.putfield 508 :: is) nx ls (xI x :: xR 35 :: st) (V, G) = bx d q is nx ls st (vA V 35 (vU (V 35) 8 x), G) := by
  rw [bx]
  have h : G.1 35 = (15, 0) := gsh hG 35 rfl rfl
  simp only [xs, tI, tL, tA, h]
  rfl
theorem gf35_9 (hG : Good n L G) : bx d q (.getfield 509 :: is) nx ls (xR 35 :: st) (V, G) = bx d q is nx ls (xI (V 35 9) :: st) (V, G) := by
  rw [bx]
  have h : G.1 35 = (15, 0) := gsh hG 35 rfl rfl
  simp only [xs, tA, h]
  rfl
theorem pf35_9 (hG : Good n L G) {x : Int} : bx d q (.putfield 509 :: is) nx ls (xI x :: xR 35 :: st) (V, G) = bx d q is nx ls st (vA V 35 (vU (V 35) 9 x), G) := by
  rw [bx]
  have h : G.1 35 = (15, 0) := gsh hG 35 rfl rfl
  simp only [xs, tI, tL, tA, h]
  rfl
theorem gf35_10 (hG : Good n L G) : bx d q (.getfield 510 :: is) nx ls (xR 35 :: st) (V, G) = bx d q is nx ls (xI (V 35 10) :: st) (V, G) := by
  rw [bx]
  have h : G.1 35 = (15, 0) := gsh hG 35 rfl rfl
  simp only [xs, tA, h]
  rfl
theorem pf35_10 (hG : Good n L G) {x : Int} (hb : x = 0 ∨ x = 1) : bx d q (.putfield 510 :: is) nx ls (xI x :: xR 35 :: st) (V, G) = bx d q is nx ls st (vA V 35 (vU (V 35) 10 x), G) := by
  rw [bx]
  have h : G.1 35 = (15, 0) := gsh hG 35 rfl rfl
  simp only [xs, tI, tL, tA, h]
  rw [if_neg (show ¬ fT (510 / 100) (510 % 100) = 0 by decide +kernel), if_pos (show fT (510 / 100) (510 % 100) = 1 by decide +kernel), if_pos ⟨trivial, hb⟩]
  rfl
theorem gf212_0 (hG : Good n L G) : bx d q (.getfield 200 :: is) nx ls (xR 212 :: st) (V, G) = bx d q is nx ls (xI (V 212 0) :: st) (V, G) := by
  rw [bx]
  have h : G.1 212 = (12, 0) := gsh hG 212 rfl rfl
  simp only [xs, tA, h]
  rfl
theorem pf212_0 (hG : Good n L G) {x : Int} : bx d q (.putfield 200 :: is) nx ls (xI x :: xR 212 :: st) (V, G) = bx d q is nx ls st (vA V 212 (vU (V 212) 0 x), G) := by
  rw [bx]
  have h : G.1 212 = (12, 0) := gsh hG 212 rfl rfl
  simp only [xs, tI, tL, tA, h]
  rfl
theorem gf212_1 (hG : Good n L G) : bx d q (.getfield 201 :: is) nx ls (xR 212 :: st) (V, G) = bx d q is nx ls (xI (V 212 1) :: st) (V, G) := by
  rw [bx]
  have h : G.1 212 = (12, 0) := gsh hG 212 rfl rfl
  simp only [xs, tA, h]
  rfl
theorem pf212_1 (hG : Good n L G) {x : Int} : bx d q (.putfield 201 :: is) nx ls (xI x :: xR 212 :: st) (V, G) = bx d q is nx ls st (vA V 212 (vU (V 212) 1 x), G) := by
  rw [bx]
  have h : G.1 212 = (12, 0) := gsh hG 212 rfl rfl
  simp only [xs, tI, tL, tA, h]
  rfl
theorem gf212_2 (hG : Good n L G) : bx d q (.getfield 202 :: is) nx ls (xR 212 :: st) (V, G) = bx d q is nx ls (xR 213 :: st) (V, G) := by
  rw [bx]
  have h : G.1 212 = (12, 0) := gsh hG 212 rfl rfl
  have h2 : G.2.1 212 ((202 % 100 : Nat) : Int) = some 213 := hG.2.2.1 212 2 213 rfl
  simp only [xs, tA, h]
  rw [h2]; rfl
theorem gf212_3 (hG : Good n L G) : bx d q (.getfield 203 :: is) nx ls (xR 212 :: st) (V, G) = bx d q is nx ls (xR 214 :: st) (V, G) := by
  rw [bx]
  have h : G.1 212 = (12, 0) := gsh hG 212 rfl rfl
  have h2 : G.2.1 212 ((203 % 100 : Nat) : Int) = some 214 := hG.2.2.1 212 3 214 rfl
  simp only [xs, tA, h]
  rw [h2]; rfl
theorem gf212_4 (hG : Good n L G) : bx d q (.getfield 204 :: is) nx ls (xR 212 :: st) (V, G) = bx d q is nx ls (xR 215 :: st) (V, G) := by
  rw [bx]
  have h : G.1 212 = (12, 0) := gsh hG 212 rfl rfl
  have h2 : G.2.1 212 ((204 % 100 : Nat) : Int) = some 215 := hG.2.2.1 212 4 215 rfl
  simp only [xs, tA, h]
  rw [h2]; rfl
theorem gf212_5 (hG : Good n L G) : bx d q (.getfield 205 :: is) nx ls (xR 212 :: st) (V, G) = bx d q is nx ls (xR 216 :: st) (V, G) := by
  rw [bx]
  have h : G.1 212 = (12, 0) := gsh hG 212 rfl rfl
  have h2 : G.2.1 212 ((205 % 100 : Nat) : Int) = some 216 := hG.2.2.1 212 5 216 rfl
  simp only [xs, tA, h]
  rw [h2]; rfl
theorem gf217_0 (hG : Good n L G) : bx d q (.getfield 700 :: is) nx ls (xR 217 :: st) (V, G) = bx d q is nx ls (xR 5 :: st) (V, G) := by
  rw [bx]
  have h : G.1 217 = (17, 0) := gsh hG 217 rfl rfl
  have h2 : G.2.1 217 ((700 % 100 : Nat) : Int) = some 5 := hG.2.2.1 217 0 5 rfl
  simp only [xs, tA, h]
  rw [h2]; rfl
theorem gf217_1 (hG : Good n L G) : bx d q (.getfield 701 :: is) nx ls (xR 217 :: st) (V, G) = bx d q is nx ls (xR 212 :: st) (V, G) := by
  rw [bx]
  have h : G.1 217 = (17, 0) := gsh hG 217 rfl rfl
  have h2 : G.2.1 217 ((701 % 100 : Nat) : Int) = some 212 := hG.2.2.1 217 1 212 rfl
  simp only [xs, tA, h]
  rw [h2]; rfl
theorem gf217_2 (hG : Good n L G) : bx d q (.getfield 702 :: is) nx ls (xR 217 :: st) (V, G) = bx d q is nx ls (xL (V 217 2) :: st) (V, G) := by
  rw [bx]
  have h : G.1 217 = (17, 0) := gsh hG 217 rfl rfl
  simp only [xs, tA, h]
  rfl
theorem pf217_2 (hG : Good n L G) {x : Int} : bx d q (.putfield 702 :: is) nx ls (xL x :: xR 217 :: st) (V, G) = bx d q is nx ls st (vA V 217 (vU (V 217) 2 x), G) := by
  rw [bx]
  have h : G.1 217 = (17, 0) := gsh hG 217 rfl rfl
  simp only [xs, tI, tL, tA, h]
  rfl
theorem gf217_3 (hG : Good n L G) : bx d q (.getfield 703 :: is) nx ls (xR 217 :: st) (V, G) = bx d q is nx ls (xI (V 217 3) :: st) (V, G) := by
  rw [bx]
  have h : G.1 217 = (17, 0) := gsh hG 217 rfl rfl
  simp only [xs, tA, h]
  rfl
theorem pf217_3 (hG : Good n L G) {x : Int} : bx d q (.putfield 703 :: is) nx ls (xI x :: xR 217 :: st) (V, G) = bx d q is nx ls st (vA V 217 (vU (V 217) 3 x), G) := by
  rw [bx]
  have h : G.1 217 = (17, 0) := gsh hG 217 rfl rfl
  simp only [xs, tI, tL, tA, h]
  rfl
theorem gf217_4 (hG : Good n L G) : bx d q (.getfield 704 :: is) nx ls (xR 217 :: st) (V, G) = bx d q is nx ls (xR 218 :: st) (V, G) := by
  rw [bx]
  have h : G.1 217 = (17, 0) := gsh hG 217 rfl rfl
  have h2 : G.2.1 217 ((704 % 100 : Nat) : Int) = some 218 := hG.2.2.1 217 4 218 rfl
  simp only [xs, tA, h]
  rw [h2]; rfl
theorem gf217_5 (hG : Good n L G) : bx d q (.getfield 705 :: is) nx ls (xR 217 :: st) (V, G) = bx d q is nx ls (xR 259 :: st) (V, G) := by
  rw [bx]
  have h : G.1 217 = (17, 0) := gsh hG 217 rfl rfl
  have h2 : G.2.1 217 ((705 % 100 : Nat) : Int) = some 259 := hG.2.2.1 217 5 259 rfl
  simp only [xs, tA, h]
  rw [h2]; rfl
theorem gf217_6 (hG : Good n L G) : bx d q (.getfield 706 :: is) nx ls (xR 217 :: st) (V, G) = bx d q is nx ls (xR 300 :: st) (V, G) := by
  rw [bx]
  have h : G.1 217 = (17, 0) := gsh hG 217 rfl rfl
  have h2 : G.2.1 217 ((706 % 100 : Nat) : Int) = some 300 := hG.2.2.1 217 6 300 rfl
  simp only [xs, tA, h]
  rw [h2]; rfl
theorem gf217_7 (hG : Good n L G) : bx d q (.getfield 707 :: is) nx ls (xR 217 :: st) (V, G) = bx d q is nx ls (xR 341 :: st) (V, G) := by
  rw [bx]
  have h : G.1 217 = (17, 0) := gsh hG 217 rfl rfl
  have h2 : G.2.1 217 ((707 % 100 : Nat) : Int) = some 341 := hG.2.2.1 217 7 341 rfl
  simp only [xs, tA, h]
  rw [h2]; rfl
theorem gf217_8 (hG : Good n L G) : bx d q (.getfield 708 :: is) nx ls (xR 217 :: st) (V, G) = bx d q is nx ls (xR 342 :: st) (V, G) := by
  rw [bx]
  have h : G.1 217 = (17, 0) := gsh hG 217 rfl rfl
  have h2 : G.2.1 217 ((708 % 100 : Nat) : Int) = some 342 := hG.2.2.1 217 8 342 rfl
  simp only [xs, tA, h]
  rw [h2]; rfl
theorem gf217_9 (hG : Good n L G) : bx d q (.getfield 709 :: is) nx ls (xR 217 :: st) (V, G) = bx d q is nx ls (xR 343 :: st) (V, G) := by
  rw [bx]
  have h : G.1 217 = (17, 0) := gsh hG 217 rfl rfl
  have h2 : G.2.1 217 ((709 % 100 : Nat) : Int) = some 343 := hG.2.2.1 217 9 343 rfl
  simp only [xs, tA, h]
  rw [h2]; rfl
theorem gf344_0 (hG : Good n L G) : bx d q (.getfield 400 :: is) nx ls (xR 344 :: st) (V, G) = bx d q is nx ls (xR 5 :: st) (V, G) := by
  rw [bx]
  have h : G.1 344 = (14, 0) := gsh hG 344 rfl rfl
  have h2 : G.2.1 344 ((400 % 100 : Nat) : Int) = some 5 := hG.2.2.1 344 0 5 rfl
  simp only [xs, tA, h]
  rw [h2]; rfl
theorem gf344_1 (hG : Good n L G) : bx d q (.getfield 401 :: is) nx ls (xR 344 :: st) (V, G) = bx d q is nx ls (xR 212 :: st) (V, G) := by
  rw [bx]
  have h : G.1 344 = (14, 0) := gsh hG 344 rfl rfl
  have h2 : G.2.1 344 ((401 % 100 : Nat) : Int) = some 212 := hG.2.2.1 344 1 212 rfl
  simp only [xs, tA, h]
  rw [h2]; rfl
theorem gf344_2 (hG : Good n L G) : bx d q (.getfield 402 :: is) nx ls (xR 344 :: st) (V, G) = bx d q is nx ls (xI (V 344 2) :: st) (V, G) := by
  rw [bx]
  have h : G.1 344 = (14, 0) := gsh hG 344 rfl rfl
  simp only [xs, tA, h]
  rfl
theorem pf344_2 (hG : Good n L G) {x : Int} (hb : x = 0 ∨ x = 1) : bx d q (.putfield 402 :: is) nx ls (xI x :: xR 344 :: st) (V, G) = bx d q is nx ls st (vA V 344 (vU (V 344) 2 x), G) := by
  rw [bx]
  have h : G.1 344 = (14, 0) := gsh hG 344 rfl rfl
  simp only [xs, tI, tL, tA, h]
  rw [if_neg (show ¬ fT (402 / 100) (402 % 100) = 0 by decide +kernel), if_pos (show fT (402 / 100) (402 % 100) = 1 by decide +kernel), if_pos ⟨trivial, hb⟩]
  rfl
theorem gf344_3 (hG : Good n L G) : bx d q (.getfield 403 :: is) nx ls (xR 344 :: st) (V, G) = bx d q is nx ls (xI (V 344 3) :: st) (V, G) := by
  rw [bx]
  have h : G.1 344 = (14, 0) := gsh hG 344 rfl rfl
  simp only [xs, tA, h]
  rfl
theorem pf344_3 (hG : Good n L G) {x : Int} : bx d q (.putfield 403 :: is) nx ls (xI x :: xR 344 :: st) (V, G) = bx d q is nx ls st (vA V 344 (vU (V 344) 3 x), G) := by
  rw [bx]
  have h : G.1 344 = (14, 0) := gsh hG 344 rfl rfl
  simp only [xs, tI, tL, tA, h]
  rfl
theorem gf344_4 (hG : Good n L G) : bx d q (.getfield 404 :: is) nx ls (xR 344 :: st) (V, G) = bx d q is nx ls (xI (V 344 4) :: st) (V, G) := by
  rw [bx]
  have h : G.1 344 = (14, 0) := gsh hG 344 rfl rfl
  simp only [xs, tA, h]
  rfl
theorem pf344_4 (hG : Good n L G) {x : Int} : bx d q (.putfield 404 :: is) nx ls (xI x :: xR 344 :: st) (V, G) = bx d q is nx ls st (vA V 344 (vU (V 344) 4 x), G) := by
  rw [bx]
  have h : G.1 344 = (14, 0) := gsh hG 344 rfl rfl
  simp only [xs, tI, tL, tA, h]
  rfl
theorem gf344_5 (hG : Good n L G) : bx d q (.getfield 405 :: is) nx ls (xR 344 :: st) (V, G) = bx d q is nx ls (xI (V 344 5) :: st) (V, G) := by
  rw [bx]
  have h : G.1 344 = (14, 0) := gsh hG 344 rfl rfl
  simp only [xs, tA, h]
  rfl
theorem pf344_5 (hG : Good n L G) {x : Int} : bx d q (.putfield 405 :: is) nx ls (xI x :: xR 344 :: st) (V, G) = bx d q is nx ls st (vA V 344 (vU (V 344) 5 x), G) := by
  rw [bx]
  have h : G.1 344 = (14, 0) := gsh hG 344 rfl rfl
  simp only [xs, tI, tL, tA, h]
  rfl
theorem gf344_6 (hG : Good n L G) : bx d q (.getfield 406 :: is) nx ls (xR 344 :: st) (V, G) = bx d q is nx ls (xR 345 :: st) (V, G) := by
  rw [bx]
  have h : G.1 344 = (14, 0) := gsh hG 344 rfl rfl
  have h2 : G.2.1 344 ((406 % 100 : Nat) : Int) = some 345 := hG.2.2.1 344 6 345 rfl
  simp only [xs, tA, h]
  rw [h2]; rfl
theorem gf344_7 (hG : Good n L G) : bx d q (.getfield 407 :: is) nx ls (xR 344 :: st) (V, G) = bx d q is nx ls (xR 346 :: st) (V, G) := by
  rw [bx]
  have h : G.1 344 = (14, 0) := gsh hG 344 rfl rfl
  have h2 : G.2.1 344 ((407 % 100 : Nat) : Int) = some 346 := hG.2.2.1 344 7 346 rfl
  simp only [xs, tA, h]
  rw [h2]; rfl
theorem gf344_8 (hG : Good n L G) : bx d q (.getfield 408 :: is) nx ls (xR 344 :: st) (V, G) = bx d q is nx ls (xR 347 :: st) (V, G) := by
  rw [bx]
  have h : G.1 344 = (14, 0) := gsh hG 344 rfl rfl
  have h2 : G.2.1 344 ((408 % 100 : Nat) : Int) = some 347 := hG.2.2.1 344 8 347 rfl
  simp only [xs, tA, h]
  rw [h2]; rfl
theorem gf344_9 (hG : Good n L G) : bx d q (.getfield 409 :: is) nx ls (xR 344 :: st) (V, G) = bx d q is nx ls (xR 348 :: st) (V, G) := by
  rw [bx]
  have h : G.1 344 = (14, 0) := gsh hG 344 rfl rfl
  have h2 : G.2.1 344 ((409 % 100 : Nat) : Int) = some 348 := hG.2.2.1 344 9 348 rfl
  simp only [xs, tA, h]
  rw [h2]; rfl
theorem gf344_10 (hG : Good n L G) : bx d q (.getfield 410 :: is) nx ls (xR 344 :: st) (V, G) = bx d q is nx ls (xR 349 :: st) (V, G) := by
  rw [bx]
  have h : G.1 344 = (14, 0) := gsh hG 344 rfl rfl
  have h2 : G.2.1 344 ((410 % 100 : Nat) : Int) = some 349 := hG.2.2.1 344 10 349 rfl
  simp only [xs, tA, h]
  rw [h2]; rfl
theorem gf344_11 (hG : Good n L G) : bx d q (.getfield 411 :: is) nx ls (xR 344 :: st) (V, G) = bx d q is nx ls (xR 350 :: st) (V, G) := by
  rw [bx]
  have h : G.1 344 = (14, 0) := gsh hG 344 rfl rfl
  have h2 : G.2.1 344 ((411 % 100 : Nat) : Int) = some 350 := hG.2.2.1 344 11 350 rfl
  simp only [xs, tA, h]
  rw [h2]; rfl
theorem gf344_12 (hG : Good n L G) : bx d q (.getfield 412 :: is) nx ls (xR 344 :: st) (V, G) = bx d q is nx ls (xR 364 :: st) (V, G) := by
  rw [bx]
  have h : G.1 344 = (14, 0) := gsh hG 344 rfl rfl
  have h2 : G.2.1 344 ((412 % 100 : Nat) : Int) = some 364 := hG.2.2.1 344 12 364 rfl
  simp only [xs, tA, h]
  rw [h2]; rfl
theorem gf344_13 (hG : Good n L G) : bx d q (.getfield 413 :: is) nx ls (xR 344 :: st) (V, G) = bx d q is nx ls (xR 365 :: st) (V, G) := by
  rw [bx]
  have h : G.1 344 = (14, 0) := gsh hG 344 rfl rfl
  have h2 : G.2.1 344 ((413 % 100 : Nat) : Int) = some 365 := hG.2.2.1 344 13 365 rfl
  simp only [xs, tA, h]
  rw [h2]; rfl
theorem gf344_14 (hG : Good n L G) : bx d q (.getfield 414 :: is) nx ls (xR 344 :: st) (V, G) = bx d q is nx ls (xR 372 :: st) (V, G) := by
  rw [bx]
  have h : G.1 344 = (14, 0) := gsh hG 344 rfl rfl
  have h2 : G.2.1 344 ((414 % 100 : Nat) : Int) = some 372 := hG.2.2.1 344 14 372 rfl
  simp only [xs, tA, h]
  rw [h2]; rfl
theorem gf373_0 (hG : Good n L G) : bx d q (.getfield 900 :: is) nx ls (xR 373 :: st) (V, G) = bx d q is nx ls (xR 5 :: st) (V, G) := by
  rw [bx]
  have h : G.1 373 = (19, 0) := gsh hG 373 rfl rfl
  have h2 : G.2.1 373 ((900 % 100 : Nat) : Int) = some 5 := hG.2.2.1 373 0 5 rfl
  simp only [xs, tA, h]
  rw [h2]; rfl
theorem gf373_1 (hG : Good n L G) : bx d q (.getfield 901 :: is) nx ls (xR 373 :: st) (V, G) = bx d q is nx ls (xR 374 :: st) (V, G) := by
  rw [bx]
  have h : G.1 373 = (19, 0) := gsh hG 373 rfl rfl
  have h2 : G.2.1 373 ((901 % 100 : Nat) : Int) = some 374 := hG.2.2.1 373 1 374 rfl
  simp only [xs, tA, h]
  rw [h2]; rfl
theorem gf373_2 (hG : Good n L G) : bx d q (.getfield 902 :: is) nx ls (xR 373 :: st) (V, G) = bx d q is nx ls (xR 375 :: st) (V, G) := by
  rw [bx]
  have h : G.1 373 = (19, 0) := gsh hG 373 rfl rfl
  have h2 : G.2.1 373 ((902 % 100 : Nat) : Int) = some 375 := hG.2.2.1 373 2 375 rfl
  simp only [xs, tA, h]
  rw [h2]; rfl
theorem gf376_0 (hG : Good n L G) : bx d q (.getfield 1100 :: is) nx ls (xR 376 :: st) (V, G) = bx d q is nx ls (xI (V 376 0) :: st) (V, G) := by
  rw [bx]
  have h : G.1 376 = (21, 0) := gsh hG 376 rfl rfl
  simp only [xs, tA, h]
  rfl
theorem pf376_0 (hG : Good n L G) {x : Int} : bx d q (.putfield 1100 :: is) nx ls (xI x :: xR 376 :: st) (V, G) = bx d q is nx ls st (vA V 376 (vU (V 376) 0 x), G) := by
  rw [bx]
  have h : G.1 376 = (21, 0) := gsh hG 376 rfl rfl
  simp only [xs, tI, tL, tA, h]
  rfl
theorem gf376_1 (hG : Good n L G) : bx d q (.getfield 1101 :: is) nx ls (xR 376 :: st) (V, G) = bx d q is nx ls (xR 377 :: st) (V, G) := by
  rw [bx]
  have h : G.1 376 = (21, 0) := gsh hG 376 rfl rfl
  have h2 : G.2.1 376 ((1101 % 100 : Nat) : Int) = some 377 := hG.2.2.1 376 1 377 rfl
  simp only [xs, tA, h]
  rw [h2]; rfl
theorem gf376_2 (hG : Good n L G) : bx d q (.getfield 1102 :: is) nx ls (xR 376 :: st) (V, G) = bx d q is nx ls (xR 378 :: st) (V, G) := by
  rw [bx]
  have h : G.1 376 = (21, 0) := gsh hG 376 rfl rfl
  have h2 : G.2.1 376 ((1102 % 100 : Nat) : Int) = some 378 := hG.2.2.1 376 2 378 rfl
  simp only [xs, tA, h]
  rw [h2]; rfl
theorem gf376_3 (hG : Good n L G) : bx d q (.getfield 1103 :: is) nx ls (xR 376 :: st) (V, G) = bx d q is nx ls (xR 379 :: st) (V, G) := by
  rw [bx]
  have h : G.1 376 = (21, 0) := gsh hG 376 rfl rfl
  have h2 : G.2.1 376 ((1103 % 100 : Nat) : Int) = some 379 := hG.2.2.1 376 3 379 rfl
  simp only [xs, tA, h]
  rw [h2]; rfl
theorem gf376_4 (hG : Good n L G) : bx d q (.getfield 1104 :: is) nx ls (xR 376 :: st) (V, G) = bx d q is nx ls (xR 380 :: st) (V, G) := by
  rw [bx]
  have h : G.1 376 = (21, 0) := gsh hG 376 rfl rfl
  have h2 : G.2.1 376 ((1104 % 100 : Nat) : Int) = some 380 := hG.2.2.1 376 4 380 rfl
  simp only [xs, tA, h]
  rw [h2]; rfl
theorem gf376_5 (hG : Good n L G) : bx d q (.getfield 1105 :: is) nx ls (xR 376 :: st) (V, G) = bx d q is nx ls (xR 381 :: st) (V, G) := by
  rw [bx]
  have h : G.1 376 = (21, 0) := gsh hG 376 rfl rfl
  have h2 : G.2.1 376 ((1105 % 100 : Nat) : Int) = some 381 := hG.2.2.1 376 5 381 rfl
  simp only [xs, tA, h]
  rw [h2]; rfl
theorem gf376_6 (hG : Good n L G) : bx d q (.getfield 1106 :: is) nx ls (xR 376 :: st) (V, G) = bx d q is nx ls (xR 382 :: st) (V, G) := by
  rw [bx]
  have h : G.1 376 = (21, 0) := gsh hG 376 rfl rfl
  have h2 : G.2.1 376 ((1106 % 100 : Nat) : Int) = some 382 := hG.2.2.1 376 6 382 rfl
  simp only [xs, tA, h]
  rw [h2]; rfl
theorem gf376_7 (hG : Good n L G) : bx d q (.getfield 1107 :: is) nx ls (xR 376 :: st) (V, G) = bx d q is nx ls (xI (V 376 7) :: st) (V, G) := by
  rw [bx]
  have h : G.1 376 = (21, 0) := gsh hG 376 rfl rfl
  simp only [xs, tA, h]
  rfl
theorem pf376_7 (hG : Good n L G) {x : Int} : bx d q (.putfield 1107 :: is) nx ls (xI x :: xR 376 :: st) (V, G) = bx d q is nx ls st (vA V 376 (vU (V 376) 7 x), G) := by
  rw [bx]
  have h : G.1 376 = (21, 0) := gsh hG 376 rfl rfl
  simp only [xs, tI, tL, tA, h]
  rfl
theorem gf376_8 (hG : Good n L G) : bx d q (.getfield 1108 :: is) nx ls (xR 376 :: st) (V, G) = bx d q is nx ls (xR 383 :: st) (V, G) := by
  rw [bx]
  have h : G.1 376 = (21, 0) := gsh hG 376 rfl rfl
  have h2 : G.2.1 376 ((1108 % 100 : Nat) : Int) = some 383 := hG.2.2.1 376 8 383 rfl
  simp only [xs, tA, h]
  rw [h2]; rfl
theorem gf376_9 (hG : Good n L G) : bx d q (.getfield 1109 :: is) nx ls (xR 376 :: st) (V, G) = bx d q is nx ls (xR 384 :: st) (V, G) := by
  rw [bx]
  have h : G.1 376 = (21, 0) := gsh hG 376 rfl rfl
  have h2 : G.2.1 376 ((1109 % 100 : Nat) : Int) = some 384 := hG.2.2.1 376 9 384 rfl
  simp only [xs, tA, h]
  rw [h2]; rfl
theorem gf376_10 (hG : Good n L G) : bx d q (.getfield 1110 :: is) nx ls (xR 376 :: st) (V, G) = bx d q is nx ls (xR 385 :: st) (V, G) := by
  rw [bx]
  have h : G.1 376 = (21, 0) := gsh hG 376 rfl rfl
  have h2 : G.2.1 376 ((1110 % 100 : Nat) : Int) = some 385 := hG.2.2.1 376 10 385 rfl
  simp only [xs, tA, h]
  rw [h2]; rfl
theorem gf376_11 (hG : Good n L G) : bx d q (.getfield 1111 :: is) nx ls (xR 376 :: st) (V, G) = bx d q is nx ls (xR 386 :: st) (V, G) := by
  rw [bx]
  have h : G.1 376 = (21, 0) := gsh hG 376 rfl rfl
  have h2 : G.2.1 376 ((1111 % 100 : Nat) : Int) = some 386 := hG.2.2.1 376 11 386 rfl
  simp only [xs, tA, h]
  rw [h2]; rfl
theorem gf376_12 (hG : Good n L G) : bx d q (.getfield 1112 :: is) nx ls (xR 376 :: st) (V, G) = bx d q is nx ls (xR 387 :: st) (V, G) := by
  rw [bx]
  have h : G.1 376 = (21, 0) := gsh hG 376 rfl rfl
  have h2 : G.2.1 376 ((1112 % 100 : Nat) : Int) = some 387 := hG.2.2.1 376 12 387 rfl
  simp only [xs, tA, h]
  rw [h2]; rfl
theorem gf376_13 (hG : Good n L G) : bx d q (.getfield 1113 :: is) nx ls (xR 376 :: st) (V, G) = bx d q is nx ls (xR 388 :: st) (V, G) := by
  rw [bx]
  have h : G.1 376 = (21, 0) := gsh hG 376 rfl rfl
  have h2 : G.2.1 376 ((1113 % 100 : Nat) : Int) = some 388 := hG.2.2.1 376 13 388 rfl
  simp only [xs, tA, h]
  rw [h2]; rfl
theorem gf376_14 (hG : Good n L G) : bx d q (.getfield 1114 :: is) nx ls (xR 376 :: st) (V, G) = bx d q is nx ls (xR 389 :: st) (V, G) := by
  rw [bx]
  have h : G.1 376 = (21, 0) := gsh hG 376 rfl rfl
  have h2 : G.2.1 376 ((1114 % 100 : Nat) : Int) = some 389 := hG.2.2.1 376 14 389 rfl
  simp only [xs, tA, h]
  rw [h2]; rfl
theorem gf376_15 (hG : Good n L G) : bx d q (.getfield 1115 :: is) nx ls (xR 376 :: st) (V, G) = bx d q is nx ls (xR 390 :: st) (V, G) := by
  rw [bx]
  have h : G.1 376 = (21, 0) := gsh hG 376 rfl rfl
  have h2 : G.2.1 376 ((1115 % 100 : Nat) : Int) = some 390 := hG.2.2.1 376 15 390 rfl
  simp only [xs, tA, h]
  rw [h2]; rfl
theorem gf376_16 (hG : Good n L G) : bx d q (.getfield 1116 :: is) nx ls (xR 376 :: st) (V, G) = bx d q is nx ls (xI (V 376 16) :: st) (V, G) := by
  rw [bx]
  have h : G.1 376 = (21, 0) := gsh hG 376 rfl rfl
  simp only [xs, tA, h]
  rfl
theorem pf376_16 (hG : Good n L G) {x : Int} : bx d q (.putfield 1116 :: is) nx ls (xI x :: xR 376 :: st) (V, G) = bx d q is nx ls st (vA V 376 (vU (V 376) 16 x), G) := by
  rw [bx]
  have h : G.1 376 = (21, 0) := gsh hG 376 rfl rfl
  simp only [xs, tI, tL, tA, h]
  rfl
theorem gf376_17 (hG : Good n L G) : bx d q (.getfield 1117 :: is) nx ls (xR 376 :: st) (V, G) = bx d q is nx ls (xI (V 376 17) :: st) (V, G) := by
  rw [bx]
  have h : G.1 376 = (21, 0) := gsh hG 376 rfl rfl
  simp only [xs, tA, h]
  rfl
theorem pf376_17 (hG : Good n L G) {x : Int} (hb : x = 0 ∨ x = 1) : bx d q (.putfield 1117 :: is) nx ls (xI x :: xR 376 :: st) (V, G) = bx d q is nx ls st (vA V 376 (vU (V 376) 17 x), G) := by
  rw [bx]
  have h : G.1 376 = (21, 0) := gsh hG 376 rfl rfl
  simp only [xs, tI, tL, tA, h]
  rw [if_neg (show ¬ fT (1117 / 100) (1117 % 100) = 0 by decide +kernel), if_pos (show fT (1117 / 100) (1117 % 100) = 1 by decide +kernel), if_pos ⟨trivial, hb⟩]
  rfl
theorem gf376_18 (hG : Good n L G) : bx d q (.getfield 1118 :: is) nx ls (xR 376 :: st) (V, G) = bx d q is nx ls (xI (V 376 18) :: st) (V, G) := by
  rw [bx]
  have h : G.1 376 = (21, 0) := gsh hG 376 rfl rfl
  simp only [xs, tA, h]
  rfl
theorem pf376_18 (hG : Good n L G) {x : Int} (hb : x = 0 ∨ x = 1) : bx d q (.putfield 1118 :: is) nx ls (xI x :: xR 376 :: st) (V, G) = bx d q is nx ls st (vA V 376 (vU (V 376) 18 x), G) := by
  rw [bx]
  have h : G.1 376 = (21, 0) := gsh hG 376 rfl rfl
  simp only [xs, tI, tL, tA, h]
  rw [if_neg (show ¬ fT (1118 / 100) (1118 % 100) = 0 by decide +kernel), if_pos (show fT (1118 / 100) (1118 % 100) = 1 by decide +kernel), if_pos ⟨trivial, hb⟩]
  rfl
theorem gf376_19 (hG : Good n L G) : bx d q (.getfield 1119 :: is) nx ls (xR 376 :: st) (V, G) = bx d q is nx ls (xR 391 :: st) (V, G) := by
  rw [bx]
  have h : G.1 376 = (21, 0) := gsh hG 376 rfl rfl
  have h2 : G.2.1 376 ((1119 % 100 : Nat) : Int) = some 391 := hG.2.2.1 376 19 391 rfl
  simp only [xs, tA, h]
  rw [h2]; rfl
theorem gf376_20 (hG : Good n L G) : bx d q (.getfield 1120 :: is) nx ls (xR 376 :: st) (V, G) = bx d q is nx ls (xR 392 :: st) (V, G) := by
  rw [bx]
  have h : G.1 376 = (21, 0) := gsh hG 376 rfl rfl
  have h2 : G.2.1 376 ((1120 % 100 : Nat) : Int) = some 392 := hG.2.2.1 376 20 392 rfl
  simp only [xs, tA, h]
  rw [h2]; rfl
theorem gf376_21 (hG : Good n L G) : bx d q (.getfield 1121 :: is) nx ls (xR 376 :: st) (V, G) = bx d q is nx ls (xI (V 376 21) :: st) (V, G) := by
  rw [bx]
  have h : G.1 376 = (21, 0) := gsh hG 376 rfl rfl
  simp only [xs, tA, h]
  rfl
theorem pf376_21 (hG : Good n L G) {x : Int} : bx d q (.putfield 1121 :: is) nx ls (xI x :: xR 376 :: st) (V, G) = bx d q is nx ls st (vA V 376 (vU (V 376) 21 x), G) := by
  rw [bx]
  have h : G.1 376 = (21, 0) := gsh hG 376 rfl rfl
  simp only [xs, tI, tL, tA, h]
  rfl
theorem gf376_22 (hG : Good n L G) : bx d q (.getfield 1122 :: is) nx ls (xR 376 :: st) (V, G) = bx d q is nx ls (xR 393 :: st) (V, G) := by
  rw [bx]
  have h : G.1 376 = (21, 0) := gsh hG 376 rfl rfl
  have h2 : G.2.1 376 ((1122 % 100 : Nat) : Int) = some 393 := hG.2.2.1 376 22 393 rfl
  simp only [xs, tA, h]
  rw [h2]; rfl
theorem gf376_23 (hG : Good n L G) : bx d q (.getfield 1123 :: is) nx ls (xR 376 :: st) (V, G) = bx d q is nx ls (xR 394 :: st) (V, G) := by
  rw [bx]
  have h : G.1 376 = (21, 0) := gsh hG 376 rfl rfl
  have h2 : G.2.1 376 ((1123 % 100 : Nat) : Int) = some 394 := hG.2.2.1 376 23 394 rfl
  simp only [xs, tA, h]
  rw [h2]; rfl
theorem gf376_24 (hG : Good n L G) : bx d q (.getfield 1124 :: is) nx ls (xR 376 :: st) (V, G) = bx d q is nx ls (xR 395 :: st) (V, G) := by
  rw [bx]
  have h : G.1 376 = (21, 0) := gsh hG 376 rfl rfl
  have h2 : G.2.1 376 ((1124 % 100 : Nat) : Int) = some 395 := hG.2.2.1 376 24 395 rfl
  simp only [xs, tA, h]
  rw [h2]; rfl
theorem gf376_25 (hG : Good n L G) : bx d q (.getfield 1125 :: is) nx ls (xR 376 :: st) (V, G) = bx d q is nx ls (xR 396 :: st) (V, G) := by
  rw [bx]
  have h : G.1 376 = (21, 0) := gsh hG 376 rfl rfl
  have h2 : G.2.1 376 ((1125 % 100 : Nat) : Int) = some 396 := hG.2.2.1 376 25 396 rfl
  simp only [xs, tA, h]
  rw [h2]; rfl
theorem gf376_26 (hG : Good n L G) : bx d q (.getfield 1126 :: is) nx ls (xR 376 :: st) (V, G) = bx d q is nx ls (xR 397 :: st) (V, G) := by
  rw [bx]
  have h : G.1 376 = (21, 0) := gsh hG 376 rfl rfl
  have h2 : G.2.1 376 ((1126 % 100 : Nat) : Int) = some 397 := hG.2.2.1 376 26 397 rfl
  simp only [xs, tA, h]
  rw [h2]; rfl
theorem gf376_27 (hG : Good n L G) : bx d q (.getfield 1127 :: is) nx ls (xR 376 :: st) (V, G) = bx d q is nx ls (xR 398 :: st) (V, G) := by
  rw [bx]
  have h : G.1 376 = (21, 0) := gsh hG 376 rfl rfl
  have h2 : G.2.1 376 ((1127 % 100 : Nat) : Int) = some 398 := hG.2.2.1 376 27 398 rfl
  simp only [xs, tA, h]
  rw [h2]; rfl
theorem gf376_28 (hG : Good n L G) : bx d q (.getfield 1128 :: is) nx ls (xR 376 :: st) (V, G) = bx d q is nx ls (xR 399 :: st) (V, G) := by
  rw [bx]
  have h : G.1 376 = (21, 0) := gsh hG 376 rfl rfl
  have h2 : G.2.1 376 ((1128 % 100 : Nat) : Int) = some 399 := hG.2.2.1 376 28 399 rfl
  simp only [xs, tA, h]
  rw [h2]; rfl
theorem gf376_29 (hG : Good n L G) : bx d q (.getfield 1129 :: is) nx ls (xR 376 :: st) (V, G) = bx d q is nx ls (xR 400 :: st) (V, G) := by
  rw [bx]
  have h : G.1 376 = (21, 0) := gsh hG 376 rfl rfl
  have h2 : G.2.1 376 ((1129 % 100 : Nat) : Int) = some 400 := hG.2.2.1 376 29 400 rfl
  simp only [xs, tA, h]
  rw [h2]; rfl
theorem gf376_30 (hG : Good n L G) : bx d q (.getfield 1130 :: is) nx ls (xR 376 :: st) (V, G) = bx d q is nx ls (xI (V 376 30) :: st) (V, G) := by
  rw [bx]
  have h : G.1 376 = (21, 0) := gsh hG 376 rfl rfl
  simp only [xs, tA, h]
  rfl
theorem pf376_30 (hG : Good n L G) {x : Int} : bx d q (.putfield 1130 :: is) nx ls (xI x :: xR 376 :: st) (V, G) = bx d q is nx ls st (vA V 376 (vU (V 376) 30 x), G) := by
  rw [bx]
  have h : G.1 376 = (21, 0) := gsh hG 376 rfl rfl
  simp only [xs, tI, tL, tA, h]
  rfl
theorem gf376_31 (hG : Good n L G) : bx d q (.getfield 1131 :: is) nx ls (xR 376 :: st) (V, G) = bx d q is nx ls (xI (V 376 31) :: st) (V, G) := by
  rw [bx]
  have h : G.1 376 = (21, 0) := gsh hG 376 rfl rfl
  simp only [xs, tA, h]
  rfl
theorem pf376_31 (hG : Good n L G) {x : Int} : bx d q (.putfield 1131 :: is) nx ls (xI x :: xR 376 :: st) (V, G) = bx d q is nx ls st (vA V 376 (vU (V 376) 31 x), G) := by
  rw [bx]
  have h : G.1 376 = (21, 0) := gsh hG 376 rfl rfl
  simp only [xs, tI, tL, tA, h]
  rfl
theorem gf376_32 (hG : Good n L G) : bx d q (.getfield 1132 :: is) nx ls (xR 376 :: st) (V, G) = bx d q is nx ls (xI (V 376 32) :: st) (V, G) := by
  rw [bx]
  have h : G.1 376 = (21, 0) := gsh hG 376 rfl rfl
  simp only [xs, tA, h]
  rfl
theorem pf376_32 (hG : Good n L G) {x : Int} : bx d q (.putfield 1132 :: is) nx ls (xI x :: xR 376 :: st) (V, G) = bx d q is nx ls st (vA V 376 (vU (V 376) 32 x), G) := by
  rw [bx]
  have h : G.1 376 = (21, 0) := gsh hG 376 rfl rfl
  simp only [xs, tI, tL, tA, h]
  rfl
theorem gf376_33 (hG : Good n L G) : bx d q (.getfield 1133 :: is) nx ls (xR 376 :: st) (V, G) = bx d q is nx ls (xI (V 376 33) :: st) (V, G) := by
  rw [bx]
  have h : G.1 376 = (21, 0) := gsh hG 376 rfl rfl
  simp only [xs, tA, h]
  rfl
theorem pf376_33 (hG : Good n L G) {x : Int} : bx d q (.putfield 1133 :: is) nx ls (xI x :: xR 376 :: st) (V, G) = bx d q is nx ls st (vA V 376 (vU (V 376) 33 x), G) := by
  rw [bx]
  have h : G.1 376 = (21, 0) := gsh hG 376 rfl rfl
  simp only [xs, tI, tL, tA, h]
  rfl
theorem gf376_34 (hG : Good n L G) : bx d q (.getfield 1134 :: is) nx ls (xR 376 :: st) (V, G) = bx d q is nx ls (xI (V 376 34) :: st) (V, G) := by
  rw [bx]
  have h : G.1 376 = (21, 0) := gsh hG 376 rfl rfl
  simp only [xs, tA, h]
  rfl
theorem pf376_34 (hG : Good n L G) {x : Int} : bx d q (.putfield 1134 :: is) nx ls (xI x :: xR 376 :: st) (V, G) = bx d q is nx ls st (vA V 376 (vU (V 376) 34 x), G) := by
  rw [bx]
  have h : G.1 376 = (21, 0) := gsh hG 376 rfl rfl
  simp only [xs, tI, tL, tA, h]
  rfl
theorem gf376_35 (hG : Good n L G) : bx d q (.getfield 1135 :: is) nx ls (xR 376 :: st) (V, G) = bx d q is nx ls (xR 401 :: st) (V, G) := by
  rw [bx]
  have h : G.1 376 = (21, 0) := gsh hG 376 rfl rfl
  have h2 : G.2.1 376 ((1135 % 100 : Nat) : Int) = some 401 := hG.2.2.1 376 35 401 rfl
  simp only [xs, tA, h]
  rw [h2]; rfl
theorem gf376_36 (hG : Good n L G) : bx d q (.getfield 1136 :: is) nx ls (xR 376 :: st) (V, G) = bx d q is nx ls (xR 402 :: st) (V, G) := by
  rw [bx]
  have h : G.1 376 = (21, 0) := gsh hG 376 rfl rfl
  have h2 : G.2.1 376 ((1136 % 100 : Nat) : Int) = some 402 := hG.2.2.1 376 36 402 rfl
  simp only [xs, tA, h]
  rw [h2]; rfl
theorem gf376_37 (hG : Good n L G) : bx d q (.getfield 1137 :: is) nx ls (xR 376 :: st) (V, G) = bx d q is nx ls (xR 403 :: st) (V, G) := by
  rw [bx]
  have h : G.1 376 = (21, 0) := gsh hG 376 rfl rfl
  have h2 : G.2.1 376 ((1137 % 100 : Nat) : Int) = some 403 := hG.2.2.1 376 37 403 rfl
  simp only [xs, tA, h]
  rw [h2]; rfl
theorem gf376_38 (hG : Good n L G) : bx d q (.getfield 1138 :: is) nx ls (xR 376 :: st) (V, G) = bx d q is nx ls (xR 404 :: st) (V, G) := by
  rw [bx]
  have h : G.1 376 = (21, 0) := gsh hG 376 rfl rfl
  have h2 : G.2.1 376 ((1138 % 100 : Nat) : Int) = some 404 := hG.2.2.1 376 38 404 rfl
  simp only [xs, tA, h]
  rw [h2]; rfl
theorem gf376_39 (hG : Good n L G) : bx d q (.getfield 1139 :: is) nx ls (xR 376 :: st) (V, G) = bx d q is nx ls (xR 405 :: st) (V, G) := by
  rw [bx]
  have h : G.1 376 = (21, 0) := gsh hG 376 rfl rfl
  have h2 : G.2.1 376 ((1139 % 100 : Nat) : Int) = some 405 := hG.2.2.1 376 39 405 rfl
  simp only [xs, tA, h]
  rw [h2]; rfl
theorem gf376_40 (hG : Good n L G) : bx d q (.getfield 1140 :: is) nx ls (xR 376 :: st) (V, G) = bx d q is nx ls (xR 406 :: st) (V, G) := by
  rw [bx]
  have h : G.1 376 = (21, 0) := gsh hG 376 rfl rfl
  have h2 : G.2.1 376 ((1140 % 100 : Nat) : Int) = some 406 := hG.2.2.1 376 40 406 rfl
  simp only [xs, tA, h]
  rw [h2]; rfl
theorem gf376_41 (hG : Good n L G) : bx d q (.getfield 1141 :: is) nx ls (xR 376 :: st) (V, G) = bx d q is nx ls (xI (V 376 41) :: st) (V, G) := by
  rw [bx]
  have h : G.1 376 = (21, 0) := gsh hG 376 rfl rfl
  simp only [xs, tA, h]
  rfl
theorem pf376_41 (hG : Good n L G) {x : Int} : bx d q (.putfield 1141 :: is) nx ls (xI x :: xR 376 :: st) (V, G) = bx d q is nx ls st (vA V 376 (vU (V 376) 41 x), G) := by
  rw [bx]
  have h : G.1 376 = (21, 0) := gsh hG 376 rfl rfl
  simp only [xs, tI, tL, tA, h]
  rfl
theorem gf376_42 (hG : Good n L G) : bx d q (.getfield 1142 :: is) nx ls (xR 376 :: st) (V, G) = bx d q is nx ls (xI (V 376 42) :: st) (V, G) := by
  rw [bx]
  have h : G.1 376 = (21, 0) := gsh hG 376 rfl rfl
  simp only [xs, tA, h]
  rfl
theorem pf376_42 (hG : Good n L G) {x : Int} : bx d q (.putfield 1142 :: is) nx ls (xI x :: xR 376 :: st) (V, G) = bx d q is nx ls st (vA V 376 (vU (V 376) 42 x), G) := by
  rw [bx]
  have h : G.1 376 = (21, 0) := gsh hG 376 rfl rfl
  simp only [xs, tI, tL, tA, h]
  rfl
theorem gf376_43 (hG : Good n L G) : bx d q (.getfield 1143 :: is) nx ls (xR 376 :: st) (V, G) = bx d q is nx ls (xI (V 376 43) :: st) (V, G) := by
  rw [bx]
  have h : G.1 376 = (21, 0) := gsh hG 376 rfl rfl
  simp only [xs, tA, h]
  rfl
theorem pf376_43 (hG : Good n L G) {x : Int} : bx d q (.putfield 1143 :: is) nx ls (xI x :: xR 376 :: st) (V, G) = bx d q is nx ls st (vA V 376 (vU (V 376) 43 x), G) := by
  rw [bx]
  have h : G.1 376 = (21, 0) := gsh hG 376 rfl rfl
  simp only [xs, tI, tL, tA, h]
  rfl
theorem gf376_44 (hG : Good n L G) : bx d q (.getfield 1144 :: is) nx ls (xR 376 :: st) (V, G) = bx d q is nx ls (xR 407 :: st) (V, G) := by
  rw [bx]
  have h : G.1 376 = (21, 0) := gsh hG 376 rfl rfl
  have h2 : G.2.1 376 ((1144 % 100 : Nat) : Int) = some 407 := hG.2.2.1 376 44 407 rfl
  simp only [xs, tA, h]
  rw [h2]; rfl
theorem gf376_45 (hG : Good n L G) : bx d q (.getfield 1145 :: is) nx ls (xR 376 :: st) (V, G) = bx d q is nx ls (xR 408 :: st) (V, G) := by
  rw [bx]
  have h : G.1 376 = (21, 0) := gsh hG 376 rfl rfl
  have h2 : G.2.1 376 ((1145 % 100 : Nat) : Int) = some 408 := hG.2.2.1 376 45 408 rfl
  simp only [xs, tA, h]
  rw [h2]; rfl
theorem gf376_46 (hG : Good n L G) : bx d q (.getfield 1146 :: is) nx ls (xR 376 :: st) (V, G) = bx d q is nx ls (xR 409 :: st) (V, G) := by
  rw [bx]
  have h : G.1 376 = (21, 0) := gsh hG 376 rfl rfl
  have h2 : G.2.1 376 ((1146 % 100 : Nat) : Int) = some 409 := hG.2.2.1 376 46 409 rfl
  simp only [xs, tA, h]
  rw [h2]; rfl
theorem gf376_47 (hG : Good n L G) : bx d q (.getfield 1147 :: is) nx ls (xR 376 :: st) (V, G) = bx d q is nx ls (xI (V 376 47) :: st) (V, G) := by
  rw [bx]
  have h : G.1 376 = (21, 0) := gsh hG 376 rfl rfl
  simp only [xs, tA, h]
  rfl
theorem pf376_47 (hG : Good n L G) {x : Int} : bx d q (.putfield 1147 :: is) nx ls (xI x :: xR 376 :: st) (V, G) = bx d q is nx ls st (vA V 376 (vU (V 376) 47 x), G) := by
  rw [bx]
  have h : G.1 376 = (21, 0) := gsh hG 376 rfl rfl
  simp only [xs, tI, tL, tA, h]
  rfl
theorem gf376_48 (hG : Good n L G) : bx d q (.getfield 1148 :: is) nx ls (xR 376 :: st) (V, G) = bx d q is nx ls (xI (V 376 48) :: st) (V, G) := by
  rw [bx]
  have h : G.1 376 = (21, 0) := gsh hG 376 rfl rfl
  simp only [xs, tA, h]
  rfl
theorem pf376_48 (hG : Good n L G) {x : Int} : bx d q (.putfield 1148 :: is) nx ls (xI x :: xR 376 :: st) (V, G) = bx d q is nx ls st (vA V 376 (vU (V 376) 48 x), G) := by
  rw [bx]
  have h : G.1 376 = (21, 0) := gsh hG 376 rfl rfl
  simp only [xs, tI, tL, tA, h]
  rfl
theorem gf376_49 (hG : Good n L G) : bx d q (.getfield 1149 :: is) nx ls (xR 376 :: st) (V, G) = bx d q is nx ls (xI (V 376 49) :: st) (V, G) := by
  rw [bx]
  have h : G.1 376 = (21, 0) := gsh hG 376 rfl rfl
  simp only [xs, tA, h]
  rfl
theorem pf376_49 (hG : Good n L G) {x : Int} : bx d q (.putfield 1149 :: is) nx ls (xI x :: xR 376 :: st) (V, G) = bx d q is nx ls st (vA V 376 (vU (V 376) 49 x), G) := by
  rw [bx]
  have h : G.1 376 = (21, 0) := gsh hG 376 rfl rfl
  simp only [xs, tI, tL, tA, h]
  rfl
theorem gf376_50 (hG : Good n L G) : bx d q (.getfield 1150 :: is) nx ls (xR 376 :: st) (V, G) = bx d q is nx ls (xI (V 376 50) :: st) (V, G) := by
  rw [bx]
  have h : G.1 376 = (21, 0) := gsh hG 376 rfl rfl
  simp only [xs, tA, h]
  rfl
theorem pf376_50 (hG : Good n L G) {x : Int} (hb : x = 0 ∨ x = 1) : bx d q (.putfield 1150 :: is) nx ls (xI x :: xR 376 :: st) (V, G) = bx d q is nx ls st (vA V 376 (vU (V 376) 50 x), G) := by
  rw [bx]
  have h : G.1 376 = (21, 0) := gsh hG 376 rfl rfl
  simp only [xs, tI, tL, tA, h]
  rw [if_neg (show ¬ fT (1150 / 100) (1150 % 100) = 0 by decide +kernel), if_pos (show fT (1150 / 100) (1150 % 100) = 1 by decide +kernel), if_pos ⟨trivial, hb⟩]
  rfl
theorem gf376_51 (hG : Good n L G) : bx d q (.getfield 1151 :: is) nx ls (xR 376 :: st) (V, G) = bx d q is nx ls (xR 410 :: st) (V, G) := by
  rw [bx]
  have h : G.1 376 = (21, 0) := gsh hG 376 rfl rfl
  have h2 : G.2.1 376 ((1151 % 100 : Nat) : Int) = some 410 := hG.2.2.1 376 51 410 rfl
  simp only [xs, tA, h]
  rw [h2]; rfl
def isRow (r : Nat) : Prop := r = 29 ∨ (∃ k : Nat, k < 51 ∧ r = 41 + 3 * k) ∨ (∃ k : Nat, k < 6 ∧ r = 194 + 3 * k)
theorem rw_tab : ∀ r, r < 411 → (r = 29 ∨ (41 ≤ r ∧ r < 212 ∧ (r + 1) % 3 = 0)) → shL.getD r (0, 0) = (16, 0) ∧ shL.getD (r + 1) (0, 0) = (1, 10) ∧ shL.getD (r + 2) (0, 0) = (1, 10) ∧ (rfL.getD r []).getD 0 none = some (r + 1) ∧ (rfL.getD r []).getD 1 none = some (r + 2) := by decide +kernel
theorem isRow_in {r : Nat} (h : isRow r) : r < 411 ∧ (r = 29 ∨ (41 ≤ r ∧ r < 212 ∧ (r + 1) % 3 = 0)) := by
  rcases h with h | ⟨k, h1, h2⟩ | ⟨k, h1, h2⟩ <;> omega
theorem rw_sh0 (hG : Good n L G) {r : Nat} (h : isRow r) : G.1 (r + 0) = (16, 0) := by
  obtain ⟨h1, h2⟩ := isRow_in h
  have h3 := rw_tab r h1 h2
  refine gsh hG (r + 0) ?_ ?_
  · unfold okI
    rw [if_neg (by omega), if_neg (by omega), if_neg (by omega), if_neg (by omega)]
    exact decide_eq_true (by omega)
  · unfold shF
    rw [if_neg (by omega), if_neg (by omega), if_neg (by omega), if_neg (by omega), if_neg (by omega)]
    exact h3.1
theorem rw_sh1 (hG : Good n L G) {r : Nat} (h : isRow r) : G.1 (r + 1) = (1, 10) := by
  obtain ⟨h1, h2⟩ := isRow_in h
  have h3 := rw_tab r h1 h2
  refine gsh hG (r + 1) ?_ ?_
  · unfold okI
    rw [if_neg (by omega), if_neg (by omega), if_neg (by omega), if_neg (by omega)]
    exact decide_eq_true (by omega)
  · unfold shF
    rw [if_neg (by omega), if_neg (by omega), if_neg (by omega), if_neg (by omega), if_neg (by omega)]
    exact h3.2.1
theorem rw_sh2 (hG : Good n L G) {r : Nat} (h : isRow r) : G.1 (r + 2) = (1, 10) := by
  obtain ⟨h1, h2⟩ := isRow_in h
  have h3 := rw_tab r h1 h2
  refine gsh hG (r + 2) ?_ ?_
  · unfold okI
    rw [if_neg (by omega), if_neg (by omega), if_neg (by omega), if_neg (by omega)]
    exact decide_eq_true (by omega)
  · unfold shF
    rw [if_neg (by omega), if_neg (by omega), if_neg (by omega), if_neg (by omega), if_neg (by omega)]
    exact h3.2.2.1
theorem rg_lane (hG : Good n L G) {r : Nat} (hr : isRow r) : bx d q (.getfield 600 :: is) nx ls (xR r :: st) (V, G) = bx d q is nx ls (xR (r + 1) :: st) (V, G) := by
  rw [bx]
  have h : G.1 r = (16, 0) := rw_sh0 hG hr
  obtain ⟨h1, h2⟩ := isRow_in hr
  have h3 := rw_tab r h1 h2
  have h4 : G.2.1 r ((600 % 100 : Nat) : Int) = some (r + 1) := hG.2.2.1 r 0 _ h3.2.2.2.1
  simp only [xs, tA, h]
  rw [h4]; rfl
theorem ri_lane (hG : Good n L G) {r : Nat} (hr : isRow r) {j : Int} (h0 : 0 ≤ j) (h : j < 10) : bx d q (.iaload :: is) nx ls (xI j :: xR (r + 1) :: st) (V, G) = bx d q is nx ls (xI (V (r + 1) j) :: st) (V, G) := bx_iald (rw_sh1 hG hr) h0 h
theorem rs_lane (hG : Good n L G) {r : Nat} (hr : isRow r) {j x : Int} (h0 : 0 ≤ j) (h : j < 10) : bx d q (.iastore :: is) nx ls (xI x :: xI j :: xR (r + 1) :: st) (V, G) = bx d q is nx ls st (vA V (r + 1) (vU (V (r + 1)) j x), G) := bx_iast (rw_sh1 hG hr) h0 h
theorem rg_turn (hG : Good n L G) {r : Nat} (hr : isRow r) : bx d q (.getfield 601 :: is) nx ls (xR r :: st) (V, G) = bx d q is nx ls (xR (r + 2) :: st) (V, G) := by
  rw [bx]
  have h : G.1 r = (16, 0) := rw_sh0 hG hr
  obtain ⟨h1, h2⟩ := isRow_in hr
  have h3 := rw_tab r h1 h2
  have h4 : G.2.1 r ((601 % 100 : Nat) : Int) = some (r + 2) := hG.2.2.1 r 1 _ h3.2.2.2.2
  simp only [xs, tA, h]
  rw [h4]; rfl
theorem ri_turn (hG : Good n L G) {r : Nat} (hr : isRow r) {j : Int} (h0 : 0 ≤ j) (h : j < 10) : bx d q (.iaload :: is) nx ls (xI j :: xR (r + 2) :: st) (V, G) = bx d q is nx ls (xI (V (r + 2) j) :: st) (V, G) := bx_iald (rw_sh2 hG hr) h0 h
theorem rs_turn (hG : Good n L G) {r : Nat} (hr : isRow r) {j x : Int} (h0 : 0 ≤ j) (h : j < 10) : bx d q (.iastore :: is) nx ls (xI x :: xI j :: xR (r + 2) :: st) (V, G) = bx d q is nx ls st (vA V (r + 2) (vU (V (r + 2)) j x), G) := bx_iast (rw_sh2 hG hr) h0 h
theorem rg_size (hG : Good n L G) {r : Nat} (hr : isRow r) : bx d q (.getfield 602 :: is) nx ls (xR r :: st) (V, G) = bx d q is nx ls (xI (V r 2) :: st) (V, G) := by
  rw [bx]
  have h : G.1 r = (16, 0) := rw_sh0 hG hr
  simp only [xs, tA, h]
  rfl
theorem rp_size (hG : Good n L G) {r : Nat} (hr : isRow r) {x : Int} : bx d q (.putfield 602 :: is) nx ls (xI x :: xR r :: st) (V, G) = bx d q is nx ls st (vA V r (vU (V r) 2 x), G) := by
  rw [bx]
  have h : G.1 r = (16, 0) := rw_sh0 hG hr
  simp only [xs, tI, tA, h]
  rfl
theorem aa37 (hG : Good n L G) {j : Int} (h0 : 0 ≤ j) (h : j < 51) : bx d q (.aaload :: is) nx ls (xI j :: xR 37 :: st) (V, G) = bx d q is nx ls (xR (41 + 3 * j.toNat) :: st) (V, G) := bx_aald (gsh hG 37 rfl rfl) (Or.inr rfl) h0 h (hG.2.2.2 37 j (41 + 3 * j.toNat) (show (if 0 ≤ j ∧ j < (51 : Int) then some (41 + 3 * j.toNat) else none) = _ from if_pos ⟨h0, h⟩))
theorem aa39 (hG : Good n L G) {j : Int} (h0 : 0 ≤ j) (h : j < 6) : bx d q (.aaload :: is) nx ls (xI j :: xR 39 :: st) (V, G) = bx d q is nx ls (xR (194 + 3 * j.toNat) :: st) (V, G) := bx_aald (gsh hG 39 rfl rfl) (Or.inr rfl) h0 h (hG.2.2.2 39 j (194 + 3 * j.toNat) (show (if 0 ≤ j ∧ j < (6 : Int) then some (194 + 3 * j.toNat) else none) = _ from if_pos ⟨h0, h⟩))
end ST
end
section
/-! CALLS, a lemma each -/
section CL
variable {n L : Nat} {d q : Nat} {is : List Instr} {nx : Nat} {ls st : List XV} {V : Nat → Int → Int} {G : XG} {μ : XM}
theorem cl0 {a : Nat}  (hr : st.length ≤ 4) : bx (d + 1) q (.invokespecial 0 :: is) nx ls (xR a :: st) μ = (run d 0 0 [xR a, xU] [] μ).bind fun o => bx (d + 1) q is nx ls (o.1.toList ++ st) o.2 := bx_calli (as := [xR a]) rfl rfl rfl hr (Nat.le_of_ble_eq_true rfl)
theorem cl100 {a : Nat} {x0 : Nat} {x1 : Nat} (hr : st.length ≤ 4) : bx (d + 1) q (.invokespecial 100 :: is) nx ls (xR x1 :: xR x0 :: xR a :: st) μ = (run d 100 0 [xR a, xR x0, xR x1] [] μ).bind fun o => bx (d + 1) q is nx ls (o.1.toList ++ st) o.2 := bx_calli (as := [xR a, xR x0, xR x1]) rfl rfl rfl hr (Nat.le_of_ble_eq_true rfl)
theorem cl200 {a : Nat}  (hr : st.length ≤ 4) : bx (d + 1) q (.invokespecial 200 :: is) nx ls (xR a :: st) μ = (run d 200 0 [xR a] [] μ).bind fun o => bx (d + 1) q is nx ls (o.1.toList ++ st) o.2 := bx_calli (as := [xR a]) rfl rfl rfl hr (Nat.le_of_ble_eq_true rfl)
theorem cl300 {a : Nat} {x0 : Int} {x1 : Nat} (hr : st.length ≤ 4) : bx (d + 1) q (.invokespecial 300 :: is) nx ls (xR x1 :: xI x0 :: xR a :: st) μ = (run d 300 0 [xR a, xI x0, xR x1, xU, xU] [] μ).bind fun o => bx (d + 1) q is nx ls (o.1.toList ++ st) o.2 := bx_calli (as := [xR a, xI x0, xR x1]) rfl rfl rfl hr (Nat.le_of_ble_eq_true rfl)
theorem cl400 {a : Nat} {x0 : Nat} {x1 : Nat} (hr : st.length ≤ 4) : bx (d + 1) q (.invokespecial 400 :: is) nx ls (xR x1 :: xR x0 :: xR a :: st) μ = (run d 400 0 [xR a, xR x0, xR x1] [] μ).bind fun o => bx (d + 1) q is nx ls (o.1.toList ++ st) o.2 := bx_calli (as := [xR a, xR x0, xR x1]) rfl rfl rfl hr (Nat.le_of_ble_eq_true rfl)
theorem cl500 {a : Nat} {x0 : Int} (hr : st.length ≤ 4) : bx (d + 1) q (.invokespecial 500 :: is) nx ls (xI x0 :: xR a :: st) μ = (run d 500 0 [xR a, xI x0, xU] [] μ).bind fun o => bx (d + 1) q is nx ls (o.1.toList ++ st) o.2 := bx_calli (as := [xR a, xI x0]) rfl rfl rfl hr (Nat.le_of_ble_eq_true rfl)
theorem cl600 {a : Nat}  (hr : st.length ≤ 4) : bx (d + 1) q (.invokespecial 600 :: is) nx ls (xR a :: st) μ = (run d 600 0 [xR a] [] μ).bind fun o => bx (d + 1) q is nx ls (o.1.toList ++ st) o.2 := bx_calli (as := [xR a]) rfl rfl rfl hr (Nat.le_of_ble_eq_true rfl)
theorem cl700 {a : Nat} {x0 : Nat} {x1 : Nat} (hr : st.length ≤ 4) : bx (d + 1) q (.invokespecial 700 :: is) nx ls (xR x1 :: xR x0 :: xR a :: st) μ = (run d 700 0 [xR a, xR x0, xR x1, xU, xU, xU] [] μ).bind fun o => bx (d + 1) q is nx ls (o.1.toList ++ st) o.2 := bx_calli (as := [xR a, xR x0, xR x1]) rfl rfl rfl hr (Nat.le_of_ble_eq_true rfl)
theorem cl800 {a : Nat} {x0 : Int} {x1 : Nat} (hr : st.length ≤ 4) : bx (d + 1) q (.invokespecial 800 :: is) nx ls (xR x1 :: xI x0 :: xR a :: st) μ = (run d 800 0 [xR a, xI x0, xR x1] [] μ).bind fun o => bx (d + 1) q is nx ls (o.1.toList ++ st) o.2 := bx_calli (as := [xR a, xI x0, xR x1]) rfl rfl rfl hr (Nat.le_of_ble_eq_true rfl)
theorem cl900 {a : Nat} {x0 : Nat} (hr : st.length ≤ 4) : bx (d + 1) q (.invokespecial 900 :: is) nx ls (xR x0 :: xR a :: st) μ = (run d 900 0 [xR a, xR x0] [] μ).bind fun o => bx (d + 1) q is nx ls (o.1.toList ++ st) o.2 := bx_calli (as := [xR a, xR x0]) rfl rfl rfl hr (Nat.le_of_ble_eq_true rfl)
theorem cl1000 {a : Nat} {x0 : Int} (hr : st.length ≤ 4) : bx (d + 1) q (.invokespecial 1000 :: is) nx ls (xI x0 :: xR a :: st) μ = (run d 1000 0 [xR a, xI x0, xU] [] μ).bind fun o => bx (d + 1) q is nx ls (o.1.toList ++ st) o.2 := bx_calli (as := [xR a, xI x0]) rfl rfl rfl hr (Nat.le_of_ble_eq_true rfl)
theorem cl1100 {a : Nat} {x0 : Int} (hr : st.length ≤ 4) : bx (d + 1) q (.invokespecial 1100 :: is) nx ls (xI x0 :: xR a :: st) μ = (run d 1100 0 [xR a, xI x0, xU, xU] [] μ).bind fun o => bx (d + 1) q is nx ls (o.1.toList ++ st) o.2 := bx_calli (as := [xR a, xI x0]) rfl rfl rfl hr (Nat.le_of_ble_eq_true rfl)
theorem cl510 {x0 : Int} (hr : st.length ≤ 4) : bx (d + 1) q (.invokestatic 510 :: is) nx ls (xI x0 :: st) μ = (run d 510 0 [xI x0] [] μ).bind fun o => bx (d + 1) q is nx ls (o.1.toList ++ st) o.2 := bx_calls (as := [xI x0]) rfl rfl hr (Nat.le_of_ble_eq_true rfl)
theorem cl1003 {x0 : Int} (hr : st.length ≤ 4) : bx (d + 1) q (.invokestatic 1003 :: is) nx ls (xI x0 :: st) μ = (run d 1003 0 [xI x0] [] μ).bind fun o => bx (d + 1) q is nx ls (o.1.toList ++ st) o.2 := bx_calls (as := [xI x0]) rfl rfl hr (Nat.le_of_ble_eq_true rfl)
theorem cl1021 {x0 : Int} (hr : st.length ≤ 4) : bx (d + 1) q (.invokestatic 1021 :: is) nx ls (xI x0 :: st) μ = (run d 1021 0 [xI x0] [] μ).bind fun o => bx (d + 1) q is nx ls (o.1.toList ++ st) o.2 := bx_calls (as := [xI x0]) rfl rfl hr (Nat.le_of_ble_eq_true rfl)
theorem cl1101 {x0 : Int} (hr : st.length ≤ 4) : bx (d + 1) q (.invokestatic 1101 :: is) nx ls (xI x0 :: st) μ = (run d 1101 0 [xI x0, xU] [] μ).bind fun o => bx (d + 1) q is nx ls (o.1.toList ++ st) o.2 := bx_calls (as := [xI x0]) rfl rfl hr (Nat.le_of_ble_eq_true rfl)
theorem cl1103 {x0 : Int} (hr : st.length ≤ 4) : bx (d + 1) q (.invokestatic 1103 :: is) nx ls (xI x0 :: st) μ = (run d 1103 0 [xI x0, xU] [] μ).bind fun o => bx (d + 1) q is nx ls (o.1.toList ++ st) o.2 := bx_calls (as := [xI x0]) rfl rfl hr (Nat.le_of_ble_eq_true rfl)
theorem cl1106 {x0 : Int} {x1 : Int} {x2 : Int} (hr : st.length ≤ 4) : bx (d + 1) q (.invokestatic 1106 :: is) nx ls (xL x2 :: xL x1 :: xL x0 :: st) μ = (run d 1106 0 [xL x0, xU, xL x1, xU, xL x2, xU] [] μ).bind fun o => bx (d + 1) q is nx ls (o.1.toList ++ st) o.2 := bx_calls (as := [xL x0, xL x1, xL x2]) rfl rfl hr (Nat.le_of_ble_eq_true rfl)
theorem cl1138 {x0 : Int} (hr : st.length ≤ 4) : bx (d + 1) q (.invokestatic 1138 :: is) nx ls (xI x0 :: st) μ = (run d 1138 0 [xI x0] [] μ).bind fun o => bx (d + 1) q is nx ls (o.1.toList ++ st) o.2 := bx_calls (as := [xI x0]) rfl rfl hr (Nat.le_of_ble_eq_true rfl)
theorem cl1157 {x0 : Int} (hr : st.length ≤ 4) : bx (d + 1) q (.invokestatic 1157 :: is) nx ls (xI x0 :: st) μ = (run d 1157 0 [xI x0] [] μ).bind fun o => bx (d + 1) q is nx ls (o.1.toList ++ st) o.2 := bx_calls (as := [xI x0]) rfl rfl hr (Nat.le_of_ble_eq_true rfl)
theorem cl1200 {x0 : Nat} {x1 : Int} (hr : st.length ≤ 4) : bx (d + 1) q (.invokestatic 1200 :: is) nx ls (xI x1 :: xR x0 :: st) μ = (run d 1200 0 [xR x0, xI x1] [] μ).bind fun o => bx (d + 1) q is nx ls (o.1.toList ++ st) o.2 := bx_calls (as := [xR x0, xI x1]) rfl rfl hr (Nat.le_of_ble_eq_true rfl)
theorem cl1300 {x0 : Int} {x1 : Int} (hr : st.length ≤ 4) : bx (d + 1) q (.invokestatic 1300 :: is) nx ls (xI x1 :: xI x0 :: st) μ = (run d 1300 0 [xI x0, xI x1, xU] [] μ).bind fun o => bx (d + 1) q is nx ls (o.1.toList ++ st) o.2 := bx_calls (as := [xI x0, xI x1]) rfl rfl hr (Nat.le_of_ble_eq_true rfl)
theorem cl1301 {x0 : Int} {x1 : Int} (hr : st.length ≤ 4) : bx (d + 1) q (.invokestatic 1301 :: is) nx ls (xI x1 :: xI x0 :: st) μ = (run d 1301 0 [xI x0, xI x1] [] μ).bind fun o => bx (d + 1) q is nx ls (o.1.toList ++ st) o.2 := bx_calls (as := [xI x0, xI x1]) rfl rfl hr (Nat.le_of_ble_eq_true rfl)
theorem cl1302 {x0 : Int} (hr : st.length ≤ 4) : bx (d + 1) q (.invokestatic 1302 :: is) nx ls (xI x0 :: st) μ = (run d 1302 0 [xI x0] [] μ).bind fun o => bx (d + 1) q is nx ls (o.1.toList ++ st) o.2 := bx_calls (as := [xI x0]) rfl rfl hr (Nat.le_of_ble_eq_true rfl)
theorem cl1303 {x0 : Int} {x1 : Int} (hr : st.length ≤ 4) : bx (d + 1) q (.invokestatic 1303 :: is) nx ls (xI x1 :: xI x0 :: st) μ = (run d 1303 0 [xI x0, xI x1] [] μ).bind fun o => bx (d + 1) q is nx ls (o.1.toList ++ st) o.2 := bx_calls (as := [xI x0, xI x1]) rfl rfl hr (Nat.le_of_ble_eq_true rfl)
theorem cl1400 {x0 : Nat} {x1 : Int} (hr : st.length ≤ 4) : bx (d + 1) q (.invokestatic 1400 :: is) nx ls (xI x1 :: xR x0 :: st) μ = (run d 1400 0 [xR x0, xI x1, xU, xU] [] μ).bind fun o => bx (d + 1) q is nx ls (o.1.toList ++ st) o.2 := bx_calls (as := [xR x0, xI x1]) rfl rfl hr (Nat.le_of_ble_eq_true rfl)
theorem cl1401 {x0 : Nat} {x1 : Int} {x2 : Int} {x3 : Int} (hr : st.length ≤ 4) : bx (d + 1) q (.invokestatic 1401 :: is) nx ls (xL x3 :: xI x2 :: xI x1 :: xR x0 :: st) μ = (run d 1401 0 [xR x0, xI x1, xI x2, xL x3, xU, xU] [] μ).bind fun o => bx (d + 1) q is nx ls (o.1.toList ++ st) o.2 := bx_calls (as := [xR x0, xI x1, xI x2, xL x3]) rfl rfl hr (Nat.le_of_ble_eq_true rfl)
theorem cl1402 {x0 : Int} {x1 : Int} {x2 : Int} (hr : st.length ≤ 4) : bx (d + 1) q (.invokestatic 1402 :: is) nx ls (xI x2 :: xI x1 :: xI x0 :: st) μ = (run d 1402 0 [xI x0, xI x1, xI x2] [] μ).bind fun o => bx (d + 1) q is nx ls (o.1.toList ++ st) o.2 := bx_calls (as := [xI x0, xI x1, xI x2]) rfl rfl hr (Nat.le_of_ble_eq_true rfl)
theorem cl1 (hG : Good n L G) {x0 : Nat} {x1 : Int} {x2 : Int} (hr : st.length ≤ 4) : bx (d + 1) q (.invokevirtual 1 :: is) nx ls (xI x2 :: xI x1 :: xR x0 :: xR 2 :: st) (V, G) = (run d 1 0 [xR 2, xR x0, xI x1, xI x2, xU, xU] [] (V, G)).bind fun o => bx (d + 1) q is nx ls (o.1.toList ++ st) o.2 := bx_callv (as := [xR 2, xR x0, xI x1, xI x2]) rfl rfl rfl (by rw [gsh hG 2 rfl rfl]; rfl) hr (Nat.le_of_ble_eq_true rfl)
theorem cl2 (hG : Good n L G) {x0 : Int} {x1 : Int} (hr : st.length ≤ 4) : bx (d + 1) q (.invokevirtual 2 :: is) nx ls (xI x1 :: xI x0 :: xR 2 :: st) (V, G) = (run d 2 0 [xR 2, xI x0, xI x1, xU] [] (V, G)).bind fun o => bx (d + 1) q is nx ls (o.1.toList ++ st) o.2 := bx_callv (as := [xR 2, xI x0, xI x1]) rfl rfl rfl (by rw [gsh hG 2 rfl rfl]; rfl) hr (Nat.le_of_ble_eq_true rfl)
theorem cl101 (hG : Good n L G)  (hr : st.length ≤ 4) : bx (d + 1) q (.invokevirtual 101 :: is) nx ls (xR 32 :: st) (V, G) = (run d 101 0 [xR 32, xU] [] (V, G)).bind fun o => bx (d + 1) q is nx ls (o.1.toList ++ st) o.2 := bx_callv (as := [xR 32]) rfl rfl rfl (by rw [gsh hG 32 rfl rfl]; rfl) hr (Nat.le_of_ble_eq_true rfl)
theorem cl102 (hG : Good n L G)  (hr : st.length ≤ 4) : bx (d + 1) q (.invokevirtual 102 :: is) nx ls (xR 32 :: st) (V, G) = (run d 102 0 [xR 32, xU, xU] [] (V, G)).bind fun o => bx (d + 1) q is nx ls (o.1.toList ++ st) o.2 := bx_callv (as := [xR 32]) rfl rfl rfl (by rw [gsh hG 32 rfl rfl]; rfl) hr (Nat.le_of_ble_eq_true rfl)
theorem cl103 (hG : Good n L G) {x0 : Int} {x1 : Int} (hr : st.length ≤ 4) : bx (d + 1) q (.invokevirtual 103 :: is) nx ls (xI x1 :: xI x0 :: xR 32 :: st) (V, G) = (run d 103 0 [xR 32, xI x0, xI x1, xU, xU, xU, xU, xU, xU] [] (V, G)).bind fun o => bx (d + 1) q is nx ls (o.1.toList ++ st) o.2 := bx_callv (as := [xR 32, xI x0, xI x1]) rfl rfl rfl (by rw [gsh hG 32 rfl rfl]; rfl) hr (Nat.le_of_ble_eq_true rfl)
theorem cl104 (hG : Good n L G) {x0 : Int} {x1 : Int} (hr : st.length ≤ 4) : bx (d + 1) q (.invokevirtual 104 :: is) nx ls (xI x1 :: xI x0 :: xR 32 :: st) (V, G) = (run d 104 0 [xR 32, xI x0, xI x1, xU, xU, xU, xU, xU, xU] [] (V, G)).bind fun o => bx (d + 1) q is nx ls (o.1.toList ++ st) o.2 := bx_callv (as := [xR 32, xI x0, xI x1]) rfl rfl rfl (by rw [gsh hG 32 rfl rfl]; rfl) hr (Nat.le_of_ble_eq_true rfl)
theorem cl105 (hG : Good n L G) {x0 : Int} {x1 : Int} (hr : st.length ≤ 4) : bx (d + 1) q (.invokevirtual 105 :: is) nx ls (xI x1 :: xI x0 :: xR 32 :: st) (V, G) = (run d 105 0 [xR 32, xI x0, xI x1, xU] [] (V, G)).bind fun o => bx (d + 1) q is nx ls (o.1.toList ++ st) o.2 := bx_callv (as := [xR 32, xI x0, xI x1]) rfl rfl rfl (by rw [gsh hG 32 rfl rfl]; rfl) hr (Nat.le_of_ble_eq_true rfl)
theorem cl106 (hG : Good n L G) {x0 : Int} (hr : st.length ≤ 4) : bx (d + 1) q (.invokevirtual 106 :: is) nx ls (xI x0 :: xR 32 :: st) (V, G) = (run d 106 0 [xR 32, xI x0, xU, xU, xU] [] (V, G)).bind fun o => bx (d + 1) q is nx ls (o.1.toList ++ st) o.2 := bx_callv (as := [xR 32, xI x0]) rfl rfl rfl (by rw [gsh hG 32 rfl rfl]; rfl) hr (Nat.le_of_ble_eq_true rfl)
theorem cl107 (hG : Good n L G) {x0 : Int} {x1 : Int} {x2 : Int} (hr : st.length ≤ 4) : bx (d + 1) q (.invokevirtual 107 :: is) nx ls (xI x2 :: xI x1 :: xI x0 :: xR 32 :: st) (V, G) = (run d 107 0 [xR 32, xI x0, xI x1, xI x2, xU, xU, xU, xU] [] (V, G)).bind fun o => bx (d + 1) q is nx ls (o.1.toList ++ st) o.2 := bx_callv (as := [xR 32, xI x0, xI x1, xI x2]) rfl rfl rfl (by rw [gsh hG 32 rfl rfl]; rfl) hr (Nat.le_of_ble_eq_true rfl)
theorem cl108 (hG : Good n L G) {x0 : Int} {x1 : Int} (hr : st.length ≤ 4) : bx (d + 1) q (.invokevirtual 108 :: is) nx ls (xI x1 :: xI x0 :: xR 32 :: st) (V, G) = (run d 108 0 [xR 32, xI x0, xI x1, xU, xU] [] (V, G)).bind fun o => bx (d + 1) q is nx ls (o.1.toList ++ st) o.2 := bx_callv (as := [xR 32, xI x0, xI x1]) rfl rfl rfl (by rw [gsh hG 32 rfl rfl]; rfl) hr (Nat.le_of_ble_eq_true rfl)
theorem cl201 (hG : Good n L G)  (hr : st.length ≤ 4) : bx (d + 1) q (.invokevirtual 201 :: is) nx ls (xR 212 :: st) (V, G) = (run d 201 0 [xR 212] [] (V, G)).bind fun o => bx (d + 1) q is nx ls (o.1.toList ++ st) o.2 := bx_callv (as := [xR 212]) rfl rfl rfl (by rw [gsh hG 212 rfl rfl]; rfl) hr (Nat.le_of_ble_eq_true rfl)
theorem cl202 (hG : Good n L G)  (hr : st.length ≤ 4) : bx (d + 1) q (.invokevirtual 202 :: is) nx ls (xR 212 :: st) (V, G) = (run d 202 0 [xR 212] [] (V, G)).bind fun o => bx (d + 1) q is nx ls (o.1.toList ++ st) o.2 := bx_callv (as := [xR 212]) rfl rfl rfl (by rw [gsh hG 212 rfl rfl]; rfl) hr (Nat.le_of_ble_eq_true rfl)
theorem cl203 (hG : Good n L G) {x0 : Int} {x1 : Nat} (hr : st.length ≤ 4) : bx (d + 1) q (.invokevirtual 203 :: is) nx ls (xR x1 :: xI x0 :: xR 212 :: st) (V, G) = (run d 203 0 [xR 212, xI x0, xR x1, xU, xU] [] (V, G)).bind fun o => bx (d + 1) q is nx ls (o.1.toList ++ st) o.2 := bx_callv (as := [xR 212, xI x0, xR x1]) rfl rfl rfl (by rw [gsh hG 212 rfl rfl]; rfl) hr (Nat.le_of_ble_eq_true rfl)
theorem cl204 (hG : Good n L G) {x0 : Int} {x1 : Int} {x2 : Int} (hr : st.length ≤ 4) : bx (d + 1) q (.invokevirtual 204 :: is) nx ls (xI x2 :: xI x1 :: xI x0 :: xR 212 :: st) (V, G) = (run d 204 0 [xR 212, xI x0, xI x1, xI x2] [] (V, G)).bind fun o => bx (d + 1) q is nx ls (o.1.toList ++ st) o.2 := bx_callv (as := [xR 212, xI x0, xI x1, xI x2]) rfl rfl rfl (by rw [gsh hG 212 rfl rfl]; rfl) hr (Nat.le_of_ble_eq_true rfl)
theorem cl301 (hG : Good n L G) {x0 : Int} {x1 : Int} (hr : st.length ≤ 4) : bx (d + 1) q (.invokevirtual 301 :: is) nx ls (xI x1 :: xI x0 :: xR 5 :: st) (V, G) = (run d 301 0 [xR 5, xI x0, xI x1] [] (V, G)).bind fun o => bx (d + 1) q is nx ls (o.1.toList ++ st) o.2 := bx_callv (as := [xR 5, xI x0, xI x1]) rfl rfl rfl (by rw [gsh hG 5 rfl rfl]; rfl) hr (Nat.le_of_ble_eq_true rfl)
theorem cl302 (hG : Good n L G) {x0 : Int} (hr : st.length ≤ 4) : bx (d + 1) q (.invokevirtual 302 :: is) nx ls (xI x0 :: xR 5 :: st) (V, G) = (run d 302 0 [xR 5, xI x0] [] (V, G)).bind fun o => bx (d + 1) q is nx ls (o.1.toList ++ st) o.2 := bx_callv (as := [xR 5, xI x0]) rfl rfl rfl (by rw [gsh hG 5 rfl rfl]; rfl) hr (Nat.le_of_ble_eq_true rfl)
theorem cl303 (hG : Good n L G) {x0 : Nat} {x1 : Int} (hr : st.length ≤ 4) : bx (d + 1) q (.invokevirtual 303 :: is) nx ls (xI x1 :: xR x0 :: xR 5 :: st) (V, G) = (run d 303 0 [xR 5, xR x0, xI x1, xU] [] (V, G)).bind fun o => bx (d + 1) q is nx ls (o.1.toList ++ st) o.2 := bx_callv (as := [xR 5, xR x0, xI x1]) rfl rfl rfl (by rw [gsh hG 5 rfl rfl]; rfl) hr (Nat.le_of_ble_eq_true rfl)
theorem cl304 (hG : Good n L G) {x0 : Nat} {x1 : Nat} {x2 : Int} (hr : st.length ≤ 4) : bx (d + 1) q (.invokevirtual 304 :: is) nx ls (xI x2 :: xR x1 :: xR x0 :: xR 5 :: st) (V, G) = (run d 304 0 [xR 5, xR x0, xR x1, xI x2] [] (V, G)).bind fun o => bx (d + 1) q is nx ls (o.1.toList ++ st) o.2 := bx_callv (as := [xR 5, xR x0, xR x1, xI x2]) rfl rfl rfl (by rw [gsh hG 5 rfl rfl]; rfl) hr (Nat.le_of_ble_eq_true rfl)
theorem cl305 (hG : Good n L G) {x0 : Nat} {x1 : Int} (hr : st.length ≤ 4) : bx (d + 1) q (.invokevirtual 305 :: is) nx ls (xI x1 :: xR x0 :: xR 5 :: st) (V, G) = (run d 305 0 [xR 5, xR x0, xI x1, xU, xU] [] (V, G)).bind fun o => bx (d + 1) q is nx ls (o.1.toList ++ st) o.2 := bx_callv (as := [xR 5, xR x0, xI x1]) rfl rfl rfl (by rw [gsh hG 5 rfl rfl]; rfl) hr (Nat.le_of_ble_eq_true rfl)
theorem cl306 (hG : Good n L G) {x0 : Int} (hr : st.length ≤ 4) : bx (d + 1) q (.invokevirtual 306 :: is) nx ls (xI x0 :: xR 5 :: st) (V, G) = (run d 306 0 [xR 5, xI x0, xU] [] (V, G)).bind fun o => bx (d + 1) q is nx ls (o.1.toList ++ st) o.2 := bx_callv (as := [xR 5, xI x0]) rfl rfl rfl (by rw [gsh hG 5 rfl rfl]; rfl) hr (Nat.le_of_ble_eq_true rfl)
theorem cl307 (hG : Good n L G) {x0 : Nat} {x1 : Nat} {x2 : Int} {x3 : Int} (hr : st.length ≤ 4) : bx (d + 1) q (.invokevirtual 307 :: is) nx ls (xI x3 :: xI x2 :: xR x1 :: xR x0 :: xR 5 :: st) (V, G) = (run d 307 0 [xR 5, xR x0, xR x1, xI x2, xI x3, xU] [] (V, G)).bind fun o => bx (d + 1) q is nx ls (o.1.toList ++ st) o.2 := bx_callv (as := [xR 5, xR x0, xR x1, xI x2, xI x3]) rfl rfl rfl (by rw [gsh hG 5 rfl rfl]; rfl) hr (Nat.le_of_ble_eq_true rfl)
theorem cl308 (hG : Good n L G) {x0 : Int} (hr : st.length ≤ 4) : bx (d + 1) q (.invokevirtual 308 :: is) nx ls (xI x0 :: xR 5 :: st) (V, G) = (run d 308 0 [xR 5, xI x0] [] (V, G)).bind fun o => bx (d + 1) q is nx ls (o.1.toList ++ st) o.2 := bx_callv (as := [xR 5, xI x0]) rfl rfl rfl (by rw [gsh hG 5 rfl rfl]; rfl) hr (Nat.le_of_ble_eq_true rfl)
theorem cl309 (hG : Good n L G) {x0 : Nat} {x1 : Nat} {x2 : Nat} (hr : st.length ≤ 4) : bx (d + 1) q (.invokevirtual 309 :: is) nx ls (xR x2 :: xR x1 :: xR x0 :: xR 5 :: st) (V, G) = (run d 309 0 [xR 5, xR x0, xR x1, xR x2, xU] [] (V, G)).bind fun o => bx (d + 1) q is nx ls (o.1.toList ++ st) o.2 := bx_callv (as := [xR 5, xR x0, xR x1, xR x2]) rfl rfl rfl (by rw [gsh hG 5 rfl rfl]; rfl) hr (Nat.le_of_ble_eq_true rfl)
theorem cl310 (hG : Good n L G)  (hr : st.length ≤ 4) : bx (d + 1) q (.invokevirtual 310 :: is) nx ls (xR 5 :: st) (V, G) = (run d 310 0 [xR 5, xU, xU] [] (V, G)).bind fun o => bx (d + 1) q is nx ls (o.1.toList ++ st) o.2 := bx_callv (as := [xR 5]) rfl rfl rfl (by rw [gsh hG 5 rfl rfl]; rfl) hr (Nat.le_of_ble_eq_true rfl)
theorem cl311 (hG : Good n L G)  (hr : st.length ≤ 4) : bx (d + 1) q (.invokevirtual 311 :: is) nx ls (xR 5 :: st) (V, G) = (run d 311 0 [xR 5, xU, xU] [] (V, G)).bind fun o => bx (d + 1) q is nx ls (o.1.toList ++ st) o.2 := bx_callv (as := [xR 5]) rfl rfl rfl (by rw [gsh hG 5 rfl rfl]; rfl) hr (Nat.le_of_ble_eq_true rfl)
theorem cl312 (hG : Good n L G) {x0 : Int} (hr : st.length ≤ 4) : bx (d + 1) q (.invokevirtual 312 :: is) nx ls (xI x0 :: xR 5 :: st) (V, G) = (run d 312 0 [xR 5, xI x0, xU] [] (V, G)).bind fun o => bx (d + 1) q is nx ls (o.1.toList ++ st) o.2 := bx_callv (as := [xR 5, xI x0]) rfl rfl rfl (by rw [gsh hG 5 rfl rfl]; rfl) hr (Nat.le_of_ble_eq_true rfl)
theorem cl401 (hG : Good n L G)  (hr : st.length ≤ 4) : bx (d + 1) q (.invokevirtual 401 :: is) nx ls (xR 344 :: st) (V, G) = (run d 401 0 [xR 344, xU] [] (V, G)).bind fun o => bx (d + 1) q is nx ls (o.1.toList ++ st) o.2 := bx_callv (as := [xR 344]) rfl rfl rfl (by rw [gsh hG 344 rfl rfl]; rfl) hr (Nat.le_of_ble_eq_true rfl)
theorem cl402 (hG : Good n L G) {x0 : Int} (hr : st.length ≤ 4) : bx (d + 1) q (.invokevirtual 402 :: is) nx ls (xI x0 :: xR 344 :: st) (V, G) = (run d 402 0 [xR 344, xI x0, xU] [] (V, G)).bind fun o => bx (d + 1) q is nx ls (o.1.toList ++ st) o.2 := bx_callv (as := [xR 344, xI x0]) rfl rfl rfl (by rw [gsh hG 344 rfl rfl]; rfl) hr (Nat.le_of_ble_eq_true rfl)
theorem cl403 (hG : Good n L G) {x0 : Int} {x1 : Int} {x2 : Int} (hr : st.length ≤ 4) : bx (d + 1) q (.invokevirtual 403 :: is) nx ls (xI x2 :: xI x1 :: xI x0 :: xR 344 :: st) (V, G) = (run d 403 0 [xR 344, xI x0, xI x1, xI x2, xU, xU] [] (V, G)).bind fun o => bx (d + 1) q is nx ls (o.1.toList ++ st) o.2 := bx_callv (as := [xR 344, xI x0, xI x1, xI x2]) rfl rfl rfl (by rw [gsh hG 344 rfl rfl]; rfl) hr (Nat.le_of_ble_eq_true rfl)
theorem cl404 (hG : Good n L G) {x0 : Int} (hr : st.length ≤ 4) : bx (d + 1) q (.invokevirtual 404 :: is) nx ls (xI x0 :: xR 344 :: st) (V, G) = (run d 404 0 [xR 344, xI x0, xU] [] (V, G)).bind fun o => bx (d + 1) q is nx ls (o.1.toList ++ st) o.2 := bx_callv (as := [xR 344, xI x0]) rfl rfl rfl (by rw [gsh hG 344 rfl rfl]; rfl) hr (Nat.le_of_ble_eq_true rfl)
theorem cl405 (hG : Good n L G) {x0 : Int} (hr : st.length ≤ 4) : bx (d + 1) q (.invokevirtual 405 :: is) nx ls (xI x0 :: xR 344 :: st) (V, G) = (run d 405 0 [xR 344, xI x0] [] (V, G)).bind fun o => bx (d + 1) q is nx ls (o.1.toList ++ st) o.2 := bx_callv (as := [xR 344, xI x0]) rfl rfl rfl (by rw [gsh hG 344 rfl rfl]; rfl) hr (Nat.le_of_ble_eq_true rfl)
theorem cl406 (hG : Good n L G) {x0 : Int} (hr : st.length ≤ 4) : bx (d + 1) q (.invokevirtual 406 :: is) nx ls (xI x0 :: xR 344 :: st) (V, G) = (run d 406 0 [xR 344, xI x0, xU, xU, xU] [] (V, G)).bind fun o => bx (d + 1) q is nx ls (o.1.toList ++ st) o.2 := bx_callv (as := [xR 344, xI x0]) rfl rfl rfl (by rw [gsh hG 344 rfl rfl]; rfl) hr (Nat.le_of_ble_eq_true rfl)
theorem cl407 (hG : Good n L G) {x0 : Int} (hr : st.length ≤ 4) : bx (d + 1) q (.invokevirtual 407 :: is) nx ls (xI x0 :: xR 344 :: st) (V, G) = (run d 407 0 [xR 344, xI x0, xU, xU] [] (V, G)).bind fun o => bx (d + 1) q is nx ls (o.1.toList ++ st) o.2 := bx_callv (as := [xR 344, xI x0]) rfl rfl rfl (by rw [gsh hG 344 rfl rfl]; rfl) hr (Nat.le_of_ble_eq_true rfl)
theorem cl408 (hG : Good n L G) {x0 : Int} (hr : st.length ≤ 4) : bx (d + 1) q (.invokevirtual 408 :: is) nx ls (xI x0 :: xR 344 :: st) (V, G) = (run d 408 0 [xR 344, xI x0, xU, xU, xU, xU] [] (V, G)).bind fun o => bx (d + 1) q is nx ls (o.1.toList ++ st) o.2 := bx_callv (as := [xR 344, xI x0]) rfl rfl rfl (by rw [gsh hG 344 rfl rfl]; rfl) hr (Nat.le_of_ble_eq_true rfl)
theorem cl409 (hG : Good n L G)  (hr : st.length ≤ 4) : bx (d + 1) q (.invokevirtual 409 :: is) nx ls (xR 344 :: st) (V, G) = (run d 409 0 [xR 344, xU, xU, xU] [] (V, G)).bind fun o => bx (d + 1) q is nx ls (o.1.toList ++ st) o.2 := bx_callv (as := [xR 344]) rfl rfl rfl (by rw [gsh hG 344 rfl rfl]; rfl) hr (Nat.le_of_ble_eq_true rfl)
theorem cl501 (hG : Good n L G) {x0 : Int} (hr : st.length ≤ 4) : bx (d + 1) q (.invokevirtual 501 :: is) nx ls (xI x0 :: xR 35 :: st) (V, G) = (run d 501 0 [xR 35, xI x0] [] (V, G)).bind fun o => bx (d + 1) q is nx ls (o.1.toList ++ st) o.2 := bx_callv (as := [xR 35, xI x0]) rfl rfl rfl (by rw [gsh hG 35 rfl rfl]; rfl) hr (Nat.le_of_ble_eq_true rfl)
theorem cl502 (hG : Good n L G)  (hr : st.length ≤ 4) : bx (d + 1) q (.invokevirtual 502 :: is) nx ls (xR 35 :: st) (V, G) = (run d 502 0 [xR 35, xU] [] (V, G)).bind fun o => bx (d + 1) q is nx ls (o.1.toList ++ st) o.2 := bx_callv (as := [xR 35]) rfl rfl rfl (by rw [gsh hG 35 rfl rfl]; rfl) hr (Nat.le_of_ble_eq_true rfl)
theorem cl503 (hG : Good n L G)  (hr : st.length ≤ 4) : bx (d + 1) q (.invokevirtual 503 :: is) nx ls (xR 35 :: st) (V, G) = (run d 503 0 [xR 35, xU, xU] [] (V, G)).bind fun o => bx (d + 1) q is nx ls (o.1.toList ++ st) o.2 := bx_callv (as := [xR 35]) rfl rfl rfl (by rw [gsh hG 35 rfl rfl]; rfl) hr (Nat.le_of_ble_eq_true rfl)
theorem cl504 (hG : Good n L G)  (hr : st.length ≤ 4) : bx (d + 1) q (.invokevirtual 504 :: is) nx ls (xR 35 :: st) (V, G) = (run d 504 0 [xR 35, xU] [] (V, G)).bind fun o => bx (d + 1) q is nx ls (o.1.toList ++ st) o.2 := bx_callv (as := [xR 35]) rfl rfl rfl (by rw [gsh hG 35 rfl rfl]; rfl) hr (Nat.le_of_ble_eq_true rfl)
theorem cl505 (hG : Good n L G)  (hr : st.length ≤ 4) : bx (d + 1) q (.invokevirtual 505 :: is) nx ls (xR 35 :: st) (V, G) = (run d 505 0 [xR 35] [] (V, G)).bind fun o => bx (d + 1) q is nx ls (o.1.toList ++ st) o.2 := bx_callv (as := [xR 35]) rfl rfl rfl (by rw [gsh hG 35 rfl rfl]; rfl) hr (Nat.le_of_ble_eq_true rfl)
theorem cl506 (hG : Good n L G) {x0 : Int} (hr : st.length ≤ 4) : bx (d + 1) q (.invokevirtual 506 :: is) nx ls (xI x0 :: xR 35 :: st) (V, G) = (run d 506 0 [xR 35, xI x0, xU, xU] [] (V, G)).bind fun o => bx (d + 1) q is nx ls (o.1.toList ++ st) o.2 := bx_callv (as := [xR 35, xI x0]) rfl rfl rfl (by rw [gsh hG 35 rfl rfl]; rfl) hr (Nat.le_of_ble_eq_true rfl)
theorem cl507 (hG : Good n L G) {x0 : Int} (hr : st.length ≤ 4) : bx (d + 1) q (.invokevirtual 507 :: is) nx ls (xI x0 :: xR 35 :: st) (V, G) = (run d 507 0 [xR 35, xI x0, xU, xU] [] (V, G)).bind fun o => bx (d + 1) q is nx ls (o.1.toList ++ st) o.2 := bx_callv (as := [xR 35, xI x0]) rfl rfl rfl (by rw [gsh hG 35 rfl rfl]; rfl) hr (Nat.le_of_ble_eq_true rfl)
theorem cl508 (hG : Good n L G) {x0 : Int} (hr : st.length ≤ 4) : bx (d + 1) q (.invokevirtual 508 :: is) nx ls (xI x0 :: xR 35 :: st) (V, G) = (run d 508 0 [xR 35, xI x0] [] (V, G)).bind fun o => bx (d + 1) q is nx ls (o.1.toList ++ st) o.2 := bx_callv (as := [xR 35, xI x0]) rfl rfl rfl (by rw [gsh hG 35 rfl rfl]; rfl) hr (Nat.le_of_ble_eq_true rfl)
theorem cl509 (hG : Good n L G) {x0 : Int} (hr : st.length ≤ 4) : bx (d + 1) q (.invokevirtual 509 :: is) nx ls (xI x0 :: xR 35 :: st) (V, G) = (run d 509 0 [xR 35, xI x0, xU] [] (V, G)).bind fun o => bx (d + 1) q is nx ls (o.1.toList ++ st) o.2 := bx_callv (as := [xR 35, xI x0]) rfl rfl rfl (by rw [gsh hG 35 rfl rfl]; rfl) hr (Nat.le_of_ble_eq_true rfl)
theorem cl511 (hG : Good n L G) {x0 : Int} (hr : st.length ≤ 4) : bx (d + 1) q (.invokevirtual 511 :: is) nx ls (xI x0 :: xR 35 :: st) (V, G) = (run d 511 0 [xR 35, xI x0] [] (V, G)).bind fun o => bx (d + 1) q is nx ls (o.1.toList ++ st) o.2 := bx_callv (as := [xR 35, xI x0]) rfl rfl rfl (by rw [gsh hG 35 rfl rfl]; rfl) hr (Nat.le_of_ble_eq_true rfl)
theorem cl512 (hG : Good n L G) {x0 : Int} (hr : st.length ≤ 4) : bx (d + 1) q (.invokevirtual 512 :: is) nx ls (xI x0 :: xR 35 :: st) (V, G) = (run d 512 0 [xR 35, xI x0, xU] [] (V, G)).bind fun o => bx (d + 1) q is nx ls (o.1.toList ++ st) o.2 := bx_callv (as := [xR 35, xI x0]) rfl rfl rfl (by rw [gsh hG 35 rfl rfl]; rfl) hr (Nat.le_of_ble_eq_true rfl)
theorem cl513 (hG : Good n L G)  (hr : st.length ≤ 4) : bx (d + 1) q (.invokevirtual 513 :: is) nx ls (xR 35 :: st) (V, G) = (run d 513 0 [xR 35, xU, xU, xU] [] (V, G)).bind fun o => bx (d + 1) q is nx ls (o.1.toList ++ st) o.2 := bx_callv (as := [xR 35]) rfl rfl rfl (by rw [gsh hG 35 rfl rfl]; rfl) hr (Nat.le_of_ble_eq_true rfl)
theorem cl514 (hG : Good n L G)  (hr : st.length ≤ 4) : bx (d + 1) q (.invokevirtual 514 :: is) nx ls (xR 35 :: st) (V, G) = (run d 514 0 [xR 35] [] (V, G)).bind fun o => bx (d + 1) q is nx ls (o.1.toList ++ st) o.2 := bx_callv (as := [xR 35]) rfl rfl rfl (by rw [gsh hG 35 rfl rfl]; rfl) hr (Nat.le_of_ble_eq_true rfl)
theorem cl601 (hG : Good n L G) {r : Nat} (hrow : isRow r)  (hr : st.length ≤ 4) : bx (d + 1) q (.invokevirtual 601 :: is) nx ls (xR r :: st) (V, G) = (run d 601 0 [xR r] [] (V, G)).bind fun o => bx (d + 1) q is nx ls (o.1.toList ++ st) o.2 := bx_callv (as := [xR r]) rfl rfl rfl (show (G.1 r).1 = 16 by have h0 : G.1 r = (16, 0) := rw_sh0 hG hrow; rw [h0]) hr (Nat.le_of_ble_eq_true rfl)
theorem cl602 (hG : Good n L G) {r : Nat} (hrow : isRow r) {x0 : Int} {x1 : Int} (hr : st.length ≤ 4) : bx (d + 1) q (.invokevirtual 602 :: is) nx ls (xI x1 :: xI x0 :: xR r :: st) (V, G) = (run d 602 0 [xR r, xI x0, xI x1] [] (V, G)).bind fun o => bx (d + 1) q is nx ls (o.1.toList ++ st) o.2 := bx_callv (as := [xR r, xI x0, xI x1]) rfl rfl rfl (show (G.1 r).1 = 16 by have h0 : G.1 r = (16, 0) := rw_sh0 hG hrow; rw [h0]) hr (Nat.le_of_ble_eq_true rfl)
theorem cl603 (hG : Good n L G) {r : Nat} (hrow : isRow r) {x0 : Nat} (hr : st.length ≤ 4) : bx (d + 1) q (.invokevirtual 603 :: is) nx ls (xR x0 :: xR r :: st) (V, G) = (run d 603 0 [xR r, xR x0, xU] [] (V, G)).bind fun o => bx (d + 1) q is nx ls (o.1.toList ++ st) o.2 := bx_callv (as := [xR r, xR x0]) rfl rfl rfl (show (G.1 r).1 = 16 by have h0 : G.1 r = (16, 0) := rw_sh0 hG hrow; rw [h0]) hr (Nat.le_of_ble_eq_true rfl)
theorem cl604 (hG : Good n L G) {r : Nat} (hrow : isRow r)  (hr : st.length ≤ 4) : bx (d + 1) q (.invokevirtual 604 :: is) nx ls (xR r :: st) (V, G) = (run d 604 0 [xR r] [] (V, G)).bind fun o => bx (d + 1) q is nx ls (o.1.toList ++ st) o.2 := bx_callv (as := [xR r]) rfl rfl rfl (show (G.1 r).1 = 16 by have h0 : G.1 r = (16, 0) := rw_sh0 hG hrow; rw [h0]) hr (Nat.le_of_ble_eq_true rfl)
theorem cl605 (hG : Good n L G) {r : Nat} (hrow : isRow r) {x0 : Nat} (hr : st.length ≤ 4) : bx (d + 1) q (.invokevirtual 605 :: is) nx ls (xR x0 :: xR r :: st) (V, G) = (run d 605 0 [xR r, xR x0] [] (V, G)).bind fun o => bx (d + 1) q is nx ls (o.1.toList ++ st) o.2 := bx_callv (as := [xR r, xR x0]) rfl rfl rfl (show (G.1 r).1 = 16 by have h0 : G.1 r = (16, 0) := rw_sh0 hG hrow; rw [h0]) hr (Nat.le_of_ble_eq_true rfl)
theorem cl701 (hG : Good n L G) {x0 : Int} (hr : st.length ≤ 4) : bx (d + 1) q (.invokevirtual 701 :: is) nx ls (xL x0 :: xR 217 :: st) (V, G) = (run d 701 0 [xR 217, xL x0, xU, xU, xU, xU, xU] [] (V, G)).bind fun o => bx (d + 1) q is nx ls (o.1.toList ++ st) o.2 := bx_callv (as := [xR 217, xL x0]) rfl rfl rfl (by rw [gsh hG 217 rfl rfl]; rfl) hr (Nat.le_of_ble_eq_true rfl)
theorem cl702 (hG : Good n L G) {x0 : Int} (hr : st.length ≤ 4) : bx (d + 1) q (.invokevirtual 702 :: is) nx ls (xI x0 :: xR 217 :: st) (V, G) = (run d 702 0 [xR 217, xI x0] [] (V, G)).bind fun o => bx (d + 1) q is nx ls (o.1.toList ++ st) o.2 := bx_callv (as := [xR 217, xI x0]) rfl rfl rfl (by rw [gsh hG 217 rfl rfl]; rfl) hr (Nat.le_of_ble_eq_true rfl)
theorem cl703 (hG : Good n L G) {x0 : Int} (hr : st.length ≤ 4) : bx (d + 1) q (.invokevirtual 703 :: is) nx ls (xI x0 :: xR 217 :: st) (V, G) = (run d 703 0 [xR 217, xI x0] [] (V, G)).bind fun o => bx (d + 1) q is nx ls (o.1.toList ++ st) o.2 := bx_callv (as := [xR 217, xI x0]) rfl rfl rfl (by rw [gsh hG 217 rfl rfl]; rfl) hr (Nat.le_of_ble_eq_true rfl)
theorem cl704 (hG : Good n L G) {x0 : Int} (hr : st.length ≤ 4) : bx (d + 1) q (.invokevirtual 704 :: is) nx ls (xI x0 :: xR 217 :: st) (V, G) = (run d 704 0 [xR 217, xI x0, xU, xU] [] (V, G)).bind fun o => bx (d + 1) q is nx ls (o.1.toList ++ st) o.2 := bx_callv (as := [xR 217, xI x0]) rfl rfl rfl (by rw [gsh hG 217 rfl rfl]; rfl) hr (Nat.le_of_ble_eq_true rfl)
theorem cl801 (hG : Good n L G) {x0 : Int} {x1 : Nat} (hr : st.length ≤ 4) : bx (d + 1) q (.invokevirtual 801 :: is) nx ls (xR x1 :: xI x0 :: xR 12 :: st) (V, G) = (run d 801 0 [xR 12, xI x0, xR x1, xU, xU] [] (V, G)).bind fun o => bx (d + 1) q is nx ls (o.1.toList ++ st) o.2 := bx_callv (as := [xR 12, xI x0, xR x1]) rfl rfl rfl (by rw [gsh hG 12 rfl rfl]; rfl) hr (Nat.le_of_ble_eq_true rfl)
theorem cl802 (hG : Good n L G)  (hr : st.length ≤ 4) : bx (d + 1) q (.invokevirtual 802 :: is) nx ls (xR 12 :: st) (V, G) = (run d 802 0 [xR 12, xU, xU] [] (V, G)).bind fun o => bx (d + 1) q is nx ls (o.1.toList ++ st) o.2 := bx_callv (as := [xR 12]) rfl rfl rfl (by rw [gsh hG 12 rfl rfl]; rfl) hr (Nat.le_of_ble_eq_true rfl)
theorem cl803 (hG : Good n L G) {x0 : Nat} {x1 : Nat} (hr : st.length ≤ 4) : bx (d + 1) q (.invokevirtual 803 :: is) nx ls (xR x1 :: xR x0 :: xR 12 :: st) (V, G) = (run d 803 0 [xR 12, xR x0, xR x1, xU, xU] [] (V, G)).bind fun o => bx (d + 1) q is nx ls (o.1.toList ++ st) o.2 := bx_callv (as := [xR 12, xR x0, xR x1]) rfl rfl rfl (by rw [gsh hG 12 rfl rfl]; rfl) hr (Nat.le_of_ble_eq_true rfl)
theorem cl804 (hG : Good n L G)  (hr : st.length ≤ 4) : bx (d + 1) q (.invokevirtual 804 :: is) nx ls (xR 12 :: st) (V, G) = (run d 804 0 [xR 12, xU, xU, xU] [] (V, G)).bind fun o => bx (d + 1) q is nx ls (o.1.toList ++ st) o.2 := bx_callv (as := [xR 12]) rfl rfl rfl (by rw [gsh hG 12 rfl rfl]; rfl) hr (Nat.le_of_ble_eq_true rfl)
theorem cl805 (hG : Good n L G) {x0 : Int} {x1 : Int} (hr : st.length ≤ 4) : bx (d + 1) q (.invokevirtual 805 :: is) nx ls (xI x1 :: xI x0 :: xR 12 :: st) (V, G) = (run d 805 0 [xR 12, xI x0, xI x1, xU] [] (V, G)).bind fun o => bx (d + 1) q is nx ls (o.1.toList ++ st) o.2 := bx_callv (as := [xR 12, xI x0, xI x1]) rfl rfl rfl (by rw [gsh hG 12 rfl rfl]; rfl) hr (Nat.le_of_ble_eq_true rfl)
theorem cl806 (hG : Good n L G) {x0 : Int} (hr : st.length ≤ 4) : bx (d + 1) q (.invokevirtual 806 :: is) nx ls (xI x0 :: xR 12 :: st) (V, G) = (run d 806 0 [xR 12, xI x0] [] (V, G)).bind fun o => bx (d + 1) q is nx ls (o.1.toList ++ st) o.2 := bx_callv (as := [xR 12, xI x0]) rfl rfl rfl (by rw [gsh hG 12 rfl rfl]; rfl) hr (Nat.le_of_ble_eq_true rfl)
theorem cl807 (hG : Good n L G)  (hr : st.length ≤ 4) : bx (d + 1) q (.invokevirtual 807 :: is) nx ls (xR 12 :: st) (V, G) = (run d 807 0 [xR 12, xU, xU] [] (V, G)).bind fun o => bx (d + 1) q is nx ls (o.1.toList ++ st) o.2 := bx_callv (as := [xR 12]) rfl rfl rfl (by rw [gsh hG 12 rfl rfl]; rfl) hr (Nat.le_of_ble_eq_true rfl)
theorem cl808 (hG : Good n L G) {x0 : Nat} (hr : st.length ≤ 4) : bx (d + 1) q (.invokevirtual 808 :: is) nx ls (xR x0 :: xR 12 :: st) (V, G) = (run d 808 0 [xR 12, xR x0, xU] [] (V, G)).bind fun o => bx (d + 1) q is nx ls (o.1.toList ++ st) o.2 := bx_callv (as := [xR 12, xR x0]) rfl rfl rfl (by rw [gsh hG 12 rfl rfl]; rfl) hr (Nat.le_of_ble_eq_true rfl)
theorem cl901 (hG : Good n L G) {x0 : Int} (hr : st.length ≤ 4) : bx (d + 1) q (.invokevirtual 901 :: is) nx ls (xI x0 :: xR 373 :: st) (V, G) = (run d 901 0 [xR 373, xI x0, xU, xU, xU] [] (V, G)).bind fun o => bx (d + 1) q is nx ls (o.1.toList ++ st) o.2 := bx_callv (as := [xR 373, xI x0]) rfl rfl rfl (by rw [gsh hG 373 rfl rfl]; rfl) hr (Nat.le_of_ble_eq_true rfl)
theorem cl1001 (hG : Good n L G) {x0 : Int} {x1 : Int} (hr : st.length ≤ 4) : bx (d + 1) q (.invokevirtual 1001 :: is) nx ls (xI x1 :: xI x0 :: xR 1 :: st) (V, G) = (run d 1001 0 [xR 1, xI x0, xI x1, xU] [] (V, G)).bind fun o => bx (d + 1) q is nx ls (o.1.toList ++ st) o.2 := bx_callv (as := [xR 1, xI x0, xI x1]) rfl rfl rfl (by rw [gsh hG 1 rfl rfl]; rfl) hr (Nat.le_of_ble_eq_true rfl)
theorem cl1002 (hG : Good n L G) {x0 : Int} {x1 : Int} {x2 : Int} (hr : st.length ≤ 4) : bx (d + 1) q (.invokevirtual 1002 :: is) nx ls (xI x2 :: xI x1 :: xI x0 :: xR 1 :: st) (V, G) = (run d 1002 0 [xR 1, xI x0, xI x1, xI x2, xU, xU] [] (V, G)).bind fun o => bx (d + 1) q is nx ls (o.1.toList ++ st) o.2 := bx_callv (as := [xR 1, xI x0, xI x1, xI x2]) rfl rfl rfl (by rw [gsh hG 1 rfl rfl]; rfl) hr (Nat.le_of_ble_eq_true rfl)
theorem cl1004 (hG : Good n L G) {x0 : Int} {x1 : Int} {x2 : Int} (hr : st.length ≤ 4) : bx (d + 1) q (.invokevirtual 1004 :: is) nx ls (xI x2 :: xI x1 :: xI x0 :: xR 1 :: st) (V, G) = (run d 1004 0 [xR 1, xI x0, xI x1, xI x2, xU, xU] [] (V, G)).bind fun o => bx (d + 1) q is nx ls (o.1.toList ++ st) o.2 := bx_callv (as := [xR 1, xI x0, xI x1, xI x2]) rfl rfl rfl (by rw [gsh hG 1 rfl rfl]; rfl) hr (Nat.le_of_ble_eq_true rfl)
theorem cl1005 (hG : Good n L G) {x0 : Int} {x1 : Int} (hr : st.length ≤ 4) : bx (d + 1) q (.invokevirtual 1005 :: is) nx ls (xI x1 :: xI x0 :: xR 1 :: st) (V, G) = (run d 1005 0 [xR 1, xI x0, xI x1, xU, xU] [] (V, G)).bind fun o => bx (d + 1) q is nx ls (o.1.toList ++ st) o.2 := bx_callv (as := [xR 1, xI x0, xI x1]) rfl rfl rfl (by rw [gsh hG 1 rfl rfl]; rfl) hr (Nat.le_of_ble_eq_true rfl)
theorem cl1006 (hG : Good n L G) {x0 : Int} {x1 : Int} {x2 : Int} (hr : st.length ≤ 4) : bx (d + 1) q (.invokevirtual 1006 :: is) nx ls (xI x2 :: xI x1 :: xI x0 :: xR 1 :: st) (V, G) = (run d 1006 0 [xR 1, xI x0, xI x1, xI x2, xU] [] (V, G)).bind fun o => bx (d + 1) q is nx ls (o.1.toList ++ st) o.2 := bx_callv (as := [xR 1, xI x0, xI x1, xI x2]) rfl rfl rfl (by rw [gsh hG 1 rfl rfl]; rfl) hr (Nat.le_of_ble_eq_true rfl)
theorem cl1007 (hG : Good n L G) {x0 : Int} {x1 : Int} (hr : st.length ≤ 4) : bx (d + 1) q (.invokevirtual 1007 :: is) nx ls (xI x1 :: xI x0 :: xR 1 :: st) (V, G) = (run d 1007 0 [xR 1, xI x0, xI x1] [] (V, G)).bind fun o => bx (d + 1) q is nx ls (o.1.toList ++ st) o.2 := bx_callv (as := [xR 1, xI x0, xI x1]) rfl rfl rfl (by rw [gsh hG 1 rfl rfl]; rfl) hr (Nat.le_of_ble_eq_true rfl)
theorem cl1008 (hG : Good n L G) {x0 : Int} (hr : st.length ≤ 4) : bx (d + 1) q (.invokevirtual 1008 :: is) nx ls (xI x0 :: xR 1 :: st) (V, G) = (run d 1008 0 [xR 1, xI x0] [] (V, G)).bind fun o => bx (d + 1) q is nx ls (o.1.toList ++ st) o.2 := bx_callv (as := [xR 1, xI x0]) rfl rfl rfl (by rw [gsh hG 1 rfl rfl]; rfl) hr (Nat.le_of_ble_eq_true rfl)
theorem cl1009 (hG : Good n L G) {x0 : Int} {x1 : Int} {x2 : Int} (hr : st.length ≤ 4) : bx (d + 1) q (.invokevirtual 1009 :: is) nx ls (xI x2 :: xI x1 :: xI x0 :: xR 1 :: st) (V, G) = (run d 1009 0 [xR 1, xI x0, xI x1, xI x2, xU] [] (V, G)).bind fun o => bx (d + 1) q is nx ls (o.1.toList ++ st) o.2 := bx_callv (as := [xR 1, xI x0, xI x1, xI x2]) rfl rfl rfl (by rw [gsh hG 1 rfl rfl]; rfl) hr (Nat.le_of_ble_eq_true rfl)
theorem cl1010 (hG : Good n L G)  (hr : st.length ≤ 4) : bx (d + 1) q (.invokevirtual 1010 :: is) nx ls (xR 1 :: st) (V, G) = (run d 1010 0 [xR 1, xU, xU] [] (V, G)).bind fun o => bx (d + 1) q is nx ls (o.1.toList ++ st) o.2 := bx_callv (as := [xR 1]) rfl rfl rfl (by rw [gsh hG 1 rfl rfl]; rfl) hr (Nat.le_of_ble_eq_true rfl)
theorem cl1011 (hG : Good n L G)  (hr : st.length ≤ 4) : bx (d + 1) q (.invokevirtual 1011 :: is) nx ls (xR 1 :: st) (V, G) = (run d 1011 0 [xR 1] [] (V, G)).bind fun o => bx (d + 1) q is nx ls (o.1.toList ++ st) o.2 := bx_callv (as := [xR 1]) rfl rfl rfl (by rw [gsh hG 1 rfl rfl]; rfl) hr (Nat.le_of_ble_eq_true rfl)
theorem cl1012 (hG : Good n L G)  (hr : st.length ≤ 4) : bx (d + 1) q (.invokevirtual 1012 :: is) nx ls (xR 1 :: st) (V, G) = (run d 1012 0 [xR 1] [] (V, G)).bind fun o => bx (d + 1) q is nx ls (o.1.toList ++ st) o.2 := bx_callv (as := [xR 1]) rfl rfl rfl (by rw [gsh hG 1 rfl rfl]; rfl) hr (Nat.le_of_ble_eq_true rfl)
theorem cl1013 (hG : Good n L G) {x0 : Int} {x1 : Int} (hr : st.length ≤ 4) : bx (d + 1) q (.invokevirtual 1013 :: is) nx ls (xI x1 :: xI x0 :: xR 1 :: st) (V, G) = (run d 1013 0 [xR 1, xI x0, xI x1] [] (V, G)).bind fun o => bx (d + 1) q is nx ls (o.1.toList ++ st) o.2 := bx_callv (as := [xR 1, xI x0, xI x1]) rfl rfl rfl (by rw [gsh hG 1 rfl rfl]; rfl) hr (Nat.le_of_ble_eq_true rfl)
theorem cl1014 (hG : Good n L G)  (hr : st.length ≤ 4) : bx (d + 1) q (.invokevirtual 1014 :: is) nx ls (xR 1 :: st) (V, G) = (run d 1014 0 [xR 1] [] (V, G)).bind fun o => bx (d + 1) q is nx ls (o.1.toList ++ st) o.2 := bx_callv (as := [xR 1]) rfl rfl rfl (by rw [gsh hG 1 rfl rfl]; rfl) hr (Nat.le_of_ble_eq_true rfl)
theorem cl1015 (hG : Good n L G) {x0 : Int} {x1 : Int} (hr : st.length ≤ 4) : bx (d + 1) q (.invokevirtual 1015 :: is) nx ls (xI x1 :: xI x0 :: xR 1 :: st) (V, G) = (run d 1015 0 [xR 1, xI x0, xI x1] [] (V, G)).bind fun o => bx (d + 1) q is nx ls (o.1.toList ++ st) o.2 := bx_callv (as := [xR 1, xI x0, xI x1]) rfl rfl rfl (by rw [gsh hG 1 rfl rfl]; rfl) hr (Nat.le_of_ble_eq_true rfl)
theorem cl1016 (hG : Good n L G)  (hr : st.length ≤ 4) : bx (d + 1) q (.invokevirtual 1016 :: is) nx ls (xR 1 :: st) (V, G) = (run d 1016 0 [xR 1] [] (V, G)).bind fun o => bx (d + 1) q is nx ls (o.1.toList ++ st) o.2 := bx_callv (as := [xR 1]) rfl rfl rfl (by rw [gsh hG 1 rfl rfl]; rfl) hr (Nat.le_of_ble_eq_true rfl)
theorem cl1017 (hG : Good n L G) {x0 : Int} {x1 : Int} (hr : st.length ≤ 4) : bx (d + 1) q (.invokevirtual 1017 :: is) nx ls (xI x1 :: xL x0 :: xR 1 :: st) (V, G) = (run d 1017 0 [xR 1, xL x0, xU, xI x1, xU] [] (V, G)).bind fun o => bx (d + 1) q is nx ls (o.1.toList ++ st) o.2 := bx_callv (as := [xR 1, xL x0, xI x1]) rfl rfl rfl (by rw [gsh hG 1 rfl rfl]; rfl) hr (Nat.le_of_ble_eq_true rfl)
theorem cl1018 (hG : Good n L G)  (hr : st.length ≤ 4) : bx (d + 1) q (.invokevirtual 1018 :: is) nx ls (xR 1 :: st) (V, G) = (run d 1018 0 [xR 1, xU] [] (V, G)).bind fun o => bx (d + 1) q is nx ls (o.1.toList ++ st) o.2 := bx_callv (as := [xR 1]) rfl rfl rfl (by rw [gsh hG 1 rfl rfl]; rfl) hr (Nat.le_of_ble_eq_true rfl)
theorem cl1019 (hG : Good n L G) {x0 : Int} (hr : st.length ≤ 4) : bx (d + 1) q (.invokevirtual 1019 :: is) nx ls (xI x0 :: xR 1 :: st) (V, G) = (run d 1019 0 [xR 1, xI x0, xU] [] (V, G)).bind fun o => bx (d + 1) q is nx ls (o.1.toList ++ st) o.2 := bx_callv (as := [xR 1, xI x0]) rfl rfl rfl (by rw [gsh hG 1 rfl rfl]; rfl) hr (Nat.le_of_ble_eq_true rfl)
theorem cl1020 (hG : Good n L G) {x0 : Int} {x1 : Int} {x2 : Int} (hr : st.length ≤ 4) : bx (d + 1) q (.invokevirtual 1020 :: is) nx ls (xI x2 :: xI x1 :: xI x0 :: xR 1 :: st) (V, G) = (run d 1020 0 [xR 1, xI x0, xI x1, xI x2, xU, xU] [] (V, G)).bind fun o => bx (d + 1) q is nx ls (o.1.toList ++ st) o.2 := bx_callv (as := [xR 1, xI x0, xI x1, xI x2]) rfl rfl rfl (by rw [gsh hG 1 rfl rfl]; rfl) hr (Nat.le_of_ble_eq_true rfl)
theorem cl1022 (hG : Good n L G) {x0 : Int} (hr : st.length ≤ 4) : bx (d + 1) q (.invokevirtual 1022 :: is) nx ls (xL x0 :: xR 1 :: st) (V, G) = (run d 1022 0 [xR 1, xL x0, xU] [] (V, G)).bind fun o => bx (d + 1) q is nx ls (o.1.toList ++ st) o.2 := bx_callv (as := [xR 1, xL x0]) rfl rfl rfl (by rw [gsh hG 1 rfl rfl]; rfl) hr (Nat.le_of_ble_eq_true rfl)
theorem cl1023 (hG : Good n L G) {x0 : Int} {x1 : Int} (hr : st.length ≤ 4) : bx (d + 1) q (.invokevirtual 1023 :: is) nx ls (xI x1 :: xI x0 :: xR 1 :: st) (V, G) = (run d 1023 0 [xR 1, xI x0, xI x1] [] (V, G)).bind fun o => bx (d + 1) q is nx ls (o.1.toList ++ st) o.2 := bx_callv (as := [xR 1, xI x0, xI x1]) rfl rfl rfl (by rw [gsh hG 1 rfl rfl]; rfl) hr (Nat.le_of_ble_eq_true rfl)
theorem cl1024 (hG : Good n L G) {x0 : Int} {x1 : Int} (hr : st.length ≤ 4) : bx (d + 1) q (.invokevirtual 1024 :: is) nx ls (xI x1 :: xI x0 :: xR 1 :: st) (V, G) = (run d 1024 0 [xR 1, xI x0, xI x1] [] (V, G)).bind fun o => bx (d + 1) q is nx ls (o.1.toList ++ st) o.2 := bx_callv (as := [xR 1, xI x0, xI x1]) rfl rfl rfl (by rw [gsh hG 1 rfl rfl]; rfl) hr (Nat.le_of_ble_eq_true rfl)
theorem cl1025 (hG : Good n L G)  (hr : st.length ≤ 4) : bx (d + 1) q (.invokevirtual 1025 :: is) nx ls (xR 1 :: st) (V, G) = (run d 1025 0 [xR 1, xU] [] (V, G)).bind fun o => bx (d + 1) q is nx ls (o.1.toList ++ st) o.2 := bx_callv (as := [xR 1]) rfl rfl rfl (by rw [gsh hG 1 rfl rfl]; rfl) hr (Nat.le_of_ble_eq_true rfl)
theorem cl1026 (hG : Good n L G) {x0 : Int} {x1 : Int} {x2 : Int} {x3 : Int} (hr : st.length ≤ 4) : bx (d + 1) q (.invokevirtual 1026 :: is) nx ls (xI x3 :: xI x2 :: xI x1 :: xI x0 :: xR 1 :: st) (V, G) = (run d 1026 0 [xR 1, xI x0, xI x1, xI x2, xI x3, xU] [] (V, G)).bind fun o => bx (d + 1) q is nx ls (o.1.toList ++ st) o.2 := bx_callv (as := [xR 1, xI x0, xI x1, xI x2, xI x3]) rfl rfl rfl (by rw [gsh hG 1 rfl rfl]; rfl) hr (Nat.le_of_ble_eq_true rfl)
theorem cl1027 (hG : Good n L G)  (hr : st.length ≤ 4) : bx (d + 1) q (.invokevirtual 1027 :: is) nx ls (xR 1 :: st) (V, G) = (run d 1027 0 [xR 1] [] (V, G)).bind fun o => bx (d + 1) q is nx ls (o.1.toList ++ st) o.2 := bx_callv (as := [xR 1]) rfl rfl rfl (by rw [gsh hG 1 rfl rfl]; rfl) hr (Nat.le_of_ble_eq_true rfl)
theorem cl1028 (hG : Good n L G) {x0 : Int} {x1 : Int} (hr : st.length ≤ 4) : bx (d + 1) q (.invokevirtual 1028 :: is) nx ls (xI x1 :: xI x0 :: xR 1 :: st) (V, G) = (run d 1028 0 [xR 1, xI x0, xI x1] [] (V, G)).bind fun o => bx (d + 1) q is nx ls (o.1.toList ++ st) o.2 := bx_callv (as := [xR 1, xI x0, xI x1]) rfl rfl rfl (by rw [gsh hG 1 rfl rfl]; rfl) hr (Nat.le_of_ble_eq_true rfl)
theorem cl1029 (hG : Good n L G) {x0 : Int} (hr : st.length ≤ 4) : bx (d + 1) q (.invokevirtual 1029 :: is) nx ls (xI x0 :: xR 1 :: st) (V, G) = (run d 1029 0 [xR 1, xI x0] [] (V, G)).bind fun o => bx (d + 1) q is nx ls (o.1.toList ++ st) o.2 := bx_callv (as := [xR 1, xI x0]) rfl rfl rfl (by rw [gsh hG 1 rfl rfl]; rfl) hr (Nat.le_of_ble_eq_true rfl)
theorem cl1030 (hG : Good n L G)  (hr : st.length ≤ 4) : bx (d + 1) q (.invokevirtual 1030 :: is) nx ls (xR 1 :: st) (V, G) = (run d 1030 0 [xR 1] [] (V, G)).bind fun o => bx (d + 1) q is nx ls (o.1.toList ++ st) o.2 := bx_callv (as := [xR 1]) rfl rfl rfl (by rw [gsh hG 1 rfl rfl]; rfl) hr (Nat.le_of_ble_eq_true rfl)
theorem cl1031 (hG : Good n L G) {x0 : Int} {x1 : Int} {x2 : Int} (hr : st.length ≤ 4) : bx (d + 1) q (.invokevirtual 1031 :: is) nx ls (xI x2 :: xI x1 :: xI x0 :: xR 1 :: st) (V, G) = (run d 1031 0 [xR 1, xI x0, xI x1, xI x2, xU, xU] [] (V, G)).bind fun o => bx (d + 1) q is nx ls (o.1.toList ++ st) o.2 := bx_callv (as := [xR 1, xI x0, xI x1, xI x2]) rfl rfl rfl (by rw [gsh hG 1 rfl rfl]; rfl) hr (Nat.le_of_ble_eq_true rfl)
theorem cl1032 (hG : Good n L G)  (hr : st.length ≤ 4) : bx (d + 1) q (.invokevirtual 1032 :: is) nx ls (xR 1 :: st) (V, G) = (run d 1032 0 [xR 1, xU] [] (V, G)).bind fun o => bx (d + 1) q is nx ls (o.1.toList ++ st) o.2 := bx_callv (as := [xR 1]) rfl rfl rfl (by rw [gsh hG 1 rfl rfl]; rfl) hr (Nat.le_of_ble_eq_true rfl)
theorem cl1033 (hG : Good n L G) {x0 : Int} (hr : st.length ≤ 4) : bx (d + 1) q (.invokevirtual 1033 :: is) nx ls (xI x0 :: xR 1 :: st) (V, G) = (run d 1033 0 [xR 1, xI x0] [] (V, G)).bind fun o => bx (d + 1) q is nx ls (o.1.toList ++ st) o.2 := bx_callv (as := [xR 1, xI x0]) rfl rfl rfl (by rw [gsh hG 1 rfl rfl]; rfl) hr (Nat.le_of_ble_eq_true rfl)
theorem cl1102 (hG : Good n L G) {x0 : Int} {x1 : Int} (hr : st.length ≤ 4) : bx (d + 1) q (.invokevirtual 1102 :: is) nx ls (xI x1 :: xI x0 :: xR 376 :: st) (V, G) = (run d 1102 0 [xR 376, xI x0, xI x1] [] (V, G)).bind fun o => bx (d + 1) q is nx ls (o.1.toList ++ st) o.2 := bx_callv (as := [xR 376, xI x0, xI x1]) rfl rfl rfl (by rw [gsh hG 376 rfl rfl]; rfl) hr (Nat.le_of_ble_eq_true rfl)
theorem cl1104 (hG : Good n L G) {x0 : Int} {x1 : Int} {x2 : Int} (hr : st.length ≤ 4) : bx (d + 1) q (.invokevirtual 1104 :: is) nx ls (xI x2 :: xI x1 :: xI x0 :: xR 376 :: st) (V, G) = (run d 1104 0 [xR 376, xI x0, xI x1, xI x2, xU] [] (V, G)).bind fun o => bx (d + 1) q is nx ls (o.1.toList ++ st) o.2 := bx_callv (as := [xR 376, xI x0, xI x1, xI x2]) rfl rfl rfl (by rw [gsh hG 376 rfl rfl]; rfl) hr (Nat.le_of_ble_eq_true rfl)
theorem cl1105 (hG : Good n L G) {x0 : Int} {x1 : Int} (hr : st.length ≤ 4) : bx (d + 1) q (.invokevirtual 1105 :: is) nx ls (xI x1 :: xI x0 :: xR 376 :: st) (V, G) = (run d 1105 0 [xR 376, xI x0, xI x1] [] (V, G)).bind fun o => bx (d + 1) q is nx ls (o.1.toList ++ st) o.2 := bx_callv (as := [xR 376, xI x0, xI x1]) rfl rfl rfl (by rw [gsh hG 376 rfl rfl]; rfl) hr (Nat.le_of_ble_eq_true rfl)
theorem cl1107 (hG : Good n L G) {x0 : Int} {x1 : Int} {x2 : Int} (hr : st.length ≤ 4) : bx (d + 1) q (.invokevirtual 1107 :: is) nx ls (xI x2 :: xI x1 :: xI x0 :: xR 376 :: st) (V, G) = (run d 1107 0 [xR 376, xI x0, xI x1, xI x2, xU] [] (V, G)).bind fun o => bx (d + 1) q is nx ls (o.1.toList ++ st) o.2 := bx_callv (as := [xR 376, xI x0, xI x1, xI x2]) rfl rfl rfl (by rw [gsh hG 376 rfl rfl]; rfl) hr (Nat.le_of_ble_eq_true rfl)
theorem cl1108 (hG : Good n L G) {x0 : Int} {x1 : Int} (hr : st.length ≤ 4) : bx (d + 1) q (.invokevirtual 1108 :: is) nx ls (xI x1 :: xI x0 :: xR 376 :: st) (V, G) = (run d 1108 0 [xR 376, xI x0, xI x1, xU] [] (V, G)).bind fun o => bx (d + 1) q is nx ls (o.1.toList ++ st) o.2 := bx_callv (as := [xR 376, xI x0, xI x1]) rfl rfl rfl (by rw [gsh hG 376 rfl rfl]; rfl) hr (Nat.le_of_ble_eq_true rfl)
theorem cl1109 (hG : Good n L G) {x0 : Int} {x1 : Int} {x2 : Int} (hr : st.length ≤ 4) : bx (d + 1) q (.invokevirtual 1109 :: is) nx ls (xI x2 :: xI x1 :: xI x0 :: xR 376 :: st) (V, G) = (run d 1109 0 [xR 376, xI x0, xI x1, xI x2, xU] [] (V, G)).bind fun o => bx (d + 1) q is nx ls (o.1.toList ++ st) o.2 := bx_callv (as := [xR 376, xI x0, xI x1, xI x2]) rfl rfl rfl (by rw [gsh hG 376 rfl rfl]; rfl) hr (Nat.le_of_ble_eq_true rfl)
theorem cl1110 (hG : Good n L G)  (hr : st.length ≤ 4) : bx (d + 1) q (.invokevirtual 1110 :: is) nx ls (xR 376 :: st) (V, G) = (run d 1110 0 [xR 376, xU] [] (V, G)).bind fun o => bx (d + 1) q is nx ls (o.1.toList ++ st) o.2 := bx_callv (as := [xR 376]) rfl rfl rfl (by rw [gsh hG 376 rfl rfl]; rfl) hr (Nat.le_of_ble_eq_true rfl)
theorem cl1111 (hG : Good n L G) {x0 : Int} {x1 : Int} (hr : st.length ≤ 4) : bx (d + 1) q (.invokevirtual 1111 :: is) nx ls (xI x1 :: xI x0 :: xR 376 :: st) (V, G) = (run d 1111 0 [xR 376, xI x0, xI x1, xU] [] (V, G)).bind fun o => bx (d + 1) q is nx ls (o.1.toList ++ st) o.2 := bx_callv (as := [xR 376, xI x0, xI x1]) rfl rfl rfl (by rw [gsh hG 376 rfl rfl]; rfl) hr (Nat.le_of_ble_eq_true rfl)
theorem cl1112 (hG : Good n L G) {x0 : Int} (hr : st.length ≤ 4) : bx (d + 1) q (.invokevirtual 1112 :: is) nx ls (xI x0 :: xR 376 :: st) (V, G) = (run d 1112 0 [xR 376, xI x0] [] (V, G)).bind fun o => bx (d + 1) q is nx ls (o.1.toList ++ st) o.2 := bx_callv (as := [xR 376, xI x0]) rfl rfl rfl (by rw [gsh hG 376 rfl rfl]; rfl) hr (Nat.le_of_ble_eq_true rfl)
theorem cl1113 (hG : Good n L G) {x0 : Int} {x1 : Int} (hr : st.length ≤ 4) : bx (d + 1) q (.invokevirtual 1113 :: is) nx ls (xI x1 :: xI x0 :: xR 376 :: st) (V, G) = (run d 1113 0 [xR 376, xI x0, xI x1, xU] [] (V, G)).bind fun o => bx (d + 1) q is nx ls (o.1.toList ++ st) o.2 := bx_callv (as := [xR 376, xI x0, xI x1]) rfl rfl rfl (by rw [gsh hG 376 rfl rfl]; rfl) hr (Nat.le_of_ble_eq_true rfl)
theorem cl1114 (hG : Good n L G) {x0 : Int} {x1 : Int} (hr : st.length ≤ 4) : bx (d + 1) q (.invokevirtual 1114 :: is) nx ls (xI x1 :: xI x0 :: xR 376 :: st) (V, G) = (run d 1114 0 [xR 376, xI x0, xI x1] [] (V, G)).bind fun o => bx (d + 1) q is nx ls (o.1.toList ++ st) o.2 := bx_callv (as := [xR 376, xI x0, xI x1]) rfl rfl rfl (by rw [gsh hG 376 rfl rfl]; rfl) hr (Nat.le_of_ble_eq_true rfl)
theorem cl1115 (hG : Good n L G) {x0 : Int} (hr : st.length ≤ 4) : bx (d + 1) q (.invokevirtual 1115 :: is) nx ls (xI x0 :: xR 376 :: st) (V, G) = (run d 1115 0 [xR 376, xI x0] [] (V, G)).bind fun o => bx (d + 1) q is nx ls (o.1.toList ++ st) o.2 := bx_callv (as := [xR 376, xI x0]) rfl rfl rfl (by rw [gsh hG 376 rfl rfl]; rfl) hr (Nat.le_of_ble_eq_true rfl)
theorem cl1116 (hG : Good n L G) {x0 : Int} (hr : st.length ≤ 4) : bx (d + 1) q (.invokevirtual 1116 :: is) nx ls (xI x0 :: xR 376 :: st) (V, G) = (run d 1116 0 [xR 376, xI x0, xU] [] (V, G)).bind fun o => bx (d + 1) q is nx ls (o.1.toList ++ st) o.2 := bx_callv (as := [xR 376, xI x0]) rfl rfl rfl (by rw [gsh hG 376 rfl rfl]; rfl) hr (Nat.le_of_ble_eq_true rfl)
theorem cl1117 (hG : Good n L G) {x0 : Int} (hr : st.length ≤ 4) : bx (d + 1) q (.invokevirtual 1117 :: is) nx ls (xI x0 :: xR 376 :: st) (V, G) = (run d 1117 0 [xR 376, xI x0, xU, xU] [] (V, G)).bind fun o => bx (d + 1) q is nx ls (o.1.toList ++ st) o.2 := bx_callv (as := [xR 376, xI x0]) rfl rfl rfl (by rw [gsh hG 376 rfl rfl]; rfl) hr (Nat.le_of_ble_eq_true rfl)
theorem cl1118 (hG : Good n L G) {x0 : Int} {x1 : Int} (hr : st.length ≤ 4) : bx (d + 1) q (.invokevirtual 1118 :: is) nx ls (xI x1 :: xI x0 :: xR 376 :: st) (V, G) = (run d 1118 0 [xR 376, xI x0, xI x1, xU, xU] [] (V, G)).bind fun o => bx (d + 1) q is nx ls (o.1.toList ++ st) o.2 := bx_callv (as := [xR 376, xI x0, xI x1]) rfl rfl rfl (by rw [gsh hG 376 rfl rfl]; rfl) hr (Nat.le_of_ble_eq_true rfl)
theorem cl1119 (hG : Good n L G) {x0 : Int} {x1 : Int} {x2 : Int} (hr : st.length ≤ 4) : bx (d + 1) q (.invokevirtual 1119 :: is) nx ls (xI x2 :: xI x1 :: xI x0 :: xR 376 :: st) (V, G) = (run d 1119 0 [xR 376, xI x0, xI x1, xI x2, xU] [] (V, G)).bind fun o => bx (d + 1) q is nx ls (o.1.toList ++ st) o.2 := bx_callv (as := [xR 376, xI x0, xI x1, xI x2]) rfl rfl rfl (by rw [gsh hG 376 rfl rfl]; rfl) hr (Nat.le_of_ble_eq_true rfl)
theorem cl1120 (hG : Good n L G)  (hr : st.length ≤ 4) : bx (d + 1) q (.invokevirtual 1120 :: is) nx ls (xR 376 :: st) (V, G) = (run d 1120 0 [xR 376, xU, xU, xU, xU] [] (V, G)).bind fun o => bx (d + 1) q is nx ls (o.1.toList ++ st) o.2 := bx_callv (as := [xR 376]) rfl rfl rfl (by rw [gsh hG 376 rfl rfl]; rfl) hr (Nat.le_of_ble_eq_true rfl)
theorem cl1121 (hG : Good n L G)  (hr : st.length ≤ 4) : bx (d + 1) q (.invokevirtual 1121 :: is) nx ls (xR 376 :: st) (V, G) = (run d 1121 0 [xR 376, xU, xU, xU, xU] [] (V, G)).bind fun o => bx (d + 1) q is nx ls (o.1.toList ++ st) o.2 := bx_callv (as := [xR 376]) rfl rfl rfl (by rw [gsh hG 376 rfl rfl]; rfl) hr (Nat.le_of_ble_eq_true rfl)
theorem cl1122 (hG : Good n L G)  (hr : st.length ≤ 4) : bx (d + 1) q (.invokevirtual 1122 :: is) nx ls (xR 376 :: st) (V, G) = (run d 1122 0 [xR 376, xU, xU, xU, xU, xU, xU] [] (V, G)).bind fun o => bx (d + 1) q is nx ls (o.1.toList ++ st) o.2 := bx_callv (as := [xR 376]) rfl rfl rfl (by rw [gsh hG 376 rfl rfl]; rfl) hr (Nat.le_of_ble_eq_true rfl)
theorem cl1123 (hG : Good n L G) {x0 : Int} {x1 : Int} (hr : st.length ≤ 4) : bx (d + 1) q (.invokevirtual 1123 :: is) nx ls (xI x1 :: xI x0 :: xR 376 :: st) (V, G) = (run d 1123 0 [xR 376, xI x0, xI x1, xU] [] (V, G)).bind fun o => bx (d + 1) q is nx ls (o.1.toList ++ st) o.2 := bx_callv (as := [xR 376, xI x0, xI x1]) rfl rfl rfl (by rw [gsh hG 376 rfl rfl]; rfl) hr (Nat.le_of_ble_eq_true rfl)
theorem cl1124 (hG : Good n L G) {x0 : Int} {x1 : Int} (hr : st.length ≤ 4) : bx (d + 1) q (.invokevirtual 1124 :: is) nx ls (xI x1 :: xI x0 :: xR 376 :: st) (V, G) = (run d 1124 0 [xR 376, xI x0, xI x1] [] (V, G)).bind fun o => bx (d + 1) q is nx ls (o.1.toList ++ st) o.2 := bx_callv (as := [xR 376, xI x0, xI x1]) rfl rfl rfl (by rw [gsh hG 376 rfl rfl]; rfl) hr (Nat.le_of_ble_eq_true rfl)
theorem cl1125 (hG : Good n L G)  (hr : st.length ≤ 4) : bx (d + 1) q (.invokevirtual 1125 :: is) nx ls (xR 376 :: st) (V, G) = (run d 1125 0 [xR 376, xU, xU] [] (V, G)).bind fun o => bx (d + 1) q is nx ls (o.1.toList ++ st) o.2 := bx_callv (as := [xR 376]) rfl rfl rfl (by rw [gsh hG 376 rfl rfl]; rfl) hr (Nat.le_of_ble_eq_true rfl)
theorem cl1126 (hG : Good n L G) {x0 : Int} {x1 : Int} (hr : st.length ≤ 4) : bx (d + 1) q (.invokevirtual 1126 :: is) nx ls (xI x1 :: xI x0 :: xR 376 :: st) (V, G) = (run d 1126 0 [xR 376, xI x0, xI x1] [] (V, G)).bind fun o => bx (d + 1) q is nx ls (o.1.toList ++ st) o.2 := bx_callv (as := [xR 376, xI x0, xI x1]) rfl rfl rfl (by rw [gsh hG 376 rfl rfl]; rfl) hr (Nat.le_of_ble_eq_true rfl)
theorem cl1127 (hG : Good n L G)  (hr : st.length ≤ 4) : bx (d + 1) q (.invokevirtual 1127 :: is) nx ls (xR 376 :: st) (V, G) = (run d 1127 0 [xR 376, xU, xU, xU, xU, xU, xU, xU, xU, xU] [] (V, G)).bind fun o => bx (d + 1) q is nx ls (o.1.toList ++ st) o.2 := bx_callv (as := [xR 376]) rfl rfl rfl (by rw [gsh hG 376 rfl rfl]; rfl) hr (Nat.le_of_ble_eq_true rfl)
theorem cl1128 (hG : Good n L G) {x0 : Int} (hr : st.length ≤ 4) : bx (d + 1) q (.invokevirtual 1128 :: is) nx ls (xI x0 :: xR 376 :: st) (V, G) = (run d 1128 0 [xR 376, xI x0, xU, xU] [] (V, G)).bind fun o => bx (d + 1) q is nx ls (o.1.toList ++ st) o.2 := bx_callv (as := [xR 376, xI x0]) rfl rfl rfl (by rw [gsh hG 376 rfl rfl]; rfl) hr (Nat.le_of_ble_eq_true rfl)
theorem cl1129 (hG : Good n L G) {x0 : Int} (hr : st.length ≤ 4) : bx (d + 1) q (.invokevirtual 1129 :: is) nx ls (xI x0 :: xR 376 :: st) (V, G) = (run d 1129 0 [xR 376, xI x0, xU, xU, xU, xU, xU, xU, xU] [] (V, G)).bind fun o => bx (d + 1) q is nx ls (o.1.toList ++ st) o.2 := bx_callv (as := [xR 376, xI x0]) rfl rfl rfl (by rw [gsh hG 376 rfl rfl]; rfl) hr (Nat.le_of_ble_eq_true rfl)
theorem cl1130 (hG : Good n L G) {x0 : Int} {x1 : Int} {x2 : Int} (hr : st.length ≤ 4) : bx (d + 1) q (.invokevirtual 1130 :: is) nx ls (xI x2 :: xI x1 :: xI x0 :: xR 376 :: st) (V, G) = (run d 1130 0 [xR 376, xI x0, xI x1, xI x2, xU, xU, xU] [] (V, G)).bind fun o => bx (d + 1) q is nx ls (o.1.toList ++ st) o.2 := bx_callv (as := [xR 376, xI x0, xI x1, xI x2]) rfl rfl rfl (by rw [gsh hG 376 rfl rfl]; rfl) hr (Nat.le_of_ble_eq_true rfl)
theorem cl1131 (hG : Good n L G) {x0 : Int} {x1 : Int} (hr : st.length ≤ 4) : bx (d + 1) q (.invokevirtual 1131 :: is) nx ls (xI x1 :: xI x0 :: xR 376 :: st) (V, G) = (run d 1131 0 [xR 376, xI x0, xI x1] [] (V, G)).bind fun o => bx (d + 1) q is nx ls (o.1.toList ++ st) o.2 := bx_callv (as := [xR 376, xI x0, xI x1]) rfl rfl rfl (by rw [gsh hG 376 rfl rfl]; rfl) hr (Nat.le_of_ble_eq_true rfl)
theorem cl1132 (hG : Good n L G) {x0 : Int} {x1 : Int} (hr : st.length ≤ 4) : bx (d + 1) q (.invokevirtual 1132 :: is) nx ls (xI x1 :: xL x0 :: xR 376 :: st) (V, G) = (run d 1132 0 [xR 376, xL x0, xU, xI x1, xU] [] (V, G)).bind fun o => bx (d + 1) q is nx ls (o.1.toList ++ st) o.2 := bx_callv (as := [xR 376, xL x0, xI x1]) rfl rfl rfl (by rw [gsh hG 376 rfl rfl]; rfl) hr (Nat.le_of_ble_eq_true rfl)
theorem cl1133 (hG : Good n L G)  (hr : st.length ≤ 4) : bx (d + 1) q (.invokevirtual 1133 :: is) nx ls (xR 376 :: st) (V, G) = (run d 1133 0 [xR 376, xU, xU] [] (V, G)).bind fun o => bx (d + 1) q is nx ls (o.1.toList ++ st) o.2 := bx_callv (as := [xR 376]) rfl rfl rfl (by rw [gsh hG 376 rfl rfl]; rfl) hr (Nat.le_of_ble_eq_true rfl)
theorem cl1134 (hG : Good n L G)  (hr : st.length ≤ 4) : bx (d + 1) q (.invokevirtual 1134 :: is) nx ls (xR 376 :: st) (V, G) = (run d 1134 0 [xR 376, xU] [] (V, G)).bind fun o => bx (d + 1) q is nx ls (o.1.toList ++ st) o.2 := bx_callv (as := [xR 376]) rfl rfl rfl (by rw [gsh hG 376 rfl rfl]; rfl) hr (Nat.le_of_ble_eq_true rfl)
theorem cl1135 (hG : Good n L G)  (hr : st.length ≤ 4) : bx (d + 1) q (.invokevirtual 1135 :: is) nx ls (xR 376 :: st) (V, G) = (run d 1135 0 [xR 376, xU, xU] [] (V, G)).bind fun o => bx (d + 1) q is nx ls (o.1.toList ++ st) o.2 := bx_callv (as := [xR 376]) rfl rfl rfl (by rw [gsh hG 376 rfl rfl]; rfl) hr (Nat.le_of_ble_eq_true rfl)
theorem cl1136 (hG : Good n L G)  (hr : st.length ≤ 4) : bx (d + 1) q (.invokevirtual 1136 :: is) nx ls (xR 376 :: st) (V, G) = (run d 1136 0 [xR 376] [] (V, G)).bind fun o => bx (d + 1) q is nx ls (o.1.toList ++ st) o.2 := bx_callv (as := [xR 376]) rfl rfl rfl (by rw [gsh hG 376 rfl rfl]; rfl) hr (Nat.le_of_ble_eq_true rfl)
theorem cl1137 (hG : Good n L G) {x0 : Int} (hr : st.length ≤ 4) : bx (d + 1) q (.invokevirtual 1137 :: is) nx ls (xI x0 :: xR 376 :: st) (V, G) = (run d 1137 0 [xR 376, xI x0] [] (V, G)).bind fun o => bx (d + 1) q is nx ls (o.1.toList ++ st) o.2 := bx_callv (as := [xR 376, xI x0]) rfl rfl rfl (by rw [gsh hG 376 rfl rfl]; rfl) hr (Nat.le_of_ble_eq_true rfl)
theorem cl1139 (hG : Good n L G) {x0 : Int} (hr : st.length ≤ 4) : bx (d + 1) q (.invokevirtual 1139 :: is) nx ls (xI x0 :: xR 376 :: st) (V, G) = (run d 1139 0 [xR 376, xI x0] [] (V, G)).bind fun o => bx (d + 1) q is nx ls (o.1.toList ++ st) o.2 := bx_callv (as := [xR 376, xI x0]) rfl rfl rfl (by rw [gsh hG 376 rfl rfl]; rfl) hr (Nat.le_of_ble_eq_true rfl)
theorem cl1140 (hG : Good n L G) {x0 : Int} (hr : st.length ≤ 4) : bx (d + 1) q (.invokevirtual 1140 :: is) nx ls (xI x0 :: xR 376 :: st) (V, G) = (run d 1140 0 [xR 376, xI x0] [] (V, G)).bind fun o => bx (d + 1) q is nx ls (o.1.toList ++ st) o.2 := bx_callv (as := [xR 376, xI x0]) rfl rfl rfl (by rw [gsh hG 376 rfl rfl]; rfl) hr (Nat.le_of_ble_eq_true rfl)
theorem cl1141 (hG : Good n L G) {x0 : Int} (hr : st.length ≤ 4) : bx (d + 1) q (.invokevirtual 1141 :: is) nx ls (xI x0 :: xR 376 :: st) (V, G) = (run d 1141 0 [xR 376, xI x0, xU] [] (V, G)).bind fun o => bx (d + 1) q is nx ls (o.1.toList ++ st) o.2 := bx_callv (as := [xR 376, xI x0]) rfl rfl rfl (by rw [gsh hG 376 rfl rfl]; rfl) hr (Nat.le_of_ble_eq_true rfl)
theorem cl1142 (hG : Good n L G) {x0 : Int} (hr : st.length ≤ 4) : bx (d + 1) q (.invokevirtual 1142 :: is) nx ls (xI x0 :: xR 376 :: st) (V, G) = (run d 1142 0 [xR 376, xI x0] [] (V, G)).bind fun o => bx (d + 1) q is nx ls (o.1.toList ++ st) o.2 := bx_callv (as := [xR 376, xI x0]) rfl rfl rfl (by rw [gsh hG 376 rfl rfl]; rfl) hr (Nat.le_of_ble_eq_true rfl)
theorem cl1143 (hG : Good n L G)  (hr : st.length ≤ 4) : bx (d + 1) q (.invokevirtual 1143 :: is) nx ls (xR 376 :: st) (V, G) = (run d 1143 0 [xR 376, xU, xU, xU, xU] [] (V, G)).bind fun o => bx (d + 1) q is nx ls (o.1.toList ++ st) o.2 := bx_callv (as := [xR 376]) rfl rfl rfl (by rw [gsh hG 376 rfl rfl]; rfl) hr (Nat.le_of_ble_eq_true rfl)
theorem cl1144 (hG : Good n L G) {x0 : Int} (hr : st.length ≤ 4) : bx (d + 1) q (.invokevirtual 1144 :: is) nx ls (xI x0 :: xR 376 :: st) (V, G) = (run d 1144 0 [xR 376, xI x0, xU] [] (V, G)).bind fun o => bx (d + 1) q is nx ls (o.1.toList ++ st) o.2 := bx_callv (as := [xR 376, xI x0]) rfl rfl rfl (by rw [gsh hG 376 rfl rfl]; rfl) hr (Nat.le_of_ble_eq_true rfl)
theorem cl1145 (hG : Good n L G) {x0 : Int} {x1 : Int} {x2 : Int} (hr : st.length ≤ 4) : bx (d + 1) q (.invokevirtual 1145 :: is) nx ls (xI x2 :: xI x1 :: xI x0 :: xR 376 :: st) (V, G) = (run d 1145 0 [xR 376, xI x0, xI x1, xI x2, xU] [] (V, G)).bind fun o => bx (d + 1) q is nx ls (o.1.toList ++ st) o.2 := bx_callv (as := [xR 376, xI x0, xI x1, xI x2]) rfl rfl rfl (by rw [gsh hG 376 rfl rfl]; rfl) hr (Nat.le_of_ble_eq_true rfl)
theorem cl1146 (hG : Good n L G) {x0 : Int} (hr : st.length ≤ 4) : bx (d + 1) q (.invokevirtual 1146 :: is) nx ls (xL x0 :: xR 376 :: st) (V, G) = (run d 1146 0 [xR 376, xL x0, xU, xU, xU, xU] [] (V, G)).bind fun o => bx (d + 1) q is nx ls (o.1.toList ++ st) o.2 := bx_callv (as := [xR 376, xL x0]) rfl rfl rfl (by rw [gsh hG 376 rfl rfl]; rfl) hr (Nat.le_of_ble_eq_true rfl)
theorem cl1147 (hG : Good n L G) {x0 : Int} {x1 : Int} (hr : st.length ≤ 4) : bx (d + 1) q (.invokevirtual 1147 :: is) nx ls (xI x1 :: xI x0 :: xR 376 :: st) (V, G) = (run d 1147 0 [xR 376, xI x0, xI x1] [] (V, G)).bind fun o => bx (d + 1) q is nx ls (o.1.toList ++ st) o.2 := bx_callv (as := [xR 376, xI x0, xI x1]) rfl rfl rfl (by rw [gsh hG 376 rfl rfl]; rfl) hr (Nat.le_of_ble_eq_true rfl)
theorem cl1148 (hG : Good n L G) {x0 : Int} (hr : st.length ≤ 4) : bx (d + 1) q (.invokevirtual 1148 :: is) nx ls (xI x0 :: xR 376 :: st) (V, G) = (run d 1148 0 [xR 376, xI x0] [] (V, G)).bind fun o => bx (d + 1) q is nx ls (o.1.toList ++ st) o.2 := bx_callv (as := [xR 376, xI x0]) rfl rfl rfl (by rw [gsh hG 376 rfl rfl]; rfl) hr (Nat.le_of_ble_eq_true rfl)
theorem cl1149 (hG : Good n L G) {x0 : Int} {x1 : Int} (hr : st.length ≤ 4) : bx (d + 1) q (.invokevirtual 1149 :: is) nx ls (xI x1 :: xI x0 :: xR 376 :: st) (V, G) = (run d 1149 0 [xR 376, xI x0, xI x1] [] (V, G)).bind fun o => bx (d + 1) q is nx ls (o.1.toList ++ st) o.2 := bx_callv (as := [xR 376, xI x0, xI x1]) rfl rfl rfl (by rw [gsh hG 376 rfl rfl]; rfl) hr (Nat.le_of_ble_eq_true rfl)
theorem cl1150 (hG : Good n L G) {x0 : Int} (hr : st.length ≤ 4) : bx (d + 1) q (.invokevirtual 1150 :: is) nx ls (xI x0 :: xR 376 :: st) (V, G) = (run d 1150 0 [xR 376, xI x0, xU] [] (V, G)).bind fun o => bx (d + 1) q is nx ls (o.1.toList ++ st) o.2 := bx_callv (as := [xR 376, xI x0]) rfl rfl rfl (by rw [gsh hG 376 rfl rfl]; rfl) hr (Nat.le_of_ble_eq_true rfl)
theorem cl1151 (hG : Good n L G) {x0 : Int} {x1 : Int} (hr : st.length ≤ 4) : bx (d + 1) q (.invokevirtual 1151 :: is) nx ls (xI x1 :: xI x0 :: xR 376 :: st) (V, G) = (run d 1151 0 [xR 376, xI x0, xI x1, xU, xU] [] (V, G)).bind fun o => bx (d + 1) q is nx ls (o.1.toList ++ st) o.2 := bx_callv (as := [xR 376, xI x0, xI x1]) rfl rfl rfl (by rw [gsh hG 376 rfl rfl]; rfl) hr (Nat.le_of_ble_eq_true rfl)
theorem cl1152 (hG : Good n L G)  (hr : st.length ≤ 4) : bx (d + 1) q (.invokevirtual 1152 :: is) nx ls (xR 376 :: st) (V, G) = (run d 1152 0 [xR 376, xU, xU] [] (V, G)).bind fun o => bx (d + 1) q is nx ls (o.1.toList ++ st) o.2 := bx_callv (as := [xR 376]) rfl rfl rfl (by rw [gsh hG 376 rfl rfl]; rfl) hr (Nat.le_of_ble_eq_true rfl)
theorem cl1153 (hG : Good n L G) {x0 : Int} {x1 : Int} {x2 : Int} {x3 : Int} (hr : st.length ≤ 4) : bx (d + 1) q (.invokevirtual 1153 :: is) nx ls (xI x3 :: xI x2 :: xI x1 :: xI x0 :: xR 376 :: st) (V, G) = (run d 1153 0 [xR 376, xI x0, xI x1, xI x2, xI x3] [] (V, G)).bind fun o => bx (d + 1) q is nx ls (o.1.toList ++ st) o.2 := bx_callv (as := [xR 376, xI x0, xI x1, xI x2, xI x3]) rfl rfl rfl (by rw [gsh hG 376 rfl rfl]; rfl) hr (Nat.le_of_ble_eq_true rfl)
theorem cl1154 (hG : Good n L G)  (hr : st.length ≤ 4) : bx (d + 1) q (.invokevirtual 1154 :: is) nx ls (xR 376 :: st) (V, G) = (run d 1154 0 [xR 376, xU] [] (V, G)).bind fun o => bx (d + 1) q is nx ls (o.1.toList ++ st) o.2 := bx_callv (as := [xR 376]) rfl rfl rfl (by rw [gsh hG 376 rfl rfl]; rfl) hr (Nat.le_of_ble_eq_true rfl)
theorem cl1155 (hG : Good n L G) {x0 : Int} {x1 : Int} (hr : st.length ≤ 4) : bx (d + 1) q (.invokevirtual 1155 :: is) nx ls (xI x1 :: xI x0 :: xR 376 :: st) (V, G) = (run d 1155 0 [xR 376, xI x0, xI x1, xU, xU] [] (V, G)).bind fun o => bx (d + 1) q is nx ls (o.1.toList ++ st) o.2 := bx_callv (as := [xR 376, xI x0, xI x1]) rfl rfl rfl (by rw [gsh hG 376 rfl rfl]; rfl) hr (Nat.le_of_ble_eq_true rfl)
theorem cl1156 (hG : Good n L G) {x0 : Int} {x1 : Int} {x2 : Int} (hr : st.length ≤ 4) : bx (d + 1) q (.invokevirtual 1156 :: is) nx ls (xI x2 :: xI x1 :: xI x0 :: xR 376 :: st) (V, G) = (run d 1156 0 [xR 376, xI x0, xI x1, xI x2, xU] [] (V, G)).bind fun o => bx (d + 1) q is nx ls (o.1.toList ++ st) o.2 := bx_callv (as := [xR 376, xI x0, xI x1, xI x2]) rfl rfl rfl (by rw [gsh hG 376 rfl rfl]; rfl) hr (Nat.le_of_ble_eq_true rfl)
theorem cl1158 (hG : Good n L G) {x0 : Int} (hr : st.length ≤ 4) : bx (d + 1) q (.invokevirtual 1158 :: is) nx ls (xI x0 :: xR 376 :: st) (V, G) = (run d 1158 0 [xR 376, xI x0, xU, xU] [] (V, G)).bind fun o => bx (d + 1) q is nx ls (o.1.toList ++ st) o.2 := bx_callv (as := [xR 376, xI x0]) rfl rfl rfl (by rw [gsh hG 376 rfl rfl]; rfl) hr (Nat.le_of_ble_eq_true rfl)
theorem cl1159 (hG : Good n L G)  (hr : st.length ≤ 4) : bx (d + 1) q (.invokevirtual 1159 :: is) nx ls (xR 376 :: st) (V, G) = (run d 1159 0 [xR 376, xU, xU, xU, xU, xU, xU, xU] [] (V, G)).bind fun o => bx (d + 1) q is nx ls (o.1.toList ++ st) o.2 := bx_callv (as := [xR 376]) rfl rfl rfl (by rw [gsh hG 376 rfl rfl]; rfl) hr (Nat.le_of_ble_eq_true rfl)
theorem cl1160 (hG : Good n L G) {x0 : Int} {x1 : Int} {x2 : Int} (hr : st.length ≤ 4) : bx (d + 1) q (.invokevirtual 1160 :: is) nx ls (xI x2 :: xI x1 :: xI x0 :: xR 376 :: st) (V, G) = (run d 1160 0 [xR 376, xI x0, xI x1, xI x2, xU] [] (V, G)).bind fun o => bx (d + 1) q is nx ls (o.1.toList ++ st) o.2 := bx_callv (as := [xR 376, xI x0, xI x1, xI x2]) rfl rfl rfl (by rw [gsh hG 376 rfl rfl]; rfl) hr (Nat.le_of_ble_eq_true rfl)
theorem cl1161 (hG : Good n L G)  (hr : st.length ≤ 4) : bx (d + 1) q (.invokevirtual 1161 :: is) nx ls (xR 376 :: st) (V, G) = (run d 1161 0 [xR 376, xU] [] (V, G)).bind fun o => bx (d + 1) q is nx ls (o.1.toList ++ st) o.2 := bx_callv (as := [xR 376]) rfl rfl rfl (by rw [gsh hG 376 rfl rfl]; rfl) hr (Nat.le_of_ble_eq_true rfl)
theorem cl1162 (hG : Good n L G) {x0 : Int} (hr : st.length ≤ 4) : bx (d + 1) q (.invokevirtual 1162 :: is) nx ls (xI x0 :: xR 376 :: st) (V, G) = (run d 1162 0 [xR 376, xI x0, xU, xU, xU, xU] [] (V, G)).bind fun o => bx (d + 1) q is nx ls (o.1.toList ++ st) o.2 := bx_callv (as := [xR 376, xI x0]) rfl rfl rfl (by rw [gsh hG 376 rfl rfl]; rfl) hr (Nat.le_of_ble_eq_true rfl)
theorem cl1163 (hG : Good n L G) {x0 : Int} (hr : st.length ≤ 4) : bx (d + 1) q (.invokevirtual 1163 :: is) nx ls (xI x0 :: xR 376 :: st) (V, G) = (run d 1163 0 [xR 376, xI x0, xU, xU] [] (V, G)).bind fun o => bx (d + 1) q is nx ls (o.1.toList ++ st) o.2 := bx_callv (as := [xR 376, xI x0]) rfl rfl rfl (by rw [gsh hG 376 rfl rfl]; rfl) hr (Nat.le_of_ble_eq_true rfl)
theorem cl1164 (hG : Good n L G)  (hr : st.length ≤ 4) : bx (d + 1) q (.invokevirtual 1164 :: is) nx ls (xR 376 :: st) (V, G) = (run d 1164 0 [xR 376, xU, xU, xU, xU] [] (V, G)).bind fun o => bx (d + 1) q is nx ls (o.1.toList ++ st) o.2 := bx_callv (as := [xR 376]) rfl rfl rfl (by rw [gsh hG 376 rfl rfl]; rfl) hr (Nat.le_of_ble_eq_true rfl)
end CL
end
section
/-! THE BLOCKS of every method: from each place that a jump goes to, up to a jump for good, a return or a loop head -/
theorem bk0_0 (d : Nat) (ls st : List XV) (μ : XM) : run d 0 0 ls st μ = bx d 0 [.aload_n 0, .monitorexit, .aload_n 0, .bipush 96, .newarray .int, .putfield 0, .aload_n 0, .bipush 96, .newarray .int, .putfield 1, .aload_n 0, .getfield 0, .iconst 0, .iconst 1, .iastore, .iconst 1, .istore_n 1] 29 ls st μ := run_blk (by decide +kernel) d ls st μ
theorem bk0_29 (d : Nat) (ls st : List XV) (μ : XM) : run d 0 29 ls st μ = bx d 0 [.iload_n 1, .bipush 96, .if_icmp .ge 107, .aload_n 0, .getfield 0, .iload_n 1, .aload_n 0, .getfield 0, .iload_n 1, .iconst 1, .isub, .iaload, .bipush 22, .imul, .aload_n 0, .getfield 1, .iload_n 1, .iconst 1, .isub, .iaload, .bipush 83, .imul, .isub, .bipush 97, .invokestatic 1300, .iastore, .aload_n 0, .getfield 1, .iload_n 1, .aload_n 0, .getfield 1, .iload_n 1, .iconst 1, .isub, .iaload, .bipush 22, .imul, .aload_n 0, .getfield 0, .iload_n 1, .iconst 1, .isub, .iaload, .bipush 83, .imul, .iadd, .bipush 97, .irem, .iastore, .iinc 1 1, .goto 29] 107 ls st μ := run_blk (by decide +kernel) d ls st μ
theorem bk0_107 (d : Nat) (ls st : List XV) (μ : XM) : run d 0 107 ls st μ = bx d 0 [.return_] 108 ls st μ := run_blk (by decide +kernel) d ls st μ
theorem bk1_0 (d : Nat) (ls st : List XV) (μ : XM) : run d 1 0 ls st μ = bx d 1 [.aload_n 1, .iload_n 2, .iaload, .istore 4, .aload_n 1, .iload_n 2, .iconst 1, .iadd, .iaload, .istore 5, .aload_n 1, .iload_n 2, .aload_n 0, .getfield 0, .iload_n 3, .iaload, .iload 4, .imul, .aload_n 0, .getfield 1, .iload_n 3, .iaload, .iload 5, .imul, .isub, .bipush 97, .invokestatic 1300, .iastore, .aload_n 1, .iload_n 2, .iconst 1, .iadd, .aload_n 0, .getfield 1, .iload_n 3, .iaload, .iload 4, .imul, .aload_n 0, .getfield 0, .iload_n 3, .iaload, .iload 5, .imul, .iadd, .bipush 97, .irem, .iastore, .return_] 67 ls st μ := run_blk (by decide +kernel) d ls st μ
theorem bk2_0 (d : Nat) (ls st : List XV) (μ : XM) : run d 2 0 ls st μ = bx d 2 [.iconst 0, .istore_n 3] 2 ls st μ := run_blk (by decide +kernel) d ls st μ
theorem bk2_2 (d : Nat) (ls st : List XV) (μ : XM) : run d 2 2 ls st μ = bx d 2 [.iload_n 3, .bipush 96, .if_icmp .ge 39, .aload_n 0, .getfield 1, .iload_n 3, .iaload, .iload_n 1, .imul, .aload_n 0, .getfield 0, .iload_n 3, .iaload, .iload_n 2, .imul, .iadd, .bipush 97, .irem, .ifCond .ne 33, .iload_n 3, .ireturn] 33 ls st μ := run_blk (by decide +kernel) d ls st μ
theorem bk2_33 (d : Nat) (ls st : List XV) (μ : XM) : run d 2 33 ls st μ = bx d 2 [.iinc 3 1, .goto 2] 39 ls st μ := run_blk (by decide +kernel) d ls st μ
theorem bk2_39 (d : Nat) (ls st : List XV) (μ : XM) : run d 2 39 ls st μ = bx d 2 [.iconst (-1), .ireturn] 41 ls st μ := run_blk (by decide +kernel) d ls st μ
theorem bk100_0 (d : Nat) (ls st : List XV) (μ : XM) : run d 100 0 ls st μ = bx d 100 [.aload_n 0, .monitorexit, .aload_n 0, .sipush 1024, .newarray .long, .putfield 102, .aload_n 0, .bipush 10, .newarray .int, .putfield 103, .aload_n 0, .aload_n 1, .putfield 100, .aload_n 0, .aload_n 2, .putfield 101, .return_] 32 ls st μ := run_blk (by decide +kernel) d ls st μ
theorem bk101_0 (d : Nat) (ls st : List XV) (μ : XM) : run d 101 0 ls st μ = bx d 101 [.aload_n 0, .invokevirtual 102, .aload_n 0, .iconst 0, .iconst 0, .invokevirtual 103, .istore_n 1, .iload_n 1, .bipush 13, .if_icmp .ne 20, .bipush (-5), .ireturn] 20 ls st μ := run_blk (by decide +kernel) d ls st μ
theorem bk101_20 (d : Nat) (ls st : List XV) (μ : XM) : run d 101 20 ls st μ = bx d 101 [.aload_n 0, .iload_n 1, .invokevirtual 106, .iload_n 1, .ireturn] 27 ls st μ := run_blk (by decide +kernel) d ls st μ
theorem bk102_0 (d : Nat) (ls st : List XV) (μ : XM) : run d 102 0 ls st μ = bx d 102 [.aload_n 0, .iconst 1, .aload_n 0, .getfield 101, .getfield 602, .ishl, .iconst 1, .isub, .putfield 104, .aload_n 0, .getfield 102, .iconst 0, .aload_n 0, .getfield 104, .iconst 1, .iadd, .lconst 0, .invokestatic 1401, .iconst 0, .istore_n 1] 32 ls st μ := run_blk (by decide +kernel) d ls st μ
theorem bk102_32 (d : Nat) (ls st : List XV) (μ : XM) : run d 102 32 ls st μ = bx d 102 [.iload_n 1, .aload_n 0, .getfield 101, .getfield 602, .if_icmp .ge 107, .aload_n 0, .getfield 103, .iload_n 1, .iconst 0, .iastore, .iconst 0, .istore_n 2] 52 ls st μ := run_blk (by decide +kernel) d ls st μ
theorem bk102_52 (d : Nat) (ls st : List XV) (μ : XM) : run d 102 52 ls st μ = bx d 102 [.iload_n 2, .iload_n 1, .if_icmp .ge 101, .aload_n 0, .getfield 101, .getfield 600, .iload_n 2, .iaload, .aload_n 0, .getfield 101, .getfield 600, .iload_n 1, .iaload, .isub, .invokestatic 1302, .iconst 1, .if_icmp .gt 95, .aload_n 0, .getfield 103, .iload_n 1, .dup2, .iaload, .iconst 1, .iload_n 2, .ishl, .ior, .iastore, .iinc 2 1, .goto 52] 101 ls st μ := run_blk (by decide +kernel) d ls st μ
theorem bk102_95 (d : Nat) (ls st : List XV) (μ : XM) : run d 102 95 ls st μ = bx d 102 [.iinc 2 1, .goto 52] 101 ls st μ := run_blk (by decide +kernel) d ls st μ
theorem bk102_101 (d : Nat) (ls st : List XV) (μ : XM) : run d 102 101 ls st μ = bx d 102 [.iinc 1 1, .goto 32] 107 ls st μ := run_blk (by decide +kernel) d ls st μ
theorem bk102_107 (d : Nat) (ls st : List XV) (μ : XM) : run d 102 107 ls st μ = bx d 102 [.aload_n 0, .iconst 0, .putfield 105, .iconst 0, .istore_n 1] 114 ls st μ := run_blk (by decide +kernel) d ls st μ
theorem bk102_114 (d : Nat) (ls st : List XV) (μ : XM) : run d 102 114 ls st μ = bx d 102 [.iload_n 1, .bipush 36, .if_icmp .ge 147, .aload_n 0, .getfield 100, .getfield 304, .iload_n 1, .iaload, .ifCond .le 141, .aload_n 0, .iload_n 1, .iconst 3, .idiv, .iconst 1, .iadd, .putfield 105, .iinc 1 1, .goto 114] 147 ls st μ := run_blk (by decide +kernel) d ls st μ
theorem bk102_141 (d : Nat) (ls st : List XV) (μ : XM) : run d 102 141 ls st μ = bx d 102 [.iinc 1 1, .goto 114] 147 ls st μ := run_blk (by decide +kernel) d ls st μ
theorem bk102_147 (d : Nat) (ls st : List XV) (μ : XM) : run d 102 147 ls st μ = bx d 102 [.return_] 148 ls st μ := run_blk (by decide +kernel) d ls st μ
theorem bk103_0 (d : Nat) (ls st : List XV) (μ : XM) : run d 103 0 ls st μ = bx d 103 [.iload_n 2, .aload_n 0, .getfield 104, .if_icmp .ne 23, .iload_n 1, .aload_n 0, .getfield 105, .if_icmp .lt 20, .iload_n 1, .goto 22] 20 ls st μ := run_blk (by decide +kernel) d ls st μ
theorem bk103_20 (d : Nat) (ls st : List XV) (μ : XM) : run d 103 20 ls st μ = bx d 103 [.bipush 13, .ireturn] 23 ls st μ := run_blk (by decide +kernel) d ls st μ
theorem bk103_22 (d : Nat) (ls st : List XV) (μ : XM) : run d 103 22 ls st μ = bx d 103 [.ireturn] 23 ls st μ := run_blk (by decide +kernel) d ls st μ
theorem bk103_23 (d : Nat) (ls st : List XV) (μ : XM) : run d 103 23 ls st μ = bx d 103 [.iload_n 1, .bipush 12, .if_icmp .lt 32, .bipush 13, .ireturn] 32 ls st μ := run_blk (by decide +kernel) d ls st μ
theorem bk103_32 (d : Nat) (ls st : List XV) (μ : XM) : run d 103 32 ls st μ = bx d 103 [.aload_n 0, .getfield 102, .iload_n 2, .laload, .iconst 4, .iload_n 1, .imul, .lushr, .l2i, .bipush 15, .iand, .istore_n 3, .iload_n 3, .ifCond .le 55, .iload_n 3, .iconst 1, .isub, .ireturn] 55 ls st μ := run_blk (by decide +kernel) d ls st μ
theorem bk103_55 (d : Nat) (ls st : List XV) (μ : XM) : run d 103 55 ls st μ = bx d 103 [.bipush 13, .istore 4, .aload_n 0, .iload_n 1, .iload_n 2, .invokevirtual 104, .istore 5, .iload 5, .ifCond .lt 138, .iload 5, .sipush 1023, .iand, .istore 6, .iload_n 2, .iload 5, .bipush 10, .ishr, .ior, .istore 7, .iload 6, .istore 8] 93 ls st μ := run_blk (by decide +kernel) d ls st μ
theorem bk103_93 (d : Nat) (ls st : List XV) (μ : XM) : run d 103 93 ls st μ = bx d 103 [.iload 8, .ifCond .lt 138, .iload 4, .aload_n 0, .iload_n 1, .iconst 1, .iadd, .iload 7, .iload 8, .ior, .invokevirtual 103, .invokestatic 1301, .istore 4, .iload 8, .ifCond .ne 126, .iconst (-1), .goto 133] 126 ls st μ := run_blk (by decide +kernel) d ls st μ
theorem bk103_126 (d : Nat) (ls st : List XV) (μ : XM) : run d 103 126 ls st μ = bx d 103 [.iload 8, .iconst 1, .isub, .iload 6, .iand, .istore 8, .goto 93] 138 ls st μ := run_blk (by decide +kernel) d ls st μ
theorem bk103_133 (d : Nat) (ls st : List XV) (μ : XM) : run d 103 133 ls st μ = bx d 103 [.istore 8, .goto 93] 138 ls st μ := run_blk (by decide +kernel) d ls st μ
theorem bk103_138 (d : Nat) (ls st : List XV) (μ : XM) : run d 103 138 ls st μ = bx d 103 [.aload_n 0, .getfield 102, .iload_n 2, .dup2, .laload, .iload 4, .iconst 1, .iadd, .i2l, .iconst 4, .iload_n 1, .imul, .lshl, .lor, .lastore, .iload 4, .ireturn] 159 ls st μ := run_blk (by decide +kernel) d ls st μ
theorem bk104_0 (d : Nat) (ls st : List XV) (μ : XM) : run d 104 0 ls st μ = bx d 104 [.iconst 0, .istore_n 3, .iconst 0, .istore 4, .iload_n 1, .iconst 3, .imul, .istore 5] 10 ls st μ := run_blk (by decide +kernel) d ls st μ
theorem bk104_10 (d : Nat) (ls st : List XV) (μ : XM) : run d 104 10 ls st μ = bx d 104 [.iload 5, .iload_n 1, .iconst 1, .iadd, .iconst 3, .imul, .if_icmp .ge 148, .aload_n 0, .getfield 100, .iload 5, .invokevirtual 308, .ifCond .ne 35, .goto 142] 35 ls st μ := run_blk (by decide +kernel) d ls st μ
theorem bk104_35 (d : Nat) (ls st : List XV) (μ : XM) : run d 104 35 ls st μ = bx d 104 [.aload_n 0, .getfield 100, .getfield 304, .iload 5, .iaload, .istore 6, .aload_n 0, .aload_n 0, .getfield 100, .getfield 302, .iload 5, .iaload, .iload_n 2, .invokevirtual 105, .istore 7, .iload 7, .iconst (-1), .if_icmp .eq 95, .iload 6, .iconst (-1), .if_icmp .eq 91, .iload 6, .aload_n 0, .getfield 101, .getfield 601, .iload 7, .iaload, .if_icmp .ne 95, .iconst 1, .goto 96] 95 ls st μ := run_blk (by decide +kernel) d ls st μ
theorem bk104_91 (d : Nat) (ls st : List XV) (μ : XM) : run d 104 91 ls st μ = bx d 104 [.iconst 1, .goto 96] 95 ls st μ := run_blk (by decide +kernel) d ls st μ
theorem bk104_95 (d : Nat) (ls st : List XV) (μ : XM) : run d 104 95 ls st μ = bx d 104 [.iconst 0, .istore 8, .iload 8, .ifCond .eq 120, .iload 6, .ifCond .le 120, .iload 4, .iconst 1, .iload 7, .ishl, .ior, .istore 4, .goto 142] 120 ls st μ := run_blk (by decide +kernel) d ls st μ
theorem bk104_96 (d : Nat) (ls st : List XV) (μ : XM) : run d 104 96 ls st μ = bx d 104 [.istore 8, .iload 8, .ifCond .eq 120, .iload 6, .ifCond .le 120, .iload 4, .iconst 1, .iload 7, .ishl, .ior, .istore 4, .goto 142] 120 ls st μ := run_blk (by decide +kernel) d ls st μ
theorem bk104_120 (d : Nat) (ls st : List XV) (μ : XM) : run d 104 120 ls st μ = bx d 104 [.iload 8, .ifCond .eq 135, .iload_n 3, .iconst 1, .iload 7, .ishl, .ior, .istore_n 3, .goto 142] 135 ls st μ := run_blk (by decide +kernel) d ls st μ
theorem bk104_135 (d : Nat) (ls st : List XV) (μ : XM) : run d 104 135 ls st μ = bx d 104 [.iload 6, .ifCond .le 142, .iconst (-1), .ireturn] 142 ls st μ := run_blk (by decide +kernel) d ls st μ
theorem bk104_142 (d : Nat) (ls st : List XV) (μ : XM) : run d 104 142 ls st μ = bx d 104 [.iinc 5 1, .goto 10] 148 ls st μ := run_blk (by decide +kernel) d ls st μ
theorem bk104_148 (d : Nat) (ls st : List XV) (μ : XM) : run d 104 148 ls st μ = bx d 104 [.iload 4, .bipush 10, .ishl, .iload_n 3, .ior, .ireturn] 156 ls st μ := run_blk (by decide +kernel) d ls st μ
theorem bk105_0 (d : Nat) (ls st : List XV) (μ : XM) : run d 105 0 ls st μ = bx d 105 [.iconst 0, .istore_n 3] 2 ls st μ := run_blk (by decide +kernel) d ls st μ
theorem bk105_2 (d : Nat) (ls st : List XV) (μ : XM) : run d 105 2 ls st μ = bx d 105 [.iload_n 3, .aload_n 0, .getfield 101, .getfield 602, .if_icmp .ge 59, .aload_n 0, .getfield 101, .getfield 600, .iload_n 3, .iaload, .iload_n 1, .if_icmp .ne 53, .iload_n 2, .iload_n 3, .ishr, .iconst 1, .iand, .ifCond .ne 53, .aload_n 0, .getfield 103, .iload_n 3, .iaload, .iload_n 2, .iconst (-1), .ixor, .iand, .ifCond .ne 51, .iload_n 3, .goto 52] 51 ls st μ := run_blk (by decide +kernel) d ls st μ
theorem bk105_51 (d : Nat) (ls st : List XV) (μ : XM) : run d 105 51 ls st μ = bx d 105 [.iconst (-1), .ireturn] 53 ls st μ := run_blk (by decide +kernel) d ls st μ
theorem bk105_52 (d : Nat) (ls st : List XV) (μ : XM) : run d 105 52 ls st μ = bx d 105 [.ireturn] 53 ls st μ := run_blk (by decide +kernel) d ls st μ
theorem bk105_53 (d : Nat) (ls st : List XV) (μ : XM) : run d 105 53 ls st μ = bx d 105 [.iinc 3 1, .goto 2] 59 ls st μ := run_blk (by decide +kernel) d ls st μ
theorem bk105_59 (d : Nat) (ls st : List XV) (μ : XM) : run d 105 59 ls st μ = bx d 105 [.iconst (-1), .ireturn] 61 ls st μ := run_blk (by decide +kernel) d ls st μ
theorem bk106_0 (d : Nat) (ls st : List XV) (μ : XM) : run d 106 0 ls st μ = bx d 106 [.iconst 0, .istore_n 2] 2 ls st μ := run_blk (by decide +kernel) d ls st μ
theorem bk106_2 (d : Nat) (ls st : List XV) (μ : XM) : run d 106 2 ls st μ = bx d 106 [.iload_n 2, .bipush 36, .if_icmp .ge 35, .aload_n 0, .getfield 100, .iload_n 2, .invokevirtual 302, .ifCond .ne 29, .aload_n 0, .getfield 100, .getfield 303, .iload_n 2, .iconst 0, .iastore, .iinc 2 1, .goto 2] 35 ls st μ := run_blk (by decide +kernel) d ls st μ
theorem bk106_29 (d : Nat) (ls st : List XV) (μ : XM) : run d 106 29 ls st μ = bx d 106 [.iinc 2 1, .goto 2] 35 ls st μ := run_blk (by decide +kernel) d ls st μ
theorem bk106_35 (d : Nat) (ls st : List XV) (μ : XM) : run d 106 35 ls st μ = bx d 106 [.iconst 0, .istore_n 2, .iconst 0, .istore_n 3] 39 ls st μ := run_blk (by decide +kernel) d ls st μ
theorem bk106_39 (d : Nat) (ls st : List XV) (μ : XM) : run d 106 39 ls st μ = bx d 106 [.iload_n 3, .iload_n 1, .if_icmp .ge 71, .aload_n 0, .iload_n 3, .iload_n 2, .iload_n 1, .invokevirtual 107, .istore 4, .aload_n 0, .iload_n 3, .iload 4, .invokevirtual 108, .iload_n 2, .iload 4, .ior, .istore_n 2, .iinc 3 1, .goto 39] 71 ls st μ := run_blk (by decide +kernel) d ls st μ
theorem bk106_71 (d : Nat) (ls st : List XV) (μ : XM) : run d 106 71 ls st μ = bx d 106 [.return_] 72 ls st μ := run_blk (by decide +kernel) d ls st μ
theorem bk107_0 (d : Nat) (ls st : List XV) (μ : XM) : run d 107 0 ls st μ = bx d 107 [.aload_n 0, .iload_n 1, .iload_n 2, .invokevirtual 104, .istore 4, .iload 4, .ifCond .ge 15, .iconst 0, .ireturn] 15 ls st μ := run_blk (by decide +kernel) d ls st μ
theorem bk107_15 (d : Nat) (ls st : List XV) (μ : XM) : run d 107 15 ls st μ = bx d 107 [.iload 4, .sipush 1023, .iand, .istore 5, .iload 4, .bipush 10, .ishr, .istore 6, .iload 5, .istore 7] 34 ls st μ := run_blk (by decide +kernel) d ls st μ
theorem bk107_34 (d : Nat) (ls st : List XV) (μ : XM) : run d 107 34 ls st μ = bx d 107 [.iload 7, .ifCond .le 75, .aload_n 0, .iload_n 1, .iconst 1, .iadd, .iload_n 2, .iload 6, .ior, .iload 7, .ior, .invokevirtual 103, .iload_n 3, .if_icmp .ne 63, .iload 6, .iload 7, .ior, .ireturn] 63 ls st μ := run_blk (by decide +kernel) d ls st μ
theorem bk107_63 (d : Nat) (ls st : List XV) (μ : XM) : run d 107 63 ls st μ = bx d 107 [.iload 7, .iconst 1, .isub, .iload 5, .iand, .istore 7, .goto 34] 75 ls st μ := run_blk (by decide +kernel) d ls st μ
theorem bk107_75 (d : Nat) (ls st : List XV) (μ : XM) : run d 107 75 ls st μ = bx d 107 [.iload 6, .ireturn] 78 ls st μ := run_blk (by decide +kernel) d ls st μ
theorem bk108_0 (d : Nat) (ls st : List XV) (μ : XM) : run d 108 0 ls st μ = bx d 108 [.iconst 0, .istore_n 3] 2 ls st μ := run_blk (by decide +kernel) d ls st μ
theorem bk108_2 (d : Nat) (ls st : List XV) (μ : XM) : run d 108 2 ls st μ = bx d 108 [.iload_n 3, .aload_n 0, .getfield 101, .getfield 602, .if_icmp .ge 87, .iload_n 2, .iload_n 3, .ishr, .iconst 1, .iand, .ifCond .ne 25, .iconst (-1), .goto 42] 25 ls st μ := run_blk (by decide +kernel) d ls st μ
theorem bk108_25 (d : Nat) (ls st : List XV) (μ : XM) : run d 108 25 ls st μ = bx d 108 [.aload_n 0, .getfield 100, .iload_n 1, .aload_n 0, .getfield 101, .getfield 600, .iload_n 3, .iaload, .invokevirtual 301, .istore 4, .iload 4, .iconst (-1), .if_icmp .eq 81, .aload_n 0, .getfield 100, .iload 4, .invokevirtual 302, .ifCond .ne 81, .aload_n 0, .getfield 100, .getfield 303, .iload 4, .aload_n 0, .getfield 101, .getfield 601, .iload_n 3, .iaload, .iastore, .iinc 3 1, .goto 2] 87 ls st μ := run_blk (by decide +kernel) d ls st μ
theorem bk108_42 (d : Nat) (ls st : List XV) (μ : XM) : run d 108 42 ls st μ = bx d 108 [.istore 4, .iload 4, .iconst (-1), .if_icmp .eq 81, .aload_n 0, .getfield 100, .iload 4, .invokevirtual 302, .ifCond .ne 81, .aload_n 0, .getfield 100, .getfield 303, .iload 4, .aload_n 0, .getfield 101, .getfield 601, .iload_n 3, .iaload, .iastore, .iinc 3 1, .goto 2] 87 ls st μ := run_blk (by decide +kernel) d ls st μ
theorem bk108_81 (d : Nat) (ls st : List XV) (μ : XM) : run d 108 81 ls st μ = bx d 108 [.iinc 3 1, .goto 2] 87 ls st μ := run_blk (by decide +kernel) d ls st μ
theorem bk108_87 (d : Nat) (ls st : List XV) (μ : XM) : run d 108 87 ls st μ = bx d 108 [.return_] 88 ls st μ := run_blk (by decide +kernel) d ls st μ
theorem bk200_0 (d : Nat) (ls st : List XV) (μ : XM) : run d 200 0 ls st μ = bx d 200 [.aload_n 0, .monitorexit, .aload_n 0, .bipush 60, .newarray .int, .putfield 202, .aload_n 0, .bipush 60, .newarray .int, .putfield 203, .aload_n 0, .bipush 60, .newarray .int, .putfield 204, .aload_n 0, .bipush 36, .newarray .int, .putfield 205, .return_] 37 ls st μ := run_blk (by decide +kernel) d ls st μ
theorem bk201_0 (d : Nat) (ls st : List XV) (μ : XM) : run d 201 0 ls st μ = bx d 201 [.aload_n 0, .getfield 200, .bipush 60, .if_icmp .lt 13, .iconst 1, .goto 14] 13 ls st μ := run_blk (by decide +kernel) d ls st μ
theorem bk201_13 (d : Nat) (ls st : List XV) (μ : XM) : run d 201 13 ls st μ = bx d 201 [.iconst 0, .freturn] 15 ls st μ := run_blk (by decide +kernel) d ls st μ
theorem bk201_14 (d : Nat) (ls st : List XV) (μ : XM) : run d 201 14 ls st μ = bx d 201 [.freturn] 15 ls st μ := run_blk (by decide +kernel) d ls st μ
theorem bk202_0 (d : Nat) (ls st : List XV) (μ : XM) : run d 202 0 ls st μ = bx d 202 [.aload_n 0, .dup, .getfield 200, .iconst 1, .iadd, .putfield 200, .return_] 11 ls st μ := run_blk (by decide +kernel) d ls st μ
theorem bk203_0 (d : Nat) (ls st : List XV) (μ : XM) : run d 203 0 ls st μ = bx d 203 [.aload_n 2, .iconst 0, .invokestatic 1400, .aload_n 0, .getfield 205, .iconst 0, .invokestatic 1400, .iconst 0, .istore_n 3] 15 ls st μ := run_blk (by decide +kernel) d ls st μ
theorem bk203_15 (d : Nat) (ls st : List XV) (μ : XM) : run d 203 15 ls st μ = bx d 203 [.iload_n 3, .aload_n 0, .getfield 201, .if_icmp .ge 86, .aload_n 0, .getfield 202, .iload_n 3, .iaload, .istore 4, .aload_n 0, .getfield 204, .iload_n 3, .iaload, .iload_n 1, .if_icmp .gt 80, .aload_n 0, .getfield 204, .iload_n 3, .iaload, .aload_n 0, .getfield 205, .iload 4, .iaload, .if_icmp .lt 80, .aload_n 0, .getfield 205, .iload 4, .aload_n 0, .getfield 204, .iload_n 3, .iaload, .iastore, .aload_n 2, .iload 4, .aload_n 0, .getfield 203, .iload_n 3, .iaload, .iastore, .iinc 3 1, .goto 15] 86 ls st μ := run_blk (by decide +kernel) d ls st μ
theorem bk203_80 (d : Nat) (ls st : List XV) (μ : XM) : run d 203 80 ls st μ = bx d 203 [.iinc 3 1, .goto 15] 86 ls st μ := run_blk (by decide +kernel) d ls st μ
theorem bk203_86 (d : Nat) (ls st : List XV) (μ : XM) : run d 203 86 ls st μ = bx d 203 [.return_] 87 ls st μ := run_blk (by decide +kernel) d ls st μ
theorem bk204_0 (d : Nat) (ls st : List XV) (μ : XM) : run d 204 0 ls st μ = bx d 204 [.aload_n 0, .getfield 201, .bipush 60, .if_icmp .lt 10, .return_] 10 ls st μ := run_blk (by decide +kernel) d ls st μ
theorem bk204_10 (d : Nat) (ls st : List XV) (μ : XM) : run d 204 10 ls st μ = bx d 204 [.aload_n 0, .getfield 202, .aload_n 0, .getfield 201, .iload_n 1, .iastore, .aload_n 0, .getfield 203, .aload_n 0, .getfield 201, .iload_n 2, .iastore, .aload_n 0, .getfield 204, .aload_n 0, .getfield 201, .iload_n 3, .iastore, .aload_n 0, .dup, .getfield 201, .iconst 1, .iadd, .putfield 201, .aload_n 0, .dup, .getfield 200, .iconst 1, .iadd, .putfield 200, .return_] 61 ls st μ := run_blk (by decide +kernel) d ls st μ
theorem bk300_0 (d : Nat) (ls st : List XV) (μ : XM) : run d 300 0 ls st μ = bx d 300 [.aload_n 0, .monitorexit, .aload_n 0, .bipush 36, .newarray .int, .putfield 302, .aload_n 0, .bipush 36, .newarray .int, .putfield 303, .aload_n 0, .bipush 36, .newarray .int, .putfield 304, .aload_n 0, .bipush 36, .newarray .int, .putfield 305, .aload_n 0, .bipush 99, .putfield 306, .aload_n 0, .bipush 36, .newarray .int, .putfield 307, .aload_n 0, .bipush 6, .newarray .int, .putfield 308, .aload_n 0, .iload_n 1, .putfield 300, .aload_n 0, .aload_n 2, .putfield 301, .aload_n 0, .getfield 304, .iconst (-1), .invokestatic 1400, .iconst 0, .istore_n 3] 78 ls st μ := run_blk (by decide +kernel) d ls st μ
theorem bk300_78 (d : Nat) (ls st : List XV) (μ : XM) : run d 300 78 ls st μ = bx d 300 [.iload_n 3, .bipush 36, .if_icmp .ge 123, .iconst 2, .iload_n 3, .iconst 3, .irem, .imul, .iload_n 3, .iconst 3, .idiv, .iconst 2, .irem, .iadd, .istore 4, .aload_n 0, .getfield 302, .iload_n 3, .iload 4, .iconst 1, .iadd, .iload_n 1, .if_icmp .ge 115, .iload 4, .goto 116] 115 ls st μ := run_blk (by decide +kernel) d ls st μ
theorem bk300_115 (d : Nat) (ls st : List XV) (μ : XM) : run d 300 115 ls st μ = bx d 300 [.iconst (-1), .iastore, .iinc 3 1, .goto 78] 123 ls st μ := run_blk (by decide +kernel) d ls st μ
theorem bk300_116 (d : Nat) (ls st : List XV) (μ : XM) : run d 300 116 ls st μ = bx d 300 [.iastore, .iinc 3 1, .goto 78] 123 ls st μ := run_blk (by decide +kernel) d ls st μ
theorem bk300_123 (d : Nat) (ls st : List XV) (μ : XM) : run d 300 123 ls st μ = bx d 300 [.return_] 124 ls st μ := run_blk (by decide +kernel) d ls st μ
theorem bk301_0 (d : Nat) (ls st : List XV) (μ : XM) : run d 301 0 ls st μ = bx d 301 [.iload_n 1, .ifCond .lt 24, .iload_n 1, .bipush 12, .if_icmp .ge 24, .iload_n 2, .ifCond .lt 24, .iload_n 2, .aload_n 0, .getfield 300, .iconst 2, .isub, .if_icmp .le 26, .iconst (-1), .ireturn] 26 ls st μ := run_blk (by decide +kernel) d ls st μ
theorem bk301_24 (d : Nat) (ls st : List XV) (μ : XM) : run d 301 24 ls st μ = bx d 301 [.iconst (-1), .ireturn] 26 ls st μ := run_blk (by decide +kernel) d ls st μ
theorem bk301_26 (d : Nat) (ls st : List XV) (μ : XM) : run d 301 26 ls st μ = bx d 301 [.iload_n 2, .iconst 2, .irem, .iload_n 1, .iconst 2, .irem, .if_icmp .ne 45, .iload_n 1, .iconst 3, .imul, .iload_n 2, .iconst 2, .idiv, .iadd, .goto 46] 45 ls st μ := run_blk (by decide +kernel) d ls st μ
theorem bk301_45 (d : Nat) (ls st : List XV) (μ : XM) : run d 301 45 ls st μ = bx d 301 [.iconst (-1), .ireturn] 47 ls st μ := run_blk (by decide +kernel) d ls st μ
theorem bk301_46 (d : Nat) (ls st : List XV) (μ : XM) : run d 301 46 ls st μ = bx d 301 [.ireturn] 47 ls st μ := run_blk (by decide +kernel) d ls st μ
theorem bk302_0 (d : Nat) (ls st : List XV) (μ : XM) : run d 302 0 ls st μ = bx d 302 [.aload_n 0, .getfield 304, .iload_n 1, .iaload, .iconst (-1), .if_icmp .eq 14, .iconst 1, .goto 15] 14 ls st μ := run_blk (by decide +kernel) d ls st μ
theorem bk302_14 (d : Nat) (ls st : List XV) (μ : XM) : run d 302 14 ls st μ = bx d 302 [.iconst 0, .freturn] 16 ls st μ := run_blk (by decide +kernel) d ls st μ
theorem bk302_15 (d : Nat) (ls st : List XV) (μ : XM) : run d 302 15 ls st μ = bx d 302 [.freturn] 16 ls st μ := run_blk (by decide +kernel) d ls st μ
theorem bk303_0 (d : Nat) (ls st : List XV) (μ : XM) : run d 303 0 ls st μ = bx d 303 [.aload_n 0, .getfield 304, .iload_n 2, .iaload, .iconst (-1), .if_icmp .eq 19, .aload_n 0, .getfield 304, .iload_n 2, .iaload, .goto 22] 19 ls st μ := run_blk (by decide +kernel) d ls st μ
theorem bk303_19 (d : Nat) (ls st : List XV) (μ : XM) : run d 303 19 ls st μ = bx d 303 [.aload_n 1, .iload_n 2, .iaload, .istore_n 3, .iload_n 3, .bipush 96, .iload_n 3, .isub, .invokestatic 1301, .ireturn] 32 ls st μ := run_blk (by decide +kernel) d ls st μ
theorem bk303_22 (d : Nat) (ls st : List XV) (μ : XM) : run d 303 22 ls st μ = bx d 303 [.istore_n 3, .iload_n 3, .bipush 96, .iload_n 3, .isub, .invokestatic 1301, .ireturn] 32 ls st μ := run_blk (by decide +kernel) d ls st μ
theorem bk304_0 (d : Nat) (ls st : List XV) (μ : XM) : run d 304 0 ls st μ = bx d 304 [.aload_n 0, .iload_n 3, .invokevirtual 302, .ifCond .eq 15, .aload_n 0, .getfield 304, .iload_n 3, .iaload, .ireturn] 15 ls st μ := run_blk (by decide +kernel) d ls st μ
theorem bk304_15 (d : Nat) (ls st : List XV) (μ : XM) : run d 304 15 ls st μ = bx d 304 [.aload_n 1, .iload_n 3, .iaload, .aload_n 0, .aload_n 1, .iload_n 3, .invokevirtual 305, .iadd, .aload_n 2, .iload_n 3, .iaload, .iadd, .bipush 96, .invokestatic 1300, .ireturn] 35 ls st μ := run_blk (by decide +kernel) d ls st μ
theorem bk305_0 (d : Nat) (ls st : List XV) (μ : XM) : run d 305 0 ls st μ = bx d 305 [.iload_n 2, .iconst 3, .irem, .istore_n 3, .iconst 0, .istore 4, .iload_n 3, .ifCond .le 24, .iload 4, .aload_n 0, .aload_n 1, .iload_n 2, .iconst 1, .isub, .invokevirtual 303, .iadd, .istore 4, .iload_n 3, .iconst 2, .if_icmp .ge 42, .iload 4, .aload_n 0, .aload_n 1, .iload_n 2, .iconst 1, .iadd, .invokevirtual 303, .iadd, .istore 4, .iload 4, .aload_n 0, .getfield 306, .idiv, .ireturn] 50 ls st μ := run_blk (by decide +kernel) d ls st μ
theorem bk305_24 (d : Nat) (ls st : List XV) (μ : XM) : run d 305 24 ls st μ = bx d 305 [.iload_n 3, .iconst 2, .if_icmp .ge 42, .iload 4, .aload_n 0, .aload_n 1, .iload_n 2, .iconst 1, .iadd, .invokevirtual 303, .iadd, .istore 4, .iload 4, .aload_n 0, .getfield 306, .idiv, .ireturn] 50 ls st μ := run_blk (by decide +kernel) d ls st μ
theorem bk305_42 (d : Nat) (ls st : List XV) (μ : XM) : run d 305 42 ls st μ = bx d 305 [.iload 4, .aload_n 0, .getfield 306, .idiv, .ireturn] 50 ls st μ := run_blk (by decide +kernel) d ls st μ
theorem bk306_0 (d : Nat) (ls st : List XV) (μ : XM) : run d 306 0 ls st μ = bx d 306 [.iconst 0, .istore_n 2] 2 ls st μ := run_blk (by decide +kernel) d ls st μ
theorem bk306_2 (d : Nat) (ls st : List XV) (μ : XM) : run d 306 2 ls st μ = bx d 306 [.iload_n 2, .bipush 36, .if_icmp .ge 43, .aload_n 0, .getfield 307, .iload_n 2, .aload_n 0, .iload_n 2, .invokevirtual 302, .ifCond .eq 30, .aload_n 0, .getfield 304, .iload_n 2, .iaload, .goto 36] 30 ls st μ := run_blk (by decide +kernel) d ls st μ
theorem bk306_30 (d : Nat) (ls st : List XV) (μ : XM) : run d 306 30 ls st μ = bx d 306 [.aload_n 0, .getfield 303, .iload_n 2, .iaload, .iastore, .iinc 2 1, .goto 2] 43 ls st μ := run_blk (by decide +kernel) d ls st μ
theorem bk306_36 (d : Nat) (ls st : List XV) (μ : XM) : run d 306 36 ls st μ = bx d 306 [.iastore, .iinc 2 1, .goto 2] 43 ls st μ := run_blk (by decide +kernel) d ls st μ
theorem bk306_43 (d : Nat) (ls st : List XV) (μ : XM) : run d 306 43 ls st μ = bx d 306 [.aload_n 0, .getfield 308, .iconst 0, .invokestatic 1400, .aload_n 0, .getfield 308, .iload_n 1, .iconst 1, .iastore, .aload_n 0, .aload_n 0, .getfield 308, .aload_n 0, .getfield 307, .iconst 0, .bipush 12, .invokevirtual 307, .aload_n 0, .getfield 308, .areturn] 78 ls st μ := run_blk (by decide +kernel) d ls st μ
theorem bk307_0 (d : Nat) (ls st : List XV) (μ : XM) : run d 307 0 ls st μ = bx d 307 [.iload_n 3, .iconst 3, .imul, .istore 5] 5 ls st μ := run_blk (by decide +kernel) d ls st μ
theorem bk307_5 (d : Nat) (ls st : List XV) (μ : XM) : run d 307 5 ls st μ = bx d 307 [.iload 5, .iload 4, .iconst 3, .imul, .if_icmp .ge 48, .aload_n 0, .iload 5, .invokevirtual 308, .ifCond .eq 42, .aload_n 0, .getfield 301, .aload_n 1, .aload_n 0, .getfield 302, .iload 5, .iaload, .aload_n 2, .iload 5, .iaload, .invokevirtual 1, .iinc 5 1, .goto 5] 48 ls st μ := run_blk (by decide +kernel) d ls st μ
theorem bk307_42 (d : Nat) (ls st : List XV) (μ : XM) : run d 307 42 ls st μ = bx d 307 [.iinc 5 1, .goto 5] 48 ls st μ := run_blk (by decide +kernel) d ls st μ
theorem bk307_48 (d : Nat) (ls st : List XV) (μ : XM) : run d 307 48 ls st μ = bx d 307 [.return_] 49 ls st μ := run_blk (by decide +kernel) d ls st μ
theorem bk308_0 (d : Nat) (ls st : List XV) (μ : XM) : run d 308 0 ls st μ = bx d 308 [.aload_n 0, .getfield 302, .iload_n 1, .iaload, .iconst (-1), .if_icmp .eq 14, .iconst 1, .goto 15] 14 ls st μ := run_blk (by decide +kernel) d ls st μ
theorem bk308_14 (d : Nat) (ls st : List XV) (μ : XM) : run d 308 14 ls st μ = bx d 308 [.iconst 0, .freturn] 16 ls st μ := run_blk (by decide +kernel) d ls st μ
theorem bk308_15 (d : Nat) (ls st : List XV) (μ : XM) : run d 308 15 ls st μ = bx d 308 [.freturn] 16 ls st μ := run_blk (by decide +kernel) d ls st μ
theorem bk309_0 (d : Nat) (ls st : List XV) (μ : XM) : run d 309 0 ls st μ = bx d 309 [.iconst 0, .istore 4] 3 ls st μ := run_blk (by decide +kernel) d ls st μ
theorem bk309_3 (d : Nat) (ls st : List XV) (μ : XM) : run d 309 3 ls st μ = bx d 309 [.iload 4, .bipush 36, .if_icmp .ge 28, .aload_n 3, .iload 4, .aload_n 0, .aload_n 1, .aload_n 2, .iload 4, .invokevirtual 304, .iastore, .iinc 4 1, .goto 3] 28 ls st μ := run_blk (by decide +kernel) d ls st μ
theorem bk309_28 (d : Nat) (ls st : List XV) (μ : XM) : run d 309 28 ls st μ = bx d 309 [.return_] 29 ls st μ := run_blk (by decide +kernel) d ls st μ
theorem bk310_0 (d : Nat) (ls st : List XV) (μ : XM) : run d 310 0 ls st μ = bx d 310 [.iconst 0, .istore_n 1, .iconst 0, .istore_n 2] 4 ls st μ := run_blk (by decide +kernel) d ls st μ
theorem bk310_4 (d : Nat) (ls st : List XV) (μ : XM) : run d 310 4 ls st μ = bx d 310 [.iload_n 2, .bipush 36, .if_icmp .ge 27, .aload_n 0, .iload_n 2, .invokevirtual 302, .ifCond .eq 21, .iinc 1 1, .iinc 2 1, .goto 4] 27 ls st μ := run_blk (by decide +kernel) d ls st μ
theorem bk310_21 (d : Nat) (ls st : List XV) (μ : XM) : run d 310 21 ls st μ = bx d 310 [.iinc 2 1, .goto 4] 27 ls st μ := run_blk (by decide +kernel) d ls st μ
theorem bk310_27 (d : Nat) (ls st : List XV) (μ : XM) : run d 310 27 ls st μ = bx d 310 [.iload_n 1, .ireturn] 29 ls st μ := run_blk (by decide +kernel) d ls st μ
theorem bk311_0 (d : Nat) (ls st : List XV) (μ : XM) : run d 311 0 ls st μ = bx d 311 [.iconst 0, .istore_n 1, .iconst 0, .istore_n 2] 4 ls st μ := run_blk (by decide +kernel) d ls st μ
theorem bk311_4 (d : Nat) (ls st : List XV) (μ : XM) : run d 311 4 ls st μ = bx d 311 [.iload_n 2, .bipush 12, .if_icmp .ge 27, .aload_n 0, .iload_n 2, .invokevirtual 312, .ifCond .eq 21, .iinc 1 1, .iinc 2 1, .goto 4] 27 ls st μ := run_blk (by decide +kernel) d ls st μ
theorem bk311_21 (d : Nat) (ls st : List XV) (μ : XM) : run d 311 21 ls st μ = bx d 311 [.iinc 2 1, .goto 4] 27 ls st μ := run_blk (by decide +kernel) d ls st μ
theorem bk311_27 (d : Nat) (ls st : List XV) (μ : XM) : run d 311 27 ls st μ = bx d 311 [.iload_n 1, .ireturn] 29 ls st μ := run_blk (by decide +kernel) d ls st μ
theorem bk312_0 (d : Nat) (ls st : List XV) (μ : XM) : run d 312 0 ls st μ = bx d 312 [.iload_n 1, .iconst 3, .imul, .istore_n 2] 4 ls st μ := run_blk (by decide +kernel) d ls st μ
theorem bk312_4 (d : Nat) (ls st : List XV) (μ : XM) : run d 312 4 ls st μ = bx d 312 [.iload_n 2, .iload_n 1, .iconst 1, .iadd, .iconst 3, .imul, .if_icmp .ge 38, .aload_n 0, .iload_n 2, .invokevirtual 302, .ifCond .ne 30, .aload_n 0, .getfield 303, .iload_n 2, .iaload, .ifCond .le 32, .iconst 1, .freturn] 32 ls st μ := run_blk (by decide +kernel) d ls st μ
theorem bk312_30 (d : Nat) (ls st : List XV) (μ : XM) : run d 312 30 ls st μ = bx d 312 [.iconst 1, .freturn] 32 ls st μ := run_blk (by decide +kernel) d ls st μ
theorem bk312_32 (d : Nat) (ls st : List XV) (μ : XM) : run d 312 32 ls st μ = bx d 312 [.iinc 2 1, .goto 4] 38 ls st μ := run_blk (by decide +kernel) d ls st μ
theorem bk312_38 (d : Nat) (ls st : List XV) (μ : XM) : run d 312 38 ls st μ = bx d 312 [.iconst 0, .freturn] 40 ls st μ := run_blk (by decide +kernel) d ls st μ
theorem bk400_0 (d : Nat) (ls st : List XV) (μ : XM) : run d 400 0 ls st μ = bx d 400 [.aload_n 0, .monitorexit, .aload_n 0, .sipush 145, .newarray .int, .putfield 406, .aload_n 0, .sipush 145, .newarray .int, .putfield 407, .aload_n 0, .sipush 145, .newarray .boolean, .putfield 408, .aload_n 0, .bipush 36, .newarray .int, .putfield 409, .aload_n 0, .bipush 36, .newarray .int, .putfield 410, .aload_n 0, .bipush 13, .bipush 6, .multianewarray 0 2, .putfield 411, .aload_n 0, .bipush 6, .newarray .int, .putfield 412, .aload_n 0, .bipush 6, .bipush 97, .multianewarray 0 2, .putfield 413, .aload_n 0, .bipush 6, .newarray .int, .putfield 414, .aload_n 0, .aload_n 1, .putfield 400, .aload_n 0, .aload_n 2, .putfield 401, .return_] 98 ls st μ := run_blk (by decide +kernel) d ls st μ
theorem bk401_0 (d : Nat) (ls st : List XV) (μ : XM) : run d 401 0 ls st μ = bx d 401 [.aload_n 0, .iconst 1, .putfield 402, .aload_n 0, .iconst 0, .putfield 404, .aload_n 0, .getfield 406, .iconst 0, .iconst (-1), .iastore, .aload_n 0, .iconst 1, .putfield 403, .iconst 0, .istore_n 1] 24 ls st μ := run_blk (by decide +kernel) d ls st μ
theorem bk401_24 (d : Nat) (ls st : List XV) (μ : XM) : run d 401 24 ls st μ = bx d 401 [.iload_n 1, .bipush 36, .if_icmp .ge 63, .aload_n 0, .getfield 400, .iload_n 1, .invokevirtual 308, .ifCond .eq 57, .aload_n 0, .getfield 400, .iload_n 1, .invokevirtual 302, .ifCond .ne 57, .aload_n 0, .iload_n 1, .invokevirtual 402, .iinc 1 1, .goto 24] 63 ls st μ := run_blk (by decide +kernel) d ls st μ
theorem bk401_57 (d : Nat) (ls st : List XV) (μ : XM) : run d 401 57 ls st μ = bx d 401 [.iinc 1 1, .goto 24] 63 ls st μ := run_blk (by decide +kernel) d ls st μ
theorem bk401_63 (d : Nat) (ls st : List XV) (μ : XM) : run d 401 63 ls st μ = bx d 401 [.iconst 0, .istore_n 1] 65 ls st μ := run_blk (by decide +kernel) d ls st μ
theorem bk401_65 (d : Nat) (ls st : List XV) (μ : XM) : run d 401 65 ls st μ = bx d 401 [.iload_n 1, .aload_n 0, .getfield 403, .if_icmp .ge 86, .aload_n 0, .getfield 408, .iload_n 1, .iconst 1, .bastore, .iinc 1 1, .goto 65] 86 ls st μ := run_blk (by decide +kernel) d ls st μ
theorem bk401_86 (d : Nat) (ls st : List XV) (μ : XM) : run d 401 86 ls st μ = bx d 401 [.aload_n 0, .aload_n 0, .getfield 403, .putfield 405, .return_] 95 ls st μ := run_blk (by decide +kernel) d ls st μ
theorem bk402_0 (d : Nat) (ls st : List XV) (μ : XM) : run d 402 0 ls st μ = bx d 402 [.bipush (-2), .istore_n 2] 3 ls st μ := run_blk (by decide +kernel) d ls st μ
theorem bk402_3 (d : Nat) (ls st : List XV) (μ : XM) : run d 402 3 ls st μ = bx d 402 [.iload_n 2, .iconst 2, .if_icmp .gt 51, .iload_n 2, .ifCond .ne 15, .goto 45] 15 ls st μ := run_blk (by decide +kernel) d ls st μ
theorem bk402_15 (d : Nat) (ls st : List XV) (μ : XM) : run d 402 15 ls st μ = bx d 402 [.aload_n 0, .getfield 406, .aload_n 0, .getfield 403, .iload_n 1, .iastore, .aload_n 0, .getfield 407, .aload_n 0, .getfield 403, .iload_n 2, .iastore, .aload_n 0, .dup, .getfield 403, .iconst 1, .iadd, .putfield 403, .iinc 2 1, .goto 3] 51 ls st μ := run_blk (by decide +kernel) d ls st μ
theorem bk402_45 (d : Nat) (ls st : List XV) (μ : XM) : run d 402 45 ls st μ = bx d 402 [.iinc 2 1, .goto 3] 51 ls st μ := run_blk (by decide +kernel) d ls st μ
theorem bk402_51 (d : Nat) (ls st : List XV) (μ : XM) : run d 402 51 ls st μ = bx d 402 [.return_] 52 ls st μ := run_blk (by decide +kernel) d ls st μ
theorem bk403_0 (d : Nat) (ls st : List XV) (μ : XM) : run d 403 0 ls st μ = bx d 403 [.aload_n 0, .dup, .getfield 404, .iconst 1, .iadd, .putfield 404, .aload_n 0, .getfield 400, .aload_n 0, .getfield 400, .getfield 303, .aload_n 0, .getfield 400, .getfield 305, .aload_n 0, .getfield 410, .invokevirtual 309, .aload_n 0, .iload_n 1, .invokevirtual 404, .aload_n 0, .getfield 411, .bipush 12, .aaload, .iload_n 2, .iaload, .istore 4, .aload_n 0, .iload_n 3, .invokevirtual 405, .aload_n 0, .iload_n 1, .invokevirtual 404, .iconst 0, .istore 5] 64 ls st μ := run_blk (by decide +kernel) d ls st μ
theorem bk403_64 (d : Nat) (ls st : List XV) (μ : XM) : run d 403 64 ls st μ = bx d 403 [.iload 5, .aload_n 0, .getfield 403, .if_icmp .ge 120, .aload_n 0, .getfield 408, .iload 5, .baload, .ifCond .eq 114, .aload_n 0, .iload 5, .invokevirtual 406, .iload_n 2, .iaload, .iload 4, .if_icmp .eq 114, .aload_n 0, .getfield 408, .iload 5, .iconst 0, .bastore, .aload_n 0, .dup, .getfield 405, .iconst 1, .isub, .putfield 405, .iinc 5 1, .goto 64] 120 ls st μ := run_blk (by decide +kernel) d ls st μ
theorem bk403_114 (d : Nat) (ls st : List XV) (μ : XM) : run d 403 114 ls st μ = bx d 403 [.iinc 5 1, .goto 64] 120 ls st μ := run_blk (by decide +kernel) d ls st μ
theorem bk403_120 (d : Nat) (ls st : List XV) (μ : XM) : run d 403 120 ls st μ = bx d 403 [.iload 4, .ireturn] 123 ls st μ := run_blk (by decide +kernel) d ls st μ
theorem bk404_0 (d : Nat) (ls st : List XV) (μ : XM) : run d 404 0 ls st μ = bx d 404 [.aload_n 0, .getfield 411, .iconst 0, .aaload, .iconst 0, .invokestatic 1400, .aload_n 0, .getfield 411, .iconst 0, .aaload, .iload_n 1, .iconst 1, .iastore, .iconst 0, .istore_n 2] 21 ls st μ := run_blk (by decide +kernel) d ls st μ
theorem bk404_21 (d : Nat) (ls st : List XV) (μ : XM) : run d 404 21 ls st μ = bx d 404 [.iload_n 2, .bipush 12, .if_icmp .ge 77, .aload_n 0, .getfield 411, .iload_n 2, .aaload, .iconst 0, .aload_n 0, .getfield 411, .iload_n 2, .iconst 1, .iadd, .aaload, .iconst 0, .bipush 6, .monitorenter, .aload_n 0, .getfield 400, .aload_n 0, .getfield 411, .iload_n 2, .iconst 1, .iadd, .aaload, .aload_n 0, .getfield 410, .iload_n 2, .iload_n 2, .iconst 1, .iadd, .invokevirtual 307, .iinc 2 1, .goto 21] 77 ls st μ := run_blk (by decide +kernel) d ls st μ
theorem bk404_77 (d : Nat) (ls st : List XV) (μ : XM) : run d 404 77 ls st μ = bx d 404 [.return_] 78 ls st μ := run_blk (by decide +kernel) d ls st μ
theorem bk405_0 (d : Nat) (ls st : List XV) (μ : XM) : run d 405 0 ls st μ = bx d 405 [.aload_n 0, .getfield 401, .iload_n 1, .aload_n 0, .getfield 409, .invokevirtual 203, .aload_n 0, .getfield 400, .aload_n 0, .getfield 400, .getfield 303, .aload_n 0, .getfield 409, .aload_n 0, .getfield 410, .invokevirtual 309, .return_] 35 ls st μ := run_blk (by decide +kernel) d ls st μ
theorem bk406_0 (d : Nat) (ls st : List XV) (μ : XM) : run d 406 0 ls st μ = bx d 406 [.aload_n 0, .getfield 406, .iload_n 1, .iaload, .istore_n 2, .iload_n 2, .iconst (-1), .if_icmp .eq 23, .aload_n 0, .getfield 400, .iload_n 2, .invokevirtual 302, .ifCond .eq 31, .aload_n 0, .getfield 411, .bipush 12, .aaload, .areturn] 31 ls st μ := run_blk (by decide +kernel) d ls st μ
theorem bk406_23 (d : Nat) (ls st : List XV) (μ : XM) : run d 406 23 ls st μ = bx d 406 [.aload_n 0, .getfield 411, .bipush 12, .aaload, .areturn] 31 ls st μ := run_blk (by decide +kernel) d ls st μ
theorem bk406_31 (d : Nat) (ls st : List XV) (μ : XM) : run d 406 31 ls st μ = bx d 406 [.iload_n 2, .iconst 3, .idiv, .istore_n 3, .aload_n 0, .getfield 410, .iload_n 2, .iaload, .istore 4, .aload_n 0, .getfield 410, .iload_n 2, .iload 4, .aload_n 0, .getfield 407, .iload_n 1, .iaload, .iadd, .bipush 96, .invokestatic 1300, .iastore, .aload_n 0, .getfield 411, .iload_n 3, .aaload, .iconst 0, .aload_n 0, .getfield 412, .iconst 0, .bipush 6, .monitorenter, .aload_n 0, .getfield 400, .aload_n 0, .getfield 412, .aload_n 0, .getfield 410, .iload_n 3, .bipush 12, .invokevirtual 307, .aload_n 0, .getfield 410, .iload_n 2, .iload 4, .iastore, .aload_n 0, .getfield 412, .areturn] 111 ls st μ := run_blk (by decide +kernel) d ls st μ
theorem bk407_0 (d : Nat) (ls st : List XV) (μ : XM) : run d 407 0 ls st μ = bx d 407 [.iconst 0, .istore_n 2, .iconst 0, .istore_n 3] 4 ls st μ := run_blk (by decide +kernel) d ls st μ
theorem bk407_4 (d : Nat) (ls st : List XV) (μ : XM) : run d 407 4 ls st μ = bx d 407 [.iload_n 3, .aload_n 0, .getfield 403, .if_icmp .ge 40, .aload_n 0, .getfield 408, .iload_n 3, .baload, .ifCond .ne 24, .goto 34] 24 ls st μ := run_blk (by decide +kernel) d ls st μ
theorem bk407_24 (d : Nat) (ls st : List XV) (μ : XM) : run d 407 24 ls st μ = bx d 407 [.iload_n 2, .iload_n 1, .if_icmp .ne 31, .iload_n 3, .ireturn] 31 ls st μ := run_blk (by decide +kernel) d ls st μ
theorem bk407_31 (d : Nat) (ls st : List XV) (μ : XM) : run d 407 31 ls st μ = bx d 407 [.iinc 2 1, .iinc 3 1, .goto 4] 40 ls st μ := run_blk (by decide +kernel) d ls st μ
theorem bk407_34 (d : Nat) (ls st : List XV) (μ : XM) : run d 407 34 ls st μ = bx d 407 [.iinc 3 1, .goto 4] 40 ls st μ := run_blk (by decide +kernel) d ls st μ
theorem bk407_40 (d : Nat) (ls st : List XV) (μ : XM) : run d 407 40 ls st μ = bx d 407 [.iconst (-1), .ireturn] 42 ls st μ := run_blk (by decide +kernel) d ls st μ
theorem bk408_0 (d : Nat) (ls st : List XV) (μ : XM) : run d 408 0 ls st μ = bx d 408 [.aload_n 0, .iload_n 1, .invokevirtual 405, .aload_n 0, .getfield 403, .iconst 1, .iadd, .istore_n 2, .iconst (-1), .istore_n 3, .iconst 0, .istore 4] 17 ls st μ := run_blk (by decide +kernel) d ls st μ
theorem bk408_17 (d : Nat) (ls st : List XV) (μ : XM) : run d 408 17 ls st μ = bx d 408 [.iload 4, .aload_n 0, .getfield 400, .getfield 300, .if_icmp .ge 94, .aload_n 0, .iload 4, .invokevirtual 404, .aload_n 0, .invokevirtual 409, .iconst 0, .istore 5] 42 ls st μ := run_blk (by decide +kernel) d ls st μ
theorem bk408_42 (d : Nat) (ls st : List XV) (μ : XM) : run d 408 42 ls st μ = bx d 408 [.iload 5, .aload_n 0, .getfield 400, .getfield 300, .if_icmp .ge 88, .aload_n 0, .getfield 414, .iload 5, .iaload, .iload_n 2, .if_icmp .ge 82, .aload_n 0, .getfield 414, .iload 5, .iaload, .istore_n 2, .bipush 10, .iload 4, .imul, .iload 5, .iadd, .istore_n 3, .iinc 5 1, .goto 42] 88 ls st μ := run_blk (by decide +kernel) d ls st μ
theorem bk408_82 (d : Nat) (ls st : List XV) (μ : XM) : run d 408 82 ls st μ = bx d 408 [.iinc 5 1, .goto 42] 88 ls st μ := run_blk (by decide +kernel) d ls st μ
theorem bk408_88 (d : Nat) (ls st : List XV) (μ : XM) : run d 408 88 ls st μ = bx d 408 [.iinc 4 1, .goto 17] 94 ls st μ := run_blk (by decide +kernel) d ls st μ
theorem bk408_94 (d : Nat) (ls st : List XV) (μ : XM) : run d 408 94 ls st μ = bx d 408 [.iload_n 3, .ireturn] 96 ls st μ := run_blk (by decide +kernel) d ls st μ
theorem bk409_0 (d : Nat) (ls st : List XV) (μ : XM) : run d 409 0 ls st μ = bx d 409 [.aload_n 0, .getfield 414, .iconst 0, .invokestatic 1400, .iconst 0, .istore_n 1] 10 ls st μ := run_blk (by decide +kernel) d ls st μ
theorem bk409_10 (d : Nat) (ls st : List XV) (μ : XM) : run d 409 10 ls st μ = bx d 409 [.iload_n 1, .aload_n 0, .getfield 400, .getfield 300, .if_icmp .ge 37, .aload_n 0, .getfield 413, .iload_n 1, .aaload, .iconst 0, .invokestatic 1400, .iinc 1 1, .goto 10] 37 ls st μ := run_blk (by decide +kernel) d ls st μ
theorem bk409_37 (d : Nat) (ls st : List XV) (μ : XM) : run d 409 37 ls st μ = bx d 409 [.iconst 0, .istore_n 1] 39 ls st μ := run_blk (by decide +kernel) d ls st μ
theorem bk409_39 (d : Nat) (ls st : List XV) (μ : XM) : run d 409 39 ls st μ = bx d 409 [.iload_n 1, .aload_n 0, .getfield 403, .if_icmp .ge 129, .aload_n 0, .getfield 408, .iload_n 1, .baload, .ifCond .ne 59, .goto 123] 59 ls st μ := run_blk (by decide +kernel) d ls st μ
theorem bk409_59 (d : Nat) (ls st : List XV) (μ : XM) : run d 409 59 ls st μ = bx d 409 [.aload_n 0, .iload_n 1, .invokevirtual 406, .astore_n 2, .iconst 0, .istore_n 3] 67 ls st μ := run_blk (by decide +kernel) d ls st μ
theorem bk409_67 (d : Nat) (ls st : List XV) (μ : XM) : run d 409 67 ls st μ = bx d 409 [.iload_n 3, .aload_n 0, .getfield 400, .getfield 300, .if_icmp .ge 123, .aload_n 0, .getfield 413, .iload_n 3, .aaload, .aload_n 2, .iload_n 3, .iaload, .dup2, .iaload, .iconst 1, .iadd, .iastore, .aload_n 0, .getfield 414, .iload_n 3, .aload_n 0, .getfield 414, .iload_n 3, .iaload, .aload_n 0, .getfield 413, .iload_n 3, .aaload, .aload_n 2, .iload_n 3, .iaload, .iaload, .invokestatic 1303, .iastore, .iinc 3 1, .goto 67] 123 ls st μ := run_blk (by decide +kernel) d ls st μ
theorem bk409_123 (d : Nat) (ls st : List XV) (μ : XM) : run d 409 123 ls st μ = bx d 409 [.iinc 1 1, .goto 39] 129 ls st μ := run_blk (by decide +kernel) d ls st μ
theorem bk409_129 (d : Nat) (ls st : List XV) (μ : XM) : run d 409 129 ls st μ = bx d 409 [.return_] 130 ls st μ := run_blk (by decide +kernel) d ls st μ
theorem bk500_0 (d : Nat) (ls st : List XV) (μ : XM) : run d 500 0 ls st μ = bx d 500 [.aload_n 0, .monitorexit, .aload_n 0, .bipush 100, .newarray .int, .putfield 502, .aload_n 0, .bipush 51, .anewarray 0, .putfield 503, .aload_n 0, .bipush 51, .newarray .int, .putfield 504, .aload_n 0, .bipush 6, .anewarray 0, .putfield 505, .aload_n 0, .bipush 6, .newarray .boolean, .putfield 506, .aload_n 0, .iload_n 1, .putfield 500, .iconst 0, .istore_n 2] 53 ls st μ := run_blk (by decide +kernel) d ls st μ
theorem bk500_53 (d : Nat) (ls st : List XV) (μ : XM) : run d 500 53 ls st μ = bx d 500 [.iload_n 2, .bipush 50, .if_icmp .gt 78, .aload_n 0, .getfield 503, .iload_n 2, .new 6, .dup, .invokespecial 600, .aastore, .iinc 2 1, .goto 53] 78 ls st μ := run_blk (by decide +kernel) d ls st μ
theorem bk500_78 (d : Nat) (ls st : List XV) (μ : XM) : run d 500 78 ls st μ = bx d 500 [.iconst 0, .istore_n 2] 80 ls st μ := run_blk (by decide +kernel) d ls st μ
theorem bk500_80 (d : Nat) (ls st : List XV) (μ : XM) : run d 500 80 ls st μ = bx d 500 [.iload_n 2, .bipush 6, .if_icmp .ge 105, .aload_n 0, .getfield 505, .iload_n 2, .new 6, .dup, .invokespecial 600, .aastore, .iinc 2 1, .goto 80] 105 ls st μ := run_blk (by decide +kernel) d ls st μ
theorem bk500_105 (d : Nat) (ls st : List XV) (μ : XM) : run d 500 105 ls st μ = bx d 500 [.return_] 106 ls st μ := run_blk (by decide +kernel) d ls st μ
theorem bk501_0 (d : Nat) (ls st : List XV) (μ : XM) : run d 501 0 ls st μ = bx d 501 [.aload_n 0, .getfield 501, .bipush 100, .if_icmp .ge 26, .aload_n 0, .getfield 502, .aload_n 0, .dup, .getfield 501, .dup_x1, .iconst 1, .iadd, .putfield 501, .iload_n 1, .iastore, .return_] 27 ls st μ := run_blk (by decide +kernel) d ls st μ
theorem bk501_26 (d : Nat) (ls st : List XV) (μ : XM) : run d 501 26 ls st μ = bx d 501 [.return_] 27 ls st μ := run_blk (by decide +kernel) d ls st μ
theorem bk502_0 (d : Nat) (ls st : List XV) (μ : XM) : run d 502 0 ls st μ = bx d 502 [.aload_n 0, .iconst 0, .putfield 507, .aload_n 0, .iconst 0, .putfield 508, .aload_n 0, .iconst (-1), .putfield 509, .aload_n 0, .getfield 503, .iconst 0, .aaload, .invokevirtual 601, .iconst 0, .istore_n 1] 26 ls st μ := run_blk (by decide +kernel) d ls st μ
theorem bk502_26 (d : Nat) (ls st : List XV) (μ : XM) : run d 502 26 ls st μ = bx d 502 [.iload_n 1, .bipush 6, .if_icmp .ge 45, .aload_n 0, .getfield 506, .iload_n 1, .iconst 0, .bastore, .iinc 1 1, .goto 26] 45 ls st μ := run_blk (by decide +kernel) d ls st μ
theorem bk502_45 (d : Nat) (ls st : List XV) (μ : XM) : run d 502 45 ls st μ = bx d 502 [.aload_n 0, .invokevirtual 503, .istore_n 1, .aload_n 0, .iconst 0, .putfield 501, .iload_n 1, .ifCond .ne 68, .sipush (-1000), .aload_n 0, .getfield 507, .isub, .ireturn] 68 ls st μ := run_blk (by decide +kernel) d ls st μ
theorem bk502_68 (d : Nat) (ls st : List XV) (μ : XM) : run d 502 68 ls st μ = bx d 502 [.aload_n 0, .getfield 509, .iconst (-1), .if_icmp .eq 85, .sipush (-2000), .aload_n 0, .getfield 509, .isub, .ireturn] 85 ls st μ := run_blk (by decide +kernel) d ls st μ
theorem bk502_85 (d : Nat) (ls st : List XV) (μ : XM) : run d 502 85 ls st μ = bx d 502 [.aload_n 0, .getfield 503, .iconst 0, .aaload, .invokevirtual 604, .ifCond .eq 103, .sipush (-3000), .goto 104] 103 ls st μ := run_blk (by decide +kernel) d ls st μ
theorem bk502_103 (d : Nat) (ls st : List XV) (μ : XM) : run d 502 103 ls st μ = bx d 502 [.iconst 0, .ireturn] 105 ls st μ := run_blk (by decide +kernel) d ls st μ
theorem bk502_104 (d : Nat) (ls st : List XV) (μ : XM) : run d 502 104 ls st μ = bx d 502 [.ireturn] 105 ls st μ := run_blk (by decide +kernel) d ls st μ
theorem bk503_0 (d : Nat) (ls st : List XV) (μ : XM) : run d 503 0 ls st μ = bx d 503 [.iconst 0, .istore_n 1] 2 ls st μ := run_blk (by decide +kernel) d ls st μ
theorem bk503_2 (d : Nat) (ls st : List XV) (μ : XM) : run d 503 2 ls st μ = bx d 503 [.iload_n 1, .bipush 100, .if_icmp .gt 96, .aload_n 0, .invokevirtual 504, .ifCond .ne 17, .iconst 0, .freturn] 17 ls st μ := run_blk (by decide +kernel) d ls st μ
theorem bk503_17 (d : Nat) (ls st : List XV) (μ : XM) : run d 503 17 ls st μ = bx d 503 [.aload_n 0, .getfield 510, .ifCond .eq 27, .goto 90] 27 ls st μ := run_blk (by decide +kernel) d ls st μ
theorem bk503_27 (d : Nat) (ls st : List XV) (μ : XM) : run d 503 27 ls st μ = bx d 503 [.aload_n 0, .getfield 508, .istore_n 2] 32 ls st μ := run_blk (by decide +kernel) d ls st μ
theorem bk503_32 (d : Nat) (ls st : List XV) (μ : XM) : run d 503 32 ls st μ = bx d 503 [.iload_n 2, .ifCond .le 55, .aload_n 0, .bipush 41, .invokevirtual 508, .ifCond .eq 55, .aload_n 0, .invokevirtual 513, .iinc 2 (-1), .goto 32] 55 ls st μ := run_blk (by decide +kernel) d ls st μ
theorem bk503_55 (d : Nat) (ls st : List XV) (μ : XM) : run d 503 55 ls st μ = bx d 503 [.aload_n 0, .getfield 507, .aload_n 0, .getfield 501, .if_icmp .lt 79, .aload_n 0, .getfield 508, .ifCond .ne 77, .iconst 1, .goto 78] 77 ls st μ := run_blk (by decide +kernel) d ls st μ
theorem bk503_77 (d : Nat) (ls st : List XV) (μ : XM) : run d 503 77 ls st μ = bx d 503 [.iconst 0, .freturn] 79 ls st μ := run_blk (by decide +kernel) d ls st μ
theorem bk503_78 (d : Nat) (ls st : List XV) (μ : XM) : run d 503 78 ls st μ = bx d 503 [.freturn] 79 ls st μ := run_blk (by decide +kernel) d ls st μ
theorem bk503_79 (d : Nat) (ls st : List XV) (μ : XM) : run d 503 79 ls st μ = bx d 503 [.aload_n 0, .bipush 59, .invokevirtual 508, .ifCond .ne 90, .iconst 0, .freturn] 90 ls st μ := run_blk (by decide +kernel) d ls st μ
theorem bk503_90 (d : Nat) (ls st : List XV) (μ : XM) : run d 503 90 ls st μ = bx d 503 [.iinc 1 1, .goto 2] 96 ls st μ := run_blk (by decide +kernel) d ls st μ
theorem bk503_96 (d : Nat) (ls st : List XV) (μ : XM) : run d 503 96 ls st μ = bx d 503 [.iconst 0, .freturn] 98 ls st μ := run_blk (by decide +kernel) d ls st μ
theorem bk504_0 (d : Nat) (ls st : List XV) (μ : XM) : run d 504 0 ls st μ = bx d 504 [.aload_n 0, .iconst 0, .putfield 510, .aload_n 0, .invokevirtual 505, .istore_n 1, .iload_n 1, .bipush 116, .if_icmp .eq 28, .iload_n 1, .bipush 115, .if_icmp .eq 28, .iload_n 1, .bipush 117, .if_icmp .ne 34, .aload_n 0, .iload_n 1, .invokevirtual 506, .freturn] 34 ls st μ := run_blk (by decide +kernel) d ls st μ
theorem bk504_28 (d : Nat) (ls st : List XV) (μ : XM) : run d 504 28 ls st μ = bx d 504 [.aload_n 0, .iload_n 1, .invokevirtual 506, .freturn] 34 ls st μ := run_blk (by decide +kernel) d ls st μ
theorem bk504_34 (d : Nat) (ls st : List XV) (μ : XM) : run d 504 34 ls st μ = bx d 504 [.iload_n 1, .invokestatic 510, .ifCond .eq 60, .aload_n 0, .dup, .getfield 507, .iconst 1, .iadd, .putfield 507, .aload_n 0, .iload_n 1, .bipush 48, .isub, .invokevirtual 511, .freturn] 60 ls st μ := run_blk (by decide +kernel) d ls st μ
theorem bk504_60 (d : Nat) (ls st : List XV) (μ : XM) : run d 504 60 ls st μ = bx d 504 [.iload_n 1, .bipush 97, .if_icmp .lt 87, .iload_n 1, .bipush 103, .if_icmp .ge 87, .aload_n 0, .iload_n 1, .bipush 97, .isub, .invokevirtual 512, .ifCond .eq 87, .iconst 1, .goto 88] 87 ls st μ := run_blk (by decide +kernel) d ls st μ
theorem bk504_87 (d : Nat) (ls st : List XV) (μ : XM) : run d 504 87 ls st μ = bx d 504 [.iconst 0, .freturn] 89 ls st μ := run_blk (by decide +kernel) d ls st μ
theorem bk504_88 (d : Nat) (ls st : List XV) (μ : XM) : run d 504 88 ls st μ = bx d 504 [.freturn] 89 ls st μ := run_blk (by decide +kernel) d ls st μ
theorem bk505_0 (d : Nat) (ls st : List XV) (μ : XM) : run d 505 0 ls st μ = bx d 505 [.aload_n 0, .getfield 507, .aload_n 0, .getfield 501, .if_icmp .ge 23, .aload_n 0, .getfield 502, .aload_n 0, .getfield 507, .iaload, .goto 24] 23 ls st μ := run_blk (by decide +kernel) d ls st μ
theorem bk505_23 (d : Nat) (ls st : List XV) (μ : XM) : run d 505 23 ls st μ = bx d 505 [.iconst (-1), .ireturn] 25 ls st μ := run_blk (by decide +kernel) d ls st μ
theorem bk505_24 (d : Nat) (ls st : List XV) (μ : XM) : run d 505 24 ls st μ = bx d 505 [.ireturn] 25 ls st μ := run_blk (by decide +kernel) d ls st μ
theorem bk506_0 (d : Nat) (ls st : List XV) (μ : XM) : run d 506 0 ls st μ = bx d 506 [.aload_n 0, .dup, .getfield 507, .iconst 1, .iadd, .putfield 507, .aload_n 0, .aload_n 0, .getfield 500, .iconst 2, .isub, .invokevirtual 507, .istore_n 2, .iload_n 2, .iconst (-1), .if_icmp .ne 28, .iconst 0, .freturn] 28 ls st μ := run_blk (by decide +kernel) d ls st μ
theorem bk506_28 (d : Nat) (ls st : List XV) (μ : XM) : run d 506 28 ls st μ = bx d 506 [.iload_n 1, .bipush 115, .if_icmp .ne 39, .bipush 24, .goto 45] 39 ls st μ := run_blk (by decide +kernel) d ls st μ
theorem bk506_39 (d : Nat) (ls st : List XV) (μ : XM) : run d 506 39 ls st μ = bx d 506 [.aload_n 0, .bipush 95, .invokevirtual 507, .istore_n 3, .iload_n 3, .iconst (-1), .if_icmp .ne 53, .iconst 0, .freturn] 53 ls st μ := run_blk (by decide +kernel) d ls st μ
theorem bk506_45 (d : Nat) (ls st : List XV) (μ : XM) : run d 506 45 ls st μ = bx d 506 [.istore_n 3, .iload_n 3, .iconst (-1), .if_icmp .ne 53, .iconst 0, .freturn] 53 ls st μ := run_blk (by decide +kernel) d ls st μ
theorem bk506_53 (d : Nat) (ls st : List XV) (μ : XM) : run d 506 53 ls st μ = bx d 506 [.aload_n 0, .getfield 503, .aload_n 0, .getfield 508, .aaload, .iload_n 2, .iload_n 1, .bipush 117, .if_icmp .ne 79, .bipush 96, .iload_n 3, .isub, .bipush 96, .irem, .goto 80] 79 ls st μ := run_blk (by decide +kernel) d ls st μ
theorem bk506_79 (d : Nat) (ls st : List XV) (μ : XM) : run d 506 79 ls st μ = bx d 506 [.iload_n 3, .invokevirtual 602, .iconst 1, .freturn] 85 ls st μ := run_blk (by decide +kernel) d ls st μ
theorem bk506_80 (d : Nat) (ls st : List XV) (μ : XM) : run d 506 80 ls st μ = bx d 506 [.invokevirtual 602, .iconst 1, .freturn] 85 ls st μ := run_blk (by decide +kernel) d ls st μ
theorem bk507_0 (d : Nat) (ls st : List XV) (μ : XM) : run d 507 0 ls st μ = bx d 507 [.aload_n 0, .bipush 32, .invokevirtual 508, .ifCond .ne 11, .iconst (-1), .ireturn] 11 ls st μ := run_blk (by decide +kernel) d ls st μ
theorem bk507_11 (d : Nat) (ls st : List XV) (μ : XM) : run d 507 11 ls st μ = bx d 507 [.aload_n 0, .iload_n 1, .invokevirtual 509, .istore_n 2, .iload_n 2, .ifCond .le 31, .aload_n 0, .invokevirtual 505, .invokestatic 510, .ifCond .ne 33, .iload_n 2, .ireturn] 33 ls st μ := run_blk (by decide +kernel) d ls st μ
theorem bk507_31 (d : Nat) (ls st : List XV) (μ : XM) : run d 507 31 ls st μ = bx d 507 [.iload_n 2, .ireturn] 33 ls st μ := run_blk (by decide +kernel) d ls st μ
theorem bk507_33 (d : Nat) (ls st : List XV) (μ : XM) : run d 507 33 ls st μ = bx d 507 [.aload_n 0, .iload_n 1, .bipush 10, .iload_n 2, .imul, .isub, .invokevirtual 509, .istore_n 3, .iload_n 3, .iconst (-1), .if_icmp .ne 53, .iconst (-1), .goto 59] 53 ls st μ := run_blk (by decide +kernel) d ls st μ
theorem bk507_53 (d : Nat) (ls st : List XV) (μ : XM) : run d 507 53 ls st μ = bx d 507 [.bipush 10, .iload_n 2, .imul, .iload_n 3, .iadd, .ireturn] 60 ls st μ := run_blk (by decide +kernel) d ls st μ
theorem bk507_59 (d : Nat) (ls st : List XV) (μ : XM) : run d 507 59 ls st μ = bx d 507 [.ireturn] 60 ls st μ := run_blk (by decide +kernel) d ls st μ
theorem bk508_0 (d : Nat) (ls st : List XV) (μ : XM) : run d 508 0 ls st μ = bx d 508 [.aload_n 0, .invokevirtual 505, .iload_n 1, .if_icmp .eq 10, .iconst 0, .freturn] 10 ls st μ := run_blk (by decide +kernel) d ls st μ
theorem bk508_10 (d : Nat) (ls st : List XV) (μ : XM) : run d 508 10 ls st μ = bx d 508 [.aload_n 0, .dup, .getfield 507, .iconst 1, .iadd, .putfield 507, .iconst 1, .freturn] 22 ls st μ := run_blk (by decide +kernel) d ls st μ
theorem bk509_0 (d : Nat) (ls st : List XV) (μ : XM) : run d 509 0 ls st μ = bx d 509 [.aload_n 0, .invokevirtual 505, .istore_n 2, .iload_n 2, .invokestatic 510, .ifCond .eq 20, .iload_n 2, .bipush 48, .isub, .iload_n 1, .if_icmp .le 22, .iconst (-1), .ireturn] 22 ls st μ := run_blk (by decide +kernel) d ls st μ
theorem bk509_20 (d : Nat) (ls st : List XV) (μ : XM) : run d 509 20 ls st μ = bx d 509 [.iconst (-1), .ireturn] 22 ls st μ := run_blk (by decide +kernel) d ls st μ
theorem bk509_22 (d : Nat) (ls st : List XV) (μ : XM) : run d 509 22 ls st μ = bx d 509 [.aload_n 0, .dup, .getfield 507, .iconst 1, .iadd, .putfield 507, .iload_n 2, .bipush 48, .isub, .ireturn] 37 ls st μ := run_blk (by decide +kernel) d ls st μ
theorem bk510_0 (d : Nat) (ls st : List XV) (μ : XM) : run d 510 0 ls st μ = bx d 510 [.iload_n 0, .bipush 48, .if_icmp .lt 16, .iload_n 0, .bipush 57, .if_icmp .gt 16, .iconst 1, .goto 17] 16 ls st μ := run_blk (by decide +kernel) d ls st μ
theorem bk510_16 (d : Nat) (ls st : List XV) (μ : XM) : run d 510 16 ls st μ = bx d 510 [.iconst 0, .freturn] 18 ls st μ := run_blk (by decide +kernel) d ls st μ
theorem bk510_17 (d : Nat) (ls st : List XV) (μ : XM) : run d 510 17 ls st μ = bx d 510 [.freturn] 18 ls st μ := run_blk (by decide +kernel) d ls st μ
theorem bk511_0 (d : Nat) (ls st : List XV) (μ : XM) : run d 511 0 ls st μ = bx d 511 [.aload_n 0, .getfield 508, .bipush 50, .if_icmp .ge 18, .aload_n 0, .bipush 40, .invokevirtual 508, .ifCond .ne 20, .iconst 0, .freturn] 20 ls st μ := run_blk (by decide +kernel) d ls st μ
theorem bk511_18 (d : Nat) (ls st : List XV) (μ : XM) : run d 511 18 ls st μ = bx d 511 [.iconst 0, .freturn] 20 ls st μ := run_blk (by decide +kernel) d ls st μ
theorem bk511_20 (d : Nat) (ls st : List XV) (μ : XM) : run d 511 20 ls st μ = bx d 511 [.aload_n 0, .dup, .getfield 508, .iconst 1, .iadd, .putfield 508, .aload_n 0, .getfield 503, .aload_n 0, .getfield 508, .aaload, .invokevirtual 601, .aload_n 0, .getfield 504, .aload_n 0, .getfield 508, .iload_n 1, .iastore, .aload_n 0, .iconst 1, .putfield 510, .iconst 1, .freturn] 59 ls st μ := run_blk (by decide +kernel) d ls st μ
theorem bk512_0 (d : Nat) (ls st : List XV) (μ : XM) : run d 512 0 ls st μ = bx d 512 [.aload_n 0, .getfield 507, .istore_n 2, .aload_n 0, .dup, .getfield 507, .iconst 1, .iadd, .putfield 507, .aload_n 0, .bipush 61, .invokevirtual 508, .ifCond .eq 33, .aload_n 0, .bipush 10, .iload_n 1, .iadd, .invokevirtual 511, .freturn] 33 ls st μ := run_blk (by decide +kernel) d ls st μ
theorem bk512_33 (d : Nat) (ls st : List XV) (μ : XM) : run d 512 33 ls st μ = bx d 512 [.aload_n 0, .getfield 506, .iload_n 1, .baload, .ifCond .eq 63, .aload_n 0, .getfield 503, .aload_n 0, .getfield 508, .aaload, .aload_n 0, .getfield 505, .iload_n 1, .aaload, .invokevirtual 603, .goto 76] 63 ls st μ := run_blk (by decide +kernel) d ls st μ
theorem bk512_63 (d : Nat) (ls st : List XV) (μ : XM) : run d 512 63 ls st μ = bx d 512 [.aload_n 0, .getfield 509, .iconst (-1), .if_icmp .ne 76, .aload_n 0, .iload_n 2, .putfield 509, .iconst 1, .freturn] 78 ls st μ := run_blk (by decide +kernel) d ls st μ
theorem bk512_76 (d : Nat) (ls st : List XV) (μ : XM) : run d 512 76 ls st μ = bx d 512 [.iconst 1, .freturn] 78 ls st μ := run_blk (by decide +kernel) d ls st μ
theorem bk513_0 (d : Nat) (ls st : List XV) (μ : XM) : run d 513 0 ls st μ = bx d 513 [.aload_n 0, .getfield 503, .aload_n 0, .getfield 508, .aaload, .astore_n 1, .aload_n 0, .getfield 504, .aload_n 0, .getfield 508, .iaload, .istore_n 2, .aload_n 0, .dup, .getfield 508, .iconst 1, .isub, .putfield 508, .iload_n 2, .bipush 10, .if_icmp .lt 62, .aload_n 0, .getfield 505, .iload_n 2, .bipush 10, .isub, .aaload, .aload_n 1, .invokevirtual 605, .aload_n 0, .getfield 506, .iload_n 2, .bipush 10, .isub, .iconst 1, .bastore, .goto 88] 62 ls st μ := run_blk (by decide +kernel) d ls st μ
theorem bk513_62 (d : Nat) (ls st : List XV) (μ : XM) : run d 513 62 ls st μ = bx d 513 [.iconst 0, .istore_n 3] 64 ls st μ := run_blk (by decide +kernel) d ls st μ
theorem bk513_64 (d : Nat) (ls st : List XV) (μ : XM) : run d 513 64 ls st μ = bx d 513 [.iload_n 3, .iload_n 2, .if_icmp .ge 88, .aload_n 0, .getfield 503, .aload_n 0, .getfield 508, .aaload, .aload_n 1, .invokevirtual 603, .iinc 3 1, .goto 64] 88 ls st μ := run_blk (by decide +kernel) d ls st μ
theorem bk513_88 (d : Nat) (ls st : List XV) (μ : XM) : run d 513 88 ls st μ = bx d 513 [.return_] 89 ls st μ := run_blk (by decide +kernel) d ls st μ
theorem bk514_0 (d : Nat) (ls st : List XV) (μ : XM) : run d 514 0 ls st μ = bx d 514 [.aload_n 0, .getfield 503, .iconst 0, .aaload, .areturn] 7 ls st μ := run_blk (by decide +kernel) d ls st μ
theorem bk600_0 (d : Nat) (ls st : List XV) (μ : XM) : run d 600 0 ls st μ = bx d 600 [.aload_n 0, .monitorexit, .aload_n 0, .bipush 10, .newarray .int, .putfield 600, .aload_n 0, .bipush 10, .newarray .int, .putfield 601, .return_] 21 ls st μ := run_blk (by decide +kernel) d ls st μ
theorem bk601_0 (d : Nat) (ls st : List XV) (μ : XM) : run d 601 0 ls st μ = bx d 601 [.aload_n 0, .iconst 0, .putfield 602, .return_] 6 ls st μ := run_blk (by decide +kernel) d ls st μ
theorem bk602_0 (d : Nat) (ls st : List XV) (μ : XM) : run d 602 0 ls st μ = bx d 602 [.aload_n 0, .getfield 602, .bipush 10, .if_icmp .lt 16, .aload_n 0, .bipush 11, .putfield 602, .return_] 16 ls st μ := run_blk (by decide +kernel) d ls st μ
theorem bk602_16 (d : Nat) (ls st : List XV) (μ : XM) : run d 602 16 ls st μ = bx d 602 [.aload_n 0, .getfield 600, .aload_n 0, .getfield 602, .iload_n 1, .iastore, .aload_n 0, .getfield 601, .aload_n 0, .getfield 602, .iload_n 2, .iastore, .aload_n 0, .dup, .getfield 602, .iconst 1, .iadd, .putfield 602, .return_] 47 ls st μ := run_blk (by decide +kernel) d ls st μ
theorem bk603_0 (d : Nat) (ls st : List XV) (μ : XM) : run d 603 0 ls st μ = bx d 603 [.aload_n 1, .invokevirtual 604, .ifCond .eq 14, .aload_n 0, .bipush 11, .putfield 602, .return_] 14 ls st μ := run_blk (by decide +kernel) d ls st μ
theorem bk603_14 (d : Nat) (ls st : List XV) (μ : XM) : run d 603 14 ls st μ = bx d 603 [.iconst 0, .istore_n 2] 16 ls st μ := run_blk (by decide +kernel) d ls st μ
theorem bk603_16 (d : Nat) (ls st : List XV) (μ : XM) : run d 603 16 ls st μ = bx d 603 [.iload_n 2, .aload_n 1, .getfield 602, .if_icmp .ge 46, .aload_n 0, .aload_n 1, .getfield 600, .iload_n 2, .iaload, .aload_n 1, .getfield 601, .iload_n 2, .iaload, .invokevirtual 602, .iinc 2 1, .goto 16] 46 ls st μ := run_blk (by decide +kernel) d ls st μ
theorem bk603_46 (d : Nat) (ls st : List XV) (μ : XM) : run d 603 46 ls st μ = bx d 603 [.return_] 47 ls st μ := run_blk (by decide +kernel) d ls st μ
theorem bk604_0 (d : Nat) (ls st : List XV) (μ : XM) : run d 604 0 ls st μ = bx d 604 [.aload_n 0, .getfield 602, .bipush 11, .if_icmp .lt 13, .iconst 1, .goto 14] 13 ls st μ := run_blk (by decide +kernel) d ls st μ
theorem bk604_13 (d : Nat) (ls st : List XV) (μ : XM) : run d 604 13 ls st μ = bx d 604 [.iconst 0, .freturn] 15 ls st μ := run_blk (by decide +kernel) d ls st μ
theorem bk604_14 (d : Nat) (ls st : List XV) (μ : XM) : run d 604 14 ls st μ = bx d 604 [.freturn] 15 ls st μ := run_blk (by decide +kernel) d ls st μ
theorem bk605_0 (d : Nat) (ls st : List XV) (μ : XM) : run d 605 0 ls st μ = bx d 605 [.aload_n 0, .invokevirtual 601, .aload_n 0, .aload_n 1, .invokevirtual 603, .return_] 10 ls st μ := run_blk (by decide +kernel) d ls st μ
theorem bk700_0 (d : Nat) (ls st : List XV) (μ : XM) : run d 700 0 ls st μ = bx d 700 [.aload_n 0, .monitorexit, .aload_n 0, .bipush 40, .bipush 6, .multianewarray 0 2, .putfield 704, .aload_n 0, .bipush 40, .bipush 6, .multianewarray 0 2, .putfield 705, .aload_n 0, .bipush 40, .bipush 36, .multianewarray 0 2, .putfield 706, .aload_n 0, .bipush 36, .newarray .int, .putfield 707, .aload_n 0, .bipush 36, .newarray .int, .putfield 708, .aload_n 0, .bipush 6, .newarray .int, .putfield 709, .aload_n 0, .aload_n 1, .putfield 700, .aload_n 0, .aload_n 2, .putfield 701, .lconst 1, .lstore_n 3, .iconst 0, .istore 5] 79 ls st μ := run_blk (by decide +kernel) d ls st μ
theorem bk700_79 (d : Nat) (ls st : List XV) (μ : XM) : run d 700 79 ls st μ = bx d 700 [.iload 5, .aload_n 1, .getfield 300, .if_icmp .ge 100, .lload_n 3, .jsr_w 97, .lmul, .lstore_n 3, .iinc 5 1, .goto 79] 100 ls st μ := run_blk (by decide +kernel) d ls st μ
theorem bk700_100 (d : Nat) (ls st : List XV) (μ : XM) : run d 700 100 ls st μ = bx d 700 [.aload_n 0, .lload_n 3, .putfield 702, .return_] 106 ls st μ := run_blk (by decide +kernel) d ls st μ
theorem bk701_0 (d : Nat) (ls st : List XV) (μ : XM) : run d 701 0 ls st μ = bx d 701 [.aload_n 0, .getfield 703, .istore_n 3, .aload_n 0, .dup, .getfield 703, .iconst 1, .iadd, .putfield 703, .lload_n 1, .lstore 4, .iconst 0, .istore 6] 21 ls st μ := run_blk (by decide +kernel) d ls st μ
theorem bk701_21 (d : Nat) (ls st : List XV) (μ : XM) : run d 701 21 ls st μ = bx d 701 [.iload 6, .aload_n 0, .getfield 700, .getfield 300, .if_icmp .ge 63, .aload_n 0, .getfield 705, .iload_n 3, .aaload, .iload 6, .lload 4, .jsr_w 97, .lrem, .l2i, .iastore, .lload 4, .jsr_w 97, .ldiv, .lstore 4, .iinc 6 1, .goto 21] 63 ls st μ := run_blk (by decide +kernel) d ls st μ
theorem bk701_63 (d : Nat) (ls st : List XV) (μ : XM) : run d 701 63 ls st μ = bx d 701 [.aload_n 0, .getfield 700, .getfield 303, .iconst 0, .aload_n 0, .getfield 706, .iload_n 3, .aaload, .iconst 0, .bipush 36, .monitorenter, .aload_n 0, .getfield 705, .iload_n 3, .aaload, .iconst 0, .aload_n 0, .getfield 704, .iload_n 3, .aaload, .iconst 0, .bipush 6, .monitorenter, .aload_n 0, .getfield 700, .aload_n 0, .getfield 700, .getfield 303, .aload_n 0, .getfield 700, .getfield 305, .aload_n 0, .getfield 707, .invokevirtual 309, .aload_n 0, .getfield 700, .aload_n 0, .getfield 704, .iload_n 3, .aaload, .aload_n 0, .getfield 707, .iconst 0, .bipush 12, .invokevirtual 307, .iload_n 3, .ireturn] 149 ls st μ := run_blk (by decide +kernel) d ls st μ
theorem bk702_0 (d : Nat) (ls st : List XV) (μ : XM) : run d 702 0 ls st μ = bx d 702 [.iload_n 1, .ifCond .lt 16, .iload_n 1, .aload_n 0, .getfield 703, .if_icmp .ge 16, .iconst 1, .goto 17] 16 ls st μ := run_blk (by decide +kernel) d ls st μ
theorem bk702_16 (d : Nat) (ls st : List XV) (μ : XM) : run d 702 16 ls st μ = bx d 702 [.iconst 0, .freturn] 18 ls st μ := run_blk (by decide +kernel) d ls st μ
theorem bk702_17 (d : Nat) (ls st : List XV) (μ : XM) : run d 702 17 ls st μ = bx d 702 [.freturn] 18 ls st μ := run_blk (by decide +kernel) d ls st μ
theorem bk703_0 (d : Nat) (ls st : List XV) (μ : XM) : run d 703 0 ls st μ = bx d 703 [.aload_n 0, .getfield 701, .iload_n 1, .aload_n 0, .getfield 708, .invokevirtual 203, .aload_n 0, .getfield 700, .aload_n 0, .getfield 706, .iload_n 1, .aaload, .aload_n 0, .getfield 708, .aload_n 0, .getfield 707, .invokevirtual 309, .aload_n 0, .getfield 705, .iload_n 1, .aaload, .iconst 0, .aload_n 0, .getfield 709, .iconst 0, .bipush 6, .monitorenter, .aload_n 0, .getfield 700, .aload_n 0, .getfield 709, .aload_n 0, .getfield 707, .iconst 0, .bipush 12, .invokevirtual 307, .aload_n 0, .getfield 709, .areturn] 73 ls st μ := run_blk (by decide +kernel) d ls st μ
theorem bk704_0 (d : Nat) (ls st : List XV) (μ : XM) : run d 704 0 ls st μ = bx d 704 [.aload_n 0, .iload_n 1, .invokevirtual 703, .astore_n 2, .iconst 0, .istore_n 3] 8 ls st μ := run_blk (by decide +kernel) d ls st μ
theorem bk704_8 (d : Nat) (ls st : List XV) (μ : XM) : run d 704 8 ls st μ = bx d 704 [.iload_n 3, .aload_n 0, .getfield 700, .getfield 300, .if_icmp .ge 41, .aload_n 2, .iload_n 3, .iaload, .aload_n 0, .getfield 704, .iload_n 1, .aaload, .iload_n 3, .iaload, .if_icmp .eq 35, .iconst 0, .freturn] 35 ls st μ := run_blk (by decide +kernel) d ls st μ
theorem bk704_35 (d : Nat) (ls st : List XV) (μ : XM) : run d 704 35 ls st μ = bx d 704 [.iinc 3 1, .goto 8] 41 ls st μ := run_blk (by decide +kernel) d ls st μ
theorem bk704_41 (d : Nat) (ls st : List XV) (μ : XM) : run d 704 41 ls st μ = bx d 704 [.iconst 1, .freturn] 43 ls st μ := run_blk (by decide +kernel) d ls st μ
theorem bk800_0 (d : Nat) (ls st : List XV) (μ : XM) : run d 800 0 ls st μ = bx d 800 [.aload_n 0, .monitorexit, .aload_n 0, .bipush 15, .newarray .int, .putfield 804, .aload_n 0, .bipush 15, .newarray .int, .putfield 805, .aload_n 0, .iload_n 1, .putfield 800, .aload_n 0, .aload_n 2, .putfield 801, .aload_n 0, .iload_n 1, .iload_n 1, .multianewarray 0 2, .putfield 802, .aload_n 0, .iload_n 1, .iload_n 1, .multianewarray 0 2, .putfield 803, .return_] 51 ls st μ := run_blk (by decide +kernel) d ls st μ
theorem bk801_0 (d : Nat) (ls st : List XV) (μ : XM) : run d 801 0 ls st μ = bx d 801 [.iconst 0, .istore_n 3, .iconst 0, .istore 4] 5 ls st μ := run_blk (by decide +kernel) d ls st μ
theorem bk801_5 (d : Nat) (ls st : List XV) (μ : XM) : run d 801 5 ls st μ = bx d 801 [.iload 4, .aload_n 0, .getfield 800, .if_icmp .ge 51, .aload_n 0, .getfield 802, .iload_n 1, .aaload, .iload 4, .iaload, .aload_n 2, .iload 4, .iaload, .if_icmp .eq 32, .iconst 1, .istore_n 3, .aload_n 0, .getfield 802, .iload_n 1, .aaload, .iload 4, .aload_n 2, .iload 4, .iaload, .iastore, .iinc 4 1, .goto 5] 51 ls st μ := run_blk (by decide +kernel) d ls st μ
theorem bk801_32 (d : Nat) (ls st : List XV) (μ : XM) : run d 801 32 ls st μ = bx d 801 [.aload_n 0, .getfield 802, .iload_n 1, .aaload, .iload 4, .aload_n 2, .iload 4, .iaload, .iastore, .iinc 4 1, .goto 5] 51 ls st μ := run_blk (by decide +kernel) d ls st μ
theorem bk801_51 (d : Nat) (ls st : List XV) (μ : XM) : run d 801 51 ls st μ = bx d 801 [.iload_n 3, .freturn] 53 ls st μ := run_blk (by decide +kernel) d ls st μ
theorem bk802_0 (d : Nat) (ls st : List XV) (μ : XM) : run d 802 0 ls st μ = bx d 802 [.iconst 0, .istore_n 1] 2 ls st μ := run_blk (by decide +kernel) d ls st μ
theorem bk802_2 (d : Nat) (ls st : List XV) (μ : XM) : run d 802 2 ls st μ = bx d 802 [.iload_n 1, .aload_n 0, .getfield 800, .if_icmp .ge 63, .iload_n 1, .istore_n 2] 12 ls st μ := run_blk (by decide +kernel) d ls st μ
theorem bk802_12 (d : Nat) (ls st : List XV) (μ : XM) : run d 802 12 ls st μ = bx d 802 [.iload_n 2, .aload_n 0, .getfield 800, .if_icmp .ge 57, .aload_n 0, .aload_n 0, .getfield 802, .iload_n 1, .aaload, .aload_n 0, .getfield 802, .iload_n 2, .aaload, .invokevirtual 803, .iload_n 1, .iload_n 2, .if_icmp .ne 45, .iconst 1, .goto 46] 45 ls st μ := run_blk (by decide +kernel) d ls st μ
theorem bk802_45 (d : Nat) (ls st : List XV) (μ : XM) : run d 802 45 ls st μ = bx d 802 [.iconst 0, .if_icmp .eq 51, .iconst 0, .freturn] 51 ls st μ := run_blk (by decide +kernel) d ls st μ
theorem bk802_46 (d : Nat) (ls st : List XV) (μ : XM) : run d 802 46 ls st μ = bx d 802 [.if_icmp .eq 51, .iconst 0, .freturn] 51 ls st μ := run_blk (by decide +kernel) d ls st μ
theorem bk802_51 (d : Nat) (ls st : List XV) (μ : XM) : run d 802 51 ls st μ = bx d 802 [.iinc 2 1, .goto 12] 57 ls st μ := run_blk (by decide +kernel) d ls st μ
theorem bk802_57 (d : Nat) (ls st : List XV) (μ : XM) : run d 802 57 ls st μ = bx d 802 [.iinc 1 1, .goto 2] 63 ls st μ := run_blk (by decide +kernel) d ls st μ
theorem bk802_63 (d : Nat) (ls st : List XV) (μ : XM) : run d 802 63 ls st μ = bx d 802 [.iconst 1, .freturn] 65 ls st μ := run_blk (by decide +kernel) d ls st μ
theorem bk803_0 (d : Nat) (ls st : List XV) (μ : XM) : run d 803 0 ls st μ = bx d 803 [.iconst 0, .istore_n 3, .iconst 0, .istore 4] 5 ls st μ := run_blk (by decide +kernel) d ls st μ
theorem bk803_5 (d : Nat) (ls st : List XV) (μ : XM) : run d 803 5 ls st μ = bx d 803 [.iload 4, .aload_n 0, .getfield 800, .if_icmp .ge 32, .iload_n 3, .aload_n 1, .iload 4, .iaload, .aload_n 2, .iload 4, .iaload, .imul, .iadd, .istore_n 3, .iinc 4 1, .goto 5] 32 ls st μ := run_blk (by decide +kernel) d ls st μ
theorem bk803_32 (d : Nat) (ls st : List XV) (μ : XM) : run d 803 32 ls st μ = bx d 803 [.iload_n 3, .bipush 97, .irem, .ireturn] 37 ls st μ := run_blk (by decide +kernel) d ls st μ
theorem bk804_0 (d : Nat) (ls st : List XV) (μ : XM) : run d 804 0 ls st μ = bx d 804 [.iconst 0, .istore_n 1] 2 ls st μ := run_blk (by decide +kernel) d ls st μ
theorem bk804_2 (d : Nat) (ls st : List XV) (μ : XM) : run d 804 2 ls st μ = bx d 804 [.iload_n 1, .aload_n 0, .getfield 800, .if_icmp .ge 37, .aload_n 0, .getfield 802, .iload_n 1, .aaload, .iconst 0, .aload_n 0, .getfield 803, .iload_n 1, .aaload, .iconst 0, .aload_n 0, .getfield 800, .monitorenter, .iinc 1 1, .goto 2] 37 ls st μ := run_blk (by decide +kernel) d ls st μ
theorem bk804_37 (d : Nat) (ls st : List XV) (μ : XM) : run d 804 37 ls st μ = bx d 804 [.aload_n 0, .iconst 0, .putfield 806, .aload_n 0, .iconst 0, .putfield 807, .iconst 0, .istore_n 1] 49 ls st μ := run_blk (by decide +kernel) d ls st μ
theorem bk804_49 (d : Nat) (ls st : List XV) (μ : XM) : run d 804 49 ls st μ = bx d 804 [.iload_n 1, .aload_n 0, .getfield 800, .iconst 1, .isub, .if_icmp .ge 124, .aload_n 0, .getfield 800, .iconst 1, .isub, .istore_n 2] 66 ls st μ := run_blk (by decide +kernel) d ls st μ
theorem bk804_66 (d : Nat) (ls st : List XV) (μ : XM) : run d 804 66 ls st μ = bx d 804 [.iload_n 2, .iload_n 1, .if_icmp .le 118, .aload_n 0, .getfield 801, .aload_n 0, .getfield 803, .iload_n 1, .aaload, .iload_n 2, .iconst 1, .isub, .iaload, .aload_n 0, .getfield 803, .iload_n 1, .aaload, .iload_n 2, .iaload, .invokevirtual 2, .istore_n 3, .iload_n 3, .iconst (-1), .if_icmp .ne 104, .iconst 0, .freturn] 104 ls st μ := run_blk (by decide +kernel) d ls st μ
theorem bk804_104 (d : Nat) (ls st : List XV) (μ : XM) : run d 804 104 ls st μ = bx d 804 [.aload_n 0, .iload_n 2, .iconst 1, .isub, .iload_n 3, .invokevirtual 805, .iinc 2 (-1), .goto 66] 118 ls st μ := run_blk (by decide +kernel) d ls st μ
theorem bk804_118 (d : Nat) (ls st : List XV) (μ : XM) : run d 804 118 ls st μ = bx d 804 [.iinc 1 1, .goto 49] 124 ls st μ := run_blk (by decide +kernel) d ls st μ
theorem bk804_124 (d : Nat) (ls st : List XV) (μ : XM) : run d 804 124 ls st μ = bx d 804 [.aload_n 0, .iconst 1, .putfield 807, .iconst 1, .freturn] 131 ls st μ := run_blk (by decide +kernel) d ls st μ
theorem bk805_0 (d : Nat) (ls st : List XV) (μ : XM) : run d 805 0 ls st μ = bx d 805 [.iconst 0, .istore_n 3] 2 ls st μ := run_blk (by decide +kernel) d ls st μ
theorem bk805_2 (d : Nat) (ls st : List XV) (μ : XM) : run d 805 2 ls st μ = bx d 805 [.iload_n 3, .aload_n 0, .getfield 800, .if_icmp .ge 31, .aload_n 0, .getfield 801, .aload_n 0, .getfield 803, .iload_n 3, .aaload, .iload_n 1, .iload_n 2, .invokevirtual 1, .iinc 3 1, .goto 2] 31 ls st μ := run_blk (by decide +kernel) d ls st μ
theorem bk805_31 (d : Nat) (ls st : List XV) (μ : XM) : run d 805 31 ls st μ = bx d 805 [.aload_n 0, .getfield 804, .aload_n 0, .getfield 806, .iload_n 1, .iastore, .aload_n 0, .getfield 805, .aload_n 0, .getfield 806, .iload_n 2, .iastore, .aload_n 0, .dup, .getfield 806, .iconst 1, .iadd, .putfield 806, .return_] 62 ls st μ := run_blk (by decide +kernel) d ls st μ
theorem bk806_0 (d : Nat) (ls st : List XV) (μ : XM) : run d 806 0 ls st μ = bx d 806 [.iload_n 1, .ifCond .lt 16, .iload_n 1, .aload_n 0, .getfield 806, .if_icmp .ge 16, .iconst 1, .goto 17] 16 ls st μ := run_blk (by decide +kernel) d ls st μ
theorem bk806_16 (d : Nat) (ls st : List XV) (μ : XM) : run d 806 16 ls st μ = bx d 806 [.iconst 0, .freturn] 18 ls st μ := run_blk (by decide +kernel) d ls st μ
theorem bk806_17 (d : Nat) (ls st : List XV) (μ : XM) : run d 806 17 ls st μ = bx d 806 [.freturn] 18 ls st μ := run_blk (by decide +kernel) d ls st μ
theorem bk807_0 (d : Nat) (ls st : List XV) (μ : XM) : run d 807 0 ls st μ = bx d 807 [.iconst 0, .istore_n 1, .iconst 0, .istore_n 2] 4 ls st μ := run_blk (by decide +kernel) d ls st μ
theorem bk807_4 (d : Nat) (ls st : List XV) (μ : XM) : run d 807 4 ls st μ = bx d 807 [.iload_n 2, .aload_n 0, .getfield 806, .if_icmp .ge 30, .aload_n 0, .getfield 805, .iload_n 2, .iaload, .ifCond .le 24, .iinc 1 1, .iinc 2 1, .goto 4] 30 ls st μ := run_blk (by decide +kernel) d ls st μ
theorem bk807_24 (d : Nat) (ls st : List XV) (μ : XM) : run d 807 24 ls st μ = bx d 807 [.iinc 2 1, .goto 4] 30 ls st μ := run_blk (by decide +kernel) d ls st μ
theorem bk807_30 (d : Nat) (ls st : List XV) (μ : XM) : run d 807 30 ls st μ = bx d 807 [.iload_n 1, .ireturn] 32 ls st μ := run_blk (by decide +kernel) d ls st μ
theorem bk808_0 (d : Nat) (ls st : List XV) (μ : XM) : run d 808 0 ls st μ = bx d 808 [.aload_n 1, .invokevirtual 601, .aload_n 0, .getfield 806, .iconst 1, .isub, .istore_n 2] 11 ls st μ := run_blk (by decide +kernel) d ls st μ
theorem bk808_11 (d : Nat) (ls st : List XV) (μ : XM) : run d 808 11 ls st μ = bx d 808 [.iload_n 2, .ifCond .lt 49, .aload_n 0, .getfield 805, .iload_n 2, .iaload, .ifCond .le 43, .aload_n 1, .aload_n 0, .getfield 804, .iload_n 2, .iaload, .bipush 96, .aload_n 0, .getfield 805, .iload_n 2, .iaload, .isub, .invokevirtual 602, .iinc 2 (-1), .goto 11] 49 ls st μ := run_blk (by decide +kernel) d ls st μ
theorem bk808_43 (d : Nat) (ls st : List XV) (μ : XM) : run d 808 43 ls st μ = bx d 808 [.iinc 2 (-1), .goto 11] 49 ls st μ := run_blk (by decide +kernel) d ls st μ
theorem bk808_49 (d : Nat) (ls st : List XV) (μ : XM) : run d 808 49 ls st μ = bx d 808 [.return_] 50 ls st μ := run_blk (by decide +kernel) d ls st μ
theorem bk900_0 (d : Nat) (ls st : List XV) (μ : XM) : run d 900 0 ls st μ = bx d 900 [.aload_n 0, .monitorexit, .aload_n 0, .bipush 36, .newarray .int, .putfield 901, .aload_n 0, .bipush 6, .newarray .boolean, .putfield 902, .aload_n 0, .aload_n 1, .putfield 900, .aload_n 0, .getfield 901, .iconst (-1), .invokestatic 1400, .return_] 34 ls st μ := run_blk (by decide +kernel) d ls st μ
theorem bk901_0 (d : Nat) (ls st : List XV) (μ : XM) : run d 901 0 ls st μ = bx d 901 [.iconst 0, .istore_n 2] 2 ls st μ := run_blk (by decide +kernel) d ls st μ
theorem bk901_2 (d : Nat) (ls st : List XV) (μ : XM) : run d 901 2 ls st μ = bx d 901 [.iload_n 2, .bipush 6, .if_icmp .ge 30, .aload_n 0, .getfield 902, .iload_n 2, .iload_n 2, .iload_n 1, .if_icmp .ne 22, .iconst 1, .goto 23] 22 ls st μ := run_blk (by decide +kernel) d ls st μ
end
section
theorem bk901_22 (d : Nat) (ls st : List XV) (μ : XM) : run d 901 22 ls st μ = bx d 901 [.iconst 0, .bastore, .iinc 2 1, .goto 2] 30 ls st μ := run_blk (by decide +kernel) d ls st μ
theorem bk901_23 (d : Nat) (ls st : List XV) (μ : XM) : run d 901 23 ls st μ = bx d 901 [.bastore, .iinc 2 1, .goto 2] 30 ls st μ := run_blk (by decide +kernel) d ls st μ
theorem bk901_30 (d : Nat) (ls st : List XV) (μ : XM) : run d 901 30 ls st μ = bx d 901 [.iconst 0, .istore_n 2, .iconst 0, .istore_n 3] 34 ls st μ := run_blk (by decide +kernel) d ls st μ
theorem bk901_34 (d : Nat) (ls st : List XV) (μ : XM) : run d 901 34 ls st μ = bx d 901 [.iload_n 3, .bipush 36, .if_icmp .ge 127, .aload_n 0, .getfield 900, .getfield 302, .iload_n 3, .iaload, .istore 4, .iload 4, .iconst (-1), .if_icmp .eq 121, .aload_n 0, .getfield 902, .iload 4, .baload, .ifCond .ne 82, .aload_n 0, .getfield 902, .iload 4, .iconst 1, .iadd, .baload, .ifCond .ne 82, .goto 121] 82 ls st μ := run_blk (by decide +kernel) d ls st μ
theorem bk901_82 (d : Nat) (ls st : List XV) (μ : XM) : run d 901 82 ls st μ = bx d 901 [.aload_n 0, .getfield 902, .iload 4, .iconst 1, .bastore, .aload_n 0, .getfield 902, .iload 4, .iconst 1, .iadd, .iconst 1, .bastore, .aload_n 0, .getfield 901, .iload_n 3, .iaload, .iconst (-1), .if_icmp .eq 121, .iload_n 2, .iconst 1, .aload_n 0, .getfield 901, .iload_n 3, .iaload, .ishl, .ior, .istore_n 2, .iinc 3 1, .goto 34] 127 ls st μ := run_blk (by decide +kernel) d ls st μ
theorem bk901_121 (d : Nat) (ls st : List XV) (μ : XM) : run d 901 121 ls st μ = bx d 901 [.iinc 3 1, .goto 34] 127 ls st μ := run_blk (by decide +kernel) d ls st μ
theorem bk901_127 (d : Nat) (ls st : List XV) (μ : XM) : run d 901 127 ls st μ = bx d 901 [.iload_n 2, .iconst 3, .if_icmp .ne 136, .iconst 1, .goto 137] 136 ls st μ := run_blk (by decide +kernel) d ls st μ
theorem bk901_136 (d : Nat) (ls st : List XV) (μ : XM) : run d 901 136 ls st μ = bx d 901 [.iconst 0, .freturn] 138 ls st μ := run_blk (by decide +kernel) d ls st μ
theorem bk901_137 (d : Nat) (ls st : List XV) (μ : XM) : run d 901 137 ls st μ = bx d 901 [.freturn] 138 ls st μ := run_blk (by decide +kernel) d ls st μ
theorem bk1000_0 (d : Nat) (ls st : List XV) (μ : XM) : run d 1000 0 ls st μ = bx d 1000 [.aload_n 0, .monitorexit, .iload_n 1, .iconst 5, .invokestatic 1300, .iconst 2, .iadd, .istore_n 2, .aload_n 0, .new 0, .dup, .invokespecial 0, .putfield 1000, .aload_n 0, .new 3, .dup, .iload_n 2, .aload_n 0, .getfield 1000, .invokespecial 300, .putfield 1001, .aload_n 0, .new 8, .dup, .iload_n 2, .aload_n 0, .getfield 1000, .invokespecial 800, .putfield 1002, .aload_n 0, .new 6, .dup, .invokespecial 600, .putfield 1003, .aload_n 0, .new 1, .dup, .aload_n 0, .getfield 1001, .aload_n 0, .getfield 1003, .invokespecial 100, .putfield 1004, .aload_n 0, .new 5, .dup, .iload_n 2, .invokespecial 500, .putfield 1005, .aload_n 0, .new 2, .dup, .invokespecial 200, .putfield 1006, .aload_n 0, .new 7, .dup, .aload_n 0, .getfield 1001, .aload_n 0, .getfield 1006, .invokespecial 700, .putfield 1007, .aload_n 0, .new 4, .dup, .aload_n 0, .getfield 1001, .aload_n 0, .getfield 1006, .invokespecial 400, .putfield 1008, .aload_n 0, .new 9, .dup, .aload_n 0, .getfield 1001, .invokespecial 900, .putfield 1009, .return_] 162 ls st μ := run_blk (by decide +kernel) d ls st μ
theorem bk1001_0 (d : Nat) (ls st : List XV) (μ : XM) : run d 1001 0 ls st μ = bx d 1001 [.iload_n 1, .bipush 96, .invokestatic 1300, .istore_n 3, .iload_n 2, .lookupswitch 56 #[(0, 36), (1, 46)]] 36 ls st μ := run_blk (by decide +kernel) d ls st μ
theorem bk1001_36 (d : Nat) (ls st : List XV) (μ : XM) : run d 1001 36 ls st μ = bx d 1001 [.aload_n 0, .getfield 1000, .getfield 0, .iload_n 3, .iaload, .ireturn] 46 ls st μ := run_blk (by decide +kernel) d ls st μ
theorem bk1001_46 (d : Nat) (ls st : List XV) (μ : XM) : run d 1001 46 ls st μ = bx d 1001 [.aload_n 0, .getfield 1000, .getfield 1, .iload_n 3, .iaload, .ireturn] 56 ls st μ := run_blk (by decide +kernel) d ls st μ
theorem bk1001_56 (d : Nat) (ls st : List XV) (μ : XM) : run d 1001 56 ls st μ = bx d 1001 [.iconst (-1), .ireturn] 58 ls st μ := run_blk (by decide +kernel) d ls st μ
theorem bk1002_0 (d : Nat) (ls st : List XV) (μ : XM) : run d 1002 0 ls st μ = bx d 1002 [.aload_n 0, .getfield 1001, .iload_n 1, .iload_n 2, .invokevirtual 301, .istore 4, .iload 4, .ifCond .ge 18, .iconst (-1), .ireturn] 18 ls st μ := run_blk (by decide +kernel) d ls st μ
theorem bk1002_18 (d : Nat) (ls st : List XV) (μ : XM) : run d 1002 18 ls st μ = bx d 1002 [.iload_n 3, .invokestatic 1003, .ifCond .ne 28, .bipush (-2), .ireturn] 28 ls st μ := run_blk (by decide +kernel) d ls st μ
theorem bk1002_28 (d : Nat) (ls st : List XV) (μ : XM) : run d 1002 28 ls st μ = bx d 1002 [.aload_n 0, .getfield 1006, .invokevirtual 201, .ifCond .eq 41, .bipush (-4), .ireturn] 41 ls st μ := run_blk (by decide +kernel) d ls st μ
theorem bk1002_41 (d : Nat) (ls st : List XV) (μ : XM) : run d 1002 41 ls st μ = bx d 1002 [.aload_n 0, .getfield 1001, .getfield 303, .iload 4, .iaload, .istore 5, .aload_n 0, .getfield 1001, .getfield 303, .iload 4, .iload_n 3, .iastore, .aload_n 0, .getfield 1006, .invokevirtual 202, .iload 5, .ireturn] 74 ls st μ := run_blk (by decide +kernel) d ls st μ
theorem bk1003_0 (d : Nat) (ls st : List XV) (μ : XM) : run d 1003 0 ls st μ = bx d 1003 [.iload_n 0, .ifCond .lt 14, .iload_n 0, .bipush 96, .if_icmp .ge 14, .iconst 1, .goto 15] 14 ls st μ := run_blk (by decide +kernel) d ls st μ
theorem bk1003_14 (d : Nat) (ls st : List XV) (μ : XM) : run d 1003 14 ls st μ = bx d 1003 [.iconst 0, .freturn] 16 ls st μ := run_blk (by decide +kernel) d ls st μ
theorem bk1003_15 (d : Nat) (ls st : List XV) (μ : XM) : run d 1003 15 ls st μ = bx d 1003 [.freturn] 16 ls st μ := run_blk (by decide +kernel) d ls st μ
theorem bk1004_0 (d : Nat) (ls st : List XV) (μ : XM) : run d 1004 0 ls st μ = bx d 1004 [.aload_n 0, .getfield 1001, .iload_n 1, .iload_n 2, .invokevirtual 301, .istore 4, .iload 4, .ifCond .ge 18, .iconst (-1), .ireturn] 18 ls st μ := run_blk (by decide +kernel) d ls st μ
theorem bk1004_18 (d : Nat) (ls st : List XV) (μ : XM) : run d 1004 18 ls st μ = bx d 1004 [.iload_n 3, .invokestatic 1003, .ifCond .ne 28, .bipush (-2), .ireturn] 28 ls st μ := run_blk (by decide +kernel) d ls st μ
theorem bk1004_28 (d : Nat) (ls st : List XV) (μ : XM) : run d 1004 28 ls st μ = bx d 1004 [.aload_n 0, .getfield 1001, .iload 4, .invokevirtual 302, .istore 5, .aload_n 0, .getfield 1001, .getfield 304, .iload 4, .iload_n 3, .iastore, .iload 5, .ifCond .eq 59, .iconst 0, .goto 60] 59 ls st μ := run_blk (by decide +kernel) d ls st μ
theorem bk1004_59 (d : Nat) (ls st : List XV) (μ : XM) : run d 1004 59 ls st μ = bx d 1004 [.iconst 1, .ireturn] 61 ls st μ := run_blk (by decide +kernel) d ls st μ
theorem bk1004_60 (d : Nat) (ls st : List XV) (μ : XM) : run d 1004 60 ls st μ = bx d 1004 [.ireturn] 61 ls st μ := run_blk (by decide +kernel) d ls st μ
theorem bk1005_0 (d : Nat) (ls st : List XV) (μ : XM) : run d 1005 0 ls st μ = bx d 1005 [.aload_n 0, .getfield 1001, .iload_n 1, .iload_n 2, .invokevirtual 301, .istore_n 3, .iload_n 3, .ifCond .ge 16, .iconst (-1), .ireturn] 16 ls st μ := run_blk (by decide +kernel) d ls st μ
theorem bk1005_16 (d : Nat) (ls st : List XV) (μ : XM) : run d 1005 16 ls st μ = bx d 1005 [.aload_n 0, .getfield 1001, .iload_n 3, .invokevirtual 302, .ifCond .ne 30, .bipush (-3), .ireturn] 30 ls st μ := run_blk (by decide +kernel) d ls st μ
theorem bk1005_30 (d : Nat) (ls st : List XV) (μ : XM) : run d 1005 30 ls st μ = bx d 1005 [.aload_n 0, .getfield 1001, .getfield 304, .iload_n 3, .iaload, .istore 4, .aload_n 0, .getfield 1001, .getfield 304, .iload_n 3, .iconst (-1), .iastore, .iload 4, .ireturn] 54 ls st μ := run_blk (by decide +kernel) d ls st μ
theorem bk1006_0 (d : Nat) (ls st : List XV) (μ : XM) : run d 1006 0 ls st μ = bx d 1006 [.aload_n 0, .getfield 1001, .iload_n 1, .iload_n 2, .invokevirtual 301, .istore 4, .iload 4, .ifCond .ge 18, .iconst (-1), .ireturn] 18 ls st μ := run_blk (by decide +kernel) d ls st μ
theorem bk1006_18 (d : Nat) (ls st : List XV) (μ : XM) : run d 1006 18 ls st μ = bx d 1006 [.iload_n 3, .tableswitch 126 0 4 #[52, 63, 74, 91, 115]] 52 ls st μ := run_blk (by decide +kernel) d ls st μ
theorem bk1006_52 (d : Nat) (ls st : List XV) (μ : XM) : run d 1006 52 ls st μ = bx d 1006 [.aload_n 0, .getfield 1001, .getfield 303, .iload 4, .iaload, .ireturn] 63 ls st μ := run_blk (by decide +kernel) d ls st μ
theorem bk1006_63 (d : Nat) (ls st : List XV) (μ : XM) : run d 1006 63 ls st μ = bx d 1006 [.aload_n 0, .getfield 1001, .getfield 304, .iload 4, .iaload, .ireturn] 74 ls st μ := run_blk (by decide +kernel) d ls st μ
theorem bk1006_74 (d : Nat) (ls st : List XV) (μ : XM) : run d 1006 74 ls st μ = bx d 1006 [.aload_n 0, .getfield 1001, .aload_n 0, .getfield 1001, .getfield 303, .iload 4, .invokevirtual 303, .ireturn] 91 ls st μ := run_blk (by decide +kernel) d ls st μ
theorem bk1006_91 (d : Nat) (ls st : List XV) (μ : XM) : run d 1006 91 ls st μ = bx d 1006 [.aload_n 0, .getfield 1001, .aload_n 0, .getfield 1001, .getfield 303, .aload_n 0, .getfield 1001, .getfield 305, .iload 4, .invokevirtual 304, .ireturn] 115 ls st μ := run_blk (by decide +kernel) d ls st μ
theorem bk1006_115 (d : Nat) (ls st : List XV) (μ : XM) : run d 1006 115 ls st μ = bx d 1006 [.aload_n 0, .getfield 1009, .getfield 901, .iload 4, .iaload, .ireturn] 126 ls st μ := run_blk (by decide +kernel) d ls st μ
theorem bk1006_126 (d : Nat) (ls st : List XV) (μ : XM) : run d 1006 126 ls st μ = bx d 1006 [.iconst (-1), .ireturn] 128 ls st μ := run_blk (by decide +kernel) d ls st μ
theorem bk1007_0 (d : Nat) (ls st : List XV) (μ : XM) : run d 1007 0 ls st μ = bx d 1007 [.aload_n 0, .iload_n 1, .invokevirtual 1008, .ifCond .eq 16, .aload_n 0, .iload_n 2, .invokevirtual 1008, .ifCond .ne 18, .iconst (-1), .ireturn] 18 ls st μ := run_blk (by decide +kernel) d ls st μ
theorem bk1007_16 (d : Nat) (ls st : List XV) (μ : XM) : run d 1007 16 ls st μ = bx d 1007 [.iconst (-1), .ireturn] 18 ls st μ := run_blk (by decide +kernel) d ls st μ
theorem bk1007_18 (d : Nat) (ls st : List XV) (μ : XM) : run d 1007 18 ls st μ = bx d 1007 [.aload_n 0, .getfield 1001, .iload_n 2, .invokevirtual 306, .iload_n 1, .iaload, .ireturn] 29 ls st μ := run_blk (by decide +kernel) d ls st μ
theorem bk1008_0 (d : Nat) (ls st : List XV) (μ : XM) : run d 1008 0 ls st μ = bx d 1008 [.iload_n 1, .ifCond .lt 19, .iload_n 1, .aload_n 0, .getfield 1001, .getfield 300, .if_icmp .ge 19, .iconst 1, .goto 20] 19 ls st μ := run_blk (by decide +kernel) d ls st μ
theorem bk1008_19 (d : Nat) (ls st : List XV) (μ : XM) : run d 1008 19 ls st μ = bx d 1008 [.iconst 0, .freturn] 21 ls st μ := run_blk (by decide +kernel) d ls st μ
theorem bk1008_20 (d : Nat) (ls st : List XV) (μ : XM) : run d 1008 20 ls st μ = bx d 1008 [.freturn] 21 ls st μ := run_blk (by decide +kernel) d ls st μ
theorem bk1009_0 (d : Nat) (ls st : List XV) (μ : XM) : run d 1009 0 ls st μ = bx d 1009 [.aload_n 0, .iload_n 1, .invokevirtual 1008, .ifCond .eq 16, .aload_n 0, .iload_n 2, .invokevirtual 1008, .ifCond .ne 18, .iconst (-1), .ireturn] 18 ls st μ := run_blk (by decide +kernel) d ls st μ
theorem bk1009_16 (d : Nat) (ls st : List XV) (μ : XM) : run d 1009 16 ls st μ = bx d 1009 [.iconst (-1), .ireturn] 18 ls st μ := run_blk (by decide +kernel) d ls st μ
theorem bk1009_18 (d : Nat) (ls st : List XV) (μ : XM) : run d 1009 18 ls st μ = bx d 1009 [.iload_n 3, .ifCond .lt 28, .iload_n 3, .bipush 97, .if_icmp .lt 31, .bipush (-2), .ireturn] 31 ls st μ := run_blk (by decide +kernel) d ls st μ
theorem bk1009_28 (d : Nat) (ls st : List XV) (μ : XM) : run d 1009 28 ls st μ = bx d 1009 [.bipush (-2), .ireturn] 31 ls st μ := run_blk (by decide +kernel) d ls st μ
theorem bk1009_31 (d : Nat) (ls st : List XV) (μ : XM) : run d 1009 31 ls st μ = bx d 1009 [.aload_n 0, .getfield 1002, .getfield 802, .iload_n 2, .aaload, .iload_n 1, .iaload, .istore 4, .aload_n 0, .getfield 1002, .getfield 802, .iload_n 2, .aaload, .iload_n 1, .iload_n 3, .iastore, .iload 4, .ireturn] 59 ls st μ := run_blk (by decide +kernel) d ls st μ
theorem bk1010_0 (d : Nat) (ls st : List XV) (μ : XM) : run d 1010 0 ls st μ = bx d 1010 [.iconst 0, .istore_n 1, .iconst 0, .istore_n 2] 4 ls st μ := run_blk (by decide +kernel) d ls st μ
theorem bk1010_4 (d : Nat) (ls st : List XV) (μ : XM) : run d 1010 4 ls st μ = bx d 1010 [.iload_n 2, .aload_n 0, .getfield 1001, .getfield 300, .if_icmp .ge 42, .aload_n 0, .getfield 1002, .iload_n 2, .aload_n 0, .getfield 1001, .iload_n 2, .invokevirtual 306, .invokevirtual 801, .ifCond .eq 36, .iconst 1, .istore_n 1, .iinc 2 1, .goto 4] 42 ls st μ := run_blk (by decide +kernel) d ls st μ
theorem bk1010_36 (d : Nat) (ls st : List XV) (μ : XM) : run d 1010 36 ls st μ = bx d 1010 [.iinc 2 1, .goto 4] 42 ls st μ := run_blk (by decide +kernel) d ls st μ
theorem bk1010_42 (d : Nat) (ls st : List XV) (μ : XM) : run d 1010 42 ls st μ = bx d 1010 [.iload_n 1, .ifCond .eq 50, .iconst 1, .goto 51] 50 ls st μ := run_blk (by decide +kernel) d ls st μ
theorem bk1010_50 (d : Nat) (ls st : List XV) (μ : XM) : run d 1010 50 ls st μ = bx d 1010 [.iconst 0, .ireturn] 52 ls st μ := run_blk (by decide +kernel) d ls st μ
theorem bk1010_51 (d : Nat) (ls st : List XV) (μ : XM) : run d 1010 51 ls st μ = bx d 1010 [.ireturn] 52 ls st μ := run_blk (by decide +kernel) d ls st μ
theorem bk1011_0 (d : Nat) (ls st : List XV) (μ : XM) : run d 1011 0 ls st μ = bx d 1011 [.aload_n 0, .getfield 1002, .invokevirtual 802, .ifCond .eq 14, .iconst 1, .goto 15] 14 ls st μ := run_blk (by decide +kernel) d ls st μ
theorem bk1011_14 (d : Nat) (ls st : List XV) (μ : XM) : run d 1011 14 ls st μ = bx d 1011 [.iconst 0, .ireturn] 16 ls st μ := run_blk (by decide +kernel) d ls st μ
theorem bk1011_15 (d : Nat) (ls st : List XV) (μ : XM) : run d 1011 15 ls st μ = bx d 1011 [.ireturn] 16 ls st μ := run_blk (by decide +kernel) d ls st μ
theorem bk1012_0 (d : Nat) (ls st : List XV) (μ : XM) : run d 1012 0 ls st μ = bx d 1012 [.aload_n 0, .getfield 1002, .invokevirtual 804, .ifCond .eq 20, .aload_n 0, .getfield 1002, .getfield 806, .goto 30] 20 ls st μ := run_blk (by decide +kernel) d ls st μ
theorem bk1012_20 (d : Nat) (ls st : List XV) (μ : XM) : run d 1012 20 ls st μ = bx d 1012 [.bipush (-10), .aload_n 0, .getfield 1002, .getfield 806, .isub, .ireturn] 31 ls st μ := run_blk (by decide +kernel) d ls st μ
theorem bk1012_30 (d : Nat) (ls st : List XV) (μ : XM) : run d 1012 30 ls st μ = bx d 1012 [.ireturn] 31 ls st μ := run_blk (by decide +kernel) d ls st μ
theorem bk1013_0 (d : Nat) (ls st : List XV) (μ : XM) : run d 1013 0 ls st μ = bx d 1013 [.iload_n 2, .tableswitch 112 0 2 #[28, 53, 78]] 28 ls st μ := run_blk (by decide +kernel) d ls st μ
theorem bk1013_28 (d : Nat) (ls st : List XV) (μ : XM) : run d 1013 28 ls st μ = bx d 1013 [.aload_n 0, .getfield 1002, .iload_n 1, .invokevirtual 806, .ifCond .eq 51, .aload_n 0, .getfield 1002, .getfield 804, .iload_n 1, .iaload, .goto 52] 51 ls st μ := run_blk (by decide +kernel) d ls st μ
theorem bk1013_51 (d : Nat) (ls st : List XV) (μ : XM) : run d 1013 51 ls st μ = bx d 1013 [.iconst (-1), .ireturn] 53 ls st μ := run_blk (by decide +kernel) d ls st μ
theorem bk1013_52 (d : Nat) (ls st : List XV) (μ : XM) : run d 1013 52 ls st μ = bx d 1013 [.ireturn] 53 ls st μ := run_blk (by decide +kernel) d ls st μ
theorem bk1013_53 (d : Nat) (ls st : List XV) (μ : XM) : run d 1013 53 ls st μ = bx d 1013 [.aload_n 0, .getfield 1002, .iload_n 1, .invokevirtual 806, .ifCond .eq 76, .aload_n 0, .getfield 1002, .getfield 805, .iload_n 1, .iaload, .goto 77] 76 ls st μ := run_blk (by decide +kernel) d ls st μ
theorem bk1013_76 (d : Nat) (ls st : List XV) (μ : XM) : run d 1013 76 ls st μ = bx d 1013 [.iconst (-1), .ireturn] 78 ls st μ := run_blk (by decide +kernel) d ls st μ
theorem bk1013_77 (d : Nat) (ls st : List XV) (μ : XM) : run d 1013 77 ls st μ = bx d 1013 [.ireturn] 78 ls st μ := run_blk (by decide +kernel) d ls st μ
theorem bk1013_78 (d : Nat) (ls st : List XV) (μ : XM) : run d 1013 78 ls st μ = bx d 1013 [.aload_n 0, .getfield 1002, .getfield 807, .ifCond .eq 110, .aload_n 0, .iload_n 1, .invokevirtual 1008, .ifCond .eq 110, .aload_n 0, .getfield 1002, .getfield 803, .iload_n 1, .aaload, .iload_n 1, .iaload, .goto 111] 110 ls st μ := run_blk (by decide +kernel) d ls st μ
theorem bk1013_110 (d : Nat) (ls st : List XV) (μ : XM) : run d 1013 110 ls st μ = bx d 1013 [.iconst (-1), .ireturn] 112 ls st μ := run_blk (by decide +kernel) d ls st μ
theorem bk1013_111 (d : Nat) (ls st : List XV) (μ : XM) : run d 1013 111 ls st μ = bx d 1013 [.ireturn] 112 ls st μ := run_blk (by decide +kernel) d ls st μ
theorem bk1013_112 (d : Nat) (ls st : List XV) (μ : XM) : run d 1013 112 ls st μ = bx d 1013 [.iconst (-1), .ireturn] 114 ls st μ := run_blk (by decide +kernel) d ls st μ
theorem bk1014_0 (d : Nat) (ls st : List XV) (μ : XM) : run d 1014 0 ls st μ = bx d 1014 [.aload_n 0, .getfield 1002, .getfield 807, .ifCond .ne 13, .bipush (-3), .ireturn] 13 ls st μ := run_blk (by decide +kernel) d ls st μ
theorem bk1014_13 (d : Nat) (ls st : List XV) (μ : XM) : run d 1014 13 ls st μ = bx d 1014 [.aload_n 0, .getfield 1002, .invokevirtual 807, .bipush 10, .if_icmp .le 28, .bipush (-4), .ireturn] 28 ls st μ := run_blk (by decide +kernel) d ls st μ
theorem bk1014_28 (d : Nat) (ls st : List XV) (μ : XM) : run d 1014 28 ls st μ = bx d 1014 [.aload_n 0, .getfield 1002, .aload_n 0, .getfield 1003, .invokevirtual 808, .aload_n 0, .getfield 1003, .getfield 602, .ireturn] 47 ls st μ := run_blk (by decide +kernel) d ls st μ
theorem bk1015_0 (d : Nat) (ls st : List XV) (μ : XM) : run d 1015 0 ls st μ = bx d 1015 [.iload_n 1, .ifCond .lt 15, .iload_n 1, .aload_n 0, .getfield 1003, .getfield 602, .if_icmp .lt 17, .iconst (-1), .ireturn] 17 ls st μ := run_blk (by decide +kernel) d ls st μ
theorem bk1015_15 (d : Nat) (ls st : List XV) (μ : XM) : run d 1015 15 ls st μ = bx d 1015 [.iconst (-1), .ireturn] 17 ls st μ := run_blk (by decide +kernel) d ls st μ
theorem bk1015_17 (d : Nat) (ls st : List XV) (μ : XM) : run d 1015 17 ls st μ = bx d 1015 [.iload_n 2, .lookupswitch 64 #[(0, 44), (1, 54)]] 44 ls st μ := run_blk (by decide +kernel) d ls st μ
theorem bk1015_44 (d : Nat) (ls st : List XV) (μ : XM) : run d 1015 44 ls st μ = bx d 1015 [.aload_n 0, .getfield 1003, .getfield 600, .iload_n 1, .iaload, .ireturn] 54 ls st μ := run_blk (by decide +kernel) d ls st μ
theorem bk1015_54 (d : Nat) (ls st : List XV) (μ : XM) : run d 1015 54 ls st μ = bx d 1015 [.aload_n 0, .getfield 1003, .getfield 601, .iload_n 1, .iaload, .ireturn] 64 ls st μ := run_blk (by decide +kernel) d ls st μ
theorem bk1015_64 (d : Nat) (ls st : List XV) (μ : XM) : run d 1015 64 ls st μ = bx d 1015 [.iconst (-1), .ireturn] 66 ls st μ := run_blk (by decide +kernel) d ls st μ
theorem bk1016_0 (d : Nat) (ls st : List XV) (μ : XM) : run d 1016 0 ls st μ = bx d 1016 [.aload_n 0, .getfield 1004, .invokevirtual 101, .ireturn] 8 ls st μ := run_blk (by decide +kernel) d ls st μ
theorem bk1017_0 (d : Nat) (ls st : List XV) (μ : XM) : run d 1017 0 ls st μ = bx d 1017 [.iload_n 3, .iconst 1, .if_icmp .lt 11, .iload_n 3, .bipush 8, .if_icmp .le 14, .bipush (-2), .ireturn] 14 ls st μ := run_blk (by decide +kernel) d ls st μ
theorem bk1017_11 (d : Nat) (ls st : List XV) (μ : XM) : run d 1017 11 ls st μ = bx d 1017 [.bipush (-2), .ireturn] 14 ls st μ := run_blk (by decide +kernel) d ls st μ
theorem bk1017_14 (d : Nat) (ls st : List XV) (μ : XM) : run d 1017 14 ls st μ = bx d 1017 [.aload_n 0, .getfield 1005, .getfield 501, .iload_n 3, .iadd, .bipush 100, .if_icmp .le 31, .bipush (-4), .ireturn] 31 ls st μ := run_blk (by decide +kernel) d ls st μ
theorem bk1017_31 (d : Nat) (ls st : List XV) (μ : XM) : run d 1017 31 ls st μ = bx d 1017 [.iload_n 3, .iconst 1, .isub, .istore 4] 36 ls st μ := run_blk (by decide +kernel) d ls st μ
theorem bk1017_36 (d : Nat) (ls st : List XV) (μ : XM) : run d 1017 36 ls st μ = bx d 1017 [.iload 4, .ifCond .lt 66, .aload_n 0, .getfield 1005, .lload_n 1, .bipush 8, .iload 4, .imul, .lushr, .l2i, .sipush 255, .iand, .invokevirtual 501, .iinc 4 (-1), .goto 36] 66 ls st μ := run_blk (by decide +kernel) d ls st μ
theorem bk1017_66 (d : Nat) (ls st : List XV) (μ : XM) : run d 1017 66 ls st μ = bx d 1017 [.aload_n 0, .getfield 1005, .getfield 501, .ireturn] 74 ls st μ := run_blk (by decide +kernel) d ls st μ
theorem bk1018_0 (d : Nat) (ls st : List XV) (μ : XM) : run d 1018 0 ls st μ = bx d 1018 [.aload_n 0, .getfield 1005, .invokevirtual 502, .istore_n 1, .iload_n 1, .ifCond .eq 14, .iload_n 1, .ireturn] 14 ls st μ := run_blk (by decide +kernel) d ls st μ
theorem bk1018_14 (d : Nat) (ls st : List XV) (μ : XM) : run d 1018 14 ls st μ = bx d 1018 [.aload_n 0, .getfield 1003, .aload_n 0, .getfield 1005, .invokevirtual 514, .invokevirtual 605, .aload_n 0, .getfield 1003, .getfield 602, .ireturn] 36 ls st μ := run_blk (by decide +kernel) d ls st μ
theorem bk1019_0 (d : Nat) (ls st : List XV) (μ : XM) : run d 1019 0 ls st μ = bx d 1019 [.iload_n 1, .iconst 1, .if_icmp .lt 11, .iload_n 1, .bipush 99, .if_icmp .le 14, .bipush (-2), .ireturn] 14 ls st μ := run_blk (by decide +kernel) d ls st μ
theorem bk1019_11 (d : Nat) (ls st : List XV) (μ : XM) : run d 1019 11 ls st μ = bx d 1019 [.bipush (-2), .ireturn] 14 ls st μ := run_blk (by decide +kernel) d ls st μ
theorem bk1019_14 (d : Nat) (ls st : List XV) (μ : XM) : run d 1019 14 ls st μ = bx d 1019 [.aload_n 0, .getfield 1001, .getfield 306, .istore_n 2, .aload_n 0, .getfield 1001, .iload_n 1, .putfield 306, .iload_n 2, .ireturn] 32 ls st μ := run_blk (by decide +kernel) d ls st μ
theorem bk1020_0 (d : Nat) (ls st : List XV) (μ : XM) : run d 1020 0 ls st μ = bx d 1020 [.aload_n 0, .getfield 1001, .iload_n 1, .iload_n 2, .invokevirtual 301, .istore 4, .iload 4, .ifCond .ge 18, .iconst (-1), .ireturn] 18 ls st μ := run_blk (by decide +kernel) d ls st μ
theorem bk1020_18 (d : Nat) (ls st : List XV) (μ : XM) : run d 1020 18 ls st μ = bx d 1020 [.iload_n 3, .invokestatic 1021, .ifCond .ne 28, .bipush (-2), .ireturn] 28 ls st μ := run_blk (by decide +kernel) d ls st μ
theorem bk1020_28 (d : Nat) (ls st : List XV) (μ : XM) : run d 1020 28 ls st μ = bx d 1020 [.aload_n 0, .getfield 1001, .getfield 305, .iload 4, .iaload, .istore 5, .aload_n 0, .getfield 1001, .getfield 305, .iload 4, .iload_n 3, .iastore, .iload 5, .ireturn] 54 ls st μ := run_blk (by decide +kernel) d ls st μ
theorem bk1021_0 (d : Nat) (ls st : List XV) (μ : XM) : run d 1021 0 ls st μ = bx d 1021 [.iload_n 0, .bipush (-8), .if_icmp .lt 16, .iload_n 0, .bipush 8, .if_icmp .gt 16, .iconst 1, .goto 17] 16 ls st μ := run_blk (by decide +kernel) d ls st μ
theorem bk1021_16 (d : Nat) (ls st : List XV) (μ : XM) : run d 1021 16 ls st μ = bx d 1021 [.iconst 0, .freturn] 18 ls st μ := run_blk (by decide +kernel) d ls st μ
theorem bk1021_17 (d : Nat) (ls st : List XV) (μ : XM) : run d 1021 17 ls st μ = bx d 1021 [.freturn] 18 ls st μ := run_blk (by decide +kernel) d ls st μ
theorem bk1022_0 (d : Nat) (ls st : List XV) (μ : XM) : run d 1022 0 ls st μ = bx d 1022 [.lload_n 1, .lconst 0, .lcmp, .ifCond .lt 18, .lload_n 1, .aload_n 0, .getfield 1007, .getfield 702, .lcmp, .ifCond .lt 21, .bipush (-2), .ireturn] 21 ls st μ := run_blk (by decide +kernel) d ls st μ
theorem bk1022_18 (d : Nat) (ls st : List XV) (μ : XM) : run d 1022 18 ls st μ = bx d 1022 [.bipush (-2), .ireturn] 21 ls st μ := run_blk (by decide +kernel) d ls st μ
theorem bk1022_21 (d : Nat) (ls st : List XV) (μ : XM) : run d 1022 21 ls st μ = bx d 1022 [.aload_n 0, .getfield 1007, .getfield 703, .bipush 40, .if_icmp .lt 36, .bipush (-4), .ireturn] 36 ls st μ := run_blk (by decide +kernel) d ls st μ
theorem bk1022_36 (d : Nat) (ls st : List XV) (μ : XM) : run d 1022 36 ls st μ = bx d 1022 [.aload_n 0, .getfield 1007, .lload_n 1, .invokevirtual 701, .ireturn] 45 ls st μ := run_blk (by decide +kernel) d ls st μ
theorem bk1023_0 (d : Nat) (ls st : List XV) (μ : XM) : run d 1023 0 ls st μ = bx d 1023 [.aload_n 0, .getfield 1007, .iload_n 1, .invokevirtual 702, .ifCond .eq 19, .aload_n 0, .iload_n 2, .invokevirtual 1008, .ifCond .ne 21, .iconst (-1), .ireturn] 21 ls st μ := run_blk (by decide +kernel) d ls st μ
theorem bk1023_19 (d : Nat) (ls st : List XV) (μ : XM) : run d 1023 19 ls st μ = bx d 1023 [.iconst (-1), .ireturn] 21 ls st μ := run_blk (by decide +kernel) d ls st μ
theorem bk1023_21 (d : Nat) (ls st : List XV) (μ : XM) : run d 1023 21 ls st μ = bx d 1023 [.aload_n 0, .getfield 1007, .getfield 704, .iload_n 1, .aaload, .iload_n 2, .iaload, .ireturn] 33 ls st μ := run_blk (by decide +kernel) d ls st μ
theorem bk1024_0 (d : Nat) (ls st : List XV) (μ : XM) : run d 1024 0 ls st μ = bx d 1024 [.aload_n 0, .getfield 1007, .iload_n 1, .invokevirtual 702, .ifCond .eq 19, .aload_n 0, .iload_n 2, .invokevirtual 1008, .ifCond .ne 21, .iconst (-1), .ireturn] 21 ls st μ := run_blk (by decide +kernel) d ls st μ
theorem bk1024_19 (d : Nat) (ls st : List XV) (μ : XM) : run d 1024 19 ls st μ = bx d 1024 [.iconst (-1), .ireturn] 21 ls st μ := run_blk (by decide +kernel) d ls st μ
theorem bk1024_21 (d : Nat) (ls st : List XV) (μ : XM) : run d 1024 21 ls st μ = bx d 1024 [.aload_n 0, .getfield 1007, .iload_n 1, .invokevirtual 703, .iload_n 2, .iaload, .ireturn] 32 ls st μ := run_blk (by decide +kernel) d ls st μ
theorem bk1025_0 (d : Nat) (ls st : List XV) (μ : XM) : run d 1025 0 ls st μ = bx d 1025 [.iconst 0, .istore_n 1] 2 ls st μ := run_blk (by decide +kernel) d ls st μ
theorem bk1025_2 (d : Nat) (ls st : List XV) (μ : XM) : run d 1025 2 ls st μ = bx d 1025 [.iload_n 1, .aload_n 0, .getfield 1007, .getfield 703, .if_icmp .ge 32, .aload_n 0, .getfield 1007, .iload_n 1, .invokevirtual 704, .ifCond .ne 26, .iload_n 1, .ireturn] 26 ls st μ := run_blk (by decide +kernel) d ls st μ
theorem bk1025_26 (d : Nat) (ls st : List XV) (μ : XM) : run d 1025 26 ls st μ = bx d 1025 [.iinc 1 1, .goto 2] 32 ls st μ := run_blk (by decide +kernel) d ls st μ
theorem bk1025_32 (d : Nat) (ls st : List XV) (μ : XM) : run d 1025 32 ls st μ = bx d 1025 [.bipush (-5), .ireturn] 35 ls st μ := run_blk (by decide +kernel) d ls st μ
theorem bk1026_0 (d : Nat) (ls st : List XV) (μ : XM) : run d 1026 0 ls st μ = bx d 1026 [.aload_n 0, .getfield 1001, .iload_n 1, .iload_n 2, .invokevirtual 301, .istore 5, .iload 5, .ifCond .ge 18, .iconst (-1), .ireturn] 18 ls st μ := run_blk (by decide +kernel) d ls st μ
theorem bk1026_18 (d : Nat) (ls st : List XV) (μ : XM) : run d 1026 18 ls st μ = bx d 1026 [.iload_n 3, .invokestatic 1021, .ifCond .eq 42, .iload 4, .ifCond .lt 42, .iload 4, .aload_n 0, .getfield 1007, .getfield 703, .if_icmp .le 45, .bipush (-2), .ireturn] 45 ls st μ := run_blk (by decide +kernel) d ls st μ
theorem bk1026_42 (d : Nat) (ls st : List XV) (μ : XM) : run d 1026 42 ls st μ = bx d 1026 [.bipush (-2), .ireturn] 45 ls st μ := run_blk (by decide +kernel) d ls st μ
theorem bk1026_45 (d : Nat) (ls st : List XV) (μ : XM) : run d 1026 45 ls st μ = bx d 1026 [.aload_n 0, .getfield 1006, .invokevirtual 201, .ifCond .eq 58, .bipush (-4), .ireturn] 58 ls st μ := run_blk (by decide +kernel) d ls st μ
theorem bk1026_58 (d : Nat) (ls st : List XV) (μ : XM) : run d 1026 58 ls st μ = bx d 1026 [.aload_n 0, .getfield 1006, .iload 5, .iload_n 3, .iload 4, .invokevirtual 204, .aload_n 0, .getfield 1006, .getfield 200, .ireturn] 78 ls st μ := run_blk (by decide +kernel) d ls st μ
theorem bk1027_0 (d : Nat) (ls st : List XV) (μ : XM) : run d 1027 0 ls st μ = bx d 1027 [.aload_n 0, .getfield 1008, .invokevirtual 401, .aload_n 0, .getfield 1008, .getfield 403, .ireturn] 15 ls st μ := run_blk (by decide +kernel) d ls st μ
theorem bk1028_0 (d : Nat) (ls st : List XV) (μ : XM) : run d 1028 0 ls st μ = bx d 1028 [.aload_n 0, .iload_n 1, .invokevirtual 1008, .ifCond .eq 16, .aload_n 0, .iload_n 2, .invokevirtual 1008, .ifCond .ne 18, .iconst (-1), .ireturn] 18 ls st μ := run_blk (by decide +kernel) d ls st μ
theorem bk1028_16 (d : Nat) (ls st : List XV) (μ : XM) : run d 1028 16 ls st μ = bx d 1028 [.iconst (-1), .ireturn] 18 ls st μ := run_blk (by decide +kernel) d ls st μ
theorem bk1028_18 (d : Nat) (ls st : List XV) (μ : XM) : run d 1028 18 ls st μ = bx d 1028 [.aload_n 0, .getfield 1008, .getfield 402, .ifCond .ne 31, .bipush (-3), .ireturn] 31 ls st μ := run_blk (by decide +kernel) d ls st μ
theorem bk1028_31 (d : Nat) (ls st : List XV) (μ : XM) : run d 1028 31 ls st μ = bx d 1028 [.aload_n 0, .getfield 1008, .getfield 404, .bipush 20, .if_icmp .lt 46, .bipush (-4), .ireturn] 46 ls st μ := run_blk (by decide +kernel) d ls st μ
theorem bk1028_46 (d : Nat) (ls st : List XV) (μ : XM) : run d 1028 46 ls st μ = bx d 1028 [.aload_n 0, .getfield 1008, .iload_n 1, .iload_n 2, .aload_n 0, .getfield 1007, .getfield 703, .invokevirtual 403, .ireturn] 63 ls st μ := run_blk (by decide +kernel) d ls st μ
theorem bk1029_0 (d : Nat) (ls st : List XV) (μ : XM) : run d 1029 0 ls st μ = bx d 1029 [.aload_n 0, .getfield 1008, .getfield 402, .ifCond .ne 13, .bipush (-3), .ireturn] 13 ls st μ := run_blk (by decide +kernel) d ls st μ
theorem bk1029_13 (d : Nat) (ls st : List XV) (μ : XM) : run d 1029 13 ls st μ = bx d 1029 [.iload_n 1, .iconst (-1), .if_icmp .ne 28, .aload_n 0, .getfield 1008, .getfield 405, .goto 36] 28 ls st μ := run_blk (by decide +kernel) d ls st μ
theorem bk1029_28 (d : Nat) (ls st : List XV) (μ : XM) : run d 1029 28 ls st μ = bx d 1029 [.aload_n 0, .getfield 1008, .iload_n 1, .invokevirtual 407, .ireturn] 37 ls st μ := run_blk (by decide +kernel) d ls st μ
theorem bk1029_36 (d : Nat) (ls st : List XV) (μ : XM) : run d 1029 36 ls st μ = bx d 1029 [.ireturn] 37 ls st μ := run_blk (by decide +kernel) d ls st μ
theorem bk1030_0 (d : Nat) (ls st : List XV) (μ : XM) : run d 1030 0 ls st μ = bx d 1030 [.aload_n 0, .getfield 1008, .getfield 402, .ifCond .eq 20, .aload_n 0, .getfield 1008, .getfield 405, .ifCond .ne 23, .bipush (-3), .ireturn] 23 ls st μ := run_blk (by decide +kernel) d ls st μ
theorem bk1030_20 (d : Nat) (ls st : List XV) (μ : XM) : run d 1030 20 ls st μ = bx d 1030 [.bipush (-3), .ireturn] 23 ls st μ := run_blk (by decide +kernel) d ls st μ
theorem bk1030_23 (d : Nat) (ls st : List XV) (μ : XM) : run d 1030 23 ls st μ = bx d 1030 [.aload_n 0, .getfield 1008, .aload_n 0, .getfield 1007, .getfield 703, .invokevirtual 408, .ireturn] 38 ls st μ := run_blk (by decide +kernel) d ls st μ
theorem bk1031_0 (d : Nat) (ls st : List XV) (μ : XM) : run d 1031 0 ls st μ = bx d 1031 [.aload_n 0, .getfield 1001, .iload_n 2, .iload_n 3, .invokevirtual 301, .istore 4, .iload 4, .ifCond .lt 26, .iload_n 1, .iconst (-1), .if_icmp .lt 26, .iload_n 1, .iconst 2, .if_icmp .lt 29, .bipush (-5), .ireturn] 29 ls st μ := run_blk (by decide +kernel) d ls st μ
theorem bk1031_26 (d : Nat) (ls st : List XV) (μ : XM) : run d 1031 26 ls st μ = bx d 1031 [.bipush (-5), .ireturn] 29 ls st μ := run_blk (by decide +kernel) d ls st μ
theorem bk1031_29 (d : Nat) (ls st : List XV) (μ : XM) : run d 1031 29 ls st μ = bx d 1031 [.aload_n 0, .getfield 1009, .getfield 901, .iload 4, .iaload, .istore 5, .iload_n 1, .iconst (-1), .if_icmp .eq 61, .iload 5, .iconst (-1), .if_icmp .eq 61, .iload 5, .iload_n 1, .if_icmp .eq 61, .bipush (-3), .ireturn] 61 ls st μ := run_blk (by decide +kernel) d ls st μ
theorem bk1031_61 (d : Nat) (ls st : List XV) (μ : XM) : run d 1031 61 ls st μ = bx d 1031 [.aload_n 0, .getfield 1009, .getfield 901, .iload 4, .iload_n 1, .iastore, .iload 5, .ireturn] 75 ls st μ := run_blk (by decide +kernel) d ls st μ
theorem bk1032_0 (d : Nat) (ls st : List XV) (μ : XM) : run d 1032 0 ls st μ = bx d 1032 [.iconst 0, .istore_n 1] 2 ls st μ := run_blk (by decide +kernel) d ls st μ
theorem bk1032_2 (d : Nat) (ls st : List XV) (μ : XM) : run d 1032 2 ls st μ = bx d 1032 [.iload_n 1, .aload_n 0, .getfield 1001, .getfield 300, .if_icmp .ge 32, .aload_n 0, .getfield 1009, .iload_n 1, .invokevirtual 901, .ifCond .eq 26, .iload_n 1, .ireturn] 26 ls st μ := run_blk (by decide +kernel) d ls st μ
theorem bk1032_26 (d : Nat) (ls st : List XV) (μ : XM) : run d 1032 26 ls st μ = bx d 1032 [.iinc 1 1, .goto 2] 32 ls st μ := run_blk (by decide +kernel) d ls st μ
theorem bk1032_32 (d : Nat) (ls st : List XV) (μ : XM) : run d 1032 32 ls st μ = bx d 1032 [.bipush (-5), .ireturn] 35 ls st μ := run_blk (by decide +kernel) d ls st μ
theorem bk1033_0 (d : Nat) (ls st : List XV) (μ : XM) : run d 1033 0 ls st μ = bx d 1033 [.iload_n 1, .tableswitch 112 0 7 #[48, 56, 64, 72, 80, 88, 96, 104]] 48 ls st μ := run_blk (by decide +kernel) d ls st μ
theorem bk1033_48 (d : Nat) (ls st : List XV) (μ : XM) : run d 1033 48 ls st μ = bx d 1033 [.aload_n 0, .getfield 1001, .getfield 300, .ireturn] 56 ls st μ := run_blk (by decide +kernel) d ls st μ
theorem bk1033_56 (d : Nat) (ls st : List XV) (μ : XM) : run d 1033 56 ls st μ = bx d 1033 [.aload_n 0, .getfield 1001, .invokevirtual 310, .ireturn] 64 ls st μ := run_blk (by decide +kernel) d ls st μ
theorem bk1033_64 (d : Nat) (ls st : List XV) (μ : XM) : run d 1033 64 ls st μ = bx d 1033 [.aload_n 0, .getfield 1003, .getfield 602, .ireturn] 72 ls st μ := run_blk (by decide +kernel) d ls st μ
theorem bk1033_72 (d : Nat) (ls st : List XV) (μ : XM) : run d 1033 72 ls st μ = bx d 1033 [.aload_n 0, .getfield 1007, .getfield 703, .ireturn] 80 ls st μ := run_blk (by decide +kernel) d ls st μ
theorem bk1033_80 (d : Nat) (ls st : List XV) (μ : XM) : run d 1033 80 ls st μ = bx d 1033 [.aload_n 0, .getfield 1006, .getfield 200, .ireturn] 88 ls st μ := run_blk (by decide +kernel) d ls st μ
theorem bk1033_88 (d : Nat) (ls st : List XV) (μ : XM) : run d 1033 88 ls st μ = bx d 1033 [.aload_n 0, .getfield 1005, .getfield 501, .ireturn] 96 ls st μ := run_blk (by decide +kernel) d ls st μ
theorem bk1033_96 (d : Nat) (ls st : List XV) (μ : XM) : run d 1033 96 ls st μ = bx d 1033 [.aload_n 0, .getfield 1001, .invokevirtual 311, .ireturn] 104 ls st μ := run_blk (by decide +kernel) d ls st μ
theorem bk1033_104 (d : Nat) (ls st : List XV) (μ : XM) : run d 1033 104 ls st μ = bx d 1033 [.aload_n 0, .getfield 1001, .getfield 306, .ireturn] 112 ls st μ := run_blk (by decide +kernel) d ls st μ
theorem bk1033_112 (d : Nat) (ls st : List XV) (μ : XM) : run d 1033 112 ls st μ = bx d 1033 [.iconst (-1), .ireturn] 114 ls st μ := run_blk (by decide +kernel) d ls st μ
theorem bk1100_0 (d : Nat) (ls st : List XV) (μ : XM) : run d 1100 0 ls st μ = bx d 1100 [.aload_n 0, .monitorexit, .aload_n 0, .bipush 96, .newarray .int, .putfield 1101, .aload_n 0, .bipush 96, .newarray .int, .putfield 1102, .aload_n 0, .bipush 72, .newarray .int, .putfield 1103, .aload_n 0, .bipush 72, .newarray .int, .putfield 1104, .aload_n 0, .bipush 72, .newarray .int, .putfield 1105, .aload_n 0, .bipush 72, .newarray .int, .putfield 1106, .aload_n 0, .bipush 99, .putfield 1107, .aload_n 0, .bipush 72, .newarray .int, .putfield 1108, .aload_n 0, .bipush 72, .newarray .int, .putfield 1109, .aload_n 0, .bipush 6, .newarray .int, .putfield 1110, .aload_n 0, .bipush 36, .newarray .int, .putfield 1111, .aload_n 0, .bipush 36, .newarray .int, .putfield 1112, .aload_n 0, .bipush 15, .newarray .int, .putfield 1113, .aload_n 0, .bipush 15, .newarray .int, .putfield 1114, .aload_n 0, .bipush 6, .newarray .int, .putfield 1115, .aload_n 0, .bipush 11, .newarray .int, .putfield 1119, .aload_n 0, .bipush 11, .newarray .int, .putfield 1120, .aload_n 0, .sipush 13312, .newarray .boolean, .putfield 1122, .aload_n 0, .bipush 100, .newarray .int, .putfield 1123, .aload_n 0, .sipush 1300, .newarray .int, .putfield 1124, .aload_n 0, .bipush 100, .newarray .int, .putfield 1125, .aload_n 0, .bipush 100, .newarray .int, .putfield 1126, .aload_n 0, .bipush 66, .newarray .int, .putfield 1127, .aload_n 0, .bipush 6, .newarray .int, .putfield 1128, .aload_n 0, .bipush 6, .newarray .boolean, .putfield 1129, .aload_n 0, .sipush 240, .newarray .int, .putfield 1135, .aload_n 0, .sipush 240, .newarray .int, .putfield 1136, .aload_n 0, .sipush 2880, .newarray .int, .putfield 1137, .aload_n 0, .bipush 60, .newarray .int, .putfield 1138, .aload_n 0, .bipush 60, .newarray .int, .putfield 1139, .aload_n 0, .bipush 60, .newarray .int, .putfield 1140, .aload_n 0, .bipush 72, .newarray .int, .putfield 1144, .aload_n 0, .sipush 289, .newarray .int, .putfield 1145, .aload_n 0, .sipush 289, .newarray .boolean, .putfield 1146, .aload_n 0, .bipush 97, .newarray .int, .putfield 1151, .iload_n 1, .iconst 5, .irem, .istore_n 2, .aload_n 0, .iload_n 2, .ifCond .ge 304, .iload_n 2, .iconst 5, .iadd, .goto 305] 304 ls st μ := run_blk (by decide +kernel) d ls st μ
theorem bk1100_304 (d : Nat) (ls st : List XV) (μ : XM) : run d 1100 304 ls st μ = bx d 1100 [.iload_n 2, .iconst 2, .iadd, .putfield 1100, .aload_n 0, .getfield 1101, .iconst 0, .iconst 1, .iastore, .iconst 1, .istore_n 3] 319 ls st μ := run_blk (by decide +kernel) d ls st μ
theorem bk1100_305 (d : Nat) (ls st : List XV) (μ : XM) : run d 1100 305 ls st μ = bx d 1100 [.iconst 2, .iadd, .putfield 1100, .aload_n 0, .getfield 1101, .iconst 0, .iconst 1, .iastore, .iconst 1, .istore_n 3] 319 ls st μ := run_blk (by decide +kernel) d ls st μ
theorem bk1100_319 (d : Nat) (ls st : List XV) (μ : XM) : run d 1100 319 ls st μ = bx d 1100 [.iload_n 3, .bipush 96, .if_icmp .ge 395, .aload_n 0, .getfield 1101, .iload_n 3, .aload_n 0, .getfield 1101, .iload_n 3, .iconst 1, .isub, .iaload, .bipush 22, .imul, .aload_n 0, .getfield 1102, .iload_n 3, .iconst 1, .isub, .iaload, .bipush 83, .imul, .isub, .invokestatic 1101, .iastore, .aload_n 0, .getfield 1102, .iload_n 3, .aload_n 0, .getfield 1102, .iload_n 3, .iconst 1, .isub, .iaload, .bipush 22, .imul, .aload_n 0, .getfield 1101, .iload_n 3, .iconst 1, .isub, .iaload, .bipush 83, .imul, .iadd, .invokestatic 1101, .iastore, .iinc 3 1, .goto 319] 395 ls st μ := run_blk (by decide +kernel) d ls st μ
theorem bk1100_395 (d : Nat) (ls st : List XV) (μ : XM) : run d 1100 395 ls st μ = bx d 1100 [.iconst 0, .istore_n 3] 397 ls st μ := run_blk (by decide +kernel) d ls st μ
theorem bk1100_397 (d : Nat) (ls st : List XV) (μ : XM) : run d 1100 397 ls st μ = bx d 1100 [.iload_n 3, .bipush 72, .if_icmp .ge 423, .aload_n 0, .getfield 1104, .iload_n 3, .iconst (-1), .iastore, .aload_n 0, .getfield 1105, .iload_n 3, .iconst (-1), .iastore, .iinc 3 1, .goto 397] 423 ls st μ := run_blk (by decide +kernel) d ls st μ
theorem bk1100_423 (d : Nat) (ls st : List XV) (μ : XM) : run d 1100 423 ls st μ = bx d 1100 [.return_] 424 ls st μ := run_blk (by decide +kernel) d ls st μ
theorem bk1101_0 (d : Nat) (ls st : List XV) (μ : XM) : run d 1101 0 ls st μ = bx d 1101 [.iload_n 0, .bipush 97, .irem, .istore_n 1, .iload_n 1, .ifCond .ge 16, .iload_n 1, .bipush 97, .iadd, .goto 17] 16 ls st μ := run_blk (by decide +kernel) d ls st μ
theorem bk1101_16 (d : Nat) (ls st : List XV) (μ : XM) : run d 1101 16 ls st μ = bx d 1101 [.iload_n 1, .ireturn] 18 ls st μ := run_blk (by decide +kernel) d ls st μ
theorem bk1101_17 (d : Nat) (ls st : List XV) (μ : XM) : run d 1101 17 ls st μ = bx d 1101 [.ireturn] 18 ls st μ := run_blk (by decide +kernel) d ls st μ
theorem bk1102_0 (d : Nat) (ls st : List XV) (μ : XM) : run d 1102 0 ls st μ = bx d 1102 [.iload_n 2, .ifCond .ne 16, .aload_n 0, .getfield 1101, .iload_n 1, .invokestatic 1103, .iaload, .goto 34] 16 ls st μ := run_blk (by decide +kernel) d ls st μ
theorem bk1102_16 (d : Nat) (ls st : List XV) (μ : XM) : run d 1102 16 ls st μ = bx d 1102 [.iload_n 2, .iconst 1, .if_icmp .ne 33, .aload_n 0, .getfield 1102, .iload_n 1, .invokestatic 1103, .iaload, .goto 34] 33 ls st μ := run_blk (by decide +kernel) d ls st μ
theorem bk1102_33 (d : Nat) (ls st : List XV) (μ : XM) : run d 1102 33 ls st μ = bx d 1102 [.iconst (-1), .ireturn] 35 ls st μ := run_blk (by decide +kernel) d ls st μ
theorem bk1102_34 (d : Nat) (ls st : List XV) (μ : XM) : run d 1102 34 ls st μ = bx d 1102 [.ireturn] 35 ls st μ := run_blk (by decide +kernel) d ls st μ
theorem bk1103_0 (d : Nat) (ls st : List XV) (μ : XM) : run d 1103 0 ls st μ = bx d 1103 [.iload_n 0, .bipush 96, .irem, .istore_n 1, .iload_n 1, .ifCond .ge 16, .iload_n 1, .bipush 96, .iadd, .goto 17] 16 ls st μ := run_blk (by decide +kernel) d ls st μ
theorem bk1103_16 (d : Nat) (ls st : List XV) (μ : XM) : run d 1103 16 ls st μ = bx d 1103 [.iload_n 1, .ireturn] 18 ls st μ := run_blk (by decide +kernel) d ls st μ
theorem bk1103_17 (d : Nat) (ls st : List XV) (μ : XM) : run d 1103 17 ls st μ = bx d 1103 [.ireturn] 18 ls st μ := run_blk (by decide +kernel) d ls st μ
theorem bk1104_0 (d : Nat) (ls st : List XV) (μ : XM) : run d 1104 0 ls st μ = bx d 1104 [.aload_n 0, .iload_n 1, .iload_n 2, .invokevirtual 1105, .ifCond .ne 11, .iconst (-1), .ireturn] 11 ls st μ := run_blk (by decide +kernel) d ls st μ
theorem bk1104_11 (d : Nat) (ls st : List XV) (μ : XM) : run d 1104 11 ls st μ = bx d 1104 [.iload_n 3, .i2l, .lconst 0, .jsr_w 95, .invokestatic 1106, .ifCond .ne 26, .bipush (-2), .ireturn] 26 ls st μ := run_blk (by decide +kernel) d ls st μ
theorem bk1104_26 (d : Nat) (ls st : List XV) (μ : XM) : run d 1104 26 ls st μ = bx d 1104 [.aload_n 0, .getfield 1142, .bipush 60, .if_icmp .ne 38, .bipush (-4), .ireturn] 38 ls st μ := run_blk (by decide +kernel) d ls st μ
theorem bk1104_38 (d : Nat) (ls st : List XV) (μ : XM) : run d 1104 38 ls st μ = bx d 1104 [.aload_n 0, .getfield 1103, .bipush 6, .iload_n 1, .imul, .iload_n 2, .iadd, .iaload, .istore 4, .aload_n 0, .getfield 1103, .bipush 6, .iload_n 1, .imul, .iload_n 2, .iadd, .iload_n 3, .iastore, .aload_n 0, .dup, .getfield 1142, .iconst 1, .iadd, .putfield 1142, .iload 4, .ireturn] 76 ls st μ := run_blk (by decide +kernel) d ls st μ
theorem bk1105_0 (d : Nat) (ls st : List XV) (μ : XM) : run d 1105 0 ls st μ = bx d 1105 [.iload_n 1, .i2l, .lconst 0, .jsr_w 11, .invokestatic 1106, .ifCond .eq 41, .iload_n 2, .i2l, .lconst 0, .aload_n 0, .getfield 1100, .iconst 2, .isub, .i2l, .invokestatic 1106, .ifCond .eq 41, .iload_n 2, .iconst 2, .irem, .iload_n 1, .iconst 2, .irem, .if_icmp .ne 41, .iconst 1, .goto 42] 41 ls st μ := run_blk (by decide +kernel) d ls st μ
theorem bk1105_41 (d : Nat) (ls st : List XV) (μ : XM) : run d 1105 41 ls st μ = bx d 1105 [.iconst 0, .freturn] 43 ls st μ := run_blk (by decide +kernel) d ls st μ
theorem bk1105_42 (d : Nat) (ls st : List XV) (μ : XM) : run d 1105 42 ls st μ = bx d 1105 [.freturn] 43 ls st μ := run_blk (by decide +kernel) d ls st μ
theorem bk1106_0 (d : Nat) (ls st : List XV) (μ : XM) : run d 1106 0 ls st μ = bx d 1106 [.lload_n 0, .lload_n 2, .lcmp, .ifCond .lt 17, .lload_n 0, .lload 4, .lcmp, .ifCond .gt 17, .iconst 1, .goto 18] 17 ls st μ := run_blk (by decide +kernel) d ls st μ
theorem bk1106_17 (d : Nat) (ls st : List XV) (μ : XM) : run d 1106 17 ls st μ = bx d 1106 [.iconst 0, .freturn] 19 ls st μ := run_blk (by decide +kernel) d ls st μ
theorem bk1106_18 (d : Nat) (ls st : List XV) (μ : XM) : run d 1106 18 ls st μ = bx d 1106 [.freturn] 19 ls st μ := run_blk (by decide +kernel) d ls st μ
theorem bk1107_0 (d : Nat) (ls st : List XV) (μ : XM) : run d 1107 0 ls st μ = bx d 1107 [.aload_n 0, .iload_n 1, .iload_n 2, .invokevirtual 1105, .ifCond .ne 11, .iconst (-1), .ireturn] 11 ls st μ := run_blk (by decide +kernel) d ls st μ
theorem bk1107_11 (d : Nat) (ls st : List XV) (μ : XM) : run d 1107 11 ls st μ = bx d 1107 [.iload_n 3, .i2l, .lconst 0, .jsr_w 95, .invokestatic 1106, .ifCond .ne 26, .bipush (-2), .ireturn] 26 ls st μ := run_blk (by decide +kernel) d ls st μ
theorem bk1107_26 (d : Nat) (ls st : List XV) (μ : XM) : run d 1107 26 ls st μ = bx d 1107 [.aload_n 0, .getfield 1104, .bipush 6, .iload_n 1, .imul, .iload_n 2, .iadd, .iaload, .ifCond .ge 44, .iconst 1, .goto 45] 44 ls st μ := run_blk (by decide +kernel) d ls st μ
theorem bk1107_44 (d : Nat) (ls st : List XV) (μ : XM) : run d 1107 44 ls st μ = bx d 1107 [.iconst 0, .istore 4, .aload_n 0, .getfield 1104, .bipush 6, .iload_n 1, .imul, .iload_n 2, .iadd, .iload_n 3, .iastore, .iload 4, .ireturn] 62 ls st μ := run_blk (by decide +kernel) d ls st μ
theorem bk1107_45 (d : Nat) (ls st : List XV) (μ : XM) : run d 1107 45 ls st μ = bx d 1107 [.istore 4, .aload_n 0, .getfield 1104, .bipush 6, .iload_n 1, .imul, .iload_n 2, .iadd, .iload_n 3, .iastore, .iload 4, .ireturn] 62 ls st μ := run_blk (by decide +kernel) d ls st μ
theorem bk1108_0 (d : Nat) (ls st : List XV) (μ : XM) : run d 1108 0 ls st μ = bx d 1108 [.aload_n 0, .iload_n 1, .iload_n 2, .invokevirtual 1105, .ifCond .ne 11, .iconst (-1), .ireturn] 11 ls st μ := run_blk (by decide +kernel) d ls st μ
theorem bk1108_11 (d : Nat) (ls st : List XV) (μ : XM) : run d 1108 11 ls st μ = bx d 1108 [.aload_n 0, .getfield 1104, .bipush 6, .iload_n 1, .imul, .iload_n 2, .iadd, .iaload, .istore_n 3, .iload_n 3, .ifCond .ge 30, .bipush (-3), .ireturn] 30 ls st μ := run_blk (by decide +kernel) d ls st μ
theorem bk1108_30 (d : Nat) (ls st : List XV) (μ : XM) : run d 1108 30 ls st μ = bx d 1108 [.aload_n 0, .getfield 1104, .bipush 6, .iload_n 1, .imul, .iload_n 2, .iadd, .iconst (-1), .iastore, .iload_n 3, .ireturn] 44 ls st μ := run_blk (by decide +kernel) d ls st μ
theorem bk1109_0 (d : Nat) (ls st : List XV) (μ : XM) : run d 1109 0 ls st μ = bx d 1109 [.aload_n 0, .iload_n 1, .iload_n 2, .invokevirtual 1105, .ifCond .ne 11, .iconst (-1), .ireturn] 11 ls st μ := run_blk (by decide +kernel) d ls st μ
theorem bk1109_11 (d : Nat) (ls st : List XV) (μ : XM) : run d 1109 11 ls st μ = bx d 1109 [.aload_n 0, .invokevirtual 1110, .bipush 6, .iload_n 1, .imul, .iload_n 2, .iadd, .istore 4, .iload_n 3, .tableswitch 98 0 4 #[60, 68, 76, 83, 90]] 60 ls st μ := run_blk (by decide +kernel) d ls st μ
theorem bk1109_60 (d : Nat) (ls st : List XV) (μ : XM) : run d 1109 60 ls st μ = bx d 1109 [.aload_n 0, .getfield 1103, .iload 4, .iaload, .ireturn] 68 ls st μ := run_blk (by decide +kernel) d ls st μ
theorem bk1109_68 (d : Nat) (ls st : List XV) (μ : XM) : run d 1109 68 ls st μ = bx d 1109 [.aload_n 0, .getfield 1104, .iload 4, .iaload, .ireturn] 76 ls st μ := run_blk (by decide +kernel) d ls st μ
theorem bk1109_76 (d : Nat) (ls st : List XV) (μ : XM) : run d 1109 76 ls st μ = bx d 1109 [.aload_n 0, .iload_n 1, .iload_n 2, .invokevirtual 1111, .ireturn] 83 ls st μ := run_blk (by decide +kernel) d ls st μ
theorem bk1109_83 (d : Nat) (ls st : List XV) (μ : XM) : run d 1109 83 ls st μ = bx d 1109 [.aload_n 0, .iload_n 1, .iload_n 2, .invokevirtual 1113, .ireturn] 90 ls st μ := run_blk (by decide +kernel) d ls st μ
theorem bk1109_90 (d : Nat) (ls st : List XV) (μ : XM) : run d 1109 90 ls st μ = bx d 1109 [.aload_n 0, .getfield 1105, .iload 4, .iaload, .ireturn] 98 ls st μ := run_blk (by decide +kernel) d ls st μ
theorem bk1109_98 (d : Nat) (ls st : List XV) (μ : XM) : run d 1109 98 ls st μ = bx d 1109 [.iconst (-1), .ireturn] 100 ls st μ := run_blk (by decide +kernel) d ls st μ
theorem bk1110_0 (d : Nat) (ls st : List XV) (μ : XM) : run d 1110 0 ls st μ = bx d 1110 [.iconst 0, .istore_n 1] 2 ls st μ := run_blk (by decide +kernel) d ls st μ
theorem bk1110_2 (d : Nat) (ls st : List XV) (μ : XM) : run d 1110 2 ls st μ = bx d 1110 [.iload_n 1, .bipush 72, .if_icmp .ge 38, .aload_n 0, .getfield 1108, .iload_n 1, .aload_n 0, .getfield 1103, .iload_n 1, .iaload, .iastore, .aload_n 0, .getfield 1109, .iload_n 1, .aload_n 0, .getfield 1106, .iload_n 1, .iaload, .iastore, .iinc 1 1, .goto 2] 38 ls st μ := run_blk (by decide +kernel) d ls st μ
theorem bk1110_38 (d : Nat) (ls st : List XV) (μ : XM) : run d 1110 38 ls st μ = bx d 1110 [.return_] 39 ls st μ := run_blk (by decide +kernel) d ls st μ
theorem bk1111_0 (d : Nat) (ls st : List XV) (μ : XM) : run d 1111 0 ls st μ = bx d 1111 [.aload_n 0, .iload_n 1, .iload_n 2, .invokevirtual 1105, .ifCond .ne 11, .iconst 0, .ireturn] 11 ls st μ := run_blk (by decide +kernel) d ls st μ
theorem bk1111_11 (d : Nat) (ls st : List XV) (μ : XM) : run d 1111 11 ls st μ = bx d 1111 [.aload_n 0, .bipush 6, .iload_n 1, .imul, .iload_n 2, .iadd, .invokevirtual 1112, .istore_n 3, .iload_n 3, .bipush 96, .iload_n 3, .isub, .if_icmp .ge 34, .iload_n 3, .goto 38] 34 ls st μ := run_blk (by decide +kernel) d ls st μ
theorem bk1111_34 (d : Nat) (ls st : List XV) (μ : XM) : run d 1111 34 ls st μ = bx d 1111 [.bipush 96, .iload_n 3, .isub, .ireturn] 39 ls st μ := run_blk (by decide +kernel) d ls st μ
theorem bk1111_38 (d : Nat) (ls st : List XV) (μ : XM) : run d 1111 38 ls st μ = bx d 1111 [.ireturn] 39 ls st μ := run_blk (by decide +kernel) d ls st μ
theorem bk1112_0 (d : Nat) (ls st : List XV) (μ : XM) : run d 1112 0 ls st μ = bx d 1112 [.aload_n 0, .getfield 1104, .iload_n 1, .iaload, .ifCond .lt 18, .aload_n 0, .getfield 1104, .iload_n 1, .iaload, .goto 24] 18 ls st μ := run_blk (by decide +kernel) d ls st μ
theorem bk1112_18 (d : Nat) (ls st : List XV) (μ : XM) : run d 1112 18 ls st μ = bx d 1112 [.aload_n 0, .getfield 1108, .iload_n 1, .iaload, .ireturn] 25 ls st μ := run_blk (by decide +kernel) d ls st μ
theorem bk1112_24 (d : Nat) (ls st : List XV) (μ : XM) : run d 1112 24 ls st μ = bx d 1112 [.ireturn] 25 ls st μ := run_blk (by decide +kernel) d ls st μ
theorem bk1113_0 (d : Nat) (ls st : List XV) (μ : XM) : run d 1113 0 ls st μ = bx d 1113 [.bipush 6, .iload_n 1, .imul, .iload_n 2, .iadd, .istore_n 3, .aload_n 0, .getfield 1104, .iload_n 3, .iaload, .ifCond .lt 23, .aload_n 0, .getfield 1104, .iload_n 3, .iaload, .ireturn] 23 ls st μ := run_blk (by decide +kernel) d ls st μ
theorem bk1113_23 (d : Nat) (ls st : List XV) (μ : XM) : run d 1113 23 ls st μ = bx d 1113 [.aload_n 0, .getfield 1108, .iload_n 3, .iaload, .aload_n 0, .iload_n 1, .iload_n 2, .iconst 2, .isub, .invokevirtual 1111, .aload_n 0, .iload_n 1, .iload_n 2, .iconst 2, .iadd, .invokevirtual 1111, .iadd, .aload_n 0, .getfield 1107, .idiv, .iadd, .aload_n 0, .getfield 1109, .iload_n 3, .iaload, .iadd, .invokestatic 1103, .ireturn] 63 ls st μ := run_blk (by decide +kernel) d ls st μ
theorem bk1114_0 (d : Nat) (ls st : List XV) (μ : XM) : run d 1114 0 ls st μ = bx d 1114 [.aload_n 0, .iload_n 1, .invokevirtual 1115, .ifCond .eq 16, .aload_n 0, .iload_n 2, .invokevirtual 1115, .ifCond .ne 18, .iconst (-1), .ireturn] 18 ls st μ := run_blk (by decide +kernel) d ls st μ
theorem bk1114_16 (d : Nat) (ls st : List XV) (μ : XM) : run d 1114 16 ls st μ = bx d 1114 [.iconst (-1), .ireturn] 18 ls st μ := run_blk (by decide +kernel) d ls st μ
theorem bk1114_18 (d : Nat) (ls st : List XV) (μ : XM) : run d 1114 18 ls st μ = bx d 1114 [.aload_n 0, .invokevirtual 1110, .aload_n 0, .iload_n 2, .invokevirtual 1116, .aload_n 0, .iconst 0, .invokevirtual 1117, .aload_n 0, .getfield 1110, .iload_n 1, .iaload, .ireturn] 39 ls st μ := run_blk (by decide +kernel) d ls st μ
theorem bk1115_0 (d : Nat) (ls st : List XV) (μ : XM) : run d 1115 0 ls st μ = bx d 1115 [.iload_n 1, .ifCond .lt 16, .iload_n 1, .aload_n 0, .getfield 1100, .if_icmp .ge 16, .iconst 1, .goto 17] 16 ls st μ := run_blk (by decide +kernel) d ls st μ
theorem bk1115_16 (d : Nat) (ls st : List XV) (μ : XM) : run d 1115 16 ls st μ = bx d 1115 [.iconst 0, .freturn] 18 ls st μ := run_blk (by decide +kernel) d ls st μ
theorem bk1115_17 (d : Nat) (ls st : List XV) (μ : XM) : run d 1115 17 ls st μ = bx d 1115 [.freturn] 18 ls st μ := run_blk (by decide +kernel) d ls st μ
theorem bk1116_0 (d : Nat) (ls st : List XV) (μ : XM) : run d 1116 0 ls st μ = bx d 1116 [.iconst 0, .istore_n 2] 2 ls st μ := run_blk (by decide +kernel) d ls st μ
theorem bk1116_2 (d : Nat) (ls st : List XV) (μ : XM) : run d 1116 2 ls st μ = bx d 1116 [.iload_n 2, .aload_n 0, .getfield 1100, .if_icmp .ge 32, .aload_n 0, .getfield 1110, .iload_n 2, .iload_n 2, .iload_n 1, .if_icmp .ne 24, .iconst 1, .goto 25] 24 ls st μ := run_blk (by decide +kernel) d ls st μ
theorem bk1116_24 (d : Nat) (ls st : List XV) (μ : XM) : run d 1116 24 ls st μ = bx d 1116 [.iconst 0, .iastore, .iinc 2 1, .goto 2] 32 ls st μ := run_blk (by decide +kernel) d ls st μ
theorem bk1116_25 (d : Nat) (ls st : List XV) (μ : XM) : run d 1116 25 ls st μ = bx d 1116 [.iastore, .iinc 2 1, .goto 2] 32 ls st μ := run_blk (by decide +kernel) d ls st μ
theorem bk1116_32 (d : Nat) (ls st : List XV) (μ : XM) : run d 1116 32 ls st μ = bx d 1116 [.return_] 33 ls st μ := run_blk (by decide +kernel) d ls st μ
theorem bk1117_0 (d : Nat) (ls st : List XV) (μ : XM) : run d 1117 0 ls st μ = bx d 1117 [.iconst 0, .istore_n 2] 2 ls st μ := run_blk (by decide +kernel) d ls st μ
theorem bk1117_2 (d : Nat) (ls st : List XV) (μ : XM) : run d 1117 2 ls st μ = bx d 1117 [.iload_n 2, .bipush 12, .if_icmp .ge 62, .iload_n 2, .iconst 2, .irem, .istore_n 3] 12 ls st μ := run_blk (by decide +kernel) d ls st μ
theorem bk1117_12 (d : Nat) (ls st : List XV) (μ : XM) : run d 1117 12 ls st μ = bx d 1117 [.iload_n 3, .aload_n 0, .getfield 1100, .iconst 1, .isub, .if_icmp .ge 56, .aload_n 0, .iload_n 3, .iload_n 1, .ifCond .eq 37, .aload_n 0, .iload_n 2, .iload_n 3, .invokevirtual 1113, .goto 47] 37 ls st μ := run_blk (by decide +kernel) d ls st μ
theorem bk1117_37 (d : Nat) (ls st : List XV) (μ : XM) : run d 1117 37 ls st μ = bx d 1117 [.aload_n 0, .bipush 6, .iload_n 2, .imul, .iload_n 3, .iadd, .invokevirtual 1112, .invokevirtual 1118, .iinc 3 2, .goto 12] 56 ls st μ := run_blk (by decide +kernel) d ls st μ
theorem bk1117_47 (d : Nat) (ls st : List XV) (μ : XM) : run d 1117 47 ls st μ = bx d 1117 [.invokevirtual 1118, .iinc 3 2, .goto 12] 56 ls st μ := run_blk (by decide +kernel) d ls st μ
theorem bk1117_56 (d : Nat) (ls st : List XV) (μ : XM) : run d 1117 56 ls st μ = bx d 1117 [.iinc 2 1, .goto 2] 62 ls st μ := run_blk (by decide +kernel) d ls st μ
theorem bk1117_62 (d : Nat) (ls st : List XV) (μ : XM) : run d 1117 62 ls st μ = bx d 1117 [.return_] 63 ls st μ := run_blk (by decide +kernel) d ls st μ
theorem bk1118_0 (d : Nat) (ls st : List XV) (μ : XM) : run d 1118 0 ls st μ = bx d 1118 [.aload_n 0, .getfield 1110, .iload_n 1, .iaload, .istore_n 3, .aload_n 0, .getfield 1110, .iload_n 1, .iconst 1, .iadd, .iaload, .istore 4, .aload_n 0, .getfield 1110, .iload_n 1, .aload_n 0, .getfield 1101, .iload_n 2, .iaload, .iload_n 3, .imul, .aload_n 0, .getfield 1102, .iload_n 2, .iaload, .iload 4, .imul, .isub, .invokestatic 1101, .iastore, .aload_n 0, .getfield 1110, .iload_n 1, .iconst 1, .iadd, .aload_n 0, .getfield 1102, .iload_n 2, .iaload, .iload_n 3, .imul, .aload_n 0, .getfield 1101, .iload_n 2, .iaload, .iload 4, .imul, .iadd, .invokestatic 1101, .iastore, .return_] 74 ls st μ := run_blk (by decide +kernel) d ls st μ
theorem bk1119_0 (d : Nat) (ls st : List XV) (μ : XM) : run d 1119 0 ls st μ = bx d 1119 [.aload_n 0, .iload_n 1, .invokevirtual 1115, .ifCond .eq 16, .aload_n 0, .iload_n 2, .invokevirtual 1115, .ifCond .ne 18, .iconst (-1), .ireturn] 18 ls st μ := run_blk (by decide +kernel) d ls st μ
theorem bk1119_16 (d : Nat) (ls st : List XV) (μ : XM) : run d 1119 16 ls st μ = bx d 1119 [.iconst (-1), .ireturn] 18 ls st μ := run_blk (by decide +kernel) d ls st μ
theorem bk1119_18 (d : Nat) (ls st : List XV) (μ : XM) : run d 1119 18 ls st μ = bx d 1119 [.iload_n 3, .i2l, .lconst 0, .jsr_w 96, .invokestatic 1106, .ifCond .ne 33, .bipush (-2), .ireturn] 33 ls st μ := run_blk (by decide +kernel) d ls st μ
theorem bk1119_33 (d : Nat) (ls st : List XV) (μ : XM) : run d 1119 33 ls st μ = bx d 1119 [.aload_n 0, .getfield 1111, .bipush 6, .iload_n 1, .imul, .iload_n 2, .iadd, .iaload, .istore 4, .aload_n 0, .getfield 1111, .bipush 6, .iload_n 1, .imul, .iload_n 2, .iadd, .iload_n 3, .iastore, .iload 4, .ireturn] 61 ls st μ := run_blk (by decide +kernel) d ls st μ
theorem bk1120_0 (d : Nat) (ls st : List XV) (μ : XM) : run d 1120 0 ls st μ = bx d 1120 [.iconst 0, .istore_n 1, .iconst 0, .istore_n 2] 4 ls st μ := run_blk (by decide +kernel) d ls st μ
theorem bk1120_4 (d : Nat) (ls st : List XV) (μ : XM) : run d 1120 4 ls st μ = bx d 1120 [.iload_n 2, .aload_n 0, .getfield 1100, .if_icmp .ge 77, .iconst 0, .istore_n 3] 14 ls st μ := run_blk (by decide +kernel) d ls st μ
theorem bk1120_14 (d : Nat) (ls st : List XV) (μ : XM) : run d 1120 14 ls st μ = bx d 1120 [.iload_n 3, .aload_n 0, .getfield 1100, .if_icmp .ge 71, .aload_n 0, .iload_n 3, .iload_n 2, .invokevirtual 1114, .istore 4, .aload_n 0, .getfield 1111, .bipush 6, .iload_n 3, .imul, .iload_n 2, .iadd, .iaload, .iload 4, .if_icmp .eq 50, .iconst 1, .goto 51] 50 ls st μ := run_blk (by decide +kernel) d ls st μ
theorem bk1120_50 (d : Nat) (ls st : List XV) (μ : XM) : run d 1120 50 ls st μ = bx d 1120 [.iload_n 1, .istore_n 1, .aload_n 0, .getfield 1111, .bipush 6, .iload_n 3, .imul, .iload_n 2, .iadd, .iload 4, .iastore, .iinc 3 1, .goto 14] 71 ls st μ := run_blk (by decide +kernel) d ls st μ
theorem bk1120_51 (d : Nat) (ls st : List XV) (μ : XM) : run d 1120 51 ls st μ = bx d 1120 [.istore_n 1, .aload_n 0, .getfield 1111, .bipush 6, .iload_n 3, .imul, .iload_n 2, .iadd, .iload 4, .iastore, .iinc 3 1, .goto 14] 71 ls st μ := run_blk (by decide +kernel) d ls st μ
theorem bk1120_71 (d : Nat) (ls st : List XV) (μ : XM) : run d 1120 71 ls st μ = bx d 1120 [.iinc 2 1, .goto 4] 77 ls st μ := run_blk (by decide +kernel) d ls st μ
theorem bk1120_77 (d : Nat) (ls st : List XV) (μ : XM) : run d 1120 77 ls st μ = bx d 1120 [.iload_n 1, .ireturn] 79 ls st μ := run_blk (by decide +kernel) d ls st μ
theorem bk1121_0 (d : Nat) (ls st : List XV) (μ : XM) : run d 1121 0 ls st μ = bx d 1121 [.iconst 0, .istore_n 1] 2 ls st μ := run_blk (by decide +kernel) d ls st μ
theorem bk1121_2 (d : Nat) (ls st : List XV) (μ : XM) : run d 1121 2 ls st μ = bx d 1121 [.iload_n 1, .aload_n 0, .getfield 1100, .if_icmp .ge 99, .iconst 0, .istore_n 2] 12 ls st μ := run_blk (by decide +kernel) d ls st μ
theorem bk1121_12 (d : Nat) (ls st : List XV) (μ : XM) : run d 1121 12 ls st μ = bx d 1121 [.iload_n 2, .aload_n 0, .getfield 1100, .if_icmp .ge 93, .iconst 0, .istore_n 3, .iconst 0, .istore 4] 25 ls st μ := run_blk (by decide +kernel) d ls st μ
theorem bk1121_25 (d : Nat) (ls st : List XV) (μ : XM) : run d 1121 25 ls st μ = bx d 1121 [.iload 4, .aload_n 0, .getfield 1100, .if_icmp .ge 68, .iload_n 3, .aload_n 0, .getfield 1111, .bipush 6, .iload 4, .imul, .iload_n 1, .iadd, .iaload, .aload_n 0, .getfield 1111, .bipush 6, .iload 4, .imul, .iload_n 2, .iadd, .iaload, .imul, .iadd, .istore_n 3, .iinc 4 1, .goto 25] 68 ls st μ := run_blk (by decide +kernel) d ls st μ
theorem bk1121_68 (d : Nat) (ls st : List XV) (μ : XM) : run d 1121 68 ls st μ = bx d 1121 [.iload_n 3, .bipush 97, .irem, .iload_n 1, .iload_n 2, .if_icmp .ne 81, .iconst 1, .goto 82] 81 ls st μ := run_blk (by decide +kernel) d ls st μ
theorem bk1121_81 (d : Nat) (ls st : List XV) (μ : XM) : run d 1121 81 ls st μ = bx d 1121 [.iconst 0, .if_icmp .eq 87, .iconst 0, .ireturn] 87 ls st μ := run_blk (by decide +kernel) d ls st μ
theorem bk1121_82 (d : Nat) (ls st : List XV) (μ : XM) : run d 1121 82 ls st μ = bx d 1121 [.if_icmp .eq 87, .iconst 0, .ireturn] 87 ls st μ := run_blk (by decide +kernel) d ls st μ
theorem bk1121_87 (d : Nat) (ls st : List XV) (μ : XM) : run d 1121 87 ls st μ = bx d 1121 [.iinc 2 1, .goto 12] 93 ls st μ := run_blk (by decide +kernel) d ls st μ
theorem bk1121_93 (d : Nat) (ls st : List XV) (μ : XM) : run d 1121 93 ls st μ = bx d 1121 [.iinc 1 1, .goto 2] 99 ls st μ := run_blk (by decide +kernel) d ls st μ
theorem bk1121_99 (d : Nat) (ls st : List XV) (μ : XM) : run d 1121 99 ls st μ = bx d 1121 [.iconst 1, .ireturn] 101 ls st μ := run_blk (by decide +kernel) d ls st μ
theorem bk1122_0 (d : Nat) (ls st : List XV) (μ : XM) : run d 1122 0 ls st μ = bx d 1122 [.iconst 0, .istore_n 1] 2 ls st μ := run_blk (by decide +kernel) d ls st μ
theorem bk1122_2 (d : Nat) (ls st : List XV) (μ : XM) : run d 1122 2 ls st μ = bx d 1122 [.iload_n 1, .bipush 36, .if_icmp .ge 26, .aload_n 0, .getfield 1112, .iload_n 1, .aload_n 0, .getfield 1111, .iload_n 1, .iaload, .iastore, .iinc 1 1, .goto 2] 26 ls st μ := run_blk (by decide +kernel) d ls st μ
theorem bk1122_26 (d : Nat) (ls st : List XV) (μ : XM) : run d 1122 26 ls st μ = bx d 1122 [.aload_n 0, .iconst 0, .putfield 1116, .aload_n 0, .iconst 1, .putfield 1117, .aload_n 0, .iconst 0, .putfield 1118, .iconst 0, .istore_n 1] 43 ls st μ := run_blk (by decide +kernel) d ls st μ
theorem bk1122_43 (d : Nat) (ls st : List XV) (μ : XM) : run d 1122 43 ls st μ = bx d 1122 [.iload_n 1, .aload_n 0, .getfield 1100, .iconst 1, .isub, .if_icmp .ge 275, .aload_n 0, .getfield 1100, .iconst 1, .isub, .istore_n 2] 60 ls st μ := run_blk (by decide +kernel) d ls st μ
theorem bk1122_60 (d : Nat) (ls st : List XV) (μ : XM) : run d 1122 60 ls st μ = bx d 1122 [.iload_n 2, .iload_n 1, .if_icmp .le 269, .aload_n 0, .aload_n 0, .getfield 1112, .bipush 6, .iload_n 2, .iconst 1, .isub, .imul, .iload_n 1, .iadd, .iaload, .aload_n 0, .getfield 1112, .bipush 6, .iload_n 2, .imul, .iload_n 1, .iadd, .iaload, .invokevirtual 1123, .istore_n 3, .iload_n 3, .bipush 96, .if_icmp .ne 113, .aload_n 0, .iconst 1, .putfield 1118, .bipush (-10), .aload_n 0, .getfield 1116, .isub, .ireturn] 113 ls st μ := run_blk (by decide +kernel) d ls st μ
theorem bk1122_113 (d : Nat) (ls st : List XV) (μ : XM) : run d 1122 113 ls st μ = bx d 1122 [.iconst 0, .istore 4] 116 ls st μ := run_blk (by decide +kernel) d ls st μ
theorem bk1122_116 (d : Nat) (ls st : List XV) (μ : XM) : run d 1122 116 ls st μ = bx d 1122 [.iload 4, .aload_n 0, .getfield 1100, .if_icmp .ge 231, .aload_n 0, .getfield 1112, .bipush 6, .iload_n 2, .iconst 1, .isub, .imul, .iload 4, .iadd, .iaload, .istore 5, .aload_n 0, .getfield 1112, .bipush 6, .iload_n 2, .imul, .iload 4, .iadd, .iaload, .istore 6, .aload_n 0, .getfield 1112, .bipush 6, .iload_n 2, .iconst 1, .isub, .imul, .iload 4, .iadd, .aload_n 0, .getfield 1101, .iload_n 3, .iaload, .iload 5, .imul, .aload_n 0, .getfield 1102, .iload_n 3, .iaload, .iload 6, .imul, .isub, .invokestatic 1101, .iastore, .aload_n 0, .getfield 1112, .bipush 6, .iload_n 2, .imul, .iload 4, .iadd, .aload_n 0, .getfield 1102, .iload_n 3, .iaload, .iload 5, .imul, .aload_n 0, .getfield 1101, .iload_n 3, .iaload, .iload 6, .imul, .iadd, .invokestatic 1101, .iastore, .iinc 4 1, .goto 116] 231 ls st μ := run_blk (by decide +kernel) d ls st μ
theorem bk1122_231 (d : Nat) (ls st : List XV) (μ : XM) : run d 1122 231 ls st μ = bx d 1122 [.aload_n 0, .getfield 1113, .aload_n 0, .getfield 1116, .iload_n 2, .iconst 1, .isub, .iastore, .aload_n 0, .getfield 1114, .aload_n 0, .getfield 1116, .iload_n 3, .iastore, .aload_n 0, .dup, .getfield 1116, .iconst 1, .iadd, .putfield 1116, .iinc 2 (-1), .goto 60] 269 ls st μ := run_blk (by decide +kernel) d ls st μ
theorem bk1122_269 (d : Nat) (ls st : List XV) (μ : XM) : run d 1122 269 ls st μ = bx d 1122 [.iinc 1 1, .goto 43] 275 ls st μ := run_blk (by decide +kernel) d ls st μ
theorem bk1122_275 (d : Nat) (ls st : List XV) (μ : XM) : run d 1122 275 ls st μ = bx d 1122 [.iconst 0, .istore_n 1] 277 ls st μ := run_blk (by decide +kernel) d ls st μ
theorem bk1122_277 (d : Nat) (ls st : List XV) (μ : XM) : run d 1122 277 ls st μ = bx d 1122 [.iload_n 1, .aload_n 0, .getfield 1100, .if_icmp .ge 306, .aload_n 0, .getfield 1115, .iload_n 1, .aload_n 0, .getfield 1112, .bipush 7, .iload_n 1, .imul, .iaload, .iastore, .iinc 1 1, .goto 277] 306 ls st μ := run_blk (by decide +kernel) d ls st μ
theorem bk1122_306 (d : Nat) (ls st : List XV) (μ : XM) : run d 1122 306 ls st μ = bx d 1122 [.aload_n 0, .getfield 1116, .ireturn] 311 ls st μ := run_blk (by decide +kernel) d ls st μ
theorem bk1123_0 (d : Nat) (ls st : List XV) (μ : XM) : run d 1123 0 ls st μ = bx d 1123 [.iconst 0, .istore_n 3] 2 ls st μ := run_blk (by decide +kernel) d ls st μ
theorem bk1123_2 (d : Nat) (ls st : List XV) (μ : XM) : run d 1123 2 ls st μ = bx d 1123 [.iload_n 3, .bipush 96, .if_icmp .ge 37, .aload_n 0, .getfield 1102, .iload_n 3, .iaload, .iload_n 1, .imul, .aload_n 0, .getfield 1101, .iload_n 3, .iaload, .iload_n 2, .imul, .iadd, .invokestatic 1101, .ifCond .eq 37, .iinc 3 1, .goto 2] 37 ls st μ := run_blk (by decide +kernel) d ls st μ
theorem bk1123_37 (d : Nat) (ls st : List XV) (μ : XM) : run d 1123 37 ls st μ = bx d 1123 [.iload_n 3, .ireturn] 39 ls st μ := run_blk (by decide +kernel) d ls st μ
theorem bk1124_0 (d : Nat) (ls st : List XV) (μ : XM) : run d 1124 0 ls st μ = bx d 1124 [.aload_n 0, .getfield 1117, .ifCond .eq 19, .iload_n 2, .i2l, .lconst 0, .jsr_w 2, .invokestatic 1106, .ifCond .ne 21, .iconst (-1), .ireturn] 21 ls st μ := run_blk (by decide +kernel) d ls st μ
theorem bk1124_19 (d : Nat) (ls st : List XV) (μ : XM) : run d 1124 19 ls st μ = bx d 1124 [.iconst (-1), .ireturn] 21 ls st μ := run_blk (by decide +kernel) d ls st μ
theorem bk1124_21 (d : Nat) (ls st : List XV) (μ : XM) : run d 1124 21 ls st μ = bx d 1124 [.iload_n 2, .iconst 2, .if_icmp .ne 52, .aload_n 0, .getfield 1118, .ifCond .ne 41, .aload_n 0, .iload_n 1, .invokevirtual 1115, .ifCond .ne 45, .iconst (-1), .goto 51] 45 ls st μ := run_blk (by decide +kernel) d ls st μ
theorem bk1124_41 (d : Nat) (ls st : List XV) (μ : XM) : run d 1124 41 ls st μ = bx d 1124 [.iconst (-1), .goto 51] 45 ls st μ := run_blk (by decide +kernel) d ls st μ
theorem bk1124_45 (d : Nat) (ls st : List XV) (μ : XM) : run d 1124 45 ls st μ = bx d 1124 [.aload_n 0, .getfield 1115, .iload_n 1, .iaload, .ireturn] 52 ls st μ := run_blk (by decide +kernel) d ls st μ
theorem bk1124_51 (d : Nat) (ls st : List XV) (μ : XM) : run d 1124 51 ls st μ = bx d 1124 [.ireturn] 52 ls st μ := run_blk (by decide +kernel) d ls st μ
theorem bk1124_52 (d : Nat) (ls st : List XV) (μ : XM) : run d 1124 52 ls st μ = bx d 1124 [.iload_n 1, .i2l, .lconst 0, .aload_n 0, .getfield 1116, .iconst 1, .isub, .i2l, .invokestatic 1106, .ifCond .ne 70, .iconst (-1), .ireturn] 70 ls st μ := run_blk (by decide +kernel) d ls st μ
theorem bk1124_70 (d : Nat) (ls st : List XV) (μ : XM) : run d 1124 70 ls st μ = bx d 1124 [.iload_n 2, .ifCond .ne 83, .aload_n 0, .getfield 1113, .iload_n 1, .iaload, .goto 89] 83 ls st μ := run_blk (by decide +kernel) d ls st μ
theorem bk1124_83 (d : Nat) (ls st : List XV) (μ : XM) : run d 1124 83 ls st μ = bx d 1124 [.aload_n 0, .getfield 1114, .iload_n 1, .iaload, .ireturn] 90 ls st μ := run_blk (by decide +kernel) d ls st μ
theorem bk1124_89 (d : Nat) (ls st : List XV) (μ : XM) : run d 1124 89 ls st μ = bx d 1124 [.ireturn] 90 ls st μ := run_blk (by decide +kernel) d ls st μ
theorem bk1125_0 (d : Nat) (ls st : List XV) (μ : XM) : run d 1125 0 ls st μ = bx d 1125 [.aload_n 0, .getfield 1117, .ifCond .eq 14, .aload_n 0, .getfield 1118, .ifCond .eq 17, .bipush (-3), .ireturn] 17 ls st μ := run_blk (by decide +kernel) d ls st μ
theorem bk1125_14 (d : Nat) (ls st : List XV) (μ : XM) : run d 1125 14 ls st μ = bx d 1125 [.bipush (-3), .ireturn] 17 ls st μ := run_blk (by decide +kernel) d ls st μ
theorem bk1125_17 (d : Nat) (ls st : List XV) (μ : XM) : run d 1125 17 ls st μ = bx d 1125 [.iconst 0, .istore_n 1, .iconst 0, .istore_n 2] 21 ls st μ := run_blk (by decide +kernel) d ls st μ
theorem bk1125_21 (d : Nat) (ls st : List XV) (μ : XM) : run d 1125 21 ls st μ = bx d 1125 [.iload_n 2, .aload_n 0, .getfield 1116, .if_icmp .ge 52, .iload_n 1, .aload_n 0, .getfield 1114, .iload_n 2, .iaload, .ifCond .le 43, .iconst 1, .goto 44] 43 ls st μ := run_blk (by decide +kernel) d ls st μ
theorem bk1125_43 (d : Nat) (ls st : List XV) (μ : XM) : run d 1125 43 ls st μ = bx d 1125 [.iconst 0, .iadd, .istore_n 1, .iinc 2 1, .goto 21] 52 ls st μ := run_blk (by decide +kernel) d ls st μ
theorem bk1125_44 (d : Nat) (ls st : List XV) (μ : XM) : run d 1125 44 ls st μ = bx d 1125 [.iadd, .istore_n 1, .iinc 2 1, .goto 21] 52 ls st μ := run_blk (by decide +kernel) d ls st μ
theorem bk1125_52 (d : Nat) (ls st : List XV) (μ : XM) : run d 1125 52 ls st μ = bx d 1125 [.iload_n 1, .bipush 10, .if_icmp .le 61, .bipush (-4), .ireturn] 61 ls st μ := run_blk (by decide +kernel) d ls st μ
theorem bk1125_61 (d : Nat) (ls st : List XV) (μ : XM) : run d 1125 61 ls st μ = bx d 1125 [.aload_n 0, .iconst 0, .putfield 1121, .aload_n 0, .getfield 1116, .iconst 1, .isub, .istore_n 2] 73 ls st μ := run_blk (by decide +kernel) d ls st μ
theorem bk1125_73 (d : Nat) (ls st : List XV) (μ : XM) : run d 1125 73 ls st μ = bx d 1125 [.iload_n 2, .ifCond .lt 138, .aload_n 0, .getfield 1114, .iload_n 2, .iaload, .ifCond .ne 89, .goto 132] 89 ls st μ := run_blk (by decide +kernel) d ls st μ
theorem bk1125_89 (d : Nat) (ls st : List XV) (μ : XM) : run d 1125 89 ls st μ = bx d 1125 [.aload_n 0, .getfield 1119, .aload_n 0, .getfield 1121, .aload_n 0, .getfield 1113, .iload_n 2, .iaload, .iastore, .aload_n 0, .getfield 1120, .aload_n 0, .getfield 1121, .bipush 96, .aload_n 0, .getfield 1114, .iload_n 2, .iaload, .isub, .iastore, .aload_n 0, .dup, .getfield 1121, .iconst 1, .iadd, .putfield 1121, .iinc 2 (-1), .goto 73] 138 ls st μ := run_blk (by decide +kernel) d ls st μ
theorem bk1125_132 (d : Nat) (ls st : List XV) (μ : XM) : run d 1125 132 ls st μ = bx d 1125 [.iinc 2 (-1), .goto 73] 138 ls st μ := run_blk (by decide +kernel) d ls st μ
theorem bk1125_138 (d : Nat) (ls st : List XV) (μ : XM) : run d 1125 138 ls st μ = bx d 1125 [.aload_n 0, .getfield 1121, .ireturn] 143 ls st μ := run_blk (by decide +kernel) d ls st μ
theorem bk1126_0 (d : Nat) (ls st : List XV) (μ : XM) : run d 1126 0 ls st μ = bx d 1126 [.iload_n 1, .i2l, .lconst 0, .aload_n 0, .getfield 1121, .iconst 1, .isub, .i2l, .invokestatic 1106, .ifCond .ne 20, .iconst (-1), .goto 48] 20 ls st μ := run_blk (by decide +kernel) d ls st μ
theorem bk1126_20 (d : Nat) (ls st : List XV) (μ : XM) : run d 1126 20 ls st μ = bx d 1126 [.iload_n 2, .ifCond .ne 33, .aload_n 0, .getfield 1119, .iload_n 1, .iaload, .goto 48] 33 ls st μ := run_blk (by decide +kernel) d ls st μ
theorem bk1126_33 (d : Nat) (ls st : List XV) (μ : XM) : run d 1126 33 ls st μ = bx d 1126 [.iload_n 2, .iconst 1, .if_icmp .ne 47, .aload_n 0, .getfield 1120, .iload_n 1, .iaload, .goto 48] 47 ls st μ := run_blk (by decide +kernel) d ls st μ
theorem bk1126_47 (d : Nat) (ls st : List XV) (μ : XM) : run d 1126 47 ls st μ = bx d 1126 [.iconst (-1), .ireturn] 49 ls st μ := run_blk (by decide +kernel) d ls st μ
theorem bk1126_48 (d : Nat) (ls st : List XV) (μ : XM) : run d 1126 48 ls st μ = bx d 1126 [.ireturn] 49 ls st μ := run_blk (by decide +kernel) d ls st μ
theorem bk1127_0 (d : Nat) (ls st : List XV) (μ : XM) : run d 1127 0 ls st μ = bx d 1127 [.bipush 12, .istore_n 1] 3 ls st μ := run_blk (by decide +kernel) d ls st μ
theorem bk1127_3 (d : Nat) (ls st : List XV) (μ : XM) : run d 1127 3 ls st μ = bx d 1127 [.iload_n 1, .ifCond .le 23, .aload_n 0, .iload_n 1, .iconst 1, .isub, .invokevirtual 1128, .ifCond .eq 23, .iinc 1 (-1), .goto 3] 23 ls st μ := run_blk (by decide +kernel) d ls st μ
theorem bk1127_23 (d : Nat) (ls st : List XV) (μ : XM) : run d 1127 23 ls st μ = bx d 1127 [.iload_n 1, .istore_n 2, .iconst 0, .istore_n 3] 27 ls st μ := run_blk (by decide +kernel) d ls st μ
theorem bk1127_27 (d : Nat) (ls st : List XV) (μ : XM) : run d 1127 27 ls st μ = bx d 1127 [.iload_n 2, .bipush 12, .if_icmp .gt 64, .iload_n 3, .ifCond .ne 64, .aload_n 0, .iload_n 2, .invokevirtual 1129, .aload_n 0, .getfield 1122, .iconst 0, .baload, .istore_n 3, .iload_n 2, .iload_n 3, .ifCond .eq 58, .iconst 0, .goto 59] 58 ls st μ := run_blk (by decide +kernel) d ls st μ
theorem bk1127_58 (d : Nat) (ls st : List XV) (μ : XM) : run d 1127 58 ls st μ = bx d 1127 [.iconst 1, .iadd, .istore_n 2, .goto 27] 64 ls st μ := run_blk (by decide +kernel) d ls st μ
theorem bk1127_59 (d : Nat) (ls st : List XV) (μ : XM) : run d 1127 59 ls st μ = bx d 1127 [.iadd, .istore_n 2, .goto 27] 64 ls st μ := run_blk (by decide +kernel) d ls st μ
theorem bk1127_64 (d : Nat) (ls st : List XV) (μ : XM) : run d 1127 64 ls st μ = bx d 1127 [.iload_n 3, .ifCond .ne 71, .bipush (-5), .ireturn] 71 ls st μ := run_blk (by decide +kernel) d ls st μ
theorem bk1127_71 (d : Nat) (ls st : List XV) (μ : XM) : run d 1127 71 ls st μ = bx d 1127 [.iconst 0, .istore 4] 74 ls st μ := run_blk (by decide +kernel) d ls st μ
theorem bk1127_74 (d : Nat) (ls st : List XV) (μ : XM) : run d 1127 74 ls st μ = bx d 1127 [.iload 4, .bipush 72, .if_icmp .ge 115, .aload_n 0, .getfield 1103, .iload 4, .aload_n 0, .getfield 1104, .iload 4, .iaload, .ifCond .ge 101, .iconst 0, .goto 108] 101 ls st μ := run_blk (by decide +kernel) d ls st μ
theorem bk1127_101 (d : Nat) (ls st : List XV) (μ : XM) : run d 1127 101 ls st μ = bx d 1127 [.aload_n 0, .getfield 1103, .iload 4, .iaload, .iastore, .iinc 4 1, .goto 74] 115 ls st μ := run_blk (by decide +kernel) d ls st μ
theorem bk1127_108 (d : Nat) (ls st : List XV) (μ : XM) : run d 1127 108 ls st μ = bx d 1127 [.iastore, .iinc 4 1, .goto 74] 115 ls st μ := run_blk (by decide +kernel) d ls st μ
theorem bk1127_115 (d : Nat) (ls st : List XV) (μ : XM) : run d 1127 115 ls st μ = bx d 1127 [.iconst 0, .istore 4, .iconst 0, .istore 5] 121 ls st μ := run_blk (by decide +kernel) d ls st μ
theorem bk1127_121 (d : Nat) (ls st : List XV) (μ : XM) : run d 1127 121 ls st μ = bx d 1127 [.iload 5, .iload_n 2, .if_icmp .ge 274, .iconst 1, .aload_n 0, .getfield 1121, .ishl, .iconst 1, .isub, .iload 4, .iconst (-1), .ixor, .iand, .istore 6, .iload 6, .istore 7] 146 ls st μ := run_blk (by decide +kernel) d ls st μ
theorem bk1127_146 (d : Nat) (ls st : List XV) (μ : XM) : run d 1127 146 ls st μ = bx d 1127 [.aload_n 0, .getfield 1122, .sipush 1024, .iload 5, .iconst 1, .iadd, .imul, .iload 4, .iload 7, .ior, .iadd, .baload, .ifCond .eq 181, .aload_n 0, .iload 5, .iload 7, .iload 4, .invokevirtual 1130, .ifCond .ne 193, .iload 7, .iconst 1, .isub, .iload 6, .iand, .istore 7, .goto 146] 193 ls st μ := run_blk (by decide +kernel) d ls st μ
theorem bk1127_181 (d : Nat) (ls st : List XV) (μ : XM) : run d 1127 181 ls st μ = bx d 1127 [.iload 7, .iconst 1, .isub, .iload 6, .iand, .istore 7, .goto 146] 193 ls st μ := run_blk (by decide +kernel) d ls st μ
theorem bk1127_193 (d : Nat) (ls st : List XV) (μ : XM) : run d 1127 193 ls st μ = bx d 1127 [.iconst 0, .istore 8] 196 ls st μ := run_blk (by decide +kernel) d ls st μ
theorem bk1127_196 (d : Nat) (ls st : List XV) (μ : XM) : run d 1127 196 ls st μ = bx d 1127 [.iload 8, .aload_n 0, .getfield 1121, .if_icmp .ge 261, .bipush 6, .iload 5, .imul, .aload_n 0, .getfield 1119, .iload 8, .iaload, .iadd, .istore 9, .iload 7, .iload 8, .ishr, .iconst 1, .iand, .iconst 1, .if_icmp .ne 255, .aload_n 0, .getfield 1104, .iload 9, .iaload, .ifCond .ge 255, .aload_n 0, .getfield 1103, .iload 9, .aload_n 0, .getfield 1120, .iload 8, .iaload, .iastore, .iinc 8 1, .goto 196] 261 ls st μ := run_blk (by decide +kernel) d ls st μ
end
section
theorem bk1127_255 (d : Nat) (ls st : List XV) (μ : XM) : run d 1127 255 ls st μ = bx d 1127 [.iinc 8 1, .goto 196] 261 ls st μ := run_blk (by decide +kernel) d ls st μ
theorem bk1127_261 (d : Nat) (ls st : List XV) (μ : XM) : run d 1127 261 ls st μ = bx d 1127 [.iload 4, .iload 7, .ior, .istore 4, .iinc 5 1, .goto 121] 274 ls st μ := run_blk (by decide +kernel) d ls st μ
theorem bk1127_274 (d : Nat) (ls st : List XV) (μ : XM) : run d 1127 274 ls st μ = bx d 1127 [.iload_n 2, .ireturn] 276 ls st μ := run_blk (by decide +kernel) d ls st μ
theorem bk1128_0 (d : Nat) (ls st : List XV) (μ : XM) : run d 1128 0 ls st μ = bx d 1128 [.iconst 1, .istore_n 2, .iconst 0, .istore_n 3] 4 ls st μ := run_blk (by decide +kernel) d ls st μ
theorem bk1128_4 (d : Nat) (ls st : List XV) (μ : XM) : run d 1128 4 ls st μ = bx d 1128 [.iload_n 3, .aload_n 0, .getfield 1100, .iconst 1, .isub, .if_icmp .ge 53, .iload_n 2, .ifCond .eq 45, .aload_n 0, .iload_n 1, .iload_n 3, .invokevirtual 1105, .ifCond .eq 41, .aload_n 0, .getfield 1104, .bipush 6, .iload_n 1, .imul, .iload_n 3, .iadd, .iaload, .ifCond .gt 45, .iconst 1, .goto 46] 45 ls st μ := run_blk (by decide +kernel) d ls st μ
theorem bk1128_41 (d : Nat) (ls st : List XV) (μ : XM) : run d 1128 41 ls st μ = bx d 1128 [.iconst 1, .goto 46] 45 ls st μ := run_blk (by decide +kernel) d ls st μ
theorem bk1128_45 (d : Nat) (ls st : List XV) (μ : XM) : run d 1128 45 ls st μ = bx d 1128 [.iconst 0, .istore_n 2, .iinc 3 1, .goto 4] 53 ls st μ := run_blk (by decide +kernel) d ls st μ
theorem bk1128_46 (d : Nat) (ls st : List XV) (μ : XM) : run d 1128 46 ls st μ = bx d 1128 [.istore_n 2, .iinc 3 1, .goto 4] 53 ls st μ := run_blk (by decide +kernel) d ls st μ
theorem bk1128_53 (d : Nat) (ls st : List XV) (μ : XM) : run d 1128 53 ls st μ = bx d 1128 [.iload_n 2, .freturn] 55 ls st μ := run_blk (by decide +kernel) d ls st μ
theorem bk1129_0 (d : Nat) (ls st : List XV) (μ : XM) : run d 1129 0 ls st μ = bx d 1129 [.iconst 1, .aload_n 0, .getfield 1121, .ishl, .iconst 1, .isub, .istore_n 2, .iconst 0, .istore_n 3] 11 ls st μ := run_blk (by decide +kernel) d ls st μ
theorem bk1129_11 (d : Nat) (ls st : List XV) (μ : XM) : run d 1129 11 ls st μ = bx d 1129 [.iload_n 3, .iload_n 2, .if_icmp .gt 44, .aload_n 0, .getfield 1122, .sipush 1024, .iload_n 1, .imul, .iload_n 3, .iadd, .iload_n 3, .iload_n 2, .if_icmp .ne 36, .iconst 1, .goto 37] 36 ls st μ := run_blk (by decide +kernel) d ls st μ
theorem bk1129_36 (d : Nat) (ls st : List XV) (μ : XM) : run d 1129 36 ls st μ = bx d 1129 [.iconst 0, .bastore, .iinc 3 1, .goto 11] 44 ls st μ := run_blk (by decide +kernel) d ls st μ
theorem bk1129_37 (d : Nat) (ls st : List XV) (μ : XM) : run d 1129 37 ls st μ = bx d 1129 [.bastore, .iinc 3 1, .goto 11] 44 ls st μ := run_blk (by decide +kernel) d ls st μ
theorem bk1129_44 (d : Nat) (ls st : List XV) (μ : XM) : run d 1129 44 ls st μ = bx d 1129 [.iload_n 1, .iconst 1, .isub, .istore_n 3] 48 ls st μ := run_blk (by decide +kernel) d ls st μ
theorem bk1129_48 (d : Nat) (ls st : List XV) (μ : XM) : run d 1129 48 ls st μ = bx d 1129 [.iload_n 3, .ifCond .lt 180, .iconst 0, .istore 4] 55 ls st μ := run_blk (by decide +kernel) d ls st μ
theorem bk1129_55 (d : Nat) (ls st : List XV) (μ : XM) : run d 1129 55 ls st μ = bx d 1129 [.iload 4, .iload_n 2, .if_icmp .gt 174, .iload_n 2, .iload 4, .iconst (-1), .ixor, .iand, .istore 5, .iconst 0, .istore 6, .iload 5, .istore 7, .iconst 1, .istore 8] 79 ls st μ := run_blk (by decide +kernel) d ls st μ
theorem bk1129_79 (d : Nat) (ls st : List XV) (μ : XM) : run d 1129 79 ls st μ = bx d 1129 [.iload 8, .ifCond .eq 153, .iload 6, .ifCond .ne 153, .aload_n 0, .getfield 1122, .sipush 1024, .iload_n 3, .iconst 1, .iadd, .imul, .iload 4, .iload 7, .ior, .iadd, .baload, .ifCond .eq 126, .aload_n 0, .iload_n 3, .iload 7, .iload 4, .invokevirtual 1130, .ifCond .eq 126, .iconst 1, .goto 127] 126 ls st μ := run_blk (by decide +kernel) d ls st μ
theorem bk1129_126 (d : Nat) (ls st : List XV) (μ : XM) : run d 1129 126 ls st μ = bx d 1129 [.iconst 0, .istore 6, .iload 7, .ifCond .le 138, .iconst 1, .goto 139] 138 ls st μ := run_blk (by decide +kernel) d ls st μ
theorem bk1129_127 (d : Nat) (ls st : List XV) (μ : XM) : run d 1129 127 ls st μ = bx d 1129 [.istore 6, .iload 7, .ifCond .le 138, .iconst 1, .goto 139] 138 ls st μ := run_blk (by decide +kernel) d ls st μ
theorem bk1129_138 (d : Nat) (ls st : List XV) (μ : XM) : run d 1129 138 ls st μ = bx d 1129 [.iconst 0, .istore 8, .iload 7, .iconst 1, .isub, .iload 5, .iand, .istore 7, .goto 79] 153 ls st μ := run_blk (by decide +kernel) d ls st μ
theorem bk1129_139 (d : Nat) (ls st : List XV) (μ : XM) : run d 1129 139 ls st μ = bx d 1129 [.istore 8, .iload 7, .iconst 1, .isub, .iload 5, .iand, .istore 7, .goto 79] 153 ls st μ := run_blk (by decide +kernel) d ls st μ
theorem bk1129_153 (d : Nat) (ls st : List XV) (μ : XM) : run d 1129 153 ls st μ = bx d 1129 [.aload_n 0, .getfield 1122, .sipush 1024, .iload_n 3, .imul, .iload 4, .iadd, .iload 6, .bastore, .iinc 4 1, .goto 55] 174 ls st μ := run_blk (by decide +kernel) d ls st μ
theorem bk1129_174 (d : Nat) (ls st : List XV) (μ : XM) : run d 1129 174 ls st μ = bx d 1129 [.iinc 3 (-1), .goto 48] 180 ls st μ := run_blk (by decide +kernel) d ls st μ
theorem bk1129_180 (d : Nat) (ls st : List XV) (μ : XM) : run d 1129 180 ls st μ = bx d 1129 [.return_] 181 ls st μ := run_blk (by decide +kernel) d ls st μ
theorem bk1130_0 (d : Nat) (ls st : List XV) (μ : XM) : run d 1130 0 ls st μ = bx d 1130 [.iload_n 2, .iload_n 3, .iand, .ifCond .eq 8, .iconst 0, .freturn] 8 ls st μ := run_blk (by decide +kernel) d ls st μ
theorem bk1130_8 (d : Nat) (ls st : List XV) (μ : XM) : run d 1130 8 ls st μ = bx d 1130 [.iconst 0, .istore 4] 11 ls st μ := run_blk (by decide +kernel) d ls st μ
theorem bk1130_11 (d : Nat) (ls st : List XV) (μ : XM) : run d 1130 11 ls st μ = bx d 1130 [.iload 4, .aload_n 0, .getfield 1121, .if_icmp .ge 136, .iload_n 2, .iload 4, .ishr, .iconst 1, .iand, .ifCond .ne 32, .goto 130] 32 ls st μ := run_blk (by decide +kernel) d ls st μ
theorem bk1130_32 (d : Nat) (ls st : List XV) (μ : XM) : run d 1130 32 ls st μ = bx d 1130 [.aload_n 0, .iload_n 1, .aload_n 0, .getfield 1119, .iload 4, .iaload, .invokevirtual 1105, .ifCond .ne 49, .iconst 0, .freturn] 49 ls st μ := run_blk (by decide +kernel) d ls st μ
theorem bk1130_49 (d : Nat) (ls st : List XV) (μ : XM) : run d 1130 49 ls st μ = bx d 1130 [.bipush 6, .iload_n 1, .imul, .aload_n 0, .getfield 1119, .iload 4, .iaload, .iadd, .istore 5, .aload_n 0, .getfield 1104, .iload 5, .iaload, .ifCond .lt 92, .aload_n 0, .getfield 1104, .iload 5, .iaload, .aload_n 0, .getfield 1120, .iload 4, .iaload, .if_icmp .eq 92, .iconst 0, .freturn] 92 ls st μ := run_blk (by decide +kernel) d ls st μ
theorem bk1130_92 (d : Nat) (ls st : List XV) (μ : XM) : run d 1130 92 ls st μ = bx d 1130 [.iconst 0, .istore 6] 95 ls st μ := run_blk (by decide +kernel) d ls st μ
theorem bk1130_95 (d : Nat) (ls st : List XV) (μ : XM) : run d 1130 95 ls st μ = bx d 1130 [.iload 6, .iload 4, .if_icmp .ge 130, .aload_n 0, .iload 6, .iload 4, .invokevirtual 1131, .ifCond .eq 124, .iload_n 3, .iload 6, .ishr, .iconst 1, .iand, .ifCond .ne 124, .iconst 0, .freturn] 124 ls st μ := run_blk (by decide +kernel) d ls st μ
theorem bk1130_124 (d : Nat) (ls st : List XV) (μ : XM) : run d 1130 124 ls st μ = bx d 1130 [.iinc 6 1, .goto 95] 130 ls st μ := run_blk (by decide +kernel) d ls st μ
theorem bk1130_130 (d : Nat) (ls st : List XV) (μ : XM) : run d 1130 130 ls st μ = bx d 1130 [.iinc 4 1, .goto 11] 136 ls st μ := run_blk (by decide +kernel) d ls st μ
theorem bk1130_136 (d : Nat) (ls st : List XV) (μ : XM) : run d 1130 136 ls st μ = bx d 1130 [.iconst 0, .istore 4] 139 ls st μ := run_blk (by decide +kernel) d ls st μ
theorem bk1130_139 (d : Nat) (ls st : List XV) (μ : XM) : run d 1130 139 ls st μ = bx d 1130 [.iload 4, .aload_n 0, .getfield 1100, .iconst 1, .isub, .if_icmp .ge 246, .aload_n 0, .iload_n 1, .iload 4, .invokevirtual 1105, .ifCond .eq 240, .aload_n 0, .getfield 1104, .bipush 6, .iload_n 1, .imul, .iload 4, .iadd, .iaload, .ifCond .gt 178, .goto 240] 178 ls st μ := run_blk (by decide +kernel) d ls st μ
theorem bk1130_178 (d : Nat) (ls st : List XV) (μ : XM) : run d 1130 178 ls st μ = bx d 1130 [.iconst 0, .istore 5, .iconst 0, .istore 6] 184 ls st μ := run_blk (by decide +kernel) d ls st μ
theorem bk1130_184 (d : Nat) (ls st : List XV) (μ : XM) : run d 1130 184 ls st μ = bx d 1130 [.iload 6, .aload_n 0, .getfield 1121, .if_icmp .ge 233, .iload 5, .ifCond .ne 220, .iload_n 2, .iload 6, .ishr, .iconst 1, .iand, .iconst 1, .if_icmp .ne 224, .aload_n 0, .getfield 1119, .iload 6, .iaload, .iload 4, .if_icmp .ne 224, .iconst 1, .goto 225] 224 ls st μ := run_blk (by decide +kernel) d ls st μ
theorem bk1130_220 (d : Nat) (ls st : List XV) (μ : XM) : run d 1130 220 ls st μ = bx d 1130 [.iconst 1, .goto 225] 224 ls st μ := run_blk (by decide +kernel) d ls st μ
theorem bk1130_224 (d : Nat) (ls st : List XV) (μ : XM) : run d 1130 224 ls st μ = bx d 1130 [.iconst 0, .istore 5, .iinc 6 1, .goto 184] 233 ls st μ := run_blk (by decide +kernel) d ls st μ
theorem bk1130_225 (d : Nat) (ls st : List XV) (μ : XM) : run d 1130 225 ls st μ = bx d 1130 [.istore 5, .iinc 6 1, .goto 184] 233 ls st μ := run_blk (by decide +kernel) d ls st μ
theorem bk1130_233 (d : Nat) (ls st : List XV) (μ : XM) : run d 1130 233 ls st μ = bx d 1130 [.iload 5, .ifCond .ne 240, .iconst 0, .freturn] 240 ls st μ := run_blk (by decide +kernel) d ls st μ
theorem bk1130_240 (d : Nat) (ls st : List XV) (μ : XM) : run d 1130 240 ls st μ = bx d 1130 [.iinc 4 1, .goto 139] 246 ls st μ := run_blk (by decide +kernel) d ls st μ
theorem bk1130_246 (d : Nat) (ls st : List XV) (μ : XM) : run d 1130 246 ls st μ = bx d 1130 [.iconst 1, .freturn] 248 ls st μ := run_blk (by decide +kernel) d ls st μ
theorem bk1131_0 (d : Nat) (ls st : List XV) (μ : XM) : run d 1131 0 ls st μ = bx d 1131 [.aload_n 0, .getfield 1119, .iload_n 1, .iaload, .aload_n 0, .getfield 1119, .iload_n 2, .iaload, .isub, .i2l, .jsr_w (-1), .lconst 1, .invokestatic 1106, .freturn] 22 ls st μ := run_blk (by decide +kernel) d ls st μ
theorem bk1132_0 (d : Nat) (ls st : List XV) (μ : XM) : run d 1132 0 ls st μ = bx d 1132 [.iload_n 3, .i2l, .lconst 1, .jsr_w 8, .invokestatic 1106, .ifCond .ne 15, .bipush (-2), .ireturn] 15 ls st μ := run_blk (by decide +kernel) d ls st μ
theorem bk1132_15 (d : Nat) (ls st : List XV) (μ : XM) : run d 1132 15 ls st μ = bx d 1132 [.aload_n 0, .getfield 1130, .iload_n 3, .iadd, .bipush 100, .if_icmp .le 29, .bipush (-4), .ireturn] 29 ls st μ := run_blk (by decide +kernel) d ls st μ
theorem bk1132_29 (d : Nat) (ls st : List XV) (μ : XM) : run d 1132 29 ls st μ = bx d 1132 [.iload_n 3, .iconst 1, .isub, .istore 4] 34 ls st μ := run_blk (by decide +kernel) d ls st μ
theorem bk1132_34 (d : Nat) (ls st : List XV) (μ : XM) : run d 1132 34 ls st μ = bx d 1132 [.iload 4, .ifCond .lt 76, .aload_n 0, .getfield 1123, .aload_n 0, .getfield 1130, .lload_n 1, .bipush 8, .iload 4, .imul, .lshr, .jsr_w 255, .land, .l2i, .iastore, .aload_n 0, .dup, .getfield 1130, .iconst 1, .iadd, .putfield 1130, .iinc 4 (-1), .goto 34] 76 ls st μ := run_blk (by decide +kernel) d ls st μ
theorem bk1132_76 (d : Nat) (ls st : List XV) (μ : XM) : run d 1132 76 ls st μ = bx d 1132 [.aload_n 0, .getfield 1130, .ireturn] 81 ls st μ := run_blk (by decide +kernel) d ls st μ
theorem bk1133_0 (d : Nat) (ls st : List XV) (μ : XM) : run d 1133 0 ls st μ = bx d 1133 [.aload_n 0, .invokevirtual 1134, .istore_n 1, .aload_n 0, .iconst 0, .putfield 1130, .iload_n 1, .ifCond .ne 23, .sipush (-1000), .aload_n 0, .getfield 1131, .isub, .ireturn] 23 ls st μ := run_blk (by decide +kernel) d ls st μ
theorem bk1133_23 (d : Nat) (ls st : List XV) (μ : XM) : run d 1133 23 ls st μ = bx d 1133 [.aload_n 0, .getfield 1133, .ifCond .lt 39, .sipush (-2000), .aload_n 0, .getfield 1133, .isub, .ireturn] 39 ls st μ := run_blk (by decide +kernel) d ls st μ
theorem bk1133_39 (d : Nat) (ls st : List XV) (μ : XM) : run d 1133 39 ls st μ = bx d 1133 [.aload_n 0, .getfield 1125, .iconst 0, .iaload, .bipush 10, .if_icmp .le 54, .sipush (-3000), .ireturn] 54 ls st μ := run_blk (by decide +kernel) d ls st μ
theorem bk1133_54 (d : Nat) (ls st : List XV) (μ : XM) : run d 1133 54 ls st μ = bx d 1133 [.aload_n 0, .aload_n 0, .getfield 1125, .iconst 0, .iaload, .putfield 1121, .iconst 0, .istore_n 2] 66 ls st μ := run_blk (by decide +kernel) d ls st μ
theorem bk1133_66 (d : Nat) (ls st : List XV) (μ : XM) : run d 1133 66 ls st μ = bx d 1133 [.iload_n 2, .aload_n 0, .getfield 1121, .if_icmp .ge 110, .aload_n 0, .getfield 1119, .iload_n 2, .aload_n 0, .getfield 1124, .iload_n 2, .iaload, .bipush 100, .idiv, .iastore, .aload_n 0, .getfield 1120, .iload_n 2, .aload_n 0, .getfield 1124, .iload_n 2, .iaload, .bipush 100, .irem, .iastore, .iinc 2 1, .goto 66] 110 ls st μ := run_blk (by decide +kernel) d ls st μ
theorem bk1133_110 (d : Nat) (ls st : List XV) (μ : XM) : run d 1133 110 ls st μ = bx d 1133 [.aload_n 0, .getfield 1121, .ireturn] 115 ls st μ := run_blk (by decide +kernel) d ls st μ
theorem bk1134_0 (d : Nat) (ls st : List XV) (μ : XM) : run d 1134 0 ls st μ = bx d 1134 [.aload_n 0, .iconst 0, .putfield 1131, .aload_n 0, .iconst 0, .putfield 1132, .aload_n 0, .getfield 1125, .iconst 0, .iconst 0, .iastore, .aload_n 0, .iconst (-1), .putfield 1133, .iconst 0, .istore_n 1] 24 ls st μ := run_blk (by decide +kernel) d ls st μ
theorem bk1134_24 (d : Nat) (ls st : List XV) (μ : XM) : run d 1134 24 ls st μ = bx d 1134 [.iload_n 1, .bipush 6, .if_icmp .ge 43, .aload_n 0, .getfield 1129, .iload_n 1, .iconst 0, .bastore, .iinc 1 1, .goto 24] 43 ls st μ := run_blk (by decide +kernel) d ls st μ
theorem bk1134_43 (d : Nat) (ls st : List XV) (μ : XM) : run d 1134 43 ls st μ = bx d 1134 [.aload_n 0, .invokevirtual 1135, .ifCond .ne 52, .iconst 0, .freturn] 52 ls st μ := run_blk (by decide +kernel) d ls st μ
theorem bk1134_52 (d : Nat) (ls st : List XV) (μ : XM) : run d 1134 52 ls st μ = bx d 1134 [.aload_n 0, .invokevirtual 1136, .bipush 41, .if_icmp .ne 85, .aload_n 0, .getfield 1132, .ifCond .le 85, .aload_n 0, .dup, .getfield 1131, .iconst 1, .iadd, .putfield 1131, .aload_n 0, .invokevirtual 1143, .goto 52] 85 ls st μ := run_blk (by decide +kernel) d ls st μ
theorem bk1134_85 (d : Nat) (ls st : List XV) (μ : XM) : run d 1134 85 ls st μ = bx d 1134 [.aload_n 0, .invokevirtual 1136, .iconst (-1), .if_icmp .ne 102, .aload_n 0, .getfield 1132, .ifCond .ne 102, .iconst 1, .freturn] 102 ls st μ := run_blk (by decide +kernel) d ls st μ
theorem bk1134_102 (d : Nat) (ls st : List XV) (μ : XM) : run d 1134 102 ls st μ = bx d 1134 [.aload_n 0, .invokevirtual 1136, .bipush 59, .if_icmp .eq 113, .iconst 0, .freturn] 113 ls st μ := run_blk (by decide +kernel) d ls st μ
theorem bk1134_113 (d : Nat) (ls st : List XV) (μ : XM) : run d 1134 113 ls st μ = bx d 1134 [.aload_n 0, .dup, .getfield 1131, .iconst 1, .iadd, .putfield 1131, .goto 43] 126 ls st μ := run_blk (by decide +kernel) d ls st μ
theorem bk1135_0 (d : Nat) (ls st : List XV) (μ : XM) : run d 1135 0 ls st μ = bx d 1135 [.aload_n 0, .invokevirtual 1136, .istore_n 1, .iload_n 1, .bipush 116, .if_icmp .eq 23, .iload_n 1, .bipush 117, .if_icmp .eq 23, .iload_n 1, .bipush 115, .if_icmp .ne 115, .aload_n 0, .dup, .getfield 1131, .iconst 1, .iadd, .putfield 1131, .aload_n 0, .aload_n 0, .getfield 1100, .iconst 2, .isub, .invokevirtual 1137, .ifCond .ne 48, .iconst 0, .freturn] 48 ls st μ := run_blk (by decide +kernel) d ls st μ
theorem bk1135_23 (d : Nat) (ls st : List XV) (μ : XM) : run d 1135 23 ls st μ = bx d 1135 [.aload_n 0, .dup, .getfield 1131, .iconst 1, .iadd, .putfield 1131, .aload_n 0, .aload_n 0, .getfield 1100, .iconst 2, .isub, .invokevirtual 1137, .ifCond .ne 48, .iconst 0, .freturn] 48 ls st μ := run_blk (by decide +kernel) d ls st μ
theorem bk1135_48 (d : Nat) (ls st : List XV) (μ : XM) : run d 1135 48 ls st μ = bx d 1135 [.aload_n 0, .getfield 1134, .istore_n 2, .iload_n 1, .bipush 115, .if_icmp .eq 70, .aload_n 0, .bipush 95, .invokevirtual 1137, .ifCond .ne 70, .iconst 0, .freturn] 70 ls st μ := run_blk (by decide +kernel) d ls st μ
theorem bk1135_70 (d : Nat) (ls st : List XV) (μ : XM) : run d 1135 70 ls st μ = bx d 1135 [.aload_n 0, .bipush 100, .iload_n 2, .imul, .iload_n 1, .bipush 115, .if_icmp .ne 86, .bipush 24, .goto 109] 86 ls st μ := run_blk (by decide +kernel) d ls st μ
theorem bk1135_86 (d : Nat) (ls st : List XV) (μ : XM) : run d 1135 86 ls st μ = bx d 1135 [.iload_n 1, .bipush 116, .if_icmp .ne 99, .aload_n 0, .getfield 1134, .goto 109] 99 ls st μ := run_blk (by decide +kernel) d ls st μ
theorem bk1135_99 (d : Nat) (ls st : List XV) (μ : XM) : run d 1135 99 ls st μ = bx d 1135 [.bipush 96, .aload_n 0, .getfield 1134, .isub, .bipush 96, .irem, .iadd, .invokevirtual 1139, .iconst 1, .freturn] 115 ls st μ := run_blk (by decide +kernel) d ls st μ
theorem bk1135_109 (d : Nat) (ls st : List XV) (μ : XM) : run d 1135 109 ls st μ = bx d 1135 [.iadd, .invokevirtual 1139, .iconst 1, .freturn] 115 ls st μ := run_blk (by decide +kernel) d ls st μ
theorem bk1135_115 (d : Nat) (ls st : List XV) (μ : XM) : run d 1135 115 ls st μ = bx d 1135 [.iload_n 1, .invokestatic 1138, .ifCond .ne 132, .aload_n 0, .iload_n 1, .invokevirtual 1140, .ifCond .ne 132, .iconst 0, .freturn] 132 ls st μ := run_blk (by decide +kernel) d ls st μ
theorem bk1135_132 (d : Nat) (ls st : List XV) (μ : XM) : run d 1135 132 ls st μ = bx d 1135 [.aload_n 0, .dup, .getfield 1131, .iconst 1, .iadd, .putfield 1131, .aload_n 0, .iload_n 1, .invokevirtual 1140, .ifCond .eq 169, .aload_n 0, .invokevirtual 1136, .bipush 61, .if_icmp .eq 169, .aload_n 0, .iload_n 1, .bipush 97, .isub, .invokevirtual 1141, .iconst 1, .freturn] 169 ls st μ := run_blk (by decide +kernel) d ls st μ
theorem bk1135_169 (d : Nat) (ls st : List XV) (μ : XM) : run d 1135 169 ls st μ = bx d 1135 [.aload_n 0, .iload_n 1, .invokevirtual 1140, .ifCond .eq 187, .aload_n 0, .dup, .getfield 1131, .iconst 1, .iadd, .putfield 1131, .aload_n 0, .invokevirtual 1136, .bipush 40, .if_icmp .eq 198, .iconst 0, .freturn] 198 ls st μ := run_blk (by decide +kernel) d ls st μ
theorem bk1135_187 (d : Nat) (ls st : List XV) (μ : XM) : run d 1135 187 ls st μ = bx d 1135 [.aload_n 0, .invokevirtual 1136, .bipush 40, .if_icmp .eq 198, .iconst 0, .freturn] 198 ls st μ := run_blk (by decide +kernel) d ls st μ
theorem bk1135_198 (d : Nat) (ls st : List XV) (μ : XM) : run d 1135 198 ls st μ = bx d 1135 [.aload_n 0, .dup, .getfield 1131, .iconst 1, .iadd, .putfield 1131, .aload_n 0, .aload_n 0, .iload_n 1, .invokevirtual 1140, .ifCond .eq 227, .bipush 10, .iload_n 1, .iadd, .bipush 97, .isub, .goto 231] 227 ls st μ := run_blk (by decide +kernel) d ls st μ
theorem bk1135_227 (d : Nat) (ls st : List XV) (μ : XM) : run d 1135 227 ls st μ = bx d 1135 [.iload_n 1, .bipush 48, .isub, .invokevirtual 1142, .goto 0] 237 ls st μ := run_blk (by decide +kernel) d ls st μ
theorem bk1135_231 (d : Nat) (ls st : List XV) (μ : XM) : run d 1135 231 ls st μ = bx d 1135 [.invokevirtual 1142, .goto 0] 237 ls st μ := run_blk (by decide +kernel) d ls st μ
theorem bk1136_0 (d : Nat) (ls st : List XV) (μ : XM) : run d 1136 0 ls st μ = bx d 1136 [.aload_n 0, .getfield 1131, .aload_n 0, .getfield 1130, .if_icmp .ge 23, .aload_n 0, .getfield 1123, .aload_n 0, .getfield 1131, .iaload, .goto 24] 23 ls st μ := run_blk (by decide +kernel) d ls st μ
theorem bk1136_23 (d : Nat) (ls st : List XV) (μ : XM) : run d 1136 23 ls st μ = bx d 1136 [.iconst (-1), .ireturn] 25 ls st μ := run_blk (by decide +kernel) d ls st μ
theorem bk1136_24 (d : Nat) (ls st : List XV) (μ : XM) : run d 1136 24 ls st μ = bx d 1136 [.ireturn] 25 ls st μ := run_blk (by decide +kernel) d ls st μ
theorem bk1137_0 (d : Nat) (ls st : List XV) (μ : XM) : run d 1137 0 ls st μ = bx d 1137 [.aload_n 0, .invokevirtual 1136, .bipush 32, .if_icmp .eq 11, .iconst 0, .freturn] 11 ls st μ := run_blk (by decide +kernel) d ls st μ
theorem bk1137_11 (d : Nat) (ls st : List XV) (μ : XM) : run d 1137 11 ls st μ = bx d 1137 [.aload_n 0, .dup, .getfield 1131, .iconst 1, .iadd, .putfield 1131, .aload_n 0, .invokevirtual 1136, .invokestatic 1138, .ifCond .eq 42, .aload_n 0, .invokevirtual 1136, .bipush 48, .isub, .iload_n 1, .if_icmp .le 44, .iconst 0, .freturn] 44 ls st μ := run_blk (by decide +kernel) d ls st μ
theorem bk1137_42 (d : Nat) (ls st : List XV) (μ : XM) : run d 1137 42 ls st μ = bx d 1137 [.iconst 0, .freturn] 44 ls st μ := run_blk (by decide +kernel) d ls st μ
theorem bk1137_44 (d : Nat) (ls st : List XV) (μ : XM) : run d 1137 44 ls st μ = bx d 1137 [.aload_n 0, .aload_n 0, .invokevirtual 1136, .bipush 48, .isub, .putfield 1134, .aload_n 0, .dup, .getfield 1131, .iconst 1, .iadd, .putfield 1131, .aload_n 0, .invokevirtual 1136, .invokestatic 1138, .ifCond .eq 82, .aload_n 0, .getfield 1134, .ifCond .ne 84, .iconst 1, .freturn] 84 ls st μ := run_blk (by decide +kernel) d ls st μ
theorem bk1137_82 (d : Nat) (ls st : List XV) (μ : XM) : run d 1137 82 ls st μ = bx d 1137 [.iconst 1, .freturn] 84 ls st μ := run_blk (by decide +kernel) d ls st μ
theorem bk1137_84 (d : Nat) (ls st : List XV) (μ : XM) : run d 1137 84 ls st μ = bx d 1137 [.bipush 10, .aload_n 0, .getfield 1134, .imul, .aload_n 0, .invokevirtual 1136, .iadd, .bipush 48, .isub, .iload_n 1, .if_icmp .le 105, .iconst 0, .freturn] 105 ls st μ := run_blk (by decide +kernel) d ls st μ
theorem bk1137_105 (d : Nat) (ls st : List XV) (μ : XM) : run d 1137 105 ls st μ = bx d 1137 [.aload_n 0, .bipush 10, .aload_n 0, .getfield 1134, .imul, .aload_n 0, .invokevirtual 1136, .iadd, .bipush 48, .isub, .putfield 1134, .aload_n 0, .dup, .getfield 1131, .iconst 1, .iadd, .putfield 1131, .iconst 1, .freturn] 136 ls st μ := run_blk (by decide +kernel) d ls st μ
theorem bk1138_0 (d : Nat) (ls st : List XV) (μ : XM) : run d 1138 0 ls st μ = bx d 1138 [.iload_n 0, .bipush 48, .if_icmp .lt 16, .iload_n 0, .bipush 57, .if_icmp .gt 16, .iconst 1, .goto 17] 16 ls st μ := run_blk (by decide +kernel) d ls st μ
theorem bk1138_16 (d : Nat) (ls st : List XV) (μ : XM) : run d 1138 16 ls st μ = bx d 1138 [.iconst 0, .freturn] 18 ls st μ := run_blk (by decide +kernel) d ls st μ
theorem bk1138_17 (d : Nat) (ls st : List XV) (μ : XM) : run d 1138 17 ls st μ = bx d 1138 [.freturn] 18 ls st μ := run_blk (by decide +kernel) d ls st μ
theorem bk1139_0 (d : Nat) (ls st : List XV) (μ : XM) : run d 1139 0 ls st μ = bx d 1139 [.aload_n 0, .getfield 1125, .aload_n 0, .getfield 1132, .iaload, .bipush 11, .if_icmp .ne 15, .return_] 15 ls st μ := run_blk (by decide +kernel) d ls st μ
theorem bk1139_15 (d : Nat) (ls st : List XV) (μ : XM) : run d 1139 15 ls st μ = bx d 1139 [.aload_n 0, .getfield 1124, .bipush 13, .aload_n 0, .getfield 1132, .imul, .aload_n 0, .getfield 1125, .aload_n 0, .getfield 1132, .iaload, .iadd, .iload_n 1, .iastore, .aload_n 0, .getfield 1125, .aload_n 0, .getfield 1132, .dup2, .iaload, .iconst 1, .iadd, .iastore, .return_] 52 ls st μ := run_blk (by decide +kernel) d ls st μ
theorem bk1140_0 (d : Nat) (ls st : List XV) (μ : XM) : run d 1140 0 ls st μ = bx d 1140 [.iload_n 1, .bipush 97, .if_icmp .lt 16, .iload_n 1, .bipush 102, .if_icmp .gt 16, .iconst 1, .goto 17] 16 ls st μ := run_blk (by decide +kernel) d ls st μ
theorem bk1140_16 (d : Nat) (ls st : List XV) (μ : XM) : run d 1140 16 ls st μ = bx d 1140 [.iconst 0, .freturn] 18 ls st μ := run_blk (by decide +kernel) d ls st μ
theorem bk1140_17 (d : Nat) (ls st : List XV) (μ : XM) : run d 1140 17 ls st μ = bx d 1140 [.freturn] 18 ls st μ := run_blk (by decide +kernel) d ls st μ
theorem bk1141_0 (d : Nat) (ls st : List XV) (μ : XM) : run d 1141 0 ls st μ = bx d 1141 [.aload_n 0, .getfield 1129, .iload_n 1, .baload, .ifCond .ne 27, .aload_n 0, .getfield 1133, .ifCond .ge 26, .aload_n 0, .aload_n 0, .getfield 1131, .iconst 1, .isub, .putfield 1133, .return_] 27 ls st μ := run_blk (by decide +kernel) d ls st μ
theorem bk1141_26 (d : Nat) (ls st : List XV) (μ : XM) : run d 1141 26 ls st μ = bx d 1141 [.return_] 27 ls st μ := run_blk (by decide +kernel) d ls st μ
theorem bk1141_27 (d : Nat) (ls st : List XV) (μ : XM) : run d 1141 27 ls st μ = bx d 1141 [.iconst 0, .istore_n 2] 29 ls st μ := run_blk (by decide +kernel) d ls st μ
theorem bk1141_29 (d : Nat) (ls st : List XV) (μ : XM) : run d 1141 29 ls st μ = bx d 1141 [.iload_n 2, .aload_n 0, .getfield 1128, .iload_n 1, .iaload, .if_icmp .ge 60, .aload_n 0, .aload_n 0, .getfield 1127, .bipush 11, .iload_n 1, .imul, .iload_n 2, .iadd, .iaload, .invokevirtual 1139, .iinc 2 1, .goto 29] 60 ls st μ := run_blk (by decide +kernel) d ls st μ
theorem bk1141_60 (d : Nat) (ls st : List XV) (μ : XM) : run d 1141 60 ls st μ = bx d 1141 [.return_] 61 ls st μ := run_blk (by decide +kernel) d ls st μ
theorem bk1142_0 (d : Nat) (ls st : List XV) (μ : XM) : run d 1142 0 ls st μ = bx d 1142 [.aload_n 0, .dup, .getfield 1132, .iconst 1, .iadd, .putfield 1132, .aload_n 0, .getfield 1125, .aload_n 0, .getfield 1132, .iconst 0, .iastore, .aload_n 0, .getfield 1126, .aload_n 0, .getfield 1132, .iload_n 1, .iastore, .return_] 31 ls st μ := run_blk (by decide +kernel) d ls st μ
theorem bk1143_0 (d : Nat) (ls st : List XV) (μ : XM) : run d 1143 0 ls st μ = bx d 1143 [.aload_n 0, .getfield 1126, .aload_n 0, .getfield 1132, .iaload, .istore_n 1, .aload_n 0, .getfield 1132, .istore_n 2, .aload_n 0, .dup, .getfield 1132, .iconst 1, .isub, .putfield 1132, .iload_n 1, .bipush 10, .if_icmp .lt 100, .iload_n 1, .bipush 10, .isub, .istore_n 3, .aload_n 0, .getfield 1129, .iload_n 3, .iconst 1, .bastore, .aload_n 0, .getfield 1128, .iload_n 3, .aload_n 0, .getfield 1125, .iload_n 2, .iaload, .iastore, .iconst 0, .istore 4] 58 ls st μ := run_blk (by decide +kernel) d ls st μ
theorem bk1143_58 (d : Nat) (ls st : List XV) (μ : XM) : run d 1143 58 ls st μ = bx d 1143 [.iload 4, .aload_n 0, .getfield 1125, .iload_n 2, .iaload, .if_icmp .ge 99, .aload_n 0, .getfield 1127, .bipush 11, .iload_n 3, .imul, .iload 4, .iadd, .aload_n 0, .getfield 1124, .bipush 13, .iload_n 2, .imul, .iload 4, .iadd, .iaload, .iastore, .iinc 4 1, .goto 58] 99 ls st μ := run_blk (by decide +kernel) d ls st μ
theorem bk1143_99 (d : Nat) (ls st : List XV) (μ : XM) : run d 1143 99 ls st μ = bx d 1143 [.return_] 100 ls st μ := run_blk (by decide +kernel) d ls st μ
theorem bk1143_100 (d : Nat) (ls st : List XV) (μ : XM) : run d 1143 100 ls st μ = bx d 1143 [.iconst 0, .istore_n 3] 102 ls st μ := run_blk (by decide +kernel) d ls st μ
theorem bk1143_102 (d : Nat) (ls st : List XV) (μ : XM) : run d 1143 102 ls st μ = bx d 1143 [.iload_n 3, .iload_n 1, .if_icmp .ge 149, .iconst 0, .istore 4] 110 ls st μ := run_blk (by decide +kernel) d ls st μ
theorem bk1143_110 (d : Nat) (ls st : List XV) (μ : XM) : run d 1143 110 ls st μ = bx d 1143 [.iload 4, .aload_n 0, .getfield 1125, .iload_n 2, .iaload, .if_icmp .ge 143, .aload_n 0, .aload_n 0, .getfield 1124, .bipush 13, .iload_n 2, .imul, .iload 4, .iadd, .iaload, .invokevirtual 1139, .iinc 4 1, .goto 110] 143 ls st μ := run_blk (by decide +kernel) d ls st μ
theorem bk1143_143 (d : Nat) (ls st : List XV) (μ : XM) : run d 1143 143 ls st μ = bx d 1143 [.iinc 3 1, .goto 102] 149 ls st μ := run_blk (by decide +kernel) d ls st μ
theorem bk1143_149 (d : Nat) (ls st : List XV) (μ : XM) : run d 1143 149 ls st μ = bx d 1143 [.return_] 150 ls st μ := run_blk (by decide +kernel) d ls st μ
theorem bk1144_0 (d : Nat) (ls st : List XV) (μ : XM) : run d 1144 0 ls st μ = bx d 1144 [.iload_n 1, .i2l, .lconst 1, .jsr_w 99, .invokestatic 1106, .ifCond .ne 15, .bipush (-2), .ireturn] 15 ls st μ := run_blk (by decide +kernel) d ls st μ
theorem bk1144_15 (d : Nat) (ls st : List XV) (μ : XM) : run d 1144 15 ls st μ = bx d 1144 [.aload_n 0, .getfield 1107, .istore_n 2, .aload_n 0, .iload_n 1, .putfield 1107, .iload_n 2, .ireturn] 27 ls st μ := run_blk (by decide +kernel) d ls st μ
theorem bk1145_0 (d : Nat) (ls st : List XV) (μ : XM) : run d 1145 0 ls st μ = bx d 1145 [.aload_n 0, .iload_n 1, .iload_n 2, .invokevirtual 1105, .ifCond .ne 11, .iconst (-1), .ireturn] 11 ls st μ := run_blk (by decide +kernel) d ls st μ
theorem bk1145_11 (d : Nat) (ls st : List XV) (μ : XM) : run d 1145 11 ls st μ = bx d 1145 [.iload_n 3, .i2l, .jsr_w (-8), .jsr_w 8, .invokestatic 1106, .ifCond .ne 28, .bipush (-2), .ireturn] 28 ls st μ := run_blk (by decide +kernel) d ls st μ
theorem bk1145_28 (d : Nat) (ls st : List XV) (μ : XM) : run d 1145 28 ls st μ = bx d 1145 [.aload_n 0, .getfield 1106, .bipush 6, .iload_n 1, .imul, .iload_n 2, .iadd, .iaload, .istore 4, .aload_n 0, .getfield 1106, .bipush 6, .iload_n 1, .imul, .iload_n 2, .iadd, .iload_n 3, .iastore, .iload 4, .ireturn] 56 ls st μ := run_blk (by decide +kernel) d ls st μ
theorem bk1146_0 (d : Nat) (ls st : List XV) (μ : XM) : run d 1146 0 ls st μ = bx d 1146 [.lload_n 1, .lstore_n 3, .iconst 0, .istore 5] 5 ls st μ := run_blk (by decide +kernel) d ls st μ
theorem bk1146_5 (d : Nat) (ls st : List XV) (μ : XM) : run d 1146 5 ls st μ = bx d 1146 [.iload 5, .aload_n 0, .getfield 1100, .if_icmp .ge 39, .aload_n 0, .getfield 1110, .iload 5, .lload_n 3, .jsr_w 97, .lrem, .l2i, .iastore, .lload_n 3, .jsr_w 97, .ldiv, .lstore_n 3, .iinc 5 1, .goto 5] 39 ls st μ := run_blk (by decide +kernel) d ls st μ
theorem bk1146_39 (d : Nat) (ls st : List XV) (μ : XM) : run d 1146 39 ls st μ = bx d 1146 [.lload_n 1, .lconst 0, .lcmp, .ifCond .lt 51, .lload_n 3, .lconst 0, .lcmp, .ifCond .eq 54, .bipush (-2), .ireturn] 54 ls st μ := run_blk (by decide +kernel) d ls st μ
theorem bk1146_51 (d : Nat) (ls st : List XV) (μ : XM) : run d 1146 51 ls st μ = bx d 1146 [.bipush (-2), .ireturn] 54 ls st μ := run_blk (by decide +kernel) d ls st μ
theorem bk1146_54 (d : Nat) (ls st : List XV) (μ : XM) : run d 1146 54 ls st μ = bx d 1146 [.aload_n 0, .getfield 1141, .bipush 40, .if_icmp .ne 66, .bipush (-4), .ireturn] 66 ls st μ := run_blk (by decide +kernel) d ls st μ
theorem bk1146_66 (d : Nat) (ls st : List XV) (μ : XM) : run d 1146 66 ls st μ = bx d 1146 [.iconst 0, .istore 5] 69 ls st μ := run_blk (by decide +kernel) d ls st μ
theorem bk1146_69 (d : Nat) (ls st : List XV) (μ : XM) : run d 1146 69 ls st μ = bx d 1146 [.iload 5, .aload_n 0, .getfield 1100, .if_icmp .ge 106, .aload_n 0, .getfield 1135, .bipush 6, .aload_n 0, .getfield 1141, .imul, .iload 5, .iadd, .aload_n 0, .getfield 1110, .iload 5, .iaload, .iastore, .iinc 5 1, .goto 69] 106 ls st μ := run_blk (by decide +kernel) d ls st μ
theorem bk1146_106 (d : Nat) (ls st : List XV) (μ : XM) : run d 1146 106 ls st μ = bx d 1146 [.iconst 0, .istore 5] 109 ls st μ := run_blk (by decide +kernel) d ls st μ
theorem bk1146_109 (d : Nat) (ls st : List XV) (μ : XM) : run d 1146 109 ls st μ = bx d 1146 [.iload 5, .bipush 72, .if_icmp .ge 144, .aload_n 0, .getfield 1137, .bipush 72, .aload_n 0, .getfield 1141, .imul, .iload 5, .iadd, .aload_n 0, .getfield 1103, .iload 5, .iaload, .iastore, .iinc 5 1, .goto 109] 144 ls st μ := run_blk (by decide +kernel) d ls st μ
theorem bk1146_144 (d : Nat) (ls st : List XV) (μ : XM) : run d 1146 144 ls st μ = bx d 1146 [.aload_n 0, .invokevirtual 1110, .aload_n 0, .iconst 1, .invokevirtual 1117, .iconst 0, .istore 5] 156 ls st μ := run_blk (by decide +kernel) d ls st μ
theorem bk1146_156 (d : Nat) (ls st : List XV) (μ : XM) : run d 1146 156 ls st μ = bx d 1146 [.iload 5, .aload_n 0, .getfield 1100, .if_icmp .ge 193, .aload_n 0, .getfield 1136, .bipush 6, .aload_n 0, .getfield 1141, .imul, .iload 5, .iadd, .aload_n 0, .getfield 1110, .iload 5, .iaload, .iastore, .iinc 5 1, .goto 156] 193 ls st μ := run_blk (by decide +kernel) d ls st μ
theorem bk1146_193 (d : Nat) (ls st : List XV) (μ : XM) : run d 1146 193 ls st μ = bx d 1146 [.aload_n 0, .dup, .getfield 1141, .iconst 1, .iadd, .putfield 1141, .aload_n 0, .getfield 1141, .iconst 1, .isub, .ireturn] 210 ls st μ := run_blk (by decide +kernel) d ls st μ
theorem bk1147_0 (d : Nat) (ls st : List XV) (μ : XM) : run d 1147 0 ls st μ = bx d 1147 [.aload_n 0, .iload_n 1, .invokevirtual 1148, .ifCond .eq 30, .aload_n 0, .iload_n 2, .invokevirtual 1115, .ifCond .eq 30, .aload_n 0, .getfield 1136, .bipush 6, .iload_n 1, .imul, .iload_n 2, .iadd, .iaload, .goto 31] 30 ls st μ := run_blk (by decide +kernel) d ls st μ
theorem bk1147_30 (d : Nat) (ls st : List XV) (μ : XM) : run d 1147 30 ls st μ = bx d 1147 [.iconst (-1), .ireturn] 32 ls st μ := run_blk (by decide +kernel) d ls st μ
theorem bk1147_31 (d : Nat) (ls st : List XV) (μ : XM) : run d 1147 31 ls st μ = bx d 1147 [.ireturn] 32 ls st μ := run_blk (by decide +kernel) d ls st μ
theorem bk1148_0 (d : Nat) (ls st : List XV) (μ : XM) : run d 1148 0 ls st μ = bx d 1148 [.iload_n 1, .ifCond .lt 16, .iload_n 1, .aload_n 0, .getfield 1141, .if_icmp .ge 16, .iconst 1, .goto 17] 16 ls st μ := run_blk (by decide +kernel) d ls st μ
theorem bk1148_16 (d : Nat) (ls st : List XV) (μ : XM) : run d 1148 16 ls st μ = bx d 1148 [.iconst 0, .freturn] 18 ls st μ := run_blk (by decide +kernel) d ls st μ
theorem bk1148_17 (d : Nat) (ls st : List XV) (μ : XM) : run d 1148 17 ls st μ = bx d 1148 [.freturn] 18 ls st μ := run_blk (by decide +kernel) d ls st μ
theorem bk1149_0 (d : Nat) (ls st : List XV) (μ : XM) : run d 1149 0 ls st μ = bx d 1149 [.aload_n 0, .iload_n 1, .invokevirtual 1148, .ifCond .eq 16, .aload_n 0, .iload_n 2, .invokevirtual 1115, .ifCond .ne 18, .iconst (-1), .ireturn] 18 ls st μ := run_blk (by decide +kernel) d ls st μ
theorem bk1149_16 (d : Nat) (ls st : List XV) (μ : XM) : run d 1149 16 ls st μ = bx d 1149 [.iconst (-1), .ireturn] 18 ls st μ := run_blk (by decide +kernel) d ls st μ
theorem bk1149_18 (d : Nat) (ls st : List XV) (μ : XM) : run d 1149 18 ls st μ = bx d 1149 [.aload_n 0, .iload_n 1, .invokevirtual 1150, .aload_n 0, .getfield 1110, .iload_n 2, .iaload, .ireturn] 30 ls st μ := run_blk (by decide +kernel) d ls st μ
theorem bk1150_0 (d : Nat) (ls st : List XV) (μ : XM) : run d 1150 0 ls st μ = bx d 1150 [.iconst 0, .istore_n 2] 2 ls st μ := run_blk (by decide +kernel) d ls st μ
theorem bk1150_2 (d : Nat) (ls st : List XV) (μ : XM) : run d 1150 2 ls st μ = bx d 1150 [.iload_n 2, .bipush 72, .if_icmp .ge 43, .aload_n 0, .getfield 1108, .iload_n 2, .aload_n 0, .getfield 1137, .bipush 72, .iload_n 1, .imul, .iload_n 2, .iadd, .iaload, .iastore, .aload_n 0, .getfield 1109, .iload_n 2, .aload_n 0, .iload_n 2, .iload_n 1, .invokevirtual 1151, .iastore, .iinc 2 1, .goto 2] 43 ls st μ := run_blk (by decide +kernel) d ls st μ
theorem bk1150_43 (d : Nat) (ls st : List XV) (μ : XM) : run d 1150 43 ls st μ = bx d 1150 [.iconst 0, .istore_n 2] 45 ls st μ := run_blk (by decide +kernel) d ls st μ
theorem bk1150_45 (d : Nat) (ls st : List XV) (μ : XM) : run d 1150 45 ls st μ = bx d 1150 [.iload_n 2, .aload_n 0, .getfield 1100, .if_icmp .ge 76, .aload_n 0, .getfield 1110, .iload_n 2, .aload_n 0, .getfield 1135, .bipush 6, .iload_n 1, .imul, .iload_n 2, .iadd, .iaload, .iastore, .iinc 2 1, .goto 45] 76 ls st μ := run_blk (by decide +kernel) d ls st μ
theorem bk1150_76 (d : Nat) (ls st : List XV) (μ : XM) : run d 1150 76 ls st μ = bx d 1150 [.aload_n 0, .iconst 1, .invokevirtual 1117, .return_] 82 ls st μ := run_blk (by decide +kernel) d ls st μ
theorem bk1151_0 (d : Nat) (ls st : List XV) (μ : XM) : run d 1151 0 ls st μ = bx d 1151 [.iconst (-1), .istore_n 3, .iconst 0, .istore 4] 5 ls st μ := run_blk (by decide +kernel) d ls st μ
theorem bk1151_5 (d : Nat) (ls st : List XV) (μ : XM) : run d 1151 5 ls st μ = bx d 1151 [.iload 4, .aload_n 0, .getfield 1143, .if_icmp .ge 65, .aload_n 0, .getfield 1138, .iload 4, .iaload, .iload_n 1, .if_icmp .ne 59, .aload_n 0, .getfield 1140, .iload 4, .iaload, .iload_n 2, .if_icmp .gt 59, .iload_n 3, .ifCond .lt 56, .aload_n 0, .getfield 1140, .iload 4, .iaload, .aload_n 0, .getfield 1140, .iload_n 3, .iaload, .if_icmp .lt 59, .iload 4, .istore_n 3, .iinc 4 1, .goto 5] 65 ls st μ := run_blk (by decide +kernel) d ls st μ
theorem bk1151_56 (d : Nat) (ls st : List XV) (μ : XM) : run d 1151 56 ls st μ = bx d 1151 [.iload 4, .istore_n 3, .iinc 4 1, .goto 5] 65 ls st μ := run_blk (by decide +kernel) d ls st μ
theorem bk1151_59 (d : Nat) (ls st : List XV) (μ : XM) : run d 1151 59 ls st μ = bx d 1151 [.iinc 4 1, .goto 5] 65 ls st μ := run_blk (by decide +kernel) d ls st μ
theorem bk1151_65 (d : Nat) (ls st : List XV) (μ : XM) : run d 1151 65 ls st μ = bx d 1151 [.iload_n 3, .ifCond .ge 73, .iconst 0, .goto 79] 73 ls st μ := run_blk (by decide +kernel) d ls st μ
theorem bk1151_73 (d : Nat) (ls st : List XV) (μ : XM) : run d 1151 73 ls st μ = bx d 1151 [.aload_n 0, .getfield 1139, .iload_n 3, .iaload, .ireturn] 80 ls st μ := run_blk (by decide +kernel) d ls st μ
theorem bk1151_79 (d : Nat) (ls st : List XV) (μ : XM) : run d 1151 79 ls st μ = bx d 1151 [.ireturn] 80 ls st μ := run_blk (by decide +kernel) d ls st μ
theorem bk1152_0 (d : Nat) (ls st : List XV) (μ : XM) : run d 1152 0 ls st μ = bx d 1152 [.iconst 0, .istore_n 1] 2 ls st μ := run_blk (by decide +kernel) d ls st μ
theorem bk1152_2 (d : Nat) (ls st : List XV) (μ : XM) : run d 1152 2 ls st μ = bx d 1152 [.iload_n 1, .aload_n 0, .getfield 1141, .if_icmp .ge 59, .aload_n 0, .iload_n 1, .invokevirtual 1150, .iconst 0, .istore_n 2] 17 ls st μ := run_blk (by decide +kernel) d ls st μ
theorem bk1152_17 (d : Nat) (ls st : List XV) (μ : XM) : run d 1152 17 ls st μ = bx d 1152 [.iload_n 2, .aload_n 0, .getfield 1100, .if_icmp .ge 53, .aload_n 0, .getfield 1110, .iload_n 2, .iaload, .aload_n 0, .getfield 1136, .bipush 6, .iload_n 1, .imul, .iload_n 2, .iadd, .iaload, .if_icmp .eq 47, .iload_n 1, .ireturn] 47 ls st μ := run_blk (by decide +kernel) d ls st μ
theorem bk1152_47 (d : Nat) (ls st : List XV) (μ : XM) : run d 1152 47 ls st μ = bx d 1152 [.iinc 2 1, .goto 17] 53 ls st μ := run_blk (by decide +kernel) d ls st μ
theorem bk1152_53 (d : Nat) (ls st : List XV) (μ : XM) : run d 1152 53 ls st μ = bx d 1152 [.iinc 1 1, .goto 2] 59 ls st μ := run_blk (by decide +kernel) d ls st μ
theorem bk1152_59 (d : Nat) (ls st : List XV) (μ : XM) : run d 1152 59 ls st μ = bx d 1152 [.bipush (-5), .ireturn] 62 ls st μ := run_blk (by decide +kernel) d ls st μ
theorem bk1153_0 (d : Nat) (ls st : List XV) (μ : XM) : run d 1153 0 ls st μ = bx d 1153 [.aload_n 0, .iload_n 1, .iload_n 2, .invokevirtual 1105, .ifCond .ne 11, .iconst (-1), .ireturn] 11 ls st μ := run_blk (by decide +kernel) d ls st μ
theorem bk1153_11 (d : Nat) (ls st : List XV) (μ : XM) : run d 1153 11 ls st μ = bx d 1153 [.iload_n 3, .i2l, .jsr_w (-8), .jsr_w 8, .invokestatic 1106, .ifCond .eq 40, .iload 4, .i2l, .lconst 0, .aload_n 0, .getfield 1141, .i2l, .invokestatic 1106, .ifCond .ne 43, .bipush (-2), .ireturn] 43 ls st μ := run_blk (by decide +kernel) d ls st μ
theorem bk1153_40 (d : Nat) (ls st : List XV) (μ : XM) : run d 1153 40 ls st μ = bx d 1153 [.bipush (-2), .ireturn] 43 ls st μ := run_blk (by decide +kernel) d ls st μ
theorem bk1153_43 (d : Nat) (ls st : List XV) (μ : XM) : run d 1153 43 ls st μ = bx d 1153 [.aload_n 0, .getfield 1142, .bipush 60, .if_icmp .ne 55, .bipush (-4), .ireturn] 55 ls st μ := run_blk (by decide +kernel) d ls st μ
theorem bk1153_55 (d : Nat) (ls st : List XV) (μ : XM) : run d 1153 55 ls st μ = bx d 1153 [.aload_n 0, .getfield 1138, .aload_n 0, .getfield 1143, .bipush 6, .iload_n 1, .imul, .iload_n 2, .iadd, .iastore, .aload_n 0, .getfield 1139, .aload_n 0, .getfield 1143, .iload_n 3, .iastore, .aload_n 0, .getfield 1140, .aload_n 0, .getfield 1143, .iload 4, .iastore, .aload_n 0, .dup, .getfield 1143, .iconst 1, .iadd, .putfield 1143, .aload_n 0, .dup, .getfield 1142, .iconst 1, .iadd, .putfield 1142, .aload_n 0, .getfield 1142, .ireturn] 116 ls st μ := run_blk (by decide +kernel) d ls st μ
theorem bk1154_0 (d : Nat) (ls st : List XV) (μ : XM) : run d 1154 0 ls st μ = bx d 1154 [.aload_n 0, .iconst 0, .putfield 1147, .iconst 0, .istore_n 1] 7 ls st μ := run_blk (by decide +kernel) d ls st μ
theorem bk1154_7 (d : Nat) (ls st : List XV) (μ : XM) : run d 1154 7 ls st μ = bx d 1154 [.iload_n 1, .bipush 72, .if_icmp .ge 66, .aload_n 0, .iload_n 1, .bipush 6, .idiv, .iload_n 1, .bipush 6, .irem, .invokevirtual 1105, .ifCond .eq 60, .aload_n 0, .getfield 1104, .iload_n 1, .iaload, .ifCond .lt 40, .goto 60] 40 ls st μ := run_blk (by decide +kernel) d ls st μ
theorem bk1154_40 (d : Nat) (ls st : List XV) (μ : XM) : run d 1154 40 ls st μ = bx d 1154 [.aload_n 0, .getfield 1144, .aload_n 0, .getfield 1147, .iload_n 1, .iastore, .aload_n 0, .dup, .getfield 1147, .iconst 1, .iadd, .putfield 1147, .iinc 1 1, .goto 7] 66 ls st μ := run_blk (by decide +kernel) d ls st μ
theorem bk1154_60 (d : Nat) (ls st : List XV) (μ : XM) : run d 1154 60 ls st μ = bx d 1154 [.iinc 1 1, .goto 7] 66 ls st μ := run_blk (by decide +kernel) d ls st μ
theorem bk1154_66 (d : Nat) (ls st : List XV) (μ : XM) : run d 1154 66 ls st μ = bx d 1154 [.aload_n 0, .iconst 1, .iconst 4, .aload_n 0, .getfield 1147, .imul, .iadd, .putfield 1148, .iconst 0, .istore_n 1] 80 ls st μ := run_blk (by decide +kernel) d ls st μ
theorem bk1154_80 (d : Nat) (ls st : List XV) (μ : XM) : run d 1154 80 ls st μ = bx d 1154 [.iload_n 1, .aload_n 0, .getfield 1148, .if_icmp .ge 101, .aload_n 0, .getfield 1146, .iload_n 1, .iconst 1, .bastore, .iinc 1 1, .goto 80] 101 ls st μ := run_blk (by decide +kernel) d ls st μ
theorem bk1154_101 (d : Nat) (ls st : List XV) (μ : XM) : run d 1154 101 ls st μ = bx d 1154 [.aload_n 0, .iconst 1, .putfield 1150, .aload_n 0, .iconst 0, .putfield 1149, .aload_n 0, .getfield 1148, .ireturn] 116 ls st μ := run_blk (by decide +kernel) d ls st μ
theorem bk1155_0 (d : Nat) (ls st : List XV) (μ : XM) : run d 1155 0 ls st μ = bx d 1155 [.aload_n 0, .iload_n 1, .invokevirtual 1115, .ifCond .eq 16, .aload_n 0, .iload_n 2, .invokevirtual 1115, .ifCond .ne 18, .iconst (-1), .ireturn] 18 ls st μ := run_blk (by decide +kernel) d ls st μ
theorem bk1155_16 (d : Nat) (ls st : List XV) (μ : XM) : run d 1155 16 ls st μ = bx d 1155 [.iconst (-1), .ireturn] 18 ls st μ := run_blk (by decide +kernel) d ls st μ
theorem bk1155_18 (d : Nat) (ls st : List XV) (μ : XM) : run d 1155 18 ls st μ = bx d 1155 [.aload_n 0, .getfield 1150, .ifCond .ne 28, .bipush (-3), .ireturn] 28 ls st μ := run_blk (by decide +kernel) d ls st μ
theorem bk1155_28 (d : Nat) (ls st : List XV) (μ : XM) : run d 1155 28 ls st μ = bx d 1155 [.aload_n 0, .getfield 1149, .bipush 20, .if_icmp .ne 40, .bipush (-4), .ireturn] 40 ls st μ := run_blk (by decide +kernel) d ls st μ
theorem bk1155_40 (d : Nat) (ls st : List XV) (μ : XM) : run d 1155 40 ls st μ = bx d 1155 [.aload_n 0, .invokevirtual 1110, .aload_n 0, .iload_n 1, .invokevirtual 1116, .aload_n 0, .iconst 1, .invokevirtual 1117, .aload_n 0, .getfield 1110, .iload_n 2, .iaload, .istore_n 3, .iconst 0, .istore 4] 64 ls st μ := run_blk (by decide +kernel) d ls st μ
theorem bk1155_64 (d : Nat) (ls st : List XV) (μ : XM) : run d 1155 64 ls st μ = bx d 1155 [.iload 4, .aload_n 0, .getfield 1148, .if_icmp .ge 113, .aload_n 0, .getfield 1146, .iload 4, .baload, .ifCond .eq 107, .aload_n 0, .getfield 1146, .iload 4, .aload_n 0, .iload 4, .iload_n 1, .iload_n 2, .invokevirtual 1156, .iload_n 3, .if_icmp .ne 105, .iconst 1, .goto 106] 105 ls st μ := run_blk (by decide +kernel) d ls st μ
theorem bk1155_105 (d : Nat) (ls st : List XV) (μ : XM) : run d 1155 105 ls st μ = bx d 1155 [.iconst 0, .bastore, .iinc 4 1, .goto 64] 113 ls st μ := run_blk (by decide +kernel) d ls st μ
theorem bk1155_106 (d : Nat) (ls st : List XV) (μ : XM) : run d 1155 106 ls st μ = bx d 1155 [.bastore, .iinc 4 1, .goto 64] 113 ls st μ := run_blk (by decide +kernel) d ls st μ
theorem bk1155_107 (d : Nat) (ls st : List XV) (μ : XM) : run d 1155 107 ls st μ = bx d 1155 [.iinc 4 1, .goto 64] 113 ls st μ := run_blk (by decide +kernel) d ls st μ
theorem bk1155_113 (d : Nat) (ls st : List XV) (μ : XM) : run d 1155 113 ls st μ = bx d 1155 [.aload_n 0, .dup, .getfield 1149, .iconst 1, .iadd, .putfield 1149, .iload_n 3, .ireturn] 125 ls st μ := run_blk (by decide +kernel) d ls st μ
theorem bk1156_0 (d : Nat) (ls st : List XV) (μ : XM) : run d 1156 0 ls st μ = bx d 1156 [.iconst 0, .istore 4] 3 ls st μ := run_blk (by decide +kernel) d ls st μ
theorem bk1156_3 (d : Nat) (ls st : List XV) (μ : XM) : run d 1156 3 ls st μ = bx d 1156 [.iload 4, .bipush 72, .if_icmp .ge 47, .aload_n 0, .getfield 1108, .iload 4, .aload_n 0, .getfield 1103, .iload 4, .iaload, .iastore, .aload_n 0, .getfield 1109, .iload 4, .aload_n 0, .iload 4, .aload_n 0, .getfield 1141, .invokevirtual 1151, .iastore, .iinc 4 1, .goto 3] 47 ls st μ := run_blk (by decide +kernel) d ls st μ
theorem bk1156_47 (d : Nat) (ls st : List XV) (μ : XM) : run d 1156 47 ls st μ = bx d 1156 [.iload_n 1, .ifCond .le 77, .aload_n 0, .getfield 1109, .aload_n 0, .getfield 1144, .iload_n 1, .iconst 1, .isub, .iconst 4, .idiv, .iaload, .dup2, .iaload, .iload_n 1, .iconst 1, .isub, .iconst 4, .irem, .invokestatic 1157, .iadd, .iastore, .aload_n 0, .iload_n 2, .invokevirtual 1116, .aload_n 0, .iconst 1, .invokevirtual 1117, .aload_n 0, .getfield 1110, .iload_n 3, .iaload, .ireturn] 94 ls st μ := run_blk (by decide +kernel) d ls st μ
theorem bk1156_77 (d : Nat) (ls st : List XV) (μ : XM) : run d 1156 77 ls st μ = bx d 1156 [.aload_n 0, .iload_n 2, .invokevirtual 1116, .aload_n 0, .iconst 1, .invokevirtual 1117, .aload_n 0, .getfield 1110, .iload_n 3, .iaload, .ireturn] 94 ls st μ := run_blk (by decide +kernel) d ls st μ
theorem bk1157_0 (d : Nat) (ls st : List XV) (μ : XM) : run d 1157 0 ls st μ = bx d 1157 [.iload_n 0, .iconst 2, .if_icmp .ge 11, .iload_n 0, .iconst 2, .isub, .goto 14] 11 ls st μ := run_blk (by decide +kernel) d ls st μ
theorem bk1157_11 (d : Nat) (ls st : List XV) (μ : XM) : run d 1157 11 ls st μ = bx d 1157 [.iload_n 0, .iconst 1, .isub, .ireturn] 15 ls st μ := run_blk (by decide +kernel) d ls st μ
theorem bk1157_14 (d : Nat) (ls st : List XV) (μ : XM) : run d 1157 14 ls st μ = bx d 1157 [.ireturn] 15 ls st μ := run_blk (by decide +kernel) d ls st μ
theorem bk1158_0 (d : Nat) (ls st : List XV) (μ : XM) : run d 1158 0 ls st μ = bx d 1158 [.aload_n 0, .getfield 1150, .ifCond .ne 10, .bipush (-3), .ireturn] 10 ls st μ := run_blk (by decide +kernel) d ls st μ
theorem bk1158_10 (d : Nat) (ls st : List XV) (μ : XM) : run d 1158 10 ls st μ = bx d 1158 [.iconst 0, .istore_n 2, .iconst 0, .istore_n 3] 14 ls st μ := run_blk (by decide +kernel) d ls st μ
theorem bk1158_14 (d : Nat) (ls st : List XV) (μ : XM) : run d 1158 14 ls st μ = bx d 1158 [.iload_n 3, .aload_n 0, .getfield 1148, .if_icmp .ge 50, .aload_n 0, .getfield 1146, .iload_n 3, .baload, .ifCond .ne 34, .goto 44] 34 ls st μ := run_blk (by decide +kernel) d ls st μ
theorem bk1158_34 (d : Nat) (ls st : List XV) (μ : XM) : run d 1158 34 ls st μ = bx d 1158 [.iload_n 2, .iload_n 1, .if_icmp .ne 41, .iload_n 3, .ireturn] 41 ls st μ := run_blk (by decide +kernel) d ls st μ
theorem bk1158_41 (d : Nat) (ls st : List XV) (μ : XM) : run d 1158 41 ls st μ = bx d 1158 [.iinc 2 1, .iinc 3 1, .goto 14] 50 ls st μ := run_blk (by decide +kernel) d ls st μ
theorem bk1158_44 (d : Nat) (ls st : List XV) (μ : XM) : run d 1158 44 ls st μ = bx d 1158 [.iinc 3 1, .goto 14] 50 ls st μ := run_blk (by decide +kernel) d ls st μ
theorem bk1158_50 (d : Nat) (ls st : List XV) (μ : XM) : run d 1158 50 ls st μ = bx d 1158 [.iload_n 1, .iconst (-1), .if_icmp .ne 59, .iload_n 2, .goto 60] 59 ls st μ := run_blk (by decide +kernel) d ls st μ
theorem bk1158_59 (d : Nat) (ls st : List XV) (μ : XM) : run d 1158 59 ls st μ = bx d 1158 [.iconst (-1), .ireturn] 61 ls st μ := run_blk (by decide +kernel) d ls st μ
theorem bk1158_60 (d : Nat) (ls st : List XV) (μ : XM) : run d 1158 60 ls st μ = bx d 1158 [.ireturn] 61 ls st μ := run_blk (by decide +kernel) d ls st μ
theorem bk1159_0 (d : Nat) (ls st : List XV) (μ : XM) : run d 1159 0 ls st μ = bx d 1159 [.aload_n 0, .getfield 1150, .ifCond .eq 15, .aload_n 0, .iconst (-1), .invokevirtual 1158, .ifCond .ne 18, .bipush (-3), .ireturn] 18 ls st μ := run_blk (by decide +kernel) d ls st μ
theorem bk1159_15 (d : Nat) (ls st : List XV) (μ : XM) : run d 1159 15 ls st μ = bx d 1159 [.bipush (-3), .ireturn] 18 ls st μ := run_blk (by decide +kernel) d ls st μ
theorem bk1159_18 (d : Nat) (ls st : List XV) (μ : XM) : run d 1159 18 ls st μ = bx d 1159 [.iconst (-1), .istore_n 1, .sipush 1000, .istore_n 2, .iconst 0, .istore_n 3] 26 ls st μ := run_blk (by decide +kernel) d ls st μ
theorem bk1159_26 (d : Nat) (ls st : List XV) (μ : XM) : run d 1159 26 ls st μ = bx d 1159 [.iload_n 3, .aload_n 0, .getfield 1100, .if_icmp .ge 179, .iconst 0, .istore 4] 37 ls st μ := run_blk (by decide +kernel) d ls st μ
theorem bk1159_37 (d : Nat) (ls st : List XV) (μ : XM) : run d 1159 37 ls st μ = bx d 1159 [.iload 4, .aload_n 0, .getfield 1100, .if_icmp .ge 173, .iconst 0, .istore 5] 49 ls st μ := run_blk (by decide +kernel) d ls st μ
theorem bk1159_49 (d : Nat) (ls st : List XV) (μ : XM) : run d 1159 49 ls st μ = bx d 1159 [.iload 5, .bipush 97, .if_icmp .ge 70, .aload_n 0, .getfield 1151, .iload 5, .iconst 0, .iastore, .iinc 5 1, .goto 49] 70 ls st μ := run_blk (by decide +kernel) d ls st μ
theorem bk1159_70 (d : Nat) (ls st : List XV) (μ : XM) : run d 1159 70 ls st μ = bx d 1159 [.iconst 0, .istore 5, .iconst 0, .istore 6] 76 ls st μ := run_blk (by decide +kernel) d ls st μ
theorem bk1159_76 (d : Nat) (ls st : List XV) (μ : XM) : run d 1159 76 ls st μ = bx d 1159 [.iload 6, .aload_n 0, .getfield 1148, .if_icmp .ge 147, .aload_n 0, .getfield 1146, .iload 6, .baload, .ifCond .ne 98, .goto 141] 98 ls st μ := run_blk (by decide +kernel) d ls st μ
theorem bk1159_98 (d : Nat) (ls st : List XV) (μ : XM) : run d 1159 98 ls st μ = bx d 1159 [.aload_n 0, .iload 6, .iload_n 3, .iload 4, .invokevirtual 1156, .istore 7, .aload_n 0, .getfield 1151, .iload 7, .dup2, .iaload, .iconst 1, .iadd, .iastore, .aload_n 0, .getfield 1151, .iload 7, .iaload, .iload 5, .if_icmp .le 141, .aload_n 0, .getfield 1151, .iload 7, .iaload, .istore 5, .iinc 6 1, .goto 76] 147 ls st μ := run_blk (by decide +kernel) d ls st μ
theorem bk1159_141 (d : Nat) (ls st : List XV) (μ : XM) : run d 1159 141 ls st μ = bx d 1159 [.iinc 6 1, .goto 76] 147 ls st μ := run_blk (by decide +kernel) d ls st μ
theorem bk1159_147 (d : Nat) (ls st : List XV) (μ : XM) : run d 1159 147 ls st μ = bx d 1159 [.iload 5, .iload_n 2, .if_icmp .lt 156, .goto 167] 156 ls st μ := run_blk (by decide +kernel) d ls st μ
theorem bk1159_156 (d : Nat) (ls st : List XV) (μ : XM) : run d 1159 156 ls st μ = bx d 1159 [.iload 5, .istore_n 2, .bipush 10, .iload_n 3, .imul, .iload 4, .iadd, .istore_n 1, .iinc 4 1, .goto 37] 173 ls st μ := run_blk (by decide +kernel) d ls st μ
theorem bk1159_167 (d : Nat) (ls st : List XV) (μ : XM) : run d 1159 167 ls st μ = bx d 1159 [.iinc 4 1, .goto 37] 173 ls st μ := run_blk (by decide +kernel) d ls st μ
theorem bk1159_173 (d : Nat) (ls st : List XV) (μ : XM) : run d 1159 173 ls st μ = bx d 1159 [.iinc 3 1, .goto 26] 179 ls st μ := run_blk (by decide +kernel) d ls st μ
theorem bk1159_179 (d : Nat) (ls st : List XV) (μ : XM) : run d 1159 179 ls st μ = bx d 1159 [.iload_n 1, .ireturn] 181 ls st μ := run_blk (by decide +kernel) d ls st μ
theorem bk1160_0 (d : Nat) (ls st : List XV) (μ : XM) : run d 1160 0 ls st μ = bx d 1160 [.aload_n 0, .iload_n 2, .iload_n 3, .invokevirtual 1105, .ifCond .eq 21, .iload_n 1, .i2l, .jsr_w (-1), .lconst 1, .invokestatic 1106, .ifCond .ne 24, .bipush (-5), .ireturn] 24 ls st μ := run_blk (by decide +kernel) d ls st μ
theorem bk1160_21 (d : Nat) (ls st : List XV) (μ : XM) : run d 1160 21 ls st μ = bx d 1160 [.bipush (-5), .ireturn] 24 ls st μ := run_blk (by decide +kernel) d ls st μ
theorem bk1160_24 (d : Nat) (ls st : List XV) (μ : XM) : run d 1160 24 ls st μ = bx d 1160 [.aload_n 0, .getfield 1105, .bipush 6, .iload_n 2, .imul, .iload_n 3, .iadd, .iaload, .istore 4, .iload_n 1, .ifCond .lt 52, .iload 4, .iconst 1, .iload_n 1, .isub, .if_icmp .ne 52, .bipush (-3), .ireturn] 52 ls st μ := run_blk (by decide +kernel) d ls st μ
theorem bk1160_52 (d : Nat) (ls st : List XV) (μ : XM) : run d 1160 52 ls st μ = bx d 1160 [.aload_n 0, .getfield 1105, .bipush 6, .iload_n 2, .imul, .iload_n 3, .iadd, .iload_n 1, .iastore, .iload 4, .ireturn] 67 ls st μ := run_blk (by decide +kernel) d ls st μ
theorem bk1161_0 (d : Nat) (ls st : List XV) (μ : XM) : run d 1161 0 ls st μ = bx d 1161 [.iconst 0, .istore_n 1] 2 ls st μ := run_blk (by decide +kernel) d ls st μ
theorem bk1161_2 (d : Nat) (ls st : List XV) (μ : XM) : run d 1161 2 ls st μ = bx d 1161 [.iload_n 1, .aload_n 0, .getfield 1100, .if_icmp .ge 27, .aload_n 0, .iload_n 1, .invokevirtual 1162, .iconst 3, .if_icmp .ne 21, .iload_n 1, .ireturn] 21 ls st μ := run_blk (by decide +kernel) d ls st μ
theorem bk1161_21 (d : Nat) (ls st : List XV) (μ : XM) : run d 1161 21 ls st μ = bx d 1161 [.iinc 1 1, .goto 2] 27 ls st μ := run_blk (by decide +kernel) d ls st μ
theorem bk1161_27 (d : Nat) (ls st : List XV) (μ : XM) : run d 1161 27 ls st μ = bx d 1161 [.bipush (-5), .ireturn] 30 ls st μ := run_blk (by decide +kernel) d ls st μ
theorem bk1162_0 (d : Nat) (ls st : List XV) (μ : XM) : run d 1162 0 ls st μ = bx d 1162 [.iconst 1, .iload_n 1, .ishl, .istore_n 2, .iconst 0, .istore_n 3, .iconst 0, .istore 4] 9 ls st μ := run_blk (by decide +kernel) d ls st μ
theorem bk1162_9 (d : Nat) (ls st : List XV) (μ : XM) : run d 1162 9 ls st μ = bx d 1162 [.iload 4, .bipush 12, .if_icmp .ge 98, .iload 4, .iconst 2, .irem, .istore 5] 22 ls st μ := run_blk (by decide +kernel) d ls st μ
theorem bk1162_22 (d : Nat) (ls st : List XV) (μ : XM) : run d 1162 22 ls st μ = bx d 1162 [.iload 5, .aload_n 0, .getfield 1100, .iconst 1, .isub, .if_icmp .ge 92, .iload_n 2, .iload 5, .ishr, .iconst 3, .iand, .ifCond .ne 45, .goto 86] 45 ls st μ := run_blk (by decide +kernel) d ls st μ
theorem bk1162_45 (d : Nat) (ls st : List XV) (μ : XM) : run d 1162 45 ls st μ = bx d 1162 [.iload_n 2, .iconst 3, .iload 5, .ishl, .ior, .istore_n 2, .aload_n 0, .getfield 1105, .bipush 6, .iload 4, .imul, .iload 5, .iadd, .iaload, .ifCond .lt 86, .iload_n 3, .iconst 1, .aload_n 0, .getfield 1105, .bipush 6, .iload 4, .imul, .iload 5, .iadd, .iaload, .ishl, .ior, .istore_n 3, .iinc 5 2, .goto 22] 92 ls st μ := run_blk (by decide +kernel) d ls st μ
theorem bk1162_86 (d : Nat) (ls st : List XV) (μ : XM) : run d 1162 86 ls st μ = bx d 1162 [.iinc 5 2, .goto 22] 92 ls st μ := run_blk (by decide +kernel) d ls st μ
theorem bk1162_92 (d : Nat) (ls st : List XV) (μ : XM) : run d 1162 92 ls st μ = bx d 1162 [.iinc 4 1, .goto 9] 98 ls st μ := run_blk (by decide +kernel) d ls st μ
theorem bk1162_98 (d : Nat) (ls st : List XV) (μ : XM) : run d 1162 98 ls st μ = bx d 1162 [.iload_n 3, .ireturn] 100 ls st μ := run_blk (by decide +kernel) d ls st μ
theorem bk1163_0 (d : Nat) (ls st : List XV) (μ : XM) : run d 1163 0 ls st μ = bx d 1163 [.iconst 0, .istore_n 2, .iload_n 1, .tableswitch 116 0 7 #[48, 53, 86, 91, 96, 101, 106, 111]] 48 ls st μ := run_blk (by decide +kernel) d ls st μ
theorem bk1163_48 (d : Nat) (ls st : List XV) (μ : XM) : run d 1163 48 ls st μ = bx d 1163 [.aload_n 0, .getfield 1100, .ireturn] 53 ls st μ := run_blk (by decide +kernel) d ls st μ
theorem bk1163_53 (d : Nat) (ls st : List XV) (μ : XM) : run d 1163 53 ls st μ = bx d 1163 [.iconst 0, .istore_n 3] 55 ls st μ := run_blk (by decide +kernel) d ls st μ
theorem bk1163_55 (d : Nat) (ls st : List XV) (μ : XM) : run d 1163 55 ls st μ = bx d 1163 [.iload_n 3, .bipush 72, .if_icmp .ge 84, .iload_n 2, .aload_n 0, .getfield 1104, .iload_n 3, .iaload, .ifCond .lt 75, .iconst 1, .goto 76] 75 ls st μ := run_blk (by decide +kernel) d ls st μ
theorem bk1163_75 (d : Nat) (ls st : List XV) (μ : XM) : run d 1163 75 ls st μ = bx d 1163 [.iconst 0, .iadd, .istore_n 2, .iinc 3 1, .goto 55] 84 ls st μ := run_blk (by decide +kernel) d ls st μ
theorem bk1163_76 (d : Nat) (ls st : List XV) (μ : XM) : run d 1163 76 ls st μ = bx d 1163 [.iadd, .istore_n 2, .iinc 3 1, .goto 55] 84 ls st μ := run_blk (by decide +kernel) d ls st μ
theorem bk1163_84 (d : Nat) (ls st : List XV) (μ : XM) : run d 1163 84 ls st μ = bx d 1163 [.iload_n 2, .ireturn] 86 ls st μ := run_blk (by decide +kernel) d ls st μ
theorem bk1163_86 (d : Nat) (ls st : List XV) (μ : XM) : run d 1163 86 ls st μ = bx d 1163 [.aload_n 0, .getfield 1121, .ireturn] 91 ls st μ := run_blk (by decide +kernel) d ls st μ
theorem bk1163_91 (d : Nat) (ls st : List XV) (μ : XM) : run d 1163 91 ls st μ = bx d 1163 [.aload_n 0, .getfield 1141, .ireturn] 96 ls st μ := run_blk (by decide +kernel) d ls st μ
theorem bk1163_96 (d : Nat) (ls st : List XV) (μ : XM) : run d 1163 96 ls st μ = bx d 1163 [.aload_n 0, .getfield 1142, .ireturn] 101 ls st μ := run_blk (by decide +kernel) d ls st μ
theorem bk1163_101 (d : Nat) (ls st : List XV) (μ : XM) : run d 1163 101 ls st μ = bx d 1163 [.aload_n 0, .getfield 1130, .ireturn] 106 ls st μ := run_blk (by decide +kernel) d ls st μ
theorem bk1163_106 (d : Nat) (ls st : List XV) (μ : XM) : run d 1163 106 ls st μ = bx d 1163 [.aload_n 0, .invokevirtual 1164, .ireturn] 111 ls st μ := run_blk (by decide +kernel) d ls st μ
theorem bk1163_111 (d : Nat) (ls st : List XV) (μ : XM) : run d 1163 111 ls st μ = bx d 1163 [.aload_n 0, .getfield 1107, .ireturn] 116 ls st μ := run_blk (by decide +kernel) d ls st μ
theorem bk1163_116 (d : Nat) (ls st : List XV) (μ : XM) : run d 1163 116 ls st μ = bx d 1163 [.iconst (-1), .ireturn] 118 ls st μ := run_blk (by decide +kernel) d ls st μ
theorem bk1164_0 (d : Nat) (ls st : List XV) (μ : XM) : run d 1164 0 ls st μ = bx d 1164 [.iconst 0, .istore_n 1, .iconst 0, .istore_n 2] 4 ls st μ := run_blk (by decide +kernel) d ls st μ
theorem bk1164_4 (d : Nat) (ls st : List XV) (μ : XM) : run d 1164 4 ls st μ = bx d 1164 [.iload_n 2, .bipush 12, .if_icmp .ge 84, .iconst 0, .istore_n 3, .bipush 6, .iload_n 2, .imul, .istore 4] 18 ls st μ := run_blk (by decide +kernel) d ls st μ
theorem bk1164_18 (d : Nat) (ls st : List XV) (μ : XM) : run d 1164 18 ls st μ = bx d 1164 [.iload 4, .bipush 6, .iload_n 2, .imul, .bipush 6, .iadd, .if_icmp .ge 66, .iload_n 3, .ifCond .ne 54, .aload_n 0, .getfield 1103, .iload 4, .iaload, .ifCond .gt 54, .aload_n 0, .getfield 1104, .iload 4, .iaload, .ifCond .lt 58, .iconst 1, .goto 59] 58 ls st μ := run_blk (by decide +kernel) d ls st μ
theorem bk1164_54 (d : Nat) (ls st : List XV) (μ : XM) : run d 1164 54 ls st μ = bx d 1164 [.iconst 1, .goto 59] 58 ls st μ := run_blk (by decide +kernel) d ls st μ
theorem bk1164_58 (d : Nat) (ls st : List XV) (μ : XM) : run d 1164 58 ls st μ = bx d 1164 [.iconst 0, .istore_n 3, .iinc 4 1, .goto 18] 66 ls st μ := run_blk (by decide +kernel) d ls st μ
theorem bk1164_59 (d : Nat) (ls st : List XV) (μ : XM) : run d 1164 59 ls st μ = bx d 1164 [.istore_n 3, .iinc 4 1, .goto 18] 66 ls st μ := run_blk (by decide +kernel) d ls st μ
theorem bk1164_66 (d : Nat) (ls st : List XV) (μ : XM) : run d 1164 66 ls st μ = bx d 1164 [.iload_n 1, .iload_n 3, .ifCond .eq 75, .iconst 1, .goto 76] 75 ls st μ := run_blk (by decide +kernel) d ls st μ
theorem bk1164_75 (d : Nat) (ls st : List XV) (μ : XM) : run d 1164 75 ls st μ = bx d 1164 [.iconst 0, .iadd, .istore_n 1, .iinc 2 1, .goto 4] 84 ls st μ := run_blk (by decide +kernel) d ls st μ
theorem bk1164_76 (d : Nat) (ls st : List XV) (μ : XM) : run d 1164 76 ls st μ = bx d 1164 [.iadd, .istore_n 1, .iinc 2 1, .goto 4] 84 ls st μ := run_blk (by decide +kernel) d ls st μ
theorem bk1164_84 (d : Nat) (ls st : List XV) (μ : XM) : run d 1164 84 ls st μ = bx d 1164 [.iload_n 1, .ireturn] 86 ls st μ := run_blk (by decide +kernel) d ls st μ
theorem bk1200_0 (d : Nat) (ls st : List XV) (μ : XM) : run d 1200 0 ls st μ = bx d 1200 [.iload_n 1, .aload_n 0, .arraylength, .if_icmp .ge 12, .aload_n 0, .iload_n 1, .iaload, .goto 13] 12 ls st μ := run_blk (by decide +kernel) d ls st μ
theorem bk1200_12 (d : Nat) (ls st : List XV) (μ : XM) : run d 1200 12 ls st μ = bx d 1200 [.iconst 0, .ireturn] 14 ls st μ := run_blk (by decide +kernel) d ls st μ
theorem bk1200_13 (d : Nat) (ls st : List XV) (μ : XM) : run d 1200 13 ls st μ = bx d 1200 [.ireturn] 14 ls st μ := run_blk (by decide +kernel) d ls st μ
theorem bk1201_0 (d : Nat) (ls st : List XV) (μ : XM) : run d 1201 0 ls st μ = bx d 1201 [.new 10, .dup, .aload_n 0, .iconst 0, .invokestatic 1200, .invokespecial 1000, .astore_n 1, .new 11, .dup, .aload_n 0, .iconst 0, .invokestatic 1200, .invokespecial 1100, .astore_n 2, .iconst 1, .istore_n 3] 28 ls st μ := run_blk (by decide +kernel) d ls st μ
theorem bk1201_28 (d : Nat) (ls st : List XV) (μ : XM) : run d 1201 28 ls st μ = bx d 1201 [.iload_n 3, .aload_n 0, .arraylength, .iconst 5, .isub, .if_icmp .gt 1072, .aload_n 0, .iload_n 3, .iaload, .bipush 31, .iand, .tableswitch 1066 0 29 #[176, 209, 252, 295, 328, 371, 404, 447, 460, 473, 486, 519, 532, 565, 578, 641, 654, 677, 720, 773, 806, 839, 852, 905, 918, 951, 974, 987, 1030, 1043]] 176 ls st μ := run_blk (by decide +kernel) d ls st μ
theorem bk1201_176 (d : Nat) (ls st : List XV) (μ : XM) : run d 1201 176 ls st μ = bx d 1201 [.aload_n 1, .aload_n 0, .iload_n 3, .iconst 1, .iadd, .iaload, .aload_n 0, .iload_n 3, .iconst 2, .iadd, .iaload, .invokevirtual 1001, .aload_n 2, .aload_n 0, .iload_n 3, .iconst 1, .iadd, .iaload, .aload_n 0, .iload_n 3, .iconst 2, .iadd, .iaload, .invokevirtual 1102, .if_icmp .eq 1066, .iconst 0, .freturn] 209 ls st μ := run_blk (by decide +kernel) d ls st μ
theorem bk1201_209 (d : Nat) (ls st : List XV) (μ : XM) : run d 1201 209 ls st μ = bx d 1201 [.aload_n 1, .aload_n 0, .iload_n 3, .iconst 1, .iadd, .iaload, .aload_n 0, .iload_n 3, .iconst 2, .iadd, .iaload, .aload_n 0, .iload_n 3, .iconst 3, .iadd, .iaload, .invokevirtual 1002, .aload_n 2, .aload_n 0, .iload_n 3, .iconst 1, .iadd, .iaload, .aload_n 0, .iload_n 3, .iconst 2, .iadd, .iaload, .aload_n 0, .iload_n 3, .iconst 3, .iadd, .iaload, .invokevirtual 1104, .if_icmp .eq 1066, .iconst 0, .freturn] 252 ls st μ := run_blk (by decide +kernel) d ls st μ
theorem bk1201_252 (d : Nat) (ls st : List XV) (μ : XM) : run d 1201 252 ls st μ = bx d 1201 [.aload_n 1, .aload_n 0, .iload_n 3, .iconst 1, .iadd, .iaload, .aload_n 0, .iload_n 3, .iconst 2, .iadd, .iaload, .aload_n 0, .iload_n 3, .iconst 3, .iadd, .iaload, .invokevirtual 1004, .aload_n 2, .aload_n 0, .iload_n 3, .iconst 1, .iadd, .iaload, .aload_n 0, .iload_n 3, .iconst 2, .iadd, .iaload, .aload_n 0, .iload_n 3, .iconst 3, .iadd, .iaload, .invokevirtual 1107, .if_icmp .eq 1066, .iconst 0, .freturn] 295 ls st μ := run_blk (by decide +kernel) d ls st μ
theorem bk1201_295 (d : Nat) (ls st : List XV) (μ : XM) : run d 1201 295 ls st μ = bx d 1201 [.aload_n 1, .aload_n 0, .iload_n 3, .iconst 1, .iadd, .iaload, .aload_n 0, .iload_n 3, .iconst 2, .iadd, .iaload, .invokevirtual 1005, .aload_n 2, .aload_n 0, .iload_n 3, .iconst 1, .iadd, .iaload, .aload_n 0, .iload_n 3, .iconst 2, .iadd, .iaload, .invokevirtual 1108, .if_icmp .eq 1066, .iconst 0, .freturn] 328 ls st μ := run_blk (by decide +kernel) d ls st μ
theorem bk1201_328 (d : Nat) (ls st : List XV) (μ : XM) : run d 1201 328 ls st μ = bx d 1201 [.aload_n 1, .aload_n 0, .iload_n 3, .iconst 1, .iadd, .iaload, .aload_n 0, .iload_n 3, .iconst 2, .iadd, .iaload, .aload_n 0, .iload_n 3, .iconst 3, .iadd, .iaload, .invokevirtual 1006, .aload_n 2, .aload_n 0, .iload_n 3, .iconst 1, .iadd, .iaload, .aload_n 0, .iload_n 3, .iconst 2, .iadd, .iaload, .aload_n 0, .iload_n 3, .iconst 3, .iadd, .iaload, .invokevirtual 1109, .if_icmp .eq 1066, .iconst 0, .freturn] 371 ls st μ := run_blk (by decide +kernel) d ls st μ
theorem bk1201_371 (d : Nat) (ls st : List XV) (μ : XM) : run d 1201 371 ls st μ = bx d 1201 [.aload_n 1, .aload_n 0, .iload_n 3, .iconst 1, .iadd, .iaload, .aload_n 0, .iload_n 3, .iconst 2, .iadd, .iaload, .invokevirtual 1007, .aload_n 2, .aload_n 0, .iload_n 3, .iconst 1, .iadd, .iaload, .aload_n 0, .iload_n 3, .iconst 2, .iadd, .iaload, .invokevirtual 1114, .if_icmp .eq 1066, .iconst 0, .freturn] 404 ls st μ := run_blk (by decide +kernel) d ls st μ
theorem bk1201_404 (d : Nat) (ls st : List XV) (μ : XM) : run d 1201 404 ls st μ = bx d 1201 [.aload_n 1, .aload_n 0, .iload_n 3, .iconst 1, .iadd, .iaload, .aload_n 0, .iload_n 3, .iconst 2, .iadd, .iaload, .aload_n 0, .iload_n 3, .iconst 3, .iadd, .iaload, .invokevirtual 1009, .aload_n 2, .aload_n 0, .iload_n 3, .iconst 1, .iadd, .iaload, .aload_n 0, .iload_n 3, .iconst 2, .iadd, .iaload, .aload_n 0, .iload_n 3, .iconst 3, .iadd, .iaload, .invokevirtual 1119, .if_icmp .eq 1066, .iconst 0, .freturn] 447 ls st μ := run_blk (by decide +kernel) d ls st μ
theorem bk1201_447 (d : Nat) (ls st : List XV) (μ : XM) : run d 1201 447 ls st μ = bx d 1201 [.aload_n 1, .invokevirtual 1010, .aload_n 2, .invokevirtual 1120, .if_icmp .eq 1066, .iconst 0, .freturn] 460 ls st μ := run_blk (by decide +kernel) d ls st μ
theorem bk1201_460 (d : Nat) (ls st : List XV) (μ : XM) : run d 1201 460 ls st μ = bx d 1201 [.aload_n 1, .invokevirtual 1011, .aload_n 2, .invokevirtual 1121, .if_icmp .eq 1066, .iconst 0, .freturn] 473 ls st μ := run_blk (by decide +kernel) d ls st μ
theorem bk1201_473 (d : Nat) (ls st : List XV) (μ : XM) : run d 1201 473 ls st μ = bx d 1201 [.aload_n 1, .invokevirtual 1012, .aload_n 2, .invokevirtual 1122, .if_icmp .eq 1066, .iconst 0, .freturn] 486 ls st μ := run_blk (by decide +kernel) d ls st μ
theorem bk1201_486 (d : Nat) (ls st : List XV) (μ : XM) : run d 1201 486 ls st μ = bx d 1201 [.aload_n 1, .aload_n 0, .iload_n 3, .iconst 1, .iadd, .iaload, .aload_n 0, .iload_n 3, .iconst 2, .iadd, .iaload, .invokevirtual 1013, .aload_n 2, .aload_n 0, .iload_n 3, .iconst 1, .iadd, .iaload, .aload_n 0, .iload_n 3, .iconst 2, .iadd, .iaload, .invokevirtual 1124, .if_icmp .eq 1066, .iconst 0, .freturn] 519 ls st μ := run_blk (by decide +kernel) d ls st μ
theorem bk1201_519 (d : Nat) (ls st : List XV) (μ : XM) : run d 1201 519 ls st μ = bx d 1201 [.aload_n 1, .invokevirtual 1014, .aload_n 2, .invokevirtual 1125, .if_icmp .eq 1066, .iconst 0, .freturn] 532 ls st μ := run_blk (by decide +kernel) d ls st μ
theorem bk1201_532 (d : Nat) (ls st : List XV) (μ : XM) : run d 1201 532 ls st μ = bx d 1201 [.aload_n 1, .aload_n 0, .iload_n 3, .iconst 1, .iadd, .iaload, .aload_n 0, .iload_n 3, .iconst 2, .iadd, .iaload, .invokevirtual 1015, .aload_n 2, .aload_n 0, .iload_n 3, .iconst 1, .iadd, .iaload, .aload_n 0, .iload_n 3, .iconst 2, .iadd, .iaload, .invokevirtual 1126, .if_icmp .eq 1066, .iconst 0, .freturn] 565 ls st μ := run_blk (by decide +kernel) d ls st μ
theorem bk1201_565 (d : Nat) (ls st : List XV) (μ : XM) : run d 1201 565 ls st μ = bx d 1201 [.aload_n 1, .invokevirtual 1016, .aload_n 2, .invokevirtual 1127, .if_icmp .eq 1066, .iconst 0, .freturn] 578 ls st μ := run_blk (by decide +kernel) d ls st μ
theorem bk1201_578 (d : Nat) (ls st : List XV) (μ : XM) : run d 1201 578 ls st μ = bx d 1201 [.aload_n 1, .aload_n 0, .iload_n 3, .iconst 1, .iadd, .iaload, .i2l, .bipush 32, .lshl, .aload_n 0, .iload_n 3, .iconst 2, .iadd, .iaload, .i2l, .jsr_w 4294967295, .land, .lor, .aload_n 0, .iload_n 3, .iconst 3, .iadd, .iaload, .invokevirtual 1017, .aload_n 2, .aload_n 0, .iload_n 3, .iconst 1, .iadd, .iaload, .i2l, .bipush 32, .lshl, .aload_n 0, .iload_n 3, .iconst 2, .iadd, .iaload, .i2l, .jsr_w 4294967295, .land, .lor, .aload_n 0, .iload_n 3, .iconst 3, .iadd, .iaload, .invokevirtual 1132, .if_icmp .eq 1066, .iconst 0, .freturn] 641 ls st μ := run_blk (by decide +kernel) d ls st μ
theorem bk1201_641 (d : Nat) (ls st : List XV) (μ : XM) : run d 1201 641 ls st μ = bx d 1201 [.aload_n 1, .invokevirtual 1018, .aload_n 2, .invokevirtual 1133, .if_icmp .eq 1066, .iconst 0, .freturn] 654 ls st μ := run_blk (by decide +kernel) d ls st μ
theorem bk1201_654 (d : Nat) (ls st : List XV) (μ : XM) : run d 1201 654 ls st μ = bx d 1201 [.aload_n 1, .aload_n 0, .iload_n 3, .iconst 1, .iadd, .iaload, .invokevirtual 1019, .aload_n 2, .aload_n 0, .iload_n 3, .iconst 1, .iadd, .iaload, .invokevirtual 1144, .if_icmp .eq 1066, .iconst 0, .freturn] 677 ls st μ := run_blk (by decide +kernel) d ls st μ
theorem bk1201_677 (d : Nat) (ls st : List XV) (μ : XM) : run d 1201 677 ls st μ = bx d 1201 [.aload_n 1, .aload_n 0, .iload_n 3, .iconst 1, .iadd, .iaload, .aload_n 0, .iload_n 3, .iconst 2, .iadd, .iaload, .aload_n 0, .iload_n 3, .iconst 3, .iadd, .iaload, .invokevirtual 1020, .aload_n 2, .aload_n 0, .iload_n 3, .iconst 1, .iadd, .iaload, .aload_n 0, .iload_n 3, .iconst 2, .iadd, .iaload, .aload_n 0, .iload_n 3, .iconst 3, .iadd, .iaload, .invokevirtual 1145, .if_icmp .eq 1066, .iconst 0, .freturn] 720 ls st μ := run_blk (by decide +kernel) d ls st μ
theorem bk1201_720 (d : Nat) (ls st : List XV) (μ : XM) : run d 1201 720 ls st μ = bx d 1201 [.aload_n 1, .aload_n 0, .iload_n 3, .iconst 1, .iadd, .iaload, .i2l, .bipush 32, .lshl, .aload_n 0, .iload_n 3, .iconst 2, .iadd, .iaload, .i2l, .jsr_w 4294967295, .land, .lor, .invokevirtual 1022, .aload_n 2, .aload_n 0, .iload_n 3, .iconst 1, .iadd, .iaload, .i2l, .bipush 32, .lshl, .aload_n 0, .iload_n 3, .iconst 2, .iadd, .iaload, .i2l, .jsr_w 4294967295, .land, .lor, .invokevirtual 1146, .if_icmp .eq 1066, .iconst 0, .freturn] 773 ls st μ := run_blk (by decide +kernel) d ls st μ
theorem bk1201_773 (d : Nat) (ls st : List XV) (μ : XM) : run d 1201 773 ls st μ = bx d 1201 [.aload_n 1, .aload_n 0, .iload_n 3, .iconst 1, .iadd, .iaload, .aload_n 0, .iload_n 3, .iconst 2, .iadd, .iaload, .invokevirtual 1023, .aload_n 2, .aload_n 0, .iload_n 3, .iconst 1, .iadd, .iaload, .aload_n 0, .iload_n 3, .iconst 2, .iadd, .iaload, .invokevirtual 1147, .if_icmp .eq 1066, .iconst 0, .freturn] 806 ls st μ := run_blk (by decide +kernel) d ls st μ
theorem bk1201_806 (d : Nat) (ls st : List XV) (μ : XM) : run d 1201 806 ls st μ = bx d 1201 [.aload_n 1, .aload_n 0, .iload_n 3, .iconst 1, .iadd, .iaload, .aload_n 0, .iload_n 3, .iconst 2, .iadd, .iaload, .invokevirtual 1024, .aload_n 2, .aload_n 0, .iload_n 3, .iconst 1, .iadd, .iaload, .aload_n 0, .iload_n 3, .iconst 2, .iadd, .iaload, .invokevirtual 1149, .if_icmp .eq 1066, .iconst 0, .freturn] 839 ls st μ := run_blk (by decide +kernel) d ls st μ
theorem bk1201_839 (d : Nat) (ls st : List XV) (μ : XM) : run d 1201 839 ls st μ = bx d 1201 [.aload_n 1, .invokevirtual 1025, .aload_n 2, .invokevirtual 1152, .if_icmp .eq 1066, .iconst 0, .freturn] 852 ls st μ := run_blk (by decide +kernel) d ls st μ
theorem bk1201_852 (d : Nat) (ls st : List XV) (μ : XM) : run d 1201 852 ls st μ = bx d 1201 [.aload_n 1, .aload_n 0, .iload_n 3, .iconst 1, .iadd, .iaload, .aload_n 0, .iload_n 3, .iconst 2, .iadd, .iaload, .aload_n 0, .iload_n 3, .iconst 3, .iadd, .iaload, .aload_n 0, .iload_n 3, .iconst 4, .iadd, .iaload, .invokevirtual 1026, .aload_n 2, .aload_n 0, .iload_n 3, .iconst 1, .iadd, .iaload, .aload_n 0, .iload_n 3, .iconst 2, .iadd, .iaload, .aload_n 0, .iload_n 3, .iconst 3, .iadd, .iaload, .aload_n 0, .iload_n 3, .iconst 4, .iadd, .iaload, .invokevirtual 1153, .if_icmp .eq 1066, .iconst 0, .freturn] 905 ls st μ := run_blk (by decide +kernel) d ls st μ
theorem bk1201_905 (d : Nat) (ls st : List XV) (μ : XM) : run d 1201 905 ls st μ = bx d 1201 [.aload_n 1, .invokevirtual 1027, .aload_n 2, .invokevirtual 1154, .if_icmp .eq 1066, .iconst 0, .freturn] 918 ls st μ := run_blk (by decide +kernel) d ls st μ
theorem bk1201_918 (d : Nat) (ls st : List XV) (μ : XM) : run d 1201 918 ls st μ = bx d 1201 [.aload_n 1, .aload_n 0, .iload_n 3, .iconst 1, .iadd, .iaload, .aload_n 0, .iload_n 3, .iconst 2, .iadd, .iaload, .invokevirtual 1028, .aload_n 2, .aload_n 0, .iload_n 3, .iconst 1, .iadd, .iaload, .aload_n 0, .iload_n 3, .iconst 2, .iadd, .iaload, .invokevirtual 1155, .if_icmp .eq 1066, .iconst 0, .freturn] 951 ls st μ := run_blk (by decide +kernel) d ls st μ
theorem bk1201_951 (d : Nat) (ls st : List XV) (μ : XM) : run d 1201 951 ls st μ = bx d 1201 [.aload_n 1, .aload_n 0, .iload_n 3, .iconst 1, .iadd, .iaload, .invokevirtual 1029, .aload_n 2, .aload_n 0, .iload_n 3, .iconst 1, .iadd, .iaload, .invokevirtual 1158, .if_icmp .eq 1066, .iconst 0, .freturn] 974 ls st μ := run_blk (by decide +kernel) d ls st μ
theorem bk1201_974 (d : Nat) (ls st : List XV) (μ : XM) : run d 1201 974 ls st μ = bx d 1201 [.aload_n 1, .invokevirtual 1030, .aload_n 2, .invokevirtual 1159, .if_icmp .eq 1066, .iconst 0, .freturn] 987 ls st μ := run_blk (by decide +kernel) d ls st μ
theorem bk1201_987 (d : Nat) (ls st : List XV) (μ : XM) : run d 1201 987 ls st μ = bx d 1201 [.aload_n 1, .aload_n 0, .iload_n 3, .iconst 1, .iadd, .iaload, .aload_n 0, .iload_n 3, .iconst 2, .iadd, .iaload, .aload_n 0, .iload_n 3, .iconst 3, .iadd, .iaload, .invokevirtual 1031, .aload_n 2, .aload_n 0, .iload_n 3, .iconst 1, .iadd, .iaload, .aload_n 0, .iload_n 3, .iconst 2, .iadd, .iaload, .aload_n 0, .iload_n 3, .iconst 3, .iadd, .iaload, .invokevirtual 1160, .if_icmp .eq 1066, .iconst 0, .freturn] 1030 ls st μ := run_blk (by decide +kernel) d ls st μ
theorem bk1201_1030 (d : Nat) (ls st : List XV) (μ : XM) : run d 1201 1030 ls st μ = bx d 1201 [.aload_n 1, .invokevirtual 1032, .aload_n 2, .invokevirtual 1161, .if_icmp .eq 1066, .iconst 0, .freturn] 1043 ls st μ := run_blk (by decide +kernel) d ls st μ
theorem bk1201_1043 (d : Nat) (ls st : List XV) (μ : XM) : run d 1201 1043 ls st μ = bx d 1201 [.aload_n 1, .aload_n 0, .iload_n 3, .iconst 1, .iadd, .iaload, .invokevirtual 1033, .aload_n 2, .aload_n 0, .iload_n 3, .iconst 1, .iadd, .iaload, .invokevirtual 1163, .if_icmp .eq 1066, .iconst 0, .freturn] 1066 ls st μ := run_blk (by decide +kernel) d ls st μ
theorem bk1201_1066 (d : Nat) (ls st : List XV) (μ : XM) : run d 1201 1066 ls st μ = bx d 1201 [.iinc 3 5, .goto 28] 1072 ls st μ := run_blk (by decide +kernel) d ls st μ
theorem bk1201_1072 (d : Nat) (ls st : List XV) (μ : XM) : run d 1201 1072 ls st μ = bx d 1201 [.iconst 1, .freturn] 1074 ls st μ := run_blk (by decide +kernel) d ls st μ
theorem bk1300_0 (d : Nat) (ls st : List XV) (μ : XM) : run d 1300 0 ls st μ = bx d 1300 [.iload_n 0, .iload_n 1, .irem, .istore_n 2, .iload_n 0, .iload_n 1, .ixor, .ifCond .ge 18, .iload_n 2, .ifCond .eq 18, .iload_n 2, .iload_n 1, .iadd, .ireturn] 18 ls st μ := run_blk (by decide +kernel) d ls st μ
theorem bk1300_18 (d : Nat) (ls st : List XV) (μ : XM) : run d 1300 18 ls st μ = bx d 1300 [.iload_n 2, .ireturn] 20 ls st μ := run_blk (by decide +kernel) d ls st μ
theorem bk1301_0 (d : Nat) (ls st : List XV) (μ : XM) : run d 1301 0 ls st μ = bx d 1301 [.iload_n 0, .iload_n 1, .if_icmp .gt 9, .iload_n 0, .goto 10] 9 ls st μ := run_blk (by decide +kernel) d ls st μ
theorem bk1301_9 (d : Nat) (ls st : List XV) (μ : XM) : run d 1301 9 ls st μ = bx d 1301 [.iload_n 1, .ireturn] 11 ls st μ := run_blk (by decide +kernel) d ls st μ
theorem bk1301_10 (d : Nat) (ls st : List XV) (μ : XM) : run d 1301 10 ls st μ = bx d 1301 [.ireturn] 11 ls st μ := run_blk (by decide +kernel) d ls st μ
theorem bk1302_0 (d : Nat) (ls st : List XV) (μ : XM) : run d 1302 0 ls st μ = bx d 1302 [.iload_n 0, .ifCond .ge 9, .iload_n 0, .ineg, .goto 10] 9 ls st μ := run_blk (by decide +kernel) d ls st μ
theorem bk1302_9 (d : Nat) (ls st : List XV) (μ : XM) : run d 1302 9 ls st μ = bx d 1302 [.iload_n 0, .ireturn] 11 ls st μ := run_blk (by decide +kernel) d ls st μ
theorem bk1302_10 (d : Nat) (ls st : List XV) (μ : XM) : run d 1302 10 ls st μ = bx d 1302 [.ireturn] 11 ls st μ := run_blk (by decide +kernel) d ls st μ
theorem bk1303_0 (d : Nat) (ls st : List XV) (μ : XM) : run d 1303 0 ls st μ = bx d 1303 [.iload_n 0, .iload_n 1, .if_icmp .lt 9, .iload_n 0, .goto 10] 9 ls st μ := run_blk (by decide +kernel) d ls st μ
theorem bk1303_9 (d : Nat) (ls st : List XV) (μ : XM) : run d 1303 9 ls st μ = bx d 1303 [.iload_n 1, .ireturn] 11 ls st μ := run_blk (by decide +kernel) d ls st μ
theorem bk1303_10 (d : Nat) (ls st : List XV) (μ : XM) : run d 1303 10 ls st μ = bx d 1303 [.ireturn] 11 ls st μ := run_blk (by decide +kernel) d ls st μ
theorem bk1400_0 (d : Nat) (ls st : List XV) (μ : XM) : run d 1400 0 ls st μ = bx d 1400 [.iconst 0, .istore_n 2, .aload_n 0, .arraylength, .istore_n 3] 5 ls st μ := run_blk (by decide +kernel) d ls st μ
theorem bk1400_5 (d : Nat) (ls st : List XV) (μ : XM) : run d 1400 5 ls st μ = bx d 1400 [.iload_n 2, .iload_n 3, .if_icmp .ge 20, .aload_n 0, .iload_n 2, .iload_n 1, .iastore, .iinc 2 1, .goto 5] 20 ls st μ := run_blk (by decide +kernel) d ls st μ
theorem bk1400_20 (d : Nat) (ls st : List XV) (μ : XM) : run d 1400 20 ls st μ = bx d 1400 [.return_] 21 ls st μ := run_blk (by decide +kernel) d ls st μ
theorem bk1401_0 (d : Nat) (ls st : List XV) (μ : XM) : run d 1401 0 ls st μ = bx d 1401 [.aload_n 0, .arraylength, .iload_n 1, .iload_n 2, .invokestatic 1402, .iload_n 1, .istore 5] 10 ls st μ := run_blk (by decide +kernel) d ls st μ
theorem bk1401_10 (d : Nat) (ls st : List XV) (μ : XM) : run d 1401 10 ls st μ = bx d 1401 [.iload 5, .iload_n 2, .if_icmp .ge 27, .aload_n 0, .iload 5, .lload_n 3, .lastore, .iinc 5 1, .goto 10] 27 ls st μ := run_blk (by decide +kernel) d ls st μ
theorem bk1401_27 (d : Nat) (ls st : List XV) (μ : XM) : run d 1401 27 ls st μ = bx d 1401 [.return_] 28 ls st μ := run_blk (by decide +kernel) d ls st μ
theorem bk1402_0 (d : Nat) (ls st : List XV) (μ : XM) : run d 1402 0 ls st μ = bx d 1402 [.iload_n 1, .iload_n 2, .if_icmp .le 46] 5 ls st μ := run_blk (by decide +kernel) d ls st μ
theorem bk1402_46 (d : Nat) (ls st : List XV) (μ : XM) : run d 1402 46 ls st μ = bx d 1402 [.iload_n 1, .ifCond .ge 59] 50 ls st μ := run_blk (by decide +kernel) d ls st μ
theorem bk1402_59 (d : Nat) (ls st : List XV) (μ : XM) : run d 1402 59 ls st μ = bx d 1402 [.iload_n 2, .iload_n 0, .if_icmp .le 73] 64 ls st μ := run_blk (by decide +kernel) d ls st μ
theorem bk1402_73 (d : Nat) (ls st : List XV) (μ : XM) : run d 1402 73 ls st μ = bx d 1402 [.return_] 74 ls st μ := run_blk (by decide +kernel) d ls st μ
end
