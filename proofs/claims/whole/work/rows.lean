section
-- ===== PART A: goes FIRST, ahead of the names: the tables' words, and 'selects' of the private methods out of them =====
/-- a private method of a class that the tables say can be made, by its rows of tables_1 -/
def lw_okq (q : MethodName × Nat) : Prop := (q.1.cls ≠ "java/lang/invoke/MethodHandle" ∧ q.1.cls ≠ "java/lang/invoke/VarHandle") ∧ Cond.instantiable q.1.cls q.2 ∈ tables_1 ∧ Cond.privateMethod q.1 ∈ tables_1 ∧ Cond.instanceMethod q.1 ∈ tables_1
theorem lw_p0 : lw_okq (⟨"RugReader$Tape", "tellToken", "(I)I"⟩, 10) := ⟨⟨by decide +kernel, by decide +kernel⟩, List.mem_of_getElem? (i := 30) (by decide +kernel), List.mem_of_getElem? (i := 468) (by decide +kernel), List.mem_of_getElem? (i := 469) (by decide +kernel)⟩
theorem lw_p1 : lw_okq (⟨"RugReader$Tape", "endOfRun", "(I)I"⟩, 10) := ⟨⟨by decide +kernel, by decide +kernel⟩, List.mem_of_getElem? (i := 30) (by decide +kernel), List.mem_of_getElem? (i := 482) (by decide +kernel), List.mem_of_getElem? (i := 483) (by decide +kernel)⟩
theorem lw_p2 : lw_okq (⟨"RugReader$Tape", "putRun", "(II)V"⟩, 10) := ⟨⟨by decide +kernel, by decide +kernel⟩, List.mem_of_getElem? (i := 30) (by decide +kernel), List.mem_of_getElem? (i := 486) (by decide +kernel), List.mem_of_getElem? (i := 487) (by decide +kernel)⟩
theorem lw_p3 : lw_okq (⟨"RugReader$Tape", "putToken", "(IIJ)V"⟩, 10) := ⟨⟨by decide +kernel, by decide +kernel⟩, List.mem_of_getElem? (i := 30) (by decide +kernel), List.mem_of_getElem? (i := 499) (by decide +kernel), List.mem_of_getElem? (i := 500) (by decide +kernel)⟩
theorem lw_p4 : lw_okq (⟨"RugReader$Tape", "is", "(I)Z"⟩, 10) := ⟨⟨by decide +kernel, by decide +kernel⟩, List.mem_of_getElem? (i := 30) (by decide +kernel), List.mem_of_getElem? (i := 510) (by decide +kernel), List.mem_of_getElem? (i := 511) (by decide +kernel)⟩
theorem lw_p5 : lw_okq (⟨"RugReader$HouseText", "takeLine", "(LRugReader$House;)Z"⟩, 1) := ⟨⟨by decide +kernel, by decide +kernel⟩, List.mem_of_getElem? (i := 73) (by decide +kernel), List.mem_of_getElem? (i := 514) (by decide +kernel), List.mem_of_getElem? (i := 515) (by decide +kernel)⟩
theorem lw_p6 : lw_okq (⟨"RugReader$Tape", "valueHere", "()J"⟩, 10) := ⟨⟨by decide +kernel, by decide +kernel⟩, List.mem_of_getElem? (i := 30) (by decide +kernel), List.mem_of_getElem? (i := 522) (by decide +kernel), List.mem_of_getElem? (i := 523) (by decide +kernel)⟩
theorem lw_p7 : lw_okq (⟨"RugReader$HouseText", "takeRug", "(LRugReader$House;)Z"⟩, 1) := ⟨⟨by decide +kernel, by decide +kernel⟩, List.mem_of_getElem? (i := 73) (by decide +kernel), List.mem_of_getElem? (i := 528) (by decide +kernel), List.mem_of_getElem? (i := 529) (by decide +kernel)⟩
theorem lw_p8 : lw_okq (⟨"RugReader$HouseText", "takePerson", "(LRugReader$House;)Z"⟩, 1) := ⟨⟨by decide +kernel, by decide +kernel⟩, List.mem_of_getElem? (i := 73) (by decide +kernel), List.mem_of_getElem? (i := 552) (by decide +kernel), List.mem_of_getElem? (i := 553) (by decide +kernel)⟩
theorem lw_p9 : lw_okq (⟨"RugReader$HouseText", "takeNewName", "(LRugReader$House;)J"⟩, 1) := ⟨⟨by decide +kernel, by decide +kernel⟩, List.mem_of_getElem? (i := 73) (by decide +kernel), List.mem_of_getElem? (i := 556) (by decide +kernel), List.mem_of_getElem? (i := 557) (by decide +kernel)⟩
theorem lw_p10 : lw_okq (⟨"RugReader$HouseText", "takeWall", "(LRugReader$House;)Z"⟩, 1) := ⟨⟨by decide +kernel, by decide +kernel⟩, List.mem_of_getElem? (i := 73) (by decide +kernel), List.mem_of_getElem? (i := 576) (by decide +kernel), List.mem_of_getElem? (i := 577) (by decide +kernel)⟩
theorem lw_p11 : lw_okq (⟨"RugReader$HouseText", "tuftHere", "(LRugReader$House;)I"⟩, 1) := ⟨⟨by decide +kernel, by decide +kernel⟩, List.mem_of_getElem? (i := 73) (by decide +kernel), List.mem_of_getElem? (i := 580) (by decide +kernel), List.mem_of_getElem? (i := 581) (by decide +kernel)⟩
theorem lw_p12 : lw_okq (⟨"RugReader$HouseText", "takeDoor", "(LRugReader$House;)Z"⟩, 1) := ⟨⟨by decide +kernel, by decide +kernel⟩, List.mem_of_getElem? (i := 73) (by decide +kernel), List.mem_of_getElem? (i := 587) (by decide +kernel), List.mem_of_getElem? (i := 588) (by decide +kernel)⟩
theorem lw_p13 : lw_okq (⟨"RugReader$HouseText", "takeWay", "(LRugReader$House;)Z"⟩, 1) := ⟨⟨by decide +kernel, by decide +kernel⟩, List.mem_of_getElem? (i := 73) (by decide +kernel), List.mem_of_getElem? (i := 597) (by decide +kernel), List.mem_of_getElem? (i := 598) (by decide +kernel)⟩
theorem lw_p14 : lw_okq (⟨"RugReader$HouseText", "takeSteps", "(LRugReader$House;II)Z"⟩, 1) := ⟨⟨by decide +kernel, by decide +kernel⟩, List.mem_of_getElem? (i := 73) (by decide +kernel), List.mem_of_getElem? (i := 609) (by decide +kernel), List.mem_of_getElem? (i := 610) (by decide +kernel)⟩
theorem lw_p15 : lw_okq (⟨"RugReader$HouseText", "takeFade", "(LRugReader$House;)Z"⟩, 1) := ⟨⟨by decide +kernel, by decide +kernel⟩, List.mem_of_getElem? (i := 73) (by decide +kernel), List.mem_of_getElem? (i := 634) (by decide +kernel), List.mem_of_getElem? (i := 635) (by decide +kernel)⟩
def lw_privs_1 : List (MethodName × Nat) := [(⟨"RugReader$Tape", "tellToken", "(I)I"⟩, 10), (⟨"RugReader$Tape", "endOfRun", "(I)I"⟩, 10), (⟨"RugReader$Tape", "putRun", "(II)V"⟩, 10), (⟨"RugReader$Tape", "putToken", "(IIJ)V"⟩, 10), (⟨"RugReader$Tape", "is", "(I)Z"⟩, 10), (⟨"RugReader$HouseText", "takeLine", "(LRugReader$House;)Z"⟩, 1), (⟨"RugReader$Tape", "valueHere", "()J"⟩, 10), (⟨"RugReader$HouseText", "takeRug", "(LRugReader$House;)Z"⟩, 1), (⟨"RugReader$HouseText", "takePerson", "(LRugReader$House;)Z"⟩, 1), (⟨"RugReader$HouseText", "takeNewName", "(LRugReader$House;)J"⟩, 1), (⟨"RugReader$HouseText", "takeWall", "(LRugReader$House;)Z"⟩, 1), (⟨"RugReader$HouseText", "tuftHere", "(LRugReader$House;)I"⟩, 1), (⟨"RugReader$HouseText", "takeDoor", "(LRugReader$House;)Z"⟩, 1), (⟨"RugReader$HouseText", "takeWay", "(LRugReader$House;)Z"⟩, 1), (⟨"RugReader$HouseText", "takeSteps", "(LRugReader$House;II)Z"⟩, 1), (⟨"RugReader$HouseText", "takeFade", "(LRugReader$House;)Z"⟩, 1)]
theorem lw_r1 : ∀ q ∈ lw_privs_1, lw_okq q := List.forall_mem_cons.mpr ⟨lw_p0, List.forall_mem_cons.mpr ⟨lw_p1, List.forall_mem_cons.mpr ⟨lw_p2, List.forall_mem_cons.mpr ⟨lw_p3, List.forall_mem_cons.mpr ⟨lw_p4, List.forall_mem_cons.mpr ⟨lw_p5, List.forall_mem_cons.mpr ⟨lw_p6, List.forall_mem_cons.mpr ⟨lw_p7, List.forall_mem_cons.mpr ⟨lw_p8, List.forall_mem_cons.mpr ⟨lw_p9, List.forall_mem_cons.mpr ⟨lw_p10, List.forall_mem_cons.mpr ⟨lw_p11, List.forall_mem_cons.mpr ⟨lw_p12, List.forall_mem_cons.mpr ⟨lw_p13, List.forall_mem_cons.mpr ⟨lw_p14, List.forall_mem_cons.mpr ⟨lw_p15, fun _ h => absurd h List.not_mem_nil⟩⟩⟩⟩⟩⟩⟩⟩⟩⟩⟩⟩⟩⟩⟩⟩
theorem lw_p16 : lw_okq (⟨"RugReader", "keepForUndo", "()V"⟩, 18) := ⟨⟨by decide +kernel, by decide +kernel⟩, List.mem_of_getElem? (i := 22) (by decide +kernel), List.mem_of_getElem? (i := 688) (by decide +kernel), List.mem_of_getElem? (i := 689) (by decide +kernel)⟩
theorem lw_p17 : lw_okq (⟨"RugReader$Rug", "weightOn", "(LRugReader$House;II)I"⟩, 8) := ⟨⟨by decide +kernel, by decide +kernel⟩, List.mem_of_getElem? (i := 189) (by decide +kernel), List.mem_of_getElem? (i := 765) (by decide +kernel), List.mem_of_getElem? (i := 766) (by decide +kernel)⟩
theorem lw_p18 : lw_okq (⟨"RugReader", "drawDay", "(II)I"⟩, 18) := ⟨⟨by decide +kernel, by decide +kernel⟩, List.mem_of_getElem? (i := 22) (by decide +kernel), List.mem_of_getElem? (i := 777) (by decide +kernel), List.mem_of_getElem? (i := 778) (by decide +kernel)⟩
theorem lw_p19 : lw_okq (⟨"RugReader$Rug", "daysLeft", "(LRugReader$House;I)I"⟩, 8) := ⟨⟨by decide +kernel, by decide +kernel⟩, List.mem_of_getElem? (i := 189) (by decide +kernel), List.mem_of_getElem? (i := 800) (by decide +kernel), List.mem_of_getElem? (i := 801) (by decide +kernel)⟩
theorem lw_p20 : lw_okq (⟨"RugReader$Readings", "take", "(LRugReader$Tape;LRugReader$House;)Z"⟩, 16) := ⟨⟨by decide +kernel, by decide +kernel⟩, List.mem_of_getElem? (i := 224) (by decide +kernel), List.mem_of_getElem? (i := 848) (by decide +kernel), List.mem_of_getElem? (i := 849) (by decide +kernel)⟩
theorem lw_p21 : lw_okq (⟨"RugReader$Readings", "lookAtWays", "(LRugReader$House;)V"⟩, 16) := ⟨⟨by decide +kernel, by decide +kernel⟩, List.mem_of_getElem? (i := 224) (by decide +kernel), List.mem_of_getElem? (i := 853) (by decide +kernel), List.mem_of_getElem? (i := 854) (by decide +kernel)⟩
theorem lw_p22 : lw_okq (⟨"RugReader$Readings", "mayFit", "()Z"⟩, 16) := ⟨⟨by decide +kernel, by decide +kernel⟩, List.mem_of_getElem? (i := 224) (by decide +kernel), List.mem_of_getElem? (i := 867) (by decide +kernel), List.mem_of_getElem? (i := 868) (by decide +kernel)⟩
theorem lw_p23 : lw_okq (⟨"RugReader$Readings", "settle", "(LRugReader$House;II)V"⟩, 16) := ⟨⟨by decide +kernel, by decide +kernel⟩, List.mem_of_getElem? (i := 224) (by decide +kernel), List.mem_of_getElem? (i := 871) (by decide +kernel), List.mem_of_getElem? (i := 872) (by decide +kernel)⟩
theorem lw_p24 : lw_okq (⟨"RugReader$Readings", "record", "(LRugReader$House;I)V"⟩, 16) := ⟨⟨by decide +kernel, by decide +kernel⟩, List.mem_of_getElem? (i := 224) (by decide +kernel), List.mem_of_getElem? (i := 881) (by decide +kernel), List.mem_of_getElem? (i := 882) (by decide +kernel)⟩
theorem lw_p25 : lw_okq (⟨"RugReader$Readings", "mayWalk", "(LRugReader$House;II)Z"⟩, 16) := ⟨⟨by decide +kernel, by decide +kernel⟩, List.mem_of_getElem? (i := 224) (by decide +kernel), List.mem_of_getElem? (i := 885) (by decide +kernel), List.mem_of_getElem? (i := 886) (by decide +kernel)⟩
theorem lw_p26 : lw_okq (⟨"RugReader$Readings", "addFreeWays", "(LRugReader$House;)V"⟩, 16) := ⟨⟨by decide +kernel, by decide +kernel⟩, List.mem_of_getElem? (i := 224) (by decide +kernel), List.mem_of_getElem? (i := 890) (by decide +kernel), List.mem_of_getElem? (i := 891) (by decide +kernel)⟩
theorem lw_p27 : lw_okq (⟨"RugReader$Crossing", "nearest", "()I"⟩, 4) := ⟨⟨by decide +kernel, by decide +kernel⟩, List.mem_of_getElem? (i := 320) (by decide +kernel), List.mem_of_getElem? (i := 926) (by decide +kernel), List.mem_of_getElem? (i := 927) (by decide +kernel)⟩
theorem lw_p28 : lw_okq (⟨"RugReader$Crossing", "settleAt", "(LRugReader$House;LRugReader$Rug;II)V"⟩, 4) := ⟨⟨by decide +kernel, by decide +kernel⟩, List.mem_of_getElem? (i := 320) (by decide +kernel), List.mem_of_getElem? (i := 930) (by decide +kernel), List.mem_of_getElem? (i := 931) (by decide +kernel)⟩
theorem lw_p29 : lw_okq (⟨"RugReader$Walk", "takePerson", "(LRugReader$Tape;LRugReader$House;)Z"⟩, 11) := ⟨⟨by decide +kernel, by decide +kernel⟩, List.mem_of_getElem? (i := 280) (by decide +kernel), List.mem_of_getElem? (i := 950) (by decide +kernel), List.mem_of_getElem? (i := 951) (by decide +kernel)⟩
theorem lw_p30 : lw_okq (⟨"RugReader$Walk", "takeLine", "(LRugReader$Tape;)Z"⟩, 11) := ⟨⟨by decide +kernel, by decide +kernel⟩, List.mem_of_getElem? (i := 280) (by decide +kernel), List.mem_of_getElem? (i := 962) (by decide +kernel), List.mem_of_getElem? (i := 963) (by decide +kernel)⟩
theorem lw_p31 : lw_okq (⟨"RugReader$Walk", "wrongOf", "(LRugReader$House;I)I"⟩, 11) := ⟨⟨by decide +kernel, by decide +kernel⟩, List.mem_of_getElem? (i := 280) (by decide +kernel), List.mem_of_getElem? (i := 974) (by decide +kernel), List.mem_of_getElem? (i := 975) (by decide +kernel)⟩
def lw_privs_2 : List (MethodName × Nat) := [(⟨"RugReader", "keepForUndo", "()V"⟩, 18), (⟨"RugReader$Rug", "weightOn", "(LRugReader$House;II)I"⟩, 8), (⟨"RugReader", "drawDay", "(II)I"⟩, 18), (⟨"RugReader$Rug", "daysLeft", "(LRugReader$House;I)I"⟩, 8), (⟨"RugReader$Readings", "take", "(LRugReader$Tape;LRugReader$House;)Z"⟩, 16), (⟨"RugReader$Readings", "lookAtWays", "(LRugReader$House;)V"⟩, 16), (⟨"RugReader$Readings", "mayFit", "()Z"⟩, 16), (⟨"RugReader$Readings", "settle", "(LRugReader$House;II)V"⟩, 16), (⟨"RugReader$Readings", "record", "(LRugReader$House;I)V"⟩, 16), (⟨"RugReader$Readings", "mayWalk", "(LRugReader$House;II)Z"⟩, 16), (⟨"RugReader$Readings", "addFreeWays", "(LRugReader$House;)V"⟩, 16), (⟨"RugReader$Crossing", "nearest", "()I"⟩, 4), (⟨"RugReader$Crossing", "settleAt", "(LRugReader$House;LRugReader$Rug;II)V"⟩, 4), (⟨"RugReader$Walk", "takePerson", "(LRugReader$Tape;LRugReader$House;)Z"⟩, 11), (⟨"RugReader$Walk", "takeLine", "(LRugReader$Tape;)Z"⟩, 11), (⟨"RugReader$Walk", "wrongOf", "(LRugReader$House;I)I"⟩, 11)]
theorem lw_r2 : ∀ q ∈ lw_privs_2, lw_okq q := List.forall_mem_cons.mpr ⟨lw_p16, List.forall_mem_cons.mpr ⟨lw_p17, List.forall_mem_cons.mpr ⟨lw_p18, List.forall_mem_cons.mpr ⟨lw_p19, List.forall_mem_cons.mpr ⟨lw_p20, List.forall_mem_cons.mpr ⟨lw_p21, List.forall_mem_cons.mpr ⟨lw_p22, List.forall_mem_cons.mpr ⟨lw_p23, List.forall_mem_cons.mpr ⟨lw_p24, List.forall_mem_cons.mpr ⟨lw_p25, List.forall_mem_cons.mpr ⟨lw_p26, List.forall_mem_cons.mpr ⟨lw_p27, List.forall_mem_cons.mpr ⟨lw_p28, List.forall_mem_cons.mpr ⟨lw_p29, List.forall_mem_cons.mpr ⟨lw_p30, List.forall_mem_cons.mpr ⟨lw_p31, fun _ h => absurd h List.not_mem_nil⟩⟩⟩⟩⟩⟩⟩⟩⟩⟩⟩⟩⟩⟩⟩⟩
theorem lw_p32 : lw_okq (⟨"RugReader$Lookout", "fill", "(LRugReader$House;)I"⟩, 10) := ⟨⟨by decide +kernel, by decide +kernel⟩, List.mem_of_getElem? (i := 341) (by decide +kernel), List.mem_of_getElem? (i := 1015) (by decide +kernel), List.mem_of_getElem? (i := 1016) (by decide +kernel)⟩
theorem lw_p33 : lw_okq (⟨"RugReader$Lookout", "canGo", "(LRugReader$House;II)Z"⟩, 10) := ⟨⟨by decide +kernel, by decide +kernel⟩, List.mem_of_getElem? (i := 341) (by decide +kernel), List.mem_of_getElem? (i := 1019) (by decide +kernel), List.mem_of_getElem? (i := 1020) (by decide +kernel)⟩
theorem lw_p34 : lw_okq (⟨"RugReader$Lookout", "visit", "(II)V"⟩, 10) := ⟨⟨by decide +kernel, by decide +kernel⟩, List.mem_of_getElem? (i := 341) (by decide +kernel), List.mem_of_getElem? (i := 1023) (by decide +kernel), List.mem_of_getElem? (i := 1024) (by decide +kernel)⟩
theorem lw_p35 : lw_okq (⟨"RugReader$Lookout", "goOnFromIn", "(LRugReader$House;I)V"⟩, 10) := ⟨⟨by decide +kernel, by decide +kernel⟩, List.mem_of_getElem? (i := 341) (by decide +kernel), List.mem_of_getElem? (i := 1027) (by decide +kernel), List.mem_of_getElem? (i := 1028) (by decide +kernel)⟩
theorem lw_p36 : lw_okq (⟨"RugReader$Lookout", "goOnFromOut", "(LRugReader$House;I)V"⟩, 10) := ⟨⟨by decide +kernel, by decide +kernel⟩, List.mem_of_getElem? (i := 341) (by decide +kernel), List.mem_of_getElem? (i := 1032) (by decide +kernel), List.mem_of_getElem? (i := 1033) (by decide +kernel)⟩
theorem lw_p37 : lw_okq (⟨"RugReader$Lookout", "turn", "(LRugReader$House;)V"⟩, 10) := ⟨⟨by decide +kernel, by decide +kernel⟩, List.mem_of_getElem? (i := 341) (by decide +kernel), List.mem_of_getElem? (i := 1036) (by decide +kernel), List.mem_of_getElem? (i := 1037) (by decide +kernel)⟩
theorem lw_p38 : lw_okq (⟨"RugReader$Lookout", "setFlow", "(LRugReader$House;IIZ)V"⟩, 10) := ⟨⟨by decide +kernel, by decide +kernel⟩, List.mem_of_getElem? (i := 341) (by decide +kernel), List.mem_of_getElem? (i := 1040) (by decide +kernel), List.mem_of_getElem? (i := 1041) (by decide +kernel)⟩
theorem lw_p39 : lw_okq (⟨"RugReader$Sentence", "takeCond", "(LRugReader$Tape;LRugReader$House;I)Z"⟩, 5) := ⟨⟨by decide +kernel, by decide +kernel⟩, List.mem_of_getElem? (i := 166) (by decide +kernel), List.mem_of_getElem? (i := 1089) (by decide +kernel), List.mem_of_getElem? (i := 1090) (by decide +kernel)⟩
theorem lw_p40 : lw_okq (⟨"RugReader$Sentence", "takeAll", "(LRugReader$Tape;LRugReader$House;I)Z"⟩, 5) := ⟨⟨by decide +kernel, by decide +kernel⟩, List.mem_of_getElem? (i := 166) (by decide +kernel), List.mem_of_getElem? (i := 1093) (by decide +kernel), List.mem_of_getElem? (i := 1094) (by decide +kernel)⟩
theorem lw_p41 : lw_okq (⟨"RugReader$Sentence", "takeOne", "(LRugReader$Tape;LRugReader$House;I)Z"⟩, 5) := ⟨⟨by decide +kernel, by decide +kernel⟩, List.mem_of_getElem? (i := 166) (by decide +kernel), List.mem_of_getElem? (i := 1097) (by decide +kernel), List.mem_of_getElem? (i := 1098) (by decide +kernel)⟩
theorem lw_p42 : lw_okq (⟨"RugReader$Sentence", "takeTrod", "(LRugReader$Tape;LRugReader$House;)Z"⟩, 5) := ⟨⟨by decide +kernel, by decide +kernel⟩, List.mem_of_getElem? (i := 166) (by decide +kernel), List.mem_of_getElem? (i := 1114) (by decide +kernel), List.mem_of_getElem? (i := 1115) (by decide +kernel)⟩
theorem lw_p43 : lw_okq (⟨"RugReader$Sentence", "put", "(III)V"⟩, 5) := ⟨⟨by decide +kernel, by decide +kernel⟩, List.mem_of_getElem? (i := 166) (by decide +kernel), List.mem_of_getElem? (i := 1121) (by decide +kernel), List.mem_of_getElem? (i := 1122) (by decide +kernel)⟩
theorem lw_p44 : lw_okq (⟨"RugReader$Sentence", "takeMeasure", "(LRugReader$Tape;)Z"⟩, 5) := ⟨⟨by decide +kernel, by decide +kernel⟩, List.mem_of_getElem? (i := 166) (by decide +kernel), List.mem_of_getElem? (i := 1125) (by decide +kernel), List.mem_of_getElem? (i := 1126) (by decide +kernel)⟩
theorem lw_p45 : lw_okq (⟨"RugReader$Sentence", "leafHolds", "(LRugReader$House;LRugReader$Rug;II)Z"⟩, 5) := ⟨⟨by decide +kernel, by decide +kernel⟩, List.mem_of_getElem? (i := 166) (by decide +kernel), List.mem_of_getElem? (i := 1143) (by decide +kernel), List.mem_of_getElem? (i := 1144) (by decide +kernel)⟩
theorem lw_p46 : lw_okq (⟨"java/lang/Throwable", "fillInStackTrace", "(I)Ljava/lang/Throwable;"⟩, 6) := ⟨⟨by decide +kernel, by decide +kernel⟩, List.mem_of_getElem? (i := 1233) (by decide +kernel), List.mem_of_getElem? (i := 1231) (by decide +kernel), List.mem_of_getElem? (i := 1232) (by decide +kernel)⟩
theorem lw_p47 : lw_okq (⟨"RugReaderModel", "four", "(I)V"⟩, 55) := ⟨⟨by decide +kernel, by decide +kernel⟩, List.mem_of_getElem? (i := 1292) (by decide +kernel), List.mem_of_getElem? (i := 1290) (by decide +kernel), List.mem_of_getElem? (i := 1291) (by decide +kernel)⟩
def lw_privs_3 : List (MethodName × Nat) := [(⟨"RugReader$Lookout", "fill", "(LRugReader$House;)I"⟩, 10), (⟨"RugReader$Lookout", "canGo", "(LRugReader$House;II)Z"⟩, 10), (⟨"RugReader$Lookout", "visit", "(II)V"⟩, 10), (⟨"RugReader$Lookout", "goOnFromIn", "(LRugReader$House;I)V"⟩, 10), (⟨"RugReader$Lookout", "goOnFromOut", "(LRugReader$House;I)V"⟩, 10), (⟨"RugReader$Lookout", "turn", "(LRugReader$House;)V"⟩, 10), (⟨"RugReader$Lookout", "setFlow", "(LRugReader$House;IIZ)V"⟩, 10), (⟨"RugReader$Sentence", "takeCond", "(LRugReader$Tape;LRugReader$House;I)Z"⟩, 5), (⟨"RugReader$Sentence", "takeAll", "(LRugReader$Tape;LRugReader$House;I)Z"⟩, 5), (⟨"RugReader$Sentence", "takeOne", "(LRugReader$Tape;LRugReader$House;I)Z"⟩, 5), (⟨"RugReader$Sentence", "takeTrod", "(LRugReader$Tape;LRugReader$House;)Z"⟩, 5), (⟨"RugReader$Sentence", "put", "(III)V"⟩, 5), (⟨"RugReader$Sentence", "takeMeasure", "(LRugReader$Tape;)Z"⟩, 5), (⟨"RugReader$Sentence", "leafHolds", "(LRugReader$House;LRugReader$Rug;II)Z"⟩, 5), (⟨"java/lang/Throwable", "fillInStackTrace", "(I)Ljava/lang/Throwable;"⟩, 6), (⟨"RugReaderModel", "four", "(I)V"⟩, 55)]
theorem lw_r3 : ∀ q ∈ lw_privs_3, lw_okq q := List.forall_mem_cons.mpr ⟨lw_p32, List.forall_mem_cons.mpr ⟨lw_p33, List.forall_mem_cons.mpr ⟨lw_p34, List.forall_mem_cons.mpr ⟨lw_p35, List.forall_mem_cons.mpr ⟨lw_p36, List.forall_mem_cons.mpr ⟨lw_p37, List.forall_mem_cons.mpr ⟨lw_p38, List.forall_mem_cons.mpr ⟨lw_p39, List.forall_mem_cons.mpr ⟨lw_p40, List.forall_mem_cons.mpr ⟨lw_p41, List.forall_mem_cons.mpr ⟨lw_p42, List.forall_mem_cons.mpr ⟨lw_p43, List.forall_mem_cons.mpr ⟨lw_p44, List.forall_mem_cons.mpr ⟨lw_p45, List.forall_mem_cons.mpr ⟨lw_p46, List.forall_mem_cons.mpr ⟨lw_p47, fun _ h => absurd h List.not_mem_nil⟩⟩⟩⟩⟩⟩⟩⟩⟩⟩⟩⟩⟩⟩⟩⟩
theorem lw_p48 : lw_okq (⟨"RugReaderModel", "taken", "(I)V"⟩, 55) := ⟨⟨by decide +kernel, by decide +kernel⟩, List.mem_of_getElem? (i := 1292) (by decide +kernel), List.mem_of_getElem? (i := 1495) (by decide +kernel), List.mem_of_getElem? (i := 1496) (by decide +kernel)⟩
theorem lw_p49 : lw_okq (⟨"RugReaderModel", "next", "()V"⟩, 55) := ⟨⟨by decide +kernel, by decide +kernel⟩, List.mem_of_getElem? (i := 1292) (by decide +kernel), List.mem_of_getElem? (i := 1499) (by decide +kernel), List.mem_of_getElem? (i := 1500) (by decide +kernel)⟩
theorem lw_p50 : lw_okq (⟨"RugReaderModel", "peek", "()I"⟩, 55) := ⟨⟨by decide +kernel, by decide +kernel⟩, List.mem_of_getElem? (i := 1292) (by decide +kernel), List.mem_of_getElem? (i := 1503) (by decide +kernel), List.mem_of_getElem? (i := 1504) (by decide +kernel)⟩
theorem lw_p51 : lw_okq (⟨"RugReaderModel", "line", "()Z"⟩, 55) := ⟨⟨by decide +kernel, by decide +kernel⟩, List.mem_of_getElem? (i := 1292) (by decide +kernel), List.mem_of_getElem? (i := 1513) (by decide +kernel), List.mem_of_getElem? (i := 1514) (by decide +kernel)⟩
theorem lw_p52 : lw_okq (⟨"RugReaderModel", "isWord", "(J)Z"⟩, 55) := ⟨⟨by decide +kernel, by decide +kernel⟩, List.mem_of_getElem? (i := 1292) (by decide +kernel), List.mem_of_getElem? (i := 1517) (by decide +kernel), List.mem_of_getElem? (i := 1518) (by decide +kernel)⟩
theorem lw_p53 : lw_okq (⟨"RugReaderModel", "bad", "(I)Z"⟩, 55) := ⟨⟨by decide +kernel, by decide +kernel⟩, List.mem_of_getElem? (i := 1292) (by decide +kernel), List.mem_of_getElem? (i := 1521) (by decide +kernel), List.mem_of_getElem? (i := 1522) (by decide +kernel)⟩
theorem lw_p54 : lw_okq (⟨"RugReaderModel", "takes", "(II)Z"⟩, 55) := ⟨⟨by decide +kernel, by decide +kernel⟩, List.mem_of_getElem? (i := 1292) (by decide +kernel), List.mem_of_getElem? (i := 1525) (by decide +kernel), List.mem_of_getElem? (i := 1526) (by decide +kernel)⟩
theorem lw_p55 : lw_okq (⟨"RugReaderModel", "fresh", "(I)Z"⟩, 55) := ⟨⟨by decide +kernel, by decide +kernel⟩, List.mem_of_getElem? (i := 1292) (by decide +kernel), List.mem_of_getElem? (i := 1532) (by decide +kernel), List.mem_of_getElem? (i := 1533) (by decide +kernel)⟩
theorem lw_p56 : lw_okq (⟨"RugReaderModel", "isName", "()Z"⟩, 55) := ⟨⟨by decide +kernel, by decide +kernel⟩, List.mem_of_getElem? (i := 1292) (by decide +kernel), List.mem_of_getElem? (i := 1536) (by decide +kernel), List.mem_of_getElem? (i := 1537) (by decide +kernel)⟩
theorem lw_p57 : lw_okq (⟨"RugReaderModel", "find", "(II)I"⟩, 55) := ⟨⟨by decide +kernel, by decide +kernel⟩, List.mem_of_getElem? (i := 1292) (by decide +kernel), List.mem_of_getElem? (i := 1540) (by decide +kernel), List.mem_of_getElem? (i := 1541) (by decide +kernel)⟩
theorem lw_p58 : lw_okq (⟨"RugReaderModel", "looksAtTuft", "()Z"⟩, 55) := ⟨⟨by decide +kernel, by decide +kernel⟩, List.mem_of_getElem? (i := 1292) (by decide +kernel), List.mem_of_getElem? (i := 1544) (by decide +kernel), List.mem_of_getElem? (i := 1545) (by decide +kernel)⟩
theorem lw_p59 : lw_okq (⟨"RugReaderModel", "readWay", "()Z"⟩, 55) := ⟨⟨by decide +kernel, by decide +kernel⟩, List.mem_of_getElem? (i := 1292) (by decide +kernel), List.mem_of_getElem? (i := 1548) (by decide +kernel), List.mem_of_getElem? (i := 1549) (by decide +kernel)⟩
theorem lw_p60 : lw_okq (⟨"RugReaderModel", "isSign", "(I)Z"⟩, 55) := ⟨⟨by decide +kernel, by decide +kernel⟩, List.mem_of_getElem? (i := 1292) (by decide +kernel), List.mem_of_getElem? (i := 1552) (by decide +kernel), List.mem_of_getElem? (i := 1553) (by decide +kernel)⟩
theorem lw_p61 : lw_okq (⟨"RugReaderModel", "dirOfWord", "()I"⟩, 55) := ⟨⟨by decide +kernel, by decide +kernel⟩, List.mem_of_getElem? (i := 1292) (by decide +kernel), List.mem_of_getElem? (i := 1556) (by decide +kernel), List.mem_of_getElem? (i := 1557) (by decide +kernel)⟩
theorem lw_p62 : lw_okq (⟨"RugReaderModel", "sign", "(I)Z"⟩, 55) := ⟨⟨by decide +kernel, by decide +kernel⟩, List.mem_of_getElem? (i := 1292) (by decide +kernel), List.mem_of_getElem? (i := 1563) (by decide +kernel), List.mem_of_getElem? (i := 1564) (by decide +kernel)⟩
theorem lw_p63 : lw_okq (⟨"RugReaderModel", "isPerson", "(I)Z"⟩, 55) := ⟨⟨by decide +kernel, by decide +kernel⟩, List.mem_of_getElem? (i := 1292) (by decide +kernel), List.mem_of_getElem? (i := 1575) (by decide +kernel), List.mem_of_getElem? (i := 1576) (by decide +kernel)⟩
def lw_privs_4 : List (MethodName × Nat) := [(⟨"RugReaderModel", "taken", "(I)V"⟩, 55), (⟨"RugReaderModel", "next", "()V"⟩, 55), (⟨"RugReaderModel", "peek", "()I"⟩, 55), (⟨"RugReaderModel", "line", "()Z"⟩, 55), (⟨"RugReaderModel", "isWord", "(J)Z"⟩, 55), (⟨"RugReaderModel", "bad", "(I)Z"⟩, 55), (⟨"RugReaderModel", "takes", "(II)Z"⟩, 55), (⟨"RugReaderModel", "fresh", "(I)Z"⟩, 55), (⟨"RugReaderModel", "isName", "()Z"⟩, 55), (⟨"RugReaderModel", "find", "(II)I"⟩, 55), (⟨"RugReaderModel", "looksAtTuft", "()Z"⟩, 55), (⟨"RugReaderModel", "readWay", "()Z"⟩, 55), (⟨"RugReaderModel", "isSign", "(I)Z"⟩, 55), (⟨"RugReaderModel", "dirOfWord", "()I"⟩, 55), (⟨"RugReaderModel", "sign", "(I)Z"⟩, 55), (⟨"RugReaderModel", "isPerson", "(I)Z"⟩, 55)]
theorem lw_r4 : ∀ q ∈ lw_privs_4, lw_okq q := List.forall_mem_cons.mpr ⟨lw_p48, List.forall_mem_cons.mpr ⟨lw_p49, List.forall_mem_cons.mpr ⟨lw_p50, List.forall_mem_cons.mpr ⟨lw_p51, List.forall_mem_cons.mpr ⟨lw_p52, List.forall_mem_cons.mpr ⟨lw_p53, List.forall_mem_cons.mpr ⟨lw_p54, List.forall_mem_cons.mpr ⟨lw_p55, List.forall_mem_cons.mpr ⟨lw_p56, List.forall_mem_cons.mpr ⟨lw_p57, List.forall_mem_cons.mpr ⟨lw_p58, List.forall_mem_cons.mpr ⟨lw_p59, List.forall_mem_cons.mpr ⟨lw_p60, List.forall_mem_cons.mpr ⟨lw_p61, List.forall_mem_cons.mpr ⟨lw_p62, List.forall_mem_cons.mpr ⟨lw_p63, fun _ h => absurd h List.not_mem_nil⟩⟩⟩⟩⟩⟩⟩⟩⟩⟩⟩⟩⟩⟩⟩⟩
theorem lw_p64 : lw_okq (⟨"RugReaderModel", "throwsIf", "(Z)Z"⟩, 55) := ⟨⟨by decide +kernel, by decide +kernel⟩, List.mem_of_getElem? (i := 1292) (by decide +kernel), List.mem_of_getElem? (i := 1579) (by decide +kernel), List.mem_of_getElem? (i := 1580) (by decide +kernel)⟩
theorem lw_p65 : lw_okq (⟨"RugReaderModel", "liesOf", "(II)I"⟩, 55) := ⟨⟨by decide +kernel, by decide +kernel⟩, List.mem_of_getElem? (i := 1292) (by decide +kernel), List.mem_of_getElem? (i := 1583) (by decide +kernel), List.mem_of_getElem? (i := 1584) (by decide +kernel)⟩
theorem lw_p66 : lw_okq (⟨"RugReaderModel", "lies", "(III)I"⟩, 55) := ⟨⟨by decide +kernel, by decide +kernel⟩, List.mem_of_getElem? (i := 1292) (by decide +kernel), List.mem_of_getElem? (i := 1587) (by decide +kernel), List.mem_of_getElem? (i := 1588) (by decide +kernel)⟩
theorem lw_p67 : lw_okq (⟨"RugReaderModel", "isTuft", "(I)Z"⟩, 55) := ⟨⟨by decide +kernel, by decide +kernel⟩, List.mem_of_getElem? (i := 1292) (by decide +kernel), List.mem_of_getElem? (i := 1595) (by decide +kernel), List.mem_of_getElem? (i := 1596) (by decide +kernel)⟩
theorem lw_p68 : lw_okq (⟨"RugReaderModel", "depth", "(I)I"⟩, 55) := ⟨⟨by decide +kernel, by decide +kernel⟩, List.mem_of_getElem? (i := 1292) (by decide +kernel), List.mem_of_getElem? (i := 1599) (by decide +kernel), List.mem_of_getElem? (i := 1600) (by decide +kernel)⟩
theorem lw_p69 : lw_okq (⟨"RugReaderModel", "treads", "(I)I"⟩, 55) := ⟨⟨by decide +kernel, by decide +kernel⟩, List.mem_of_getElem? (i := 1292) (by decide +kernel), List.mem_of_getElem? (i := 1603) (by decide +kernel), List.mem_of_getElem? (i := 1604) (by decide +kernel)⟩
theorem lw_p70 : lw_okq (⟨"RugReaderModel", "isDoor", "(I)Z"⟩, 55) := ⟨⟨by decide +kernel, by decide +kernel⟩, List.mem_of_getElem? (i := 1292) (by decide +kernel), List.mem_of_getElem? (i := 1607) (by decide +kernel), List.mem_of_getElem? (i := 1608) (by decide +kernel)⟩
theorem lw_p71 : lw_okq (⟨"RugReaderModel", "isWay", "(I)Z"⟩, 55) := ⟨⟨by decide +kernel, by decide +kernel⟩, List.mem_of_getElem? (i := 1292) (by decide +kernel), List.mem_of_getElem? (i := 1615) (by decide +kernel), List.mem_of_getElem? (i := 1616) (by decide +kernel)⟩
theorem lw_p72 : lw_okq (⟨"RugReaderModel", "keep", "()V"⟩, 55) := ⟨⟨by decide +kernel, by decide +kernel⟩, List.mem_of_getElem? (i := 1292) (by decide +kernel), List.mem_of_getElem? (i := 1627) (by decide +kernel), List.mem_of_getElem? (i := 1628) (by decide +kernel)⟩
theorem lw_p73 : lw_okq (⟨"RugReaderModel", "walks", "(III)V"⟩, 55) := ⟨⟨by decide +kernel, by decide +kernel⟩, List.mem_of_getElem? (i := 1292) (by decide +kernel), List.mem_of_getElem? (i := 1632) (by decide +kernel), List.mem_of_getElem? (i := 1633) (by decide +kernel)⟩
theorem lw_p74 : lw_okq (⟨"RugReaderModel", "day", "()V"⟩, 55) := ⟨⟨by decide +kernel, by decide +kernel⟩, List.mem_of_getElem? (i := 1292) (by decide +kernel), List.mem_of_getElem? (i := 1643) (by decide +kernel), List.mem_of_getElem? (i := 1644) (by decide +kernel)⟩
theorem lw_p75 : lw_okq (⟨"RugReaderModel", "older", "(I)V"⟩, 55) := ⟨⟨by decide +kernel, by decide +kernel⟩, List.mem_of_getElem? (i := 1292) (by decide +kernel), List.mem_of_getElem? (i := 1647) (by decide +kernel), List.mem_of_getElem? (i := 1648) (by decide +kernel)⟩
theorem lw_p76 : lw_okq (⟨"RugReaderModel", "clears", "(II)V"⟩, 55) := ⟨⟨by decide +kernel, by decide +kernel⟩, List.mem_of_getElem? (i := 1292) (by decide +kernel), List.mem_of_getElem? (i := 1651) (by decide +kernel), List.mem_of_getElem? (i := 1652) (by decide +kernel)⟩
theorem lw_p77 : lw_okq (⟨"RugReaderModel", "beats", "(I)I"⟩, 55) := ⟨⟨by decide +kernel, by decide +kernel⟩, List.mem_of_getElem? (i := 1292) (by decide +kernel), List.mem_of_getElem? (i := 1659) (by decide +kernel), List.mem_of_getElem? (i := 1660) (by decide +kernel)⟩
theorem lw_p78 : lw_okq (⟨"RugReaderModel", "fullDepth", "(I)I"⟩, 55) := ⟨⟨by decide +kernel, by decide +kernel⟩, List.mem_of_getElem? (i := 1292) (by decide +kernel), List.mem_of_getElem? (i := 1667) (by decide +kernel), List.mem_of_getElem? (i := 1668) (by decide +kernel)⟩
theorem lw_p79 : lw_okq (⟨"RugReaderModel", "ageBy", "(II)I"⟩, 55) := ⟨⟨by decide +kernel, by decide +kernel⟩, List.mem_of_getElem? (i := 1292) (by decide +kernel), List.mem_of_getElem? (i := 1687) (by decide +kernel), List.mem_of_getElem? (i := 1688) (by decide +kernel)⟩
def lw_privs_5 : List (MethodName × Nat) := [(⟨"RugReaderModel", "throwsIf", "(Z)Z"⟩, 55), (⟨"RugReaderModel", "liesOf", "(II)I"⟩, 55), (⟨"RugReaderModel", "lies", "(III)I"⟩, 55), (⟨"RugReaderModel", "isTuft", "(I)Z"⟩, 55), (⟨"RugReaderModel", "depth", "(I)I"⟩, 55), (⟨"RugReaderModel", "treads", "(I)I"⟩, 55), (⟨"RugReaderModel", "isDoor", "(I)Z"⟩, 55), (⟨"RugReaderModel", "isWay", "(I)Z"⟩, 55), (⟨"RugReaderModel", "keep", "()V"⟩, 55), (⟨"RugReaderModel", "walks", "(III)V"⟩, 55), (⟨"RugReaderModel", "day", "()V"⟩, 55), (⟨"RugReaderModel", "older", "(I)V"⟩, 55), (⟨"RugReaderModel", "clears", "(II)V"⟩, 55), (⟨"RugReaderModel", "beats", "(I)I"⟩, 55), (⟨"RugReaderModel", "fullDepth", "(I)I"⟩, 55), (⟨"RugReaderModel", "ageBy", "(II)I"⟩, 55)]
theorem lw_r5 : ∀ q ∈ lw_privs_5, lw_okq q := List.forall_mem_cons.mpr ⟨lw_p64, List.forall_mem_cons.mpr ⟨lw_p65, List.forall_mem_cons.mpr ⟨lw_p66, List.forall_mem_cons.mpr ⟨lw_p67, List.forall_mem_cons.mpr ⟨lw_p68, List.forall_mem_cons.mpr ⟨lw_p69, List.forall_mem_cons.mpr ⟨lw_p70, List.forall_mem_cons.mpr ⟨lw_p71, List.forall_mem_cons.mpr ⟨lw_p72, List.forall_mem_cons.mpr ⟨lw_p73, List.forall_mem_cons.mpr ⟨lw_p74, List.forall_mem_cons.mpr ⟨lw_p75, List.forall_mem_cons.mpr ⟨lw_p76, List.forall_mem_cons.mpr ⟨lw_p77, List.forall_mem_cons.mpr ⟨lw_p78, List.forall_mem_cons.mpr ⟨lw_p79, fun _ h => absurd h List.not_mem_nil⟩⟩⟩⟩⟩⟩⟩⟩⟩⟩⟩⟩⟩⟩⟩⟩
theorem lw_p80 : lw_okq (⟨"RugReaderModel", "octet", "(I)I"⟩, 55) := ⟨⟨by decide +kernel, by decide +kernel⟩, List.mem_of_getElem? (i := 1292) (by decide +kernel), List.mem_of_getElem? (i := 1699) (by decide +kernel), List.mem_of_getElem? (i := 1700) (by decide +kernel)⟩
theorem lw_p81 : lw_okq (⟨"RugReaderModel", "isReading", "(I)Z"⟩, 55) := ⟨⟨by decide +kernel, by decide +kernel⟩, List.mem_of_getElem? (i := 1292) (by decide +kernel), List.mem_of_getElem? (i := 1703) (by decide +kernel), List.mem_of_getElem? (i := 1704) (by decide +kernel)⟩
theorem lw_p82 : lw_okq (⟨"RugReaderModel", "reads", "(Z)V"⟩, 55) := ⟨⟨by decide +kernel, by decide +kernel⟩, List.mem_of_getElem? (i := 1292) (by decide +kernel), List.mem_of_getElem? (i := 1707) (by decide +kernel), List.mem_of_getElem? (i := 1708) (by decide +kernel)⟩
theorem lw_p83 : lw_okq (⟨"RugReaderModel", "nextReading", "()Z"⟩, 55) := ⟨⟨by decide +kernel, by decide +kernel⟩, List.mem_of_getElem? (i := 1292) (by decide +kernel), List.mem_of_getElem? (i := 1711) (by decide +kernel), List.mem_of_getElem? (i := 1712) (by decide +kernel)⟩
theorem lw_p84 : lw_okq (⟨"RugReaderModel", "crosses", "(III)I"⟩, 55) := ⟨⟨by decide +kernel, by decide +kernel⟩, List.mem_of_getElem? (i := 1292) (by decide +kernel), List.mem_of_getElem? (i := 1727) (by decide +kernel), List.mem_of_getElem? (i := 1728) (by decide +kernel)⟩
theorem lw_p85 : lw_okq (⟨"RugReaderModel", "signOf", "(II)I"⟩, 55) := ⟨⟨by decide +kernel, by decide +kernel⟩, List.mem_of_getElem? (i := 1292) (by decide +kernel), List.mem_of_getElem? (i := 1732) (by decide +kernel), List.mem_of_getElem? (i := 1733) (by decide +kernel)⟩
theorem lw_p86 : lw_okq (⟨"RugReaderModel", "beside", "(II)I"⟩, 55) := ⟨⟨by decide +kernel, by decide +kernel⟩, List.mem_of_getElem? (i := 1292) (by decide +kernel), List.mem_of_getElem? (i := 1736) (by decide +kernel), List.mem_of_getElem? (i := 1737) (by decide +kernel)⟩
theorem lw_p87 : lw_okq (⟨"RugReaderModel", "walkRead", "()Z"⟩, 55) := ⟨⟨by decide +kernel, by decide +kernel⟩, List.mem_of_getElem? (i := 1292) (by decide +kernel), List.mem_of_getElem? (i := 1748) (by decide +kernel), List.mem_of_getElem? (i := 1749) (by decide +kernel)⟩
theorem lw_p88 : lw_okq (⟨"RugReaderModel", "rowsBetween", "(II)I"⟩, 55) := ⟨⟨by decide +kernel, by decide +kernel⟩, List.mem_of_getElem? (i := 1292) (by decide +kernel), List.mem_of_getElem? (i := 1760) (by decide +kernel), List.mem_of_getElem? (i := 1761) (by decide +kernel)⟩
theorem lw_p89 : lw_okq (⟨"RugReaderModel", "runsMore", "(II)Z"⟩, 55) := ⟨⟨by decide +kernel, by decide +kernel⟩, List.mem_of_getElem? (i := 1292) (by decide +kernel), List.mem_of_getElem? (i := 1764) (by decide +kernel), List.mem_of_getElem? (i := 1765) (by decide +kernel)⟩
theorem lw_p90 : lw_okq (⟨"RugReaderModel", "comes", "(II)V"⟩, 55) := ⟨⟨by decide +kernel, by decide +kernel⟩, List.mem_of_getElem? (i := 1292) (by decide +kernel), List.mem_of_getElem? (i := 1768) (by decide +kernel), List.mem_of_getElem? (i := 1769) (by decide +kernel)⟩
theorem lw_p91 : lw_okq (⟨"RugReaderModel", "turned", "(II)Z"⟩, 55) := ⟨⟨by decide +kernel, by decide +kernel⟩, List.mem_of_getElem? (i := 1292) (by decide +kernel), List.mem_of_getElem? (i := 1772) (by decide +kernel), List.mem_of_getElem? (i := 1773) (by decide +kernel)⟩
theorem lw_p92 : lw_okq (⟨"RugReaderModel", "isOpen", "(I)Z"⟩, 55) := ⟨⟨by decide +kernel, by decide +kernel⟩, List.mem_of_getElem? (i := 1292) (by decide +kernel), List.mem_of_getElem? (i := 1776) (by decide +kernel), List.mem_of_getElem? (i := 1777) (by decide +kernel)⟩
theorem lw_p93 : lw_okq (⟨"RugReaderModel", "waysOver", "(I)I"⟩, 55) := ⟨⟨by decide +kernel, by decide +kernel⟩, List.mem_of_getElem? (i := 1292) (by decide +kernel), List.mem_of_getElem? (i := 1788) (by decide +kernel), List.mem_of_getElem? (i := 1789) (by decide +kernel)⟩
theorem lw_p94 : lw_okq (⟨"RugReaderModel", "draw", "(I)I"⟩, 55) := ⟨⟨by decide +kernel, by decide +kernel⟩, List.mem_of_getElem? (i := 1292) (by decide +kernel), List.mem_of_getElem? (i := 1810) (by decide +kernel), List.mem_of_getElem? (i := 1811) (by decide +kernel)⟩
theorem lw_p95 : lw_okq (⟨"RugReaderModel", "nots", "()V"⟩, 55) := ⟨⟨by decide +kernel, by decide +kernel⟩, List.mem_of_getElem? (i := 1292) (by decide +kernel), List.mem_of_getElem? (i := 1823) (by decide +kernel), List.mem_of_getElem? (i := 1824) (by decide +kernel)⟩
def lw_privs_6 : List (MethodName × Nat) := [(⟨"RugReaderModel", "octet", "(I)I"⟩, 55), (⟨"RugReaderModel", "isReading", "(I)Z"⟩, 55), (⟨"RugReaderModel", "reads", "(Z)V"⟩, 55), (⟨"RugReaderModel", "nextReading", "()Z"⟩, 55), (⟨"RugReaderModel", "crosses", "(III)I"⟩, 55), (⟨"RugReaderModel", "signOf", "(II)I"⟩, 55), (⟨"RugReaderModel", "beside", "(II)I"⟩, 55), (⟨"RugReaderModel", "walkRead", "()Z"⟩, 55), (⟨"RugReaderModel", "rowsBetween", "(II)I"⟩, 55), (⟨"RugReaderModel", "runsMore", "(II)Z"⟩, 55), (⟨"RugReaderModel", "comes", "(II)V"⟩, 55), (⟨"RugReaderModel", "turned", "(II)Z"⟩, 55), (⟨"RugReaderModel", "isOpen", "(I)Z"⟩, 55), (⟨"RugReaderModel", "waysOver", "(I)I"⟩, 55), (⟨"RugReaderModel", "draw", "(I)I"⟩, 55), (⟨"RugReaderModel", "nots", "()V"⟩, 55)]
theorem lw_r6 : ∀ q ∈ lw_privs_6, lw_okq q := List.forall_mem_cons.mpr ⟨lw_p80, List.forall_mem_cons.mpr ⟨lw_p81, List.forall_mem_cons.mpr ⟨lw_p82, List.forall_mem_cons.mpr ⟨lw_p83, List.forall_mem_cons.mpr ⟨lw_p84, List.forall_mem_cons.mpr ⟨lw_p85, List.forall_mem_cons.mpr ⟨lw_p86, List.forall_mem_cons.mpr ⟨lw_p87, List.forall_mem_cons.mpr ⟨lw_p88, List.forall_mem_cons.mpr ⟨lw_p89, List.forall_mem_cons.mpr ⟨lw_p90, List.forall_mem_cons.mpr ⟨lw_p91, List.forall_mem_cons.mpr ⟨lw_p92, List.forall_mem_cons.mpr ⟨lw_p93, List.forall_mem_cons.mpr ⟨lw_p94, List.forall_mem_cons.mpr ⟨lw_p95, fun _ h => absurd h List.not_mem_nil⟩⟩⟩⟩⟩⟩⟩⟩⟩⟩⟩⟩⟩⟩⟩⟩
theorem lw_p96 : lw_okq (⟨"RugReaderModel", "code", "(III)V"⟩, 55) := ⟨⟨by decide +kernel, by decide +kernel⟩, List.mem_of_getElem? (i := 1292) (by decide +kernel), List.mem_of_getElem? (i := 1827) (by decide +kernel), List.mem_of_getElem? (i := 1828) (by decide +kernel)⟩
theorem lw_p97 : lw_okq (⟨"RugReaderModel", "joins", "(I)V"⟩, 55) := ⟨⟨by decide +kernel, by decide +kernel⟩, List.mem_of_getElem? (i := 1292) (by decide +kernel), List.mem_of_getElem? (i := 1831) (by decide +kernel), List.mem_of_getElem? (i := 1832) (by decide +kernel)⟩
theorem lw_p98 : lw_okq (⟨"RugReaderModel", "behind", "()Z"⟩, 55) := ⟨⟨by decide +kernel, by decide +kernel⟩, List.mem_of_getElem? (i := 1292) (by decide +kernel), List.mem_of_getElem? (i := 1835) (by decide +kernel), List.mem_of_getElem? (i := 1836) (by decide +kernel)⟩
theorem lw_p99 : lw_okq (⟨"RugReaderModel", "operand", "()Z"⟩, 55) := ⟨⟨by decide +kernel, by decide +kernel⟩, List.mem_of_getElem? (i := 1292) (by decide +kernel), List.mem_of_getElem? (i := 1839) (by decide +kernel), List.mem_of_getElem? (i := 1840) (by decide +kernel)⟩
theorem lw_p100 : lw_okq (⟨"RugReaderModel", "leafOf", "()I"⟩, 55) := ⟨⟨by decide +kernel, by decide +kernel⟩, List.mem_of_getElem? (i := 1292) (by decide +kernel), List.mem_of_getElem? (i := 1843) (by decide +kernel), List.mem_of_getElem? (i := 1844) (by decide +kernel)⟩
theorem lw_p101 : lw_okq (⟨"RugReaderModel", "isSaid", "(I)Z"⟩, 55) := ⟨⟨by decide +kernel, by decide +kernel⟩, List.mem_of_getElem? (i := 1292) (by decide +kernel), List.mem_of_getElem? (i := 1851) (by decide +kernel), List.mem_of_getElem? (i := 1852) (by decide +kernel)⟩
theorem lw_p102 : lw_okq (⟨"RugReaderModel", "isLeaf", "(IIII)Z"⟩, 55) := ⟨⟨by decide +kernel, by decide +kernel⟩, List.mem_of_getElem? (i := 1292) (by decide +kernel), List.mem_of_getElem? (i := 1855) (by decide +kernel), List.mem_of_getElem? (i := 1856) (by decide +kernel)⟩
theorem lw_p103 : lw_okq (⟨"RugReaderModel", "hasTrod", "(II)Z"⟩, 55) := ⟨⟨by decide +kernel, by decide +kernel⟩, List.mem_of_getElem? (i := 1292) (by decide +kernel), List.mem_of_getElem? (i := 1859) (by decide +kernel), List.mem_of_getElem? (i := 1860) (by decide +kernel)⟩
def lw_privs_7 : List (MethodName × Nat) := [(⟨"RugReaderModel", "code", "(III)V"⟩, 55), (⟨"RugReaderModel", "joins", "(I)V"⟩, 55), (⟨"RugReaderModel", "behind", "()Z"⟩, 55), (⟨"RugReaderModel", "operand", "()Z"⟩, 55), (⟨"RugReaderModel", "leafOf", "()I"⟩, 55), (⟨"RugReaderModel", "isSaid", "(I)Z"⟩, 55), (⟨"RugReaderModel", "isLeaf", "(IIII)Z"⟩, 55), (⟨"RugReaderModel", "hasTrod", "(II)Z"⟩, 55)]
theorem lw_r7 : ∀ q ∈ lw_privs_7, lw_okq q := List.forall_mem_cons.mpr ⟨lw_p96, List.forall_mem_cons.mpr ⟨lw_p97, List.forall_mem_cons.mpr ⟨lw_p98, List.forall_mem_cons.mpr ⟨lw_p99, List.forall_mem_cons.mpr ⟨lw_p100, List.forall_mem_cons.mpr ⟨lw_p101, List.forall_mem_cons.mpr ⟨lw_p102, List.forall_mem_cons.mpr ⟨lw_p103, fun _ h => absurd h List.not_mem_nil⟩⟩⟩⟩⟩⟩⟩⟩
def lw_privs : List (MethodName × Nat) := lw_privs_1 ++ (lw_privs_2 ++ (lw_privs_3 ++ (lw_privs_4 ++ (lw_privs_5 ++ (lw_privs_6 ++ (lw_privs_7))))))
def lw_tbl : List Cond := k2_sels lw_privs ++ tables_1
theorem lw_privs_ok : ∀ q ∈ lw_privs, lw_okq q := by
  show ∀ q ∈ lw_privs_1 ++ (lw_privs_2 ++ (lw_privs_3 ++ (lw_privs_4 ++ (lw_privs_5 ++ (lw_privs_6 ++ (lw_privs_7)))))), lw_okq q
  exact List.forall_mem_append.mpr ⟨lw_r1, List.forall_mem_append.mpr ⟨lw_r2, List.forall_mem_append.mpr ⟨lw_r3, List.forall_mem_append.mpr ⟨lw_r4, List.forall_mem_append.mpr ⟨lw_r5, List.forall_mem_append.mpr ⟨lw_r6, lw_r7⟩⟩⟩⟩⟩⟩
-- ===== end of PART A =====
end
section
/-! WORLDS OF NUMBERED OBJECTS: a world holds, for each object k and place j, an int, a long, a reference (to an object by its number);
how many objects are made (wn), how many exceptions (wx). A small machine moves over it; what it reaches the real machine reaches. -/
def FU : Nat := 1099511627776000
abbrev Wd : Type := Nat × Nat × (Nat → Nat → Int32) × (Nat → Nat → Int64) × (Nat → Nat → Option Nat)
def wn (w : Wd) : Nat := w.1
def wx (w : Wd) : Nat := w.2.1
def wI (w : Wd) : Nat → Nat → Int32 := w.2.2.1
def wL (w : Wd) : Nat → Nat → Int64 := w.2.2.2.1
def wR (w : Wd) : Nat → Nat → Option Nat := w.2.2.2.2
def sI (w : Wd) (k j : Nat) (v : Int32) : Wd := (wn w, wx w, fun a b => if a = k ∧ b = j then v else wI w a b, wL w, wR w)
def sL (w : Wd) (k j : Nat) (v : Int64) : Wd := (wn w, wx w, wI w, fun a b => if a = k ∧ b = j then v else wL w a b, wR w)
def sR (w : Wd) (k j : Nat) (v : Option Nat) : Wd := (wn w, wx w, wI w, wL w, fun a b => if a = k ∧ b = j then v else wR w a b)
/-- a whole row -/
def rI (w : Wd) (k : Nat) (f : Nat → Int32) : Wd := (wn w, wx w, fun a b => if a = k then f b else wI w a b, wL w, wR w)
def rL (w : Wd) (k : Nat) (f : Nat → Int64) : Wd := (wn w, wx w, wI w, fun a b => if a = k then f b else wL w a b, wR w)
/-- one object more, all of it 0 or null -/
def alc (w : Wd) : Wd := (wn w + 1, wx w, fun a b => if a = wn w then 0 else wI w a b, fun a b => if a = wn w then 0 else wL w a b, fun a b => if a = wn w then none else wR w a b)
/-- an exception more -/
def exc (w : Wd) : Wd := (wn w, wx w + 1, wI w, wL w, wR w)
theorem wn_sI (w : Wd) (k j : Nat) (v : Int32) : wn (sI w k j v) = wn w := rfl
theorem wn_sL (w : Wd) (k j : Nat) (v : Int64) : wn (sL w k j v) = wn w := rfl
theorem wn_sR (w : Wd) (k j : Nat) (v : Option Nat) : wn (sR w k j v) = wn w := rfl
theorem wn_rI (w : Wd) (k : Nat) (f : Nat → Int32) : wn (rI w k f) = wn w := rfl
theorem wn_rL (w : Wd) (k : Nat) (f : Nat → Int64) : wn (rL w k f) = wn w := rfl
theorem wx_sI (w : Wd) (k j : Nat) (v : Int32) : wx (sI w k j v) = wx w := rfl
theorem wx_sL (w : Wd) (k j : Nat) (v : Int64) : wx (sL w k j v) = wx w := rfl
theorem wx_sR (w : Wd) (k j : Nat) (v : Option Nat) : wx (sR w k j v) = wx w := rfl
theorem wx_rI (w : Wd) (k : Nat) (f : Nat → Int32) : wx (rI w k f) = wx w := rfl
theorem wx_rL (w : Wd) (k : Nat) (f : Nat → Int64) : wx (rL w k f) = wx w := rfl
theorem wR_sI (w : Wd) (k j : Nat) (v : Int32) : wR (sI w k j v) = wR w := rfl
theorem wR_sL (w : Wd) (k j : Nat) (v : Int64) : wR (sL w k j v) = wR w := rfl
theorem wR_rI (w : Wd) (k : Nat) (f : Nat → Int32) : wR (rI w k f) = wR w := rfl
theorem wR_rL (w : Wd) (k : Nat) (f : Nat → Int64) : wR (rL w k f) = wR w := rfl
theorem wL_sI (w : Wd) (k j : Nat) (v : Int32) : wL (sI w k j v) = wL w := rfl
theorem wL_sR (w : Wd) (k j : Nat) (v : Option Nat) : wL (sR w k j v) = wL w := rfl
theorem wL_rI (w : Wd) (k : Nat) (f : Nat → Int32) : wL (rI w k f) = wL w := rfl
theorem wI_sL (w : Wd) (k j : Nat) (v : Int64) : wI (sL w k j v) = wI w := rfl
theorem wI_sR (w : Wd) (k j : Nat) (v : Option Nat) : wI (sR w k j v) = wI w := rfl
theorem wI_rL (w : Wd) (k : Nat) (f : Nat → Int64) : wI (rL w k f) = wI w := rfl
theorem wI_sI (w : Wd) (k j : Nat) (v : Int32) (a b : Nat) : wI (sI w k j v) a b = if a = k ∧ b = j then v else wI w a b := rfl
theorem wL_sL (w : Wd) (k j : Nat) (v : Int64) (a b : Nat) : wL (sL w k j v) a b = if a = k ∧ b = j then v else wL w a b := rfl
theorem wR_sR (w : Wd) (k j : Nat) (v : Option Nat) (a b : Nat) : wR (sR w k j v) a b = if a = k ∧ b = j then v else wR w a b := rfl
theorem wI_rI (w : Wd) (k : Nat) (f : Nat → Int32) (a b : Nat) : wI (rI w k f) a b = if a = k then f b else wI w a b := rfl
theorem wL_rL (w : Wd) (k : Nat) (f : Nat → Int64) (a b : Nat) : wL (rL w k f) a b = if a = k then f b else wL w a b := rfl
theorem wR_exc (w : Wd) : wR (exc w) = wR w := rfl
theorem wL_exc (w : Wd) : wL (exc w) = wL w := rfl
theorem wI_exc (w : Wd) : wI (exc w) = wI w := rfl
theorem wn_exc (w : Wd) : wn (exc w) = wn w := rfl
/-! ops of the small machine: (tag, a, b, v); a row of code: (pc, next pc, op); a method: (number, class, arguments, its end's kind, locals, code) -/
abbrev Op4 : Type := Nat × Nat × Nat × Int32
abbrev Mth : Type := Nat × Nat × Nat × Nat × Nat × List (Nat × Nat × Op4)
def mNum (M : Mth) : Nat := M.1
def mCls (M : Mth) : Nat := M.2.1
def mArg (M : Mth) : Nat := M.2.2.1
/-- 0 void, 1 int, 2 boolean, 3 long, 4 reference -/
def mRet (M : Mth) : Nat := M.2.2.2.1
def mLoc (M : Mth) : Nat := M.2.2.2.2.1
def mCode (M : Mth) : List (Nat × Nat × Op4) := M.2.2.2.2.2
def opAt : List (Nat × Nat × Op4) → Nat → Option (Op4 × Nat)
  | [], _ => none
  | r :: l, pc => bif Nat.beq r.1 pc then some (r.2.2, r.2.1) else opAt l pc
abbrev Cfg : Type := Nat × List (Nat × Value) × List Value × Wd
def lgt : List (Nat × Value) → Nat → Option Value
  | [], _ => none
  | q :: l, i => bif Nat.beq q.1 i then some q.2 else lgt l i
def lst1 (lv : List (Nat × Value)) (i : Nat) (v : Value) : List (Nat × Value) := (i, v) :: lv.filter (fun q => !(q.1 == i) && !(q.1 + 1 == i && q.2.category == 2))
def lst2 (lv : List (Nat × Value)) (i : Nat) (v : Value) : List (Nat × Value) := (i, v) :: lv.filter (fun q => !(q.1 == i) && (!(q.1 == i + 1) && !(q.1 + 1 == i && q.2.category == 2)))
/-- an index as a place -/
abbrev ix (i : Int32) : Nat := i.toNatClampNeg
/-- an index within a row of n -/
def ib (i : Int32) (n : Nat) : Bool := decide (0 ≤ i) && decide (ix i < n)
theorem ib_vp {i : Int32} {n : Nat} (h : ib i n = true) : vp_in i n := by
  simp only [ib, Bool.and_eq_true, decide_eq_true_eq] at h
  intro q
  rcases q with q | q
  · exact absurd h.1 (by simpa [Int32.not_le] using q)
  · exact absurd h.2 (Nat.not_lt.mpr q)
def zrem (x y : Int32) : Int32 := x - x / y * y
def zush (x y : Int32) : Int32 := (x.toUInt32 >>> (y.toUInt32 &&& Int32.toUInt32 31)).toInt32
/-- whole-number operations of two ints -/
def zbin (a : Nat) (x y : Int32) : Option Int32 := match a with
  | 0 => some (x + y)
  | 1 => some (x - y)
  | 2 => some (x * y)
  | 3 => if y = 0 then none else some (x / y)
  | 4 => if y = 0 then none else some (zrem x y)
  | 5 => some (x &&& y)
  | 6 => some (x ||| y)
  | 7 => some (x ^^^ y)
  | 8 => some (x <<< (y &&& 31))
  | 9 => some (x >>> (y &&& 31))
  | 10 => some (zush x y)
  | _ => none
def zlbin (a : Nat) (x y : Int64) : Option Int64 := match a with
  | 0 => some (x + y)
  | 1 => some (x * y)
  | 2 => some (x ||| y)
  | _ => none
def zcnd (a : Nat) (x y : Int32) : Bool := match a with
  | 0 => decide (x = y)
  | 1 => !decide (x = y)
  | 2 => decide (x < y)
  | 3 => decide (y ≤ x)
  | 4 => decide (y < x)
  | _ => decide (x ≤ y)
def zref (v : Value) : Option (Option Nat) := match v with
  | .ref k => some (some k)
  | .null => some none
  | _ => none
/-- numbers of constants of the enum -/
def zwk (o : Option Nat) : Bool := match o with
  | some k => decide (1010 ≤ k) && decide (k < 1030)
  | none => true
end
section
/-! printed by program (wip/whole/gen): the classes' fields, the objects' shapes, the links, the codes, out of the claim's own tables and byte codes -/
def zCn : List String := ["RugReader$Crossing", "RugReader$House", "RugReader$HouseText", "RugReader$Lookout", "RugReader$Readings", "RugReader$Rug", "RugReader$Sentence", "RugReader$Tape", "RugReader$Walk", "RugReader", "RugReaderModel", "RugReader$Word", "RugReaderLaw", "java/lang/Math", "java/lang/Integer"]
def zC (c : Nat) : String := zCn.getD c ""
def zF : Nat → List (String × String × String × Bool)
  | 0 => [("RugReader$Crossing", "marks", "I", false), ("RugReader$Crossing", "stepsGone", "I", false), ("RugReader$Crossing", "cost", "[I", true), ("RugReader$Crossing", "settled", "[Z", true)]
  | 1 => [("RugReader$House", "width", "I", false), ("RugReader$House", "height", "I", false), ("RugReader$House", "fade", "I", false), ("RugReader$House", "people", "I", false), ("RugReader$House", "ways", "I", false), ("RugReader$House", "walls", "I", false), ("RugReader$House", "doors", "I", false), ("RugReader$House", "weight", "[I", true), ("RugReader$House", "sole", "[I", true), ("RugReader$House", "pace", "[I", true), ("RugReader$House", "personName", "[J", true), ("RugReader$House", "wayName", "[J", true), ("RugReader$House", "wayLength", "[I", true), ("RugReader$House", "wayTuft", "[I", true), ("RugReader$House", "wall", "[Z", true), ("RugReader$House", "door", "[I", true)]
  | 2 => [("RugReader$HouseText", "tape", "LRugReader$Tape;", true)]
  | 3 => [("RugReader$Lookout", "from", "I", false), ("RugReader$Lookout", "to", "I", false), ("RugReader$Lookout", "shut", "[Z", true), ("RugReader$Lookout", "carries", "[Z", true), ("RugReader$Lookout", "flows", "[Z", true), ("RugReader$Lookout", "cameFrom", "[I", true), ("RugReader$Lookout", "queue", "[I", true), ("RugReader$Lookout", "queued", "I", false), ("RugReader$Lookout", "laidCount", "I", false), ("RugReader$Lookout", "row", "[I", true)]
  | 4 => [("RugReader$Readings", "fewestPeople", "I", false), ("RugReader$Readings", "told", "I", false), ("RugReader$Readings", "at", "[I", true), ("RugReader$Readings", "sole", "[I", true), ("RugReader$Readings", "lastWay", "[I", true), ("RugReader$Readings", "passes", "[I", true), ("RugReader$Readings", "free", "[Z", true), ("RugReader$Readings", "lacks", "[I", true), ("RugReader$Readings", "mayCome", "[I", true), ("RugReader$Readings", "top", "[I", true), ("RugReader$Readings", "chosen", "[I", true), ("RugReader$Readings", "found", "I", false), ("RugReader$Readings", "waysRead", "I", false), ("RugReader$Readings", "anyRead", "Z", false), ("RugReader$Readings", "first", "[I", true), ("RugReader$Readings", "byAll", "[I", true)]
  | 5 => [("RugReader$Rug", "day", "I", false), ("RugReader$Rug", "prints", "[I", true), ("RugReader$Rug", "lostWeight", "[I", true), ("RugReader$Rug", "topPerson", "[I", true), ("RugReader$Rug", "topSole", "[I", true), ("RugReader$Rug", "topDir", "[I", true), ("RugReader$Rug", "topDay", "[I", true), ("RugReader$Rug", "walks", "[I", true)]
  | 6 => [("RugReader$Sentence", "ones", "I", false), ("RugReader$Sentence", "size", "I", false), ("RugReader$Sentence", "act", "[I", true), ("RugReader$Sentence", "by", "[I", true), ("RugReader$Sentence", "number", "[I", true)]
  | 7 => [("RugReader$Tape", "bytes", "[I", true), ("RugReader$Tape", "length", "I", false), ("RugReader$Tape", "fault", "I", false), ("RugReader$Tape", "place", "I", false), ("RugReader$Tape", "tooLong", "Z", false), ("RugReader$Tape", "tokens", "I", false), ("RugReader$Tape", "current", "I", false), ("RugReader$Tape", "start", "[I", true), ("RugReader$Tape", "kind", "[I", true), ("RugReader$Tape", "value", "[J", true)]
  | 8 => [("RugReader$Walk", "walker", "I", false), ("RugReader$Walk", "first", "I", false), ("RugReader$Walk", "lines", "I", false), ("RugReader$Walk", "dir", "[I", true), ("RugReader$Walk", "far", "[I", true), ("RugReader$Walk", "minutes", "[I", true), ("RugReader$Walk", "judged", "Z", false), ("RugReader$Walk", "why", "I", false), ("RugReader$Walk", "gone", "I", false), ("RugReader$Walk", "time", "I", false), ("RugReader$Walk", "reached", "I", false)]
  | 9 => [("RugReader", "tape", "LRugReader$Tape;", true), ("RugReader", "houseText", "LRugReader$HouseText;", true), ("RugReader", "home", "LRugReader$House;", false), ("RugReader", "draft", "LRugReader$House;", false), ("RugReader", "saying", "LRugReader$Sentence;", false), ("RugReader", "sayingDraft", "LRugReader$Sentence;", false), ("RugReader", "rug", "LRugReader$Rug;", true), ("RugReader", "earlier", "[LRugReader$Rug;", true), ("RugReader", "oldest", "I", false), ("RugReader", "undoable", "I", false), ("RugReader", "keptHomes", "[LRugReader$House;", true), ("RugReader", "keptRugs", "[LRugReader$Rug;", true), ("RugReader", "keptSayings", "[LRugReader$Sentence;", true), ("RugReader", "kept", "[Z", true), ("RugReader", "clean", "LRugReader$Readings;", true), ("RugReader", "told", "LRugReader$Walk;", true), ("RugReader", "crossing", "LRugReader$Crossing;", true), ("RugReader", "lookout", "LRugReader$Lookout;", true)]
  | 10 => [("RugReaderModel", "thrown", "I", false), ("RugReaderModel", "tape", "[B", true), ("RugReaderModel", "length", "I", false), ("RugReaderModel", "size", "I", false), ("RugReaderModel", "p", "I", false), ("RugReaderModel", "limit", "I", false), ("RugReaderModel", "s", "[I", true), ("RugReaderModel", "h", "[I", true), ("RugReaderModel", "read", "[I", true), ("RugReaderModel", "names", "[J", true), ("RugReaderModel", "reserved", "[J", true), ("RugReaderModel", "token", "I", false), ("RugReaderModel", "at", "I", false), ("RugReaderModel", "span", "I", false), ("RugReaderModel", "number", "I", false), ("RugReaderModel", "fault", "I", false), ("RugReaderModel", "faultAt", "I", false), ("RugReaderModel", "word", "J", false), ("RugReaderModel", "got", "I", false), ("RugReaderModel", "lines", "I", false), ("RugReaderModel", "hasRug", "Z", false), ("RugReaderModel", "hasFade", "Z", false), ("RugReaderModel", "undone", "[I", true), ("RugReaderModel", "undoMany", "I", false), ("RugReaderModel", "treadsOf", "[I", true), ("RugReaderModel", "who", "[I", true), ("RugReaderModel", "firstRead", "[I", true), ("RugReaderModel", "allRead", "[I", true), ("RugReaderModel", "readWays", "I", false), ("RugReaderModel", "fewestRead", "I", false), ("RugReaderModel", "cost", "[I", true), ("RugReaderModel", "walkedAt", "[I", true), ("RugReaderModel", "goer", "I", false), ("RugReaderModel", "startAt", "I", false), ("RugReaderModel", "walkLines", "I", false), ("RugReaderModel", "hasWalked", "Z", false), ("RugReaderModel", "runs", "[I", true), ("RugReaderModel", "over", "[I", true), ("RugReaderModel", "ahead", "[I", true), ("RugReaderModel", "queue", "[I", true), ("RugReaderModel", "seenRow", "[I", true), ("RugReaderModel", "laid", "[Z", true), ("RugReaderModel", "seenMany", "I", false), ("RugReaderModel", "queueMany", "I", false), ("RugReaderModel", "seed", "I", false), ("RugReaderModel", "stack", "[I", true), ("RugReaderModel", "codes", "I", false), ("RugReaderModel", "ones", "I", false), ("RugReaderModel", "top", "I", false), ("RugReaderModel", "deep", "I", false), ("RugReaderModel", "isWhole", "Z", false), ("RugReaderModel", "values", "[Z", true), ("RugReaderModel", "kept", "[I", true), ("RugReaderModel", "namesKept", "[J", true), ("RugReaderModel", "isKept", "[Z", true)]
  | _ => []
def zT (c : Nat) : u_T := fun k => (zF c).getD k ("", "", "", false)
def zN : Nat → Nat
  | 0 => 4
  | 1 => 16
  | 2 => 1
  | 3 => 10
  | 4 => 16
  | 5 => 8
  | 6 => 5
  | 7 => 10
  | 8 => 11
  | 9 => 18
  | 10 => 55
  | _ => 0
def zTy (c k : Nat) : FieldType := ((match c with
  | 0 => [.int, .int, .array (.int), .array (.boolean)]
  | 1 => [.int, .int, .int, .int, .int, .int, .int, .array (.int), .array (.int), .array (.int), .array (.long), .array (.long), .array (.int), .array (.int), .array (.boolean), .array (.int)]
  | 2 => [.object "RugReader$Tape"]
  | 3 => [.int, .int, .array (.boolean), .array (.boolean), .array (.boolean), .array (.int), .array (.int), .int, .int, .array (.int)]
  | 4 => [.int, .int, .array (.int), .array (.int), .array (.int), .array (.int), .array (.boolean), .array (.int), .array (.int), .array (.int), .array (.int), .int, .int, .boolean, .array (.int), .array (.int)]
  | 5 => [.int, .array (.int), .array (.int), .array (.int), .array (.int), .array (.int), .array (.int), .array (.int)]
  | 6 => [.int, .int, .array (.int), .array (.int), .array (.int)]
  | 7 => [.array (.int), .int, .int, .int, .boolean, .int, .int, .array (.int), .array (.int), .array (.long)]
  | 8 => [.int, .int, .int, .array (.int), .array (.int), .array (.int), .boolean, .int, .int, .int, .int]
  | 9 => [.object "RugReader$Tape", .object "RugReader$HouseText", .object "RugReader$House", .object "RugReader$House", .object "RugReader$Sentence", .object "RugReader$Sentence", .object "RugReader$Rug", .array (.object "RugReader$Rug"), .int, .int, .array (.object "RugReader$House"), .array (.object "RugReader$Rug"), .array (.object "RugReader$Sentence"), .array (.boolean), .object "RugReader$Readings", .object "RugReader$Walk", .object "RugReader$Crossing", .object "RugReader$Lookout"]
  | 10 => [.int, .array (.byte), .int, .int, .int, .int, .array (.int), .array (.int), .array (.int), .array (.long), .array (.long), .int, .int, .int, .int, .int, .int, .long, .int, .int, .boolean, .boolean, .array (.int), .int, .array (.int), .array (.int), .array (.int), .array (.int), .int, .int, .array (.int), .array (.int), .int, .int, .int, .boolean, .array (.int), .array (.int), .array (.int), .array (.int), .array (.int), .array (.boolean), .int, .int, .int, .array (.int), .int, .int, .int, .int, .boolean, .array (.boolean), .array (.int), .array (.long), .array (.boolean)]
  | _ => []) : List FieldType).getD k .int
/-- a field's kind: 0 int, boolean; 1 long; 2 a reference -/
def zFk (c k : Nat) : Nat := ((match c with
  | 0 => [0, 0, 2, 2]
  | 1 => [0, 0, 0, 0, 0, 0, 0, 2, 2, 2, 2, 2, 2, 2, 2, 2]
  | 2 => [2]
  | 3 => [0, 0, 2, 2, 2, 2, 2, 0, 0, 2]
  | 4 => [0, 0, 2, 2, 2, 2, 2, 2, 2, 2, 2, 0, 0, 0, 2, 2]
  | 5 => [0, 2, 2, 2, 2, 2, 2, 2]
  | 6 => [0, 0, 2, 2, 2]
  | 7 => [2, 0, 0, 0, 0, 0, 0, 2, 2, 2]
  | 8 => [0, 0, 0, 2, 2, 2, 0, 0, 0, 0, 0]
  | 9 => [2, 2, 2, 2, 2, 2, 2, 2, 0, 0, 2, 2, 2, 2, 2, 2, 2, 2]
  | 10 => [0, 2, 0, 0, 0, 0, 2, 2, 2, 2, 2, 0, 0, 0, 0, 0, 0, 1, 0, 0, 0, 0, 2, 0, 2, 2, 2, 2, 0, 0, 2, 2, 0, 0, 0, 0, 2, 2, 2, 2, 2, 2, 0, 0, 0, 2, 0, 0, 0, 0, 0, 2, 2, 2, 2]
  | _ => []) : List Nat).getD k 9
def zcl : List vw_C := (List.range 11).map fun c => (zC c, zT c, zN c)
def zshL : List (Nat × Nat) := [(9, 18), (7, 10), (101, 940), (101, 941), (101, 941), (102, 941), (2, 1), (1, 16), (101, 6), (101, 6), (101, 6), (102, 6), (102, 6), (101, 6), (101, 246), (104, 144), (101, 8), (1, 16), (101, 6), (101, 6), (101, 6), (102, 6), (102, 6), (101, 6), (101, 246), (104, 144), (101, 8), (6, 5), (101, 64), (101, 64), (101, 64), (6, 5), (101, 64), (101, 64), (101, 64), (5, 8), (101, 7776), (101, 1296), (101, 144), (101, 144), (101, 144), (101, 144), (101, 6), (115, 6), (111, 2), (115, 2), (116, 2), (104, 2), (4, 16), (101, 8), (101, 8), (101, 8), (101, 48), (104, 6), (101, 56), (101, 56), (101, 56), (101, 6), (101, 6), (101, 6), (8, 11), (101, 30), (101, 30), (101, 30), (0, 4), (101, 144), (104, 144), (3, 10), (104, 144), (104, 144), (104, 576), (101, 288), (101, 288), (101, 4), (5, 8), (101, 7776), (101, 1296), (101, 144), (101, 144), (101, 144), (101, 144), (101, 6), (5, 8), (101, 7776), (101, 1296), (101, 144), (101, 144), (101, 144), (101, 144), (101, 6), (5, 8), (101, 7776), (101, 1296), (101, 144), (101, 144), (101, 144), (101, 144), (101, 6), (5, 8), (101, 7776), (101, 1296), (101, 144), (101, 144), (101, 144), (101, 144), (101, 6), (5, 8), (101, 7776), (101, 1296), (101, 144), (101, 144), (101, 144), (101, 144), (101, 6), (5, 8), (101, 7776), (101, 1296), (101, 144), (101, 144), (101, 144), (101, 144), (101, 6), (1, 16), (101, 6), (101, 6), (101, 6), (102, 6), (102, 6), (101, 6), (101, 246), (104, 144), (101, 8), (5, 8), (101, 7776), (101, 1296), (101, 144), (101, 144), (101, 144), (101, 144), (101, 6), (6, 5), (101, 64), (101, 64), (101, 64), (1, 16), (101, 6), (101, 6), (101, 6), (102, 6), (102, 6), (101, 6), (101, 246), (104, 144), (101, 8), (5, 8), (101, 7776), (101, 1296), (101, 144), (101, 144), (101, 144), (101, 144), (101, 6), (6, 5), (101, 64), (101, 64), (101, 64), (10, 55), (103, 940), (101, 10265), (101, 429), (101, 135), (102, 24), (102, 20), (101, 57930), (101, 48), (101, 6), (101, 6), (101, 6), (101, 144), (101, 4), (101, 576), (101, 144), (101, 288), (101, 288), (101, 144), (104, 144), (101, 45), (104, 45), (101, 20530), (102, 24), (104, 2), (102, 1)]
/-- an object's kind (below 100 its class; 101 int, 102 long, 103 byte, 104 boolean rows, 110 + c rows of objects of class c), its length -/
def zsh (k : Nat) : Nat × Nat := zshL.getD k (999, 0)
def zK : Nat := 192
def zlc (a : Nat) : Int64 := ([0, 1, 32, -1, 7501159, 123581014175598, 2002873452, 1685024626, 7823737, 1717658725, 110, 101, 115, 119, 28530, 6385252, 7237492, 1953656676, 131277443786868, 1936682085, 1885430629, 123636697429107, 500185855091, 482854658917] : List Int64).getD a 0
/-- switches: the lowest, the targets, the other -/
def zsw (a : Nat) : Int × List Nat × Nat := ([(0, [200, 273, 298, 311, 324, 392, 460, 497, 546, 571, 608, 621, 646, 671, 696, 709, 734, 771, 784, 821, 834, 883, 932, 945, 970, 1007, 1032, 1045, 1070, 1107, 1156, 1169, 1182, 1207, 1232, 1257], 1282), (0, [40, 45, 50, 55], 60), (0, [52, 60, 68, 76, 84, 92, 100, 108, 116], 124), (0, [116, 126, 136, 146, 148], 151), (0, [100, 106, 112, 121, 139, 157, 184], 194)] : List (Int × List Nat × Nat)).getD a (0, [], 0)
def zswk : List (Nat × Nat × Nat) := [(12, 40, 0), (8, 10, 1), (9, 1, 2), (10, 83, 3), (10, 57, 4)]
/-- the enum's constants: code; dir, measured -/
def zwc (i : Nat) : Int64 := ([19111, 542723566, 755084, 146930, 23609, 197765, 14, 5, 19, 23, 498, 1476, 14836, 674276, 777297172, 638341, 525413, 556055187, 21666451, 17171557] : List Int64).getD i 0
def zwd (i : Nat) : Int32 := ([-1, -1, -1, -1, -1, -1, 0, 1, 2, 3, -1, -1, -1, -1, -1, -1, -1, -1, -1, -1] : List Int32).getD i 0
def zwm (i : Nat) : Int32 := ([-1, -1, -1, -1, -1, -1, -1, -1, -1, -1, -1, -1, -1, -1, 0, 1, 2, 3, 4, 5] : List Int32).getD i 0
def zwnm (i : Nat) : String := (["RUG", "PERSON", "WALL", "DOOR", "WAY", "FADE", "NORTH", "EAST", "SOUTH", "WEST", "OR", "AND", "NOT", "TROD", "WEIGHT", "SOLE", "PACE", "PRINTS", "TUFTS_TROD", "PLACE"] : List String).getD i ""
/-- (class, index, class of the field, its place, place of the word, nest) -/
def zfl (c : Nat) : List (Nat × Nat × Nat × Nat × Nat × Bool) := match c with
  | 0 => [(0, 9, 0, 0, 429, false), (0, 15, 0, 1, 431, false), (0, 18, 0, 2, 433, false), (0, 22, 0, 3, 434, false)]
  | 1 => [(1, 9, 1, 0, 192, false), (1, 15, 1, 1, 197, false), (1, 18, 1, 2, 202, false), (1, 21, 1, 3, 204, false), (1, 24, 1, 4, 208, false), (1, 27, 1, 5, 212, false), (1, 30, 1, 6, 215, false), (1, 33, 1, 7, 218, false), (1, 37, 1, 8, 220, false), (1, 40, 1, 9, 222, false), (1, 43, 1, 10, 224, false), (1, 47, 1, 11, 226, false), (1, 50, 1, 12, 228, false), (1, 53, 1, 13, 230, false), (1, 56, 1, 14, 231, false), (1, 60, 1, 15, 233, false)]
  | 2 => [(2, 9, 2, 0, 182, false), (2, 87, 1, 0, 195, false), (2, 98, 1, 1, 200, false), (2, 101, 1, 2, 203, false), (2, 117, 1, 3, 206, false), (2, 120, 1, 10, 225, false), (2, 128, 1, 7, 219, false), (2, 132, 1, 8, 221, false), (2, 135, 1, 9, 223, false), (2, 141, 1, 5, 213, false), (2, 148, 1, 14, 232, false), (2, 152, 1, 6, 216, false), (2, 158, 1, 15, 234, false), (2, 161, 1, 4, 210, false), (2, 164, 1, 11, 227, false), (2, 170, 1, 12, 229, false)]
  | 3 => [(3, 9, 3, 0, 450, false), (3, 15, 3, 1, 451, false), (3, 18, 3, 2, 452, false), (3, 22, 3, 3, 453, false), (3, 25, 3, 4, 454, false), (3, 28, 3, 5, 455, false), (3, 32, 3, 6, 456, false), (3, 35, 3, 7, 457, false), (3, 38, 3, 8, 458, false), (3, 41, 3, 9, 459, false)]
  | 4 => [(4, 9, 4, 0, 333, false), (4, 15, 4, 1, 335, false), (4, 18, 4, 2, 336, false), (4, 22, 4, 3, 337, false), (4, 25, 4, 4, 338, false), (4, 28, 4, 5, 339, false), (4, 31, 4, 6, 340, false), (4, 35, 4, 7, 341, false), (4, 38, 4, 8, 342, false), (4, 41, 4, 9, 343, false), (4, 44, 4, 10, 344, false), (4, 47, 4, 11, 345, false), (4, 50, 4, 12, 346, false), (4, 53, 4, 13, 347, false), (4, 57, 4, 14, 348, false), (4, 60, 4, 15, 349, false), (4, 79, 1, 4, 209, false), (4, 87, 7, 1, 142, false), (4, 96, 1, 0, 194, false), (4, 99, 1, 1, 199, false), (4, 118, 1, 3, 205, false)]
  | 5 => [(5, 11, 5, 0, 298, false), (5, 15, 5, 1, 300, false), (5, 19, 5, 2, 301, false), (5, 22, 5, 3, 302, false), (5, 25, 5, 4, 303, false), (5, 28, 5, 5, 304, false), (5, 31, 5, 6, 305, false), (5, 34, 5, 7, 306, false)]
  | 6 => [(6, 9, 6, 0, 275, false), (6, 15, 6, 1, 277, false), (6, 18, 6, 2, 278, false), (6, 22, 6, 3, 279, false), (6, 25, 6, 4, 280, false)]
  | 7 => [(7, 11, 7, 0, 139, false), (7, 15, 7, 1, 140, false), (7, 19, 7, 2, 143, false), (7, 22, 7, 3, 145, false), (7, 25, 7, 4, 147, false), (7, 29, 7, 5, 148, false), (7, 32, 7, 6, 149, false), (7, 35, 7, 7, 150, false), (7, 38, 7, 8, 151, false), (7, 41, 7, 9, 152, false), (7, 93, 11, 0, 1995, false), (7, 108, 11, 1, 1996, false), (7, 111, 11, 2, 1997, false)]
  | 8 => [(8, 9, 8, 0, 389, false), (8, 15, 8, 1, 390, false), (8, 18, 8, 2, 391, false), (8, 21, 8, 3, 392, false), (8, 25, 8, 4, 393, false), (8, 28, 8, 5, 394, false), (8, 31, 8, 6, 395, false), (8, 35, 8, 7, 396, false), (8, 38, 8, 8, 397, false), (8, 41, 8, 9, 398, false), (8, 44, 8, 10, 399, false), (8, 90, 1, 0, 193, false), (8, 97, 1, 1, 198, false)]
  | 9 => [(9, 10, 9, 0, 481, false), (9, 21, 9, 1, 482, false), (9, 28, 9, 2, 483, false), (9, 32, 9, 3, 484, false), (9, 38, 9, 4, 485, false), (9, 42, 9, 5, 486, false), (9, 48, 9, 6, 487, false), (9, 52, 9, 7, 488, false), (9, 56, 9, 8, 489, false), (9, 60, 9, 9, 490, false), (9, 63, 9, 10, 491, false), (9, 67, 9, 11, 492, false), (9, 70, 9, 12, 493, false), (9, 74, 9, 13, 494, false), (9, 81, 9, 14, 495, false), (9, 88, 9, 15, 496, false), (9, 95, 9, 16, 497, false), (9, 102, 9, 17, 498, false), (9, 114, 7, 1, 141, false), (9, 121, 7, 3, 146, false), (9, 128, 7, 2, 144, false), (9, 190, 5, 0, 299, false), (9, 212, 1, 3, 207, false), (9, 215, 1, 4, 211, false), (9, 234, 1, 0, 196, false), (9, 237, 1, 1, 201, false), (9, 260, 4, 0, 334, false), (9, 266, 0, 0, 430, false), (9, 272, 0, 1, 432, false), (9, 309, 6, 0, 276, false), (9, 331, 1, 5, 214, false), (9, 334, 1, 6, 217, false)]
  | 10 => [(10, 1, 10, 0, 1428, false), (10, 7, 10, 2, 1430, false), (10, 14, 10, 1, 1429, false), (10, 18, 10, 3, 1431, false), (10, 21, 10, 4, 1432, false), (10, 24, 10, 5, 1433, false), (10, 33, 10, 6, 1434, false), (10, 37, 10, 7, 1435, false), (10, 40, 10, 8, 1436, false), (10, 43, 10, 9, 1437, false), (10, 47, 10, 10, 1438, false), (10, 51, 10, 22, 1450, false), (10, 54, 10, 24, 1452, false), (10, 57, 10, 25, 1453, false), (10, 60, 10, 26, 1454, false), (10, 63, 10, 27, 1455, false), (10, 66, 10, 28, 1456, false), (10, 69, 10, 30, 1458, false), (10, 72, 10, 31, 1459, false), (10, 75, 10, 36, 1464, false), (10, 78, 10, 37, 1465, false), (10, 81, 10, 38, 1466, false), (10, 84, 10, 39, 1467, false), (10, 87, 10, 40, 1468, false), (10, 90, 10, 41, 1469, false), (10, 94, 10, 45, 1473, false), (10, 97, 10, 51, 1479, false), (10, 100, 10, 52, 1480, false), (10, 103, 10, 53, 1481, false), (10, 106, 10, 54, 1482, false), (10, 153, 10, 12, 1440, false), (10, 156, 10, 13, 1441, false), (10, 159, 10, 11, 1439, false), (10, 169, 10, 14, 1442, false), (10, 172, 10, 17, 1445, false), (10, 176, 10, 15, 1443, false), (10, 179, 10, 16, 1444, false), (10, 195, 10, 18, 1446, false), (10, 210, 10, 20, 1448, false), (10, 227, 10, 21, 1449, false), (10, 240, 10, 19, 1447, false), (10, 249, 10, 23, 1451, false), (10, 325, 10, 29, 1457, false), (10, 338, 10, 32, 1460, false), (10, 341, 10, 33, 1461, false), (10, 344, 10, 34, 1462, false), (10, 350, 10, 35, 1463, false), (10, 353, 10, 43, 1471, false), (10, 371, 10, 42, 1470, false), (10, 383, 10, 44, 1472, false), (10, 390, 10, 46, 1474, false), (10, 393, 10, 48, 1476, false), (10, 399, 10, 49, 1477, false), (10, 405, 10, 47, 1475, false), (10, 408, 10, 50, 1478, false)]
  | _ => []
/-- statics: (class, index, what, place of the word, nest) -/
def zst : List (Nat × Nat × Nat × Nat × Bool) := [(2, 45, 1010, 629, false), (2, 54, 1011, 653, false), (2, 60, 1012, 677, false), (2, 66, 1013, 688, false), (2, 72, 1014, 698, false), (2, 78, 1015, 735, false), (6, 58, 1020, 1235, false), (6, 74, 1021, 1233, false), (6, 77, 1022, 1205, false), (6, 84, 1023, 1208, false), (7, 89, 1001, 600, true)]
/-- calls: (class, index, method, place of the word, nest); 1000 arraycopy, 1001 Object's -/
def zml (c : Nat) : List (Nat × Nat × Nat × Nat × Bool) := match c with
  | 0 => [(0, 3, 1001, 428, false), (0, 26, 69, 1017, false), (0, 32, 123, 1018, false), (0, 37, 73, 1024, false), (0, 41, 124, 1025, false), (0, 45, 125, 1029, false), (0, 49, 126, 1033, false), (0, 53, 56, 1021, false), (0, 56, 50, 1022, false), (0, 59, 100, 1028, false), (0, 64, 55, 1037, false), (0, 68, 19, 1038, false)]
  | 1 => [(1, 3, 1001, 191, false), (1, 63, 1000, 1278, false), (1, 69, 139, 1108, false), (1, 73, 69, 809, false), (1, 76, 67, 778, false), (1, 79, 66, 774, false), (1, 83, 19, 833, false), (1, 89, 65, 834, false), (1, 92, 80, 835, false), (1, 95, 111, 1164, false), (1, 98, 56, 729, false), (1, 101, 55, 725, false), (1, 104, 50, 733, false), (1, 107, 89, 937, false), (1, 110, 82, 938, false)]
  | 2 => [(2, 3, 1001, 181, false), (2, 15, 17, 560, false), (2, 20, 18, 564, false), (2, 26, 30, 609, false), (2, 30, 32, 617, false), (2, 34, 58, 741, false), (2, 38, 60, 749, false), (2, 41, 33, 621, false), (2, 51, 35, 631, false), (2, 57, 40, 655, false), (2, 63, 45, 679, false), (2, 69, 47, 690, false), (2, 75, 49, 700, false), (2, 81, 57, 737, false), (2, 84, 36, 635, false), (2, 91, 37, 639, false), (2, 94, 38, 643, false), (2, 104, 42, 663, false), (2, 110, 43, 669, false), (2, 114, 44, 673, false), (2, 124, 41, 659, false), (2, 138, 39, 687, false), (2, 144, 46, 683, false), (2, 155, 48, 694, false), (2, 167, 50, 704, false), (2, 173, 51, 708, false), (2, 177, 52, 712, false), (2, 181, 53, 716, false), (2, 185, 54, 721, false), (2, 189, 55, 734, false)]
  | 3 => [(3, 3, 1001, 449, false), (3, 44, 50, 1117, false), (3, 50, 143, 1118, false), (3, 54, 19, 1147, false), (3, 60, 144, 1122, false), (3, 64, 148, 1139, false), (3, 68, 145, 1126, false), (3, 72, 146, 1130, false), (3, 76, 147, 1135, false), (3, 79, 55, 1134, false), (3, 82, 149, 1143, false)]
  | 4 => [(4, 3, 1001, 332, false), (4, 63, 108, 951, false), (4, 67, 109, 956, false), (4, 71, 112, 970, false), (4, 75, 113, 974, false), (4, 84, 117, 993, false), (4, 92, 21, 955, false), (4, 102, 110, 960, false), (4, 106, 82, 965, false), (4, 110, 111, 966, false), (4, 113, 85, 964, false), (4, 121, 89, 963, false), (4, 124, 114, 978, false), (4, 129, 115, 984, false), (4, 133, 116, 988, false), (4, 137, 73, 992, false)]
  | 5 => [(5, 5, 1001, 297, false), (5, 37, 1000, 802, false), (5, 43, 71, 820, false), (5, 49, 82, 907, false), (5, 55, 75, 814, false), (5, 59, 77, 823, false), (5, 62, 87, 864, false), (5, 65, 78, 826, false), (5, 69, 171, 1254, false), (5, 72, 66, 821, false), (5, 76, 65, 822, false), (5, 79, 89, 872, false), (5, 82, 88, 868, false), (5, 86, 97, 903, false), (5, 90, 76, 817, false), (5, 93, 79, 829, false)]
  | 6 => [(6, 3, 1001, 274, false), (6, 28, 1000, 1283, false), (6, 34, 62, 1190, false), (6, 37, 18, 1191, false), (6, 43, 160, 1192, false), (6, 47, 60, 1237, false), (6, 51, 161, 1196, false), (6, 54, 33, 1204, false), (6, 64, 37, 1215, false), (6, 67, 165, 1224, false), (6, 71, 162, 1200, false), (6, 80, 59, 1207, false), (6, 87, 163, 1210, false), (6, 90, 36, 1214, false), (6, 94, 58, 1216, false), (6, 97, 164, 1217, false), (6, 101, 166, 1228, false), (6, 105, 42, 1221, false), (6, 111, 44, 1223, false), (6, 117, 38, 1232, false), (6, 121, 169, 1246, false), (6, 125, 170, 1250, false), (6, 131, 172, 1258, true)]
  | 7 => [(7, 3, 1001, 138, false), (7, 45, 19, 568, false), (7, 51, 20, 571, false), (7, 55, 28, 602, false), (7, 59, 21, 575, false), (7, 62, 22, 579, false), (7, 66, 24, 585, false), (7, 69, 25, 589, false), (7, 73, 29, 606, false), (7, 76, 23, 582, false), (7, 79, 26, 593, false), (7, 85, 27, 597, false), (7, 97, 31, 613, false), (7, 100, 34, 625, false), (7, 104, 33, 720, false), (7, 114, 36, 651, false), (7, 119, 39, 647, false), (7, 122, 37, 652, false), (7, 125, 59, 745, false), (7, 129, 30, 753, false)]
  | 8 => [(8, 3, 1001, 388, false), (8, 47, 18, 1052, false), (8, 53, 130, 1053, false), (8, 57, 30, 1064, false), (8, 61, 131, 1065, false), (8, 65, 58, 1063, false), (8, 69, 60, 1070, false), (8, 72, 42, 1057, false), (8, 78, 43, 1059, false), (8, 84, 36, 1060, false), (8, 87, 37, 1061, false), (8, 93, 38, 1062, false), (8, 100, 53, 1069, false), (8, 104, 50, 1075, false), (8, 107, 54, 1076, false), (8, 111, 133, 1077, false), (8, 115, 134, 1081, false), (8, 119, 135, 1085, false)]
  | 9 => [(9, 1, 1001, 130, false), (9, 9, 2, 135, true), (9, 18, 3, 178, false), (9, 27, 4, 188, true), (9, 37, 5, 271, true), (9, 47, 6, 294, false), (9, 80, 7, 329, true), (9, 87, 8, 385, true), (9, 94, 9, 425, true), (9, 101, 10, 446, true), (9, 106, 12, 540, false), (9, 110, 13, 544, false), (9, 117, 16, 556, false), (9, 124, 61, 754, false), (9, 127, 62, 758, false), (9, 131, 69, 786, false), (9, 141, 157, 1178, false), (9, 145, 172, 1366, false), (9, 149, 56, 855, false), (9, 154, 102, 925, false), (9, 158, 182, 1375, false), (9, 161, 50, 1379, false), (9, 164, 48, 1380, false), (9, 167, 183, 1381, false), (9, 171, 65, 770, false), (9, 174, 67, 790, false), (9, 177, 70, 791, false), (9, 180, 73, 805, false), (9, 183, 74, 810, false), (9, 187, 66, 838, false), (9, 193, 82, 843, false), (9, 197, 83, 847, false), (9, 200, 19, 856, false), (9, 205, 85, 857, false), (9, 208, 86, 860, false), (9, 218, 91, 880, false), (9, 221, 71, 795, false), (9, 224, 72, 798, false), (9, 228, 92, 884, false), (9, 231, 93, 888, false), (9, 241, 96, 899, false), (9, 244, 87, 916, false), (9, 247, 100, 917, false), (9, 250, 104, 933, false), (9, 253, 107, 947, false), (9, 257, 119, 1001, false), (9, 263, 122, 1013, false), (9, 269, 89, 1039, false), (9, 275, 129, 1048, false), (9, 278, 132, 1071, false), (9, 281, 137, 1092, false), (9, 284, 139, 1100, false), (9, 287, 140, 1104, false), (9, 290, 141, 1109, false), (9, 294, 142, 1113, false), (9, 297, 151, 1152, false), (9, 300, 153, 1160, false), (9, 303, 114, 1165, false), (9, 308, 159, 1186, false), (9, 312, 168, 1242, false), (9, 316, 134, 1261, false), (9, 319, 173, 1262, false), (9, 322, 174, 1266, false), (9, 325, 176, 1274, false), (9, 328, 177, 1279, false)]
  | 10 => [(10, 10, 186, 1393, false), (10, 27, 1001, 1406, false), (10, 149, 192, 1606, false), (10, 162, 193, 1610, false), (10, 166, 194, 1613, false), (10, 182, 205, 1655, false), (10, 185, 197, 1624, false), (10, 188, 191, 1602, false), (10, 191, 199, 1632, false), (10, 198, 201, 1639, false), (10, 202, 202, 1643, false), (10, 206, 196, 1620, false), (10, 214, 198, 1628, false), (10, 218, 200, 1635, false), (10, 221, 203, 1647, false), (10, 224, 204, 1651, false), (10, 230, 206, 1659, false), (10, 233, 207, 1663, false), (10, 237, 190, 1598, false), (10, 243, 195, 1616, false), (10, 246, 208, 1666, false), (10, 252, 214, 1690, false), (10, 256, 213, 1686, false), (10, 259, 211, 1678, false), (10, 262, 212, 1682, false), (10, 266, 216, 1698, false), (10, 269, 217, 1702, false), (10, 273, 218, 1706, false), (10, 276, 219, 1710, false), (10, 279, 221, 1718, false), (10, 283, 226, 1739, false), (10, 286, 224, 1730, false), (10, 289, 225, 1735, false), (10, 293, 229, 1750, false), (10, 296, 230, 1754, false), (10, 300, 228, 1746, false), (10, 303, 232, 1762, false), (10, 306, 234, 1770, false), (10, 309, 239, 1790, false), (10, 312, 242, 1802, false), (10, 315, 243, 1806, false), (10, 318, 244, 1810, false), (10, 322, 245, 1814, false), (10, 329, 250, 1835, false), (10, 332, 251, 1839, false), (10, 335, 249, 1830, false), (10, 347, 254, 1851, false), (10, 356, 259, 1871, false), (10, 359, 260, 1875, false), (10, 362, 261, 1879, false), (10, 365, 258, 1867, false), (10, 368, 257, 1863, false), (10, 374, 264, 1891, false), (10, 377, 265, 1895, false), (10, 380, 268, 1906, false), (10, 387, 270, 1913, false), (10, 396, 274, 1930, false), (10, 402, 278, 1946, false), (10, 411, 273, 1926, false), (10, 414, 275, 1934, false), (10, 417, 276, 1938, false), (10, 420, 277, 1942, false), (10, 423, 282, 1962, false), (10, 426, 210, 1966, false), (10, 429, 281, 1958, false), (10, 433, 280, 1954, false)]
  | 12 => [(12, 7, 180, 1296, false), (12, 15, 181, 1370, false), (12, 18, 1, 127, false), (12, 21, 188, 1403, false), (12, 22, 11, 536, false), (12, 26, 185, 1389, false), (12, 27, 14, 548, false), (12, 31, 187, 1398, false), (12, 32, 15, 552, false), (12, 36, 189, 1594, false), (12, 37, 63, 762, false), (12, 40, 209, 1670, false), (12, 41, 400, 1292, false), (12, 46, 210, 1674, false), (12, 47, 184, 1385, false), (12, 50, 401, 1367, false), (12, 52, 215, 1694, false), (12, 53, 64, 766, false), (12, 56, 220, 1714, false), (12, 57, 68, 782, false), (12, 61, 223, 1726, false), (12, 62, 81, 839, false), (12, 66, 227, 1742, false), (12, 67, 84, 851, false), (12, 70, 231, 1758, false), (12, 71, 94, 891, false), (12, 74, 222, 1722, false), (12, 75, 95, 895, false), (12, 78, 233, 1766, false), (12, 79, 98, 908, false), (12, 82, 235, 1774, false), (12, 83, 99, 912, false), (12, 86, 236, 1778, false), (12, 87, 101, 921, false), (12, 90, 237, 1782, false), (12, 91, 103, 929, false), (12, 94, 238, 1786, false), (12, 95, 105, 939, false), (12, 98, 240, 1794, false), (12, 99, 106, 943, false), (12, 102, 241, 1798, false), (12, 103, 118, 997, false), (12, 106, 246, 1818, false), (12, 107, 120, 1005, false), (12, 110, 247, 1822, false), (12, 111, 121, 1009, false), (12, 114, 248, 1826, false), (12, 115, 127, 1040, false), (12, 118, 252, 1843, false), (12, 119, 128, 1044, false), (12, 122, 253, 1847, false), (12, 123, 136, 1088, false), (12, 126, 255, 1855, false), (12, 127, 138, 1096, false), (12, 130, 256, 1859, false), (12, 131, 150, 1148, false), (12, 134, 262, 1883, false), (12, 135, 152, 1156, false), (12, 138, 263, 1887, false), (12, 139, 154, 1166, false), (12, 142, 266, 1898, false), (12, 143, 155, 1170, false), (12, 146, 267, 1902, false), (12, 147, 90, 876, false), (12, 150, 269, 1909, false), (12, 151, 156, 1174, false), (12, 154, 271, 1918, false), (12, 155, 158, 1182, false), (12, 158, 272, 1922, false), (12, 159, 167, 1238, false), (12, 162, 279, 1950, false), (12, 163, 175, 1270, false), (12, 166, 283, 1967, false), (12, 167, 178, 1284, false), (12, 170, 284, 1971, false), (12, 171, 179, 1288, false), (12, 174, 285, 1975, false)]
  | _ => []
def zcls : List (Nat × Nat × Nat × Nat) := [(9, 7, 7, 133), (9, 16, 2, 176), (9, 25, 1, 186), (9, 35, 6, 269), (9, 45, 5, 292), (9, 78, 4, 327), (9, 85, 8, 383), (9, 92, 0, 423), (9, 99, 3, 444), (12, 8, 9, 125), (12, 19, 10, 1402)]
def zci : List (Nat × Nat × Int32 × Nat) := [(0, 36, 1000000, 1023), (9, 240, 1103515245, 887), (10, 50, 57930, 1407), (10, 282, 48275, 1734), (10, 328, 1000000000, 1834), (10, 386, 1103515245, 1917), (14, 265, 1431655765, 981), (14, 266, 858993459, 982), (14, 267, 252645135, 983)]
def zcj : List (Nat × Nat × Nat × Nat) := [(2, 108, 3, 668), (6, 109, 3, 1222), (7, 117, 3, 667), (8, 76, 3, 1058), (10, 109, 4, 1408), (10, 111, 5, 1409), (10, 113, 6, 1410), (10, 115, 7, 1411), (10, 117, 8, 1412), (10, 119, 9, 1413), (10, 121, 10, 1414), (10, 123, 11, 1415), (10, 125, 12, 1416), (10, 127, 13, 1417), (10, 129, 14, 1418), (10, 131, 15, 1419), (10, 133, 16, 1420), (10, 135, 17, 1421), (10, 137, 18, 1422), (10, 139, 19, 1423), (10, 141, 20, 1424), (10, 143, 21, 1425), (10, 145, 22, 1426), (10, 147, 23, 1427), (11, 114, 2, 596)]
def zy (n : Nat) : MethodName := match n with
  | 0 => ⟨"RugReaderLaw", "law", "([I)Z"⟩
  | 1 => ⟨"RugReader", "<init>", "()V"⟩
  | 2 => ⟨"RugReader$Tape", "<init>", "()V"⟩
  | 3 => ⟨"RugReader$HouseText", "<init>", "(LRugReader$Tape;)V"⟩
  | 4 => ⟨"RugReader$House", "<init>", "()V"⟩
  | 5 => ⟨"RugReader$Sentence", "<init>", "()V"⟩
  | 6 => ⟨"RugReader$Rug", "<init>", "()V"⟩
  | 7 => ⟨"RugReader$Readings", "<init>", "()V"⟩
  | 8 => ⟨"RugReader$Walk", "<init>", "()V"⟩
  | 9 => ⟨"RugReader$Crossing", "<init>", "()V"⟩
  | 10 => ⟨"RugReader$Lookout", "<init>", "()V"⟩
  | 11 => ⟨"RugReader", "feed", "(IIIII)I"⟩
  | 12 => ⟨"RugReader$Tape", "hasRoom", "(I)Z"⟩
  | 13 => ⟨"RugReader$Tape", "put", "(I)V"⟩
  | 14 => ⟨"RugReader", "end", "(I)Z"⟩
  | 15 => ⟨"RugReader", "house", "()I"⟩
  | 16 => ⟨"RugReader$HouseText", "take", "(LRugReader$House;)I"⟩
  | 17 => ⟨"RugReader$House", "clear", "()V"⟩
  | 18 => ⟨"RugReader$Tape", "begin", "(I)V"⟩
  | 19 => ⟨"java/lang/Math", "min", "(II)I"⟩
  | 20 => ⟨"RugReader$Tape", "tellToken", "(I)I"⟩
  | 21 => ⟨"RugReader$Tape", "byteAt", "(I)I"⟩
  | 22 => ⟨"RugReader$Tape", "goesOn", "(I)Z"⟩
  | 23 => ⟨"RugReader$Tape", "isLetter", "(I)Z"⟩
  | 24 => ⟨"RugReader$Tape", "endOfRun", "(I)I"⟩
  | 25 => ⟨"RugReader$Tape", "putRun", "(II)V"⟩
  | 26 => ⟨"RugReader$Word", "longer", "(JI)J"⟩
  | 27 => ⟨"RugReader$Tape", "wordOf", "(J)I"⟩
  | 28 => ⟨"RugReader$Tape", "putToken", "(IIJ)V"⟩
  | 29 => ⟨"RugReader$Tape", "isSign", "(I)Z"⟩
  | 30 => ⟨"RugReader$Tape", "atEnd", "()Z"⟩
  | 31 => ⟨"RugReader$Tape", "is", "(I)Z"⟩
  | 32 => ⟨"RugReader$HouseText", "takeLine", "(LRugReader$House;)Z"⟩
  | 33 => ⟨"RugReader$Tape", "wordHere", "()LRugReader$Word;"⟩
  | 34 => ⟨"RugReader$Tape", "valueHere", "()J"⟩
  | 35 => ⟨"RugReader$HouseText", "takeRug", "(LRugReader$House;)Z"⟩
  | 36 => ⟨"RugReader$Tape", "refuse", "(I)Z"⟩
  | 37 => ⟨"RugReader$Tape", "advance", "()V"⟩
  | 38 => ⟨"RugReader$Tape", "takeNumber", "(II)I"⟩
  | 39 => ⟨"RugReader$Tape", "numberHere", "(II)I"⟩
  | 40 => ⟨"RugReader$HouseText", "takePerson", "(LRugReader$House;)Z"⟩
  | 41 => ⟨"RugReader$HouseText", "takeNewName", "(LRugReader$House;)J"⟩
  | 42 => ⟨"RugReader$Tape", "nameHere", "()J"⟩
  | 43 => ⟨"RugReader$House", "personNamed", "(J)I"⟩
  | 44 => ⟨"RugReader$House", "wayNamed", "(J)I"⟩
  | 45 => ⟨"RugReader$HouseText", "takeWall", "(LRugReader$House;)Z"⟩
  | 46 => ⟨"RugReader$HouseText", "tuftHere", "(LRugReader$House;)I"⟩
  | 47 => ⟨"RugReader$HouseText", "takeDoor", "(LRugReader$House;)Z"⟩
  | 48 => ⟨"RugReader$House", "isDoor", "(I)Z"⟩
  | 49 => ⟨"RugReader$HouseText", "takeWay", "(LRugReader$House;)Z"⟩
  | 50 => ⟨"RugReader$House", "isWall", "(I)Z"⟩
  | 51 => ⟨"RugReader$House", "lengthen", "(II)V"⟩
  | 52 => ⟨"RugReader$HouseText", "takeSteps", "(LRugReader$House;II)Z"⟩
  | 53 => ⟨"RugReader$Tape", "dirHere", "()I"⟩
  | 54 => ⟨"RugReader$House", "reach", "(III)I"⟩
  | 55 => ⟨"RugReader$House", "stepFrom", "(II)I"⟩
  | 56 => ⟨"RugReader$House", "onRug", "(I)Z"⟩
  | 57 => ⟨"RugReader$HouseText", "takeFade", "(LRugReader$House;)Z"⟩
  | 58 => ⟨"RugReader$Tape", "takeSign", "(I)Z"⟩
  | 59 => ⟨"RugReader$Tape", "signHere", "()I"⟩
  | 60 => ⟨"RugReader$Tape", "ends", "()Z"⟩
  | 61 => ⟨"RugReader$Rug", "clear", "()V"⟩
  | 62 => ⟨"RugReader$Sentence", "clear", "()V"⟩
  | 63 => ⟨"RugReader", "fault", "()I"⟩
  | 64 => ⟨"RugReader", "way", "(II)I"⟩
  | 65 => ⟨"RugReader$House", "tuftOf", "(II)I"⟩
  | 66 => ⟨"RugReader$House", "lengthOf", "(I)I"⟩
  | 67 => ⟨"RugReader$House", "isWay", "(I)Z"⟩
  | 68 => ⟨"RugReader", "goes", "(III)I"⟩
  | 69 => ⟨"RugReader$House", "isPerson", "(I)Z"⟩
  | 70 => ⟨"RugReader", "keepForUndo", "()V"⟩
  | 71 => ⟨"java/lang/Math", "floorMod", "(II)I"⟩
  | 72 => ⟨"RugReader$Rug", "copyFrom", "(LRugReader$Rug;)V"⟩
  | 73 => ⟨"RugReader$House", "soleOf", "(I)I"⟩
  | 74 => ⟨"RugReader$Rug", "tread", "(LRugReader$House;III)V"⟩
  | 75 => ⟨"RugReader$Rug", "isPerson", "(I)Z"⟩
  | 76 => ⟨"RugReader$Rug", "slotOf", "(I)I"⟩
  | 77 => ⟨"RugReader$Rug", "isTuft", "(I)Z"⟩
  | 78 => ⟨"RugReader$Rug", "indexOf", "(III)I"⟩
  | 79 => ⟨"RugReader$House", "dirOf", "(II)I"⟩
  | 80 => ⟨"RugReader$House", "dirBetween", "(II)I"⟩
  | 81 => ⟨"RugReader", "days", "(I)I"⟩
  | 82 => ⟨"RugReader$House", "fadeDays", "()I"⟩
  | 83 => ⟨"RugReader$Rug", "letDayGo", "(I)V"⟩
  | 84 => ⟨"RugReader", "beat", "(II)I"⟩
  | 85 => ⟨"java/lang/Math", "max", "(II)I"⟩
  | 86 => ⟨"RugReader$Rug", "beatOne", "(LRugReader$House;I)Z"⟩
  | 87 => ⟨"RugReader$Rug", "lies", "(I)Z"⟩
  | 88 => ⟨"RugReader$Rug", "weightOn", "(LRugReader$House;II)I"⟩
  | 89 => ⟨"RugReader$House", "weightOf", "(I)I"⟩
  | 90 => ⟨"RugReader", "years", "(III)I"⟩
  | 91 => ⟨"RugReader", "drawDay", "(II)I"⟩
  | 92 => ⟨"RugReader", "nextSeed", "(I)I"⟩
  | 93 => ⟨"RugReader", "draw", "(II)I"⟩
  | 94 => ⟨"RugReader", "undo", "()I"⟩
  | 95 => ⟨"RugReader", "hidden", "(I)I"⟩
  | 96 => ⟨"RugReader$Rug", "lostOn", "(LRugReader$House;I)I"⟩
  | 97 => ⟨"RugReader$Rug", "daysLeft", "(LRugReader$House;I)I"⟩
  | 98 => ⟨"RugReader", "missing", "(I)I"⟩
  | 99 => ⟨"RugReader", "soles", "(I)I"⟩
  | 100 => ⟨"RugReader$Rug", "soleOn", "(I)I"⟩
  | 101 => ⟨"RugReader", "deepest", "()I"⟩
  | 102 => ⟨"RugReader$Rug", "depthOn", "(LRugReader$House;I)I"⟩
  | 103 => ⟨"RugReader", "who", "(I)I"⟩
  | 104 => ⟨"RugReader$House", "ageOfDepth", "(II)I"⟩
  | 105 => ⟨"RugReader", "age", "(II)I"⟩
  | 106 => ⟨"RugReader", "readings", "()I"⟩
  | 107 => ⟨"RugReader$Readings", "find", "(LRugReader$Tape;LRugReader$House;)I"⟩
  | 108 => ⟨"RugReader$Readings", "take", "(LRugReader$Tape;LRugReader$House;)Z"⟩
  | 109 => ⟨"RugReader$Readings", "lookAtWays", "(LRugReader$House;)V"⟩
  | 110 => ⟨"RugReader$Readings", "heaviest", "(LRugReader$House;)I"⟩
  | 111 => ⟨"RugReader$House", "passes", "(II)I"⟩
  | 112 => ⟨"RugReader$Readings", "mayFit", "()Z"⟩
  | 113 => ⟨"RugReader$Readings", "settle", "(LRugReader$House;II)V"⟩
  | 114 => ⟨"java/lang/Integer", "bitCount", "(I)I"⟩
  | 115 => ⟨"RugReader$Readings", "record", "(LRugReader$House;I)V"⟩
  | 116 => ⟨"RugReader$Readings", "mayWalk", "(LRugReader$House;II)Z"⟩
  | 117 => ⟨"RugReader$Readings", "addFreeWays", "(LRugReader$House;)V"⟩
  | 118 => ⟨"RugReader", "read", "(II)I"⟩
  | 119 => ⟨"RugReader$Readings", "walkerOf", "(II)I"⟩
  | 120 => ⟨"RugReader", "fewest", "()I"⟩
  | 121 => ⟨"RugReader", "sign", "(III)I"⟩
  | 122 => ⟨"RugReader$Crossing", "find", "(LRugReader$House;LRugReader$Rug;III)Z"⟩
  | 123 => ⟨"RugReader$Crossing", "isFree", "(LRugReader$House;I)Z"⟩
  | 124 => ⟨"RugReader$Crossing", "markOf", "(LRugReader$Rug;II)I"⟩
  | 125 => ⟨"RugReader$Crossing", "nearest", "()I"⟩
  | 126 => ⟨"RugReader$Crossing", "settleAt", "(LRugReader$House;LRugReader$Rug;II)V"⟩
  | 127 => ⟨"RugReader", "steps", "(III)I"⟩
  | 128 => ⟨"RugReader", "walk", "()I"⟩
  | 129 => ⟨"RugReader$Walk", "take", "(LRugReader$Tape;LRugReader$House;)Z"⟩
  | 130 => ⟨"RugReader$Walk", "takePerson", "(LRugReader$Tape;LRugReader$House;)Z"⟩
  | 131 => ⟨"RugReader$Walk", "takeLine", "(LRugReader$Tape;)Z"⟩
  | 132 => ⟨"RugReader$Walk", "judge", "(LRugReader$House;)I"⟩
  | 133 => ⟨"RugReader$Walk", "wrongOf", "(LRugReader$House;I)I"⟩
  | 134 => ⟨"RugReader$House", "paceOf", "(I)I"⟩
  | 135 => ⟨"java/lang/Math", "abs", "(I)I"⟩
  | 136 => ⟨"RugReader", "walked", "(I)I"⟩
  | 137 => ⟨"RugReader$Walk", "outcome", "(I)I"⟩
  | 138 => ⟨"RugReader", "seen", "(II)I"⟩
  | 139 => ⟨"RugReader$House", "isDoorNumber", "(I)Z"⟩
  | 140 => ⟨"RugReader$House", "doorTuft", "(I)I"⟩
  | 141 => ⟨"RugReader$House", "areBeside", "(II)Z"⟩
  | 142 => ⟨"RugReader$Lookout", "find", "(LRugReader$House;II)I"⟩
  | 143 => ⟨"RugReader$Lookout", "fill", "(LRugReader$House;)I"⟩
  | 144 => ⟨"RugReader$Lookout", "canGo", "(LRugReader$House;II)Z"⟩
  | 145 => ⟨"RugReader$Lookout", "visit", "(II)V"⟩
  | 146 => ⟨"RugReader$Lookout", "goOnFromIn", "(LRugReader$House;I)V"⟩
  | 147 => ⟨"RugReader$Lookout", "goOnFromOut", "(LRugReader$House;I)V"⟩
  | 148 => ⟨"RugReader$Lookout", "turn", "(LRugReader$House;)V"⟩
  | 149 => ⟨"RugReader$Lookout", "setFlow", "(LRugReader$House;IIZ)V"⟩
  | 150 => ⟨"RugReader", "lay", "(I)I"⟩
  | 151 => ⟨"RugReader$Lookout", "laid", "(I)I"⟩
  | 152 => ⟨"RugReader", "spot", "()I"⟩
  | 153 => ⟨"RugReader$House", "waysOver", "(I)I"⟩
  | 154 => ⟨"RugReader", "ways", "(I)I"⟩
  | 155 => ⟨"RugReader", "both", "(II)I"⟩
  | 156 => ⟨"RugReader", "rarest", "()I"⟩
  | 157 => ⟨"RugReader$Rug", "walksOf", "(I)I"⟩
  | 158 => ⟨"RugReader", "sentence", "()I"⟩
  | 159 => ⟨"RugReader$Sentence", "take", "(LRugReader$Tape;LRugReader$House;)Z"⟩
  | 160 => ⟨"RugReader$Sentence", "takeCond", "(LRugReader$Tape;LRugReader$House;I)Z"⟩
  | 161 => ⟨"RugReader$Sentence", "takeAll", "(LRugReader$Tape;LRugReader$House;I)Z"⟩
  | 162 => ⟨"RugReader$Sentence", "takeOne", "(LRugReader$Tape;LRugReader$House;I)Z"⟩
  | 163 => ⟨"RugReader$Tape", "measuredHere", "()I"⟩
  | 164 => ⟨"RugReader$Sentence", "takeTrod", "(LRugReader$Tape;LRugReader$House;)Z"⟩
  | 165 => ⟨"RugReader$Sentence", "put", "(III)V"⟩
  | 166 => ⟨"RugReader$Sentence", "takeMeasure", "(LRugReader$Tape;)Z"⟩
  | 167 => ⟨"RugReader", "said", "(I)I"⟩
  | 168 => ⟨"RugReader$Sentence", "holdsOf", "(LRugReader$House;LRugReader$Rug;I)Z"⟩
  | 169 => ⟨"RugReader$Sentence", "leafHolds", "(LRugReader$House;LRugReader$Rug;II)Z"⟩
  | 170 => ⟨"RugReader$Rug", "trodAlong", "(LRugReader$House;II)Z"⟩
  | 171 => ⟨"RugReader$Rug", "printsByOn", "(II)I"⟩
  | 172 => ⟨"RugReader", "measure", "(LRugReader$House;LRugReader$Rug;II)I"⟩
  | 173 => ⟨"RugReader$Rug", "printsBy", "(I)I"⟩
  | 174 => ⟨"RugReader$Rug", "tuftsTrodBy", "(I)I"⟩
  | 175 => ⟨"RugReader", "image", "(I)Z"⟩
  | 176 => ⟨"RugReader$House", "copyFrom", "(LRugReader$House;)V"⟩
  | 177 => ⟨"RugReader$Sentence", "copyFrom", "(LRugReader$Sentence;)V"⟩
  | 178 => ⟨"RugReader", "restore", "(I)Z"⟩
  | 179 => ⟨"RugReader", "count", "(I)I"⟩
  | 180 => ⟨"RugReader", "person", "(II)I"⟩
  | 181 => ⟨"RugReader", "tuft", "(II)I"⟩
  | 182 => ⟨"RugReader$Rug", "printsOn", "(I)I"⟩
  | 183 => ⟨"RugReader$Rug", "onTop", "(II)I"⟩
  | 184 => ⟨"RugReaderModel", "thrown", "()I"⟩
  | 185 => ⟨"RugReaderModel", "feed", "(IIIII)I"⟩
  | 186 => ⟨"RugReaderModel", "four", "(I)V"⟩
  | 187 => ⟨"RugReaderModel", "end", "(I)Z"⟩
  | 188 => ⟨"RugReaderModel", "<init>", "()V"⟩
  | 189 => ⟨"RugReaderModel", "house", "()I"⟩
  | 190 => ⟨"RugReaderModel", "taken", "(I)V"⟩
  | 191 => ⟨"RugReaderModel", "next", "()V"⟩
  | 192 => ⟨"RugReaderModel", "peek", "()I"⟩
  | 193 => ⟨"RugReaderModel", "isSmall", "(I)Z"⟩
  | 194 => ⟨"RugReaderModel", "isDigit", "(I)Z"⟩
  | 195 => ⟨"RugReaderModel", "line", "()Z"⟩
  | 196 => ⟨"RugReaderModel", "isWord", "(J)Z"⟩
  | 197 => ⟨"RugReaderModel", "bad", "(I)Z"⟩
  | 198 => ⟨"RugReaderModel", "takes", "(II)Z"⟩
  | 199 => ⟨"RugReaderModel", "isIn", "(III)Z"⟩
  | 200 => ⟨"RugReaderModel", "fresh", "(I)Z"⟩
  | 201 => ⟨"RugReaderModel", "isName", "()Z"⟩
  | 202 => ⟨"RugReaderModel", "find", "(II)I"⟩
  | 203 => ⟨"RugReaderModel", "looksAtTuft", "()Z"⟩
  | 204 => ⟨"RugReaderModel", "readWay", "()Z"⟩
  | 205 => ⟨"RugReaderModel", "isSign", "(I)Z"⟩
  | 206 => ⟨"RugReaderModel", "dirOfWord", "()I"⟩
  | 207 => ⟨"RugReaderModel", "besideOf", "(IIII)I"⟩
  | 208 => ⟨"RugReaderModel", "sign", "(I)Z"⟩
  | 209 => ⟨"RugReaderModel", "fault", "()I"⟩
  | 210 => ⟨"RugReaderModel", "person", "(II)I"⟩
  | 211 => ⟨"RugReaderModel", "isPerson", "(I)Z"⟩
  | 212 => ⟨"RugReaderModel", "throwsIf", "(Z)Z"⟩
  | 213 => ⟨"RugReaderModel", "liesOf", "(II)I"⟩
  | 214 => ⟨"RugReaderModel", "lies", "(III)I"⟩
  | 215 => ⟨"RugReaderModel", "tuft", "(II)I"⟩
  | 216 => ⟨"RugReaderModel", "isTuft", "(I)Z"⟩
  | 217 => ⟨"RugReaderModel", "depth", "(I)I"⟩
  | 218 => ⟨"RugReaderModel", "treads", "(I)I"⟩
  | 219 => ⟨"RugReaderModel", "isDoor", "(I)Z"⟩
  | 220 => ⟨"RugReaderModel", "way", "(II)I"⟩
  | 221 => ⟨"RugReaderModel", "isWay", "(I)Z"⟩
  | 222 => ⟨"RugReaderModel", "undo", "()I"⟩
  | 223 => ⟨"RugReaderModel", "goes", "(III)I"⟩
  | 224 => ⟨"RugReaderModel", "keep", "()V"⟩
  | 225 => ⟨"RugReaderModel", "walks", "(III)V"⟩
  | 226 => ⟨"RugReaderModel", "dirBetween", "(II)I"⟩
  | 227 => ⟨"RugReaderModel", "days", "(I)I"⟩
  | 228 => ⟨"RugReaderModel", "day", "()V"⟩
  | 229 => ⟨"RugReaderModel", "older", "(I)V"⟩
  | 230 => ⟨"RugReaderModel", "clears", "(II)V"⟩
  | 231 => ⟨"RugReaderModel", "beat", "(II)I"⟩
  | 232 => ⟨"RugReaderModel", "beats", "(I)I"⟩
  | 233 => ⟨"RugReaderModel", "hidden", "(I)I"⟩
  | 234 => ⟨"RugReaderModel", "fullDepth", "(I)I"⟩
  | 235 => ⟨"RugReaderModel", "missing", "(I)I"⟩
  | 236 => ⟨"RugReaderModel", "soles", "(I)I"⟩
  | 237 => ⟨"RugReaderModel", "deepest", "()I"⟩
  | 238 => ⟨"RugReaderModel", "who", "(I)I"⟩
  | 239 => ⟨"RugReaderModel", "ageBy", "(II)I"⟩
  | 240 => ⟨"RugReaderModel", "age", "(II)I"⟩
  | 241 => ⟨"RugReaderModel", "readings", "()I"⟩
  | 242 => ⟨"RugReaderModel", "octet", "(I)I"⟩
  | 243 => ⟨"RugReaderModel", "isReading", "(I)Z"⟩
  | 244 => ⟨"RugReaderModel", "reads", "(Z)V"⟩
  | 245 => ⟨"RugReaderModel", "nextReading", "()Z"⟩
  | 246 => ⟨"RugReaderModel", "read", "(II)I"⟩
  | 247 => ⟨"RugReaderModel", "fewest", "()I"⟩
  | 248 => ⟨"RugReaderModel", "sign", "(III)I"⟩
  | 249 => ⟨"RugReaderModel", "crosses", "(III)I"⟩
  | 250 => ⟨"RugReaderModel", "signOf", "(II)I"⟩
  | 251 => ⟨"RugReaderModel", "beside", "(II)I"⟩
  | 252 => ⟨"RugReaderModel", "steps", "(III)I"⟩
  | 253 => ⟨"RugReaderModel", "walk", "()I"⟩
  | 254 => ⟨"RugReaderModel", "walkRead", "()Z"⟩
  | 255 => ⟨"RugReaderModel", "walked", "(I)I"⟩
  | 256 => ⟨"RugReaderModel", "seen", "(II)I"⟩
  | 257 => ⟨"RugReaderModel", "rowsBetween", "(II)I"⟩
  | 258 => ⟨"RugReaderModel", "runsMore", "(II)Z"⟩
  | 259 => ⟨"RugReaderModel", "comes", "(II)V"⟩
  | 260 => ⟨"RugReaderModel", "turned", "(II)Z"⟩
  | 261 => ⟨"RugReaderModel", "isOpen", "(I)Z"⟩
  | 262 => ⟨"RugReaderModel", "lay", "(I)I"⟩
  | 263 => ⟨"RugReaderModel", "spot", "()I"⟩
  | 264 => ⟨"RugReaderModel", "waysOver", "(I)I"⟩
  | 265 => ⟨"RugReaderModel", "bits", "(I)I"⟩
  | 266 => ⟨"RugReaderModel", "ways", "(I)I"⟩
  | 267 => ⟨"RugReaderModel", "both", "(II)I"⟩
  | 268 => ⟨"RugReaderModel", "bitOf", "(II)Z"⟩
  | 269 => ⟨"RugReaderModel", "years", "(III)I"⟩
  | 270 => ⟨"RugReaderModel", "draw", "(I)I"⟩
  | 271 => ⟨"RugReaderModel", "rarest", "()I"⟩
  | 272 => ⟨"RugReaderModel", "sentence", "()I"⟩
  | 273 => ⟨"RugReaderModel", "nots", "()V"⟩
  | 274 => ⟨"RugReaderModel", "code", "(III)V"⟩
  | 275 => ⟨"RugReaderModel", "joins", "(I)V"⟩
  | 276 => ⟨"RugReaderModel", "behind", "()Z"⟩
  | 277 => ⟨"RugReaderModel", "operand", "()Z"⟩
  | 278 => ⟨"RugReaderModel", "leafOf", "()I"⟩
  | 279 => ⟨"RugReaderModel", "said", "(I)I"⟩
  | 280 => ⟨"RugReaderModel", "isSaid", "(I)Z"⟩
  | 281 => ⟨"RugReaderModel", "isLeaf", "(IIII)Z"⟩
  | 282 => ⟨"RugReaderModel", "hasTrod", "(II)Z"⟩
  | 283 => ⟨"RugReaderModel", "image", "(I)Z"⟩
  | 284 => ⟨"RugReaderModel", "restore", "(I)Z"⟩
  | 285 => ⟨"RugReaderModel", "count", "(I)I"⟩
  | 400 => ⟨"RugReaderLaw", "person", "(LRugReader;II[J)I"⟩
  | 401 => ⟨"RugReaderLaw", "tuft", "(LRugReader;II[J)I"⟩
  | _ => ⟨"", "", ""⟩
def zby (n : Nat) : ByteArray := match n with
  | 0 => code
  | 1 => prog_1_method_1_code
  | 2 => prog_9_method_1_code
  | 3 => prog_4_method_1_code
  | 4 => prog_3_method_1_code
  | 5 => prog_8_method_1_code
  | 6 => prog_7_method_1_code
  | 7 => prog_6_method_1_code
  | 8 => prog_10_method_1_code
  | 9 => prog_2_method_1_code
  | 10 => prog_5_method_1_code
  | 11 => prog_1_method_2_code
  | 12 => prog_9_method_2_code
  | 13 => prog_9_method_3_code
  | 14 => prog_1_method_3_code
  | 15 => prog_1_method_4_code
  | 16 => prog_4_method_2_code
  | 17 => prog_3_method_2_code
  | 18 => prog_9_method_5_code
  | 19 => prog_18_method_69_code
  | 20 => prog_9_method_6_code
  | 21 => prog_9_method_4_code
  | 22 => prog_9_method_9_code
  | 23 => prog_9_method_8_code
  | 24 => prog_9_method_11_code
  | 25 => prog_9_method_12_code
  | 26 => prog_11_method_5_code
  | 27 => prog_9_method_13_code
  | 28 => prog_9_method_7_code
  | 29 => prog_9_method_10_code
  | 30 => prog_9_method_17_code
  | 31 => prog_9_method_15_code
  | 32 => prog_4_method_3_code
  | 33 => prog_9_method_19_code
  | 34 => prog_9_method_16_code
  | 35 => prog_4_method_4_code
  | 36 => prog_9_method_22_code
  | 37 => prog_9_method_14_code
  | 38 => prog_9_method_25_code
  | 39 => prog_9_method_24_code
  | 40 => prog_4_method_7_code
  | 41 => prog_4_method_6_code
  | 42 => prog_9_method_23_code
  | 43 => prog_3_method_14_code
  | 44 => prog_3_method_15_code
  | 45 => prog_4_method_9_code
  | 46 => prog_4_method_8_code
  | 47 => prog_4_method_10_code
  | 48 => prog_3_method_7_code
  | 49 => prog_4_method_11_code
  | 50 => prog_3_method_6_code
  | 51 => prog_3_method_21_code
  | 52 => prog_4_method_12_code
  | 53 => prog_9_method_20_code
  | 54 => prog_3_method_25_code
  | 55 => prog_3_method_24_code
  | 56 => prog_3_method_5_code
  | 57 => prog_4_method_5_code
  | 58 => prog_9_method_26_code
  | 59 => prog_9_method_18_code
  | 60 => prog_9_method_27_code
  | 61 => prog_7_method_2_code
  | 62 => prog_8_method_2_code
  | 63 => prog_1_method_5_code
  | 64 => prog_1_method_8_code
  | 65 => prog_3_method_18_code
  | 66 => prog_3_method_17_code
  | 67 => prog_3_method_16_code
  | 68 => prog_1_method_9_code
  | 69 => prog_3_method_10_code
  | 70 => prog_1_method_14_code
  | 71 => prog_18_method_50_code
  | 72 => prog_7_method_3_code
  | 73 => prog_3_method_12_code
  | 74 => prog_7_method_21_code
  | 75 => prog_7_method_5_code
  | 76 => prog_7_method_6_code
  | 77 => prog_7_method_4_code
  | 78 => prog_7_method_7_code
  | 79 => prog_3_method_19_code
  | 80 => prog_3_method_20_code
  | 81 => prog_1_method_10_code
  | 82 => prog_3_method_4_code
  | 83 => prog_7_method_23_code
  | 84 => prog_1_method_11_code
  | 85 => prog_18_method_65_code
  | 86 => prog_7_method_22_code
  | 87 => prog_7_method_10_code
  | 88 => prog_7_method_18_code
  | 89 => prog_3_method_11_code
  | 90 => prog_1_method_12_code
  | 91 => prog_1_method_15_code
  | 92 => prog_1_method_16_code
  | 93 => prog_1_method_17_code
  | 94 => prog_1_method_13_code
  | 95 => prog_1_method_18_code
  | 96 => prog_7_method_20_code
  | 97 => prog_7_method_8_code
  | 98 => prog_1_method_19_code
  | 99 => prog_1_method_20_code
  | 100 => prog_7_method_11_code
  | 101 => prog_1_method_21_code
  | 102 => prog_7_method_19_code
  | 103 => prog_1_method_22_code
  | 104 => prog_3_method_27_code
  | 105 => prog_1_method_23_code
  | 106 => prog_1_method_24_code
  | 107 => prog_6_method_2_code
  | 108 => prog_6_method_3_code
  | 109 => prog_6_method_4_code
  | 110 => prog_6_method_5_code
  | 111 => prog_3_method_22_code
  | 112 => prog_6_method_6_code
  | 113 => prog_6_method_7_code
  | 114 => prog_17_method_49_code
  | 115 => prog_6_method_9_code
  | 116 => prog_6_method_8_code
  | 117 => prog_6_method_10_code
  | 118 => prog_1_method_25_code
  | 119 => prog_6_method_11_code
  | 120 => prog_1_method_26_code
  | 121 => prog_1_method_27_code
  | 122 => prog_2_method_2_code
  | 123 => prog_2_method_3_code
  | 124 => prog_2_method_4_code
  | 125 => prog_2_method_5_code
  | 126 => prog_2_method_6_code
  | 127 => prog_1_method_28_code
  | 128 => prog_1_method_29_code
  | 129 => prog_10_method_2_code
  | 130 => prog_10_method_3_code
  | 131 => prog_10_method_4_code
  | 132 => prog_10_method_5_code
  | 133 => prog_10_method_6_code
  | 134 => prog_3_method_13_code
  | 135 => prog_18_method_59_code
  | 136 => prog_1_method_30_code
  | 137 => prog_10_method_7_code
  | 138 => prog_1_method_31_code
  | 139 => prog_3_method_8_code
  | 140 => prog_3_method_9_code
  | 141 => prog_3_method_26_code
  | 142 => prog_5_method_3_code
  | 143 => prog_5_method_4_code
  | 144 => prog_5_method_5_code
  | 145 => prog_5_method_6_code
  | 146 => prog_5_method_7_code
  | 147 => prog_5_method_8_code
  | 148 => prog_5_method_9_code
  | 149 => prog_5_method_10_code
  | 150 => prog_1_method_32_code
  | 151 => prog_5_method_2_code
  | 152 => prog_1_method_33_code
  | 153 => prog_3_method_23_code
  | 154 => prog_1_method_34_code
  | 155 => prog_1_method_35_code
  | 156 => prog_1_method_36_code
  | 157 => prog_7_method_9_code
  | 158 => prog_1_method_37_code
  | 159 => prog_8_method_4_code
  | 160 => prog_8_method_6_code
  | 161 => prog_8_method_7_code
  | 162 => prog_8_method_8_code
  | 163 => prog_9_method_21_code
  | 164 => prog_8_method_9_code
  | 165 => prog_8_method_5_code
  | 166 => prog_8_method_10_code
  | 167 => prog_1_method_38_code
  | 168 => prog_8_method_11_code
  | 169 => prog_8_method_12_code
  | 170 => prog_7_method_17_code
  | 171 => prog_7_method_13_code
  | 172 => prog_1_method_39_code
  | 173 => prog_7_method_15_code
  | 174 => prog_7_method_16_code
  | 175 => prog_1_method_40_code
  | 176 => prog_3_method_3_code
  | 177 => prog_8_method_3_code
  | 178 => prog_1_method_41_code
  | 179 => prog_1_method_42_code
  | 180 => prog_1_method_6_code
  | 181 => prog_1_method_7_code
  | 182 => prog_7_method_14_code
  | 183 => prog_7_method_12_code
  | 184 => prog_13_method_1_code
  | 185 => prog_13_method_3_code
  | 186 => prog_13_method_4_code
  | 187 => prog_13_method_5_code
  | 188 => prog_13_method_10_code
  | 189 => prog_13_method_28_code
  | 190 => prog_13_method_6_code
  | 191 => prog_13_method_14_code
  | 192 => prog_13_method_11_code
  | 193 => prog_13_method_12_code
  | 194 => prog_13_method_13_code
  | 195 => prog_13_method_23_code
  | 196 => prog_13_method_16_code
  | 197 => prog_13_method_15_code
  | 198 => prog_13_method_20_code
  | 199 => prog_13_method_7_code
  | 200 => prog_13_method_22_code
  | 201 => prog_13_method_19_code
  | 202 => prog_13_method_21_code
  | 203 => prog_13_method_24_code
  | 204 => prog_13_method_27_code
  | 205 => prog_13_method_17_code
  | 206 => prog_13_method_25_code
  | 207 => prog_13_method_26_code
  | 208 => prog_13_method_18_code
  | 209 => prog_13_method_29_code
  | 210 => prog_13_method_38_code
  | 211 => prog_13_method_30_code
  | 212 => prog_13_method_2_code
  | 213 => prog_13_method_34_code
  | 214 => prog_13_method_33_code
  | 215 => prog_13_method_40_code
  | 216 => prog_13_method_32_code
  | 217 => prog_13_method_36_code
  | 218 => prog_13_method_35_code
  | 219 => prog_13_method_39_code
  | 220 => prog_13_method_41_code
  | 221 => prog_13_method_31_code
  | 222 => prog_13_method_44_code
  | 223 => prog_13_method_46_code
  | 224 => prog_13_method_43_code
  | 225 => prog_13_method_45_code
  | 226 => prog_13_method_42_code
  | 227 => prog_13_method_50_code
  | 228 => prog_13_method_48_code
  | 229 => prog_13_method_47_code
  | 230 => prog_13_method_49_code
  | 231 => prog_13_method_52_code
  | 232 => prog_13_method_51_code
  | 233 => prog_13_method_53_code
  | 234 => prog_13_method_37_code
  | 235 => prog_13_method_54_code
  | 236 => prog_13_method_55_code
  | 237 => prog_13_method_56_code
  | 238 => prog_13_method_58_code
  | 239 => prog_13_method_57_code
  | 240 => prog_13_method_59_code
  | 241 => prog_13_method_62_code
  | 242 => prog_13_method_9_code
  | 243 => prog_13_method_60_code
  | 244 => prog_13_method_63_code
  | 245 => prog_13_method_61_code
  | 246 => prog_13_method_64_code
  | 247 => prog_13_method_65_code
  | 248 => prog_13_method_69_code
  | 249 => prog_13_method_68_code
  | 250 => prog_13_method_67_code
  | 251 => prog_13_method_66_code
  | 252 => prog_13_method_70_code
  | 253 => prog_13_method_72_code
  | 254 => prog_13_method_71_code
  | 255 => prog_13_method_73_code
  | 256 => prog_13_method_79_code
  | 257 => prog_13_method_78_code
  | 258 => prog_13_method_76_code
  | 259 => prog_13_method_75_code
  | 260 => prog_13_method_77_code
  | 261 => prog_13_method_74_code
  | 262 => prog_13_method_80_code
  | 263 => prog_13_method_83_code
  | 264 => prog_13_method_81_code
  | 265 => prog_13_method_82_code
  | 266 => prog_13_method_84_code
  | 267 => prog_13_method_85_code
  | 268 => prog_13_method_8_code
  | 269 => prog_13_method_87_code
  | 270 => prog_13_method_86_code
  | 271 => prog_13_method_88_code
  | 272 => prog_13_method_95_code
  | 273 => prog_13_method_91_code
  | 274 => prog_13_method_89_code
  | 275 => prog_13_method_90_code
  | 276 => prog_13_method_94_code
  | 277 => prog_13_method_93_code
  | 278 => prog_13_method_92_code
  | 279 => prog_13_method_99_code
  | 280 => prog_13_method_98_code
  | 281 => prog_13_method_97_code
  | 282 => prog_13_method_96_code
  | 283 => prog_13_method_100_code
  | 284 => prog_13_method_101_code
  | 285 => prog_13_method_102_code
  | _ => ⟨#[]⟩
def zsta : List Nat := [0, 19, 22, 23, 26, 27, 29, 71, 75, 76, 77, 78, 80, 85, 92, 93, 110, 114, 123, 124, 135, 172, 193, 194, 199, 207, 226, 265, 268, 400, 401]
def zini : List Nat := [1, 2, 3, 4, 5, 6, 7, 8, 9, 10, 188]
/-- a final field is written in its own class's constructors alone -/
def zpf (M : Mth) (c k : Nat) : Bool := !(zT c k).2.2.2 || (zini.contains (mNum M) && Nat.beq (mCls M) c)
def zrt (n : Nat) : Option FieldType := match n with
  | 1 | 2 | 3 | 4 | 5 | 6 | 7 | 8 | 9 | 10 | 13 | 17 | 18 | 25 | 28 | 37 | 51 | 61 | 62 | 70 | 72 | 74 | 83 | 109 | 113 | 115 | 117 | 126 | 145 | 146 | 147 | 148 | 149 | 165 | 176 | 177 | 186 | 188 | 190 | 191 | 224 | 225 | 228 | 229 | 230 | 244 | 259 | 273 | 274 | 275 => none
  | 0 | 12 | 14 | 22 | 23 | 29 | 30 | 31 | 32 | 35 | 36 | 40 | 45 | 47 | 48 | 49 | 50 | 52 | 56 | 57 | 58 | 60 | 67 | 69 | 75 | 77 | 86 | 87 | 108 | 112 | 116 | 122 | 123 | 129 | 130 | 131 | 139 | 141 | 144 | 159 | 160 | 161 | 162 | 164 | 166 | 168 | 169 | 170 | 175 | 178 | 187 | 193 | 194 | 195 | 196 | 197 | 198 | 199 | 200 | 201 | 203 | 204 | 205 | 208 | 211 | 212 | 216 | 219 | 221 | 243 | 245 | 254 | 258 | 260 | 261 | 268 | 276 | 277 | 280 | 281 | 282 | 283 | 284 => some .boolean
  | 26 | 34 | 41 | 42 => some .long
  | 33 => some (.object "RugReader$Word")
  | _ => some .int
end
section
/-! printed by program: the methods' codes -/
def M0 : Mth := (0, 12, 1, 2, 7, [(0, 3, 36, 9, 0, 0), (3, 4, 15, 0, 0, 0), (4, 7, 39, 1, 0, 0), (7, 8, 7, 1, 0, 0), (8, 11, 36, 10, 0, 0), (11, 12, 15, 0, 0, 0), (12, 15, 39, 188, 0, 0), (15, 16, 7, 2, 0, 0), (16, 17, 0, 0, 0, 1), (17, 19, 37, 102, 0, 0), (19, 20, 7, 3, 0, 0), (20, 21, 0, 0, 0, 0), (21, 23, 5, 4, 0, 0), (23, 25, 2, 4, 0, 0), (25, 26, 4, 0, 0, 0), (26, 27, 35, 0, 0, 0), (27, 29, 0, 0, 0, 6), (29, 30, 9, 1, 0, 0), (30, 33, 19, 4, 1288, 0), (33, 34, 4, 0, 0, 0), (34, 36, 2, 4, 0, 0), (36, 37, 27, 0, 0, 0), (37, 39, 0, 0, 0, 63), (39, 40, 9, 5, 0, 0), (40, 200, 23, 0, 0, 0), (200, 201, 4, 1, 0, 0), (201, 202, 4, 0, 0, 0), (202, 204, 2, 4, 0, 0), (204, 205, 0, 0, 0, 1), (205, 206, 9, 0, 0, 0), (206, 207, 27, 0, 0, 0), (207, 208, 4, 0, 0, 0), (208, 210, 2, 4, 0, 0), (210, 211, 0, 0, 0, 2), (211, 212, 9, 0, 0, 0), (212, 213, 27, 0, 0, 0), (213, 214, 4, 0, 0, 0), (214, 216, 2, 4, 0, 0), (216, 217, 0, 0, 0, 3), (217, 218, 9, 0, 0, 0), (218, 219, 27, 0, 0, 0), (219, 220, 4, 0, 0, 0), (220, 222, 2, 4, 0, 0), (222, 223, 0, 0, 0, 4), (223, 224, 9, 0, 0, 0), (224, 225, 27, 0, 0, 0), (225, 226, 4, 0, 0, 0), (226, 228, 2, 4, 0, 0), (228, 229, 0, 0, 0, 5), (229, 230, 9, 0, 0, 0), (230, 231, 27, 0, 0, 0), (231, 234, 39, 11, 0, 0), (234, 235, 4, 2, 0, 0), (235, 236, 4, 0, 0, 0), (236, 238, 2, 4, 0, 0), (238, 239, 0, 0, 0, 1), (239, 240, 9, 0, 0, 0), (240, 241, 27, 0, 0, 0), (241, 242, 4, 0, 0, 0), (242, 244, 2, 4, 0, 0), (244, 245, 0, 0, 0, 2), (245, 246, 9, 0, 0, 0), (246, 247, 27, 0, 0, 0), (247, 248, 4, 0, 0, 0), (248, 250, 2, 4, 0, 0), (250, 251, 0, 0, 0, 3), (251, 252, 9, 0, 0, 0), (252, 253, 27, 0, 0, 0), (253, 254, 4, 0, 0, 0), (254, 256, 2, 4, 0, 0), (256, 257, 0, 0, 0, 4), (257, 258, 9, 0, 0, 0), (258, 259, 27, 0, 0, 0), (259, 260, 4, 0, 0, 0), (260, 262, 2, 4, 0, 0), (262, 263, 0, 0, 0, 5), (263, 264, 9, 0, 0, 0), (264, 265, 27, 0, 0, 0), (265, 268, 39, 185, 0, 0), (268, 271, 19, 0, 1282, 0), (271, 272, 0, 0, 0, 0), (272, 273, 42, 0, 0, 0), (273, 274, 4, 1, 0, 0), (274, 275, 4, 0, 0, 0), (275, 277, 2, 4, 0, 0), (277, 278, 0, 0, 0, 1), (278, 279, 9, 0, 0, 0), (279, 280, 27, 0, 0, 0), (280, 283, 39, 14, 0, 0), (283, 284, 4, 2, 0, 0), (284, 285, 4, 0, 0, 0), (285, 287, 2, 4, 0, 0), (287, 288, 0, 0, 0, 1), (288, 289, 9, 0, 0, 0), (289, 290, 27, 0, 0, 0), (290, 293, 39, 187, 0, 0), (293, 296, 19, 0, 1282, 0), (296, 297, 0, 0, 0, 0), (297, 298, 42, 0, 0, 0), (298, 299, 4, 1, 0, 0), (299, 302, 39, 15, 0, 0), (302, 303, 4, 2, 0, 0), (303, 306, 39, 189, 0, 0), (306, 309, 19, 0, 1282, 0), (309, 310, 0, 0, 0, 0), (310, 311, 42, 0, 0, 0), (311, 312, 4, 1, 0, 0), (312, 315, 39, 63, 0, 0), (315, 316, 4, 2, 0, 0), (316, 319, 39, 209, 0, 0), (319, 322, 19, 0, 1282, 0), (322, 323, 0, 0, 0, 0), (323, 324, 42, 0, 0, 0), (324, 325, 4, 1, 0, 0), (325, 326, 4, 0, 0, 0), (326, 328, 2, 4, 0, 0), (328, 329, 0, 0, 0, 1), (329, 330, 9, 0, 0, 0), (330, 331, 27, 0, 0, 0), (331, 332, 4, 0, 0, 0), (332, 334, 2, 4, 0, 0), (334, 335, 0, 0, 0, 2), (335, 336, 9, 0, 0, 0), (336, 337, 27, 0, 0, 0), (337, 338, 4, 3, 0, 0), (338, 341, 39, 400, 0, 0), (341, 343, 5, 5, 0, 0), (343, 344, 4, 2, 0, 0), (344, 345, 4, 0, 0, 0), (345, 347, 2, 4, 0, 0), (347, 348, 0, 0, 0, 1), (348, 349, 9, 0, 0, 0), (349, 350, 27, 0, 0, 0), (350, 351, 4, 0, 0, 0), (351, 353, 2, 4, 0, 0), (353, 354, 0, 0, 0, 2), (354, 355, 9, 0, 0, 0), (355, 356, 27, 0, 0, 0), (356, 359, 39, 210, 0, 0), (359, 361, 5, 6, 0, 0), (361, 362, 4, 2, 0, 0), (362, 365, 39, 184, 0, 0), (365, 367, 2, 5, 0, 0), (367, 370, 19, 0, 372, 0), (370, 371, 0, 0, 0, 0), (371, 372, 42, 0, 0, 0), (372, 374, 2, 5, 0, 0), (374, 377, 18, 1, 389, 0), (377, 378, 4, 3, 0, 0), (378, 379, 0, 0, 0, 0), (379, 380, 28, 0, 0, 0), (380, 382, 2, 6, 0, 0), (382, 383, 12, 0, 0, 0), (383, 384, 11, 0, 0, 0), (384, 387, 18, 0, 389, 0), (387, 388, 0, 0, 0, 0), (388, 389, 42, 0, 0, 0), (389, 392, 22, 0, 1282, 0), (392, 393, 4, 1, 0, 0), (393, 394, 4, 0, 0, 0), (394, 396, 2, 4, 0, 0), (396, 397, 0, 0, 0, 1), (397, 398, 9, 0, 0, 0), (398, 399, 27, 0, 0, 0), (399, 400, 4, 0, 0, 0), (400, 402, 2, 4, 0, 0), (402, 403, 0, 0, 0, 2), (403, 404, 9, 0, 0, 0), (404, 405, 27, 0, 0, 0), (405, 406, 4, 3, 0, 0), (406, 409, 39, 401, 0, 0), (409, 411, 5, 5, 0, 0), (411, 412, 4, 2, 0, 0), (412, 413, 4, 0, 0, 0), (413, 415, 2, 4, 0, 0), (415, 416, 0, 0, 0, 1), (416, 417, 9, 0, 0, 0), (417, 418, 27, 0, 0, 0), (418, 419, 4, 0, 0, 0), (419, 421, 2, 4, 0, 0), (421, 422, 0, 0, 0, 2), (422, 423, 9, 0, 0, 0), (423, 424, 27, 0, 0, 0), (424, 427, 39, 215, 0, 0), (427, 429, 5, 6, 0, 0), (429, 430, 4, 2, 0, 0), (430, 433, 39, 184, 0, 0), (433, 435, 2, 5, 0, 0), (435, 438, 19, 0, 440, 0), (438, 439, 0, 0, 0, 0), (439, 440, 42, 0, 0, 0), (440, 442, 2, 5, 0, 0), (442, 445, 18, 1, 457, 0), (445, 446, 4, 3, 0, 0), (446, 447, 0, 0, 0, 0), (447, 448, 28, 0, 0, 0), (448, 450, 2, 6, 0, 0), (450, 451, 12, 0, 0, 0), (451, 452, 11, 0, 0, 0), (452, 455, 18, 0, 457, 0), (455, 456, 0, 0, 0, 0), (456, 457, 42, 0, 0, 0), (457, 460, 22, 0, 1282, 0), (460, 461, 4, 1, 0, 0), (461, 462, 4, 0, 0, 0), (462, 464, 2, 4, 0, 0), (464, 465, 0, 0, 0, 1), (465, 466, 9, 0, 0, 0), (466, 467, 27, 0, 0, 0), (467, 468, 4, 0, 0, 0), (468, 470, 2, 4, 0, 0), (470, 471, 0, 0, 0, 2), (471, 472, 9, 0, 0, 0), (472, 473, 27, 0, 0, 0), (473, 476, 39, 64, 0, 0), (476, 477, 4, 2, 0, 0), (477, 478, 4, 0, 0, 0), (478, 480, 2, 4, 0, 0), (480, 481, 0, 0, 0, 1), (481, 482, 9, 0, 0, 0), (482, 483, 27, 0, 0, 0), (483, 484, 4, 0, 0, 0), (484, 486, 2, 4, 0, 0), (486, 487, 0, 0, 0, 2), (487, 488, 9, 0, 0, 0), (488, 489, 27, 0, 0, 0), (489, 492, 39, 220, 0, 0), (492, 495, 19, 0, 1282, 0), (495, 496, 0, 0, 0, 0), (496, 497, 42, 0, 0, 0), (497, 498, 4, 1, 0, 0), (498, 499, 4, 0, 0, 0), (499, 501, 2, 4, 0, 0), (501, 502, 0, 0, 0, 1), (502, 503, 9, 0, 0, 0), (503, 504, 27, 0, 0, 0), (504, 505, 4, 0, 0, 0), (505, 507, 2, 4, 0, 0), (507, 508, 0, 0, 0, 2), (508, 509, 9, 0, 0, 0), (509, 510, 27, 0, 0, 0), (510, 511, 4, 0, 0, 0), (511, 513, 2, 4, 0, 0), (513, 514, 0, 0, 0, 3), (514, 515, 9, 0, 0, 0), (515, 516, 27, 0, 0, 0), (516, 519, 39, 68, 0, 0), (519, 520, 4, 2, 0, 0), (520, 521, 4, 0, 0, 0), (521, 523, 2, 4, 0, 0), (523, 524, 0, 0, 0, 1), (524, 525, 9, 0, 0, 0), (525, 526, 27, 0, 0, 0), (526, 527, 4, 0, 0, 0), (527, 529, 2, 4, 0, 0), (529, 530, 0, 0, 0, 2), (530, 531, 9, 0, 0, 0), (531, 532, 27, 0, 0, 0), (532, 533, 4, 0, 0, 0), (533, 535, 2, 4, 0, 0), (535, 536, 0, 0, 0, 3), (536, 537, 9, 0, 0, 0), (537, 538, 27, 0, 0, 0), (538, 541, 39, 223, 0, 0), (541, 544, 19, 0, 1282, 0), (544, 545, 0, 0, 0, 0), (545, 546, 42, 0, 0, 0), (546, 547, 4, 1, 0, 0), (547, 548, 4, 0, 0, 0), (548, 550, 2, 4, 0, 0), (550, 551, 0, 0, 0, 1), (551, 552, 9, 0, 0, 0), (552, 553, 27, 0, 0, 0), (553, 556, 39, 81, 0, 0), (556, 557, 4, 2, 0, 0), (557, 558, 4, 0, 0, 0), (558, 560, 2, 4, 0, 0), (560, 561, 0, 0, 0, 1), (561, 562, 9, 0, 0, 0), (562, 563, 27, 0, 0, 0), (563, 566, 39, 227, 0, 0), (566, 569, 19, 0, 1282, 0), (569, 570, 0, 0, 0, 0), (570, 571, 42, 0, 0, 0), (571, 572, 4, 1, 0, 0), (572, 573, 4, 0, 0, 0), (573, 575, 2, 4, 0, 0), (575, 576, 0, 0, 0, 1), (576, 577, 9, 0, 0, 0), (577, 578, 27, 0, 0, 0), (578, 579, 4, 0, 0, 0), (579, 581, 2, 4, 0, 0), (581, 582, 0, 0, 0, 2), (582, 583, 9, 0, 0, 0), (583, 584, 27, 0, 0, 0), (584, 587, 39, 84, 0, 0), (587, 588, 4, 2, 0, 0), (588, 589, 4, 0, 0, 0), (589, 591, 2, 4, 0, 0), (591, 592, 0, 0, 0, 1), (592, 593, 9, 0, 0, 0), (593, 594, 27, 0, 0, 0), (594, 595, 4, 0, 0, 0), (595, 597, 2, 4, 0, 0), (597, 598, 0, 0, 0, 2), (598, 599, 9, 0, 0, 0), (599, 600, 27, 0, 0, 0), (600, 603, 39, 231, 0, 0), (603, 606, 19, 0, 1282, 0), (606, 607, 0, 0, 0, 0), (607, 608, 42, 0, 0, 0), (608, 609, 4, 1, 0, 0), (609, 612, 39, 94, 0, 0), (612, 613, 4, 2, 0, 0), (613, 616, 39, 222, 0, 0), (616, 619, 19, 0, 1282, 0), (619, 620, 0, 0, 0, 0), (620, 621, 42, 0, 0, 0), (621, 622, 4, 1, 0, 0), (622, 623, 4, 0, 0, 0), (623, 625, 2, 4, 0, 0), (625, 626, 0, 0, 0, 1), (626, 627, 9, 0, 0, 0), (627, 628, 27, 0, 0, 0), (628, 631, 39, 95, 0, 0), (631, 632, 4, 2, 0, 0), (632, 633, 4, 0, 0, 0), (633, 635, 2, 4, 0, 0), (635, 636, 0, 0, 0, 1), (636, 637, 9, 0, 0, 0), (637, 638, 27, 0, 0, 0), (638, 641, 39, 233, 0, 0), (641, 644, 19, 0, 1282, 0), (644, 645, 0, 0, 0, 0), (645, 646, 42, 0, 0, 0), (646, 647, 4, 1, 0, 0), (647, 648, 4, 0, 0, 0), (648, 650, 2, 4, 0, 0), (650, 651, 0, 0, 0, 1), (651, 652, 9, 0, 0, 0), (652, 653, 27, 0, 0, 0), (653, 656, 39, 98, 0, 0), (656, 657, 4, 2, 0, 0), (657, 658, 4, 0, 0, 0), (658, 660, 2, 4, 0, 0), (660, 661, 0, 0, 0, 1), (661, 662, 9, 0, 0, 0), (662, 663, 27, 0, 0, 0), (663, 666, 39, 235, 0, 0), (666, 669, 19, 0, 1282, 0), (669, 670, 0, 0, 0, 0), (670, 671, 42, 0, 0, 0), (671, 672, 4, 1, 0, 0), (672, 673, 4, 0, 0, 0), (673, 675, 2, 4, 0, 0), (675, 676, 0, 0, 0, 1), (676, 677, 9, 0, 0, 0), (677, 678, 27, 0, 0, 0), (678, 681, 39, 99, 0, 0), (681, 682, 4, 2, 0, 0), (682, 683, 4, 0, 0, 0), (683, 685, 2, 4, 0, 0), (685, 686, 0, 0, 0, 1), (686, 687, 9, 0, 0, 0), (687, 688, 27, 0, 0, 0), (688, 691, 39, 236, 0, 0), (691, 694, 19, 0, 1282, 0), (694, 695, 0, 0, 0, 0), (695, 696, 42, 0, 0, 0), (696, 697, 4, 1, 0, 0), (697, 700, 39, 101, 0, 0), (700, 701, 4, 2, 0, 0), (701, 704, 39, 237, 0, 0), (704, 707, 19, 0, 1282, 0), (707, 708, 0, 0, 0, 0), (708, 709, 42, 0, 0, 0), (709, 710, 4, 1, 0, 0), (710, 711, 4, 0, 0, 0), (711, 713, 2, 4, 0, 0), (713, 714, 0, 0, 0, 1), (714, 715, 9, 0, 0, 0), (715, 716, 27, 0, 0, 0), (716, 719, 39, 103, 0, 0), (719, 720, 4, 2, 0, 0), (720, 721, 4, 0, 0, 0), (721, 723, 2, 4, 0, 0), (723, 724, 0, 0, 0, 1), (724, 725, 9, 0, 0, 0), (725, 726, 27, 0, 0, 0), (726, 729, 39, 238, 0, 0), (729, 732, 19, 0, 1282, 0), (732, 733, 0, 0, 0, 0), (733, 734, 42, 0, 0, 0), (734, 735, 4, 1, 0, 0), (735, 736, 4, 0, 0, 0), (736, 738, 2, 4, 0, 0), (738, 739, 0, 0, 0, 1), (739, 740, 9, 0, 0, 0), (740, 741, 27, 0, 0, 0), (741, 742, 4, 0, 0, 0), (742, 744, 2, 4, 0, 0), (744, 745, 0, 0, 0, 2), (745, 746, 9, 0, 0, 0), (746, 747, 27, 0, 0, 0), (747, 750, 39, 105, 0, 0), (750, 751, 4, 2, 0, 0), (751, 752, 4, 0, 0, 0), (752, 754, 2, 4, 0, 0), (754, 755, 0, 0, 0, 1), (755, 756, 9, 0, 0, 0), (756, 757, 27, 0, 0, 0), (757, 758, 4, 0, 0, 0), (758, 760, 2, 4, 0, 0), (760, 761, 0, 0, 0, 2), (761, 762, 9, 0, 0, 0), (762, 763, 27, 0, 0, 0), (763, 766, 39, 240, 0, 0), (766, 769, 19, 0, 1282, 0), (769, 770, 0, 0, 0, 0), (770, 771, 42, 0, 0, 0), (771, 772, 4, 1, 0, 0), (772, 775, 39, 106, 0, 0), (775, 776, 4, 2, 0, 0), (776, 779, 39, 241, 0, 0), (779, 782, 19, 0, 1282, 0), (782, 783, 0, 0, 0, 0), (783, 784, 42, 0, 0, 0), (784, 785, 4, 1, 0, 0), (785, 786, 4, 0, 0, 0), (786, 788, 2, 4, 0, 0), (788, 789, 0, 0, 0, 1), (789, 790, 9, 0, 0, 0), (790, 791, 27, 0, 0, 0), (791, 792, 4, 0, 0, 0), (792, 794, 2, 4, 0, 0), (794, 795, 0, 0, 0, 2), (795, 796, 9, 0, 0, 0), (796, 797, 27, 0, 0, 0), (797, 800, 39, 118, 0, 0), (800, 801, 4, 2, 0, 0), (801, 802, 4, 0, 0, 0), (802, 804, 2, 4, 0, 0), (804, 805, 0, 0, 0, 1), (805, 806, 9, 0, 0, 0), (806, 807, 27, 0, 0, 0), (807, 808, 4, 0, 0, 0), (808, 810, 2, 4, 0, 0), (810, 811, 0, 0, 0, 2), (811, 812, 9, 0, 0, 0), (812, 813, 27, 0, 0, 0), (813, 816, 39, 246, 0, 0), (816, 819, 19, 0, 1282, 0), (819, 820, 0, 0, 0, 0), (820, 821, 42, 0, 0, 0), (821, 822, 4, 1, 0, 0), (822, 825, 39, 120, 0, 0), (825, 826, 4, 2, 0, 0), (826, 829, 39, 247, 0, 0), (829, 832, 19, 0, 1282, 0), (832, 833, 0, 0, 0, 0), (833, 834, 42, 0, 0, 0), (834, 835, 4, 1, 0, 0), (835, 836, 4, 0, 0, 0), (836, 838, 2, 4, 0, 0), (838, 839, 0, 0, 0, 1), (839, 840, 9, 0, 0, 0), (840, 841, 27, 0, 0, 0), (841, 842, 4, 0, 0, 0), (842, 844, 2, 4, 0, 0), (844, 845, 0, 0, 0, 2), (845, 846, 9, 0, 0, 0), (846, 847, 27, 0, 0, 0), (847, 848, 4, 0, 0, 0), (848, 850, 2, 4, 0, 0), (850, 851, 0, 0, 0, 3), (851, 852, 9, 0, 0, 0), (852, 853, 27, 0, 0, 0), (853, 856, 39, 121, 0, 0), (856, 857, 4, 2, 0, 0), (857, 858, 4, 0, 0, 0), (858, 860, 2, 4, 0, 0), (860, 861, 0, 0, 0, 1), (861, 862, 9, 0, 0, 0), (862, 863, 27, 0, 0, 0), (863, 864, 4, 0, 0, 0), (864, 866, 2, 4, 0, 0), (866, 867, 0, 0, 0, 2), (867, 868, 9, 0, 0, 0), (868, 869, 27, 0, 0, 0), (869, 870, 4, 0, 0, 0), (870, 872, 2, 4, 0, 0), (872, 873, 0, 0, 0, 3), (873, 874, 9, 0, 0, 0), (874, 875, 27, 0, 0, 0), (875, 878, 39, 248, 0, 0), (878, 881, 19, 0, 1282, 0), (881, 882, 0, 0, 0, 0), (882, 883, 42, 0, 0, 0), (883, 884, 4, 1, 0, 0), (884, 885, 4, 0, 0, 0), (885, 887, 2, 4, 0, 0), (887, 888, 0, 0, 0, 1), (888, 889, 9, 0, 0, 0), (889, 890, 27, 0, 0, 0), (890, 891, 4, 0, 0, 0), (891, 893, 2, 4, 0, 0), (893, 894, 0, 0, 0, 2), (894, 895, 9, 0, 0, 0), (895, 896, 27, 0, 0, 0), (896, 897, 4, 0, 0, 0), (897, 899, 2, 4, 0, 0), (899, 900, 0, 0, 0, 3), (900, 901, 9, 0, 0, 0), (901, 902, 27, 0, 0, 0), (902, 905, 39, 127, 0, 0), (905, 906, 4, 2, 0, 0), (906, 907, 4, 0, 0, 0), (907, 909, 2, 4, 0, 0), (909, 910, 0, 0, 0, 1), (910, 911, 9, 0, 0, 0), (911, 912, 27, 0, 0, 0), (912, 913, 4, 0, 0, 0), (913, 915, 2, 4, 0, 0), (915, 916, 0, 0, 0, 2), (916, 917, 9, 0, 0, 0), (917, 918, 27, 0, 0, 0), (918, 919, 4, 0, 0, 0), (919, 921, 2, 4, 0, 0), (921, 922, 0, 0, 0, 3), (922, 923, 9, 0, 0, 0), (923, 924, 27, 0, 0, 0), (924, 927, 39, 252, 0, 0), (927, 930, 19, 0, 1282, 0), (930, 931, 0, 0, 0, 0), (931, 932, 42, 0, 0, 0), (932, 933, 4, 1, 0, 0), (933, 936, 39, 128, 0, 0), (936, 937, 4, 2, 0, 0), (937, 940, 39, 253, 0, 0), (940, 943, 19, 0, 1282, 0), (943, 944, 0, 0, 0, 0), (944, 945, 42, 0, 0, 0), (945, 946, 4, 1, 0, 0), (946, 947, 4, 0, 0, 0), (947, 949, 2, 4, 0, 0), (949, 950, 0, 0, 0, 1), (950, 951, 9, 0, 0, 0), (951, 952, 27, 0, 0, 0), (952, 955, 39, 136, 0, 0), (955, 956, 4, 2, 0, 0), (956, 957, 4, 0, 0, 0), (957, 959, 2, 4, 0, 0), (959, 960, 0, 0, 0, 1), (960, 961, 9, 0, 0, 0), (961, 962, 27, 0, 0, 0), (962, 965, 39, 255, 0, 0), (965, 968, 19, 0, 1282, 0), (968, 969, 0, 0, 0, 0), (969, 970, 42, 0, 0, 0), (970, 971, 4, 1, 0, 0), (971, 972, 4, 0, 0, 0), (972, 974, 2, 4, 0, 0), (974, 975, 0, 0, 0, 1), (975, 976, 9, 0, 0, 0), (976, 977, 27, 0, 0, 0), (977, 978, 4, 0, 0, 0), (978, 980, 2, 4, 0, 0), (980, 981, 0, 0, 0, 2), (981, 982, 9, 0, 0, 0), (982, 983, 27, 0, 0, 0), (983, 986, 39, 138, 0, 0), (986, 987, 4, 2, 0, 0), (987, 988, 4, 0, 0, 0), (988, 990, 2, 4, 0, 0), (990, 991, 0, 0, 0, 1), (991, 992, 9, 0, 0, 0), (992, 993, 27, 0, 0, 0), (993, 994, 4, 0, 0, 0), (994, 996, 2, 4, 0, 0), (996, 997, 0, 0, 0, 2), (997, 998, 9, 0, 0, 0), (998, 999, 27, 0, 0, 0), (999, 1002, 39, 256, 0, 0), (1002, 1005, 19, 0, 1282, 0), (1005, 1006, 0, 0, 0, 0), (1006, 1007, 42, 0, 0, 0), (1007, 1008, 4, 1, 0, 0), (1008, 1009, 4, 0, 0, 0), (1009, 1011, 2, 4, 0, 0), (1011, 1012, 0, 0, 0, 1), (1012, 1013, 9, 0, 0, 0), (1013, 1014, 27, 0, 0, 0), (1014, 1017, 39, 150, 0, 0), (1017, 1018, 4, 2, 0, 0), (1018, 1019, 4, 0, 0, 0), (1019, 1021, 2, 4, 0, 0), (1021, 1022, 0, 0, 0, 1), (1022, 1023, 9, 0, 0, 0), (1023, 1024, 27, 0, 0, 0), (1024, 1027, 39, 262, 0, 0), (1027, 1030, 19, 0, 1282, 0), (1030, 1031, 0, 0, 0, 0), (1031, 1032, 42, 0, 0, 0), (1032, 1033, 4, 1, 0, 0), (1033, 1036, 39, 152, 0, 0), (1036, 1037, 4, 2, 0, 0), (1037, 1040, 39, 263, 0, 0), (1040, 1043, 19, 0, 1282, 0), (1043, 1044, 0, 0, 0, 0), (1044, 1045, 42, 0, 0, 0), (1045, 1046, 4, 1, 0, 0), (1046, 1047, 4, 0, 0, 0), (1047, 1049, 2, 4, 0, 0), (1049, 1050, 0, 0, 0, 1), (1050, 1051, 9, 0, 0, 0), (1051, 1052, 27, 0, 0, 0), (1052, 1055, 39, 154, 0, 0), (1055, 1056, 4, 2, 0, 0), (1056, 1057, 4, 0, 0, 0), (1057, 1059, 2, 4, 0, 0), (1059, 1060, 0, 0, 0, 1), (1060, 1061, 9, 0, 0, 0), (1061, 1062, 27, 0, 0, 0), (1062, 1065, 39, 266, 0, 0), (1065, 1068, 19, 0, 1282, 0), (1068, 1069, 0, 0, 0, 0), (1069, 1070, 42, 0, 0, 0), (1070, 1071, 4, 1, 0, 0), (1071, 1072, 4, 0, 0, 0), (1072, 1074, 2, 4, 0, 0), (1074, 1075, 0, 0, 0, 1), (1075, 1076, 9, 0, 0, 0), (1076, 1077, 27, 0, 0, 0), (1077, 1078, 4, 0, 0, 0), (1078, 1080, 2, 4, 0, 0), (1080, 1081, 0, 0, 0, 2), (1081, 1082, 9, 0, 0, 0), (1082, 1083, 27, 0, 0, 0), (1083, 1086, 39, 155, 0, 0), (1086, 1087, 4, 2, 0, 0), (1087, 1088, 4, 0, 0, 0), (1088, 1090, 2, 4, 0, 0), (1090, 1091, 0, 0, 0, 1), (1091, 1092, 9, 0, 0, 0), (1092, 1093, 27, 0, 0, 0), (1093, 1094, 4, 0, 0, 0), (1094, 1096, 2, 4, 0, 0), (1096, 1097, 0, 0, 0, 2), (1097, 1098, 9, 0, 0, 0), (1098, 1099, 27, 0, 0, 0), (1099, 1102, 39, 267, 0, 0), (1102, 1105, 19, 0, 1282, 0), (1105, 1106, 0, 0, 0, 0), (1106, 1107, 42, 0, 0, 0), (1107, 1108, 4, 1, 0, 0), (1108, 1109, 4, 0, 0, 0), (1109, 1111, 2, 4, 0, 0), (1111, 1112, 0, 0, 0, 1), (1112, 1113, 9, 0, 0, 0), (1113, 1114, 27, 0, 0, 0), (1114, 1115, 4, 0, 0, 0), (1115, 1117, 2, 4, 0, 0), (1117, 1118, 0, 0, 0, 2), (1118, 1119, 9, 0, 0, 0), (1119, 1120, 27, 0, 0, 0), (1120, 1121, 4, 0, 0, 0), (1121, 1123, 2, 4, 0, 0), (1123, 1124, 0, 0, 0, 3), (1124, 1125, 9, 0, 0, 0), (1125, 1126, 27, 0, 0, 0), (1126, 1129, 39, 90, 0, 0), (1129, 1130, 4, 2, 0, 0), (1130, 1131, 4, 0, 0, 0), (1131, 1133, 2, 4, 0, 0), (1133, 1134, 0, 0, 0, 1), (1134, 1135, 9, 0, 0, 0), (1135, 1136, 27, 0, 0, 0), (1136, 1137, 4, 0, 0, 0), (1137, 1139, 2, 4, 0, 0), (1139, 1140, 0, 0, 0, 2), (1140, 1141, 9, 0, 0, 0), (1141, 1142, 27, 0, 0, 0), (1142, 1143, 4, 0, 0, 0), (1143, 1145, 2, 4, 0, 0), (1145, 1146, 0, 0, 0, 3), (1146, 1147, 9, 0, 0, 0), (1147, 1148, 27, 0, 0, 0), (1148, 1151, 39, 269, 0, 0), (1151, 1154, 19, 0, 1282, 0), (1154, 1155, 0, 0, 0, 0), (1155, 1156, 42, 0, 0, 0), (1156, 1157, 4, 1, 0, 0), (1157, 1160, 39, 156, 0, 0), (1160, 1161, 4, 2, 0, 0), (1161, 1164, 39, 271, 0, 0), (1164, 1167, 19, 0, 1282, 0), (1167, 1168, 0, 0, 0, 0), (1168, 1169, 42, 0, 0, 0), (1169, 1170, 4, 1, 0, 0), (1170, 1173, 39, 158, 0, 0), (1173, 1174, 4, 2, 0, 0), (1174, 1177, 39, 272, 0, 0), (1177, 1180, 19, 0, 1282, 0), (1180, 1181, 0, 0, 0, 0), (1181, 1182, 42, 0, 0, 0), (1182, 1183, 4, 1, 0, 0), (1183, 1184, 4, 0, 0, 0), (1184, 1186, 2, 4, 0, 0), (1186, 1187, 0, 0, 0, 1), (1187, 1188, 9, 0, 0, 0), (1188, 1189, 27, 0, 0, 0), (1189, 1192, 39, 167, 0, 0), (1192, 1193, 4, 2, 0, 0), (1193, 1194, 4, 0, 0, 0), (1194, 1196, 2, 4, 0, 0), (1196, 1197, 0, 0, 0, 1), (1197, 1198, 9, 0, 0, 0), (1198, 1199, 27, 0, 0, 0), (1199, 1202, 39, 279, 0, 0), (1202, 1205, 19, 0, 1282, 0), (1205, 1206, 0, 0, 0, 0), (1206, 1207, 42, 0, 0, 0), (1207, 1208, 4, 1, 0, 0), (1208, 1209, 4, 0, 0, 0), (1209, 1211, 2, 4, 0, 0), (1211, 1212, 0, 0, 0, 1), (1212, 1213, 9, 0, 0, 0), (1213, 1214, 27, 0, 0, 0), (1214, 1217, 39, 175, 0, 0), (1217, 1218, 4, 2, 0, 0), (1218, 1219, 4, 0, 0, 0), (1219, 1221, 2, 4, 0, 0), (1221, 1222, 0, 0, 0, 1), (1222, 1223, 9, 0, 0, 0), (1223, 1224, 27, 0, 0, 0), (1224, 1227, 39, 283, 0, 0), (1227, 1230, 19, 0, 1282, 0), (1230, 1231, 0, 0, 0, 0), (1231, 1232, 42, 0, 0, 0), (1232, 1233, 4, 1, 0, 0), (1233, 1234, 4, 0, 0, 0), (1234, 1236, 2, 4, 0, 0), (1236, 1237, 0, 0, 0, 1), (1237, 1238, 9, 0, 0, 0), (1238, 1239, 27, 0, 0, 0), (1239, 1242, 39, 178, 0, 0), (1242, 1243, 4, 2, 0, 0), (1243, 1244, 4, 0, 0, 0), (1244, 1246, 2, 4, 0, 0), (1246, 1247, 0, 0, 0, 1), (1247, 1248, 9, 0, 0, 0), (1248, 1249, 27, 0, 0, 0), (1249, 1252, 39, 284, 0, 0), (1252, 1255, 19, 0, 1282, 0), (1255, 1256, 0, 0, 0, 0), (1256, 1257, 42, 0, 0, 0), (1257, 1258, 4, 1, 0, 0), (1258, 1259, 4, 0, 0, 0), (1259, 1261, 2, 4, 0, 0), (1261, 1262, 0, 0, 0, 1), (1262, 1263, 9, 0, 0, 0), (1263, 1264, 27, 0, 0, 0), (1264, 1267, 39, 179, 0, 0), (1267, 1268, 4, 2, 0, 0), (1268, 1269, 4, 0, 0, 0), (1269, 1271, 2, 4, 0, 0), (1271, 1272, 0, 0, 0, 1), (1272, 1273, 9, 0, 0, 0), (1273, 1274, 27, 0, 0, 0), (1274, 1277, 39, 285, 0, 0), (1277, 1280, 19, 0, 1282, 0), (1280, 1281, 0, 0, 0, 0), (1281, 1282, 42, 0, 0, 0), (1282, 1285, 8, 4, 0, 6), (1285, 1288, 22, 0, 23, 0), (1288, 1289, 0, 0, 0, 1), (1289, 1290, 42, 0, 0, 0)])
def M1 : Mth := (1, 9, 1, 0, 2, [(0, 1, 4, 0, 0, 0), (1, 4, 46, 0, 0, 0), (4, 5, 4, 0, 0, 0), (5, 8, 36, 7, 0, 0), (8, 9, 15, 0, 0, 0), (9, 12, 39, 2, 0, 0), (12, 15, 51, 9, 0, 0), (15, 16, 4, 0, 0, 0), (16, 19, 36, 2, 0, 0), (19, 20, 15, 0, 0, 0), (20, 21, 4, 0, 0, 0), (21, 24, 49, 9, 0, 0), (24, 27, 39, 3, 0, 0), (27, 30, 51, 9, 1, 0), (30, 31, 4, 0, 0, 0), (31, 34, 36, 1, 0, 0), (34, 35, 15, 0, 0, 0), (35, 38, 39, 4, 0, 0), (38, 41, 51, 9, 2, 0), (41, 42, 4, 0, 0, 0), (42, 45, 36, 1, 0, 0), (45, 46, 15, 0, 0, 0), (46, 49, 39, 4, 0, 0), (49, 52, 51, 9, 3, 0), (52, 53, 4, 0, 0, 0), (53, 56, 36, 6, 0, 0), (56, 57, 15, 0, 0, 0), (57, 60, 39, 5, 0, 0), (60, 63, 51, 9, 4, 0), (63, 64, 4, 0, 0, 0), (64, 67, 36, 6, 0, 0), (67, 68, 15, 0, 0, 0), (68, 71, 39, 5, 0, 0), (71, 74, 51, 9, 5, 0), (74, 75, 4, 0, 0, 0), (75, 78, 36, 5, 0, 0), (78, 79, 15, 0, 0, 0), (79, 82, 39, 6, 0, 0), (82, 85, 51, 9, 6, 0), (85, 86, 4, 0, 0, 0), (86, 88, 0, 0, 0, 6), (88, 91, 38, 5, 0, 0), (91, 94, 51, 9, 7, 0), (94, 95, 4, 0, 0, 0), (95, 96, 0, 0, 0, 0), (96, 99, 25, 9, 8, 0), (99, 100, 4, 0, 0, 0), (100, 101, 0, 0, 0, 0), (101, 104, 25, 9, 9, 0), (104, 105, 4, 0, 0, 0), (105, 106, 0, 0, 0, 2), (106, 109, 38, 1, 0, 0), (109, 112, 51, 9, 10, 0), (112, 113, 4, 0, 0, 0), (113, 114, 0, 0, 0, 2), (114, 117, 38, 5, 0, 0), (117, 120, 51, 9, 11, 0), (120, 121, 4, 0, 0, 0), (121, 122, 0, 0, 0, 2), (122, 125, 38, 6, 0, 0), (125, 128, 51, 9, 12, 0), (128, 129, 4, 0, 0, 0), (129, 130, 0, 0, 0, 2), (130, 132, 37, 104, 0, 0), (132, 135, 51, 9, 13, 0), (135, 136, 4, 0, 0, 0), (136, 139, 36, 4, 0, 0), (139, 140, 15, 0, 0, 0), (140, 143, 39, 7, 0, 0), (143, 146, 51, 9, 14, 0), (146, 147, 4, 0, 0, 0), (147, 150, 36, 8, 0, 0), (150, 151, 15, 0, 0, 0), (151, 154, 39, 8, 0, 0), (154, 157, 51, 9, 15, 0), (157, 158, 4, 0, 0, 0), (158, 161, 36, 0, 0, 0), (161, 162, 15, 0, 0, 0), (162, 165, 39, 9, 0, 0), (165, 168, 51, 9, 16, 0), (168, 169, 4, 0, 0, 0), (169, 172, 36, 3, 0, 0), (172, 173, 15, 0, 0, 0), (173, 176, 39, 10, 0, 0), (176, 179, 51, 9, 17, 0), (179, 180, 0, 0, 0, 0), (180, 181, 5, 1, 0, 0), (181, 182, 2, 1, 0, 0), (182, 184, 0, 0, 0, 6), (184, 187, 19, 3, 206, 0), (187, 188, 4, 0, 0, 0), (188, 191, 49, 9, 7, 0), (191, 192, 2, 1, 0, 0), (192, 195, 36, 5, 0, 0), (195, 196, 15, 0, 0, 0), (196, 199, 39, 6, 0, 0), (199, 200, 34, 0, 0, 0), (200, 203, 8, 1, 0, 1), (203, 206, 22, 0, 181, 0), (206, 207, 0, 0, 0, 0), (207, 208, 5, 1, 0, 0), (208, 209, 2, 1, 0, 0), (209, 210, 0, 0, 0, 2), (210, 213, 19, 3, 258, 0), (213, 214, 4, 0, 0, 0), (214, 217, 49, 9, 10, 0), (217, 218, 2, 1, 0, 0), (218, 221, 36, 1, 0, 0), (221, 222, 15, 0, 0, 0), (222, 225, 39, 4, 0, 0), (225, 226, 34, 0, 0, 0), (226, 227, 4, 0, 0, 0), (227, 230, 49, 9, 11, 0), (230, 231, 2, 1, 0, 0), (231, 234, 36, 5, 0, 0), (234, 235, 15, 0, 0, 0), (235, 238, 39, 6, 0, 0), (238, 239, 34, 0, 0, 0), (239, 240, 4, 0, 0, 0), (240, 243, 49, 9, 12, 0), (243, 244, 2, 1, 0, 0), (244, 247, 36, 6, 0, 0), (247, 248, 15, 0, 0, 0), (248, 251, 39, 5, 0, 0), (251, 252, 34, 0, 0, 0), (252, 255, 8, 1, 0, 1), (255, 258, 22, 0, 208, 0), (258, 259, 41, 0, 0, 0)])
def M2 : Mth := (2, 7, 1, 0, 1, [(0, 1, 4, 0, 0, 0), (1, 4, 46, 0, 0, 0), (4, 5, 4, 0, 0, 0), (5, 8, 0, 0, 0, 940), (8, 10, 37, 101, 0, 0), (10, 13, 51, 7, 0, 0), (13, 14, 4, 0, 0, 0), (14, 15, 0, 0, 0, 0), (15, 18, 25, 7, 1, 0), (18, 19, 4, 0, 0, 0), (19, 20, 0, 0, 0, 0), (20, 23, 25, 7, 2, 0), (23, 24, 4, 0, 0, 0), (24, 25, 0, 0, 0, 0), (25, 28, 25, 7, 3, 0), (28, 29, 4, 0, 0, 0), (29, 30, 0, 0, 0, 0), (30, 33, 52, 7, 4, 0), (33, 34, 4, 0, 0, 0), (34, 35, 0, 0, 0, 0), (35, 38, 25, 7, 5, 0), (38, 39, 4, 0, 0, 0), (39, 40, 0, 0, 0, 0), (40, 43, 25, 7, 6, 0), (43, 44, 4, 0, 0, 0), (44, 47, 0, 0, 0, 941), (47, 49, 37, 101, 0, 0), (49, 52, 51, 7, 7, 0), (52, 53, 4, 0, 0, 0), (53, 56, 0, 0, 0, 941), (56, 58, 37, 101, 0, 0), (58, 61, 51, 7, 8, 0), (61, 62, 4, 0, 0, 0), (62, 65, 0, 0, 0, 941), (65, 67, 37, 102, 0, 0), (67, 70, 51, 7, 9, 0), (70, 71, 41, 0, 0, 0)])
def M3 : Mth := (3, 2, 2, 0, 2, [(0, 1, 4, 0, 0, 0), (1, 4, 46, 0, 0, 0), (4, 5, 4, 0, 0, 0), (5, 6, 4, 1, 0, 0), (6, 9, 51, 2, 0, 0), (9, 10, 41, 0, 0, 0)])
def M4 : Mth := (4, 1, 1, 0, 1, [(0, 1, 4, 0, 0, 0), (1, 4, 46, 0, 0, 0), (4, 5, 4, 0, 0, 0), (5, 6, 0, 0, 0, 0), (6, 9, 25, 1, 0, 0), (9, 10, 4, 0, 0, 0), (10, 11, 0, 0, 0, 0), (11, 14, 25, 1, 1, 0), (14, 15, 4, 0, 0, 0), (15, 16, 0, 0, 0, 0), (16, 19, 25, 1, 2, 0), (19, 20, 4, 0, 0, 0), (20, 21, 0, 0, 0, 0), (21, 24, 25, 1, 3, 0), (24, 25, 4, 0, 0, 0), (25, 26, 0, 0, 0, 0), (26, 29, 25, 1, 4, 0), (29, 30, 4, 0, 0, 0), (30, 31, 0, 0, 0, 0), (31, 34, 25, 1, 5, 0), (34, 35, 4, 0, 0, 0), (35, 36, 0, 0, 0, 0), (36, 39, 25, 1, 6, 0), (39, 40, 4, 0, 0, 0), (40, 42, 0, 0, 0, 6), (42, 44, 37, 101, 0, 0), (44, 47, 51, 1, 7, 0), (47, 48, 4, 0, 0, 0), (48, 50, 0, 0, 0, 6), (50, 52, 37, 101, 0, 0), (52, 55, 51, 1, 8, 0), (55, 56, 4, 0, 0, 0), (56, 58, 0, 0, 0, 6), (58, 60, 37, 101, 0, 0), (60, 63, 51, 1, 9, 0), (63, 64, 4, 0, 0, 0), (64, 66, 0, 0, 0, 6), (66, 68, 37, 102, 0, 0), (68, 71, 51, 1, 10, 0), (71, 72, 4, 0, 0, 0), (72, 74, 0, 0, 0, 6), (74, 76, 37, 102, 0, 0), (76, 79, 51, 1, 11, 0), (79, 80, 4, 0, 0, 0), (80, 82, 0, 0, 0, 6), (82, 84, 37, 101, 0, 0), (84, 87, 51, 1, 12, 0), (87, 88, 4, 0, 0, 0), (88, 91, 0, 0, 0, 246), (91, 93, 37, 101, 0, 0), (93, 96, 51, 1, 13, 0), (96, 97, 4, 0, 0, 0), (97, 100, 0, 0, 0, 144), (100, 102, 37, 104, 0, 0), (102, 105, 51, 1, 14, 0), (105, 106, 4, 0, 0, 0), (106, 108, 0, 0, 0, 8), (108, 110, 37, 101, 0, 0), (110, 113, 51, 1, 15, 0), (113, 114, 41, 0, 0, 0)])
def M5 : Mth := (5, 6, 1, 0, 1, [(0, 1, 4, 0, 0, 0), (1, 4, 46, 0, 0, 0), (4, 5, 4, 0, 0, 0), (5, 6, 0, 0, 0, 0), (6, 9, 25, 6, 0, 0), (9, 10, 4, 0, 0, 0), (10, 11, 0, 0, 0, 0), (11, 14, 25, 6, 1, 0), (14, 15, 4, 0, 0, 0), (15, 17, 0, 0, 0, 64), (17, 19, 37, 101, 0, 0), (19, 22, 51, 6, 2, 0), (22, 23, 4, 0, 0, 0), (23, 25, 0, 0, 0, 64), (25, 27, 37, 101, 0, 0), (27, 30, 51, 6, 3, 0), (30, 31, 4, 0, 0, 0), (31, 33, 0, 0, 0, 64), (33, 35, 37, 101, 0, 0), (35, 38, 51, 6, 4, 0), (38, 39, 41, 0, 0, 0)])
def M6 : Mth := (6, 5, 1, 0, 2, [(0, 1, 4, 0, 0, 0), (1, 4, 46, 0, 0, 0), (4, 5, 4, 0, 0, 0), (5, 6, 0, 0, 0, 0), (6, 9, 25, 5, 0, 0), (9, 10, 4, 0, 0, 0), (10, 13, 0, 0, 0, 7776), (13, 15, 37, 101, 0, 0), (15, 18, 51, 5, 1, 0), (18, 19, 4, 0, 0, 0), (19, 22, 0, 0, 0, 1296), (22, 24, 37, 101, 0, 0), (24, 27, 51, 5, 2, 0), (27, 28, 4, 0, 0, 0), (28, 31, 0, 0, 0, 144), (31, 33, 37, 101, 0, 0), (33, 36, 51, 5, 3, 0), (36, 37, 4, 0, 0, 0), (37, 40, 0, 0, 0, 144), (40, 42, 37, 101, 0, 0), (42, 45, 51, 5, 4, 0), (45, 46, 4, 0, 0, 0), (46, 49, 0, 0, 0, 144), (49, 51, 37, 101, 0, 0), (51, 54, 51, 5, 5, 0), (54, 55, 4, 0, 0, 0), (55, 58, 0, 0, 0, 144), (58, 60, 37, 101, 0, 0), (60, 63, 51, 5, 6, 0), (63, 64, 4, 0, 0, 0), (64, 66, 0, 0, 0, 6), (66, 68, 37, 101, 0, 0), (68, 71, 51, 5, 7, 0), (71, 72, 0, 0, 0, 0), (72, 73, 5, 1, 0, 0), (73, 74, 2, 1, 0, 0), (74, 77, 0, 0, 0, 144), (77, 80, 19, 3, 93, 0), (80, 81, 4, 0, 0, 0), (81, 84, 49, 5, 3, 0), (84, 85, 2, 1, 0, 0), (85, 86, 0, 0, 0, -1), (86, 87, 31, 0, 0, 0), (87, 90, 8, 1, 0, 1), (90, 93, 22, 0, 73, 0), (93, 94, 41, 0, 0, 0)])
def M7 : Mth := (7, 4, 1, 0, 1, [(0, 1, 4, 0, 0, 0), (1, 4, 46, 0, 0, 0), (4, 5, 4, 0, 0, 0), (5, 6, 0, 0, 0, -1), (6, 9, 25, 4, 0, 0), (9, 10, 4, 0, 0, 0), (10, 11, 0, 0, 0, 0), (11, 14, 25, 4, 1, 0), (14, 15, 4, 0, 0, 0), (15, 17, 0, 0, 0, 8), (17, 19, 37, 101, 0, 0), (19, 22, 51, 4, 2, 0), (22, 23, 4, 0, 0, 0), (23, 25, 0, 0, 0, 8), (25, 27, 37, 101, 0, 0), (27, 30, 51, 4, 3, 0), (30, 31, 4, 0, 0, 0), (31, 33, 0, 0, 0, 8), (33, 35, 37, 101, 0, 0), (35, 38, 51, 4, 4, 0), (38, 39, 4, 0, 0, 0), (39, 41, 0, 0, 0, 48), (41, 43, 37, 101, 0, 0), (43, 46, 51, 4, 5, 0), (46, 47, 4, 0, 0, 0), (47, 49, 0, 0, 0, 6), (49, 51, 37, 104, 0, 0), (51, 54, 51, 4, 6, 0), (54, 55, 4, 0, 0, 0), (55, 57, 0, 0, 0, 56), (57, 59, 37, 101, 0, 0), (59, 62, 51, 4, 7, 0), (62, 63, 4, 0, 0, 0), (63, 65, 0, 0, 0, 56), (65, 67, 37, 101, 0, 0), (67, 70, 51, 4, 8, 0), (70, 71, 4, 0, 0, 0), (71, 73, 0, 0, 0, 56), (73, 75, 37, 101, 0, 0), (75, 78, 51, 4, 9, 0), (78, 79, 4, 0, 0, 0), (79, 81, 0, 0, 0, 6), (81, 83, 37, 101, 0, 0), (83, 86, 51, 4, 10, 0), (86, 87, 4, 0, 0, 0), (87, 88, 0, 0, 0, 0), (88, 91, 25, 4, 11, 0), (91, 92, 4, 0, 0, 0), (92, 93, 0, 0, 0, 0), (93, 96, 25, 4, 12, 0), (96, 97, 4, 0, 0, 0), (97, 98, 0, 0, 0, 0), (98, 101, 52, 4, 13, 0), (101, 102, 4, 0, 0, 0), (102, 104, 0, 0, 0, 6), (104, 106, 37, 101, 0, 0), (106, 109, 51, 4, 14, 0), (109, 110, 4, 0, 0, 0), (110, 112, 0, 0, 0, 6), (112, 114, 37, 101, 0, 0), (114, 117, 51, 4, 15, 0), (117, 118, 41, 0, 0, 0)])
def M8 : Mth := (8, 8, 1, 0, 1, [(0, 1, 4, 0, 0, 0), (1, 4, 46, 0, 0, 0), (4, 5, 4, 0, 0, 0), (5, 6, 0, 0, 0, -1), (6, 9, 25, 8, 0, 0), (9, 10, 4, 0, 0, 0), (10, 11, 0, 0, 0, -1), (11, 14, 25, 8, 1, 0), (14, 15, 4, 0, 0, 0), (15, 16, 0, 0, 0, 0), (16, 19, 25, 8, 2, 0), (19, 20, 4, 0, 0, 0), (20, 22, 0, 0, 0, 30), (22, 24, 37, 101, 0, 0), (24, 27, 51, 8, 3, 0), (27, 28, 4, 0, 0, 0), (28, 30, 0, 0, 0, 30), (30, 32, 37, 101, 0, 0), (32, 35, 51, 8, 4, 0), (35, 36, 4, 0, 0, 0), (36, 38, 0, 0, 0, 30), (38, 40, 37, 101, 0, 0), (40, 43, 51, 8, 5, 0), (43, 44, 4, 0, 0, 0), (44, 45, 0, 0, 0, 0), (45, 48, 52, 8, 6, 0), (48, 49, 4, 0, 0, 0), (49, 50, 0, 0, 0, 0), (50, 53, 25, 8, 7, 0), (53, 54, 4, 0, 0, 0), (54, 55, 0, 0, 0, 0), (55, 58, 25, 8, 8, 0), (58, 59, 4, 0, 0, 0), (59, 60, 0, 0, 0, 0), (60, 63, 25, 8, 9, 0), (63, 64, 4, 0, 0, 0), (64, 65, 0, 0, 0, -1), (65, 68, 25, 8, 10, 0), (68, 69, 41, 0, 0, 0)])
def M9 : Mth := (9, 0, 1, 0, 1, [(0, 1, 4, 0, 0, 0), (1, 4, 46, 0, 0, 0), (4, 5, 4, 0, 0, 0), (5, 6, 0, 0, 0, 0), (6, 9, 25, 0, 0, 0), (9, 10, 4, 0, 0, 0), (10, 11, 0, 0, 0, 0), (11, 14, 25, 0, 1, 0), (14, 15, 4, 0, 0, 0), (15, 18, 0, 0, 0, 144), (18, 20, 37, 101, 0, 0), (20, 23, 51, 0, 2, 0), (23, 24, 4, 0, 0, 0), (24, 27, 0, 0, 0, 144), (27, 29, 37, 104, 0, 0), (29, 32, 51, 0, 3, 0), (32, 33, 41, 0, 0, 0)])
def M10 : Mth := (10, 3, 1, 0, 1, [(0, 1, 4, 0, 0, 0), (1, 4, 46, 0, 0, 0), (4, 5, 4, 0, 0, 0), (5, 6, 0, 0, 0, -1), (6, 9, 25, 3, 0, 0), (9, 10, 4, 0, 0, 0), (10, 11, 0, 0, 0, -1), (11, 14, 25, 3, 1, 0), (14, 15, 4, 0, 0, 0), (15, 18, 0, 0, 0, 144), (18, 20, 37, 104, 0, 0), (20, 23, 51, 3, 2, 0), (23, 24, 4, 0, 0, 0), (24, 27, 0, 0, 0, 144), (27, 29, 37, 104, 0, 0), (29, 32, 51, 3, 3, 0), (32, 33, 4, 0, 0, 0), (33, 36, 0, 0, 0, 576), (36, 38, 37, 104, 0, 0), (38, 41, 51, 3, 4, 0), (41, 42, 4, 0, 0, 0), (42, 45, 0, 0, 0, 288), (45, 47, 37, 101, 0, 0), (47, 50, 51, 3, 5, 0), (50, 51, 4, 0, 0, 0), (51, 54, 0, 0, 0, 288), (54, 56, 37, 101, 0, 0), (56, 59, 51, 3, 6, 0), (59, 60, 4, 0, 0, 0), (60, 61, 0, 0, 0, 0), (61, 64, 25, 3, 7, 0), (64, 65, 4, 0, 0, 0), (65, 66, 0, 0, 0, 0), (66, 69, 25, 3, 8, 0), (69, 70, 4, 0, 0, 0), (70, 71, 0, 0, 0, 4), (71, 73, 37, 101, 0, 0), (73, 76, 51, 3, 9, 0), (76, 77, 41, 0, 0, 0)])
def M11 : Mth := (11, 9, 6, 1, 6, [(0, 1, 4, 0, 0, 0), (1, 4, 49, 9, 0, 0), (4, 6, 0, 0, 0, 20), (6, 9, 39, 12, 0, 0), (9, 12, 18, 1, 14, 0), (12, 13, 0, 0, 0, -1), (13, 14, 42, 0, 0, 0), (14, 15, 4, 0, 0, 0), (15, 18, 49, 9, 0, 0), (18, 19, 2, 1, 0, 0), (19, 22, 39, 13, 0, 0), (22, 23, 4, 0, 0, 0), (23, 26, 49, 9, 0, 0), (26, 27, 2, 2, 0, 0), (27, 30, 39, 13, 0, 0), (30, 31, 4, 0, 0, 0), (31, 34, 49, 9, 0, 0), (34, 35, 2, 3, 0, 0), (35, 38, 39, 13, 0, 0), (38, 39, 4, 0, 0, 0), (39, 42, 49, 9, 0, 0), (42, 44, 2, 4, 0, 0), (44, 47, 39, 13, 0, 0), (47, 48, 4, 0, 0, 0), (48, 51, 49, 9, 0, 0), (51, 53, 2, 5, 0, 0), (53, 56, 39, 13, 0, 0), (56, 57, 4, 0, 0, 0), (57, 60, 49, 9, 0, 0), (60, 63, 24, 7, 1, 0), (63, 64, 42, 0, 0, 0)])
def M12 : Mth := (12, 7, 2, 2, 2, [(0, 1, 4, 0, 0, 0), (1, 4, 24, 7, 1, 0), (4, 7, 0, 0, 0, 940), (7, 8, 2, 1, 0, 0), (8, 9, 9, 1, 0, 0), (9, 12, 19, 4, 16, 0), (12, 13, 0, 0, 0, 1), (13, 16, 22, 0, 17, 0), (16, 17, 0, 0, 0, 0), (17, 18, 42, 0, 0, 0)])
def M13 : Mth := (13, 7, 2, 0, 3, [(0, 2, 0, 0, 0, 24), (2, 3, 5, 2, 0, 0), (3, 4, 2, 2, 0, 0), (4, 7, 18, 2, 56, 0), (7, 8, 4, 0, 0, 0), (8, 11, 24, 7, 1, 0), (11, 14, 18, 2, 50, 0), (14, 15, 4, 0, 0, 0), (15, 18, 24, 7, 1, 0), (18, 21, 0, 0, 0, 940), (21, 24, 19, 3, 50, 0), (24, 25, 4, 0, 0, 0), (25, 28, 49, 7, 0, 0), (28, 29, 4, 0, 0, 0), (29, 32, 24, 7, 1, 0), (32, 33, 2, 1, 0, 0), (33, 34, 2, 2, 0, 0), (34, 35, 9, 10, 0, 0), (35, 38, 0, 0, 0, 255), (38, 39, 9, 5, 0, 0), (39, 40, 31, 0, 0, 0), (40, 41, 4, 0, 0, 0), (41, 42, 15, 0, 0, 0), (42, 45, 24, 7, 1, 0), (45, 46, 0, 0, 0, 1), (46, 47, 9, 0, 0, 0), (47, 50, 25, 7, 1, 0), (50, 53, 8, 2, 0, -8), (53, 56, 22, 0, 3, 0), (56, 57, 41, 0, 0, 0)])
def M14 : Mth := (14, 9, 2, 2, 2, [(0, 1, 2, 1, 0, 0), (1, 4, 18, 2, 15, 0), (4, 5, 2, 1, 0, 0), (5, 6, 4, 0, 0, 0), (6, 9, 49, 9, 0, 0), (9, 12, 24, 7, 1, 0), (12, 15, 19, 5, 17, 0), (15, 16, 0, 0, 0, 0), (16, 17, 42, 0, 0, 0), (17, 18, 4, 0, 0, 0), (18, 21, 49, 9, 0, 0), (21, 22, 2, 1, 0, 0), (22, 25, 25, 7, 1, 0), (25, 26, 0, 0, 0, 1), (26, 27, 42, 0, 0, 0)])
def M15 : Mth := (15, 9, 1, 1, 3, [(0, 1, 4, 0, 0, 0), (1, 4, 49, 9, 1, 0), (4, 5, 4, 0, 0, 0), (5, 8, 49, 9, 3, 0), (8, 11, 39, 16, 0, 0), (11, 12, 5, 1, 0, 0), (12, 13, 4, 0, 0, 0), (13, 16, 49, 9, 0, 0), (16, 17, 0, 0, 0, 0), (17, 20, 25, 7, 1, 0), (20, 21, 2, 1, 0, 0), (21, 22, 0, 0, 0, -1), (22, 25, 19, 1, 35, 0), (25, 26, 0, 0, 0, -1), (26, 27, 4, 0, 0, 0), (27, 30, 49, 9, 0, 0), (30, 33, 24, 7, 3, 0), (33, 34, 9, 1, 0, 0), (34, 35, 42, 0, 0, 0), (35, 36, 4, 0, 0, 0), (36, 39, 49, 9, 2, 0), (39, 40, 7, 2, 0, 0), (40, 41, 4, 0, 0, 0), (41, 42, 4, 0, 0, 0), (42, 45, 49, 9, 3, 0), (45, 48, 51, 9, 2, 0), (48, 49, 4, 0, 0, 0), (49, 50, 4, 2, 0, 0), (50, 53, 51, 9, 3, 0), (53, 54, 4, 0, 0, 0), (54, 57, 49, 9, 6, 0), (57, 60, 39, 61, 0, 0), (60, 61, 4, 0, 0, 0), (61, 64, 49, 9, 4, 0), (64, 67, 39, 62, 0, 0), (67, 68, 4, 0, 0, 0), (68, 69, 0, 0, 0, 0), (69, 72, 25, 9, 9, 0), (72, 73, 2, 1, 0, 0), (73, 74, 42, 0, 0, 0)])
def M16 : Mth := (16, 2, 2, 1, 3, [(0, 1, 4, 1, 0, 0), (1, 4, 39, 17, 0, 0), (4, 5, 4, 0, 0, 0), (5, 8, 49, 2, 0, 0), (8, 11, 0, 0, 0, 900), (11, 14, 39, 18, 0, 0), (14, 15, 0, 0, 0, 0), (15, 16, 5, 2, 0, 0), (16, 17, 2, 2, 0, 0), (17, 20, 0, 0, 0, 900), (20, 23, 19, 3, 61, 0), (23, 24, 4, 0, 0, 0), (24, 27, 49, 2, 0, 0), (27, 30, 39, 30, 0, 0), (30, 33, 18, 1, 61, 0), (33, 34, 4, 0, 0, 0), (34, 35, 4, 1, 0, 0), (35, 38, 39, 32, 0, 0), (38, 41, 18, 0, 53, 0), (41, 42, 4, 0, 0, 0), (42, 45, 49, 2, 0, 0), (45, 47, 0, 0, 0, 59), (47, 50, 39, 58, 0, 0), (50, 53, 18, 1, 55, 0), (53, 54, 0, 0, 0, -1), (54, 55, 42, 0, 0, 0), (55, 58, 8, 2, 0, 1), (58, 61, 22, 0, 16, 0), (61, 62, 4, 0, 0, 0), (62, 65, 49, 2, 0, 0), (65, 68, 39, 60, 0, 0), (68, 71, 18, 0, 75, 0), (71, 72, 2, 2, 0, 0), (72, 75, 22, 0, 76, 0), (75, 76, 0, 0, 0, -1), (76, 77, 42, 0, 0, 0)])
def M17 : Mth := (17, 1, 1, 0, 2, [(0, 1, 4, 0, 0, 0), (1, 2, 0, 0, 0, 0), (2, 5, 25, 1, 0, 0), (5, 6, 4, 0, 0, 0), (6, 7, 0, 0, 0, 0), (7, 10, 25, 1, 1, 0), (10, 11, 4, 0, 0, 0), (11, 12, 0, 0, 0, 0), (12, 15, 25, 1, 2, 0), (15, 16, 4, 0, 0, 0), (16, 17, 0, 0, 0, 0), (17, 20, 25, 1, 3, 0), (20, 21, 4, 0, 0, 0), (21, 22, 0, 0, 0, 0), (22, 25, 25, 1, 4, 0), (25, 26, 4, 0, 0, 0), (26, 27, 0, 0, 0, 0), (27, 30, 25, 1, 5, 0), (30, 31, 4, 0, 0, 0), (31, 32, 0, 0, 0, 0), (32, 35, 25, 1, 6, 0), (35, 36, 0, 0, 0, 0), (36, 37, 5, 1, 0, 0), (37, 38, 2, 1, 0, 0), (38, 41, 0, 0, 0, 144), (41, 44, 19, 3, 57, 0), (44, 45, 4, 0, 0, 0), (45, 48, 49, 1, 14, 0), (48, 49, 2, 1, 0, 0), (49, 50, 0, 0, 0, 0), (50, 51, 33, 0, 0, 0), (51, 54, 8, 1, 0, 1), (54, 57, 22, 0, 37, 0), (57, 58, 41, 0, 0, 0)])
def M18 : Mth := (18, 7, 2, 0, 5, [(0, 1, 4, 0, 0, 0), (1, 4, 24, 7, 1, 0), (4, 5, 2, 1, 0, 0), (5, 8, 39, 19, 0, 0), (8, 9, 5, 2, 0, 0), (9, 10, 4, 0, 0, 0), (10, 11, 4, 0, 0, 0), (11, 14, 24, 7, 1, 0), (14, 15, 2, 1, 0, 0), (15, 18, 19, 5, 22, 0), (18, 19, 0, 0, 0, 1), (19, 22, 22, 0, 23, 0), (22, 23, 0, 0, 0, 0), (23, 26, 52, 7, 4, 0), (26, 27, 4, 0, 0, 0), (27, 28, 0, 0, 0, 0), (28, 31, 25, 7, 2, 0), (31, 32, 4, 0, 0, 0), (32, 33, 0, 0, 0, 0), (33, 36, 25, 7, 3, 0), (36, 37, 4, 0, 0, 0), (37, 38, 0, 0, 0, 0), (38, 41, 25, 7, 6, 0), (41, 42, 4, 0, 0, 0), (42, 43, 0, 0, 0, 0), (43, 46, 25, 7, 5, 0), (46, 47, 0, 0, 0, 0), (47, 48, 5, 3, 0, 0), (48, 49, 0, 0, 0, 0), (49, 51, 5, 4, 0, 0), (51, 53, 2, 4, 0, 0), (53, 54, 2, 2, 0, 0), (54, 57, 19, 3, 76, 0), (57, 59, 2, 4, 0, 0), (59, 60, 2, 3, 0, 0), (60, 63, 19, 2, 70, 0), (63, 64, 4, 0, 0, 0), (64, 66, 2, 4, 0, 0), (66, 69, 39, 20, 0, 0), (69, 70, 5, 3, 0, 0), (70, 73, 8, 4, 0, 1), (73, 76, 22, 0, 51, 0), (76, 77, 4, 0, 0, 0), (77, 78, 2, 2, 0, 0), (78, 79, 0, 0, 0, 0), (79, 80, 1, 0, 0, 0), (80, 83, 39, 28, 0, 0), (83, 84, 41, 0, 0, 0)])
def M19 : Mth := (19, 13, 2, 1, 2, [(0, 1, 2, 0, 0, 0), (1, 2, 2, 1, 0, 0), (2, 5, 19, 4, 9, 0), (5, 6, 2, 0, 0, 0), (6, 9, 22, 0, 10, 0), (9, 10, 2, 1, 0, 0), (10, 11, 42, 0, 0, 0)])
def M20 : Mth := (20, 7, 2, 1, 4, [(0, 1, 4, 0, 0, 0), (1, 2, 2, 1, 0, 0), (2, 5, 39, 21, 0, 0), (5, 6, 5, 2, 0, 0), (6, 7, 2, 2, 0, 0), (7, 10, 39, 22, 0, 0), (10, 13, 18, 0, 27, 0), (13, 14, 4, 0, 0, 0), (14, 15, 2, 1, 0, 0), (15, 18, 39, 24, 0, 0), (18, 19, 5, 3, 0, 0), (19, 20, 4, 0, 0, 0), (20, 21, 2, 1, 0, 0), (21, 22, 2, 3, 0, 0), (22, 25, 39, 25, 0, 0), (25, 26, 2, 3, 0, 0), (26, 27, 42, 0, 0, 0), (27, 28, 2, 2, 0, 0), (28, 30, 0, 0, 0, 32), (30, 33, 19, 0, 58, 0), (33, 34, 2, 2, 0, 0), (34, 36, 0, 0, 0, 10), (36, 39, 19, 0, 58, 0), (39, 40, 4, 0, 0, 0), (40, 41, 2, 1, 0, 0), (41, 42, 2, 2, 0, 0), (42, 45, 39, 29, 0, 0), (45, 48, 18, 0, 52, 0), (48, 49, 0, 0, 0, 4), (49, 52, 22, 0, 53, 0), (52, 53, 0, 0, 0, 5), (53, 54, 2, 2, 0, 0), (54, 55, 12, 0, 0, 0), (55, 58, 39, 28, 0, 0), (58, 59, 2, 1, 0, 0), (59, 60, 0, 0, 0, 1), (60, 61, 9, 0, 0, 0), (61, 62, 42, 0, 0, 0)])
def M21 : Mth := (21, 7, 2, 1, 2, [(0, 1, 2, 1, 0, 0), (1, 4, 18, 2, 28, 0), (4, 5, 2, 1, 0, 0), (5, 6, 4, 0, 0, 0), (6, 9, 24, 7, 1, 0), (9, 12, 19, 3, 28, 0), (12, 13, 2, 1, 0, 0), (13, 16, 0, 0, 0, 940), (16, 19, 19, 3, 28, 0), (19, 20, 4, 0, 0, 0), (20, 23, 49, 7, 0, 0), (23, 24, 2, 1, 0, 0), (24, 25, 27, 0, 0, 0), (25, 28, 22, 0, 29, 0), (28, 29, 0, 0, 0, -1), (29, 30, 42, 0, 0, 0)])
def M22 : Mth := (22, 7, 1, 2, 1, [(0, 1, 2, 0, 0, 0), (1, 4, 39, 23, 0, 0), (4, 7, 18, 1, 19, 0), (7, 8, 2, 0, 0, 0), (8, 10, 0, 0, 0, 48), (10, 13, 19, 2, 23, 0), (13, 14, 2, 0, 0, 0), (14, 16, 0, 0, 0, 57), (16, 19, 19, 4, 23, 0), (19, 20, 0, 0, 0, 1), (20, 23, 22, 0, 24, 0), (23, 24, 0, 0, 0, 0), (24, 25, 42, 0, 0, 0)])
def M23 : Mth := (23, 7, 1, 2, 1, [(0, 1, 2, 0, 0, 0), (1, 3, 0, 0, 0, 97), (3, 6, 19, 2, 16, 0), (6, 7, 2, 0, 0, 0), (7, 9, 0, 0, 0, 122), (9, 12, 19, 4, 16, 0), (12, 13, 0, 0, 0, 1), (13, 16, 22, 0, 17, 0), (16, 17, 0, 0, 0, 0), (17, 18, 42, 0, 0, 0)])
def M24 : Mth := (24, 7, 2, 1, 3, [(0, 1, 2, 1, 0, 0), (1, 2, 0, 0, 0, 1), (2, 3, 9, 0, 0, 0), (3, 4, 5, 2, 0, 0), (4, 5, 2, 2, 0, 0), (5, 6, 4, 0, 0, 0), (6, 9, 24, 7, 1, 0), (9, 12, 19, 3, 29, 0), (12, 13, 4, 0, 0, 0), (13, 14, 2, 2, 0, 0), (14, 17, 39, 21, 0, 0), (17, 20, 39, 22, 0, 0), (20, 23, 18, 0, 29, 0), (23, 26, 8, 2, 0, 1), (26, 29, 22, 0, 4, 0), (29, 30, 2, 2, 0, 0), (30, 31, 42, 0, 0, 0)])
def M25 : Mth := (25, 7, 3, 0, 10, [(0, 1, 2, 2, 0, 0), (1, 2, 2, 1, 0, 0), (2, 3, 9, 1, 0, 0), (3, 4, 5, 3, 0, 0), (4, 5, 0, 0, 0, 0), (5, 7, 5, 4, 0, 0), (7, 8, 1, 0, 0, 0), (8, 10, 6, 5, 0, 0), (10, 11, 0, 0, 0, 0), (11, 13, 5, 7, 0, 0), (13, 14, 2, 1, 0, 0), (14, 16, 5, 8, 0, 0), (16, 18, 2, 8, 0, 0), (18, 19, 2, 2, 0, 0), (19, 22, 19, 3, 72, 0), (22, 23, 4, 0, 0, 0), (23, 25, 2, 8, 0, 0), (25, 28, 39, 21, 0, 0), (28, 30, 5, 9, 0, 0), (30, 32, 2, 9, 0, 0), (32, 35, 39, 23, 0, 0), (35, 38, 18, 0, 53, 0), (38, 41, 8, 4, 0, 1), (41, 43, 3, 5, 0, 0), (43, 45, 2, 9, 0, 0), (45, 48, 39, 26, 0, 0), (48, 50, 6, 5, 0, 0), (50, 53, 22, 0, 66, 0), (53, 55, 2, 7, 0, 0), (55, 57, 0, 0, 0, 10), (57, 58, 9, 2, 0, 0), (58, 60, 2, 9, 0, 0), (60, 62, 0, 0, 0, 48), (62, 63, 9, 1, 0, 0), (63, 64, 9, 0, 0, 0), (64, 66, 5, 7, 0, 0), (66, 69, 8, 8, 0, 1), (69, 72, 22, 0, 16, 0), (72, 74, 2, 4, 0, 0), (74, 75, 2, 3, 0, 0), (75, 78, 19, 1, 124, 0), (78, 79, 2, 3, 0, 0), (79, 81, 0, 0, 0, 7), (81, 84, 19, 4, 124, 0), (84, 86, 3, 5, 0, 0), (86, 89, 39, 27, 0, 0), (89, 91, 5, 8, 0, 0), (91, 92, 4, 0, 0, 0), (92, 93, 2, 1, 0, 0), (93, 95, 2, 8, 0, 0), (95, 96, 0, 0, 0, -1), (96, 99, 19, 1, 103, 0), (99, 100, 0, 0, 0, 1), (100, 103, 22, 0, 104, 0), (103, 104, 0, 0, 0, 2), (104, 106, 2, 8, 0, 0), (106, 107, 0, 0, 0, -1), (107, 110, 19, 1, 115, 0), (110, 112, 3, 5, 0, 0), (112, 115, 22, 0, 118, 0), (115, 117, 2, 8, 0, 0), (117, 118, 12, 0, 0, 0), (118, 121, 39, 28, 0, 0), (121, 124, 22, 0, 147, 0), (124, 125, 4, 0, 0, 0), (125, 126, 2, 1, 0, 0), (126, 128, 2, 4, 0, 0), (128, 131, 18, 1, 140, 0), (131, 132, 2, 3, 0, 0), (132, 133, 0, 0, 0, 3), (133, 136, 19, 4, 140, 0), (136, 137, 0, 0, 0, 3), (137, 140, 22, 0, 141, 0), (140, 141, 0, 0, 0, 5), (141, 143, 2, 7, 0, 0), (143, 144, 12, 0, 0, 0), (144, 147, 39, 28, 0, 0), (147, 148, 41, 0, 0, 0)])
def M26 : Mth := (26, 11, 2, 3, 3, [(0, 1, 3, 0, 0, 0), (1, 4, 1, 2, 0, 0), (4, 5, 10, 1, 0, 0), (5, 6, 2, 2, 0, 0), (6, 8, 0, 0, 0, 97), (8, 9, 9, 1, 0, 0), (9, 10, 0, 0, 0, 1), (10, 11, 9, 0, 0, 0), (11, 12, 12, 0, 0, 0), (12, 13, 10, 0, 0, 0), (13, 14, 43, 0, 0, 0)])
def M27 : Mth := (27, 7, 1, 1, 4, [(0, 1, 0, 0, 0, 0), (1, 2, 5, 2, 0, 0), (2, 3, 2, 2, 0, 0), (3, 6, 26, 1001, 0, 0), (6, 7, 35, 0, 0, 0), (7, 10, 19, 3, 37, 0), (10, 13, 26, 1001, 0, 0), (13, 14, 2, 2, 0, 0), (14, 15, 30, 0, 0, 0), (15, 16, 7, 3, 0, 0), (16, 17, 4, 3, 0, 0), (17, 20, 21, 0, 31, 0), (20, 21, 4, 3, 0, 0), (21, 24, 47, 0, 0, 0), (24, 25, 3, 0, 0, 0), (25, 26, 11, 0, 0, 0), (26, 29, 18, 1, 31, 0), (29, 30, 2, 2, 0, 0), (30, 31, 42, 0, 0, 0), (31, 34, 8, 2, 0, 1), (34, 37, 22, 0, 2, 0), (37, 38, 0, 0, 0, -1), (38, 39, 42, 0, 0, 0)])
def M28 : Mth := (28, 7, 4, 0, 5, [(0, 1, 4, 0, 0, 0), (1, 4, 24, 7, 5, 0), (4, 7, 18, 2, 57, 0), (7, 8, 4, 0, 0, 0), (8, 11, 24, 7, 5, 0), (11, 14, 0, 0, 0, 940), (14, 17, 19, 4, 57, 0), (17, 18, 4, 0, 0, 0), (18, 21, 49, 7, 7, 0), (21, 22, 4, 0, 0, 0), (22, 25, 24, 7, 5, 0), (25, 26, 2, 1, 0, 0), (26, 27, 31, 0, 0, 0), (27, 28, 4, 0, 0, 0), (28, 31, 49, 7, 8, 0), (31, 32, 4, 0, 0, 0), (32, 35, 24, 7, 5, 0), (35, 36, 2, 2, 0, 0), (36, 37, 31, 0, 0, 0), (37, 38, 4, 0, 0, 0), (38, 41, 49, 7, 9, 0), (41, 42, 4, 0, 0, 0), (42, 45, 24, 7, 5, 0), (45, 46, 3, 3, 0, 0), (46, 47, 32, 0, 0, 0), (47, 48, 4, 0, 0, 0), (48, 49, 15, 0, 0, 0), (49, 52, 24, 7, 5, 0), (52, 53, 0, 0, 0, 1), (53, 54, 9, 0, 0, 0), (54, 57, 25, 7, 5, 0), (57, 58, 41, 0, 0, 0)])
def M29 : Mth := (29, 7, 1, 2, 1, [(0, 1, 2, 0, 0, 0), (1, 3, 0, 0, 0, 59), (3, 6, 19, 0, 36, 0), (6, 7, 2, 0, 0, 0), (7, 9, 0, 0, 0, 60), (9, 12, 19, 0, 36, 0), (12, 13, 2, 0, 0, 0), (13, 15, 0, 0, 0, 61), (15, 18, 19, 0, 36, 0), (18, 19, 2, 0, 0, 0), (19, 21, 0, 0, 0, 62), (21, 24, 19, 0, 36, 0), (24, 25, 2, 0, 0, 0), (25, 27, 0, 0, 0, 40), (27, 30, 19, 0, 36, 0), (30, 31, 2, 0, 0, 0), (31, 33, 0, 0, 0, 41), (33, 36, 19, 1, 40, 0), (36, 37, 0, 0, 0, 1), (37, 40, 22, 0, 41, 0), (40, 41, 0, 0, 0, 0), (41, 42, 42, 0, 0, 0)])
def M30 : Mth := (30, 7, 1, 2, 1, [(0, 1, 4, 0, 0, 0), (1, 2, 0, 0, 0, 0), (2, 5, 39, 31, 0, 0), (5, 6, 42, 0, 0, 0)])
def M31 : Mth := (31, 7, 2, 2, 2, [(0, 1, 4, 0, 0, 0), (1, 4, 24, 7, 6, 0), (4, 7, 18, 2, 34, 0), (7, 8, 4, 0, 0, 0), (8, 11, 24, 7, 6, 0), (11, 14, 0, 0, 0, 940), (14, 17, 19, 4, 34, 0), (17, 18, 4, 0, 0, 0), (18, 21, 49, 7, 8, 0), (21, 22, 4, 0, 0, 0), (22, 25, 24, 7, 6, 0), (25, 26, 27, 0, 0, 0), (26, 27, 2, 1, 0, 0), (27, 30, 19, 1, 34, 0), (30, 31, 0, 0, 0, 1), (31, 34, 22, 0, 35, 0), (34, 35, 0, 0, 0, 0), (35, 36, 42, 0, 0, 0)])
def M32 : Mth := (32, 2, 2, 2, 3, [(0, 1, 4, 0, 0, 0), (1, 4, 49, 2, 0, 0), (4, 7, 39, 33, 0, 0), (7, 8, 7, 2, 0, 0), (8, 9, 4, 2, 0, 0), (9, 12, 26, 1010, 0, 0), (12, 15, 20, 1, 21, 0), (15, 16, 4, 0, 0, 0), (16, 17, 4, 1, 0, 0), (17, 20, 39, 35, 0, 0), (20, 21, 42, 0, 0, 0), (21, 22, 4, 2, 0, 0), (22, 25, 26, 1011, 0, 0), (25, 28, 20, 1, 34, 0), (28, 29, 4, 0, 0, 0), (29, 30, 4, 1, 0, 0), (30, 33, 39, 40, 0, 0), (33, 34, 42, 0, 0, 0), (34, 35, 4, 2, 0, 0), (35, 38, 26, 1012, 0, 0), (38, 41, 20, 1, 47, 0), (41, 42, 4, 0, 0, 0), (42, 43, 4, 1, 0, 0), (43, 46, 39, 45, 0, 0), (46, 47, 42, 0, 0, 0), (47, 48, 4, 2, 0, 0), (48, 51, 26, 1013, 0, 0), (51, 54, 20, 1, 60, 0), (54, 55, 4, 0, 0, 0), (55, 56, 4, 1, 0, 0), (56, 59, 39, 47, 0, 0), (59, 60, 42, 0, 0, 0), (60, 61, 4, 2, 0, 0), (61, 64, 26, 1014, 0, 0), (64, 67, 20, 1, 73, 0), (67, 68, 4, 0, 0, 0), (68, 69, 4, 1, 0, 0), (69, 72, 39, 49, 0, 0), (72, 73, 42, 0, 0, 0), (73, 74, 4, 2, 0, 0), (74, 77, 26, 1015, 0, 0), (77, 80, 20, 1, 88, 0), (80, 81, 4, 0, 0, 0), (81, 82, 4, 1, 0, 0), (82, 85, 39, 57, 0, 0), (85, 88, 22, 0, 96, 0), (88, 89, 4, 0, 0, 0), (89, 92, 49, 2, 0, 0), (92, 93, 0, 0, 0, 1), (93, 96, 39, 36, 0, 0), (96, 97, 42, 0, 0, 0)])
def M33 : Mth := (33, 7, 1, 4, 2, [(0, 1, 4, 0, 0, 0), (1, 2, 0, 0, 0, 2), (2, 5, 39, 31, 0, 0), (5, 8, 18, 0, 16, 0), (8, 9, 4, 0, 0, 0), (9, 12, 39, 34, 0, 0), (12, 13, 13, 0, 0, 0), (13, 16, 22, 0, 17, 0), (16, 17, 0, 0, 0, -1), (17, 18, 5, 1, 0, 0), (18, 19, 2, 1, 0, 0), (19, 22, 18, 2, 38, 0), (22, 23, 2, 1, 0, 0), (23, 26, 26, 1001, 0, 0), (26, 27, 35, 0, 0, 0), (27, 30, 19, 3, 38, 0), (30, 33, 26, 1001, 0, 0), (33, 34, 2, 1, 0, 0), (34, 35, 30, 0, 0, 0), (35, 38, 22, 0, 39, 0), (38, 39, 45, 0, 0, 0), (39, 40, 44, 0, 0, 0)])
def M34 : Mth := (34, 7, 1, 3, 1, [(0, 1, 4, 0, 0, 0), (1, 4, 24, 7, 6, 0), (4, 7, 18, 2, 29, 0), (7, 8, 4, 0, 0, 0), (8, 11, 24, 7, 6, 0), (11, 14, 0, 0, 0, 940), (14, 17, 19, 4, 29, 0), (17, 18, 4, 0, 0, 0), (18, 21, 49, 7, 9, 0), (21, 22, 4, 0, 0, 0), (22, 25, 24, 7, 6, 0), (25, 26, 28, 0, 0, 0), (26, 29, 22, 0, 30, 0), (29, 30, 1, 0, 0, 0), (30, 31, 43, 0, 0, 0)])
def M35 : Mth := (35, 2, 2, 2, 4, [(0, 1, 4, 1, 0, 0), (1, 4, 24, 1, 0, 0), (4, 7, 18, 5, 16, 0), (7, 8, 4, 0, 0, 0), (8, 11, 49, 2, 0, 0), (11, 12, 0, 0, 0, 3), (12, 15, 39, 36, 0, 0), (15, 16, 42, 0, 0, 0), (16, 17, 4, 0, 0, 0), (17, 20, 49, 2, 0, 0), (20, 23, 39, 37, 0, 0), (23, 24, 4, 0, 0, 0), (24, 27, 49, 2, 0, 0), (27, 28, 0, 0, 0, 2), (28, 30, 0, 0, 0, 12), (30, 33, 39, 38, 0, 0), (33, 34, 5, 2, 0, 0), (34, 35, 2, 2, 0, 0), (35, 36, 0, 0, 0, -1), (36, 39, 19, 1, 41, 0), (39, 40, 0, 0, 0, 0), (40, 41, 42, 0, 0, 0), (41, 42, 4, 0, 0, 0), (42, 45, 49, 2, 0, 0), (45, 46, 0, 0, 0, 2), (46, 48, 0, 0, 0, 12), (48, 51, 39, 38, 0, 0), (51, 52, 5, 3, 0, 0), (52, 53, 2, 3, 0, 0), (53, 54, 0, 0, 0, -1), (54, 57, 19, 1, 59, 0), (57, 58, 0, 0, 0, 0), (58, 59, 42, 0, 0, 0), (59, 60, 4, 1, 0, 0), (60, 61, 2, 2, 0, 0), (61, 64, 25, 1, 0, 0), (64, 65, 4, 1, 0, 0), (65, 66, 2, 3, 0, 0), (66, 69, 25, 1, 1, 0), (69, 70, 0, 0, 0, 1), (70, 71, 42, 0, 0, 0)])
def M36 : Mth := (36, 7, 2, 2, 2, [(0, 1, 4, 0, 0, 0), (1, 2, 2, 1, 0, 0), (2, 5, 25, 7, 2, 0), (5, 6, 4, 0, 0, 0), (6, 7, 4, 0, 0, 0), (7, 10, 24, 7, 6, 0), (10, 13, 18, 2, 35, 0), (13, 14, 4, 0, 0, 0), (14, 17, 24, 7, 6, 0), (17, 20, 0, 0, 0, 940), (20, 23, 19, 4, 35, 0), (23, 24, 4, 0, 0, 0), (24, 27, 49, 7, 7, 0), (27, 28, 4, 0, 0, 0), (28, 31, 24, 7, 6, 0), (31, 32, 27, 0, 0, 0), (32, 35, 22, 0, 36, 0), (35, 36, 0, 0, 0, 0), (36, 39, 25, 7, 3, 0), (39, 40, 0, 0, 0, 0), (40, 41, 42, 0, 0, 0)])
def M37 : Mth := (37, 7, 1, 0, 1, [(0, 1, 4, 0, 0, 0), (1, 4, 24, 7, 6, 0), (4, 5, 4, 0, 0, 0), (5, 8, 24, 7, 5, 0), (8, 9, 0, 0, 0, 1), (9, 10, 9, 1, 0, 0), (10, 13, 19, 3, 23, 0), (13, 14, 4, 0, 0, 0), (14, 15, 15, 0, 0, 0), (15, 18, 24, 7, 6, 0), (18, 19, 0, 0, 0, 1), (19, 20, 9, 0, 0, 0), (20, 23, 25, 7, 6, 0), (23, 24, 41, 0, 0, 0)])
def M38 : Mth := (38, 7, 3, 1, 4, [(0, 1, 4, 0, 0, 0), (1, 2, 2, 1, 0, 0), (2, 3, 2, 2, 0, 0), (3, 6, 39, 39, 0, 0), (6, 7, 5, 3, 0, 0), (7, 8, 2, 3, 0, 0), (8, 9, 0, 0, 0, -1), (9, 12, 19, 0, 16, 0), (12, 13, 4, 0, 0, 0), (13, 16, 39, 37, 0, 0), (16, 17, 2, 3, 0, 0), (17, 18, 42, 0, 0, 0)])
def M39 : Mth := (39, 7, 3, 1, 4, [(0, 1, 4, 0, 0, 0), (1, 2, 0, 0, 0, 3), (2, 5, 39, 31, 0, 0), (5, 8, 18, 0, 16, 0), (8, 9, 4, 0, 0, 0), (9, 12, 39, 34, 0, 0), (12, 13, 13, 0, 0, 0), (13, 16, 22, 0, 17, 0), (16, 17, 0, 0, 0, -1), (17, 18, 5, 3, 0, 0), (18, 19, 2, 3, 0, 0), (19, 20, 2, 1, 0, 0), (20, 23, 19, 2, 28, 0), (23, 24, 2, 3, 0, 0), (24, 25, 2, 2, 0, 0), (25, 28, 19, 5, 45, 0), (28, 29, 4, 0, 0, 0), (29, 30, 2, 3, 0, 0), (30, 31, 0, 0, 0, -1), (31, 34, 19, 1, 38, 0), (34, 35, 0, 0, 0, 1), (35, 38, 22, 0, 39, 0), (38, 39, 0, 0, 0, 2), (39, 42, 39, 36, 0, 0), (42, 43, 16, 0, 0, 0), (43, 44, 0, 0, 0, -1), (44, 45, 42, 0, 0, 0), (45, 46, 2, 3, 0, 0), (46, 47, 42, 0, 0, 0)])
def M40 : Mth := (40, 2, 2, 2, 3, [(0, 1, 4, 1, 0, 0), (1, 4, 24, 1, 3, 0), (4, 5, 5, 2, 0, 0), (5, 6, 2, 2, 0, 0), (6, 9, 18, 2, 15, 0), (9, 10, 2, 2, 0, 0), (10, 12, 0, 0, 0, 6), (12, 15, 19, 2, 24, 0), (15, 16, 4, 0, 0, 0), (16, 19, 49, 2, 0, 0), (19, 20, 0, 0, 0, 4), (20, 23, 39, 36, 0, 0), (23, 24, 42, 0, 0, 0), (24, 25, 4, 0, 0, 0), (25, 28, 49, 2, 0, 0), (28, 31, 39, 37, 0, 0), (31, 32, 4, 1, 0, 0), (32, 35, 49, 1, 10, 0), (35, 36, 2, 2, 0, 0), (36, 37, 4, 0, 0, 0), (37, 38, 4, 1, 0, 0), (38, 41, 39, 41, 0, 0), (41, 42, 32, 0, 0, 0), (42, 43, 4, 1, 0, 0), (43, 46, 49, 1, 10, 0), (46, 47, 2, 2, 0, 0), (47, 48, 28, 0, 0, 0), (48, 51, 1, 3, 0, 0), (51, 52, 11, 0, 0, 0), (52, 55, 18, 1, 57, 0), (55, 56, 0, 0, 0, 0), (56, 57, 42, 0, 0, 0), (57, 58, 4, 1, 0, 0), (58, 61, 49, 1, 7, 0), (61, 62, 2, 2, 0, 0), (62, 63, 4, 0, 0, 0), (63, 66, 49, 2, 0, 0), (66, 67, 0, 0, 0, 1), (67, 69, 0, 0, 0, 9), (69, 72, 39, 38, 0, 0), (72, 73, 31, 0, 0, 0), (73, 74, 4, 1, 0, 0), (74, 77, 49, 1, 7, 0), (77, 78, 2, 2, 0, 0), (78, 79, 27, 0, 0, 0), (79, 80, 0, 0, 0, -1), (80, 83, 19, 1, 85, 0), (83, 84, 0, 0, 0, 0), (84, 85, 42, 0, 0, 0), (85, 86, 4, 1, 0, 0), (86, 89, 49, 1, 8, 0), (89, 90, 2, 2, 0, 0), (90, 91, 4, 0, 0, 0), (91, 94, 49, 2, 0, 0), (94, 95, 0, 0, 0, 0), (95, 97, 0, 0, 0, 9), (97, 100, 39, 38, 0, 0), (100, 101, 31, 0, 0, 0), (101, 102, 4, 1, 0, 0), (102, 105, 49, 1, 8, 0), (105, 106, 2, 2, 0, 0), (106, 107, 27, 0, 0, 0), (107, 108, 0, 0, 0, -1), (108, 111, 19, 1, 113, 0), (111, 112, 0, 0, 0, 0), (112, 113, 42, 0, 0, 0), (113, 114, 4, 1, 0, 0), (114, 117, 49, 1, 9, 0), (117, 118, 2, 2, 0, 0), (118, 119, 4, 0, 0, 0), (119, 122, 49, 2, 0, 0), (122, 123, 0, 0, 0, 1), (123, 125, 0, 0, 0, 9), (125, 128, 39, 38, 0, 0), (128, 129, 31, 0, 0, 0), (129, 130, 4, 1, 0, 0), (130, 133, 49, 1, 9, 0), (133, 134, 2, 2, 0, 0), (134, 135, 27, 0, 0, 0), (135, 136, 0, 0, 0, -1), (136, 139, 19, 1, 141, 0), (139, 140, 0, 0, 0, 0), (140, 141, 42, 0, 0, 0), (141, 142, 4, 1, 0, 0), (142, 143, 15, 0, 0, 0), (143, 146, 24, 1, 3, 0), (146, 147, 0, 0, 0, 1), (147, 148, 9, 0, 0, 0), (148, 151, 25, 1, 3, 0), (151, 152, 0, 0, 0, 1), (152, 153, 42, 0, 0, 0)])
def M41 : Mth := (41, 2, 2, 3, 4, [(0, 1, 4, 0, 0, 0), (1, 4, 49, 2, 0, 0), (4, 7, 39, 42, 0, 0), (7, 8, 6, 2, 0, 0), (8, 9, 3, 2, 0, 0), (9, 12, 1, 3, 0, 0), (12, 13, 11, 0, 0, 0), (13, 16, 18, 1, 20, 0), (16, 19, 1, 3, 0, 0), (19, 20, 43, 0, 0, 0), (20, 21, 4, 1, 0, 0), (21, 22, 3, 2, 0, 0), (22, 25, 39, 43, 0, 0), (25, 26, 0, 0, 0, -1), (26, 29, 19, 1, 38, 0), (29, 30, 4, 1, 0, 0), (30, 31, 3, 2, 0, 0), (31, 34, 39, 44, 0, 0), (34, 35, 0, 0, 0, -1), (35, 38, 19, 0, 51, 0), (38, 39, 4, 0, 0, 0), (39, 42, 49, 2, 0, 0), (42, 43, 0, 0, 0, 3), (43, 46, 39, 36, 0, 0), (46, 47, 16, 0, 0, 0), (47, 50, 1, 3, 0, 0), (50, 51, 43, 0, 0, 0), (51, 52, 4, 0, 0, 0), (52, 55, 49, 2, 0, 0), (55, 58, 39, 37, 0, 0), (58, 59, 3, 2, 0, 0), (59, 60, 43, 0, 0, 0)])
def M42 : Mth := (42, 7, 1, 3, 1, [(0, 1, 4, 0, 0, 0), (1, 2, 0, 0, 0, 1), (2, 5, 39, 31, 0, 0), (5, 8, 18, 0, 13, 0), (8, 9, 4, 0, 0, 0), (9, 12, 39, 34, 0, 0), (12, 13, 43, 0, 0, 0), (13, 14, 4, 0, 0, 0), (14, 15, 0, 0, 0, 1), (15, 18, 39, 36, 0, 0), (18, 19, 16, 0, 0, 0), (19, 22, 1, 3, 0, 0), (22, 23, 43, 0, 0, 0)])
def M43 : Mth := (43, 1, 2, 1, 4, [(0, 1, 0, 0, 0, 0), (1, 2, 5, 3, 0, 0), (2, 3, 2, 3, 0, 0), (3, 4, 4, 0, 0, 0), (4, 7, 24, 1, 3, 0), (7, 10, 19, 3, 35, 0), (10, 11, 2, 3, 0, 0), (11, 13, 0, 0, 0, 6), (13, 16, 19, 3, 35, 0), (16, 17, 4, 0, 0, 0), (17, 20, 49, 1, 10, 0), (20, 21, 2, 3, 0, 0), (21, 22, 28, 0, 0, 0), (22, 23, 3, 1, 0, 0), (23, 24, 11, 0, 0, 0), (24, 27, 18, 1, 29, 0), (27, 28, 2, 3, 0, 0), (28, 29, 42, 0, 0, 0), (29, 32, 8, 3, 0, 1), (32, 35, 22, 0, 2, 0), (35, 36, 0, 0, 0, -1), (36, 37, 42, 0, 0, 0)])
def M44 : Mth := (44, 1, 2, 1, 4, [(0, 1, 0, 0, 0, 0), (1, 2, 5, 3, 0, 0), (2, 3, 2, 3, 0, 0), (3, 4, 4, 0, 0, 0), (4, 7, 24, 1, 4, 0), (7, 10, 19, 3, 35, 0), (10, 11, 2, 3, 0, 0), (11, 13, 0, 0, 0, 6), (13, 16, 19, 3, 35, 0), (16, 17, 4, 0, 0, 0), (17, 20, 49, 1, 11, 0), (20, 21, 2, 3, 0, 0), (21, 22, 28, 0, 0, 0), (22, 23, 3, 1, 0, 0), (23, 24, 11, 0, 0, 0), (24, 27, 18, 1, 29, 0), (27, 28, 2, 3, 0, 0), (28, 29, 42, 0, 0, 0), (29, 32, 8, 3, 0, 1), (32, 35, 22, 0, 2, 0), (35, 36, 0, 0, 0, -1), (36, 37, 42, 0, 0, 0)])
def M45 : Mth := (45, 2, 2, 2, 3, [(0, 1, 4, 1, 0, 0), (1, 4, 24, 1, 5, 0), (4, 6, 0, 0, 0, 30), (6, 9, 19, 2, 18, 0), (9, 10, 4, 0, 0, 0), (10, 13, 49, 2, 0, 0), (13, 14, 0, 0, 0, 4), (14, 17, 39, 36, 0, 0), (17, 18, 42, 0, 0, 0), (18, 19, 4, 0, 0, 0), (19, 22, 49, 2, 0, 0), (22, 25, 39, 37, 0, 0), (25, 26, 4, 0, 0, 0), (26, 27, 4, 1, 0, 0), (27, 30, 39, 46, 0, 0), (30, 31, 5, 2, 0, 0), (31, 32, 2, 2, 0, 0), (32, 35, 18, 2, 42, 0), (35, 36, 2, 2, 0, 0), (36, 39, 0, 0, 0, 144), (39, 42, 19, 2, 44, 0), (42, 43, 0, 0, 0, 0), (43, 44, 42, 0, 0, 0), (44, 45, 4, 1, 0, 0), (45, 48, 49, 1, 14, 0), (48, 49, 2, 2, 0, 0), (49, 50, 29, 0, 0, 0), (50, 53, 18, 0, 62, 0), (53, 54, 4, 0, 0, 0), (54, 57, 49, 2, 0, 0), (57, 58, 0, 0, 0, 3), (58, 61, 39, 36, 0, 0), (61, 62, 42, 0, 0, 0), (62, 63, 4, 1, 0, 0), (63, 66, 49, 1, 14, 0), (66, 67, 2, 2, 0, 0), (67, 68, 0, 0, 0, 1), (68, 69, 33, 0, 0, 0), (69, 70, 4, 1, 0, 0), (70, 71, 15, 0, 0, 0), (71, 74, 24, 1, 5, 0), (74, 75, 0, 0, 0, 1), (75, 76, 9, 0, 0, 0), (76, 79, 25, 1, 5, 0), (79, 80, 4, 0, 0, 0), (80, 83, 49, 2, 0, 0), (83, 86, 39, 37, 0, 0), (86, 87, 0, 0, 0, 1), (87, 88, 42, 0, 0, 0)])
def M46 : Mth := (46, 2, 2, 1, 4, [(0, 1, 4, 0, 0, 0), (1, 4, 49, 2, 0, 0), (4, 5, 0, 0, 0, 0), (5, 6, 4, 1, 0, 0), (6, 9, 24, 1, 0, 0), (9, 10, 0, 0, 0, 1), (10, 11, 9, 1, 0, 0), (11, 14, 39, 38, 0, 0), (14, 15, 5, 2, 0, 0), (15, 16, 2, 2, 0, 0), (16, 17, 0, 0, 0, -1), (17, 20, 19, 1, 22, 0), (20, 21, 0, 0, 0, -1), (21, 22, 42, 0, 0, 0), (22, 23, 4, 0, 0, 0), (23, 26, 49, 2, 0, 0), (26, 27, 0, 0, 0, 0), (27, 28, 4, 1, 0, 0), (28, 31, 24, 1, 1, 0), (31, 32, 0, 0, 0, 1), (32, 33, 9, 1, 0, 0), (33, 36, 39, 39, 0, 0), (36, 37, 5, 3, 0, 0), (37, 38, 2, 3, 0, 0), (38, 39, 0, 0, 0, -1), (39, 42, 19, 1, 46, 0), (42, 43, 0, 0, 0, -1), (43, 46, 22, 0, 52, 0), (46, 47, 2, 3, 0, 0), (47, 49, 0, 0, 0, 12), (49, 50, 9, 2, 0, 0), (50, 51, 2, 2, 0, 0), (51, 52, 9, 0, 0, 0), (52, 53, 42, 0, 0, 0)])
def M47 : Mth := (47, 2, 2, 2, 4, [(0, 1, 4, 1, 0, 0), (1, 4, 24, 1, 6, 0), (4, 5, 5, 2, 0, 0), (5, 6, 2, 2, 0, 0), (6, 9, 18, 2, 15, 0), (9, 10, 2, 2, 0, 0), (10, 12, 0, 0, 0, 8), (12, 15, 19, 2, 24, 0), (15, 16, 4, 0, 0, 0), (16, 19, 49, 2, 0, 0), (19, 20, 0, 0, 0, 4), (20, 23, 39, 36, 0, 0), (23, 24, 42, 0, 0, 0), (24, 25, 4, 0, 0, 0), (25, 28, 49, 2, 0, 0), (28, 31, 39, 37, 0, 0), (31, 32, 4, 0, 0, 0), (32, 33, 4, 1, 0, 0), (33, 36, 39, 46, 0, 0), (36, 37, 5, 3, 0, 0), (37, 38, 2, 3, 0, 0), (38, 39, 0, 0, 0, -1), (39, 42, 19, 1, 44, 0), (42, 43, 0, 0, 0, 0), (43, 44, 42, 0, 0, 0), (44, 45, 4, 1, 0, 0), (45, 46, 2, 3, 0, 0), (46, 49, 39, 48, 0, 0), (49, 52, 18, 0, 61, 0), (52, 53, 4, 0, 0, 0), (53, 56, 49, 2, 0, 0), (56, 57, 0, 0, 0, 3), (57, 60, 39, 36, 0, 0), (60, 61, 42, 0, 0, 0), (61, 62, 4, 1, 0, 0), (62, 65, 49, 1, 15, 0), (65, 66, 2, 2, 0, 0), (66, 67, 2, 3, 0, 0), (67, 68, 31, 0, 0, 0), (68, 69, 4, 1, 0, 0), (69, 70, 15, 0, 0, 0), (70, 73, 24, 1, 6, 0), (73, 74, 0, 0, 0, 1), (74, 75, 9, 0, 0, 0), (75, 78, 25, 1, 6, 0), (78, 79, 4, 0, 0, 0), (79, 82, 49, 2, 0, 0), (82, 85, 39, 37, 0, 0), (85, 86, 0, 0, 0, 1), (86, 87, 42, 0, 0, 0)])
def M48 : Mth := (48, 1, 2, 2, 3, [(0, 1, 0, 0, 0, 0), (1, 2, 5, 2, 0, 0), (2, 3, 2, 2, 0, 0), (3, 4, 4, 0, 0, 0), (4, 7, 24, 1, 6, 0), (7, 10, 19, 3, 34, 0), (10, 11, 2, 2, 0, 0), (11, 13, 0, 0, 0, 8), (13, 16, 19, 3, 34, 0), (16, 17, 4, 0, 0, 0), (17, 20, 49, 1, 15, 0), (20, 21, 2, 2, 0, 0), (21, 22, 27, 0, 0, 0), (22, 23, 2, 1, 0, 0), (23, 26, 19, 1, 28, 0), (26, 27, 0, 0, 0, 1), (27, 28, 42, 0, 0, 0), (28, 31, 8, 2, 0, 1), (31, 34, 22, 0, 2, 0), (34, 35, 0, 0, 0, 0), (35, 36, 42, 0, 0, 0)])
def M49 : Mth := (49, 2, 2, 2, 4, [(0, 1, 4, 1, 0, 0), (1, 4, 24, 1, 4, 0), (4, 5, 5, 2, 0, 0), (5, 6, 2, 2, 0, 0), (6, 9, 18, 2, 15, 0), (9, 10, 2, 2, 0, 0), (10, 12, 0, 0, 0, 6), (12, 15, 19, 2, 24, 0), (15, 16, 4, 0, 0, 0), (16, 19, 49, 2, 0, 0), (19, 20, 0, 0, 0, 4), (20, 23, 39, 36, 0, 0), (23, 24, 42, 0, 0, 0), (24, 25, 4, 0, 0, 0), (25, 28, 49, 2, 0, 0), (28, 31, 39, 37, 0, 0), (31, 32, 4, 1, 0, 0), (32, 35, 49, 1, 11, 0), (35, 36, 2, 2, 0, 0), (36, 37, 4, 0, 0, 0), (37, 38, 4, 1, 0, 0), (38, 41, 39, 41, 0, 0), (41, 42, 32, 0, 0, 0), (42, 43, 4, 1, 0, 0), (43, 46, 49, 1, 11, 0), (46, 47, 2, 2, 0, 0), (47, 48, 28, 0, 0, 0), (48, 51, 1, 3, 0, 0), (51, 52, 11, 0, 0, 0), (52, 55, 18, 1, 57, 0), (55, 56, 0, 0, 0, 0), (56, 57, 42, 0, 0, 0), (57, 58, 4, 0, 0, 0), (58, 59, 4, 1, 0, 0), (59, 62, 39, 46, 0, 0), (62, 63, 5, 3, 0, 0), (63, 64, 2, 3, 0, 0), (64, 65, 0, 0, 0, -1), (65, 68, 19, 1, 70, 0), (68, 69, 0, 0, 0, 0), (69, 70, 42, 0, 0, 0), (70, 71, 4, 1, 0, 0), (71, 72, 2, 3, 0, 0), (72, 75, 39, 50, 0, 0), (75, 78, 18, 0, 87, 0), (78, 79, 4, 0, 0, 0), (79, 82, 49, 2, 0, 0), (82, 83, 0, 0, 0, 5), (83, 86, 39, 36, 0, 0), (86, 87, 42, 0, 0, 0), (87, 88, 4, 0, 0, 0), (88, 91, 49, 2, 0, 0), (91, 94, 39, 37, 0, 0), (94, 95, 4, 1, 0, 0), (95, 98, 49, 1, 12, 0), (98, 99, 2, 2, 0, 0), (99, 100, 0, 0, 0, 0), (100, 101, 31, 0, 0, 0), (101, 102, 4, 1, 0, 0), (102, 103, 2, 2, 0, 0), (103, 104, 2, 3, 0, 0), (104, 107, 39, 51, 0, 0), (107, 108, 4, 0, 0, 0), (108, 109, 4, 1, 0, 0), (109, 110, 2, 2, 0, 0), (110, 111, 2, 3, 0, 0), (111, 114, 39, 52, 0, 0), (114, 117, 18, 1, 119, 0), (117, 118, 0, 0, 0, 0), (118, 119, 42, 0, 0, 0), (119, 120, 4, 1, 0, 0), (120, 121, 15, 0, 0, 0), (121, 124, 24, 1, 4, 0), (124, 125, 0, 0, 0, 1), (125, 126, 9, 0, 0, 0), (126, 129, 25, 1, 4, 0), (129, 130, 0, 0, 0, 1), (130, 131, 42, 0, 0, 0)])
def M50 : Mth := (50, 1, 2, 2, 2, [(0, 1, 2, 1, 0, 0), (1, 4, 18, 2, 24, 0), (4, 5, 2, 1, 0, 0), (5, 8, 0, 0, 0, 144), (8, 11, 19, 3, 24, 0), (11, 12, 4, 0, 0, 0), (12, 15, 49, 1, 14, 0), (15, 16, 2, 1, 0, 0), (16, 17, 29, 0, 0, 0), (17, 20, 18, 0, 24, 0), (20, 21, 0, 0, 0, 1), (21, 24, 22, 0, 25, 0), (24, 25, 0, 0, 0, 0), (25, 26, 42, 0, 0, 0)])
def M51 : Mth := (51, 1, 3, 0, 3, [(0, 1, 2, 1, 0, 0), (1, 4, 18, 2, 57, 0), (4, 5, 2, 1, 0, 0), (5, 7, 0, 0, 0, 6), (7, 10, 19, 3, 57, 0), (10, 11, 4, 0, 0, 0), (11, 14, 49, 1, 12, 0), (14, 15, 2, 1, 0, 0), (15, 16, 27, 0, 0, 0), (16, 19, 18, 2, 57, 0), (19, 20, 4, 0, 0, 0), (20, 23, 49, 1, 12, 0), (23, 24, 2, 1, 0, 0), (24, 25, 27, 0, 0, 0), (25, 27, 0, 0, 0, 41), (27, 30, 19, 3, 57, 0), (30, 31, 4, 0, 0, 0), (31, 34, 49, 1, 13, 0), (34, 35, 2, 1, 0, 0), (35, 37, 0, 0, 0, 41), (37, 38, 9, 2, 0, 0), (38, 39, 4, 0, 0, 0), (39, 42, 49, 1, 12, 0), (42, 43, 2, 1, 0, 0), (43, 44, 27, 0, 0, 0), (44, 45, 9, 0, 0, 0), (45, 46, 2, 2, 0, 0), (46, 47, 31, 0, 0, 0), (47, 48, 4, 0, 0, 0), (48, 51, 49, 1, 12, 0), (51, 52, 2, 1, 0, 0), (52, 53, 17, 0, 0, 0), (53, 54, 27, 0, 0, 0), (54, 55, 0, 0, 0, 1), (55, 56, 9, 0, 0, 0), (56, 57, 31, 0, 0, 0), (57, 58, 41, 0, 0, 0)])
def M52 : Mth := (52, 2, 4, 2, 10, [(0, 1, 2, 3, 0, 0), (1, 3, 5, 4, 0, 0), (3, 4, 0, 0, 0, 0), (4, 6, 5, 5, 0, 0), (6, 7, 0, 0, 0, 0), (7, 9, 5, 6, 0, 0), (9, 11, 2, 6, 0, 0), (11, 13, 0, 0, 0, 40), (13, 16, 19, 4, 155, 0), (16, 17, 4, 0, 0, 0), (17, 20, 49, 2, 0, 0), (20, 23, 39, 53, 0, 0), (23, 24, 0, 0, 0, -1), (24, 27, 19, 0, 155, 0), (27, 28, 4, 0, 0, 0), (28, 31, 49, 2, 0, 0), (31, 34, 39, 53, 0, 0), (34, 36, 5, 7, 0, 0), (36, 37, 4, 0, 0, 0), (37, 40, 49, 2, 0, 0), (40, 43, 39, 37, 0, 0), (43, 44, 4, 0, 0, 0), (44, 47, 49, 2, 0, 0), (47, 48, 0, 0, 0, 1), (48, 50, 0, 0, 0, 11), (50, 53, 39, 39, 0, 0), (53, 55, 5, 8, 0, 0), (55, 57, 2, 8, 0, 0), (57, 58, 0, 0, 0, -1), (58, 61, 19, 1, 63, 0), (61, 62, 0, 0, 0, 0), (62, 63, 42, 0, 0, 0), (63, 65, 2, 5, 0, 0), (65, 67, 2, 8, 0, 0), (67, 68, 9, 0, 0, 0), (68, 70, 5, 5, 0, 0), (70, 72, 2, 5, 0, 0), (72, 74, 0, 0, 0, 40), (74, 77, 19, 5, 86, 0), (77, 78, 4, 0, 0, 0), (78, 81, 49, 2, 0, 0), (81, 82, 0, 0, 0, 4), (82, 85, 39, 36, 0, 0), (85, 86, 42, 0, 0, 0), (86, 87, 4, 1, 0, 0), (87, 89, 2, 4, 0, 0), (89, 91, 2, 7, 0, 0), (91, 93, 2, 8, 0, 0), (93, 96, 39, 54, 0, 0), (96, 97, 0, 0, 0, -1), (97, 100, 19, 1, 109, 0), (100, 101, 4, 0, 0, 0), (101, 104, 49, 2, 0, 0), (104, 105, 0, 0, 0, 5), (105, 108, 39, 36, 0, 0), (108, 109, 42, 0, 0, 0), (109, 110, 0, 0, 0, 0), (110, 112, 5, 9, 0, 0), (112, 114, 2, 9, 0, 0), (114, 116, 2, 8, 0, 0), (116, 119, 19, 3, 142, 0), (119, 120, 4, 1, 0, 0), (120, 122, 2, 4, 0, 0), (122, 124, 2, 7, 0, 0), (124, 127, 39, 55, 0, 0), (127, 129, 5, 4, 0, 0), (129, 130, 4, 1, 0, 0), (130, 131, 2, 2, 0, 0), (131, 133, 2, 4, 0, 0), (133, 136, 39, 51, 0, 0), (136, 139, 8, 9, 0, 1), (139, 142, 22, 0, 112, 0), (142, 143, 4, 0, 0, 0), (143, 146, 49, 2, 0, 0), (146, 149, 39, 37, 0, 0), (149, 152, 8, 6, 0, 1), (152, 155, 22, 0, 9, 0), (155, 156, 0, 0, 0, 1), (156, 157, 42, 0, 0, 0)])
def M53 : Mth := (53, 7, 1, 1, 2, [(0, 1, 4, 0, 0, 0), (1, 4, 39, 33, 0, 0), (4, 5, 7, 1, 0, 0), (5, 6, 4, 1, 0, 0), (6, 9, 21, 1, 13, 0), (9, 10, 0, 0, 0, -1), (10, 13, 22, 0, 17, 0), (13, 14, 4, 1, 0, 0), (14, 17, 47, 1, 0, 0), (17, 18, 42, 0, 0, 0)])
def M54 : Mth := (54, 1, 4, 1, 6, [(0, 1, 2, 1, 0, 0), (1, 3, 5, 4, 0, 0), (3, 4, 0, 0, 0, 0), (4, 6, 5, 5, 0, 0), (6, 8, 2, 5, 0, 0), (8, 9, 2, 3, 0, 0), (9, 12, 19, 3, 45, 0), (12, 14, 2, 4, 0, 0), (14, 15, 0, 0, 0, -1), (15, 18, 19, 0, 45, 0), (18, 19, 4, 0, 0, 0), (19, 21, 2, 4, 0, 0), (21, 22, 2, 2, 0, 0), (22, 25, 39, 55, 0, 0), (25, 27, 5, 4, 0, 0), (27, 28, 4, 0, 0, 0), (28, 30, 2, 4, 0, 0), (30, 33, 39, 50, 0, 0), (33, 36, 18, 0, 39, 0), (36, 37, 0, 0, 0, -1), (37, 39, 5, 4, 0, 0), (39, 42, 8, 5, 0, 1), (42, 45, 22, 0, 6, 0), (45, 47, 2, 4, 0, 0), (47, 48, 42, 0, 0, 0)])
def M55 : Mth := (55, 1, 3, 1, 5, [(0, 1, 4, 0, 0, 0), (1, 2, 2, 1, 0, 0), (2, 5, 39, 56, 0, 0), (5, 8, 18, 1, 10, 0), (8, 9, 0, 0, 0, -1), (9, 10, 42, 0, 0, 0), (10, 11, 2, 1, 0, 0), (11, 13, 0, 0, 0, 12), (13, 14, 9, 4, 0, 0), (14, 15, 2, 2, 0, 0), (15, 16, 0, 0, 0, 1), (16, 19, 19, 1, 23, 0), (19, 20, 0, 0, 0, 1), (20, 23, 22, 0, 33, 0), (23, 24, 2, 2, 0, 0), (24, 25, 0, 0, 0, 3), (25, 28, 19, 1, 32, 0), (28, 29, 0, 0, 0, -1), (29, 32, 22, 0, 33, 0), (32, 33, 0, 0, 0, 0), (33, 34, 9, 0, 0, 0), (34, 35, 5, 3, 0, 0), (35, 36, 2, 1, 0, 0), (36, 38, 0, 0, 0, 12), (38, 39, 9, 3, 0, 0), (39, 40, 2, 2, 0, 0), (40, 41, 0, 0, 0, 2), (41, 44, 19, 1, 48, 0), (44, 45, 0, 0, 0, 1), (45, 48, 22, 0, 57, 0), (48, 49, 2, 2, 0, 0), (49, 52, 18, 1, 56, 0), (52, 53, 0, 0, 0, -1), (53, 56, 22, 0, 57, 0), (56, 57, 0, 0, 0, 0), (57, 58, 9, 0, 0, 0), (58, 60, 5, 4, 0, 0), (60, 61, 2, 3, 0, 0), (61, 64, 18, 2, 96, 0), (64, 65, 2, 3, 0, 0), (65, 66, 4, 0, 0, 0), (66, 69, 24, 1, 0, 0), (69, 72, 19, 3, 96, 0), (72, 74, 2, 4, 0, 0), (74, 77, 18, 2, 96, 0), (77, 79, 2, 4, 0, 0), (79, 80, 4, 0, 0, 0), (80, 83, 24, 1, 1, 0), (83, 86, 19, 3, 96, 0), (86, 88, 2, 4, 0, 0), (88, 90, 0, 0, 0, 12), (90, 91, 9, 2, 0, 0), (91, 92, 2, 3, 0, 0), (92, 93, 9, 0, 0, 0), (93, 96, 22, 0, 97, 0), (96, 97, 0, 0, 0, -1), (97, 98, 42, 0, 0, 0)])
def M56 : Mth := (56, 1, 2, 2, 2, [(0, 1, 2, 1, 0, 0), (1, 4, 18, 2, 37, 0), (4, 5, 2, 1, 0, 0), (5, 8, 0, 0, 0, 144), (8, 11, 19, 3, 37, 0), (11, 12, 2, 1, 0, 0), (12, 14, 0, 0, 0, 12), (14, 15, 9, 4, 0, 0), (15, 16, 4, 0, 0, 0), (16, 19, 24, 1, 0, 0), (19, 22, 19, 3, 37, 0), (22, 23, 2, 1, 0, 0), (23, 25, 0, 0, 0, 12), (25, 26, 9, 3, 0, 0), (26, 27, 4, 0, 0, 0), (27, 30, 24, 1, 1, 0), (30, 33, 19, 3, 37, 0), (33, 34, 0, 0, 0, 1), (34, 37, 22, 0, 38, 0), (37, 38, 0, 0, 0, 0), (38, 39, 42, 0, 0, 0)])
def M57 : Mth := (57, 2, 2, 2, 3, [(0, 1, 4, 1, 0, 0), (1, 4, 24, 1, 2, 0), (4, 7, 18, 5, 16, 0), (7, 8, 4, 0, 0, 0), (8, 11, 49, 2, 0, 0), (11, 12, 0, 0, 0, 3), (12, 15, 39, 36, 0, 0), (15, 16, 42, 0, 0, 0), (16, 17, 4, 0, 0, 0), (17, 20, 49, 2, 0, 0), (20, 23, 39, 37, 0, 0), (23, 24, 4, 0, 0, 0), (24, 27, 49, 2, 0, 0), (27, 28, 0, 0, 0, 1), (28, 30, 0, 0, 0, 9), (30, 33, 39, 38, 0, 0), (33, 34, 5, 2, 0, 0), (34, 35, 2, 2, 0, 0), (35, 36, 0, 0, 0, -1), (36, 39, 19, 1, 41, 0), (39, 40, 0, 0, 0, 0), (40, 41, 42, 0, 0, 0), (41, 42, 4, 1, 0, 0), (42, 43, 2, 2, 0, 0), (43, 46, 25, 1, 2, 0), (46, 47, 0, 0, 0, 1), (47, 48, 42, 0, 0, 0)])
def M58 : Mth := (58, 7, 2, 2, 2, [(0, 1, 4, 0, 0, 0), (1, 4, 39, 59, 0, 0), (4, 5, 2, 1, 0, 0), (5, 8, 19, 0, 14, 0), (8, 9, 4, 0, 0, 0), (9, 10, 0, 0, 0, 1), (10, 13, 39, 36, 0, 0), (13, 14, 42, 0, 0, 0), (14, 15, 4, 0, 0, 0), (15, 18, 39, 37, 0, 0), (18, 19, 0, 0, 0, 1), (19, 20, 42, 0, 0, 0)])
def M59 : Mth := (59, 7, 1, 1, 1, [(0, 1, 4, 0, 0, 0), (1, 2, 0, 0, 0, 4), (2, 5, 39, 31, 0, 0), (5, 8, 18, 0, 16, 0), (8, 9, 4, 0, 0, 0), (9, 12, 39, 34, 0, 0), (12, 13, 13, 0, 0, 0), (13, 16, 22, 0, 17, 0), (16, 17, 0, 0, 0, 0), (17, 18, 42, 0, 0, 0)])
def M60 : Mth := (60, 7, 1, 2, 1, [(0, 1, 4, 0, 0, 0), (1, 4, 39, 30, 0, 0), (4, 7, 18, 0, 14, 0), (7, 8, 4, 0, 0, 0), (8, 11, 24, 7, 4, 0), (11, 14, 18, 0, 22, 0), (14, 15, 4, 0, 0, 0), (15, 16, 0, 0, 0, 1), (16, 19, 39, 36, 0, 0), (19, 22, 18, 0, 26, 0), (22, 23, 0, 0, 0, 1), (23, 26, 22, 0, 27, 0), (26, 27, 0, 0, 0, 0), (27, 28, 42, 0, 0, 0)])
def M61 : Mth := (61, 5, 1, 0, 2, [(0, 1, 4, 0, 0, 0), (1, 2, 0, 0, 0, 0), (2, 5, 25, 5, 0, 0), (5, 6, 0, 0, 0, 0), (6, 7, 5, 1, 0, 0), (7, 8, 2, 1, 0, 0), (8, 11, 0, 0, 0, 7776), (11, 14, 19, 3, 27, 0), (14, 15, 4, 0, 0, 0), (15, 18, 49, 5, 1, 0), (18, 19, 2, 1, 0, 0), (19, 20, 0, 0, 0, 0), (20, 21, 31, 0, 0, 0), (21, 24, 8, 1, 0, 1), (24, 27, 22, 0, 7, 0), (27, 28, 0, 0, 0, 0), (28, 29, 5, 1, 0, 0), (29, 30, 2, 1, 0, 0), (30, 33, 0, 0, 0, 1296), (33, 36, 19, 3, 49, 0), (36, 37, 4, 0, 0, 0), (37, 40, 49, 5, 2, 0), (40, 41, 2, 1, 0, 0), (41, 42, 0, 0, 0, 0), (42, 43, 31, 0, 0, 0), (43, 46, 8, 1, 0, 1), (46, 49, 22, 0, 29, 0), (49, 50, 0, 0, 0, 0), (50, 51, 5, 1, 0, 0), (51, 52, 2, 1, 0, 0), (52, 55, 0, 0, 0, 144), (55, 58, 19, 3, 71, 0), (58, 59, 4, 0, 0, 0), (59, 62, 49, 5, 3, 0), (62, 63, 2, 1, 0, 0), (63, 64, 0, 0, 0, -1), (64, 65, 31, 0, 0, 0), (65, 68, 8, 1, 0, 1), (68, 71, 22, 0, 51, 0), (71, 72, 0, 0, 0, 0), (72, 73, 5, 1, 0, 0), (73, 74, 2, 1, 0, 0), (74, 76, 0, 0, 0, 6), (76, 79, 19, 3, 92, 0), (79, 80, 4, 0, 0, 0), (80, 83, 49, 5, 7, 0), (83, 84, 2, 1, 0, 0), (84, 85, 0, 0, 0, 0), (85, 86, 31, 0, 0, 0), (86, 89, 8, 1, 0, 1), (89, 92, 22, 0, 73, 0), (92, 93, 41, 0, 0, 0)])
def M62 : Mth := (62, 6, 1, 0, 1, [(0, 1, 4, 0, 0, 0), (1, 2, 0, 0, 0, 0), (2, 5, 25, 6, 0, 0), (5, 6, 4, 0, 0, 0), (6, 7, 0, 0, 0, 0), (7, 10, 25, 6, 1, 0), (10, 11, 41, 0, 0, 0)])
def M63 : Mth := (63, 9, 1, 1, 1, [(0, 1, 4, 0, 0, 0), (1, 4, 49, 9, 0, 0), (4, 7, 24, 7, 2, 0), (7, 8, 42, 0, 0, 0)])
def M64 : Mth := (64, 9, 3, 1, 3, [(0, 1, 4, 0, 0, 0), (1, 4, 49, 9, 2, 0), (4, 5, 2, 1, 0, 0), (5, 6, 2, 2, 0, 0), (6, 9, 39, 65, 0, 0), (9, 10, 42, 0, 0, 0)])
def M65 : Mth := (65, 1, 3, 1, 3, [(0, 1, 2, 2, 0, 0), (1, 4, 18, 2, 33, 0), (4, 5, 2, 2, 0, 0), (5, 6, 4, 0, 0, 0), (6, 7, 2, 1, 0, 0), (7, 10, 39, 66, 0, 0), (10, 13, 19, 3, 33, 0), (13, 14, 2, 2, 0, 0), (14, 16, 0, 0, 0, 41), (16, 19, 19, 3, 33, 0), (19, 20, 4, 0, 0, 0), (20, 23, 49, 1, 13, 0), (23, 24, 2, 1, 0, 0), (24, 26, 0, 0, 0, 41), (26, 27, 9, 2, 0, 0), (27, 28, 2, 2, 0, 0), (28, 29, 9, 0, 0, 0), (29, 30, 27, 0, 0, 0), (30, 33, 22, 0, 34, 0), (33, 34, 0, 0, 0, -1), (34, 35, 42, 0, 0, 0)])
def M66 : Mth := (66, 1, 2, 1, 2, [(0, 1, 4, 0, 0, 0), (1, 2, 2, 1, 0, 0), (2, 5, 39, 67, 0, 0), (5, 8, 18, 0, 17, 0), (8, 9, 4, 0, 0, 0), (9, 12, 49, 1, 12, 0), (12, 13, 2, 1, 0, 0), (13, 14, 27, 0, 0, 0), (14, 17, 22, 0, 18, 0), (17, 18, 0, 0, 0, 0), (18, 19, 42, 0, 0, 0)])
def M67 : Mth := (67, 1, 2, 2, 2, [(0, 1, 2, 1, 0, 0), (1, 4, 18, 2, 22, 0), (4, 5, 2, 1, 0, 0), (5, 6, 4, 0, 0, 0), (6, 9, 24, 1, 4, 0), (9, 12, 19, 3, 22, 0), (12, 13, 2, 1, 0, 0), (13, 15, 0, 0, 0, 6), (15, 18, 19, 3, 22, 0), (18, 19, 0, 0, 0, 1), (19, 22, 22, 0, 23, 0), (22, 23, 0, 0, 0, 0), (23, 24, 42, 0, 0, 0)])
def M68 : Mth := (68, 9, 4, 1, 4, [(0, 1, 4, 0, 0, 0), (1, 4, 49, 9, 2, 0), (4, 5, 2, 1, 0, 0), (5, 8, 39, 69, 0, 0), (8, 11, 18, 0, 33, 0), (11, 12, 4, 0, 0, 0), (12, 15, 49, 9, 2, 0), (15, 16, 2, 2, 0, 0), (16, 19, 39, 67, 0, 0), (19, 22, 18, 0, 33, 0), (22, 23, 4, 0, 0, 0), (23, 26, 49, 9, 2, 0), (26, 27, 2, 3, 0, 0), (27, 30, 39, 69, 0, 0), (30, 33, 18, 1, 35, 0), (33, 34, 0, 0, 0, -1), (34, 35, 42, 0, 0, 0), (35, 36, 4, 0, 0, 0), (36, 39, 39, 70, 0, 0), (39, 40, 4, 0, 0, 0), (40, 43, 49, 9, 6, 0), (43, 44, 4, 0, 0, 0), (44, 47, 49, 9, 2, 0), (47, 48, 2, 1, 0, 0), (48, 49, 2, 2, 0, 0), (49, 50, 4, 0, 0, 0), (50, 53, 49, 9, 2, 0), (53, 54, 2, 3, 0, 0), (54, 57, 39, 73, 0, 0), (57, 60, 39, 74, 0, 0), (60, 61, 4, 0, 0, 0), (61, 64, 49, 9, 2, 0), (64, 65, 2, 2, 0, 0), (65, 68, 39, 66, 0, 0), (68, 69, 42, 0, 0, 0)])
def M69 : Mth := (69, 1, 2, 2, 2, [(0, 1, 2, 1, 0, 0), (1, 4, 18, 2, 22, 0), (4, 5, 2, 1, 0, 0), (5, 6, 4, 0, 0, 0), (6, 9, 24, 1, 3, 0), (9, 12, 19, 3, 22, 0), (12, 13, 2, 1, 0, 0), (13, 15, 0, 0, 0, 6), (15, 18, 19, 3, 22, 0), (18, 19, 0, 0, 0, 1), (19, 22, 22, 0, 23, 0), (22, 23, 0, 0, 0, 0), (23, 24, 42, 0, 0, 0)])
def M70 : Mth := (70, 9, 1, 0, 2, [(0, 1, 4, 0, 0, 0), (1, 4, 24, 9, 9, 0), (4, 6, 0, 0, 0, 6), (6, 9, 19, 1, 32, 0), (9, 10, 4, 0, 0, 0), (10, 11, 4, 0, 0, 0), (11, 14, 24, 9, 8, 0), (14, 15, 0, 0, 0, 1), (15, 16, 9, 0, 0, 0), (16, 18, 0, 0, 0, 6), (18, 19, 9, 4, 0, 0), (19, 22, 25, 9, 8, 0), (22, 23, 4, 0, 0, 0), (23, 24, 15, 0, 0, 0), (24, 27, 24, 9, 9, 0), (27, 28, 0, 0, 0, 1), (28, 29, 9, 1, 0, 0), (29, 32, 25, 9, 9, 0), (32, 33, 4, 0, 0, 0), (33, 36, 49, 9, 7, 0), (36, 37, 4, 0, 0, 0), (37, 40, 24, 9, 8, 0), (40, 41, 4, 0, 0, 0), (41, 44, 24, 9, 9, 0), (44, 45, 9, 0, 0, 0), (45, 47, 0, 0, 0, 6), (47, 50, 39, 71, 0, 0), (50, 51, 30, 0, 0, 0), (51, 52, 7, 1, 0, 0), (52, 53, 4, 1, 0, 0), (53, 56, 21, 0, 64, 0), (56, 57, 4, 1, 0, 0), (57, 58, 4, 0, 0, 0), (58, 61, 49, 9, 6, 0), (61, 64, 39, 72, 0, 0), (64, 65, 4, 0, 0, 0), (65, 66, 15, 0, 0, 0), (66, 69, 24, 9, 9, 0), (69, 70, 0, 0, 0, 1), (70, 71, 9, 0, 0, 0), (71, 74, 25, 9, 9, 0), (74, 75, 41, 0, 0, 0)])
def M71 : Mth := (71, 13, 2, 1, 3, [(0, 1, 2, 0, 0, 0), (1, 2, 2, 1, 0, 0), (2, 3, 9, 4, 0, 0), (3, 4, 5, 2, 0, 0), (4, 5, 2, 0, 0, 0), (5, 6, 2, 1, 0, 0), (6, 7, 9, 7, 0, 0), (7, 10, 18, 3, 18, 0), (10, 11, 2, 2, 0, 0), (11, 14, 18, 0, 18, 0), (14, 15, 2, 2, 0, 0), (15, 16, 2, 1, 0, 0), (16, 17, 9, 0, 0, 0), (17, 18, 42, 0, 0, 0), (18, 19, 2, 2, 0, 0), (19, 20, 42, 0, 0, 0)])
def M72 : Mth := (72, 5, 2, 0, 2, [(0, 1, 4, 0, 0, 0), (1, 2, 4, 1, 0, 0), (2, 5, 24, 5, 0, 0), (5, 8, 25, 5, 0, 0), (8, 9, 4, 1, 0, 0), (9, 12, 49, 5, 1, 0), (12, 13, 0, 0, 0, 0), (13, 14, 4, 0, 0, 0), (14, 17, 49, 5, 1, 0), (17, 18, 0, 0, 0, 0), (18, 21, 0, 0, 0, 7776), (21, 24, 40, 0, 0, 0), (24, 25, 4, 1, 0, 0), (25, 28, 49, 5, 2, 0), (28, 29, 0, 0, 0, 0), (29, 30, 4, 0, 0, 0), (30, 33, 49, 5, 2, 0), (33, 34, 0, 0, 0, 0), (34, 37, 0, 0, 0, 1296), (37, 40, 40, 0, 0, 0), (40, 41, 4, 1, 0, 0), (41, 44, 49, 5, 3, 0), (44, 45, 0, 0, 0, 0), (45, 46, 4, 0, 0, 0), (46, 49, 49, 5, 3, 0), (49, 50, 0, 0, 0, 0), (50, 53, 0, 0, 0, 144), (53, 56, 40, 0, 0, 0), (56, 57, 4, 1, 0, 0), (57, 60, 49, 5, 4, 0), (60, 61, 0, 0, 0, 0), (61, 62, 4, 0, 0, 0), (62, 65, 49, 5, 4, 0), (65, 66, 0, 0, 0, 0), (66, 69, 0, 0, 0, 144), (69, 72, 40, 0, 0, 0), (72, 73, 4, 1, 0, 0), (73, 76, 49, 5, 5, 0), (76, 77, 0, 0, 0, 0), (77, 78, 4, 0, 0, 0), (78, 81, 49, 5, 5, 0), (81, 82, 0, 0, 0, 0), (82, 85, 0, 0, 0, 144), (85, 88, 40, 0, 0, 0), (88, 89, 4, 1, 0, 0), (89, 92, 49, 5, 6, 0), (92, 93, 0, 0, 0, 0), (93, 94, 4, 0, 0, 0), (94, 97, 49, 5, 6, 0), (97, 98, 0, 0, 0, 0), (98, 101, 0, 0, 0, 144), (101, 104, 40, 0, 0, 0), (104, 105, 4, 1, 0, 0), (105, 108, 49, 5, 7, 0), (108, 109, 0, 0, 0, 0), (109, 110, 4, 0, 0, 0), (110, 113, 49, 5, 7, 0), (113, 114, 0, 0, 0, 0), (114, 116, 0, 0, 0, 6), (116, 119, 40, 0, 0, 0), (119, 120, 41, 0, 0, 0)])
def M73 : Mth := (73, 1, 2, 1, 2, [(0, 1, 4, 0, 0, 0), (1, 2, 2, 1, 0, 0), (2, 5, 39, 69, 0, 0), (5, 8, 18, 0, 17, 0), (8, 9, 4, 0, 0, 0), (9, 12, 49, 1, 8, 0), (12, 13, 2, 1, 0, 0), (13, 14, 27, 0, 0, 0), (14, 17, 22, 0, 18, 0), (17, 18, 0, 0, 0, -1), (18, 19, 42, 0, 0, 0)])
def M74 : Mth := (74, 5, 5, 0, 9, [(0, 1, 2, 2, 0, 0), (1, 4, 39, 75, 0, 0), (4, 7, 18, 1, 8, 0), (7, 8, 41, 0, 0, 0), (8, 9, 4, 0, 0, 0), (9, 12, 24, 5, 0, 0), (12, 15, 39, 76, 0, 0), (15, 17, 5, 5, 0, 0), (17, 18, 4, 1, 0, 0), (18, 19, 2, 3, 0, 0), (19, 22, 39, 66, 0, 0), (22, 24, 5, 6, 0, 0), (24, 25, 0, 0, 0, 0), (25, 27, 5, 7, 0, 0), (27, 29, 2, 7, 0, 0), (29, 31, 2, 6, 0, 0), (31, 34, 19, 3, 116, 0), (34, 35, 4, 1, 0, 0), (35, 36, 2, 3, 0, 0), (36, 38, 2, 7, 0, 0), (38, 41, 39, 65, 0, 0), (41, 43, 5, 8, 0, 0), (43, 45, 2, 8, 0, 0), (45, 48, 39, 77, 0, 0), (48, 51, 18, 0, 110, 0), (51, 52, 4, 0, 0, 0), (52, 55, 49, 5, 1, 0), (55, 57, 2, 5, 0, 0), (57, 59, 2, 8, 0, 0), (59, 60, 2, 2, 0, 0), (60, 63, 39, 78, 0, 0), (63, 64, 17, 0, 0, 0), (64, 65, 27, 0, 0, 0), (65, 66, 0, 0, 0, 1), (66, 67, 9, 0, 0, 0), (67, 68, 31, 0, 0, 0), (68, 69, 4, 0, 0, 0), (69, 72, 49, 5, 3, 0), (72, 74, 2, 8, 0, 0), (74, 75, 2, 2, 0, 0), (75, 76, 31, 0, 0, 0), (76, 77, 4, 0, 0, 0), (77, 80, 49, 5, 4, 0), (80, 82, 2, 8, 0, 0), (82, 84, 2, 4, 0, 0), (84, 85, 31, 0, 0, 0), (85, 86, 4, 0, 0, 0), (86, 89, 49, 5, 5, 0), (89, 91, 2, 8, 0, 0), (91, 92, 4, 1, 0, 0), (92, 93, 2, 3, 0, 0), (93, 95, 2, 7, 0, 0), (95, 98, 39, 79, 0, 0), (98, 99, 31, 0, 0, 0), (99, 100, 4, 0, 0, 0), (100, 103, 49, 5, 6, 0), (103, 105, 2, 8, 0, 0), (105, 106, 4, 0, 0, 0), (106, 109, 24, 5, 0, 0), (109, 110, 31, 0, 0, 0), (110, 113, 8, 7, 0, 1), (113, 116, 22, 0, 27, 0), (116, 117, 4, 0, 0, 0), (117, 120, 49, 5, 7, 0), (120, 121, 2, 2, 0, 0), (121, 122, 17, 0, 0, 0), (122, 123, 27, 0, 0, 0), (123, 124, 0, 0, 0, 1), (124, 125, 9, 0, 0, 0), (125, 126, 31, 0, 0, 0), (126, 127, 41, 0, 0, 0)])
def M75 : Mth := (75, 5, 1, 2, 1, [(0, 1, 2, 0, 0, 0), (1, 4, 18, 2, 14, 0), (4, 5, 2, 0, 0, 0), (5, 7, 0, 0, 0, 6), (7, 10, 19, 3, 14, 0), (10, 11, 0, 0, 0, 1), (11, 14, 22, 0, 15, 0), (14, 15, 0, 0, 0, 0), (15, 16, 42, 0, 0, 0)])
def M76 : Mth := (76, 5, 1, 1, 1, [(0, 1, 2, 0, 0, 0), (1, 3, 0, 0, 0, 9), (3, 6, 39, 71, 0, 0), (6, 7, 42, 0, 0, 0)])
def M77 : Mth := (77, 5, 1, 2, 1, [(0, 1, 2, 0, 0, 0), (1, 4, 18, 2, 15, 0), (4, 5, 2, 0, 0, 0), (5, 8, 0, 0, 0, 144), (8, 11, 19, 3, 15, 0), (11, 12, 0, 0, 0, 1), (12, 15, 22, 0, 16, 0), (15, 16, 0, 0, 0, 0), (16, 17, 42, 0, 0, 0)])
def M78 : Mth := (78, 5, 3, 1, 3, [(0, 1, 2, 0, 0, 0), (1, 4, 0, 0, 0, 144), (4, 5, 9, 2, 0, 0), (5, 6, 2, 1, 0, 0), (6, 7, 9, 0, 0, 0), (7, 9, 0, 0, 0, 6), (9, 10, 9, 2, 0, 0), (10, 11, 2, 2, 0, 0), (11, 12, 9, 0, 0, 0), (12, 13, 42, 0, 0, 0)])
def M79 : Mth := (79, 1, 3, 1, 5, [(0, 1, 4, 0, 0, 0), (1, 2, 2, 1, 0, 0), (2, 5, 39, 66, 0, 0), (5, 6, 0, 0, 0, 1), (6, 7, 9, 1, 0, 0), (7, 8, 5, 3, 0, 0), (8, 9, 2, 3, 0, 0), (9, 10, 0, 0, 0, 1), (10, 13, 19, 3, 15, 0), (13, 14, 0, 0, 0, 0), (14, 15, 42, 0, 0, 0), (15, 16, 2, 2, 0, 0), (16, 17, 2, 3, 0, 0), (17, 18, 0, 0, 0, 1), (18, 19, 9, 1, 0, 0), (19, 22, 39, 19, 0, 0), (22, 24, 5, 4, 0, 0), (24, 25, 4, 0, 0, 0), (25, 26, 2, 1, 0, 0), (26, 28, 2, 4, 0, 0), (28, 31, 39, 65, 0, 0), (31, 32, 4, 0, 0, 0), (32, 33, 2, 1, 0, 0), (33, 35, 2, 4, 0, 0), (35, 36, 0, 0, 0, 1), (36, 37, 9, 0, 0, 0), (37, 40, 39, 65, 0, 0), (40, 43, 39, 80, 0, 0), (43, 44, 42, 0, 0, 0)])
def M80 : Mth := (80, 1, 2, 1, 2, [(0, 1, 2, 1, 0, 0), (1, 2, 2, 0, 0, 0), (2, 4, 0, 0, 0, 12), (4, 5, 9, 1, 0, 0), (5, 8, 19, 1, 10, 0), (8, 9, 0, 0, 0, 0), (9, 10, 42, 0, 0, 0), (10, 11, 2, 1, 0, 0), (11, 12, 2, 0, 0, 0), (12, 13, 0, 0, 0, 1), (13, 14, 9, 0, 0, 0), (14, 17, 19, 1, 19, 0), (17, 18, 0, 0, 0, 1), (18, 19, 42, 0, 0, 0), (19, 20, 2, 1, 0, 0), (20, 21, 2, 0, 0, 0), (21, 23, 0, 0, 0, 12), (23, 24, 9, 0, 0, 0), (24, 27, 19, 1, 31, 0), (27, 28, 0, 0, 0, 2), (28, 31, 22, 0, 32, 0), (31, 32, 0, 0, 0, 3), (32, 33, 42, 0, 0, 0)])
def M81 : Mth := (81, 9, 2, 1, 3, [(0, 1, 2, 1, 0, 0), (1, 2, 0, 0, 0, 1), (2, 5, 19, 2, 26, 0), (5, 6, 2, 1, 0, 0), (6, 8, 0, 0, 0, 20), (8, 11, 19, 4, 26, 0), (11, 12, 4, 0, 0, 0), (12, 15, 49, 9, 6, 0), (15, 18, 24, 5, 0, 0), (18, 21, 0, 0, 0, 999), (21, 22, 2, 1, 0, 0), (22, 23, 9, 1, 0, 0), (23, 26, 19, 5, 28, 0), (26, 27, 0, 0, 0, -1), (27, 28, 42, 0, 0, 0), (28, 29, 4, 0, 0, 0), (29, 32, 39, 70, 0, 0), (32, 33, 0, 0, 0, 0), (33, 34, 5, 2, 0, 0), (34, 35, 2, 2, 0, 0), (35, 36, 2, 1, 0, 0), (36, 39, 19, 3, 59, 0), (39, 40, 4, 0, 0, 0), (40, 43, 49, 9, 6, 0), (43, 44, 4, 0, 0, 0), (44, 47, 49, 9, 2, 0), (47, 50, 39, 82, 0, 0), (50, 53, 39, 83, 0, 0), (53, 56, 8, 2, 0, 1), (56, 59, 22, 0, 34, 0), (59, 60, 4, 0, 0, 0), (60, 63, 49, 9, 6, 0), (63, 66, 24, 5, 0, 0), (66, 67, 42, 0, 0, 0)])
def M82 : Mth := (82, 1, 1, 1, 1, [(0, 1, 4, 0, 0, 0), (1, 4, 24, 1, 2, 0), (4, 7, 18, 1, 12, 0), (7, 9, 0, 0, 0, 9), (9, 12, 22, 0, 16, 0), (12, 13, 4, 0, 0, 0), (13, 16, 24, 1, 2, 0), (16, 17, 42, 0, 0, 0)])
def M83 : Mth := (83, 5, 2, 0, 5, [(0, 1, 4, 0, 0, 0), (1, 2, 15, 0, 0, 0), (2, 5, 24, 5, 0, 0), (5, 6, 0, 0, 0, 1), (6, 7, 9, 0, 0, 0), (7, 10, 25, 5, 0, 0), (10, 11, 4, 0, 0, 0), (11, 14, 24, 5, 0, 0), (14, 15, 2, 1, 0, 0), (15, 16, 9, 1, 0, 0), (16, 19, 39, 76, 0, 0), (19, 20, 5, 2, 0, 0), (20, 21, 0, 0, 0, 0), (21, 22, 5, 3, 0, 0), (22, 23, 2, 3, 0, 0), (23, 26, 0, 0, 0, 144), (26, 29, 19, 3, 99, 0), (29, 30, 0, 0, 0, 0), (30, 32, 5, 4, 0, 0), (32, 34, 2, 4, 0, 0), (34, 36, 0, 0, 0, 6), (36, 39, 19, 3, 58, 0), (39, 40, 4, 0, 0, 0), (40, 43, 49, 5, 1, 0), (43, 44, 2, 2, 0, 0), (44, 45, 2, 3, 0, 0), (45, 47, 2, 4, 0, 0), (47, 50, 39, 78, 0, 0), (50, 51, 0, 0, 0, 0), (51, 52, 31, 0, 0, 0), (52, 55, 8, 4, 0, 1), (55, 58, 22, 0, 32, 0), (58, 59, 4, 0, 0, 0), (59, 62, 49, 5, 2, 0), (62, 63, 2, 2, 0, 0), (63, 66, 0, 0, 0, 144), (66, 67, 9, 2, 0, 0), (67, 68, 2, 3, 0, 0), (68, 69, 9, 0, 0, 0), (69, 70, 0, 0, 0, 0), (70, 71, 31, 0, 0, 0), (71, 72, 4, 0, 0, 0), (72, 75, 24, 5, 0, 0), (75, 76, 4, 0, 0, 0), (76, 79, 49, 5, 6, 0), (79, 80, 2, 3, 0, 0), (80, 81, 27, 0, 0, 0), (81, 82, 9, 1, 0, 0), (82, 83, 2, 1, 0, 0), (83, 86, 19, 2, 93, 0), (86, 87, 4, 0, 0, 0), (87, 90, 49, 5, 3, 0), (90, 91, 2, 3, 0, 0), (91, 92, 0, 0, 0, -1), (92, 93, 31, 0, 0, 0), (93, 96, 8, 3, 0, 1), (96, 99, 22, 0, 22, 0), (99, 100, 41, 0, 0, 0)])
def M84 : Mth := (84, 9, 3, 1, 9, [(0, 1, 4, 0, 0, 0), (1, 4, 49, 9, 2, 0), (4, 5, 2, 1, 0, 0), (5, 8, 39, 56, 0, 0), (8, 11, 18, 0, 22, 0), (11, 12, 4, 0, 0, 0), (12, 15, 49, 9, 2, 0), (15, 16, 2, 2, 0, 0), (16, 19, 39, 56, 0, 0), (19, 22, 18, 1, 24, 0), (22, 23, 0, 0, 0, -1), (23, 24, 42, 0, 0, 0), (24, 25, 4, 0, 0, 0), (25, 28, 39, 70, 0, 0), (28, 29, 2, 1, 0, 0), (29, 31, 0, 0, 0, 12), (31, 32, 9, 4, 0, 0), (32, 33, 2, 2, 0, 0), (33, 35, 0, 0, 0, 12), (35, 36, 9, 4, 0, 0), (36, 39, 39, 19, 0, 0), (39, 40, 5, 3, 0, 0), (40, 41, 2, 1, 0, 0), (41, 43, 0, 0, 0, 12), (43, 44, 9, 4, 0, 0), (44, 45, 2, 2, 0, 0), (45, 47, 0, 0, 0, 12), (47, 48, 9, 4, 0, 0), (48, 51, 39, 85, 0, 0), (51, 53, 5, 4, 0, 0), (53, 54, 2, 1, 0, 0), (54, 56, 0, 0, 0, 12), (56, 57, 9, 3, 0, 0), (57, 58, 2, 2, 0, 0), (58, 60, 0, 0, 0, 12), (60, 61, 9, 3, 0, 0), (61, 64, 39, 85, 0, 0), (64, 66, 5, 5, 0, 0), (66, 67, 0, 0, 0, 0), (67, 69, 5, 6, 0, 0), (69, 70, 2, 1, 0, 0), (70, 72, 0, 0, 0, 12), (72, 73, 9, 3, 0, 0), (73, 74, 2, 2, 0, 0), (74, 76, 0, 0, 0, 12), (76, 77, 9, 3, 0, 0), (77, 80, 39, 19, 0, 0), (80, 82, 5, 7, 0, 0), (82, 84, 2, 7, 0, 0), (84, 86, 2, 5, 0, 0), (86, 89, 19, 4, 136, 0), (89, 90, 2, 3, 0, 0), (90, 92, 5, 8, 0, 0), (92, 94, 2, 8, 0, 0), (94, 96, 2, 4, 0, 0), (96, 99, 19, 4, 130, 0), (99, 100, 4, 0, 0, 0), (100, 103, 49, 9, 6, 0), (103, 104, 4, 0, 0, 0), (104, 107, 49, 9, 2, 0), (107, 109, 2, 7, 0, 0), (109, 111, 0, 0, 0, 12), (111, 112, 9, 2, 0, 0), (112, 114, 2, 8, 0, 0), (114, 115, 9, 0, 0, 0), (115, 118, 39, 86, 0, 0), (118, 121, 18, 0, 124, 0), (121, 124, 8, 6, 0, 1), (124, 127, 8, 8, 0, 1), (127, 130, 22, 0, 92, 0), (130, 133, 8, 7, 0, 1), (133, 136, 22, 0, 82, 0), (136, 138, 2, 6, 0, 0), (138, 139, 42, 0, 0, 0)])
def M85 : Mth := (85, 13, 2, 1, 2, [(0, 1, 2, 0, 0, 0), (1, 2, 2, 1, 0, 0), (2, 5, 19, 2, 9, 0), (5, 6, 2, 0, 0, 0), (6, 9, 22, 0, 10, 0), (9, 10, 2, 1, 0, 0), (10, 11, 42, 0, 0, 0)])
def M86 : Mth := (86, 5, 3, 2, 5, [(0, 1, 4, 0, 0, 0), (1, 2, 2, 2, 0, 0), (2, 5, 39, 87, 0, 0), (5, 8, 18, 1, 10, 0), (8, 9, 0, 0, 0, 0), (9, 10, 42, 0, 0, 0), (10, 11, 0, 0, 0, 0), (11, 12, 5, 3, 0, 0), (12, 13, 2, 3, 0, 0), (13, 15, 0, 0, 0, 9), (15, 18, 19, 3, 75, 0), (18, 19, 4, 0, 0, 0), (19, 22, 49, 5, 2, 0), (22, 23, 2, 3, 0, 0), (23, 26, 0, 0, 0, 144), (26, 27, 9, 2, 0, 0), (27, 28, 2, 2, 0, 0), (28, 29, 9, 0, 0, 0), (29, 30, 17, 0, 0, 0), (30, 31, 27, 0, 0, 0), (31, 32, 4, 0, 0, 0), (32, 33, 4, 1, 0, 0), (33, 34, 2, 3, 0, 0), (34, 35, 2, 2, 0, 0), (35, 38, 39, 88, 0, 0), (38, 39, 9, 0, 0, 0), (39, 40, 31, 0, 0, 0), (40, 41, 0, 0, 0, 0), (41, 43, 5, 4, 0, 0), (43, 45, 2, 4, 0, 0), (45, 47, 0, 0, 0, 6), (47, 50, 19, 3, 69, 0), (50, 51, 4, 0, 0, 0), (51, 54, 49, 5, 1, 0), (54, 55, 2, 3, 0, 0), (55, 56, 2, 2, 0, 0), (56, 58, 2, 4, 0, 0), (58, 61, 39, 78, 0, 0), (61, 62, 0, 0, 0, 0), (62, 63, 31, 0, 0, 0), (63, 66, 8, 4, 0, 1), (66, 69, 22, 0, 43, 0), (69, 72, 8, 3, 0, 1), (72, 75, 22, 0, 12, 0), (75, 76, 4, 0, 0, 0), (76, 79, 49, 5, 3, 0), (79, 80, 2, 2, 0, 0), (80, 81, 0, 0, 0, -1), (81, 82, 31, 0, 0, 0), (82, 83, 0, 0, 0, 1), (83, 84, 42, 0, 0, 0)])
def M87 : Mth := (87, 5, 2, 2, 2, [(0, 1, 2, 1, 0, 0), (1, 4, 39, 77, 0, 0), (4, 7, 18, 0, 21, 0), (7, 8, 4, 0, 0, 0), (8, 11, 49, 5, 3, 0), (11, 12, 2, 1, 0, 0), (12, 13, 27, 0, 0, 0), (13, 14, 0, 0, 0, -1), (14, 17, 19, 0, 21, 0), (17, 18, 0, 0, 0, 1), (18, 21, 22, 0, 22, 0), (21, 22, 0, 0, 0, 0), (22, 23, 42, 0, 0, 0)])
def M88 : Mth := (88, 5, 4, 1, 6, [(0, 1, 0, 0, 0, 0), (1, 3, 5, 4, 0, 0), (3, 4, 0, 0, 0, 0), (4, 6, 5, 5, 0, 0), (6, 8, 2, 5, 0, 0), (8, 10, 0, 0, 0, 6), (10, 13, 19, 3, 43, 0), (13, 15, 2, 4, 0, 0), (15, 16, 4, 0, 0, 0), (16, 19, 49, 5, 1, 0), (19, 20, 2, 2, 0, 0), (20, 21, 2, 3, 0, 0), (21, 23, 2, 5, 0, 0), (23, 26, 39, 78, 0, 0), (26, 27, 27, 0, 0, 0), (27, 28, 4, 1, 0, 0), (28, 30, 2, 5, 0, 0), (30, 33, 39, 89, 0, 0), (33, 34, 9, 2, 0, 0), (34, 35, 9, 0, 0, 0), (35, 37, 5, 4, 0, 0), (37, 40, 8, 5, 0, 1), (40, 43, 22, 0, 6, 0), (43, 45, 2, 4, 0, 0), (45, 46, 42, 0, 0, 0)])
def M89 : Mth := (89, 1, 2, 1, 2, [(0, 1, 4, 0, 0, 0), (1, 2, 2, 1, 0, 0), (2, 5, 39, 69, 0, 0), (5, 8, 18, 0, 17, 0), (8, 9, 4, 0, 0, 0), (9, 12, 49, 1, 7, 0), (12, 13, 2, 1, 0, 0), (13, 14, 27, 0, 0, 0), (14, 17, 22, 0, 18, 0), (17, 18, 0, 0, 0, 0), (18, 19, 42, 0, 0, 0)])
def M90 : Mth := (90, 9, 4, 1, 6, [(0, 1, 2, 1, 0, 0), (1, 2, 0, 0, 0, 1), (2, 5, 19, 2, 57, 0), (5, 6, 2, 1, 0, 0), (6, 8, 0, 0, 0, 60), (8, 11, 19, 4, 57, 0), (11, 12, 2, 2, 0, 0), (12, 13, 0, 0, 0, 1), (13, 16, 19, 2, 57, 0), (16, 17, 2, 2, 0, 0), (17, 19, 0, 0, 0, 9), (19, 22, 19, 4, 57, 0), (22, 23, 4, 0, 0, 0), (23, 26, 49, 9, 2, 0), (26, 29, 24, 1, 3, 0), (29, 32, 18, 0, 57, 0), (32, 33, 4, 0, 0, 0), (33, 36, 49, 9, 2, 0), (36, 39, 24, 1, 4, 0), (39, 42, 18, 0, 57, 0), (42, 43, 4, 0, 0, 0), (43, 46, 49, 9, 6, 0), (46, 49, 24, 5, 0, 0), (49, 52, 0, 0, 0, 999), (52, 53, 2, 1, 0, 0), (53, 54, 9, 1, 0, 0), (54, 57, 19, 5, 59, 0), (57, 58, 0, 0, 0, -1), (58, 59, 42, 0, 0, 0), (59, 60, 4, 0, 0, 0), (60, 63, 39, 70, 0, 0), (63, 64, 2, 3, 0, 0), (64, 66, 5, 4, 0, 0), (66, 67, 0, 0, 0, 0), (67, 69, 5, 5, 0, 0), (69, 71, 2, 5, 0, 0), (71, 72, 2, 1, 0, 0), (72, 75, 19, 3, 90, 0), (75, 76, 4, 0, 0, 0), (76, 78, 2, 4, 0, 0), (78, 79, 2, 2, 0, 0), (79, 82, 39, 91, 0, 0), (82, 84, 5, 4, 0, 0), (84, 87, 8, 5, 0, 1), (87, 90, 22, 0, 69, 0), (90, 91, 4, 0, 0, 0), (91, 94, 49, 9, 6, 0), (94, 97, 24, 5, 0, 0), (97, 98, 42, 0, 0, 0)])
def M91 : Mth := (91, 9, 3, 1, 6, [(0, 1, 2, 1, 0, 0), (1, 2, 5, 3, 0, 0), (2, 3, 0, 0, 0, 0), (3, 5, 5, 4, 0, 0), (5, 7, 2, 4, 0, 0), (7, 8, 2, 2, 0, 0), (8, 11, 19, 3, 73, 0), (11, 12, 2, 3, 0, 0), (12, 15, 39, 92, 0, 0), (15, 16, 5, 3, 0, 0), (16, 17, 2, 3, 0, 0), (17, 18, 4, 0, 0, 0), (18, 21, 49, 9, 2, 0), (21, 24, 24, 1, 3, 0), (24, 27, 39, 93, 0, 0), (27, 29, 5, 5, 0, 0), (29, 30, 2, 3, 0, 0), (30, 33, 39, 92, 0, 0), (33, 34, 5, 3, 0, 0), (34, 35, 4, 0, 0, 0), (35, 38, 49, 9, 6, 0), (38, 39, 4, 0, 0, 0), (39, 42, 49, 9, 2, 0), (42, 44, 2, 5, 0, 0), (44, 45, 2, 3, 0, 0), (45, 46, 4, 0, 0, 0), (46, 49, 49, 9, 2, 0), (49, 52, 24, 1, 4, 0), (52, 55, 39, 93, 0, 0), (55, 56, 4, 0, 0, 0), (56, 59, 49, 9, 2, 0), (59, 61, 2, 5, 0, 0), (61, 64, 39, 73, 0, 0), (64, 67, 39, 74, 0, 0), (67, 70, 8, 4, 0, 1), (70, 73, 22, 0, 5, 0), (73, 74, 2, 3, 0, 0), (74, 77, 39, 92, 0, 0), (77, 78, 5, 3, 0, 0), (78, 79, 2, 3, 0, 0), (79, 81, 0, 0, 0, 6), (81, 84, 39, 93, 0, 0), (84, 87, 18, 1, 139, 0), (87, 88, 2, 3, 0, 0), (88, 91, 39, 92, 0, 0), (91, 92, 5, 3, 0, 0), (92, 93, 2, 3, 0, 0), (93, 94, 4, 0, 0, 0), (94, 97, 49, 9, 2, 0), (97, 100, 24, 1, 0, 0), (100, 103, 39, 93, 0, 0), (103, 105, 5, 4, 0, 0), (105, 106, 2, 3, 0, 0), (106, 109, 39, 92, 0, 0), (109, 110, 5, 3, 0, 0), (110, 111, 4, 0, 0, 0), (111, 114, 49, 9, 6, 0), (114, 115, 4, 0, 0, 0), (115, 118, 49, 9, 2, 0), (118, 119, 2, 3, 0, 0), (119, 120, 4, 0, 0, 0), (120, 123, 49, 9, 2, 0), (123, 126, 24, 1, 1, 0), (126, 129, 39, 93, 0, 0), (129, 131, 0, 0, 0, 12), (131, 132, 9, 2, 0, 0), (132, 134, 2, 4, 0, 0), (134, 135, 9, 0, 0, 0), (135, 138, 39, 86, 0, 0), (138, 139, 16, 0, 0, 0), (139, 140, 4, 0, 0, 0), (140, 143, 49, 9, 6, 0), (143, 144, 4, 0, 0, 0), (144, 147, 49, 9, 2, 0), (147, 150, 39, 82, 0, 0), (150, 153, 39, 83, 0, 0), (153, 154, 2, 3, 0, 0), (154, 155, 42, 0, 0, 0)])
def M92 : Mth := (92, 9, 1, 1, 1, [(0, 1, 2, 0, 0, 0), (1, 3, 0, 0, 0, 1103515245), (3, 4, 9, 2, 0, 0), (4, 7, 0, 0, 0, 12345), (7, 8, 9, 0, 0, 0), (8, 9, 42, 0, 0, 0)])
def M93 : Mth := (93, 9, 2, 1, 2, [(0, 1, 2, 1, 0, 0), (1, 2, 0, 0, 0, 1), (2, 5, 19, 3, 9, 0), (5, 6, 0, 0, 0, 0), (6, 9, 22, 0, 15, 0), (9, 10, 2, 0, 0, 0), (10, 12, 0, 0, 0, 8), (12, 13, 9, 10, 0, 0), (13, 14, 2, 1, 0, 0), (14, 15, 9, 4, 0, 0), (15, 16, 42, 0, 0, 0)])
def M94 : Mth := (94, 9, 1, 1, 2, [(0, 1, 4, 0, 0, 0), (1, 4, 24, 9, 9, 0), (4, 5, 0, 0, 0, 1), (5, 8, 19, 3, 10, 0), (8, 9, 0, 0, 0, -1), (9, 10, 42, 0, 0, 0), (10, 11, 4, 0, 0, 0), (11, 12, 15, 0, 0, 0), (12, 15, 24, 9, 9, 0), (15, 16, 0, 0, 0, 1), (16, 17, 9, 1, 0, 0), (17, 20, 25, 9, 9, 0), (20, 21, 4, 0, 0, 0), (21, 24, 49, 9, 7, 0), (24, 25, 4, 0, 0, 0), (25, 28, 24, 9, 8, 0), (28, 29, 4, 0, 0, 0), (29, 32, 24, 9, 9, 0), (32, 33, 9, 0, 0, 0), (33, 35, 0, 0, 0, 6), (35, 38, 39, 71, 0, 0), (38, 39, 30, 0, 0, 0), (39, 40, 7, 1, 0, 0), (40, 41, 4, 1, 0, 0), (41, 44, 21, 0, 52, 0), (44, 45, 4, 0, 0, 0), (45, 48, 49, 9, 6, 0), (48, 49, 4, 1, 0, 0), (49, 52, 39, 72, 0, 0), (52, 53, 4, 0, 0, 0), (53, 56, 24, 9, 9, 0), (56, 57, 42, 0, 0, 0)])
def M95 : Mth := (95, 9, 2, 1, 4, [(0, 1, 0, 0, 0, 0), (1, 2, 5, 2, 0, 0), (2, 3, 0, 0, 0, 0), (3, 4, 5, 3, 0, 0), (4, 5, 2, 3, 0, 0), (5, 8, 0, 0, 0, 144), (8, 11, 19, 3, 42, 0), (11, 12, 4, 0, 0, 0), (12, 15, 49, 9, 6, 0), (15, 16, 4, 0, 0, 0), (16, 19, 49, 9, 2, 0), (19, 20, 2, 3, 0, 0), (20, 23, 39, 96, 0, 0), (23, 26, 18, 0, 36, 0), (26, 27, 2, 2, 0, 0), (27, 28, 2, 1, 0, 0), (28, 31, 19, 1, 33, 0), (31, 32, 2, 3, 0, 0), (32, 33, 42, 0, 0, 0), (33, 36, 8, 2, 0, 1), (36, 39, 8, 3, 0, 1), (39, 42, 22, 0, 4, 0), (42, 43, 2, 1, 0, 0), (43, 44, 0, 0, 0, -1), (44, 47, 19, 1, 51, 0), (47, 48, 2, 2, 0, 0), (48, 51, 22, 0, 52, 0), (51, 52, 0, 0, 0, -1), (52, 53, 42, 0, 0, 0)])
def M96 : Mth := (96, 5, 3, 1, 5, [(0, 1, 0, 0, 0, 0), (1, 2, 5, 3, 0, 0), (2, 3, 2, 2, 0, 0), (3, 6, 39, 77, 0, 0), (6, 9, 18, 0, 49, 0), (9, 10, 0, 0, 0, 0), (10, 12, 5, 4, 0, 0), (12, 14, 2, 4, 0, 0), (14, 16, 0, 0, 0, 9), (16, 19, 19, 3, 49, 0), (19, 20, 2, 3, 0, 0), (20, 21, 4, 0, 0, 0), (21, 24, 49, 5, 2, 0), (24, 26, 2, 4, 0, 0), (26, 29, 0, 0, 0, 144), (29, 30, 9, 2, 0, 0), (30, 31, 2, 2, 0, 0), (31, 32, 9, 0, 0, 0), (32, 33, 27, 0, 0, 0), (33, 34, 4, 0, 0, 0), (34, 35, 4, 1, 0, 0), (35, 37, 2, 4, 0, 0), (37, 40, 39, 97, 0, 0), (40, 41, 9, 2, 0, 0), (41, 42, 9, 0, 0, 0), (42, 43, 5, 3, 0, 0), (43, 46, 8, 4, 0, 1), (46, 49, 22, 0, 12, 0), (49, 50, 2, 3, 0, 0), (50, 51, 42, 0, 0, 0)])
def M97 : Mth := (97, 5, 3, 1, 3, [(0, 1, 4, 1, 0, 0), (1, 4, 39, 82, 0, 0), (4, 5, 4, 0, 0, 0), (5, 8, 24, 5, 0, 0), (8, 9, 2, 2, 0, 0), (9, 10, 9, 1, 0, 0), (10, 12, 0, 0, 0, 9), (12, 15, 39, 71, 0, 0), (15, 16, 9, 1, 0, 0), (16, 17, 42, 0, 0, 0)])
def M98 : Mth := (98, 9, 2, 1, 2, [(0, 1, 4, 0, 0, 0), (1, 4, 49, 9, 2, 0), (4, 5, 2, 1, 0, 0), (5, 8, 39, 56, 0, 0), (8, 11, 18, 0, 26, 0), (11, 12, 4, 0, 0, 0), (12, 15, 49, 9, 6, 0), (15, 16, 4, 0, 0, 0), (16, 19, 49, 9, 2, 0), (19, 20, 2, 1, 0, 0), (20, 23, 39, 96, 0, 0), (23, 26, 22, 0, 27, 0), (26, 27, 0, 0, 0, -1), (27, 28, 42, 0, 0, 0)])
def M99 : Mth := (99, 9, 2, 1, 4, [(0, 1, 0, 0, 0, 0), (1, 2, 5, 2, 0, 0), (2, 3, 0, 0, 0, 0), (3, 4, 5, 3, 0, 0), (4, 5, 2, 3, 0, 0), (5, 8, 0, 0, 0, 144), (8, 11, 19, 3, 43, 0), (11, 12, 4, 0, 0, 0), (12, 15, 49, 9, 6, 0), (15, 16, 2, 3, 0, 0), (16, 19, 39, 87, 0, 0), (19, 22, 18, 0, 37, 0), (22, 23, 4, 0, 0, 0), (23, 26, 49, 9, 6, 0), (26, 27, 2, 3, 0, 0), (27, 30, 39, 100, 0, 0), (30, 31, 2, 1, 0, 0), (31, 34, 19, 1, 37, 0), (34, 37, 8, 2, 0, 1), (37, 40, 8, 3, 0, 1), (40, 43, 22, 0, 4, 0), (43, 44, 2, 2, 0, 0), (44, 45, 42, 0, 0, 0)])
def M100 : Mth := (100, 5, 2, 1, 2, [(0, 1, 4, 0, 0, 0), (1, 2, 2, 1, 0, 0), (2, 5, 39, 87, 0, 0), (5, 8, 18, 0, 17, 0), (8, 9, 4, 0, 0, 0), (9, 12, 49, 5, 4, 0), (12, 13, 2, 1, 0, 0), (13, 14, 27, 0, 0, 0), (14, 17, 22, 0, 18, 0), (17, 18, 0, 0, 0, -1), (18, 19, 42, 0, 0, 0)])
def M101 : Mth := (101, 9, 1, 1, 5, [(0, 1, 0, 0, 0, -1), (1, 2, 5, 1, 0, 0), (2, 3, 0, 0, 0, 0), (3, 4, 5, 2, 0, 0), (4, 5, 0, 0, 0, 0), (5, 6, 5, 3, 0, 0), (6, 7, 2, 3, 0, 0), (7, 10, 0, 0, 0, 144), (10, 13, 19, 3, 44, 0), (13, 14, 4, 0, 0, 0), (14, 17, 49, 9, 6, 0), (17, 18, 4, 0, 0, 0), (18, 21, 49, 9, 2, 0), (21, 22, 2, 3, 0, 0), (22, 25, 39, 102, 0, 0), (25, 27, 5, 4, 0, 0), (27, 29, 2, 4, 0, 0), (29, 30, 2, 2, 0, 0), (30, 33, 19, 5, 38, 0), (33, 35, 2, 4, 0, 0), (35, 36, 5, 2, 0, 0), (36, 37, 2, 3, 0, 0), (37, 38, 5, 1, 0, 0), (38, 41, 8, 3, 0, 1), (41, 44, 22, 0, 6, 0), (44, 45, 2, 1, 0, 0), (45, 46, 42, 0, 0, 0)])
def M102 : Mth := (102, 5, 3, 1, 5, [(0, 1, 0, 0, 0, 0), (1, 2, 5, 3, 0, 0), (2, 3, 4, 0, 0, 0), (3, 4, 2, 2, 0, 0), (4, 7, 39, 87, 0, 0), (7, 10, 18, 0, 45, 0), (10, 11, 0, 0, 0, 0), (11, 13, 5, 4, 0, 0), (13, 15, 2, 4, 0, 0), (15, 17, 0, 0, 0, 9), (17, 20, 19, 3, 45, 0), (20, 21, 2, 3, 0, 0), (21, 22, 4, 0, 0, 0), (22, 23, 4, 1, 0, 0), (23, 25, 2, 4, 0, 0), (25, 26, 2, 2, 0, 0), (26, 29, 39, 88, 0, 0), (29, 30, 4, 0, 0, 0), (30, 31, 4, 1, 0, 0), (31, 33, 2, 4, 0, 0), (33, 36, 39, 97, 0, 0), (36, 37, 9, 2, 0, 0), (37, 38, 9, 0, 0, 0), (38, 39, 5, 3, 0, 0), (39, 42, 8, 4, 0, 1), (42, 45, 22, 0, 13, 0), (45, 46, 2, 3, 0, 0), (46, 47, 42, 0, 0, 0)])
def M103 : Mth := (103, 9, 2, 1, 4, [(0, 1, 0, 0, 0, 0), (1, 2, 5, 2, 0, 0), (2, 3, 0, 0, 0, 0), (3, 4, 5, 3, 0, 0), (4, 5, 2, 3, 0, 0), (5, 6, 4, 0, 0, 0), (6, 9, 49, 9, 2, 0), (9, 12, 24, 1, 3, 0), (12, 15, 19, 3, 40, 0), (15, 16, 4, 0, 0, 0), (16, 19, 49, 9, 2, 0), (19, 20, 2, 3, 0, 0), (20, 21, 2, 1, 0, 0), (21, 24, 39, 104, 0, 0), (24, 25, 0, 0, 0, -1), (25, 28, 19, 0, 34, 0), (28, 29, 2, 2, 0, 0), (29, 30, 0, 0, 0, 1), (30, 31, 2, 3, 0, 0), (31, 32, 9, 8, 0, 0), (32, 33, 9, 6, 0, 0), (33, 34, 5, 2, 0, 0), (34, 37, 8, 3, 0, 1), (37, 40, 22, 0, 4, 0), (40, 41, 2, 2, 0, 0), (41, 44, 18, 1, 48, 0), (44, 45, 0, 0, 0, -1), (45, 48, 22, 0, 49, 0), (48, 49, 2, 2, 0, 0), (49, 50, 42, 0, 0, 0)])
def M104 : Mth := (104, 1, 3, 1, 4, [(0, 1, 4, 0, 0, 0), (1, 2, 2, 1, 0, 0), (2, 5, 39, 89, 0, 0), (5, 6, 5, 3, 0, 0), (6, 7, 2, 3, 0, 0), (7, 8, 0, 0, 0, 1), (8, 11, 19, 2, 32, 0), (11, 12, 2, 2, 0, 0), (12, 13, 0, 0, 0, 1), (13, 16, 19, 2, 32, 0), (16, 17, 2, 2, 0, 0), (17, 18, 2, 3, 0, 0), (18, 19, 9, 4, 0, 0), (19, 22, 18, 1, 32, 0), (22, 23, 2, 2, 0, 0), (23, 24, 2, 3, 0, 0), (24, 25, 9, 3, 0, 0), (25, 26, 4, 0, 0, 0), (26, 29, 39, 82, 0, 0), (29, 32, 19, 5, 34, 0), (32, 33, 0, 0, 0, -1), (33, 34, 42, 0, 0, 0), (34, 35, 4, 0, 0, 0), (35, 38, 39, 82, 0, 0), (38, 39, 2, 2, 0, 0), (39, 40, 2, 3, 0, 0), (40, 41, 9, 3, 0, 0), (41, 42, 9, 1, 0, 0), (42, 43, 42, 0, 0, 0)])
def M105 : Mth := (105, 9, 3, 1, 3, [(0, 1, 4, 0, 0, 0), (1, 4, 49, 9, 2, 0), (4, 5, 2, 1, 0, 0), (5, 6, 2, 2, 0, 0), (6, 9, 39, 104, 0, 0), (9, 10, 42, 0, 0, 0)])
def M106 : Mth := (106, 9, 1, 1, 2, [(0, 1, 4, 0, 0, 0), (1, 4, 49, 9, 14, 0), (4, 5, 4, 0, 0, 0), (5, 8, 49, 9, 0, 0), (8, 9, 4, 0, 0, 0), (9, 12, 49, 9, 2, 0), (12, 15, 39, 107, 0, 0), (15, 16, 5, 1, 0, 0), (16, 17, 4, 0, 0, 0), (17, 20, 49, 9, 0, 0), (20, 21, 0, 0, 0, 0), (21, 24, 25, 7, 1, 0), (24, 25, 2, 1, 0, 0), (25, 26, 42, 0, 0, 0)])
def M107 : Mth := (107, 4, 3, 1, 3, [(0, 1, 4, 0, 0, 0), (1, 2, 4, 1, 0, 0), (2, 3, 4, 2, 0, 0), (3, 6, 39, 108, 0, 0), (6, 9, 18, 1, 11, 0), (9, 10, 0, 0, 0, -1), (10, 11, 42, 0, 0, 0), (11, 12, 4, 0, 0, 0), (12, 13, 4, 2, 0, 0), (13, 16, 39, 109, 0, 0), (16, 17, 4, 0, 0, 0), (17, 18, 0, 0, 0, 0), (18, 21, 25, 4, 11, 0), (21, 22, 4, 0, 0, 0), (22, 25, 39, 112, 0, 0), (25, 28, 18, 0, 35, 0), (28, 29, 4, 0, 0, 0), (29, 30, 4, 2, 0, 0), (30, 31, 0, 0, 0, 0), (31, 32, 0, 0, 0, 0), (32, 35, 39, 113, 0, 0), (35, 36, 4, 0, 0, 0), (36, 39, 24, 4, 11, 0), (39, 42, 18, 5, 60, 0), (42, 43, 4, 0, 0, 0), (43, 44, 0, 0, 0, 1), (44, 47, 52, 4, 13, 0), (47, 48, 4, 0, 0, 0), (48, 49, 4, 2, 0, 0), (49, 52, 24, 1, 4, 0), (52, 55, 25, 4, 12, 0), (55, 56, 4, 0, 0, 0), (56, 57, 4, 2, 0, 0), (57, 60, 39, 117, 0, 0), (60, 61, 4, 0, 0, 0), (61, 64, 24, 4, 11, 0), (64, 65, 42, 0, 0, 0)])
def M108 : Mth := (108, 4, 3, 2, 8, [(0, 1, 4, 1, 0, 0), (1, 4, 24, 7, 1, 0), (4, 5, 0, 0, 0, 4), (5, 6, 9, 3, 0, 0), (6, 7, 5, 3, 0, 0), (7, 8, 4, 1, 0, 0), (8, 11, 24, 7, 1, 0), (11, 12, 0, 0, 0, 4), (12, 13, 9, 4, 0, 0), (13, 16, 18, 1, 27, 0), (16, 17, 2, 3, 0, 0), (17, 18, 0, 0, 0, 1), (18, 21, 19, 2, 27, 0), (21, 22, 2, 3, 0, 0), (22, 24, 0, 0, 0, 8), (24, 27, 19, 5, 29, 0), (27, 28, 0, 0, 0, 0), (28, 29, 42, 0, 0, 0), (29, 30, 4, 0, 0, 0), (30, 31, 2, 3, 0, 0), (31, 34, 25, 4, 1, 0), (34, 35, 0, 0, 0, 0), (35, 37, 5, 4, 0, 0), (37, 39, 2, 4, 0, 0), (39, 40, 4, 0, 0, 0), (40, 43, 24, 4, 1, 0), (43, 46, 19, 3, 177, 0), (46, 48, 2, 4, 0, 0), (48, 50, 0, 0, 0, 8), (50, 53, 19, 3, 177, 0), (53, 54, 4, 1, 0, 0), (54, 55, 0, 0, 0, 4), (55, 57, 2, 4, 0, 0), (57, 58, 9, 2, 0, 0), (58, 61, 39, 21, 0, 0), (61, 63, 5, 5, 0, 0), (63, 64, 4, 1, 0, 0), (64, 65, 0, 0, 0, 4), (65, 67, 2, 4, 0, 0), (67, 68, 9, 2, 0, 0), (68, 69, 0, 0, 0, 1), (69, 70, 9, 0, 0, 0), (70, 73, 39, 21, 0, 0), (73, 75, 5, 6, 0, 0), (75, 76, 4, 1, 0, 0), (76, 77, 0, 0, 0, 4), (77, 79, 2, 4, 0, 0), (79, 80, 9, 2, 0, 0), (80, 81, 0, 0, 0, 3), (81, 82, 9, 0, 0, 0), (82, 85, 39, 21, 0, 0), (85, 87, 5, 7, 0, 0), (87, 89, 2, 5, 0, 0), (89, 90, 4, 2, 0, 0), (90, 93, 24, 1, 0, 0), (93, 96, 19, 3, 120, 0), (96, 98, 2, 6, 0, 0), (98, 99, 4, 2, 0, 0), (99, 102, 24, 1, 1, 0), (102, 105, 19, 3, 120, 0), (105, 107, 2, 7, 0, 0), (107, 109, 0, 0, 0, 9), (109, 112, 19, 5, 122, 0), (112, 114, 2, 7, 0, 0), (114, 117, 0, 0, 0, 255), (117, 120, 19, 0, 122, 0), (120, 121, 0, 0, 0, 0), (121, 122, 42, 0, 0, 0), (122, 123, 4, 0, 0, 0), (123, 126, 49, 4, 2, 0), (126, 128, 2, 4, 0, 0), (128, 130, 2, 6, 0, 0), (130, 132, 0, 0, 0, 12), (132, 133, 9, 2, 0, 0), (133, 135, 2, 5, 0, 0), (135, 136, 9, 0, 0, 0), (136, 137, 31, 0, 0, 0), (137, 138, 4, 0, 0, 0), (138, 141, 49, 4, 7, 0), (141, 143, 2, 4, 0, 0), (143, 144, 4, 1, 0, 0), (144, 145, 0, 0, 0, 4), (145, 147, 2, 4, 0, 0), (147, 148, 9, 2, 0, 0), (148, 149, 0, 0, 0, 2), (149, 150, 9, 0, 0, 0), (150, 153, 39, 21, 0, 0), (153, 154, 31, 0, 0, 0), (154, 155, 4, 0, 0, 0), (155, 158, 49, 4, 9, 0), (158, 160, 2, 4, 0, 0), (160, 161, 0, 0, 0, -1), (161, 162, 31, 0, 0, 0), (162, 163, 4, 0, 0, 0), (163, 166, 49, 4, 3, 0), (166, 168, 2, 4, 0, 0), (168, 170, 2, 7, 0, 0), (170, 171, 31, 0, 0, 0), (171, 174, 8, 4, 0, 1), (174, 177, 22, 0, 37, 0), (177, 178, 0, 0, 0, 1), (178, 179, 42, 0, 0, 0)])
def M109 : Mth := (109, 4, 2, 0, 6, [(0, 1, 4, 1, 0, 0), (1, 4, 39, 110, 0, 0), (4, 5, 4, 1, 0, 0), (5, 8, 39, 82, 0, 0), (8, 9, 9, 2, 0, 0), (9, 10, 5, 2, 0, 0), (10, 11, 0, 0, 0, 0), (11, 12, 5, 3, 0, 0), (12, 13, 2, 3, 0, 0), (13, 15, 0, 0, 0, 8), (15, 18, 19, 3, 41, 0), (18, 19, 4, 0, 0, 0), (19, 22, 49, 4, 4, 0), (22, 23, 2, 3, 0, 0), (23, 24, 0, 0, 0, -1), (24, 25, 31, 0, 0, 0), (25, 26, 4, 0, 0, 0), (26, 29, 49, 4, 8, 0), (29, 31, 0, 0, 0, 48), (31, 32, 2, 3, 0, 0), (32, 33, 9, 0, 0, 0), (33, 34, 0, 0, 0, 0), (34, 35, 31, 0, 0, 0), (35, 38, 8, 3, 0, 1), (38, 41, 22, 0, 12, 0), (41, 42, 0, 0, 0, 5), (42, 43, 5, 3, 0, 0), (43, 44, 2, 3, 0, 0), (44, 47, 18, 2, 175, 0), (47, 48, 4, 0, 0, 0), (48, 51, 49, 4, 6, 0), (51, 52, 2, 3, 0, 0), (52, 53, 0, 0, 0, 1), (53, 54, 33, 0, 0, 0), (54, 55, 0, 0, 0, 0), (55, 57, 5, 4, 0, 0), (57, 59, 2, 4, 0, 0), (59, 60, 4, 0, 0, 0), (60, 63, 24, 4, 1, 0), (63, 66, 19, 3, 169, 0), (66, 68, 2, 4, 0, 0), (68, 70, 0, 0, 0, 8), (70, 73, 19, 3, 169, 0), (73, 74, 2, 3, 0, 0), (74, 76, 0, 0, 0, 8), (76, 77, 9, 2, 0, 0), (77, 79, 2, 4, 0, 0), (79, 80, 9, 0, 0, 0), (80, 82, 5, 5, 0, 0), (82, 83, 4, 0, 0, 0), (83, 86, 49, 4, 5, 0), (86, 88, 2, 5, 0, 0), (88, 89, 4, 1, 0, 0), (89, 90, 2, 3, 0, 0), (90, 91, 4, 0, 0, 0), (91, 94, 49, 4, 2, 0), (94, 96, 2, 4, 0, 0), (96, 97, 27, 0, 0, 0), (97, 100, 39, 111, 0, 0), (100, 101, 31, 0, 0, 0), (101, 102, 4, 0, 0, 0), (102, 105, 49, 4, 8, 0), (105, 107, 2, 5, 0, 0), (107, 108, 4, 0, 0, 0), (108, 111, 49, 4, 8, 0), (111, 113, 2, 5, 0, 0), (113, 115, 0, 0, 0, 8), (115, 116, 9, 0, 0, 0), (116, 117, 27, 0, 0, 0), (117, 118, 4, 0, 0, 0), (118, 121, 49, 4, 5, 0), (121, 123, 2, 5, 0, 0), (123, 124, 27, 0, 0, 0), (124, 125, 2, 2, 0, 0), (125, 126, 9, 2, 0, 0), (126, 127, 9, 0, 0, 0), (127, 128, 31, 0, 0, 0), (128, 129, 4, 0, 0, 0), (129, 132, 49, 4, 5, 0), (132, 134, 2, 5, 0, 0), (134, 135, 27, 0, 0, 0), (135, 138, 18, 5, 163, 0), (138, 139, 4, 0, 0, 0), (139, 142, 49, 4, 6, 0), (142, 143, 2, 3, 0, 0), (143, 144, 0, 0, 0, 0), (144, 145, 33, 0, 0, 0), (145, 146, 4, 0, 0, 0), (146, 149, 49, 4, 4, 0), (149, 151, 2, 4, 0, 0), (151, 152, 4, 0, 0, 0), (152, 155, 49, 4, 4, 0), (155, 157, 2, 4, 0, 0), (157, 158, 27, 0, 0, 0), (158, 159, 2, 3, 0, 0), (159, 162, 39, 85, 0, 0), (162, 163, 31, 0, 0, 0), (163, 166, 8, 4, 0, 1), (166, 169, 22, 0, 57, 0), (169, 172, 8, 3, 0, -1), (172, 175, 22, 0, 43, 0), (175, 176, 41, 0, 0, 0)])
def M110 : Mth := (110, 4, 1, 1, 3, [(0, 1, 0, 0, 0, 0), (1, 2, 5, 1, 0, 0), (2, 3, 0, 0, 0, 0), (3, 4, 5, 2, 0, 0), (4, 5, 2, 2, 0, 0), (5, 6, 4, 0, 0, 0), (6, 9, 24, 1, 3, 0), (9, 12, 19, 3, 28, 0), (12, 13, 2, 1, 0, 0), (13, 14, 4, 0, 0, 0), (14, 15, 2, 2, 0, 0), (15, 18, 39, 89, 0, 0), (18, 21, 39, 85, 0, 0), (21, 22, 5, 1, 0, 0), (22, 25, 8, 2, 0, 1), (25, 28, 22, 0, 4, 0), (28, 29, 2, 1, 0, 0), (29, 30, 42, 0, 0, 0)])
def M111 : Mth := (111, 1, 3, 1, 6, [(0, 1, 0, 0, 0, 0), (1, 2, 5, 3, 0, 0), (2, 3, 4, 0, 0, 0), (3, 4, 2, 1, 0, 0), (4, 7, 39, 66, 0, 0), (7, 9, 5, 4, 0, 0), (9, 10, 0, 0, 0, 0), (10, 12, 5, 5, 0, 0), (12, 14, 2, 5, 0, 0), (14, 16, 2, 4, 0, 0), (16, 19, 19, 3, 39, 0), (19, 20, 4, 0, 0, 0), (20, 21, 2, 1, 0, 0), (21, 23, 2, 5, 0, 0), (23, 26, 39, 65, 0, 0), (26, 27, 2, 2, 0, 0), (27, 30, 19, 1, 33, 0), (30, 33, 8, 3, 0, 1), (33, 36, 8, 5, 0, 1), (36, 39, 22, 0, 12, 0), (39, 40, 2, 3, 0, 0), (40, 41, 42, 0, 0, 0)])
def M112 : Mth := (112, 4, 1, 2, 2, [(0, 1, 0, 0, 0, 0), (1, 2, 5, 1, 0, 0), (2, 3, 2, 1, 0, 0), (3, 4, 4, 0, 0, 0), (4, 7, 24, 4, 1, 0), (7, 10, 19, 3, 61, 0), (10, 11, 2, 1, 0, 0), (11, 13, 0, 0, 0, 8), (13, 16, 19, 3, 61, 0), (16, 17, 4, 0, 0, 0), (17, 20, 49, 4, 7, 0), (20, 21, 2, 1, 0, 0), (21, 22, 27, 0, 0, 0), (22, 23, 4, 0, 0, 0), (23, 26, 49, 4, 8, 0), (26, 27, 2, 1, 0, 0), (27, 28, 27, 0, 0, 0), (28, 31, 19, 4, 53, 0), (31, 32, 4, 0, 0, 0), (32, 35, 49, 4, 4, 0), (35, 36, 2, 1, 0, 0), (36, 37, 27, 0, 0, 0), (37, 38, 0, 0, 0, -1), (38, 41, 19, 1, 55, 0), (41, 42, 4, 0, 0, 0), (42, 45, 49, 4, 3, 0), (45, 46, 2, 1, 0, 0), (46, 47, 27, 0, 0, 0), (47, 50, 0, 0, 0, 255), (50, 53, 19, 0, 55, 0), (53, 54, 0, 0, 0, 0), (54, 55, 42, 0, 0, 0), (55, 58, 8, 1, 0, 1), (58, 61, 22, 0, 2, 0), (61, 62, 0, 0, 0, 1), (62, 63, 42, 0, 0, 0)])
def M113 : Mth := (113, 4, 4, 0, 6, [(0, 1, 2, 2, 0, 0), (1, 2, 4, 1, 0, 0), (2, 5, 24, 1, 4, 0), (5, 8, 19, 3, 18, 0), (8, 9, 2, 2, 0, 0), (9, 12, 18, 2, 18, 0), (12, 13, 2, 2, 0, 0), (13, 15, 0, 0, 0, 6), (15, 18, 19, 2, 28, 0), (18, 19, 4, 0, 0, 0), (19, 20, 4, 1, 0, 0), (20, 21, 2, 3, 0, 0), (21, 24, 39, 114, 0, 0), (24, 27, 39, 115, 0, 0), (27, 28, 41, 0, 0, 0), (28, 29, 4, 0, 0, 0), (29, 32, 49, 4, 6, 0), (32, 33, 2, 2, 0, 0), (33, 34, 29, 0, 0, 0), (34, 37, 18, 0, 41, 0), (37, 38, 0, 0, 0, 0), (38, 41, 22, 0, 45, 0), (41, 42, 4, 1, 0, 0), (42, 45, 24, 1, 3, 0), (45, 47, 5, 4, 0, 0), (47, 48, 0, 0, 0, -1), (48, 50, 5, 5, 0, 0), (50, 52, 2, 5, 0, 0), (52, 54, 2, 4, 0, 0), (54, 57, 19, 3, 106, 0), (57, 58, 4, 0, 0, 0), (58, 61, 49, 4, 10, 0), (61, 62, 2, 2, 0, 0), (62, 64, 2, 5, 0, 0), (64, 65, 31, 0, 0, 0), (65, 66, 4, 0, 0, 0), (66, 67, 4, 1, 0, 0), (67, 68, 2, 2, 0, 0), (68, 70, 2, 5, 0, 0), (70, 73, 39, 116, 0, 0), (73, 76, 18, 0, 100, 0), (76, 77, 4, 0, 0, 0), (77, 78, 4, 1, 0, 0), (78, 79, 2, 2, 0, 0), (79, 80, 0, 0, 0, 1), (80, 81, 9, 0, 0, 0), (81, 83, 2, 5, 0, 0), (83, 84, 0, 0, 0, -1), (84, 87, 19, 1, 91, 0), (87, 88, 2, 3, 0, 0), (88, 91, 22, 0, 97, 0), (91, 92, 2, 3, 0, 0), (92, 93, 0, 0, 0, 1), (93, 95, 2, 5, 0, 0), (95, 96, 9, 8, 0, 0), (96, 97, 9, 6, 0, 0), (97, 100, 39, 113, 0, 0), (100, 103, 8, 5, 0, 1), (103, 106, 22, 0, 50, 0), (106, 107, 41, 0, 0, 0)])
def M114 : Mth := (114, 14, 1, 1, 1, [(0, 1, 2, 0, 0, 0), (1, 2, 2, 0, 0, 0), (2, 3, 0, 0, 0, 1), (3, 4, 9, 10, 0, 0), (4, 7, 0, 0, 0, 1431655765), (7, 8, 9, 5, 0, 0), (8, 9, 9, 1, 0, 0), (9, 10, 5, 0, 0, 0), (10, 11, 2, 0, 0, 0), (11, 14, 0, 0, 0, 858993459), (14, 15, 9, 5, 0, 0), (15, 16, 2, 0, 0, 0), (16, 17, 0, 0, 0, 2), (17, 18, 9, 10, 0, 0), (18, 21, 0, 0, 0, 858993459), (21, 22, 9, 5, 0, 0), (22, 23, 9, 0, 0, 0), (23, 24, 5, 0, 0, 0), (24, 25, 2, 0, 0, 0), (25, 26, 2, 0, 0, 0), (26, 27, 0, 0, 0, 4), (27, 28, 9, 10, 0, 0), (28, 29, 9, 0, 0, 0), (29, 32, 0, 0, 0, 252645135), (32, 33, 9, 5, 0, 0), (33, 34, 5, 0, 0, 0), (34, 35, 2, 0, 0, 0), (35, 36, 2, 0, 0, 0), (36, 38, 0, 0, 0, 8), (38, 39, 9, 10, 0, 0), (39, 40, 9, 0, 0, 0), (40, 41, 5, 0, 0, 0), (41, 42, 2, 0, 0, 0), (42, 43, 2, 0, 0, 0), (43, 45, 0, 0, 0, 16), (45, 46, 9, 10, 0, 0), (46, 47, 9, 0, 0, 0), (47, 48, 5, 0, 0, 0), (48, 49, 2, 0, 0, 0), (49, 51, 0, 0, 0, 63), (51, 52, 9, 5, 0, 0), (52, 53, 42, 0, 0, 0)])
def M115 : Mth := (115, 4, 3, 0, 4, [(0, 1, 4, 0, 0, 0), (1, 2, 15, 0, 0, 0), (2, 5, 24, 4, 11, 0), (5, 6, 0, 0, 0, 1), (6, 7, 9, 0, 0, 0), (7, 10, 25, 4, 11, 0), (10, 11, 4, 0, 0, 0), (11, 14, 24, 4, 11, 0), (14, 15, 0, 0, 0, 1), (15, 18, 19, 0, 26, 0), (18, 19, 2, 2, 0, 0), (19, 20, 4, 0, 0, 0), (20, 23, 24, 4, 0, 0), (23, 26, 19, 3, 31, 0), (26, 27, 4, 0, 0, 0), (27, 28, 2, 2, 0, 0), (28, 31, 25, 4, 0, 0), (31, 32, 0, 0, 0, 0), (32, 33, 5, 3, 0, 0), (33, 34, 2, 3, 0, 0), (34, 35, 4, 1, 0, 0), (35, 38, 24, 1, 4, 0), (38, 41, 19, 3, 111, 0), (41, 42, 2, 3, 0, 0), (42, 44, 0, 0, 0, 6), (44, 47, 19, 3, 111, 0), (47, 48, 4, 0, 0, 0), (48, 51, 24, 4, 11, 0), (51, 52, 0, 0, 0, 1), (52, 55, 19, 1, 82, 0), (55, 56, 4, 0, 0, 0), (56, 59, 49, 4, 14, 0), (59, 60, 2, 3, 0, 0), (60, 61, 4, 0, 0, 0), (61, 64, 49, 4, 10, 0), (64, 65, 2, 3, 0, 0), (65, 66, 27, 0, 0, 0), (66, 67, 31, 0, 0, 0), (67, 68, 4, 0, 0, 0), (68, 71, 49, 4, 15, 0), (71, 72, 2, 3, 0, 0), (72, 73, 4, 0, 0, 0), (73, 76, 49, 4, 10, 0), (76, 77, 2, 3, 0, 0), (77, 78, 27, 0, 0, 0), (78, 79, 31, 0, 0, 0), (79, 82, 22, 0, 105, 0), (82, 83, 4, 0, 0, 0), (83, 86, 49, 4, 15, 0), (86, 87, 2, 3, 0, 0), (87, 88, 27, 0, 0, 0), (88, 89, 4, 0, 0, 0), (89, 92, 49, 4, 10, 0), (92, 93, 2, 3, 0, 0), (93, 94, 27, 0, 0, 0), (94, 97, 19, 0, 105, 0), (97, 98, 4, 0, 0, 0), (98, 101, 49, 4, 15, 0), (101, 102, 2, 3, 0, 0), (102, 104, 0, 0, 0, -2), (104, 105, 31, 0, 0, 0), (105, 108, 8, 3, 0, 1), (108, 111, 22, 0, 33, 0), (111, 112, 41, 0, 0, 0)])
def M116 : Mth := (116, 4, 4, 2, 8, [(0, 1, 2, 2, 0, 0), (1, 4, 18, 2, 10, 0), (4, 5, 2, 2, 0, 0), (5, 7, 0, 0, 0, 6), (7, 10, 19, 2, 12, 0), (10, 11, 0, 0, 0, 0), (11, 12, 42, 0, 0, 0), (12, 13, 4, 1, 0, 0), (13, 14, 2, 3, 0, 0), (14, 17, 39, 89, 0, 0), (17, 18, 4, 1, 0, 0), (18, 21, 39, 82, 0, 0), (21, 22, 9, 2, 0, 0), (22, 24, 5, 4, 0, 0), (24, 25, 0, 0, 0, 0), (25, 27, 5, 5, 0, 0), (27, 29, 2, 5, 0, 0), (29, 30, 4, 0, 0, 0), (30, 33, 24, 4, 1, 0), (33, 36, 19, 3, 199, 0), (36, 38, 2, 5, 0, 0), (38, 40, 0, 0, 0, 8), (40, 43, 19, 3, 199, 0), (43, 44, 2, 2, 0, 0), (44, 46, 0, 0, 0, 8), (46, 47, 9, 2, 0, 0), (47, 49, 2, 5, 0, 0), (49, 50, 9, 0, 0, 0), (50, 52, 5, 6, 0, 0), (52, 54, 2, 6, 0, 0), (54, 56, 0, 0, 0, 8), (56, 57, 9, 0, 0, 0), (57, 59, 5, 7, 0, 0), (59, 60, 4, 0, 0, 0), (60, 63, 49, 4, 7, 0), (63, 65, 2, 7, 0, 0), (65, 66, 4, 0, 0, 0), (66, 69, 49, 4, 7, 0), (69, 71, 2, 6, 0, 0), (71, 72, 27, 0, 0, 0), (72, 73, 4, 0, 0, 0), (73, 76, 49, 4, 5, 0), (76, 78, 2, 6, 0, 0), (78, 79, 27, 0, 0, 0), (79, 81, 2, 4, 0, 0), (81, 82, 9, 2, 0, 0), (82, 83, 9, 1, 0, 0), (83, 84, 31, 0, 0, 0), (84, 85, 4, 0, 0, 0), (85, 88, 49, 4, 9, 0), (88, 90, 2, 7, 0, 0), (90, 91, 2, 3, 0, 0), (91, 92, 0, 0, 0, -1), (92, 95, 19, 0, 113, 0), (95, 96, 4, 0, 0, 0), (96, 99, 49, 4, 5, 0), (99, 101, 2, 6, 0, 0), (101, 102, 27, 0, 0, 0), (102, 105, 18, 5, 113, 0), (105, 106, 4, 1, 0, 0), (106, 107, 2, 3, 0, 0), (107, 110, 39, 73, 0, 0), (110, 113, 22, 0, 120, 0), (113, 114, 4, 0, 0, 0), (114, 117, 49, 4, 9, 0), (117, 119, 2, 6, 0, 0), (119, 120, 27, 0, 0, 0), (120, 121, 31, 0, 0, 0), (121, 122, 4, 0, 0, 0), (122, 125, 49, 4, 7, 0), (125, 127, 2, 7, 0, 0), (127, 128, 27, 0, 0, 0), (128, 131, 18, 2, 148, 0), (131, 132, 4, 0, 0, 0), (132, 135, 49, 4, 7, 0), (135, 137, 2, 7, 0, 0), (137, 138, 27, 0, 0, 0), (138, 139, 4, 0, 0, 0), (139, 142, 49, 4, 8, 0), (142, 144, 2, 7, 0, 0), (144, 145, 27, 0, 0, 0), (145, 148, 19, 5, 150, 0), (148, 149, 0, 0, 0, 0), (149, 150, 42, 0, 0, 0), (150, 151, 4, 0, 0, 0), (151, 154, 49, 4, 4, 0), (154, 156, 2, 5, 0, 0), (156, 157, 27, 0, 0, 0), (157, 158, 2, 2, 0, 0), (158, 161, 19, 1, 193, 0), (161, 162, 4, 0, 0, 0), (162, 165, 49, 4, 3, 0), (165, 167, 2, 5, 0, 0), (167, 168, 27, 0, 0, 0), (168, 171, 0, 0, 0, 255), (171, 174, 19, 0, 193, 0), (174, 175, 4, 0, 0, 0), (175, 178, 49, 4, 3, 0), (178, 180, 2, 5, 0, 0), (180, 181, 27, 0, 0, 0), (181, 182, 4, 0, 0, 0), (182, 185, 49, 4, 9, 0), (185, 187, 2, 7, 0, 0), (187, 188, 27, 0, 0, 0), (188, 191, 19, 0, 193, 0), (191, 192, 0, 0, 0, 0), (192, 193, 42, 0, 0, 0), (193, 196, 8, 5, 0, 1), (196, 199, 22, 0, 27, 0), (199, 200, 0, 0, 0, 1), (200, 201, 42, 0, 0, 0)])
def M117 : Mth := (117, 4, 2, 0, 3, [(0, 1, 0, 0, 0, 0), (1, 2, 5, 2, 0, 0), (2, 3, 2, 2, 0, 0), (3, 4, 4, 1, 0, 0), (4, 7, 24, 1, 4, 0), (7, 10, 19, 3, 61, 0), (10, 11, 2, 2, 0, 0), (11, 13, 0, 0, 0, 6), (13, 16, 19, 3, 61, 0), (16, 17, 4, 0, 0, 0), (17, 20, 49, 4, 6, 0), (20, 21, 2, 2, 0, 0), (21, 22, 29, 0, 0, 0), (22, 25, 18, 0, 55, 0), (25, 26, 4, 1, 0, 0), (26, 29, 24, 1, 3, 0), (29, 32, 18, 5, 55, 0), (32, 33, 4, 0, 0, 0), (33, 34, 15, 0, 0, 0), (34, 37, 24, 4, 11, 0), (37, 38, 4, 1, 0, 0), (38, 41, 24, 1, 3, 0), (41, 42, 0, 0, 0, 1), (42, 43, 9, 0, 0, 0), (43, 44, 9, 2, 0, 0), (44, 47, 25, 4, 11, 0), (47, 48, 4, 0, 0, 0), (48, 51, 49, 4, 15, 0), (51, 52, 2, 2, 0, 0), (52, 54, 0, 0, 0, -2), (54, 55, 31, 0, 0, 0), (55, 58, 8, 2, 0, 1), (58, 61, 22, 0, 2, 0), (61, 62, 41, 0, 0, 0)])
def M118 : Mth := (118, 9, 3, 1, 3, [(0, 1, 4, 0, 0, 0), (1, 4, 49, 9, 14, 0), (4, 5, 2, 1, 0, 0), (5, 6, 2, 2, 0, 0), (6, 9, 39, 119, 0, 0), (9, 10, 42, 0, 0, 0)])
def M119 : Mth := (119, 4, 3, 1, 3, [(0, 1, 4, 0, 0, 0), (1, 4, 24, 4, 13, 0), (4, 7, 18, 0, 34, 0), (7, 8, 2, 1, 0, 0), (8, 11, 18, 2, 34, 0), (11, 12, 2, 1, 0, 0), (12, 13, 4, 0, 0, 0), (13, 16, 24, 4, 12, 0), (16, 19, 19, 3, 34, 0), (19, 20, 2, 1, 0, 0), (20, 22, 0, 0, 0, 6), (22, 25, 19, 3, 34, 0), (25, 26, 2, 2, 0, 0), (26, 29, 18, 2, 34, 0), (29, 30, 2, 2, 0, 0), (30, 31, 0, 0, 0, 1), (31, 34, 19, 5, 37, 0), (34, 36, 0, 0, 0, -3), (36, 37, 42, 0, 0, 0), (37, 38, 2, 2, 0, 0), (38, 41, 18, 1, 50, 0), (41, 42, 4, 0, 0, 0), (42, 45, 49, 4, 14, 0), (45, 46, 2, 1, 0, 0), (46, 47, 27, 0, 0, 0), (47, 50, 22, 0, 56, 0), (50, 51, 4, 0, 0, 0), (51, 54, 49, 4, 15, 0), (54, 55, 2, 1, 0, 0), (55, 56, 27, 0, 0, 0), (56, 57, 42, 0, 0, 0)])
def M120 : Mth := (120, 9, 1, 1, 1, [(0, 1, 4, 0, 0, 0), (1, 4, 49, 9, 14, 0), (4, 7, 24, 4, 0, 0), (7, 8, 42, 0, 0, 0)])
def M121 : Mth := (121, 9, 4, 1, 4, [(0, 1, 4, 0, 0, 0), (1, 4, 49, 9, 16, 0), (4, 5, 4, 0, 0, 0), (5, 8, 49, 9, 2, 0), (8, 9, 4, 0, 0, 0), (9, 12, 49, 9, 6, 0), (12, 13, 2, 1, 0, 0), (13, 14, 2, 2, 0, 0), (14, 15, 2, 3, 0, 0), (15, 18, 39, 122, 0, 0), (18, 21, 18, 0, 40, 0), (21, 22, 4, 0, 0, 0), (22, 25, 49, 9, 16, 0), (25, 28, 24, 0, 0, 0), (28, 29, 4, 0, 0, 0), (29, 32, 49, 9, 2, 0), (32, 33, 2, 1, 0, 0), (33, 36, 39, 89, 0, 0), (36, 37, 9, 2, 0, 0), (37, 40, 22, 0, 41, 0), (40, 41, 0, 0, 0, -1), (41, 42, 42, 0, 0, 0)])
def M122 : Mth := (122, 0, 6, 2, 9, [(0, 1, 4, 1, 0, 0), (1, 2, 2, 3, 0, 0), (2, 5, 39, 69, 0, 0), (5, 8, 18, 0, 26, 0), (8, 9, 4, 1, 0, 0), (9, 11, 2, 4, 0, 0), (11, 14, 39, 123, 0, 0), (14, 17, 18, 0, 26, 0), (17, 18, 4, 1, 0, 0), (18, 20, 2, 5, 0, 0), (20, 23, 39, 123, 0, 0), (23, 26, 18, 1, 28, 0), (26, 27, 0, 0, 0, 0), (27, 28, 42, 0, 0, 0), (28, 29, 0, 0, 0, 0), (29, 31, 5, 6, 0, 0), (31, 33, 2, 6, 0, 0), (33, 36, 0, 0, 0, 144), (36, 39, 19, 3, 62, 0), (39, 40, 4, 0, 0, 0), (40, 43, 49, 0, 2, 0), (43, 45, 2, 6, 0, 0), (45, 47, 0, 0, 0, 1000000), (47, 48, 31, 0, 0, 0), (48, 49, 4, 0, 0, 0), (49, 52, 49, 0, 3, 0), (52, 54, 2, 6, 0, 0), (54, 55, 0, 0, 0, 0), (55, 56, 33, 0, 0, 0), (56, 59, 8, 6, 0, 1), (59, 62, 22, 0, 31, 0), (62, 63, 4, 1, 0, 0), (63, 64, 2, 3, 0, 0), (64, 67, 39, 73, 0, 0), (67, 69, 5, 6, 0, 0), (69, 71, 2, 4, 0, 0), (71, 74, 18, 2, 97, 0), (74, 76, 2, 4, 0, 0), (76, 79, 0, 0, 0, 144), (79, 82, 19, 3, 97, 0), (82, 83, 4, 0, 0, 0), (83, 86, 49, 0, 2, 0), (86, 88, 2, 4, 0, 0), (88, 89, 4, 2, 0, 0), (89, 91, 2, 4, 0, 0), (91, 93, 2, 6, 0, 0), (93, 96, 39, 124, 0, 0), (96, 97, 31, 0, 0, 0), (97, 98, 0, 0, 0, 0), (98, 100, 5, 7, 0, 0), (100, 102, 2, 7, 0, 0), (102, 105, 0, 0, 0, 144), (105, 108, 19, 3, 146, 0), (108, 109, 4, 0, 0, 0), (109, 112, 39, 125, 0, 0), (112, 114, 5, 8, 0, 0), (114, 116, 2, 8, 0, 0), (116, 117, 0, 0, 0, -1), (117, 120, 19, 0, 146, 0), (120, 122, 2, 8, 0, 0), (122, 124, 2, 5, 0, 0), (124, 127, 19, 1, 130, 0), (127, 130, 22, 0, 146, 0), (130, 131, 4, 0, 0, 0), (131, 132, 4, 1, 0, 0), (132, 133, 4, 2, 0, 0), (133, 135, 2, 8, 0, 0), (135, 137, 2, 6, 0, 0), (137, 140, 39, 126, 0, 0), (140, 143, 8, 7, 0, 1), (143, 146, 22, 0, 100, 0), (146, 148, 2, 5, 0, 0), (148, 151, 18, 2, 169, 0), (151, 153, 2, 5, 0, 0), (153, 156, 0, 0, 0, 144), (156, 159, 19, 3, 169, 0), (159, 160, 4, 0, 0, 0), (160, 163, 49, 0, 2, 0), (163, 165, 2, 5, 0, 0), (165, 166, 27, 0, 0, 0), (166, 169, 22, 0, 171, 0), (169, 171, 0, 0, 0, 1000000), (171, 173, 5, 7, 0, 0), (173, 174, 4, 0, 0, 0), (174, 176, 2, 7, 0, 0), (176, 179, 0, 0, 0, 1000), (179, 180, 9, 3, 0, 0), (180, 183, 25, 0, 0, 0), (183, 184, 4, 0, 0, 0), (184, 186, 2, 7, 0, 0), (186, 189, 0, 0, 0, 1000), (189, 190, 9, 4, 0, 0), (190, 193, 25, 0, 1, 0), (193, 195, 2, 7, 0, 0), (195, 197, 0, 0, 0, 1000000), (197, 200, 19, 3, 204, 0), (200, 201, 0, 0, 0, 1), (201, 204, 22, 0, 205, 0), (204, 205, 0, 0, 0, 0), (205, 206, 42, 0, 0, 0)])
def M123 : Mth := (123, 0, 2, 2, 2, [(0, 1, 4, 0, 0, 0), (1, 2, 2, 1, 0, 0), (2, 5, 39, 56, 0, 0), (5, 8, 18, 0, 20, 0), (8, 9, 4, 0, 0, 0), (9, 10, 2, 1, 0, 0), (10, 13, 39, 50, 0, 0), (13, 16, 18, 1, 20, 0), (16, 17, 0, 0, 0, 1), (17, 20, 22, 0, 21, 0), (20, 21, 0, 0, 0, 0), (21, 22, 42, 0, 0, 0)])
def M124 : Mth := (124, 0, 3, 1, 3, [(0, 1, 4, 0, 0, 0), (1, 2, 2, 1, 0, 0), (2, 5, 39, 100, 0, 0), (5, 6, 2, 2, 0, 0), (6, 9, 19, 1, 13, 0), (9, 10, 0, 0, 0, 0), (10, 13, 22, 0, 16, 0), (13, 16, 0, 0, 0, 1000), (16, 17, 42, 0, 0, 0)])
def M125 : Mth := (125, 0, 1, 1, 3, [(0, 1, 0, 0, 0, -1), (1, 2, 5, 1, 0, 0), (2, 3, 0, 0, 0, 0), (3, 4, 5, 2, 0, 0), (4, 5, 2, 2, 0, 0), (5, 8, 0, 0, 0, 144), (8, 11, 19, 3, 59, 0), (11, 12, 4, 0, 0, 0), (12, 15, 49, 0, 3, 0), (15, 16, 2, 2, 0, 0), (16, 17, 29, 0, 0, 0), (17, 20, 18, 1, 53, 0), (20, 21, 4, 0, 0, 0), (21, 24, 49, 0, 2, 0), (24, 25, 2, 2, 0, 0), (25, 26, 27, 0, 0, 0), (26, 28, 0, 0, 0, 1000000), (28, 31, 19, 3, 53, 0), (31, 32, 2, 1, 0, 0), (32, 33, 0, 0, 0, -1), (33, 36, 19, 0, 51, 0), (36, 37, 4, 0, 0, 0), (37, 40, 49, 0, 2, 0), (40, 41, 2, 2, 0, 0), (41, 42, 27, 0, 0, 0), (42, 43, 4, 0, 0, 0), (43, 46, 49, 0, 2, 0), (46, 47, 2, 1, 0, 0), (47, 48, 27, 0, 0, 0), (48, 51, 19, 3, 53, 0), (51, 52, 2, 2, 0, 0), (52, 53, 5, 1, 0, 0), (53, 56, 8, 2, 0, 1), (56, 59, 22, 0, 4, 0), (59, 60, 2, 1, 0, 0), (60, 61, 42, 0, 0, 0)])
def M126 : Mth := (126, 0, 5, 0, 7, [(0, 1, 2, 3, 0, 0), (1, 4, 18, 2, 11, 0), (4, 5, 2, 3, 0, 0), (5, 8, 0, 0, 0, 144), (8, 11, 19, 2, 12, 0), (11, 12, 41, 0, 0, 0), (12, 13, 4, 0, 0, 0), (13, 16, 49, 0, 3, 0), (16, 17, 2, 3, 0, 0), (17, 18, 0, 0, 0, 1), (18, 19, 33, 0, 0, 0), (19, 20, 0, 0, 0, 0), (20, 22, 5, 5, 0, 0), (22, 24, 2, 5, 0, 0), (24, 25, 0, 0, 0, 4), (25, 28, 19, 3, 99, 0), (28, 29, 4, 1, 0, 0), (29, 30, 2, 3, 0, 0), (30, 32, 2, 5, 0, 0), (32, 35, 39, 55, 0, 0), (35, 37, 5, 6, 0, 0), (37, 39, 2, 6, 0, 0), (39, 42, 18, 2, 93, 0), (42, 44, 2, 6, 0, 0), (44, 47, 0, 0, 0, 144), (47, 50, 19, 3, 93, 0), (50, 51, 4, 1, 0, 0), (51, 53, 2, 6, 0, 0), (53, 56, 39, 123, 0, 0), (56, 59, 18, 0, 93, 0), (59, 60, 4, 0, 0, 0), (60, 63, 49, 0, 2, 0), (63, 65, 2, 6, 0, 0), (65, 66, 4, 0, 0, 0), (66, 69, 49, 0, 2, 0), (69, 71, 2, 6, 0, 0), (71, 72, 27, 0, 0, 0), (72, 73, 4, 0, 0, 0), (73, 76, 49, 0, 2, 0), (76, 77, 2, 3, 0, 0), (77, 78, 27, 0, 0, 0), (78, 79, 0, 0, 0, 1), (79, 80, 9, 0, 0, 0), (80, 81, 4, 2, 0, 0), (81, 83, 2, 6, 0, 0), (83, 85, 2, 4, 0, 0), (85, 88, 39, 124, 0, 0), (88, 89, 9, 0, 0, 0), (89, 92, 39, 19, 0, 0), (92, 93, 31, 0, 0, 0), (93, 96, 8, 5, 0, 1), (96, 99, 22, 0, 22, 0), (99, 100, 41, 0, 0, 0)])
def M127 : Mth := (127, 9, 4, 1, 4, [(0, 1, 4, 0, 0, 0), (1, 4, 49, 9, 16, 0), (4, 5, 4, 0, 0, 0), (5, 8, 49, 9, 2, 0), (8, 9, 4, 0, 0, 0), (9, 12, 49, 9, 6, 0), (12, 13, 2, 1, 0, 0), (13, 14, 2, 2, 0, 0), (14, 15, 2, 3, 0, 0), (15, 18, 39, 122, 0, 0), (18, 21, 18, 0, 31, 0), (21, 22, 4, 0, 0, 0), (22, 25, 49, 9, 16, 0), (25, 28, 24, 0, 1, 0), (28, 31, 22, 0, 32, 0), (31, 32, 0, 0, 0, -1), (32, 33, 42, 0, 0, 0)])
def M128 : Mth := (128, 9, 1, 1, 2, [(0, 1, 4, 0, 0, 0), (1, 4, 49, 9, 15, 0), (4, 5, 4, 0, 0, 0), (5, 8, 49, 9, 0, 0), (8, 9, 4, 0, 0, 0), (9, 12, 49, 9, 2, 0), (12, 15, 39, 129, 0, 0), (15, 16, 5, 1, 0, 0), (16, 17, 4, 0, 0, 0), (17, 20, 49, 9, 0, 0), (20, 21, 0, 0, 0, 0), (21, 24, 25, 7, 1, 0), (24, 25, 2, 1, 0, 0), (25, 28, 18, 0, 42, 0), (28, 29, 4, 0, 0, 0), (29, 32, 49, 9, 15, 0), (32, 33, 4, 0, 0, 0), (33, 36, 49, 9, 2, 0), (36, 39, 39, 132, 0, 0), (39, 42, 22, 0, 52, 0), (42, 44, 0, 0, 0, -2), (44, 45, 4, 0, 0, 0), (45, 48, 49, 9, 0, 0), (48, 51, 24, 7, 3, 0), (51, 52, 9, 1, 0, 0), (52, 53, 42, 0, 0, 0)])
def M129 : Mth := (129, 8, 3, 2, 4, [(0, 1, 4, 0, 0, 0), (1, 2, 0, 0, 0, 0), (2, 5, 25, 8, 2, 0), (5, 6, 4, 1, 0, 0), (6, 9, 0, 0, 0, 300), (9, 12, 39, 18, 0, 0), (12, 13, 4, 0, 0, 0), (13, 14, 4, 1, 0, 0), (14, 15, 4, 2, 0, 0), (15, 18, 39, 130, 0, 0), (18, 21, 18, 1, 23, 0), (21, 22, 0, 0, 0, 0), (22, 23, 42, 0, 0, 0), (23, 24, 0, 0, 0, 0), (24, 25, 5, 3, 0, 0), (25, 26, 2, 3, 0, 0), (26, 28, 0, 0, 0, 30), (28, 31, 19, 4, 63, 0), (31, 32, 4, 1, 0, 0), (32, 35, 39, 30, 0, 0), (35, 38, 18, 1, 63, 0), (38, 39, 4, 0, 0, 0), (39, 40, 4, 1, 0, 0), (40, 43, 39, 131, 0, 0), (43, 46, 18, 0, 55, 0), (46, 47, 4, 1, 0, 0), (47, 49, 0, 0, 0, 59), (49, 52, 39, 58, 0, 0), (52, 55, 18, 1, 57, 0), (55, 56, 0, 0, 0, 0), (56, 57, 42, 0, 0, 0), (57, 60, 8, 3, 0, 1), (60, 63, 22, 0, 25, 0), (63, 64, 4, 1, 0, 0), (64, 67, 39, 60, 0, 0), (67, 68, 42, 0, 0, 0)])
def M130 : Mth := (130, 8, 3, 2, 7, [(0, 1, 4, 1, 0, 0), (1, 4, 39, 42, 0, 0), (4, 5, 6, 3, 0, 0), (5, 6, 3, 3, 0, 0), (6, 9, 1, 3, 0, 0), (9, 10, 11, 0, 0, 0), (10, 13, 18, 1, 15, 0), (13, 14, 0, 0, 0, 0), (14, 15, 42, 0, 0, 0), (15, 16, 4, 0, 0, 0), (16, 17, 4, 2, 0, 0), (17, 18, 3, 3, 0, 0), (18, 21, 39, 43, 0, 0), (21, 24, 25, 8, 0, 0), (24, 25, 4, 0, 0, 0), (25, 28, 24, 8, 0, 0), (28, 29, 0, 0, 0, -1), (29, 32, 19, 1, 38, 0), (32, 33, 4, 1, 0, 0), (33, 34, 0, 0, 0, 3), (34, 37, 39, 36, 0, 0), (37, 38, 42, 0, 0, 0), (38, 39, 4, 1, 0, 0), (39, 42, 39, 37, 0, 0), (42, 43, 4, 1, 0, 0), (43, 44, 0, 0, 0, 0), (44, 45, 4, 2, 0, 0), (45, 48, 24, 1, 0, 0), (48, 49, 0, 0, 0, 1), (49, 50, 9, 1, 0, 0), (50, 53, 39, 38, 0, 0), (53, 55, 5, 5, 0, 0), (55, 57, 2, 5, 0, 0), (57, 58, 0, 0, 0, -1), (58, 61, 19, 1, 63, 0), (61, 62, 0, 0, 0, 0), (62, 63, 42, 0, 0, 0), (63, 64, 4, 1, 0, 0), (64, 65, 0, 0, 0, 0), (65, 66, 4, 2, 0, 0), (66, 69, 24, 1, 1, 0), (69, 70, 0, 0, 0, 1), (70, 71, 9, 1, 0, 0), (71, 74, 39, 38, 0, 0), (74, 76, 5, 6, 0, 0), (76, 78, 2, 6, 0, 0), (78, 79, 0, 0, 0, -1), (79, 82, 19, 1, 84, 0), (82, 83, 0, 0, 0, 0), (83, 84, 42, 0, 0, 0), (84, 85, 4, 0, 0, 0), (85, 87, 2, 6, 0, 0), (87, 89, 0, 0, 0, 12), (89, 90, 9, 2, 0, 0), (90, 92, 2, 5, 0, 0), (92, 93, 9, 0, 0, 0), (93, 96, 25, 8, 1, 0), (96, 97, 4, 1, 0, 0), (97, 99, 0, 0, 0, 59), (99, 102, 39, 58, 0, 0), (102, 103, 42, 0, 0, 0)])
def M131 : Mth := (131, 8, 2, 2, 4, [(0, 1, 4, 0, 0, 0), (1, 4, 24, 8, 2, 0), (4, 5, 5, 2, 0, 0), (5, 6, 4, 1, 0, 0), (6, 9, 39, 53, 0, 0), (9, 10, 5, 3, 0, 0), (10, 11, 2, 3, 0, 0), (11, 12, 0, 0, 0, -1), (12, 15, 19, 1, 21, 0), (15, 16, 4, 1, 0, 0), (16, 17, 0, 0, 0, 1), (17, 20, 39, 36, 0, 0), (20, 21, 42, 0, 0, 0), (21, 22, 2, 2, 0, 0), (22, 25, 18, 2, 31, 0), (25, 26, 2, 2, 0, 0), (26, 28, 0, 0, 0, 30), (28, 31, 19, 2, 37, 0), (31, 32, 4, 1, 0, 0), (32, 33, 0, 0, 0, 4), (33, 36, 39, 36, 0, 0), (36, 37, 42, 0, 0, 0), (37, 38, 4, 1, 0, 0), (38, 41, 39, 37, 0, 0), (41, 42, 4, 0, 0, 0), (42, 45, 49, 8, 3, 0), (45, 46, 2, 2, 0, 0), (46, 47, 2, 3, 0, 0), (47, 48, 31, 0, 0, 0), (48, 49, 4, 0, 0, 0), (49, 52, 49, 8, 4, 0), (52, 53, 2, 2, 0, 0), (53, 54, 4, 1, 0, 0), (54, 55, 0, 0, 0, 1), (55, 57, 0, 0, 0, 11), (57, 60, 39, 38, 0, 0), (60, 61, 31, 0, 0, 0), (61, 62, 4, 0, 0, 0), (62, 65, 49, 8, 4, 0), (65, 66, 2, 2, 0, 0), (66, 67, 27, 0, 0, 0), (67, 68, 0, 0, 0, -1), (68, 71, 19, 1, 73, 0), (71, 72, 0, 0, 0, 0), (72, 73, 42, 0, 0, 0), (73, 74, 4, 0, 0, 0), (74, 77, 49, 8, 5, 0), (77, 78, 2, 2, 0, 0), (78, 79, 4, 1, 0, 0), (79, 80, 0, 0, 0, 1), (80, 82, 0, 0, 0, 99), (82, 85, 39, 38, 0, 0), (85, 86, 31, 0, 0, 0), (86, 87, 4, 0, 0, 0), (87, 90, 49, 8, 5, 0), (90, 91, 2, 2, 0, 0), (91, 92, 27, 0, 0, 0), (92, 93, 0, 0, 0, -1), (93, 96, 19, 1, 98, 0), (96, 97, 0, 0, 0, 0), (97, 98, 42, 0, 0, 0), (98, 99, 4, 0, 0, 0), (99, 100, 15, 0, 0, 0), (100, 103, 24, 8, 2, 0), (103, 104, 0, 0, 0, 1), (104, 105, 9, 0, 0, 0), (105, 108, 25, 8, 2, 0), (108, 109, 0, 0, 0, 1), (109, 110, 42, 0, 0, 0)])
def M132 : Mth := (132, 8, 2, 1, 4, [(0, 1, 4, 0, 0, 0), (1, 2, 0, 0, 0, 1), (2, 5, 52, 8, 6, 0), (5, 6, 4, 0, 0, 0), (6, 7, 0, 0, 0, 0), (7, 10, 25, 8, 7, 0), (10, 11, 4, 0, 0, 0), (11, 12, 0, 0, 0, 0), (12, 15, 25, 8, 8, 0), (15, 16, 4, 0, 0, 0), (16, 17, 0, 0, 0, 0), (17, 20, 25, 8, 9, 0), (20, 21, 4, 0, 0, 0), (21, 22, 0, 0, 0, -1), (22, 25, 25, 8, 10, 0), (25, 26, 4, 1, 0, 0), (26, 27, 4, 0, 0, 0), (27, 30, 24, 8, 1, 0), (30, 33, 39, 50, 0, 0), (33, 36, 18, 0, 43, 0), (36, 37, 4, 0, 0, 0), (37, 38, 0, 0, 0, 1), (38, 41, 25, 8, 7, 0), (41, 42, 0, 0, 0, 0), (42, 43, 42, 0, 0, 0), (43, 44, 4, 0, 0, 0), (44, 45, 4, 0, 0, 0), (45, 48, 24, 8, 1, 0), (48, 51, 25, 8, 10, 0), (51, 52, 0, 0, 0, 0), (52, 53, 5, 2, 0, 0), (53, 54, 2, 2, 0, 0), (54, 55, 4, 0, 0, 0), (55, 58, 24, 8, 2, 0), (58, 61, 19, 3, 159, 0), (61, 62, 2, 2, 0, 0), (62, 64, 0, 0, 0, 30), (64, 67, 19, 3, 159, 0), (67, 68, 4, 1, 0, 0), (68, 69, 4, 0, 0, 0), (69, 72, 24, 8, 10, 0), (72, 73, 4, 0, 0, 0), (73, 76, 49, 8, 3, 0), (76, 77, 2, 2, 0, 0), (77, 78, 27, 0, 0, 0), (78, 79, 4, 0, 0, 0), (79, 82, 49, 8, 4, 0), (82, 83, 2, 2, 0, 0), (83, 84, 27, 0, 0, 0), (84, 87, 39, 54, 0, 0), (87, 88, 5, 3, 0, 0), (88, 89, 4, 0, 0, 0), (89, 90, 2, 3, 0, 0), (90, 91, 0, 0, 0, -1), (91, 94, 19, 1, 98, 0), (94, 95, 0, 0, 0, 1), (95, 98, 22, 0, 104, 0), (98, 99, 4, 0, 0, 0), (99, 100, 4, 1, 0, 0), (100, 101, 2, 2, 0, 0), (101, 104, 39, 133, 0, 0), (104, 107, 25, 8, 7, 0), (107, 108, 4, 0, 0, 0), (108, 111, 24, 8, 7, 0), (111, 114, 18, 0, 118, 0), (114, 115, 2, 2, 0, 0), (115, 116, 0, 0, 0, 1), (116, 117, 9, 0, 0, 0), (117, 118, 42, 0, 0, 0), (118, 119, 4, 0, 0, 0), (119, 120, 15, 0, 0, 0), (120, 123, 24, 8, 8, 0), (123, 124, 4, 0, 0, 0), (124, 127, 49, 8, 4, 0), (127, 128, 2, 2, 0, 0), (128, 129, 27, 0, 0, 0), (129, 130, 9, 0, 0, 0), (130, 133, 25, 8, 8, 0), (133, 134, 4, 0, 0, 0), (134, 135, 15, 0, 0, 0), (135, 138, 24, 8, 9, 0), (138, 139, 4, 0, 0, 0), (139, 142, 49, 8, 5, 0), (142, 143, 2, 2, 0, 0), (143, 144, 27, 0, 0, 0), (144, 145, 9, 0, 0, 0), (145, 148, 25, 8, 9, 0), (148, 149, 4, 0, 0, 0), (149, 150, 2, 3, 0, 0), (150, 153, 25, 8, 10, 0), (153, 156, 8, 2, 0, 1), (156, 159, 22, 0, 53, 0), (159, 160, 0, 0, 0, -1), (160, 161, 42, 0, 0, 0)])
def M133 : Mth := (133, 8, 3, 1, 4, [(0, 1, 2, 2, 0, 0), (1, 4, 18, 2, 10, 0), (4, 5, 2, 2, 0, 0), (5, 7, 0, 0, 0, 30), (7, 10, 19, 2, 12, 0), (10, 11, 0, 0, 0, 0), (11, 12, 42, 0, 0, 0), (12, 13, 4, 0, 0, 0), (13, 16, 49, 8, 4, 0), (16, 17, 2, 2, 0, 0), (17, 18, 27, 0, 0, 0), (18, 19, 4, 1, 0, 0), (19, 20, 4, 0, 0, 0), (20, 23, 24, 8, 0, 0), (23, 26, 39, 134, 0, 0), (26, 27, 4, 0, 0, 0), (27, 30, 49, 8, 5, 0), (30, 31, 2, 2, 0, 0), (31, 32, 27, 0, 0, 0), (32, 33, 9, 2, 0, 0), (33, 36, 19, 5, 38, 0), (36, 37, 0, 0, 0, 2), (37, 38, 42, 0, 0, 0), (38, 39, 2, 2, 0, 0), (39, 42, 18, 5, 68, 0), (42, 43, 4, 0, 0, 0), (43, 46, 49, 8, 3, 0), (46, 47, 2, 2, 0, 0), (47, 48, 27, 0, 0, 0), (48, 49, 4, 0, 0, 0), (49, 52, 49, 8, 3, 0), (52, 53, 2, 2, 0, 0), (53, 54, 0, 0, 0, 1), (54, 55, 9, 1, 0, 0), (55, 56, 27, 0, 0, 0), (56, 57, 9, 1, 0, 0), (57, 60, 39, 135, 0, 0), (60, 61, 0, 0, 0, 2), (61, 64, 19, 1, 68, 0), (64, 65, 0, 0, 0, 1), (65, 68, 22, 0, 69, 0), (68, 69, 0, 0, 0, 0), (69, 70, 5, 3, 0, 0), (70, 71, 2, 3, 0, 0), (71, 74, 18, 0, 88, 0), (74, 75, 4, 0, 0, 0), (75, 78, 49, 8, 5, 0), (78, 79, 2, 2, 0, 0), (79, 80, 27, 0, 0, 0), (80, 81, 0, 0, 0, 1), (81, 84, 19, 1, 88, 0), (84, 85, 0, 0, 0, 3), (85, 88, 22, 0, 89, 0), (88, 89, 0, 0, 0, 0), (89, 90, 42, 0, 0, 0)])
def M134 : Mth := (134, 1, 2, 1, 2, [(0, 1, 4, 0, 0, 0), (1, 2, 2, 1, 0, 0), (2, 5, 39, 69, 0, 0), (5, 8, 18, 0, 17, 0), (8, 9, 4, 0, 0, 0), (9, 12, 49, 1, 9, 0), (12, 13, 2, 1, 0, 0), (13, 14, 27, 0, 0, 0), (14, 17, 22, 0, 18, 0), (17, 18, 0, 0, 0, 0), (18, 19, 42, 0, 0, 0)])
def M135 : Mth := (135, 13, 1, 1, 1, [(0, 1, 2, 0, 0, 0), (1, 4, 18, 3, 9, 0), (4, 5, 2, 0, 0, 0), (5, 6, 53, 0, 0, 0), (6, 9, 22, 0, 10, 0), (9, 10, 2, 0, 0, 0), (10, 11, 42, 0, 0, 0)])
def M136 : Mth := (136, 9, 2, 1, 2, [(0, 1, 4, 0, 0, 0), (1, 4, 49, 9, 15, 0), (4, 5, 2, 1, 0, 0), (5, 8, 39, 137, 0, 0), (8, 9, 42, 0, 0, 0)])
def M137 : Mth := (137, 8, 2, 1, 2, [(0, 1, 4, 0, 0, 0), (1, 4, 24, 8, 6, 0), (4, 7, 18, 1, 9, 0), (7, 8, 0, 0, 0, -1), (8, 9, 42, 0, 0, 0), (9, 10, 2, 1, 0, 0), (10, 40, 23, 1, 0, 0), (40, 41, 4, 0, 0, 0), (41, 44, 24, 8, 7, 0), (44, 45, 42, 0, 0, 0), (45, 46, 4, 0, 0, 0), (46, 49, 24, 8, 8, 0), (49, 50, 42, 0, 0, 0), (50, 51, 4, 0, 0, 0), (51, 54, 24, 8, 9, 0), (54, 55, 42, 0, 0, 0), (55, 56, 4, 0, 0, 0), (56, 59, 24, 8, 10, 0), (59, 60, 42, 0, 0, 0), (60, 61, 0, 0, 0, -1), (61, 62, 42, 0, 0, 0)])
def M138 : Mth := (138, 9, 3, 1, 5, [(0, 1, 4, 0, 0, 0), (1, 4, 49, 9, 2, 0), (4, 5, 2, 1, 0, 0), (5, 8, 39, 139, 0, 0), (8, 11, 18, 0, 22, 0), (11, 12, 4, 0, 0, 0), (12, 15, 49, 9, 2, 0), (15, 16, 2, 2, 0, 0), (16, 19, 39, 139, 0, 0), (19, 22, 18, 1, 24, 0), (22, 23, 0, 0, 0, -1), (23, 24, 42, 0, 0, 0), (24, 25, 4, 0, 0, 0), (25, 28, 49, 9, 2, 0), (28, 29, 2, 1, 0, 0), (29, 32, 39, 140, 0, 0), (32, 33, 5, 3, 0, 0), (33, 34, 4, 0, 0, 0), (34, 37, 49, 9, 2, 0), (37, 38, 2, 2, 0, 0), (38, 41, 39, 140, 0, 0), (41, 43, 5, 4, 0, 0), (43, 44, 2, 3, 0, 0), (44, 46, 2, 4, 0, 0), (46, 49, 19, 0, 62, 0), (49, 50, 4, 0, 0, 0), (50, 53, 49, 9, 2, 0), (53, 54, 2, 3, 0, 0), (54, 56, 2, 4, 0, 0), (56, 59, 39, 141, 0, 0), (59, 62, 18, 0, 64, 0), (62, 63, 0, 0, 0, -1), (63, 64, 42, 0, 0, 0), (64, 65, 4, 0, 0, 0), (65, 68, 49, 9, 17, 0), (68, 69, 4, 0, 0, 0), (69, 72, 49, 9, 2, 0), (72, 73, 2, 3, 0, 0), (73, 75, 2, 4, 0, 0), (75, 78, 39, 142, 0, 0), (78, 79, 42, 0, 0, 0)])
def M139 : Mth := (139, 1, 2, 2, 2, [(0, 1, 2, 1, 0, 0), (1, 4, 18, 2, 22, 0), (4, 5, 2, 1, 0, 0), (5, 6, 4, 0, 0, 0), (6, 9, 24, 1, 6, 0), (9, 12, 19, 3, 22, 0), (12, 13, 2, 1, 0, 0), (13, 15, 0, 0, 0, 8), (15, 18, 19, 3, 22, 0), (18, 19, 0, 0, 0, 1), (19, 22, 22, 0, 23, 0), (22, 23, 0, 0, 0, 0), (23, 24, 42, 0, 0, 0)])
def M140 : Mth := (140, 1, 2, 1, 2, [(0, 1, 4, 0, 0, 0), (1, 2, 2, 1, 0, 0), (2, 5, 39, 139, 0, 0), (5, 8, 18, 0, 17, 0), (8, 9, 4, 0, 0, 0), (9, 12, 49, 1, 15, 0), (12, 13, 2, 1, 0, 0), (13, 14, 27, 0, 0, 0), (14, 17, 22, 0, 18, 0), (17, 18, 0, 0, 0, -1), (18, 19, 42, 0, 0, 0)])
def M141 : Mth := (141, 1, 3, 2, 4, [(0, 1, 0, 0, 0, 0), (1, 2, 5, 3, 0, 0), (2, 3, 2, 3, 0, 0), (3, 4, 0, 0, 0, 4), (4, 7, 19, 3, 30, 0), (7, 8, 2, 2, 0, 0), (8, 9, 0, 0, 0, -1), (9, 12, 19, 0, 24, 0), (12, 13, 4, 0, 0, 0), (13, 14, 2, 1, 0, 0), (14, 15, 2, 3, 0, 0), (15, 18, 39, 55, 0, 0), (18, 19, 2, 2, 0, 0), (19, 22, 19, 1, 24, 0), (22, 23, 0, 0, 0, 1), (23, 24, 42, 0, 0, 0), (24, 27, 8, 3, 0, 1), (27, 30, 22, 0, 2, 0), (30, 31, 0, 0, 0, 0), (31, 32, 42, 0, 0, 0)])
def M142 : Mth := (142, 3, 4, 1, 6, [(0, 1, 4, 0, 0, 0), (1, 2, 2, 2, 0, 0), (2, 5, 25, 3, 0, 0), (5, 6, 4, 0, 0, 0), (6, 7, 2, 3, 0, 0), (7, 10, 25, 3, 1, 0), (10, 11, 4, 0, 0, 0), (11, 12, 0, 0, 0, 0), (12, 15, 25, 3, 8, 0), (15, 16, 4, 1, 0, 0), (16, 17, 2, 2, 0, 0), (17, 20, 39, 50, 0, 0), (20, 23, 18, 1, 31, 0), (23, 24, 4, 1, 0, 0), (24, 25, 2, 3, 0, 0), (25, 28, 39, 50, 0, 0), (28, 31, 18, 0, 33, 0), (31, 32, 0, 0, 0, 0), (32, 33, 42, 0, 0, 0), (33, 34, 0, 0, 0, 0), (34, 36, 5, 4, 0, 0), (36, 38, 2, 4, 0, 0), (38, 41, 0, 0, 0, 144), (41, 44, 19, 3, 63, 0), (44, 45, 4, 0, 0, 0), (45, 48, 49, 3, 2, 0), (48, 50, 2, 4, 0, 0), (50, 51, 4, 1, 0, 0), (51, 53, 2, 4, 0, 0), (53, 56, 39, 50, 0, 0), (56, 57, 33, 0, 0, 0), (57, 60, 8, 4, 0, 1), (60, 63, 22, 0, 36, 0), (63, 64, 4, 0, 0, 0), (64, 65, 4, 1, 0, 0), (65, 68, 39, 143, 0, 0), (68, 69, 0, 0, 0, 4), (69, 72, 39, 19, 0, 0), (72, 74, 5, 4, 0, 0), (74, 75, 0, 0, 0, 0), (75, 77, 5, 5, 0, 0), (77, 79, 2, 5, 0, 0), (79, 82, 0, 0, 0, 144), (82, 85, 19, 3, 181, 0), (85, 86, 4, 0, 0, 0), (86, 89, 24, 3, 8, 0), (89, 91, 2, 4, 0, 0), (91, 94, 19, 3, 181, 0), (94, 95, 4, 0, 0, 0), (95, 98, 49, 3, 3, 0), (98, 100, 2, 5, 0, 0), (100, 101, 29, 0, 0, 0), (101, 104, 18, 0, 175, 0), (104, 106, 2, 5, 0, 0), (106, 107, 4, 0, 0, 0), (107, 110, 24, 3, 0, 0), (110, 113, 19, 0, 175, 0), (113, 115, 2, 5, 0, 0), (115, 116, 4, 0, 0, 0), (116, 119, 24, 3, 1, 0), (119, 122, 19, 0, 175, 0), (122, 123, 4, 0, 0, 0), (123, 124, 4, 1, 0, 0), (124, 125, 0, 0, 0, 2), (125, 127, 2, 5, 0, 0), (127, 128, 9, 2, 0, 0), (128, 129, 0, 0, 0, 2), (129, 131, 2, 5, 0, 0), (131, 132, 9, 2, 0, 0), (132, 133, 0, 0, 0, 1), (133, 134, 9, 0, 0, 0), (134, 137, 39, 144, 0, 0), (137, 140, 18, 1, 175, 0), (140, 141, 4, 0, 0, 0), (141, 144, 49, 3, 9, 0), (144, 145, 4, 0, 0, 0), (145, 148, 24, 3, 8, 0), (148, 150, 2, 5, 0, 0), (150, 151, 31, 0, 0, 0), (151, 152, 4, 0, 0, 0), (152, 153, 15, 0, 0, 0), (153, 156, 24, 3, 8, 0), (156, 157, 0, 0, 0, 1), (157, 158, 9, 0, 0, 0), (158, 161, 25, 3, 8, 0), (161, 162, 4, 0, 0, 0), (162, 165, 49, 3, 2, 0), (165, 167, 2, 5, 0, 0), (167, 168, 0, 0, 0, 1), (168, 169, 33, 0, 0, 0), (169, 170, 4, 0, 0, 0), (170, 171, 4, 1, 0, 0), (171, 174, 39, 143, 0, 0), (174, 175, 16, 0, 0, 0), (175, 178, 8, 5, 0, 1), (178, 181, 22, 0, 77, 0), (181, 182, 4, 0, 0, 0), (182, 185, 24, 3, 8, 0), (185, 186, 42, 0, 0, 0)])
def M143 : Mth := (143, 3, 2, 1, 4, [(0, 1, 0, 0, 0, 0), (1, 2, 5, 2, 0, 0), (2, 3, 2, 2, 0, 0), (3, 6, 0, 0, 0, 144), (6, 9, 19, 3, 42, 0), (9, 10, 4, 0, 0, 0), (10, 13, 49, 3, 3, 0), (13, 14, 2, 2, 0, 0), (14, 15, 2, 2, 0, 0), (15, 16, 4, 0, 0, 0), (16, 19, 24, 3, 0, 0), (19, 22, 19, 0, 30, 0), (22, 23, 2, 2, 0, 0), (23, 24, 4, 0, 0, 0), (24, 27, 24, 3, 1, 0), (27, 30, 19, 1, 34, 0), (30, 31, 0, 0, 0, 1), (31, 34, 22, 0, 35, 0), (34, 35, 0, 0, 0, 0), (35, 36, 33, 0, 0, 0), (36, 39, 8, 2, 0, 1), (39, 42, 22, 0, 2, 0), (42, 43, 0, 0, 0, 0), (43, 44, 5, 2, 0, 0), (44, 45, 2, 2, 0, 0), (45, 48, 0, 0, 0, 576), (48, 51, 19, 3, 64, 0), (51, 52, 4, 0, 0, 0), (52, 55, 49, 3, 4, 0), (55, 56, 2, 2, 0, 0), (56, 57, 0, 0, 0, 0), (57, 58, 33, 0, 0, 0), (58, 61, 8, 2, 0, 1), (61, 64, 22, 0, 44, 0), (64, 65, 0, 0, 0, 0), (65, 66, 5, 2, 0, 0), (66, 67, 0, 0, 0, 0), (67, 68, 5, 3, 0, 0), (68, 69, 2, 3, 0, 0), (69, 70, 0, 0, 0, 4), (70, 73, 19, 3, 109, 0), (73, 74, 4, 0, 0, 0), (74, 75, 4, 1, 0, 0), (75, 76, 0, 0, 0, 2), (76, 77, 4, 0, 0, 0), (77, 80, 24, 3, 0, 0), (80, 81, 9, 2, 0, 0), (81, 82, 0, 0, 0, 1), (82, 83, 9, 0, 0, 0), (83, 84, 0, 0, 0, 2), (84, 85, 4, 0, 0, 0), (85, 88, 24, 3, 1, 0), (88, 89, 9, 2, 0, 0), (89, 92, 39, 144, 0, 0), (92, 95, 18, 0, 109, 0), (95, 96, 4, 0, 0, 0), (96, 97, 4, 1, 0, 0), (97, 100, 39, 148, 0, 0), (100, 103, 8, 2, 0, 1), (103, 106, 8, 3, 0, 1), (106, 109, 22, 0, 68, 0), (109, 110, 2, 2, 0, 0), (110, 111, 42, 0, 0, 0)])
def M144 : Mth := (144, 3, 4, 2, 5, [(0, 1, 0, 0, 0, 0), (1, 3, 5, 4, 0, 0), (3, 5, 2, 4, 0, 0), (5, 8, 0, 0, 0, 288), (8, 11, 19, 3, 25, 0), (11, 12, 4, 0, 0, 0), (12, 15, 49, 3, 5, 0), (15, 17, 2, 4, 0, 0), (17, 18, 0, 0, 0, -1), (18, 19, 31, 0, 0, 0), (19, 22, 8, 4, 0, 1), (22, 25, 22, 0, 3, 0), (25, 26, 4, 0, 0, 0), (26, 27, 0, 0, 0, 0), (27, 30, 25, 3, 7, 0), (30, 31, 4, 0, 0, 0), (31, 32, 2, 2, 0, 0), (32, 33, 2, 2, 0, 0), (33, 36, 39, 145, 0, 0), (36, 37, 0, 0, 0, 0), (37, 39, 5, 4, 0, 0), (39, 41, 2, 4, 0, 0), (41, 42, 4, 0, 0, 0), (42, 45, 24, 3, 7, 0), (45, 48, 19, 3, 118, 0), (48, 50, 2, 4, 0, 0), (50, 53, 0, 0, 0, 288), (53, 56, 19, 3, 118, 0), (56, 57, 4, 0, 0, 0), (57, 60, 49, 3, 6, 0), (60, 62, 2, 4, 0, 0), (62, 63, 27, 0, 0, 0), (63, 64, 2, 3, 0, 0), (64, 67, 19, 1, 69, 0), (67, 68, 0, 0, 0, 1), (68, 69, 42, 0, 0, 0), (69, 70, 4, 0, 0, 0), (70, 73, 49, 3, 6, 0), (73, 75, 2, 4, 0, 0), (75, 76, 27, 0, 0, 0), (76, 77, 0, 0, 0, 2), (77, 78, 9, 4, 0, 0), (78, 81, 18, 1, 98, 0), (81, 82, 4, 0, 0, 0), (82, 83, 4, 1, 0, 0), (83, 84, 4, 0, 0, 0), (84, 87, 49, 3, 6, 0), (87, 89, 2, 4, 0, 0), (89, 90, 27, 0, 0, 0), (90, 91, 0, 0, 0, 2), (91, 92, 9, 3, 0, 0), (92, 95, 39, 146, 0, 0), (95, 98, 22, 0, 112, 0), (98, 99, 4, 0, 0, 0), (99, 100, 4, 1, 0, 0), (100, 101, 4, 0, 0, 0), (101, 104, 49, 3, 6, 0), (104, 106, 2, 4, 0, 0), (106, 107, 27, 0, 0, 0), (107, 108, 0, 0, 0, 2), (108, 109, 9, 3, 0, 0), (109, 112, 39, 147, 0, 0), (112, 115, 8, 4, 0, 1), (115, 118, 22, 0, 39, 0), (118, 119, 0, 0, 0, 0), (119, 120, 42, 0, 0, 0)])
def M145 : Mth := (145, 3, 3, 0, 3, [(0, 1, 2, 1, 0, 0), (1, 4, 18, 2, 65, 0), (4, 5, 2, 1, 0, 0), (5, 8, 0, 0, 0, 288), (8, 11, 19, 3, 65, 0), (11, 12, 4, 0, 0, 0), (12, 15, 49, 3, 5, 0), (15, 16, 2, 1, 0, 0), (16, 17, 27, 0, 0, 0), (17, 18, 0, 0, 0, -1), (18, 21, 19, 1, 65, 0), (21, 22, 4, 0, 0, 0), (22, 25, 24, 3, 7, 0), (25, 28, 18, 2, 65, 0), (28, 29, 4, 0, 0, 0), (29, 32, 24, 3, 7, 0), (32, 35, 0, 0, 0, 288), (35, 38, 19, 3, 65, 0), (38, 39, 4, 0, 0, 0), (39, 42, 49, 3, 5, 0), (42, 43, 2, 1, 0, 0), (43, 44, 2, 2, 0, 0), (44, 45, 31, 0, 0, 0), (45, 46, 4, 0, 0, 0), (46, 49, 49, 3, 6, 0), (49, 50, 4, 0, 0, 0), (50, 53, 24, 3, 7, 0), (53, 54, 2, 1, 0, 0), (54, 55, 31, 0, 0, 0), (55, 56, 4, 0, 0, 0), (56, 57, 15, 0, 0, 0), (57, 60, 24, 3, 7, 0), (60, 61, 0, 0, 0, 1), (61, 62, 9, 0, 0, 0), (62, 65, 25, 3, 7, 0), (65, 66, 41, 0, 0, 0)])
def M146 : Mth := (146, 3, 3, 0, 5, [(0, 1, 2, 2, 0, 0), (1, 4, 18, 2, 11, 0), (4, 5, 2, 2, 0, 0), (5, 8, 0, 0, 0, 144), (8, 11, 19, 2, 12, 0), (11, 12, 41, 0, 0, 0), (12, 13, 4, 0, 0, 0), (13, 16, 49, 3, 3, 0), (16, 17, 2, 2, 0, 0), (17, 18, 29, 0, 0, 0), (18, 21, 18, 1, 34, 0), (21, 22, 4, 0, 0, 0), (22, 23, 0, 0, 0, 2), (23, 24, 2, 2, 0, 0), (24, 25, 9, 2, 0, 0), (25, 26, 0, 0, 0, 1), (26, 27, 9, 0, 0, 0), (27, 28, 0, 0, 0, 2), (28, 29, 2, 2, 0, 0), (29, 30, 9, 2, 0, 0), (30, 33, 39, 145, 0, 0), (33, 34, 41, 0, 0, 0), (34, 35, 0, 0, 0, 0), (35, 36, 5, 3, 0, 0), (36, 37, 2, 3, 0, 0), (37, 38, 0, 0, 0, 4), (38, 41, 19, 3, 99, 0), (41, 42, 4, 1, 0, 0), (42, 43, 2, 2, 0, 0), (43, 44, 2, 3, 0, 0), (44, 47, 39, 55, 0, 0), (47, 49, 5, 4, 0, 0), (49, 51, 2, 4, 0, 0), (51, 54, 18, 2, 93, 0), (54, 56, 2, 4, 0, 0), (56, 59, 0, 0, 0, 144), (59, 62, 19, 3, 93, 0), (62, 63, 4, 0, 0, 0), (63, 66, 49, 3, 4, 0), (66, 68, 2, 4, 0, 0), (68, 69, 0, 0, 0, 4), (69, 70, 9, 2, 0, 0), (70, 71, 2, 3, 0, 0), (71, 72, 0, 0, 0, 2), (72, 73, 9, 0, 0, 0), (73, 74, 0, 0, 0, 4), (74, 75, 9, 4, 0, 0), (75, 76, 9, 0, 0, 0), (76, 77, 29, 0, 0, 0), (77, 80, 18, 0, 93, 0), (80, 81, 4, 0, 0, 0), (81, 82, 0, 0, 0, 2), (82, 84, 2, 4, 0, 0), (84, 85, 9, 2, 0, 0), (85, 86, 0, 0, 0, 1), (86, 87, 9, 0, 0, 0), (87, 88, 0, 0, 0, 2), (88, 89, 2, 2, 0, 0), (89, 90, 9, 2, 0, 0), (90, 93, 39, 145, 0, 0), (93, 96, 8, 3, 0, 1), (96, 99, 22, 0, 36, 0), (99, 100, 41, 0, 0, 0)])
def M147 : Mth := (147, 3, 3, 0, 5, [(0, 1, 2, 2, 0, 0), (1, 4, 18, 2, 11, 0), (4, 5, 2, 2, 0, 0), (5, 8, 0, 0, 0, 144), (8, 11, 19, 2, 12, 0), (11, 12, 41, 0, 0, 0), (12, 13, 4, 0, 0, 0), (13, 16, 49, 3, 3, 0), (16, 17, 2, 2, 0, 0), (17, 18, 29, 0, 0, 0), (18, 21, 18, 0, 33, 0), (21, 22, 4, 0, 0, 0), (22, 23, 0, 0, 0, 2), (23, 24, 2, 2, 0, 0), (24, 25, 9, 2, 0, 0), (25, 26, 0, 0, 0, 2), (26, 27, 2, 2, 0, 0), (27, 28, 9, 2, 0, 0), (28, 29, 0, 0, 0, 1), (29, 30, 9, 0, 0, 0), (30, 33, 39, 145, 0, 0), (33, 34, 0, 0, 0, 0), (34, 35, 5, 3, 0, 0), (35, 36, 2, 3, 0, 0), (36, 37, 0, 0, 0, 4), (37, 40, 19, 3, 112, 0), (40, 41, 4, 1, 0, 0), (41, 42, 2, 2, 0, 0), (42, 43, 2, 3, 0, 0), (43, 46, 39, 55, 0, 0), (46, 48, 5, 4, 0, 0), (48, 50, 2, 4, 0, 0), (50, 53, 18, 2, 106, 0), (53, 55, 2, 4, 0, 0), (55, 58, 0, 0, 0, 144), (58, 61, 19, 3, 106, 0), (61, 62, 4, 0, 0, 0), (62, 65, 49, 3, 2, 0), (65, 67, 2, 4, 0, 0), (67, 68, 29, 0, 0, 0), (68, 71, 18, 1, 106, 0), (71, 73, 2, 4, 0, 0), (73, 74, 4, 0, 0, 0), (74, 77, 24, 3, 0, 0), (77, 80, 19, 0, 106, 0), (80, 81, 4, 0, 0, 0), (81, 84, 49, 3, 4, 0), (84, 85, 2, 2, 0, 0), (85, 86, 0, 0, 0, 4), (86, 87, 9, 2, 0, 0), (87, 88, 2, 3, 0, 0), (88, 89, 9, 0, 0, 0), (89, 90, 29, 0, 0, 0), (90, 93, 18, 1, 106, 0), (93, 94, 4, 0, 0, 0), (94, 95, 0, 0, 0, 2), (95, 97, 2, 4, 0, 0), (97, 98, 9, 2, 0, 0), (98, 99, 0, 0, 0, 2), (99, 100, 2, 2, 0, 0), (100, 101, 9, 2, 0, 0), (101, 102, 0, 0, 0, 1), (102, 103, 9, 0, 0, 0), (103, 106, 39, 145, 0, 0), (106, 109, 8, 3, 0, 1), (109, 112, 22, 0, 35, 0), (112, 113, 41, 0, 0, 0)])
def M148 : Mth := (148, 3, 2, 0, 5, [(0, 1, 0, 0, 0, 2), (1, 2, 4, 0, 0, 0), (2, 5, 24, 3, 1, 0), (5, 6, 9, 2, 0, 0), (6, 7, 5, 2, 0, 0), (7, 8, 0, 0, 0, 0), (8, 9, 5, 3, 0, 0), (9, 10, 2, 3, 0, 0), (10, 13, 0, 0, 0, 288), (13, 16, 19, 3, 139, 0), (16, 17, 2, 2, 0, 0), (17, 20, 18, 2, 139, 0), (20, 21, 2, 2, 0, 0), (21, 24, 0, 0, 0, 288), (24, 27, 19, 3, 139, 0), (27, 28, 2, 2, 0, 0), (28, 29, 0, 0, 0, 2), (29, 30, 4, 0, 0, 0), (30, 33, 24, 3, 0, 0), (33, 34, 9, 2, 0, 0), (34, 35, 0, 0, 0, 1), (35, 36, 9, 0, 0, 0), (36, 39, 19, 0, 139, 0), (39, 40, 4, 0, 0, 0), (40, 43, 49, 3, 5, 0), (43, 44, 2, 2, 0, 0), (44, 45, 27, 0, 0, 0), (45, 47, 5, 4, 0, 0), (47, 49, 2, 4, 0, 0), (49, 52, 18, 2, 85, 0), (52, 53, 2, 2, 0, 0), (53, 54, 0, 0, 0, 2), (54, 55, 9, 3, 0, 0), (55, 57, 2, 4, 0, 0), (57, 58, 0, 0, 0, 2), (58, 59, 9, 3, 0, 0), (59, 62, 19, 1, 85, 0), (62, 63, 4, 0, 0, 0), (63, 66, 49, 3, 3, 0), (66, 67, 2, 2, 0, 0), (67, 68, 0, 0, 0, 2), (68, 69, 9, 3, 0, 0), (69, 70, 2, 2, 0, 0), (70, 71, 0, 0, 0, 2), (71, 72, 9, 4, 0, 0), (72, 73, 0, 0, 0, 1), (73, 76, 19, 1, 80, 0), (76, 77, 0, 0, 0, 1), (77, 80, 22, 0, 81, 0), (80, 81, 0, 0, 0, 0), (81, 82, 33, 0, 0, 0), (82, 85, 22, 0, 130, 0), (85, 87, 2, 4, 0, 0), (87, 90, 18, 2, 112, 0), (90, 91, 2, 2, 0, 0), (91, 92, 0, 0, 0, 2), (92, 93, 9, 4, 0, 0), (93, 96, 18, 1, 112, 0), (96, 97, 4, 0, 0, 0), (97, 98, 4, 1, 0, 0), (98, 100, 2, 4, 0, 0), (100, 101, 0, 0, 0, 2), (101, 102, 9, 3, 0, 0), (102, 103, 2, 2, 0, 0), (103, 104, 0, 0, 0, 2), (104, 105, 9, 3, 0, 0), (105, 106, 0, 0, 0, 1), (106, 109, 39, 149, 0, 0), (109, 112, 22, 0, 130, 0), (112, 114, 2, 4, 0, 0), (114, 117, 18, 2, 130, 0), (117, 118, 4, 0, 0, 0), (118, 119, 4, 1, 0, 0), (119, 120, 2, 2, 0, 0), (120, 121, 0, 0, 0, 2), (121, 122, 9, 3, 0, 0), (122, 124, 2, 4, 0, 0), (124, 125, 0, 0, 0, 2), (125, 126, 9, 3, 0, 0), (126, 127, 0, 0, 0, 0), (127, 130, 39, 149, 0, 0), (130, 132, 2, 4, 0, 0), (132, 133, 5, 2, 0, 0), (133, 136, 8, 3, 0, 1), (136, 139, 22, 0, 9, 0), (139, 140, 41, 0, 0, 0)])
def M149 : Mth := (149, 3, 5, 0, 6, [(0, 1, 0, 0, 0, 0), (1, 3, 5, 5, 0, 0), (3, 5, 2, 5, 0, 0), (5, 6, 0, 0, 0, 4), (6, 9, 19, 3, 50, 0), (9, 10, 2, 2, 0, 0), (10, 13, 18, 2, 44, 0), (13, 14, 2, 2, 0, 0), (14, 17, 0, 0, 0, 144), (17, 20, 19, 3, 44, 0), (20, 21, 4, 1, 0, 0), (21, 22, 2, 2, 0, 0), (22, 24, 2, 5, 0, 0), (24, 27, 39, 55, 0, 0), (27, 28, 2, 3, 0, 0), (28, 31, 19, 1, 44, 0), (31, 32, 4, 0, 0, 0), (32, 35, 49, 3, 4, 0), (35, 36, 2, 2, 0, 0), (36, 37, 0, 0, 0, 4), (37, 38, 9, 2, 0, 0), (38, 40, 2, 5, 0, 0), (40, 41, 9, 0, 0, 0), (41, 43, 2, 4, 0, 0), (43, 44, 33, 0, 0, 0), (44, 47, 8, 5, 0, 1), (47, 50, 22, 0, 3, 0), (50, 51, 41, 0, 0, 0)])
def M150 : Mth := (150, 9, 2, 1, 2, [(0, 1, 4, 0, 0, 0), (1, 4, 49, 9, 17, 0), (4, 5, 2, 1, 0, 0), (5, 8, 39, 151, 0, 0), (8, 9, 42, 0, 0, 0)])
def M151 : Mth := (151, 3, 2, 1, 2, [(0, 1, 2, 1, 0, 0), (1, 4, 18, 2, 26, 0), (4, 5, 2, 1, 0, 0), (5, 6, 4, 0, 0, 0), (6, 9, 24, 3, 8, 0), (9, 12, 19, 3, 26, 0), (12, 13, 2, 1, 0, 0), (13, 14, 0, 0, 0, 4), (14, 17, 19, 3, 26, 0), (17, 18, 4, 0, 0, 0), (18, 21, 49, 3, 9, 0), (21, 22, 2, 1, 0, 0), (22, 23, 27, 0, 0, 0), (23, 26, 22, 0, 27, 0), (26, 27, 0, 0, 0, -1), (27, 28, 42, 0, 0, 0)])
def M152 : Mth := (152, 9, 1, 1, 5, [(0, 1, 0, 0, 0, -1), (1, 2, 5, 1, 0, 0), (2, 3, 0, 0, 0, 0), (3, 4, 5, 2, 0, 0), (4, 5, 0, 0, 0, 0), (5, 6, 5, 3, 0, 0), (6, 7, 2, 3, 0, 0), (7, 10, 0, 0, 0, 144), (10, 13, 19, 3, 43, 0), (13, 14, 4, 0, 0, 0), (14, 17, 49, 9, 2, 0), (17, 18, 2, 3, 0, 0), (18, 21, 39, 153, 0, 0), (21, 24, 39, 114, 0, 0), (24, 26, 5, 4, 0, 0), (26, 28, 2, 4, 0, 0), (28, 29, 2, 2, 0, 0), (29, 32, 19, 5, 37, 0), (32, 34, 2, 4, 0, 0), (34, 35, 5, 2, 0, 0), (35, 36, 2, 3, 0, 0), (36, 37, 5, 1, 0, 0), (37, 40, 8, 3, 0, 1), (40, 43, 22, 0, 6, 0), (43, 44, 2, 1, 0, 0), (44, 45, 42, 0, 0, 0)])
def M153 : Mth := (153, 1, 2, 1, 4, [(0, 1, 0, 0, 0, 0), (1, 2, 5, 2, 0, 0), (2, 3, 0, 0, 0, 0), (3, 4, 5, 3, 0, 0), (4, 5, 2, 3, 0, 0), (5, 6, 4, 0, 0, 0), (6, 9, 24, 1, 4, 0), (9, 12, 19, 3, 39, 0), (12, 13, 2, 3, 0, 0), (13, 15, 0, 0, 0, 6), (15, 18, 19, 3, 39, 0), (18, 19, 4, 0, 0, 0), (19, 20, 2, 3, 0, 0), (20, 21, 2, 1, 0, 0), (21, 24, 39, 111, 0, 0), (24, 27, 18, 5, 33, 0), (27, 28, 2, 2, 0, 0), (28, 29, 0, 0, 0, 1), (29, 30, 2, 3, 0, 0), (30, 31, 9, 8, 0, 0), (31, 32, 9, 6, 0, 0), (32, 33, 5, 2, 0, 0), (33, 36, 8, 3, 0, 1), (36, 39, 22, 0, 4, 0), (39, 40, 2, 2, 0, 0), (40, 41, 42, 0, 0, 0)])
def M154 : Mth := (154, 9, 2, 1, 2, [(0, 1, 4, 0, 0, 0), (1, 4, 49, 9, 2, 0), (4, 5, 2, 1, 0, 0), (5, 8, 39, 56, 0, 0), (8, 11, 18, 0, 22, 0), (11, 12, 4, 0, 0, 0), (12, 15, 49, 9, 2, 0), (15, 16, 2, 1, 0, 0), (16, 19, 39, 153, 0, 0), (19, 22, 22, 0, 23, 0), (22, 23, 0, 0, 0, -1), (23, 24, 42, 0, 0, 0)])
def M155 : Mth := (155, 9, 3, 1, 6, [(0, 1, 4, 0, 0, 0), (1, 4, 49, 9, 2, 0), (4, 5, 2, 1, 0, 0), (5, 8, 39, 67, 0, 0), (8, 11, 18, 0, 22, 0), (11, 12, 4, 0, 0, 0), (12, 15, 49, 9, 2, 0), (15, 16, 2, 2, 0, 0), (16, 19, 39, 67, 0, 0), (19, 22, 18, 1, 24, 0), (22, 23, 0, 0, 0, -1), (23, 24, 42, 0, 0, 0), (24, 25, 0, 0, 0, 1), (25, 26, 2, 1, 0, 0), (26, 27, 9, 8, 0, 0), (27, 28, 0, 0, 0, 1), (28, 29, 2, 2, 0, 0), (29, 30, 9, 8, 0, 0), (30, 31, 9, 6, 0, 0), (31, 32, 5, 3, 0, 0), (32, 33, 0, 0, 0, 0), (33, 35, 5, 4, 0, 0), (35, 36, 0, 0, 0, 0), (36, 38, 5, 5, 0, 0), (38, 40, 2, 5, 0, 0), (40, 43, 0, 0, 0, 144), (43, 46, 19, 3, 70, 0), (46, 47, 4, 0, 0, 0), (47, 50, 49, 9, 2, 0), (50, 52, 2, 5, 0, 0), (52, 55, 39, 153, 0, 0), (55, 56, 2, 3, 0, 0), (56, 57, 9, 5, 0, 0), (57, 58, 2, 3, 0, 0), (58, 61, 19, 1, 64, 0), (61, 64, 8, 4, 0, 1), (64, 67, 8, 5, 0, 1), (67, 70, 22, 0, 38, 0), (70, 72, 2, 4, 0, 0), (72, 73, 42, 0, 0, 0)])
def M156 : Mth := (156, 9, 1, 1, 3, [(0, 1, 0, 0, 0, -1), (1, 2, 5, 1, 0, 0), (2, 3, 0, 0, 0, 0), (3, 4, 5, 2, 0, 0), (4, 5, 2, 2, 0, 0), (5, 6, 4, 0, 0, 0), (6, 9, 49, 9, 2, 0), (9, 12, 24, 1, 3, 0), (12, 15, 19, 3, 47, 0), (15, 16, 2, 1, 0, 0), (16, 17, 0, 0, 0, -1), (17, 20, 19, 0, 39, 0), (20, 21, 4, 0, 0, 0), (21, 24, 49, 9, 6, 0), (24, 25, 2, 2, 0, 0), (25, 28, 39, 157, 0, 0), (28, 29, 4, 0, 0, 0), (29, 32, 49, 9, 6, 0), (32, 33, 2, 1, 0, 0), (33, 36, 39, 157, 0, 0), (36, 39, 19, 3, 41, 0), (39, 40, 2, 2, 0, 0), (40, 41, 5, 1, 0, 0), (41, 44, 8, 2, 0, 1), (44, 47, 22, 0, 4, 0), (47, 48, 2, 1, 0, 0), (48, 49, 42, 0, 0, 0)])
def M157 : Mth := (157, 5, 2, 1, 2, [(0, 1, 2, 1, 0, 0), (1, 4, 39, 75, 0, 0), (4, 7, 18, 0, 16, 0), (7, 8, 4, 0, 0, 0), (8, 11, 49, 5, 7, 0), (11, 12, 2, 1, 0, 0), (12, 13, 27, 0, 0, 0), (13, 16, 22, 0, 17, 0), (16, 17, 0, 0, 0, 0), (17, 18, 42, 0, 0, 0)])
def M158 : Mth := (158, 9, 1, 1, 3, [(0, 1, 4, 0, 0, 0), (1, 4, 49, 9, 5, 0), (4, 5, 4, 0, 0, 0), (5, 8, 49, 9, 0, 0), (8, 9, 4, 0, 0, 0), (9, 12, 49, 9, 2, 0), (12, 15, 39, 159, 0, 0), (15, 16, 5, 1, 0, 0), (16, 17, 4, 0, 0, 0), (17, 20, 49, 9, 0, 0), (20, 21, 0, 0, 0, 0), (21, 24, 25, 7, 1, 0), (24, 25, 2, 1, 0, 0), (25, 28, 18, 1, 38, 0), (28, 29, 0, 0, 0, -1), (29, 30, 4, 0, 0, 0), (30, 33, 49, 9, 0, 0), (33, 36, 24, 7, 3, 0), (36, 37, 9, 1, 0, 0), (37, 38, 42, 0, 0, 0), (38, 39, 4, 0, 0, 0), (39, 42, 49, 9, 4, 0), (42, 43, 7, 2, 0, 0), (43, 44, 4, 0, 0, 0), (44, 45, 4, 0, 0, 0), (45, 48, 49, 9, 5, 0), (48, 51, 51, 9, 4, 0), (51, 52, 4, 0, 0, 0), (52, 53, 4, 2, 0, 0), (53, 56, 51, 9, 5, 0), (56, 57, 4, 0, 0, 0), (57, 60, 49, 9, 4, 0), (60, 63, 24, 6, 0, 0), (63, 64, 42, 0, 0, 0)])
def M159 : Mth := (159, 6, 3, 2, 3, [(0, 1, 4, 0, 0, 0), (1, 4, 39, 62, 0, 0), (4, 5, 4, 1, 0, 0), (5, 8, 0, 0, 0, 200), (8, 11, 39, 18, 0, 0), (11, 12, 4, 0, 0, 0), (12, 13, 4, 1, 0, 0), (13, 14, 4, 2, 0, 0), (14, 15, 0, 0, 0, 0), (15, 18, 39, 160, 0, 0), (18, 21, 18, 0, 32, 0), (21, 22, 4, 1, 0, 0), (22, 25, 39, 60, 0, 0), (25, 28, 18, 0, 32, 0), (28, 29, 0, 0, 0, 1), (29, 32, 22, 0, 33, 0), (32, 33, 0, 0, 0, 0), (33, 34, 42, 0, 0, 0)])
def M160 : Mth := (160, 6, 4, 2, 5, [(0, 1, 4, 0, 0, 0), (1, 2, 4, 1, 0, 0), (2, 3, 4, 2, 0, 0), (3, 4, 2, 3, 0, 0), (4, 7, 39, 161, 0, 0), (7, 10, 18, 1, 12, 0), (10, 11, 0, 0, 0, 0), (11, 12, 42, 0, 0, 0), (12, 13, 0, 0, 0, 0), (13, 15, 5, 4, 0, 0), (15, 17, 2, 4, 0, 0), (17, 19, 0, 0, 0, 20), (19, 22, 19, 3, 62, 0), (22, 23, 4, 1, 0, 0), (23, 26, 39, 33, 0, 0), (26, 29, 26, 1020, 0, 0), (29, 32, 20, 1, 62, 0), (32, 33, 4, 1, 0, 0), (33, 36, 39, 37, 0, 0), (36, 37, 4, 0, 0, 0), (37, 38, 4, 1, 0, 0), (38, 39, 4, 2, 0, 0), (39, 40, 2, 3, 0, 0), (40, 43, 39, 161, 0, 0), (43, 46, 18, 1, 48, 0), (46, 47, 0, 0, 0, 0), (47, 48, 42, 0, 0, 0), (48, 49, 4, 0, 0, 0), (49, 51, 0, 0, 0, 8), (51, 52, 0, 0, 0, 0), (52, 53, 0, 0, 0, 0), (53, 56, 39, 165, 0, 0), (56, 59, 8, 4, 0, 1), (59, 62, 22, 0, 15, 0), (62, 63, 0, 0, 0, 1), (63, 64, 42, 0, 0, 0)])
def M161 : Mth := (161, 6, 4, 2, 5, [(0, 1, 4, 0, 0, 0), (1, 2, 4, 1, 0, 0), (2, 3, 4, 2, 0, 0), (3, 4, 2, 3, 0, 0), (4, 7, 39, 162, 0, 0), (7, 10, 18, 1, 12, 0), (10, 11, 0, 0, 0, 0), (11, 12, 42, 0, 0, 0), (12, 13, 0, 0, 0, 0), (13, 15, 5, 4, 0, 0), (15, 17, 2, 4, 0, 0), (17, 19, 0, 0, 0, 20), (19, 22, 19, 3, 62, 0), (22, 23, 4, 1, 0, 0), (23, 26, 39, 33, 0, 0), (26, 29, 26, 1021, 0, 0), (29, 32, 20, 1, 62, 0), (32, 33, 4, 1, 0, 0), (33, 36, 39, 37, 0, 0), (36, 37, 4, 0, 0, 0), (37, 38, 4, 1, 0, 0), (38, 39, 4, 2, 0, 0), (39, 40, 2, 3, 0, 0), (40, 43, 39, 162, 0, 0), (43, 46, 18, 1, 48, 0), (46, 47, 0, 0, 0, 0), (47, 48, 42, 0, 0, 0), (48, 49, 4, 0, 0, 0), (49, 51, 0, 0, 0, 7), (51, 52, 0, 0, 0, 0), (52, 53, 0, 0, 0, 0), (53, 56, 39, 165, 0, 0), (56, 59, 8, 4, 0, 1), (59, 62, 22, 0, 15, 0), (62, 63, 0, 0, 0, 1), (63, 64, 42, 0, 0, 0)])
def M162 : Mth := (162, 6, 4, 2, 7, [(0, 1, 4, 1, 0, 0), (1, 4, 39, 33, 0, 0), (4, 7, 26, 1022, 0, 0), (7, 10, 20, 1, 14, 0), (10, 11, 0, 0, 0, 1), (11, 14, 22, 0, 15, 0), (14, 15, 0, 0, 0, 0), (15, 17, 5, 4, 0, 0), (17, 18, 4, 1, 0, 0), (18, 21, 39, 59, 0, 0), (21, 23, 0, 0, 0, 40), (23, 26, 19, 1, 30, 0), (26, 27, 0, 0, 0, 1), (27, 30, 22, 0, 31, 0), (30, 31, 0, 0, 0, 0), (31, 33, 5, 5, 0, 0), (33, 34, 4, 1, 0, 0), (34, 37, 39, 33, 0, 0), (37, 40, 26, 1023, 0, 0), (40, 43, 20, 1, 47, 0), (43, 44, 0, 0, 0, 1), (44, 47, 22, 0, 48, 0), (47, 48, 0, 0, 0, 0), (48, 50, 5, 6, 0, 0), (50, 52, 2, 4, 0, 0), (52, 55, 18, 1, 79, 0), (55, 57, 2, 5, 0, 0), (57, 60, 18, 1, 79, 0), (60, 62, 2, 6, 0, 0), (62, 65, 18, 1, 79, 0), (65, 66, 4, 1, 0, 0), (66, 69, 39, 163, 0, 0), (69, 70, 0, 0, 0, -1), (70, 73, 19, 1, 79, 0), (73, 74, 4, 1, 0, 0), (74, 75, 0, 0, 0, 1), (75, 78, 39, 36, 0, 0), (78, 79, 42, 0, 0, 0), (79, 80, 4, 0, 0, 0), (80, 83, 24, 6, 0, 0), (83, 85, 0, 0, 0, 20), (85, 88, 19, 3, 94, 0), (88, 89, 2, 3, 0, 0), (89, 91, 0, 0, 0, 8), (91, 94, 19, 2, 100, 0), (94, 95, 4, 1, 0, 0), (95, 96, 0, 0, 0, 4), (96, 99, 39, 36, 0, 0), (99, 100, 42, 0, 0, 0), (100, 101, 4, 0, 0, 0), (101, 102, 15, 0, 0, 0), (102, 105, 24, 6, 0, 0), (105, 106, 0, 0, 0, 1), (106, 107, 9, 0, 0, 0), (107, 110, 25, 6, 0, 0), (110, 112, 2, 5, 0, 0), (112, 115, 18, 0, 146, 0), (115, 116, 4, 1, 0, 0), (116, 119, 39, 37, 0, 0), (119, 120, 4, 0, 0, 0), (120, 121, 4, 1, 0, 0), (121, 122, 4, 2, 0, 0), (122, 123, 2, 3, 0, 0), (123, 124, 0, 0, 0, 1), (124, 125, 9, 0, 0, 0), (125, 128, 39, 160, 0, 0), (128, 131, 18, 0, 144, 0), (131, 132, 4, 1, 0, 0), (132, 134, 0, 0, 0, 41), (134, 137, 39, 58, 0, 0), (137, 140, 18, 0, 144, 0), (140, 141, 0, 0, 0, 1), (141, 144, 22, 0, 145, 0), (144, 145, 0, 0, 0, 0), (145, 146, 42, 0, 0, 0), (146, 148, 2, 6, 0, 0), (148, 151, 18, 0, 158, 0), (151, 152, 4, 0, 0, 0), (152, 153, 4, 1, 0, 0), (153, 154, 4, 2, 0, 0), (154, 157, 39, 164, 0, 0), (157, 158, 42, 0, 0, 0), (158, 160, 2, 4, 0, 0), (160, 163, 18, 1, 169, 0), (163, 164, 4, 0, 0, 0), (164, 165, 4, 1, 0, 0), (165, 168, 39, 166, 0, 0), (168, 169, 42, 0, 0, 0), (169, 170, 4, 1, 0, 0), (170, 173, 39, 37, 0, 0), (173, 174, 4, 0, 0, 0), (174, 175, 4, 1, 0, 0), (175, 176, 4, 2, 0, 0), (176, 177, 2, 3, 0, 0), (177, 178, 0, 0, 0, 1), (178, 179, 9, 0, 0, 0), (179, 182, 39, 162, 0, 0), (182, 185, 18, 1, 187, 0), (185, 186, 0, 0, 0, 0), (186, 187, 42, 0, 0, 0), (187, 188, 4, 0, 0, 0), (188, 190, 0, 0, 0, 6), (190, 191, 0, 0, 0, 0), (191, 192, 0, 0, 0, 0), (192, 195, 39, 165, 0, 0), (195, 196, 0, 0, 0, 1), (196, 197, 42, 0, 0, 0)])
def M163 : Mth := (163, 7, 1, 1, 2, [(0, 1, 4, 0, 0, 0), (1, 4, 39, 33, 0, 0), (4, 5, 7, 1, 0, 0), (5, 6, 4, 1, 0, 0), (6, 9, 21, 1, 13, 0), (9, 10, 0, 0, 0, -1), (10, 13, 22, 0, 17, 0), (13, 14, 4, 1, 0, 0), (14, 17, 47, 2, 0, 0), (17, 18, 42, 0, 0, 0)])
def M164 : Mth := (164, 6, 3, 2, 6, [(0, 1, 4, 1, 0, 0), (1, 4, 39, 37, 0, 0), (4, 5, 4, 1, 0, 0), (5, 8, 39, 42, 0, 0), (8, 9, 6, 3, 0, 0), (9, 10, 3, 3, 0, 0), (10, 13, 1, 3, 0, 0), (13, 14, 11, 0, 0, 0), (14, 17, 18, 1, 19, 0), (17, 18, 0, 0, 0, 0), (18, 19, 42, 0, 0, 0), (19, 20, 4, 2, 0, 0), (20, 21, 3, 3, 0, 0), (21, 24, 39, 44, 0, 0), (24, 26, 5, 5, 0, 0), (26, 28, 2, 5, 0, 0), (28, 29, 0, 0, 0, -1), (29, 32, 19, 1, 38, 0), (32, 33, 4, 1, 0, 0), (33, 34, 0, 0, 0, 3), (34, 37, 39, 36, 0, 0), (37, 38, 42, 0, 0, 0), (38, 39, 4, 0, 0, 0), (39, 41, 0, 0, 0, 9), (41, 42, 0, 0, 0, 0), (42, 44, 2, 5, 0, 0), (44, 47, 39, 165, 0, 0), (47, 48, 4, 1, 0, 0), (48, 51, 39, 37, 0, 0), (51, 52, 0, 0, 0, 1), (52, 53, 42, 0, 0, 0)])
def M165 : Mth := (165, 6, 4, 0, 4, [(0, 1, 4, 0, 0, 0), (1, 4, 24, 6, 1, 0), (4, 7, 18, 2, 56, 0), (7, 8, 4, 0, 0, 0), (8, 11, 24, 6, 1, 0), (11, 13, 0, 0, 0, 64), (13, 16, 19, 3, 56, 0), (16, 17, 4, 0, 0, 0), (17, 20, 49, 6, 2, 0), (20, 21, 4, 0, 0, 0), (21, 24, 24, 6, 1, 0), (24, 25, 2, 1, 0, 0), (25, 26, 31, 0, 0, 0), (26, 27, 4, 0, 0, 0), (27, 30, 49, 6, 3, 0), (30, 31, 4, 0, 0, 0), (31, 34, 24, 6, 1, 0), (34, 35, 2, 2, 0, 0), (35, 36, 31, 0, 0, 0), (36, 37, 4, 0, 0, 0), (37, 40, 49, 6, 4, 0), (40, 41, 4, 0, 0, 0), (41, 44, 24, 6, 1, 0), (44, 45, 2, 3, 0, 0), (45, 46, 31, 0, 0, 0), (46, 47, 4, 0, 0, 0), (47, 48, 15, 0, 0, 0), (48, 51, 24, 6, 1, 0), (51, 52, 0, 0, 0, 1), (52, 53, 9, 0, 0, 0), (53, 56, 25, 6, 1, 0), (56, 57, 41, 0, 0, 0)])
def M166 : Mth := (166, 6, 2, 2, 5, [(0, 1, 4, 1, 0, 0), (1, 4, 39, 163, 0, 0), (4, 5, 5, 2, 0, 0), (5, 6, 4, 1, 0, 0), (6, 9, 39, 37, 0, 0), (9, 10, 4, 1, 0, 0), (10, 13, 39, 59, 0, 0), (13, 14, 5, 3, 0, 0), (14, 15, 2, 3, 0, 0), (15, 17, 0, 0, 0, 60), (17, 20, 19, 0, 38, 0), (20, 21, 2, 3, 0, 0), (21, 23, 0, 0, 0, 61), (23, 26, 19, 0, 38, 0), (26, 27, 2, 3, 0, 0), (27, 29, 0, 0, 0, 62), (29, 32, 19, 0, 38, 0), (32, 33, 4, 1, 0, 0), (33, 34, 0, 0, 0, 1), (34, 37, 39, 36, 0, 0), (37, 38, 42, 0, 0, 0), (38, 39, 4, 1, 0, 0), (39, 42, 39, 37, 0, 0), (42, 43, 4, 1, 0, 0), (43, 44, 0, 0, 0, 0), (44, 47, 0, 0, 0, 999), (47, 50, 39, 38, 0, 0), (50, 52, 5, 4, 0, 0), (52, 54, 2, 4, 0, 0), (54, 55, 0, 0, 0, -1), (55, 58, 19, 1, 60, 0), (58, 59, 0, 0, 0, 0), (59, 60, 42, 0, 0, 0), (60, 61, 4, 0, 0, 0), (61, 62, 2, 2, 0, 0), (62, 63, 2, 3, 0, 0), (63, 65, 2, 4, 0, 0), (65, 68, 39, 165, 0, 0), (68, 69, 0, 0, 0, 1), (69, 70, 42, 0, 0, 0)])
def M167 : Mth := (167, 9, 2, 1, 4, [(0, 1, 4, 0, 0, 0), (1, 4, 49, 9, 4, 0), (4, 7, 24, 6, 0, 0), (7, 10, 18, 1, 12, 0), (10, 11, 0, 0, 0, -1), (11, 12, 42, 0, 0, 0), (12, 13, 0, 0, 0, 0), (13, 14, 5, 2, 0, 0), (14, 15, 0, 0, 0, 0), (15, 16, 5, 3, 0, 0), (16, 17, 2, 3, 0, 0), (17, 18, 4, 0, 0, 0), (18, 21, 49, 9, 2, 0), (21, 24, 24, 1, 3, 0), (24, 27, 19, 3, 62, 0), (27, 28, 4, 0, 0, 0), (28, 31, 49, 9, 4, 0), (31, 32, 4, 0, 0, 0), (32, 35, 49, 9, 2, 0), (35, 36, 4, 0, 0, 0), (36, 39, 49, 9, 6, 0), (39, 40, 2, 3, 0, 0), (40, 43, 39, 168, 0, 0), (43, 46, 18, 0, 56, 0), (46, 47, 2, 2, 0, 0), (47, 48, 2, 1, 0, 0), (48, 51, 19, 1, 53, 0), (51, 52, 2, 3, 0, 0), (52, 53, 42, 0, 0, 0), (53, 56, 8, 2, 0, 1), (56, 59, 8, 3, 0, 1), (59, 62, 22, 0, 16, 0), (62, 63, 2, 1, 0, 0), (63, 64, 0, 0, 0, -1), (64, 67, 19, 1, 71, 0), (67, 68, 2, 2, 0, 0), (68, 71, 22, 0, 72, 0), (71, 72, 0, 0, 0, -1), (72, 73, 42, 0, 0, 0)])
def M168 : Mth := (168, 6, 4, 2, 8, [(0, 1, 0, 0, 0, 0), (1, 3, 5, 4, 0, 0), (3, 4, 0, 0, 0, 0), (4, 6, 5, 5, 0, 0), (6, 8, 2, 5, 0, 0), (8, 9, 4, 0, 0, 0), (9, 12, 24, 6, 1, 0), (12, 15, 19, 3, 145, 0), (15, 17, 2, 5, 0, 0), (17, 19, 0, 0, 0, 64), (19, 22, 19, 3, 145, 0), (22, 24, 2, 4, 0, 0), (24, 25, 0, 0, 0, 1), (25, 26, 9, 5, 0, 0), (26, 28, 5, 6, 0, 0), (28, 30, 2, 4, 0, 0), (30, 31, 0, 0, 0, 1), (31, 32, 9, 9, 0, 0), (32, 33, 0, 0, 0, 1), (33, 34, 9, 5, 0, 0), (34, 36, 5, 7, 0, 0), (36, 37, 4, 0, 0, 0), (37, 40, 49, 6, 2, 0), (40, 42, 2, 5, 0, 0), (42, 43, 27, 0, 0, 0), (43, 45, 0, 0, 0, 6), (45, 48, 19, 1, 57, 0), (48, 50, 2, 4, 0, 0), (50, 51, 0, 0, 0, 1), (51, 52, 9, 7, 0, 0), (52, 54, 5, 4, 0, 0), (54, 57, 22, 0, 139, 0), (57, 58, 4, 0, 0, 0), (58, 61, 49, 6, 2, 0), (61, 63, 2, 5, 0, 0), (63, 64, 27, 0, 0, 0), (64, 66, 0, 0, 0, 7), (66, 69, 19, 1, 86, 0), (69, 71, 2, 4, 0, 0), (71, 72, 0, 0, 0, 2), (72, 73, 9, 9, 0, 0), (73, 74, 0, 0, 0, 1), (74, 75, 9, 8, 0, 0), (75, 77, 2, 6, 0, 0), (77, 79, 2, 7, 0, 0), (79, 80, 9, 5, 0, 0), (80, 81, 9, 6, 0, 0), (81, 83, 5, 4, 0, 0), (83, 86, 22, 0, 139, 0), (86, 87, 4, 0, 0, 0), (87, 90, 49, 6, 2, 0), (90, 92, 2, 5, 0, 0), (92, 93, 27, 0, 0, 0), (93, 95, 0, 0, 0, 8), (95, 98, 19, 1, 115, 0), (98, 100, 2, 4, 0, 0), (100, 101, 0, 0, 0, 2), (101, 102, 9, 9, 0, 0), (102, 103, 0, 0, 0, 1), (103, 104, 9, 8, 0, 0), (104, 106, 2, 6, 0, 0), (106, 108, 2, 7, 0, 0), (108, 109, 9, 6, 0, 0), (109, 110, 9, 6, 0, 0), (110, 112, 5, 4, 0, 0), (112, 115, 22, 0, 139, 0), (115, 117, 2, 4, 0, 0), (117, 118, 0, 0, 0, 1), (118, 119, 9, 8, 0, 0), (119, 120, 4, 0, 0, 0), (120, 121, 4, 1, 0, 0), (121, 122, 4, 2, 0, 0), (122, 123, 2, 3, 0, 0), (123, 125, 2, 5, 0, 0), (125, 128, 39, 169, 0, 0), (128, 131, 18, 0, 135, 0), (131, 132, 0, 0, 0, 1), (132, 135, 22, 0, 136, 0), (135, 136, 0, 0, 0, 0), (136, 137, 9, 6, 0, 0), (137, 139, 5, 4, 0, 0), (139, 142, 8, 5, 0, 1), (142, 145, 22, 0, 6, 0), (145, 147, 2, 4, 0, 0), (147, 148, 0, 0, 0, 1), (148, 149, 9, 5, 0, 0), (149, 150, 0, 0, 0, 1), (150, 153, 19, 1, 157, 0), (153, 154, 0, 0, 0, 1), (154, 157, 22, 0, 158, 0), (157, 158, 0, 0, 0, 0), (158, 159, 42, 0, 0, 0)])
def M169 : Mth := (169, 6, 5, 2, 6, [(0, 2, 2, 4, 0, 0), (2, 5, 18, 2, 12, 0), (5, 7, 2, 4, 0, 0), (7, 9, 0, 0, 0, 64), (9, 12, 19, 2, 14, 0), (12, 13, 0, 0, 0, 0), (13, 14, 42, 0, 0, 0), (14, 15, 4, 0, 0, 0), (15, 18, 49, 6, 2, 0), (18, 20, 2, 4, 0, 0), (20, 21, 27, 0, 0, 0), (21, 23, 0, 0, 0, 9), (23, 26, 19, 1, 40, 0), (26, 27, 4, 2, 0, 0), (27, 28, 4, 1, 0, 0), (28, 29, 2, 3, 0, 0), (29, 30, 4, 0, 0, 0), (30, 33, 49, 6, 4, 0), (33, 35, 2, 4, 0, 0), (35, 36, 27, 0, 0, 0), (36, 39, 39, 170, 0, 0), (39, 40, 42, 0, 0, 0), (40, 41, 4, 1, 0, 0), (41, 42, 4, 2, 0, 0), (42, 43, 2, 3, 0, 0), (43, 44, 4, 0, 0, 0), (44, 47, 49, 6, 2, 0), (47, 49, 2, 4, 0, 0), (49, 50, 27, 0, 0, 0), (50, 53, 39, 172, 0, 0), (53, 55, 5, 5, 0, 0), (55, 56, 4, 0, 0, 0), (56, 59, 49, 6, 3, 0), (59, 61, 2, 4, 0, 0), (61, 62, 27, 0, 0, 0), (62, 64, 0, 0, 0, 60), (64, 67, 19, 1, 85, 0), (67, 69, 2, 5, 0, 0), (69, 70, 4, 0, 0, 0), (70, 73, 49, 6, 4, 0), (73, 75, 2, 4, 0, 0), (75, 76, 27, 0, 0, 0), (76, 79, 19, 3, 83, 0), (79, 80, 0, 0, 0, 1), (80, 83, 22, 0, 84, 0), (83, 84, 0, 0, 0, 0), (84, 85, 42, 0, 0, 0), (85, 86, 4, 0, 0, 0), (86, 89, 49, 6, 3, 0), (89, 91, 2, 4, 0, 0), (91, 92, 27, 0, 0, 0), (92, 94, 0, 0, 0, 61), (94, 97, 19, 1, 117, 0), (97, 99, 2, 5, 0, 0), (99, 100, 4, 0, 0, 0), (100, 103, 49, 6, 4, 0), (103, 105, 2, 4, 0, 0), (105, 106, 27, 0, 0, 0), (106, 109, 19, 1, 113, 0), (109, 110, 0, 0, 0, 1), (110, 113, 22, 0, 134, 0), (113, 114, 0, 0, 0, 0), (114, 117, 22, 0, 134, 0), (117, 119, 2, 5, 0, 0), (119, 120, 4, 0, 0, 0), (120, 123, 49, 6, 4, 0), (123, 125, 2, 4, 0, 0), (125, 126, 27, 0, 0, 0), (126, 129, 19, 5, 133, 0), (129, 130, 0, 0, 0, 1), (130, 133, 22, 0, 134, 0), (133, 134, 0, 0, 0, 0), (134, 135, 42, 0, 0, 0)])
def M170 : Mth := (170, 5, 4, 2, 6, [(0, 1, 4, 1, 0, 0), (1, 2, 2, 3, 0, 0), (2, 5, 39, 66, 0, 0), (5, 7, 5, 4, 0, 0), (7, 8, 0, 0, 0, 0), (8, 10, 5, 5, 0, 0), (10, 12, 2, 5, 0, 0), (12, 14, 2, 4, 0, 0), (14, 17, 19, 3, 40, 0), (17, 18, 4, 0, 0, 0), (18, 19, 2, 2, 0, 0), (19, 20, 4, 1, 0, 0), (20, 21, 2, 3, 0, 0), (21, 23, 2, 5, 0, 0), (23, 26, 39, 65, 0, 0), (26, 29, 39, 171, 0, 0), (29, 32, 18, 5, 34, 0), (32, 33, 0, 0, 0, 1), (33, 34, 42, 0, 0, 0), (34, 37, 8, 5, 0, 1), (37, 40, 22, 0, 10, 0), (40, 41, 0, 0, 0, 0), (41, 42, 42, 0, 0, 0)])
def M171 : Mth := (171, 5, 3, 1, 5, [(0, 1, 2, 1, 0, 0), (1, 4, 39, 75, 0, 0), (4, 7, 18, 0, 14, 0), (7, 8, 2, 2, 0, 0), (8, 11, 39, 77, 0, 0), (11, 14, 18, 1, 16, 0), (14, 15, 0, 0, 0, 0), (15, 16, 42, 0, 0, 0), (16, 17, 0, 0, 0, 0), (17, 18, 5, 3, 0, 0), (18, 19, 0, 0, 0, 0), (19, 21, 5, 4, 0, 0), (21, 23, 2, 4, 0, 0), (23, 25, 0, 0, 0, 9), (25, 28, 19, 3, 49, 0), (28, 29, 2, 3, 0, 0), (29, 30, 4, 0, 0, 0), (30, 33, 49, 5, 1, 0), (33, 35, 2, 4, 0, 0), (35, 36, 2, 2, 0, 0), (36, 37, 2, 1, 0, 0), (37, 40, 39, 78, 0, 0), (40, 41, 27, 0, 0, 0), (41, 42, 9, 0, 0, 0), (42, 43, 5, 3, 0, 0), (43, 46, 8, 4, 0, 1), (46, 49, 22, 0, 21, 0), (49, 50, 2, 3, 0, 0), (50, 51, 42, 0, 0, 0)])
def M172 : Mth := (172, 9, 4, 1, 4, [(0, 1, 2, 3, 0, 0), (1, 4, 18, 1, 10, 0), (4, 5, 4, 0, 0, 0), (5, 6, 2, 2, 0, 0), (6, 9, 39, 89, 0, 0), (9, 10, 42, 0, 0, 0), (10, 11, 2, 3, 0, 0), (11, 12, 0, 0, 0, 1), (12, 15, 19, 1, 21, 0), (15, 16, 4, 0, 0, 0), (16, 17, 2, 2, 0, 0), (17, 20, 39, 73, 0, 0), (20, 21, 42, 0, 0, 0), (21, 22, 2, 3, 0, 0), (22, 23, 0, 0, 0, 2), (23, 26, 19, 1, 32, 0), (26, 27, 4, 0, 0, 0), (27, 28, 2, 2, 0, 0), (28, 31, 39, 134, 0, 0), (31, 32, 42, 0, 0, 0), (32, 33, 2, 3, 0, 0), (33, 34, 0, 0, 0, 3), (34, 37, 19, 1, 43, 0), (37, 38, 4, 1, 0, 0), (38, 39, 2, 2, 0, 0), (39, 42, 39, 173, 0, 0), (42, 43, 42, 0, 0, 0), (43, 44, 2, 3, 0, 0), (44, 45, 0, 0, 0, 4), (45, 48, 19, 1, 56, 0), (48, 49, 4, 1, 0, 0), (49, 50, 2, 2, 0, 0), (50, 53, 39, 174, 0, 0), (53, 56, 22, 0, 57, 0), (56, 57, 2, 2, 0, 0), (57, 58, 42, 0, 0, 0)])
def M173 : Mth := (173, 5, 2, 1, 4, [(0, 1, 0, 0, 0, 0), (1, 2, 5, 2, 0, 0), (2, 3, 0, 0, 0, 0), (3, 4, 5, 3, 0, 0), (4, 5, 2, 3, 0, 0), (5, 8, 0, 0, 0, 144), (8, 11, 19, 3, 26, 0), (11, 12, 2, 2, 0, 0), (12, 13, 4, 0, 0, 0), (13, 14, 2, 1, 0, 0), (14, 15, 2, 3, 0, 0), (15, 18, 39, 171, 0, 0), (18, 19, 9, 0, 0, 0), (19, 20, 5, 2, 0, 0), (20, 23, 8, 3, 0, 1), (23, 26, 22, 0, 4, 0), (26, 27, 2, 2, 0, 0), (27, 28, 42, 0, 0, 0)])
def M174 : Mth := (174, 5, 2, 1, 4, [(0, 1, 0, 0, 0, 0), (1, 2, 5, 2, 0, 0), (2, 3, 0, 0, 0, 0), (3, 4, 5, 3, 0, 0), (4, 5, 2, 3, 0, 0), (5, 8, 0, 0, 0, 144), (8, 11, 19, 3, 29, 0), (11, 12, 4, 0, 0, 0), (12, 13, 2, 1, 0, 0), (13, 14, 2, 3, 0, 0), (14, 17, 39, 171, 0, 0), (17, 20, 18, 5, 23, 0), (20, 23, 8, 2, 0, 1), (23, 26, 8, 3, 0, 1), (26, 29, 22, 0, 4, 0), (29, 30, 2, 2, 0, 0), (30, 31, 42, 0, 0, 0)])
def M175 : Mth := (175, 9, 2, 2, 5, [(0, 1, 2, 1, 0, 0), (1, 4, 18, 2, 9, 0), (4, 5, 2, 1, 0, 0), (5, 6, 0, 0, 0, 2), (6, 9, 19, 2, 11, 0), (9, 10, 0, 0, 0, 0), (10, 11, 42, 0, 0, 0), (11, 12, 4, 0, 0, 0), (12, 15, 49, 9, 10, 0), (15, 16, 2, 1, 0, 0), (16, 17, 30, 0, 0, 0), (17, 18, 7, 2, 0, 0), (18, 19, 4, 0, 0, 0), (19, 22, 49, 9, 11, 0), (22, 23, 2, 1, 0, 0), (23, 24, 30, 0, 0, 0), (24, 25, 7, 3, 0, 0), (25, 26, 4, 0, 0, 0), (26, 29, 49, 9, 12, 0), (29, 30, 2, 1, 0, 0), (30, 31, 30, 0, 0, 0), (31, 33, 7, 4, 0, 0), (33, 34, 4, 2, 0, 0), (34, 37, 21, 0, 46, 0), (37, 38, 4, 3, 0, 0), (38, 41, 21, 0, 46, 0), (41, 43, 4, 4, 0, 0), (43, 46, 21, 1, 48, 0), (46, 47, 0, 0, 0, 0), (47, 48, 42, 0, 0, 0), (48, 49, 4, 2, 0, 0), (49, 50, 4, 0, 0, 0), (50, 53, 49, 9, 2, 0), (53, 56, 39, 176, 0, 0), (56, 57, 4, 3, 0, 0), (57, 58, 4, 0, 0, 0), (58, 61, 49, 9, 6, 0), (61, 64, 39, 72, 0, 0), (64, 66, 4, 4, 0, 0), (66, 67, 4, 0, 0, 0), (67, 70, 49, 9, 4, 0), (70, 73, 39, 177, 0, 0), (73, 74, 4, 0, 0, 0), (74, 77, 49, 9, 13, 0), (77, 78, 2, 1, 0, 0), (78, 79, 0, 0, 0, 1), (79, 80, 33, 0, 0, 0), (80, 81, 0, 0, 0, 1), (81, 82, 42, 0, 0, 0)])
def M176 : Mth := (176, 1, 2, 0, 3, [(0, 1, 4, 0, 0, 0), (1, 2, 4, 1, 0, 0), (2, 5, 24, 1, 0, 0), (5, 8, 25, 1, 0, 0), (8, 9, 4, 0, 0, 0), (9, 10, 4, 1, 0, 0), (10, 13, 24, 1, 1, 0), (13, 16, 25, 1, 1, 0), (16, 17, 4, 0, 0, 0), (17, 18, 4, 1, 0, 0), (18, 21, 24, 1, 2, 0), (21, 24, 25, 1, 2, 0), (24, 25, 4, 0, 0, 0), (25, 26, 4, 1, 0, 0), (26, 29, 24, 1, 3, 0), (29, 32, 25, 1, 3, 0), (32, 33, 4, 0, 0, 0), (33, 34, 4, 1, 0, 0), (34, 37, 24, 1, 4, 0), (37, 40, 25, 1, 4, 0), (40, 41, 4, 0, 0, 0), (41, 42, 4, 1, 0, 0), (42, 45, 24, 1, 5, 0), (45, 48, 25, 1, 5, 0), (48, 49, 4, 0, 0, 0), (49, 50, 4, 1, 0, 0), (50, 53, 24, 1, 6, 0), (53, 56, 25, 1, 6, 0), (56, 57, 4, 1, 0, 0), (57, 60, 49, 1, 7, 0), (60, 61, 0, 0, 0, 0), (61, 62, 4, 0, 0, 0), (62, 65, 49, 1, 7, 0), (65, 66, 0, 0, 0, 0), (66, 68, 0, 0, 0, 6), (68, 71, 40, 0, 0, 0), (71, 72, 4, 1, 0, 0), (72, 75, 49, 1, 8, 0), (75, 76, 0, 0, 0, 0), (76, 77, 4, 0, 0, 0), (77, 80, 49, 1, 8, 0), (80, 81, 0, 0, 0, 0), (81, 83, 0, 0, 0, 6), (83, 86, 40, 0, 0, 0), (86, 87, 4, 1, 0, 0), (87, 90, 49, 1, 9, 0), (90, 91, 0, 0, 0, 0), (91, 92, 4, 0, 0, 0), (92, 95, 49, 1, 9, 0), (95, 96, 0, 0, 0, 0), (96, 98, 0, 0, 0, 6), (98, 101, 40, 0, 0, 0), (101, 102, 4, 1, 0, 0), (102, 105, 49, 1, 10, 0), (105, 106, 0, 0, 0, 0), (106, 107, 4, 0, 0, 0), (107, 110, 49, 1, 10, 0), (110, 111, 0, 0, 0, 0), (111, 113, 0, 0, 0, 6), (113, 116, 40, 0, 0, 0), (116, 117, 4, 1, 0, 0), (117, 120, 49, 1, 11, 0), (120, 121, 0, 0, 0, 0), (121, 122, 4, 0, 0, 0), (122, 125, 49, 1, 11, 0), (125, 126, 0, 0, 0, 0), (126, 128, 0, 0, 0, 6), (128, 131, 40, 0, 0, 0), (131, 132, 4, 1, 0, 0), (132, 135, 49, 1, 12, 0), (135, 136, 0, 0, 0, 0), (136, 137, 4, 0, 0, 0), (137, 140, 49, 1, 12, 0), (140, 141, 0, 0, 0, 0), (141, 143, 0, 0, 0, 6), (143, 146, 40, 0, 0, 0), (146, 147, 4, 1, 0, 0), (147, 150, 49, 1, 13, 0), (150, 151, 0, 0, 0, 0), (151, 152, 4, 0, 0, 0), (152, 155, 49, 1, 13, 0), (155, 156, 0, 0, 0, 0), (156, 159, 0, 0, 0, 246), (159, 162, 40, 0, 0, 0), (162, 163, 4, 1, 0, 0), (163, 166, 49, 1, 15, 0), (166, 167, 0, 0, 0, 0), (167, 168, 4, 0, 0, 0), (168, 171, 49, 1, 15, 0), (171, 172, 0, 0, 0, 0), (172, 174, 0, 0, 0, 8), (174, 177, 40, 0, 0, 0), (177, 178, 0, 0, 0, 0), (178, 179, 5, 2, 0, 0), (179, 180, 2, 2, 0, 0), (180, 183, 0, 0, 0, 144), (183, 186, 19, 3, 204, 0), (186, 187, 4, 0, 0, 0), (187, 190, 49, 1, 14, 0), (190, 191, 2, 2, 0, 0), (191, 192, 4, 1, 0, 0), (192, 195, 49, 1, 14, 0), (195, 196, 2, 2, 0, 0), (196, 197, 29, 0, 0, 0), (197, 198, 33, 0, 0, 0), (198, 201, 8, 2, 0, 1), (201, 204, 22, 0, 179, 0), (204, 205, 41, 0, 0, 0)])
def M177 : Mth := (177, 6, 2, 0, 2, [(0, 1, 4, 0, 0, 0), (1, 2, 4, 1, 0, 0), (2, 5, 24, 6, 0, 0), (5, 8, 25, 6, 0, 0), (8, 9, 4, 0, 0, 0), (9, 10, 4, 1, 0, 0), (10, 13, 24, 6, 1, 0), (13, 16, 25, 6, 1, 0), (16, 17, 4, 1, 0, 0), (17, 20, 49, 6, 2, 0), (20, 21, 0, 0, 0, 0), (21, 22, 4, 0, 0, 0), (22, 25, 49, 6, 2, 0), (25, 26, 0, 0, 0, 0), (26, 28, 0, 0, 0, 64), (28, 31, 40, 0, 0, 0), (31, 32, 4, 1, 0, 0), (32, 35, 49, 6, 3, 0), (35, 36, 0, 0, 0, 0), (36, 37, 4, 0, 0, 0), (37, 40, 49, 6, 3, 0), (40, 41, 0, 0, 0, 0), (41, 43, 0, 0, 0, 64), (43, 46, 40, 0, 0, 0), (46, 47, 4, 1, 0, 0), (47, 50, 49, 6, 4, 0), (50, 51, 0, 0, 0, 0), (51, 52, 4, 0, 0, 0), (52, 55, 49, 6, 4, 0), (55, 56, 0, 0, 0, 0), (56, 58, 0, 0, 0, 64), (58, 61, 40, 0, 0, 0), (61, 62, 41, 0, 0, 0)])
def M178 : Mth := (178, 9, 2, 2, 5, [(0, 1, 2, 1, 0, 0), (1, 4, 18, 2, 18, 0), (4, 5, 2, 1, 0, 0), (5, 6, 0, 0, 0, 2), (6, 9, 19, 3, 18, 0), (9, 10, 4, 0, 0, 0), (10, 13, 49, 9, 13, 0), (13, 14, 2, 1, 0, 0), (14, 15, 29, 0, 0, 0), (15, 18, 18, 1, 20, 0), (18, 19, 0, 0, 0, 0), (19, 20, 42, 0, 0, 0), (20, 21, 4, 0, 0, 0), (21, 24, 49, 9, 10, 0), (24, 25, 2, 1, 0, 0), (25, 26, 30, 0, 0, 0), (26, 27, 7, 2, 0, 0), (27, 28, 4, 0, 0, 0), (28, 31, 49, 9, 11, 0), (31, 32, 2, 1, 0, 0), (32, 33, 30, 0, 0, 0), (33, 34, 7, 3, 0, 0), (34, 35, 4, 0, 0, 0), (35, 38, 49, 9, 12, 0), (38, 39, 2, 1, 0, 0), (39, 40, 30, 0, 0, 0), (40, 42, 7, 4, 0, 0), (42, 43, 4, 2, 0, 0), (43, 46, 21, 0, 55, 0), (46, 47, 4, 3, 0, 0), (47, 50, 21, 0, 55, 0), (50, 52, 4, 4, 0, 0), (52, 55, 21, 1, 57, 0), (55, 56, 0, 0, 0, 0), (56, 57, 42, 0, 0, 0), (57, 58, 4, 0, 0, 0), (58, 61, 49, 9, 2, 0), (61, 62, 4, 2, 0, 0), (62, 65, 39, 176, 0, 0), (65, 66, 4, 0, 0, 0), (66, 69, 49, 9, 6, 0), (69, 70, 4, 3, 0, 0), (70, 73, 39, 72, 0, 0), (73, 74, 4, 0, 0, 0), (74, 77, 49, 9, 4, 0), (77, 79, 4, 4, 0, 0), (79, 82, 39, 177, 0, 0), (82, 83, 4, 0, 0, 0), (83, 84, 0, 0, 0, 0), (84, 87, 25, 9, 9, 0), (87, 88, 0, 0, 0, 1), (88, 89, 42, 0, 0, 0)])
def M179 : Mth := (179, 9, 2, 1, 2, [(0, 1, 2, 1, 0, 0), (1, 52, 23, 2, 0, 0), (52, 53, 4, 0, 0, 0), (53, 56, 49, 9, 2, 0), (56, 59, 24, 1, 0, 0), (59, 60, 42, 0, 0, 0), (60, 61, 4, 0, 0, 0), (61, 64, 49, 9, 2, 0), (64, 67, 24, 1, 1, 0), (67, 68, 42, 0, 0, 0), (68, 69, 4, 0, 0, 0), (69, 72, 49, 9, 2, 0), (72, 75, 24, 1, 3, 0), (75, 76, 42, 0, 0, 0), (76, 77, 4, 0, 0, 0), (77, 80, 49, 9, 2, 0), (80, 83, 24, 1, 4, 0), (83, 84, 42, 0, 0, 0), (84, 85, 4, 0, 0, 0), (85, 88, 49, 9, 2, 0), (88, 91, 24, 1, 5, 0), (91, 92, 42, 0, 0, 0), (92, 93, 4, 0, 0, 0), (93, 96, 49, 9, 2, 0), (96, 99, 24, 1, 6, 0), (99, 100, 42, 0, 0, 0), (100, 101, 4, 0, 0, 0), (101, 104, 49, 9, 2, 0), (104, 107, 39, 82, 0, 0), (107, 108, 42, 0, 0, 0), (108, 109, 4, 0, 0, 0), (109, 112, 49, 9, 6, 0), (112, 115, 24, 5, 0, 0), (115, 116, 42, 0, 0, 0), (116, 117, 4, 0, 0, 0), (117, 120, 49, 9, 0, 0), (120, 123, 24, 7, 1, 0), (123, 124, 42, 0, 0, 0), (124, 125, 0, 0, 0, -1), (125, 126, 42, 0, 0, 0)])
def M180 : Mth := (180, 9, 3, 1, 3, [(0, 1, 4, 0, 0, 0), (1, 4, 49, 9, 2, 0), (4, 5, 2, 1, 0, 0), (5, 8, 39, 69, 0, 0), (8, 11, 18, 0, 20, 0), (11, 12, 2, 2, 0, 0), (12, 15, 18, 2, 20, 0), (15, 16, 2, 2, 0, 0), (16, 17, 0, 0, 0, 5), (17, 20, 19, 5, 30, 0), (23, 24, 15, 0, 0, 0), (30, 31, 2, 2, 0, 0), (31, 32, 0, 0, 0, 5), (32, 35, 19, 1, 46, 0), (35, 36, 4, 0, 0, 0), (36, 39, 49, 9, 6, 0), (39, 40, 2, 1, 0, 0), (40, 43, 39, 157, 0, 0), (43, 46, 22, 0, 59, 0), (46, 47, 4, 0, 0, 0), (47, 50, 49, 9, 2, 0), (50, 51, 4, 0, 0, 0), (51, 54, 49, 9, 6, 0), (54, 55, 2, 1, 0, 0), (55, 56, 2, 2, 0, 0), (56, 59, 39, 172, 0, 0), (59, 60, 42, 0, 0, 0)])
def M181 : Mth := (181, 9, 3, 1, 3, [(0, 1, 4, 0, 0, 0), (1, 4, 49, 9, 2, 0), (4, 5, 2, 1, 0, 0), (5, 8, 39, 56, 0, 0), (8, 11, 18, 0, 21, 0), (11, 12, 2, 2, 0, 0), (12, 15, 18, 2, 21, 0), (15, 16, 2, 2, 0, 0), (16, 18, 0, 0, 0, 7), (18, 21, 19, 5, 31, 0), (24, 25, 15, 0, 0, 0), (31, 32, 2, 2, 0, 0), (32, 35, 18, 1, 48, 0), (35, 36, 4, 0, 0, 0), (36, 39, 49, 9, 6, 0), (39, 40, 4, 0, 0, 0), (40, 43, 49, 9, 2, 0), (43, 44, 2, 1, 0, 0), (44, 47, 39, 102, 0, 0), (47, 48, 42, 0, 0, 0), (48, 49, 2, 2, 0, 0), (49, 50, 0, 0, 0, 1), (50, 53, 19, 1, 62, 0), (53, 54, 4, 0, 0, 0), (54, 57, 49, 9, 6, 0), (57, 58, 2, 1, 0, 0), (58, 61, 39, 182, 0, 0), (61, 62, 42, 0, 0, 0), (62, 63, 2, 2, 0, 0), (63, 65, 0, 0, 0, 6), (65, 68, 19, 1, 85, 0), (68, 69, 4, 0, 0, 0), (69, 72, 49, 9, 2, 0), (72, 73, 2, 1, 0, 0), (73, 76, 39, 50, 0, 0), (76, 79, 18, 0, 83, 0), (79, 80, 0, 0, 0, 1), (80, 83, 22, 0, 84, 0), (83, 84, 0, 0, 0, 0), (84, 85, 42, 0, 0, 0), (85, 86, 2, 2, 0, 0), (86, 88, 0, 0, 0, 7), (88, 91, 19, 1, 108, 0), (91, 92, 4, 0, 0, 0), (92, 95, 49, 9, 2, 0), (95, 96, 2, 1, 0, 0), (96, 99, 39, 48, 0, 0), (99, 102, 18, 0, 106, 0), (102, 103, 0, 0, 0, 1), (103, 106, 22, 0, 107, 0), (106, 107, 0, 0, 0, 0), (107, 108, 42, 0, 0, 0), (108, 109, 4, 0, 0, 0), (109, 112, 49, 9, 6, 0), (112, 113, 2, 1, 0, 0), (113, 114, 2, 2, 0, 0), (114, 117, 39, 183, 0, 0), (117, 118, 42, 0, 0, 0)])
def M182 : Mth := (182, 5, 2, 1, 4, [(0, 1, 0, 0, 0, 0), (1, 2, 5, 2, 0, 0), (2, 3, 0, 0, 0, 0), (3, 4, 5, 3, 0, 0), (4, 5, 2, 3, 0, 0), (5, 7, 0, 0, 0, 6), (7, 10, 19, 3, 25, 0), (10, 11, 2, 2, 0, 0), (11, 12, 4, 0, 0, 0), (12, 13, 2, 3, 0, 0), (13, 14, 2, 1, 0, 0), (14, 17, 39, 171, 0, 0), (17, 18, 9, 0, 0, 0), (18, 19, 5, 2, 0, 0), (19, 22, 8, 3, 0, 1), (22, 25, 22, 0, 4, 0), (25, 26, 2, 2, 0, 0), (26, 27, 42, 0, 0, 0)])
def M183 : Mth := (183, 5, 3, 1, 3, [(0, 1, 4, 0, 0, 0), (1, 2, 2, 1, 0, 0), (2, 5, 39, 87, 0, 0), (5, 8, 18, 1, 10, 0), (8, 9, 0, 0, 0, -1), (9, 10, 42, 0, 0, 0), (10, 11, 2, 2, 0, 0), (11, 12, 0, 0, 0, 2), (12, 15, 19, 1, 22, 0), (15, 16, 4, 0, 0, 0), (16, 19, 49, 5, 3, 0), (19, 20, 2, 1, 0, 0), (20, 21, 27, 0, 0, 0), (21, 22, 42, 0, 0, 0), (22, 23, 2, 2, 0, 0), (23, 24, 0, 0, 0, 3), (24, 27, 19, 1, 34, 0), (27, 28, 4, 0, 0, 0), (28, 31, 49, 5, 4, 0), (31, 32, 2, 1, 0, 0), (32, 33, 27, 0, 0, 0), (33, 34, 42, 0, 0, 0), (34, 35, 2, 2, 0, 0), (35, 36, 0, 0, 0, 4), (36, 39, 19, 1, 48, 0), (39, 40, 4, 0, 0, 0), (40, 43, 49, 5, 5, 0), (43, 44, 2, 1, 0, 0), (44, 45, 27, 0, 0, 0), (45, 48, 22, 0, 59, 0), (48, 49, 4, 0, 0, 0), (49, 52, 24, 5, 0, 0), (52, 53, 4, 0, 0, 0), (53, 56, 49, 5, 6, 0), (56, 57, 2, 1, 0, 0), (57, 58, 27, 0, 0, 0), (58, 59, 9, 1, 0, 0), (59, 60, 42, 0, 0, 0)])
def M184 : Mth := (184, 10, 1, 1, 1, [(0, 1, 4, 0, 0, 0), (1, 4, 24, 10, 0, 0), (4, 5, 42, 0, 0, 0)])
def M185 : Mth := (185, 10, 6, 1, 6, [(0, 1, 4, 0, 0, 0), (1, 2, 0, 0, 0, 0), (2, 5, 25, 10, 0, 0), (5, 6, 4, 0, 0, 0), (6, 9, 24, 10, 2, 0), (9, 11, 0, 0, 0, 20), (11, 12, 9, 0, 0, 0), (12, 15, 0, 0, 0, 940), (15, 18, 19, 5, 20, 0), (18, 19, 0, 0, 0, -1), (19, 20, 42, 0, 0, 0), (20, 21, 4, 0, 0, 0), (21, 22, 2, 1, 0, 0), (22, 25, 39, 186, 0, 0), (25, 26, 4, 0, 0, 0), (26, 27, 2, 2, 0, 0), (27, 30, 39, 186, 0, 0), (30, 31, 4, 0, 0, 0), (31, 32, 2, 3, 0, 0), (32, 35, 39, 186, 0, 0), (35, 36, 4, 0, 0, 0), (36, 38, 2, 4, 0, 0), (38, 41, 39, 186, 0, 0), (41, 42, 4, 0, 0, 0), (42, 44, 2, 5, 0, 0), (44, 47, 39, 186, 0, 0), (47, 48, 4, 0, 0, 0), (48, 51, 24, 10, 2, 0), (51, 52, 42, 0, 0, 0)])
def M186 : Mth := (186, 10, 2, 0, 3, [(0, 2, 0, 0, 0, 24), (2, 3, 5, 2, 0, 0), (3, 4, 2, 2, 0, 0), (4, 7, 18, 2, 36, 0), (7, 8, 4, 0, 0, 0), (8, 11, 49, 10, 1, 0), (11, 12, 4, 0, 0, 0), (12, 15, 24, 10, 2, 0), (15, 16, 2, 1, 0, 0), (16, 17, 2, 2, 0, 0), (17, 18, 9, 9, 0, 0), (18, 19, 14, 0, 0, 0), (19, 20, 33, 0, 0, 0), (20, 21, 4, 0, 0, 0), (21, 22, 15, 0, 0, 0), (22, 25, 24, 10, 2, 0), (25, 26, 0, 0, 0, 1), (26, 27, 9, 0, 0, 0), (27, 30, 25, 10, 2, 0), (30, 33, 8, 2, 0, -8), (33, 36, 22, 0, 3, 0), (36, 37, 41, 0, 0, 0)])
def M187 : Mth := (187, 10, 2, 2, 2, [(0, 1, 4, 0, 0, 0), (1, 2, 0, 0, 0, 0), (2, 5, 25, 10, 0, 0), (5, 6, 2, 1, 0, 0), (6, 9, 18, 2, 17, 0), (9, 10, 2, 1, 0, 0), (10, 11, 4, 0, 0, 0), (11, 14, 24, 10, 2, 0), (14, 17, 19, 5, 19, 0), (17, 18, 0, 0, 0, 0), (18, 19, 42, 0, 0, 0), (19, 20, 4, 0, 0, 0), (20, 21, 2, 1, 0, 0), (21, 24, 25, 10, 2, 0), (24, 25, 0, 0, 0, 1), (25, 26, 42, 0, 0, 0)])
def M188 : Mth := (188, 10, 1, 0, 1, [(0, 1, 4, 0, 0, 0), (1, 4, 46, 0, 0, 0), (4, 5, 4, 0, 0, 0), (5, 8, 0, 0, 0, 940), (8, 10, 37, 103, 0, 0), (10, 13, 51, 10, 1, 0), (13, 14, 4, 0, 0, 0), (14, 17, 0, 0, 0, 10265), (17, 19, 37, 101, 0, 0), (19, 22, 51, 10, 6, 0), (22, 23, 4, 0, 0, 0), (23, 26, 0, 0, 0, 429), (26, 28, 37, 101, 0, 0), (28, 31, 51, 10, 7, 0), (31, 32, 4, 0, 0, 0), (32, 35, 0, 0, 0, 135), (35, 37, 37, 101, 0, 0), (37, 40, 51, 10, 8, 0), (40, 41, 4, 0, 0, 0), (41, 43, 0, 0, 0, 24), (43, 45, 37, 102, 0, 0), (45, 48, 51, 10, 9, 0), (48, 49, 4, 0, 0, 0), (49, 51, 0, 0, 0, 20), (51, 53, 37, 102, 0, 0), (53, 56, 51, 10, 10, 0), (56, 57, 4, 0, 0, 0), (57, 59, 0, 0, 0, 57930), (59, 61, 37, 101, 0, 0), (61, 64, 51, 10, 22, 0), (64, 65, 4, 0, 0, 0), (65, 67, 0, 0, 0, 48), (67, 69, 37, 101, 0, 0), (69, 72, 51, 10, 24, 0), (72, 73, 4, 0, 0, 0), (73, 75, 0, 0, 0, 6), (75, 77, 37, 101, 0, 0), (77, 80, 51, 10, 25, 0), (80, 81, 4, 0, 0, 0), (81, 83, 0, 0, 0, 6), (83, 85, 37, 101, 0, 0), (85, 88, 51, 10, 26, 0), (88, 89, 4, 0, 0, 0), (89, 91, 0, 0, 0, 6), (91, 93, 37, 101, 0, 0), (93, 96, 51, 10, 27, 0), (96, 97, 4, 0, 0, 0), (97, 98, 0, 0, 0, -1), (98, 101, 25, 10, 28, 0), (101, 102, 4, 0, 0, 0), (102, 105, 0, 0, 0, 144), (105, 107, 37, 101, 0, 0), (107, 110, 51, 10, 30, 0), (110, 111, 4, 0, 0, 0), (111, 112, 0, 0, 0, 4), (112, 114, 37, 101, 0, 0), (114, 117, 51, 10, 31, 0), (117, 118, 4, 0, 0, 0), (118, 121, 0, 0, 0, 576), (121, 123, 37, 101, 0, 0), (123, 126, 51, 10, 36, 0), (126, 127, 4, 0, 0, 0), (127, 130, 0, 0, 0, 144), (130, 132, 37, 101, 0, 0), (132, 135, 51, 10, 37, 0), (135, 136, 4, 0, 0, 0), (136, 139, 0, 0, 0, 288), (139, 141, 37, 101, 0, 0), (141, 144, 51, 10, 38, 0), (144, 145, 4, 0, 0, 0), (145, 148, 0, 0, 0, 288), (148, 150, 37, 101, 0, 0), (150, 153, 51, 10, 39, 0), (153, 154, 4, 0, 0, 0), (154, 157, 0, 0, 0, 144), (157, 159, 37, 101, 0, 0), (159, 162, 51, 10, 40, 0), (162, 163, 4, 0, 0, 0), (163, 166, 0, 0, 0, 144), (166, 168, 37, 104, 0, 0), (168, 171, 51, 10, 41, 0), (171, 172, 4, 0, 0, 0), (172, 174, 0, 0, 0, 45), (174, 176, 37, 101, 0, 0), (176, 179, 51, 10, 45, 0), (179, 180, 4, 0, 0, 0), (180, 182, 0, 0, 0, 45), (182, 184, 37, 104, 0, 0), (184, 187, 51, 10, 51, 0), (187, 188, 4, 0, 0, 0), (188, 191, 0, 0, 0, 20530), (191, 193, 37, 101, 0, 0), (193, 196, 51, 10, 52, 0), (196, 197, 4, 0, 0, 0), (197, 199, 0, 0, 0, 24), (199, 201, 37, 102, 0, 0), (201, 204, 51, 10, 53, 0), (204, 205, 4, 0, 0, 0), (205, 206, 0, 0, 0, 2), (206, 208, 37, 104, 0, 0), (208, 211, 51, 10, 54, 0), (211, 212, 4, 0, 0, 0), (212, 215, 49, 10, 10, 0), (215, 216, 0, 0, 0, 0), (216, 219, 1, 4, 0, 0), (219, 220, 32, 0, 0, 0), (220, 221, 4, 0, 0, 0), (221, 224, 49, 10, 10, 0), (224, 225, 0, 0, 0, 1), (225, 228, 1, 5, 0, 0), (228, 229, 32, 0, 0, 0), (229, 230, 4, 0, 0, 0), (230, 233, 49, 10, 10, 0), (233, 234, 0, 0, 0, 2), (234, 237, 1, 6, 0, 0), (237, 238, 32, 0, 0, 0), (238, 239, 4, 0, 0, 0), (239, 242, 49, 10, 10, 0), (242, 243, 0, 0, 0, 3), (243, 246, 1, 7, 0, 0), (246, 247, 32, 0, 0, 0), (247, 248, 4, 0, 0, 0), (248, 251, 49, 10, 10, 0), (251, 252, 0, 0, 0, 4), (252, 255, 1, 8, 0, 0), (255, 256, 32, 0, 0, 0), (256, 257, 4, 0, 0, 0), (257, 260, 49, 10, 10, 0), (260, 261, 0, 0, 0, 5), (261, 264, 1, 9, 0, 0), (264, 265, 32, 0, 0, 0), (265, 266, 4, 0, 0, 0), (266, 269, 49, 10, 10, 0), (269, 271, 0, 0, 0, 6), (271, 274, 1, 10, 0, 0), (274, 275, 32, 0, 0, 0), (275, 276, 4, 0, 0, 0), (276, 279, 49, 10, 10, 0), (279, 281, 0, 0, 0, 7), (281, 284, 1, 11, 0, 0), (284, 285, 32, 0, 0, 0), (285, 286, 4, 0, 0, 0), (286, 289, 49, 10, 10, 0), (289, 291, 0, 0, 0, 8), (291, 294, 1, 12, 0, 0), (294, 295, 32, 0, 0, 0), (295, 296, 4, 0, 0, 0), (296, 299, 49, 10, 10, 0), (299, 301, 0, 0, 0, 9), (301, 304, 1, 13, 0, 0), (304, 305, 32, 0, 0, 0), (305, 306, 4, 0, 0, 0), (306, 309, 49, 10, 10, 0), (309, 311, 0, 0, 0, 10), (311, 314, 1, 14, 0, 0), (314, 315, 32, 0, 0, 0), (315, 316, 4, 0, 0, 0), (316, 319, 49, 10, 10, 0), (319, 321, 0, 0, 0, 11), (321, 324, 1, 15, 0, 0), (324, 325, 32, 0, 0, 0), (325, 326, 4, 0, 0, 0), (326, 329, 49, 10, 10, 0), (329, 331, 0, 0, 0, 12), (331, 334, 1, 16, 0, 0), (334, 335, 32, 0, 0, 0), (335, 336, 4, 0, 0, 0), (336, 339, 49, 10, 10, 0), (339, 341, 0, 0, 0, 13), (341, 344, 1, 17, 0, 0), (344, 345, 32, 0, 0, 0), (345, 346, 4, 0, 0, 0), (346, 349, 49, 10, 10, 0), (349, 351, 0, 0, 0, 14), (351, 354, 1, 18, 0, 0), (354, 355, 32, 0, 0, 0), (355, 356, 4, 0, 0, 0), (356, 359, 49, 10, 10, 0), (359, 361, 0, 0, 0, 15), (361, 364, 1, 19, 0, 0), (364, 365, 32, 0, 0, 0), (365, 366, 4, 0, 0, 0), (366, 369, 49, 10, 10, 0), (369, 371, 0, 0, 0, 16), (371, 374, 1, 20, 0, 0), (374, 375, 32, 0, 0, 0), (375, 376, 4, 0, 0, 0), (376, 379, 49, 10, 10, 0), (379, 381, 0, 0, 0, 17), (381, 384, 1, 21, 0, 0), (384, 385, 32, 0, 0, 0), (385, 386, 4, 0, 0, 0), (386, 389, 49, 10, 10, 0), (389, 391, 0, 0, 0, 18), (391, 394, 1, 22, 0, 0), (394, 395, 32, 0, 0, 0), (395, 396, 4, 0, 0, 0), (396, 399, 49, 10, 10, 0), (399, 401, 0, 0, 0, 19), (401, 404, 1, 23, 0, 0), (404, 405, 32, 0, 0, 0), (405, 406, 4, 0, 0, 0), (406, 409, 49, 10, 6, 0), (409, 411, 0, 0, 0, 6), (411, 413, 0, 0, 0, 9), (413, 414, 31, 0, 0, 0), (414, 415, 41, 0, 0, 0)])
def M189 : Mth := (189, 10, 1, 1, 2, [(0, 1, 4, 0, 0, 0), (1, 2, 0, 0, 0, 0), (2, 5, 25, 10, 0, 0), (5, 6, 4, 0, 0, 0), (6, 9, 0, 0, 0, 900), (9, 12, 39, 190, 0, 0), (12, 13, 4, 0, 0, 0), (13, 14, 0, 0, 0, 0), (14, 17, 25, 10, 15, 0), (17, 18, 4, 0, 0, 0), (18, 19, 0, 0, 0, 0), (19, 22, 25, 10, 19, 0), (22, 23, 4, 0, 0, 0), (23, 24, 0, 0, 0, 0), (24, 27, 52, 10, 20, 0), (27, 28, 4, 0, 0, 0), (28, 29, 0, 0, 0, 0), (29, 32, 52, 10, 21, 0), (32, 33, 0, 0, 0, 0), (33, 34, 5, 1, 0, 0), (34, 35, 2, 1, 0, 0), (35, 38, 0, 0, 0, 429), (38, 41, 19, 3, 54, 0), (41, 42, 4, 0, 0, 0), (42, 45, 49, 10, 7, 0), (45, 46, 2, 1, 0, 0), (46, 47, 0, 0, 0, 0), (47, 48, 31, 0, 0, 0), (48, 51, 8, 1, 0, 1), (51, 54, 22, 0, 34, 0), (54, 55, 4, 0, 0, 0), (55, 58, 49, 10, 7, 0), (58, 60, 0, 0, 0, 6), (60, 62, 0, 0, 0, 9), (62, 63, 31, 0, 0, 0), (63, 64, 4, 0, 0, 0), (64, 67, 39, 191, 0, 0), (67, 68, 4, 0, 0, 0), (68, 71, 24, 10, 11, 0), (71, 74, 18, 0, 110, 0), (74, 75, 4, 0, 0, 0), (75, 78, 39, 195, 0, 0), (78, 81, 18, 0, 90, 0), (81, 82, 4, 0, 0, 0), (82, 84, 0, 0, 0, 59), (84, 87, 39, 208, 0, 0), (87, 90, 18, 1, 97, 0), (90, 91, 0, 0, 0, -1), (91, 92, 4, 0, 0, 0), (92, 95, 24, 10, 16, 0), (95, 96, 9, 1, 0, 0), (96, 97, 42, 0, 0, 0), (97, 98, 4, 0, 0, 0), (98, 99, 15, 0, 0, 0), (99, 102, 24, 10, 19, 0), (102, 103, 0, 0, 0, 1), (103, 104, 9, 0, 0, 0), (104, 107, 25, 10, 19, 0), (107, 110, 22, 0, 67, 0), (110, 111, 0, 0, 0, 0), (111, 112, 5, 1, 0, 0), (112, 113, 2, 1, 0, 0), (113, 116, 0, 0, 0, 10265), (116, 119, 19, 3, 148, 0), (119, 120, 4, 0, 0, 0), (120, 123, 49, 10, 6, 0), (123, 124, 2, 1, 0, 0), (124, 125, 2, 1, 0, 0), (125, 128, 0, 0, 0, 429), (128, 131, 19, 3, 140, 0), (131, 132, 4, 0, 0, 0), (132, 135, 49, 10, 7, 0), (135, 136, 2, 1, 0, 0), (136, 137, 27, 0, 0, 0), (137, 140, 22, 0, 141, 0), (140, 141, 0, 0, 0, 0), (141, 142, 31, 0, 0, 0), (142, 145, 8, 1, 0, 1), (145, 148, 22, 0, 112, 0), (148, 149, 0, 0, 0, 0), (149, 150, 5, 1, 0, 0), (150, 151, 2, 1, 0, 0), (151, 153, 0, 0, 0, 12), (153, 156, 19, 3, 177, 0), (156, 157, 4, 0, 0, 0), (157, 160, 49, 10, 9, 0), (160, 161, 2, 1, 0, 0), (161, 162, 4, 0, 0, 0), (162, 165, 49, 10, 9, 0), (165, 167, 0, 0, 0, 12), (167, 168, 2, 1, 0, 0), (168, 169, 9, 0, 0, 0), (169, 170, 28, 0, 0, 0), (170, 171, 32, 0, 0, 0), (171, 174, 8, 1, 0, 1), (174, 177, 22, 0, 150, 0), (177, 178, 4, 0, 0, 0), (178, 179, 0, 0, 0, 0), (179, 182, 25, 10, 23, 0), (182, 183, 4, 0, 0, 0), (183, 186, 24, 10, 19, 0), (186, 187, 42, 0, 0, 0)])
def M190 : Mth := (190, 10, 2, 0, 2, [(0, 1, 4, 0, 0, 0), (1, 2, 4, 0, 0, 0), (2, 5, 24, 10, 2, 0), (5, 8, 25, 10, 3, 0), (8, 9, 4, 0, 0, 0), (9, 10, 0, 0, 0, 0), (10, 13, 25, 10, 2, 0), (13, 14, 4, 0, 0, 0), (14, 15, 0, 0, 0, 0), (15, 18, 25, 10, 4, 0), (18, 19, 4, 0, 0, 0), (19, 20, 2, 1, 0, 0), (20, 23, 25, 10, 5, 0), (23, 24, 41, 0, 0, 0)])
def M191 : Mth := (191, 10, 1, 0, 4, [(0, 1, 4, 0, 0, 0), (1, 4, 39, 192, 0, 0), (4, 6, 0, 0, 0, 32), (6, 9, 19, 0, 18, 0), (9, 10, 4, 0, 0, 0), (10, 13, 39, 192, 0, 0), (13, 15, 0, 0, 0, 10), (15, 18, 19, 1, 31, 0), (18, 19, 4, 0, 0, 0), (19, 20, 15, 0, 0, 0), (20, 23, 24, 10, 4, 0), (23, 24, 0, 0, 0, 1), (24, 25, 9, 0, 0, 0), (25, 28, 25, 10, 4, 0), (28, 31, 22, 0, 0, 0), (31, 32, 4, 0, 0, 0), (32, 33, 4, 0, 0, 0), (33, 36, 24, 10, 4, 0), (36, 39, 25, 10, 12, 0), (39, 40, 4, 0, 0, 0), (40, 41, 0, 0, 0, 0), (41, 44, 25, 10, 13, 0), (44, 45, 4, 0, 0, 0), (45, 48, 24, 10, 3, 0), (48, 49, 4, 0, 0, 0), (49, 52, 24, 10, 5, 0), (52, 55, 19, 5, 80, 0), (55, 56, 4, 0, 0, 0), (56, 59, 24, 10, 4, 0), (59, 60, 4, 0, 0, 0), (60, 63, 24, 10, 5, 0), (63, 66, 19, 2, 80, 0), (66, 67, 4, 0, 0, 0), (67, 68, 4, 0, 0, 0), (68, 71, 24, 10, 5, 0), (71, 74, 25, 10, 12, 0), (74, 75, 4, 0, 0, 0), (75, 76, 0, 0, 0, 4), (76, 79, 25, 10, 11, 0), (79, 80, 41, 0, 0, 0), (80, 81, 4, 0, 0, 0), (81, 84, 39, 192, 0, 0), (84, 85, 5, 1, 0, 0), (85, 86, 2, 1, 0, 0), (86, 89, 18, 3, 95, 0), (89, 90, 4, 0, 0, 0), (90, 91, 0, 0, 0, 0), (91, 94, 25, 10, 11, 0), (94, 95, 41, 0, 0, 0), (95, 96, 2, 1, 0, 0), (96, 99, 39, 193, 0, 0), (99, 102, 18, 1, 164, 0), (102, 103, 2, 1, 0, 0), (103, 106, 39, 194, 0, 0), (106, 109, 18, 1, 164, 0), (109, 110, 4, 0, 0, 0), (110, 111, 2, 1, 0, 0), (111, 113, 0, 0, 0, 59), (113, 116, 19, 0, 140, 0), (116, 117, 2, 1, 0, 0), (117, 119, 0, 0, 0, 40), (119, 122, 19, 0, 140, 0), (122, 123, 2, 1, 0, 0), (123, 125, 0, 0, 0, 41), (125, 128, 19, 0, 140, 0), (128, 129, 2, 1, 0, 0), (129, 131, 0, 0, 0, 60), (131, 134, 19, 2, 144, 0), (134, 135, 2, 1, 0, 0), (135, 137, 0, 0, 0, 62), (137, 140, 19, 4, 144, 0), (140, 141, 0, 0, 0, 3), (141, 144, 22, 0, 145, 0), (144, 145, 0, 0, 0, 4), (145, 148, 25, 10, 11, 0), (148, 149, 4, 0, 0, 0), (149, 150, 2, 1, 0, 0), (150, 153, 25, 10, 14, 0), (153, 154, 4, 0, 0, 0), (154, 155, 15, 0, 0, 0), (155, 158, 24, 10, 4, 0), (158, 159, 0, 0, 0, 1), (159, 160, 9, 0, 0, 0), (160, 163, 25, 10, 4, 0), (163, 164, 41, 0, 0, 0), (164, 165, 2, 1, 0, 0), (165, 168, 39, 193, 0, 0), (168, 169, 5, 2, 0, 0), (169, 170, 0, 0, 0, 1), (170, 171, 5, 3, 0, 0), (171, 172, 4, 0, 0, 0), (172, 173, 1, 0, 0, 0), (173, 176, 50, 10, 17, 0), (176, 177, 4, 0, 0, 0), (177, 178, 0, 0, 0, 0), (178, 181, 25, 10, 14, 0), (181, 182, 4, 0, 0, 0), (182, 185, 39, 192, 0, 0), (185, 188, 39, 193, 0, 0), (188, 191, 18, 1, 201, 0), (191, 192, 4, 0, 0, 0), (192, 195, 39, 192, 0, 0), (195, 198, 39, 194, 0, 0), (198, 201, 18, 0, 298, 0), (201, 202, 2, 3, 0, 0), (202, 205, 18, 0, 220, 0), (205, 206, 4, 0, 0, 0), (206, 209, 39, 192, 0, 0), (209, 212, 39, 193, 0, 0), (212, 213, 2, 2, 0, 0), (213, 216, 19, 1, 220, 0), (216, 217, 0, 0, 0, 1), (217, 220, 22, 0, 221, 0), (220, 221, 0, 0, 0, 0), (221, 222, 5, 3, 0, 0), (222, 223, 4, 0, 0, 0), (223, 226, 24, 10, 13, 0), (226, 228, 0, 0, 0, 7), (228, 231, 19, 3, 248, 0), (231, 232, 4, 0, 0, 0), (232, 233, 4, 0, 0, 0), (233, 236, 48, 10, 17, 0), (236, 238, 0, 0, 0, 8), (238, 239, 54, 0, 0, 0), (239, 240, 4, 0, 0, 0), (240, 243, 39, 192, 0, 0), (243, 244, 12, 0, 0, 0), (244, 245, 10, 2, 0, 0), (245, 248, 50, 10, 17, 0), (248, 249, 4, 0, 0, 0), (249, 252, 24, 10, 13, 0), (252, 253, 0, 0, 0, 3), (253, 256, 19, 3, 275, 0), (256, 257, 4, 0, 0, 0), (257, 259, 0, 0, 0, 10), (259, 260, 4, 0, 0, 0), (260, 263, 24, 10, 14, 0), (263, 264, 9, 2, 0, 0), (264, 265, 4, 0, 0, 0), (265, 268, 39, 192, 0, 0), (268, 269, 9, 0, 0, 0), (269, 271, 0, 0, 0, 48), (271, 272, 9, 1, 0, 0), (272, 275, 25, 10, 14, 0), (275, 276, 4, 0, 0, 0), (276, 277, 15, 0, 0, 0), (277, 280, 24, 10, 13, 0), (280, 281, 0, 0, 0, 1), (281, 282, 9, 0, 0, 0), (282, 285, 25, 10, 13, 0), (285, 286, 4, 0, 0, 0), (286, 287, 15, 0, 0, 0), (287, 290, 24, 10, 4, 0), (290, 291, 0, 0, 0, 1), (291, 292, 9, 0, 0, 0), (292, 295, 25, 10, 4, 0), (295, 298, 22, 0, 181, 0), (298, 299, 4, 0, 0, 0), (299, 300, 2, 3, 0, 0), (300, 303, 18, 0, 320, 0), (303, 304, 4, 0, 0, 0), (304, 307, 24, 10, 13, 0), (307, 308, 2, 2, 0, 0), (308, 311, 18, 0, 316, 0), (311, 313, 0, 0, 0, 7), (313, 316, 22, 0, 317, 0), (316, 317, 0, 0, 0, 3), (317, 320, 19, 5, 324, 0), (320, 321, 0, 0, 0, 4), (321, 324, 22, 0, 333, 0), (324, 325, 2, 2, 0, 0), (325, 328, 18, 0, 332, 0), (328, 329, 0, 0, 0, 1), (329, 332, 22, 0, 333, 0), (332, 333, 0, 0, 0, 2), (333, 336, 25, 10, 11, 0), (336, 337, 41, 0, 0, 0)])
def M192 : Mth := (192, 10, 1, 1, 1, [(0, 1, 4, 0, 0, 0), (1, 4, 24, 10, 4, 0), (4, 5, 4, 0, 0, 0), (5, 8, 24, 10, 3, 0), (8, 11, 19, 3, 27, 0), (11, 12, 4, 0, 0, 0), (12, 15, 49, 10, 1, 0), (15, 16, 4, 0, 0, 0), (16, 19, 24, 10, 4, 0), (19, 20, 29, 0, 0, 0), (20, 23, 0, 0, 0, 255), (23, 24, 9, 5, 0, 0), (24, 27, 22, 0, 28, 0), (27, 28, 0, 0, 0, -1), (28, 29, 42, 0, 0, 0)])
def M193 : Mth := (193, 10, 1, 2, 1, [(0, 1, 2, 0, 0, 0), (1, 3, 0, 0, 0, 97), (3, 6, 19, 2, 16, 0), (6, 7, 2, 0, 0, 0), (7, 9, 0, 0, 0, 122), (9, 12, 19, 4, 16, 0), (12, 13, 0, 0, 0, 1), (13, 16, 22, 0, 17, 0), (16, 17, 0, 0, 0, 0), (17, 18, 42, 0, 0, 0)])
def M194 : Mth := (194, 10, 1, 2, 1, [(0, 1, 2, 0, 0, 0), (1, 3, 0, 0, 0, 48), (3, 6, 19, 2, 16, 0), (6, 7, 2, 0, 0, 0), (7, 9, 0, 0, 0, 57), (9, 12, 19, 4, 16, 0), (12, 13, 0, 0, 0, 1), (13, 16, 22, 0, 17, 0), (16, 17, 0, 0, 0, 0), (17, 18, 42, 0, 0, 0)])
def M195 : Mth := (195, 10, 1, 2, 2, [(0, 1, 4, 0, 0, 0), (1, 4, 1, 4, 0, 0), (4, 7, 39, 196, 0, 0), (7, 10, 18, 0, 71, 0), (10, 11, 4, 0, 0, 0), (11, 14, 24, 10, 20, 0), (14, 17, 18, 0, 23, 0), (17, 18, 4, 0, 0, 0), (18, 19, 0, 0, 0, 3), (19, 22, 39, 197, 0, 0), (22, 23, 42, 0, 0, 0), (23, 24, 4, 0, 0, 0), (24, 25, 0, 0, 0, 1), (25, 28, 52, 10, 20, 0), (28, 29, 4, 0, 0, 0), (29, 32, 39, 191, 0, 0), (32, 33, 0, 0, 0, 0), (33, 34, 5, 1, 0, 0), (34, 35, 2, 1, 0, 0), (35, 36, 0, 0, 0, 2), (36, 39, 19, 3, 69, 0), (39, 40, 4, 0, 0, 0), (40, 41, 0, 0, 0, 2), (41, 43, 0, 0, 0, 12), (43, 46, 39, 198, 0, 0), (46, 49, 18, 1, 51, 0), (49, 50, 0, 0, 0, 0), (50, 51, 42, 0, 0, 0), (51, 52, 4, 0, 0, 0), (52, 55, 49, 10, 7, 0), (55, 56, 0, 0, 0, 0), (56, 57, 2, 1, 0, 0), (57, 58, 9, 0, 0, 0), (58, 59, 4, 0, 0, 0), (59, 62, 24, 10, 18, 0), (62, 63, 31, 0, 0, 0), (63, 66, 8, 1, 0, 1), (66, 69, 22, 0, 34, 0), (69, 70, 0, 0, 0, 1), (70, 71, 42, 0, 0, 0), (71, 72, 4, 0, 0, 0), (72, 75, 1, 5, 0, 0), (75, 78, 39, 196, 0, 0), (78, 81, 18, 0, 204, 0), (81, 82, 4, 0, 0, 0), (82, 85, 49, 10, 7, 0), (85, 86, 0, 0, 0, 2), (86, 87, 27, 0, 0, 0), (87, 88, 5, 1, 0, 0), (88, 89, 2, 1, 0, 0), (89, 91, 0, 0, 0, 6), (91, 94, 19, 1, 100, 0), (94, 95, 4, 0, 0, 0), (95, 96, 0, 0, 0, 4), (96, 99, 39, 197, 0, 0), (99, 100, 42, 0, 0, 0), (100, 101, 4, 0, 0, 0), (101, 104, 39, 191, 0, 0), (104, 105, 4, 0, 0, 0), (105, 107, 0, 0, 0, 12), (107, 108, 2, 1, 0, 0), (108, 109, 9, 0, 0, 0), (109, 112, 39, 200, 0, 0), (112, 115, 18, 1, 117, 0), (115, 116, 0, 0, 0, 0), (116, 117, 42, 0, 0, 0), (117, 118, 4, 0, 0, 0), (118, 119, 0, 0, 0, 1), (119, 121, 0, 0, 0, 9), (121, 124, 39, 198, 0, 0), (124, 127, 18, 1, 129, 0), (127, 128, 0, 0, 0, 0), (128, 129, 42, 0, 0, 0), (129, 130, 4, 0, 0, 0), (130, 133, 49, 10, 7, 0), (133, 135, 0, 0, 0, 7), (135, 136, 2, 1, 0, 0), (136, 137, 9, 0, 0, 0), (137, 138, 4, 0, 0, 0), (138, 141, 24, 10, 18, 0), (141, 142, 31, 0, 0, 0), (142, 143, 4, 0, 0, 0), (143, 144, 0, 0, 0, 0), (144, 146, 0, 0, 0, 9), (146, 149, 39, 198, 0, 0), (149, 152, 18, 1, 154, 0), (152, 153, 0, 0, 0, 0), (153, 154, 42, 0, 0, 0), (154, 155, 4, 0, 0, 0), (155, 158, 49, 10, 7, 0), (158, 160, 0, 0, 0, 13), (160, 161, 2, 1, 0, 0), (161, 162, 9, 0, 0, 0), (162, 163, 4, 0, 0, 0), (163, 166, 24, 10, 18, 0), (166, 167, 31, 0, 0, 0), (167, 168, 4, 0, 0, 0), (168, 169, 0, 0, 0, 1), (169, 171, 0, 0, 0, 9), (171, 174, 39, 198, 0, 0), (174, 177, 18, 1, 179, 0), (177, 178, 0, 0, 0, 0), (178, 179, 42, 0, 0, 0), (179, 180, 4, 0, 0, 0), (180, 183, 49, 10, 7, 0), (183, 185, 0, 0, 0, 19), (185, 186, 2, 1, 0, 0), (186, 187, 9, 0, 0, 0), (187, 188, 4, 0, 0, 0), (188, 191, 24, 10, 18, 0), (191, 192, 31, 0, 0, 0), (192, 193, 4, 0, 0, 0), (193, 196, 49, 10, 7, 0), (196, 197, 0, 0, 0, 2), (197, 198, 17, 0, 0, 0), (198, 199, 27, 0, 0, 0), (199, 200, 0, 0, 0, 1), (200, 201, 9, 0, 0, 0), (201, 202, 31, 0, 0, 0), (202, 203, 0, 0, 0, 1), (203, 204, 42, 0, 0, 0), (204, 205, 4, 0, 0, 0), (205, 208, 1, 6, 0, 0), (208, 211, 39, 196, 0, 0), (211, 214, 18, 0, 295, 0), (214, 215, 4, 0, 0, 0), (215, 218, 49, 10, 7, 0), (218, 219, 0, 0, 0, 4), (219, 220, 27, 0, 0, 0), (220, 222, 0, 0, 0, 30), (222, 225, 19, 1, 231, 0), (225, 226, 4, 0, 0, 0), (226, 227, 0, 0, 0, 4), (227, 230, 39, 197, 0, 0), (230, 231, 42, 0, 0, 0), (231, 232, 4, 0, 0, 0), (232, 235, 39, 191, 0, 0), (235, 236, 4, 0, 0, 0), (236, 239, 39, 203, 0, 0), (239, 242, 18, 1, 244, 0), (242, 243, 0, 0, 0, 0), (243, 244, 42, 0, 0, 0), (244, 245, 4, 0, 0, 0), (245, 248, 49, 10, 7, 0), (248, 250, 0, 0, 0, 25), (250, 251, 4, 0, 0, 0), (251, 254, 24, 10, 18, 0), (254, 255, 9, 0, 0, 0), (255, 256, 27, 0, 0, 0), (256, 257, 0, 0, 0, 1), (257, 260, 19, 1, 266, 0), (260, 261, 4, 0, 0, 0), (261, 262, 0, 0, 0, 3), (262, 265, 39, 197, 0, 0), (265, 266, 42, 0, 0, 0), (266, 267, 4, 0, 0, 0), (267, 270, 49, 10, 7, 0), (270, 272, 0, 0, 0, 25), (272, 273, 4, 0, 0, 0), (273, 276, 24, 10, 18, 0), (276, 277, 9, 0, 0, 0), (277, 278, 0, 0, 0, 1), (278, 279, 31, 0, 0, 0), (279, 280, 4, 0, 0, 0), (280, 283, 49, 10, 7, 0), (283, 284, 0, 0, 0, 4), (284, 285, 17, 0, 0, 0), (285, 286, 27, 0, 0, 0), (286, 287, 0, 0, 0, 1), (287, 288, 9, 0, 0, 0), (288, 289, 31, 0, 0, 0), (289, 290, 4, 0, 0, 0), (290, 293, 39, 191, 0, 0), (293, 294, 0, 0, 0, 1), (294, 295, 42, 0, 0, 0), (295, 296, 4, 0, 0, 0), (296, 299, 1, 7, 0, 0), (299, 302, 39, 196, 0, 0), (302, 305, 18, 0, 411, 0), (305, 306, 4, 0, 0, 0), (306, 309, 49, 10, 7, 0), (309, 310, 0, 0, 0, 5), (310, 311, 27, 0, 0, 0), (311, 313, 0, 0, 0, 8), (313, 316, 19, 1, 322, 0), (316, 317, 4, 0, 0, 0), (317, 318, 0, 0, 0, 4), (318, 321, 39, 197, 0, 0), (321, 322, 42, 0, 0, 0), (322, 323, 4, 0, 0, 0), (323, 326, 39, 191, 0, 0), (326, 327, 4, 0, 0, 0), (327, 330, 39, 203, 0, 0), (330, 333, 18, 1, 335, 0), (333, 334, 0, 0, 0, 0), (334, 335, 42, 0, 0, 0), (335, 336, 0, 0, 0, 0), (336, 337, 5, 1, 0, 0), (337, 338, 2, 1, 0, 0), (338, 339, 4, 0, 0, 0), (339, 342, 49, 10, 7, 0), (342, 343, 0, 0, 0, 5), (343, 344, 27, 0, 0, 0), (344, 347, 19, 3, 376, 0), (347, 348, 4, 0, 0, 0), (348, 351, 49, 10, 7, 0), (351, 354, 0, 0, 0, 169), (354, 355, 2, 1, 0, 0), (355, 356, 9, 0, 0, 0), (356, 357, 27, 0, 0, 0), (357, 358, 4, 0, 0, 0), (358, 361, 24, 10, 18, 0), (361, 364, 19, 1, 370, 0), (364, 365, 4, 0, 0, 0), (365, 366, 0, 0, 0, 3), (366, 369, 39, 197, 0, 0), (369, 370, 42, 0, 0, 0), (370, 373, 8, 1, 0, 1), (373, 376, 22, 0, 337, 0), (376, 377, 4, 0, 0, 0), (377, 380, 49, 10, 7, 0), (380, 383, 0, 0, 0, 169), (383, 384, 4, 0, 0, 0), (384, 387, 49, 10, 7, 0), (387, 388, 0, 0, 0, 5), (388, 389, 27, 0, 0, 0), (389, 390, 9, 0, 0, 0), (390, 391, 4, 0, 0, 0), (391, 394, 24, 10, 18, 0), (394, 395, 31, 0, 0, 0), (395, 396, 4, 0, 0, 0), (396, 399, 49, 10, 7, 0), (399, 400, 0, 0, 0, 5), (400, 401, 17, 0, 0, 0), (401, 402, 27, 0, 0, 0), (402, 403, 0, 0, 0, 1), (403, 404, 9, 0, 0, 0), (404, 405, 31, 0, 0, 0), (405, 406, 4, 0, 0, 0), (406, 409, 39, 191, 0, 0), (409, 410, 0, 0, 0, 1), (410, 411, 42, 0, 0, 0), (411, 412, 4, 0, 0, 0), (412, 415, 1, 8, 0, 0), (415, 418, 39, 196, 0, 0), (418, 421, 18, 0, 426, 0), (421, 422, 4, 0, 0, 0), (422, 425, 39, 204, 0, 0), (425, 426, 42, 0, 0, 0), (426, 427, 4, 0, 0, 0), (427, 430, 1, 9, 0, 0), (430, 433, 39, 196, 0, 0), (433, 436, 18, 1, 442, 0), (436, 437, 4, 0, 0, 0), (437, 438, 0, 0, 0, 1), (438, 441, 39, 197, 0, 0), (441, 442, 42, 0, 0, 0), (442, 443, 4, 0, 0, 0), (443, 446, 24, 10, 21, 0), (446, 449, 18, 0, 455, 0), (449, 450, 4, 0, 0, 0), (450, 451, 0, 0, 0, 3), (451, 454, 39, 197, 0, 0), (454, 455, 42, 0, 0, 0), (455, 456, 4, 0, 0, 0), (456, 457, 0, 0, 0, 1), (457, 460, 52, 10, 21, 0), (460, 461, 4, 0, 0, 0), (461, 464, 39, 191, 0, 0), (464, 465, 4, 0, 0, 0), (465, 466, 0, 0, 0, 1), (466, 468, 0, 0, 0, 9), (468, 471, 39, 198, 0, 0), (471, 474, 18, 1, 476, 0), (474, 475, 0, 0, 0, 0), (475, 476, 42, 0, 0, 0), (476, 477, 4, 0, 0, 0), (477, 480, 49, 10, 7, 0), (480, 482, 0, 0, 0, 6), (482, 483, 4, 0, 0, 0), (483, 486, 24, 10, 18, 0), (486, 487, 31, 0, 0, 0), (487, 488, 0, 0, 0, 1), (488, 489, 42, 0, 0, 0)])
def M196 : Mth := (196, 10, 2, 2, 3, [(0, 1, 4, 0, 0, 0), (1, 4, 24, 10, 11, 0), (4, 5, 0, 0, 0, 1), (5, 8, 19, 1, 21, 0), (8, 9, 4, 0, 0, 0), (9, 12, 48, 10, 17, 0), (12, 13, 3, 1, 0, 0), (13, 14, 11, 0, 0, 0), (14, 17, 18, 1, 21, 0), (17, 18, 0, 0, 0, 1), (18, 21, 22, 0, 22, 0), (21, 22, 0, 0, 0, 0), (22, 23, 42, 0, 0, 0)])
def M197 : Mth := (197, 10, 2, 2, 2, [(0, 1, 4, 0, 0, 0), (1, 2, 2, 1, 0, 0), (2, 5, 25, 10, 15, 0), (5, 6, 4, 0, 0, 0), (6, 7, 4, 0, 0, 0), (7, 10, 24, 10, 12, 0), (10, 13, 25, 10, 16, 0), (13, 14, 0, 0, 0, 0), (14, 15, 42, 0, 0, 0)])
def M198 : Mth := (198, 10, 3, 2, 3, [(0, 1, 4, 0, 0, 0), (1, 4, 24, 10, 11, 0), (4, 5, 0, 0, 0, 2), (5, 8, 19, 0, 14, 0), (8, 9, 4, 0, 0, 0), (9, 10, 0, 0, 0, 1), (10, 13, 39, 197, 0, 0), (13, 14, 42, 0, 0, 0), (14, 15, 4, 0, 0, 0), (15, 18, 24, 10, 14, 0), (18, 19, 2, 1, 0, 0), (19, 20, 2, 2, 0, 0), (20, 23, 39, 199, 0, 0), (23, 26, 18, 1, 32, 0), (26, 27, 4, 0, 0, 0), (27, 28, 0, 0, 0, 2), (28, 31, 39, 197, 0, 0), (31, 32, 42, 0, 0, 0), (32, 33, 4, 0, 0, 0), (33, 34, 4, 0, 0, 0), (34, 37, 24, 10, 14, 0), (37, 40, 25, 10, 18, 0), (40, 41, 4, 0, 0, 0), (41, 44, 39, 191, 0, 0), (44, 45, 0, 0, 0, 1), (45, 46, 42, 0, 0, 0)])
def M199 : Mth := (199, 10, 3, 2, 3, [(0, 1, 2, 0, 0, 0), (1, 2, 2, 1, 0, 0), (2, 5, 19, 2, 14, 0), (5, 6, 2, 0, 0, 0), (6, 7, 2, 2, 0, 0), (7, 10, 19, 4, 14, 0), (10, 11, 0, 0, 0, 1), (11, 14, 22, 0, 15, 0), (14, 15, 0, 0, 0, 0), (15, 16, 42, 0, 0, 0)])
def M200 : Mth := (200, 10, 2, 2, 2, [(0, 1, 4, 0, 0, 0), (1, 4, 39, 201, 0, 0), (4, 7, 18, 1, 13, 0), (7, 8, 4, 0, 0, 0), (8, 9, 0, 0, 0, 1), (9, 12, 39, 197, 0, 0), (12, 13, 42, 0, 0, 0), (13, 14, 4, 0, 0, 0), (14, 16, 0, 0, 0, 12), (16, 17, 4, 0, 0, 0), (17, 20, 49, 10, 7, 0), (20, 21, 0, 0, 0, 2), (21, 22, 27, 0, 0, 0), (22, 25, 39, 202, 0, 0), (25, 28, 18, 3, 43, 0), (28, 29, 4, 0, 0, 0), (29, 31, 0, 0, 0, 18), (31, 32, 4, 0, 0, 0), (32, 35, 49, 10, 7, 0), (35, 36, 0, 0, 0, 3), (36, 37, 27, 0, 0, 0), (37, 40, 39, 202, 0, 0), (40, 43, 18, 2, 49, 0), (43, 44, 4, 0, 0, 0), (44, 45, 0, 0, 0, 3), (45, 48, 39, 197, 0, 0), (48, 49, 42, 0, 0, 0), (49, 50, 4, 0, 0, 0), (50, 53, 49, 10, 9, 0), (53, 54, 2, 1, 0, 0), (54, 55, 4, 0, 0, 0), (55, 58, 48, 10, 17, 0), (58, 59, 32, 0, 0, 0), (59, 60, 4, 0, 0, 0), (60, 63, 39, 191, 0, 0), (63, 64, 0, 0, 0, 1), (64, 65, 42, 0, 0, 0)])
def M201 : Mth := (201, 10, 1, 2, 3, [(0, 1, 4, 0, 0, 0), (1, 4, 24, 10, 11, 0), (4, 5, 0, 0, 0, 1), (5, 8, 19, 1, 12, 0), (8, 9, 0, 0, 0, 1), (9, 12, 22, 0, 13, 0), (12, 13, 0, 0, 0, 0), (13, 14, 5, 1, 0, 0), (14, 15, 0, 0, 0, 0), (15, 16, 5, 2, 0, 0), (16, 17, 2, 2, 0, 0), (17, 19, 0, 0, 0, 20), (19, 22, 19, 3, 52, 0), (22, 23, 2, 1, 0, 0), (23, 26, 18, 0, 44, 0), (26, 27, 4, 0, 0, 0), (27, 30, 48, 10, 17, 0), (30, 31, 4, 0, 0, 0), (31, 34, 49, 10, 10, 0), (34, 35, 2, 2, 0, 0), (35, 36, 28, 0, 0, 0), (36, 37, 11, 0, 0, 0), (37, 40, 18, 0, 44, 0), (40, 41, 0, 0, 0, 1), (41, 44, 22, 0, 45, 0), (44, 45, 0, 0, 0, 0), (45, 46, 5, 1, 0, 0), (46, 49, 8, 2, 0, 1), (49, 52, 22, 0, 16, 0), (52, 53, 2, 1, 0, 0), (53, 54, 42, 0, 0, 0)])
def M202 : Mth := (202, 10, 3, 1, 4, [(0, 1, 0, 0, 0, 0), (1, 2, 5, 3, 0, 0), (2, 3, 2, 3, 0, 0), (3, 4, 2, 2, 0, 0), (4, 7, 19, 3, 31, 0), (7, 8, 4, 0, 0, 0), (8, 11, 49, 10, 9, 0), (11, 12, 2, 1, 0, 0), (12, 13, 2, 3, 0, 0), (13, 14, 9, 0, 0, 0), (14, 15, 28, 0, 0, 0), (15, 16, 4, 0, 0, 0), (16, 19, 48, 10, 17, 0), (19, 20, 11, 0, 0, 0), (20, 23, 18, 1, 25, 0), (23, 24, 2, 3, 0, 0), (24, 25, 42, 0, 0, 0), (25, 28, 8, 3, 0, 1), (28, 31, 22, 0, 2, 0), (31, 32, 0, 0, 0, -1), (32, 33, 42, 0, 0, 0)])
def M203 : Mth := (203, 10, 1, 2, 2, [(0, 1, 4, 0, 0, 0), (1, 2, 0, 0, 0, 0), (2, 3, 4, 0, 0, 0), (3, 6, 49, 10, 7, 0), (6, 7, 0, 0, 0, 0), (7, 8, 27, 0, 0, 0), (8, 9, 0, 0, 0, 1), (9, 10, 9, 1, 0, 0), (10, 13, 39, 198, 0, 0), (13, 16, 18, 1, 18, 0), (16, 17, 0, 0, 0, 0), (17, 18, 42, 0, 0, 0), (18, 19, 4, 0, 0, 0), (19, 22, 24, 10, 18, 0), (22, 23, 5, 1, 0, 0), (23, 24, 4, 0, 0, 0), (24, 27, 24, 10, 11, 0), (27, 28, 0, 0, 0, 2), (28, 31, 19, 0, 37, 0), (31, 32, 4, 0, 0, 0), (32, 33, 0, 0, 0, 1), (33, 36, 39, 197, 0, 0), (36, 37, 42, 0, 0, 0), (37, 38, 4, 0, 0, 0), (38, 41, 24, 10, 14, 0), (41, 42, 4, 0, 0, 0), (42, 45, 49, 10, 7, 0), (45, 46, 0, 0, 0, 1), (46, 47, 27, 0, 0, 0), (47, 50, 19, 2, 56, 0), (50, 51, 4, 0, 0, 0), (51, 52, 0, 0, 0, 2), (52, 55, 39, 197, 0, 0), (55, 56, 42, 0, 0, 0), (56, 57, 4, 0, 0, 0), (57, 59, 0, 0, 0, 12), (59, 60, 4, 0, 0, 0), (60, 63, 24, 10, 14, 0), (63, 64, 9, 2, 0, 0), (64, 65, 2, 1, 0, 0), (65, 66, 9, 0, 0, 0), (66, 69, 25, 10, 18, 0), (69, 70, 0, 0, 0, 1), (70, 71, 42, 0, 0, 0)])
def M204 : Mth := (204, 10, 1, 2, 7, [(0, 1, 4, 0, 0, 0), (1, 4, 49, 10, 7, 0), (4, 5, 0, 0, 0, 3), (5, 6, 27, 0, 0, 0), (6, 7, 5, 1, 0, 0), (7, 8, 2, 1, 0, 0), (8, 10, 0, 0, 0, 6), (10, 13, 19, 1, 19, 0), (13, 14, 4, 0, 0, 0), (14, 15, 0, 0, 0, 4), (15, 18, 39, 197, 0, 0), (18, 19, 42, 0, 0, 0), (19, 20, 4, 0, 0, 0), (20, 23, 39, 191, 0, 0), (23, 24, 4, 0, 0, 0), (24, 26, 0, 0, 0, 18), (26, 27, 2, 1, 0, 0), (27, 28, 9, 0, 0, 0), (28, 31, 39, 200, 0, 0), (31, 34, 18, 1, 36, 0), (34, 35, 0, 0, 0, 0), (35, 36, 42, 0, 0, 0), (36, 37, 4, 0, 0, 0), (37, 40, 39, 203, 0, 0), (40, 43, 18, 1, 45, 0), (43, 44, 0, 0, 0, 0), (44, 45, 42, 0, 0, 0), (45, 46, 4, 0, 0, 0), (46, 49, 49, 10, 7, 0), (49, 51, 0, 0, 0, 25), (51, 52, 4, 0, 0, 0), (52, 55, 24, 10, 18, 0), (55, 56, 9, 0, 0, 0), (56, 57, 27, 0, 0, 0), (57, 58, 0, 0, 0, 1), (58, 61, 19, 1, 67, 0), (61, 62, 4, 0, 0, 0), (62, 63, 0, 0, 0, 5), (63, 66, 39, 197, 0, 0), (66, 67, 42, 0, 0, 0), (67, 70, 0, 0, 0, 183), (70, 72, 0, 0, 0, 41), (72, 73, 2, 1, 0, 0), (73, 74, 9, 2, 0, 0), (74, 75, 9, 0, 0, 0), (75, 76, 5, 2, 0, 0), (76, 77, 4, 0, 0, 0), (77, 80, 49, 10, 7, 0), (80, 81, 2, 2, 0, 0), (81, 82, 4, 0, 0, 0), (82, 85, 24, 10, 18, 0), (85, 86, 31, 0, 0, 0), (86, 87, 0, 0, 0, 1), (87, 88, 5, 3, 0, 0), (88, 89, 4, 0, 0, 0), (89, 92, 39, 191, 0, 0), (92, 93, 4, 0, 0, 0), (93, 95, 0, 0, 0, 59), (95, 98, 39, 205, 0, 0), (98, 101, 18, 1, 264, 0), (101, 102, 4, 0, 0, 0), (102, 105, 39, 206, 0, 0), (105, 107, 5, 4, 0, 0), (107, 109, 2, 4, 0, 0), (109, 112, 18, 3, 118, 0), (112, 113, 4, 0, 0, 0), (113, 114, 0, 0, 0, 1), (114, 117, 39, 197, 0, 0), (117, 118, 42, 0, 0, 0), (118, 119, 4, 0, 0, 0), (119, 122, 39, 191, 0, 0), (122, 123, 4, 0, 0, 0), (123, 126, 24, 10, 11, 0), (126, 127, 0, 0, 0, 2), (127, 130, 19, 0, 136, 0), (130, 131, 4, 0, 0, 0), (131, 132, 0, 0, 0, 1), (132, 135, 39, 197, 0, 0), (135, 136, 42, 0, 0, 0), (136, 137, 4, 0, 0, 0), (137, 140, 24, 10, 14, 0), (140, 141, 0, 0, 0, 1), (141, 143, 0, 0, 0, 11), (143, 146, 39, 199, 0, 0), (146, 149, 18, 1, 155, 0), (149, 150, 4, 0, 0, 0), (150, 151, 0, 0, 0, 2), (151, 154, 39, 197, 0, 0), (154, 155, 42, 0, 0, 0), (155, 156, 2, 3, 0, 0), (156, 157, 4, 0, 0, 0), (157, 160, 24, 10, 14, 0), (160, 161, 9, 0, 0, 0), (161, 163, 0, 0, 0, 41), (163, 166, 19, 5, 172, 0), (166, 167, 4, 0, 0, 0), (167, 168, 0, 0, 0, 4), (168, 171, 39, 197, 0, 0), (171, 172, 42, 0, 0, 0), (172, 173, 0, 0, 0, 0), (173, 175, 5, 5, 0, 0), (175, 177, 2, 5, 0, 0), (177, 178, 4, 0, 0, 0), (178, 181, 24, 10, 14, 0), (181, 184, 19, 3, 257, 0), (184, 185, 4, 0, 0, 0), (185, 188, 49, 10, 7, 0), (188, 189, 2, 2, 0, 0), (189, 190, 2, 3, 0, 0), (190, 191, 9, 0, 0, 0), (191, 192, 0, 0, 0, 1), (192, 193, 9, 1, 0, 0), (193, 194, 27, 0, 0, 0), (194, 196, 2, 4, 0, 0), (196, 197, 4, 0, 0, 0), (197, 200, 49, 10, 7, 0), (200, 201, 0, 0, 0, 0), (201, 202, 27, 0, 0, 0), (202, 203, 4, 0, 0, 0), (203, 206, 49, 10, 7, 0), (206, 207, 0, 0, 0, 1), (207, 208, 27, 0, 0, 0), (208, 211, 39, 207, 0, 0), (211, 213, 5, 6, 0, 0), (213, 215, 2, 6, 0, 0), (215, 218, 18, 2, 232, 0), (218, 219, 4, 0, 0, 0), (219, 222, 49, 10, 7, 0), (222, 224, 0, 0, 0, 25), (224, 226, 2, 6, 0, 0), (226, 227, 9, 0, 0, 0), (227, 228, 27, 0, 0, 0), (228, 229, 0, 0, 0, 1), (229, 232, 19, 1, 238, 0), (232, 233, 4, 0, 0, 0), (233, 234, 0, 0, 0, 5), (234, 237, 39, 197, 0, 0), (237, 238, 42, 0, 0, 0), (238, 239, 4, 0, 0, 0), (239, 242, 49, 10, 7, 0), (242, 243, 2, 2, 0, 0), (243, 244, 2, 3, 0, 0), (244, 245, 9, 0, 0, 0), (245, 247, 2, 6, 0, 0), (247, 248, 31, 0, 0, 0), (248, 251, 8, 3, 0, 1), (251, 254, 8, 5, 0, 1), (254, 257, 22, 0, 175, 0), (257, 258, 4, 0, 0, 0), (258, 261, 39, 191, 0, 0), (261, 264, 22, 0, 92, 0), (264, 265, 4, 0, 0, 0), (265, 268, 49, 10, 7, 0), (268, 271, 0, 0, 0, 177), (271, 272, 2, 1, 0, 0), (272, 273, 9, 0, 0, 0), (273, 274, 2, 3, 0, 0), (274, 275, 31, 0, 0, 0), (275, 276, 4, 0, 0, 0), (276, 279, 49, 10, 7, 0), (279, 280, 0, 0, 0, 3), (280, 281, 17, 0, 0, 0), (281, 282, 27, 0, 0, 0), (282, 283, 0, 0, 0, 1), (283, 284, 9, 0, 0, 0), (284, 285, 31, 0, 0, 0), (285, 286, 0, 0, 0, 1), (286, 287, 42, 0, 0, 0)])
def M205 : Mth := (205, 10, 2, 2, 2, [(0, 1, 4, 0, 0, 0), (1, 4, 24, 10, 11, 0), (4, 5, 0, 0, 0, 3), (5, 8, 19, 1, 20, 0), (8, 9, 4, 0, 0, 0), (9, 12, 24, 10, 14, 0), (12, 13, 2, 1, 0, 0), (13, 16, 19, 1, 20, 0), (16, 17, 0, 0, 0, 1), (17, 20, 22, 0, 21, 0), (20, 21, 0, 0, 0, 0), (21, 22, 42, 0, 0, 0)])
def M206 : Mth := (206, 10, 1, 1, 1, [(0, 1, 4, 0, 0, 0), (1, 4, 1, 10, 0, 0), (4, 7, 39, 196, 0, 0), (7, 10, 18, 0, 14, 0), (10, 11, 0, 0, 0, 0), (11, 14, 22, 0, 57, 0), (14, 15, 4, 0, 0, 0), (15, 18, 1, 11, 0, 0), (18, 21, 39, 196, 0, 0), (21, 24, 18, 0, 28, 0), (24, 25, 0, 0, 0, 1), (25, 28, 22, 0, 57, 0), (28, 29, 4, 0, 0, 0), (29, 32, 1, 12, 0, 0), (32, 35, 39, 196, 0, 0), (35, 38, 18, 0, 42, 0), (38, 39, 0, 0, 0, 2), (39, 42, 22, 0, 57, 0), (42, 43, 4, 0, 0, 0), (43, 46, 1, 13, 0, 0), (46, 49, 39, 196, 0, 0), (49, 52, 18, 0, 56, 0), (52, 53, 0, 0, 0, 3), (53, 56, 22, 0, 57, 0), (56, 57, 0, 0, 0, -1), (57, 58, 42, 0, 0, 0)])
def M207 : Mth := (207, 10, 4, 1, 6, [(0, 1, 2, 0, 0, 0), (1, 3, 0, 0, 0, 12), (3, 4, 9, 4, 0, 0), (4, 5, 2, 1, 0, 0), (5, 6, 0, 0, 0, 1), (6, 9, 19, 1, 13, 0), (9, 10, 0, 0, 0, 1), (10, 13, 22, 0, 23, 0), (13, 14, 2, 1, 0, 0), (14, 15, 0, 0, 0, 3), (15, 18, 19, 1, 22, 0), (18, 19, 0, 0, 0, -1), (19, 22, 22, 0, 23, 0), (22, 23, 0, 0, 0, 0), (23, 24, 9, 0, 0, 0), (24, 26, 5, 4, 0, 0), (26, 27, 2, 0, 0, 0), (27, 29, 0, 0, 0, 12), (29, 30, 9, 3, 0, 0), (30, 31, 2, 1, 0, 0), (31, 32, 0, 0, 0, 2), (32, 35, 19, 1, 39, 0), (35, 36, 0, 0, 0, 1), (36, 39, 22, 0, 48, 0), (39, 40, 2, 1, 0, 0), (40, 43, 18, 1, 47, 0), (43, 44, 0, 0, 0, -1), (44, 47, 22, 0, 48, 0), (47, 48, 0, 0, 0, 0), (48, 49, 9, 0, 0, 0), (49, 51, 5, 5, 0, 0), (51, 53, 2, 4, 0, 0), (53, 54, 0, 0, 0, 0), (54, 55, 2, 2, 0, 0), (55, 56, 0, 0, 0, 1), (56, 57, 9, 1, 0, 0), (57, 60, 39, 199, 0, 0), (60, 63, 18, 0, 86, 0), (63, 65, 2, 5, 0, 0), (65, 66, 0, 0, 0, 0), (66, 67, 2, 3, 0, 0), (67, 68, 0, 0, 0, 1), (68, 69, 9, 1, 0, 0), (69, 72, 39, 199, 0, 0), (72, 75, 18, 0, 86, 0), (75, 77, 0, 0, 0, 12), (77, 79, 2, 5, 0, 0), (79, 80, 9, 2, 0, 0), (80, 82, 2, 4, 0, 0), (82, 83, 9, 0, 0, 0), (83, 86, 22, 0, 87, 0), (86, 87, 0, 0, 0, -1), (87, 88, 42, 0, 0, 0)])
def M208 : Mth := (208, 10, 2, 2, 2, [(0, 1, 4, 0, 0, 0), (1, 2, 2, 1, 0, 0), (2, 5, 39, 205, 0, 0), (5, 8, 18, 1, 14, 0), (8, 9, 4, 0, 0, 0), (9, 10, 0, 0, 0, 1), (10, 13, 39, 197, 0, 0), (13, 14, 42, 0, 0, 0), (14, 15, 4, 0, 0, 0), (15, 18, 39, 191, 0, 0), (18, 19, 0, 0, 0, 1), (19, 20, 42, 0, 0, 0)])
def M209 : Mth := (209, 10, 1, 1, 1, [(0, 1, 4, 0, 0, 0), (1, 2, 0, 0, 0, 0), (2, 5, 25, 10, 0, 0), (5, 6, 4, 0, 0, 0), (6, 9, 24, 10, 15, 0), (9, 10, 42, 0, 0, 0)])
def M210 : Mth := (210, 10, 3, 1, 7, [(0, 1, 4, 0, 0, 0), (1, 2, 4, 0, 0, 0), (2, 3, 2, 1, 0, 0), (3, 6, 39, 211, 0, 0), (6, 9, 18, 0, 18, 0), (9, 10, 2, 2, 0, 0), (10, 11, 0, 0, 0, 0), (11, 12, 0, 0, 0, 5), (12, 15, 39, 199, 0, 0), (15, 18, 18, 1, 22, 0), (18, 19, 0, 0, 0, 1), (19, 22, 22, 0, 23, 0), (22, 23, 0, 0, 0, 0), (23, 26, 39, 212, 0, 0), (26, 29, 18, 0, 31, 0), (29, 30, 0, 0, 0, 0), (30, 31, 42, 0, 0, 0), (31, 32, 0, 0, 0, 0), (32, 33, 5, 3, 0, 0), (33, 34, 0, 0, 0, 0), (34, 36, 5, 4, 0, 0), (36, 37, 0, 0, 0, 0), (37, 39, 5, 5, 0, 0), (39, 41, 2, 5, 0, 0), (41, 44, 0, 0, 0, 144), (44, 47, 19, 3, 82, 0), (47, 48, 4, 0, 0, 0), (48, 50, 2, 5, 0, 0), (50, 51, 2, 1, 0, 0), (51, 54, 39, 213, 0, 0), (54, 56, 5, 6, 0, 0), (56, 57, 2, 3, 0, 0), (57, 59, 2, 6, 0, 0), (59, 60, 9, 0, 0, 0), (60, 61, 5, 3, 0, 0), (61, 63, 2, 4, 0, 0), (63, 65, 2, 6, 0, 0), (65, 68, 18, 5, 72, 0), (68, 69, 0, 0, 0, 1), (69, 72, 22, 0, 73, 0), (72, 73, 0, 0, 0, 0), (73, 74, 9, 0, 0, 0), (74, 76, 5, 4, 0, 0), (76, 79, 8, 5, 0, 1), (79, 82, 22, 0, 39, 0), (82, 83, 2, 2, 0, 0), (83, 116, 23, 3, 0, 0), (116, 117, 4, 0, 0, 0), (117, 120, 49, 10, 6, 0), (120, 122, 0, 0, 0, 7), (122, 123, 2, 1, 0, 0), (123, 124, 9, 0, 0, 0), (124, 125, 27, 0, 0, 0), (125, 126, 42, 0, 0, 0), (126, 127, 4, 0, 0, 0), (127, 130, 49, 10, 6, 0), (130, 132, 0, 0, 0, 13), (132, 133, 2, 1, 0, 0), (133, 134, 9, 0, 0, 0), (134, 135, 27, 0, 0, 0), (135, 136, 42, 0, 0, 0), (136, 137, 4, 0, 0, 0), (137, 140, 49, 10, 6, 0), (140, 142, 0, 0, 0, 19), (142, 143, 2, 1, 0, 0), (143, 144, 9, 0, 0, 0), (144, 145, 27, 0, 0, 0), (145, 146, 42, 0, 0, 0), (146, 147, 2, 3, 0, 0), (147, 148, 42, 0, 0, 0), (148, 150, 2, 4, 0, 0), (150, 151, 42, 0, 0, 0), (151, 152, 4, 0, 0, 0), (152, 155, 49, 10, 6, 0), (155, 158, 0, 0, 0, 430), (158, 159, 2, 1, 0, 0), (159, 160, 9, 0, 0, 0), (160, 161, 27, 0, 0, 0), (161, 162, 42, 0, 0, 0)])
def M211 : Mth := (211, 10, 2, 2, 2, [(0, 1, 2, 1, 0, 0), (1, 2, 0, 0, 0, 0), (2, 3, 4, 0, 0, 0), (3, 6, 49, 10, 6, 0), (6, 7, 0, 0, 0, 2), (7, 8, 27, 0, 0, 0), (8, 9, 0, 0, 0, 1), (9, 10, 9, 1, 0, 0), (10, 13, 39, 199, 0, 0), (13, 14, 42, 0, 0, 0)])
def M212 : Mth := (212, 10, 2, 2, 2, [(0, 1, 4, 0, 0, 0), (1, 2, 2, 1, 0, 0), (2, 5, 18, 0, 9, 0), (5, 6, 0, 0, 0, 1), (6, 9, 22, 0, 10, 0), (9, 10, 0, 0, 0, 0), (10, 13, 25, 10, 0, 0), (13, 14, 2, 1, 0, 0), (14, 15, 42, 0, 0, 0)])
def M213 : Mth := (213, 10, 3, 1, 5, [(0, 1, 0, 0, 0, 0), (1, 2, 5, 3, 0, 0), (2, 3, 0, 0, 0, 0), (3, 5, 5, 4, 0, 0), (5, 7, 2, 4, 0, 0), (7, 9, 0, 0, 0, 9), (9, 12, 19, 3, 29, 0), (12, 13, 2, 3, 0, 0), (13, 14, 4, 0, 0, 0), (14, 15, 2, 1, 0, 0), (15, 16, 2, 2, 0, 0), (16, 18, 2, 4, 0, 0), (18, 21, 39, 214, 0, 0), (21, 22, 9, 0, 0, 0), (22, 23, 5, 3, 0, 0), (23, 26, 8, 4, 0, 1), (26, 29, 22, 0, 5, 0), (29, 30, 2, 3, 0, 0), (30, 31, 42, 0, 0, 0)])
def M214 : Mth := (214, 10, 4, 1, 4, [(0, 1, 4, 0, 0, 0), (1, 4, 49, 10, 6, 0), (4, 7, 0, 0, 0, 2308), (7, 9, 0, 0, 0, 6), (9, 10, 2, 1, 0, 0), (10, 11, 9, 2, 0, 0), (11, 12, 2, 2, 0, 0), (12, 13, 9, 0, 0, 0), (13, 15, 0, 0, 0, 9), (15, 16, 9, 2, 0, 0), (16, 17, 9, 0, 0, 0), (17, 18, 2, 3, 0, 0), (18, 19, 9, 0, 0, 0), (19, 20, 27, 0, 0, 0), (20, 21, 42, 0, 0, 0)])
def M215 : Mth := (215, 10, 3, 1, 5, [(0, 1, 4, 0, 0, 0), (1, 2, 4, 0, 0, 0), (2, 3, 2, 1, 0, 0), (3, 6, 39, 216, 0, 0), (6, 9, 18, 0, 19, 0), (9, 10, 2, 2, 0, 0), (10, 11, 0, 0, 0, 0), (11, 13, 0, 0, 0, 7), (13, 16, 39, 199, 0, 0), (16, 19, 18, 1, 23, 0), (19, 20, 0, 0, 0, 1), (20, 23, 22, 0, 24, 0), (23, 24, 0, 0, 0, 0), (24, 27, 39, 212, 0, 0), (27, 30, 18, 0, 32, 0), (30, 31, 0, 0, 0, 0), (31, 32, 42, 0, 0, 0), (32, 35, 0, 0, 0, 436), (35, 36, 0, 0, 0, 4), (36, 37, 2, 1, 0, 0), (37, 38, 9, 2, 0, 0), (38, 39, 9, 0, 0, 0), (39, 40, 5, 3, 0, 0), (40, 41, 4, 0, 0, 0), (41, 44, 49, 10, 6, 0), (44, 45, 2, 3, 0, 0), (45, 46, 27, 0, 0, 0), (46, 49, 18, 5, 53, 0), (49, 50, 0, 0, 0, 1), (50, 53, 22, 0, 54, 0), (53, 54, 0, 0, 0, 0), (54, 56, 5, 4, 0, 0), (56, 57, 2, 2, 0, 0), (57, 100, 23, 4, 0, 0), (100, 101, 4, 0, 0, 0), (101, 102, 2, 1, 0, 0), (102, 105, 39, 217, 0, 0), (105, 106, 42, 0, 0, 0), (106, 107, 4, 0, 0, 0), (107, 108, 2, 1, 0, 0), (108, 111, 39, 218, 0, 0), (111, 112, 42, 0, 0, 0), (112, 113, 4, 0, 0, 0), (113, 116, 49, 10, 6, 0), (116, 117, 2, 3, 0, 0), (117, 118, 27, 0, 0, 0), (118, 119, 0, 0, 0, 1), (119, 120, 9, 1, 0, 0), (120, 121, 42, 0, 0, 0), (121, 123, 2, 4, 0, 0), (123, 126, 18, 0, 137, 0), (126, 127, 4, 0, 0, 0), (127, 130, 49, 10, 6, 0), (130, 131, 2, 3, 0, 0), (131, 132, 0, 0, 0, 1), (132, 133, 9, 0, 0, 0), (133, 134, 27, 0, 0, 0), (134, 137, 22, 0, 138, 0), (137, 138, 0, 0, 0, -1), (138, 139, 42, 0, 0, 0), (139, 141, 2, 4, 0, 0), (141, 144, 18, 0, 155, 0), (144, 145, 4, 0, 0, 0), (145, 148, 49, 10, 6, 0), (148, 149, 2, 3, 0, 0), (149, 150, 0, 0, 0, 2), (150, 151, 9, 0, 0, 0), (151, 152, 27, 0, 0, 0), (152, 155, 22, 0, 156, 0), (155, 156, 0, 0, 0, -1), (156, 157, 42, 0, 0, 0), (157, 159, 2, 4, 0, 0), (159, 162, 18, 0, 182, 0), (162, 163, 4, 0, 0, 0), (163, 166, 49, 10, 6, 0), (166, 169, 0, 0, 0, 429), (169, 170, 27, 0, 0, 0), (170, 171, 4, 0, 0, 0), (171, 174, 49, 10, 6, 0), (174, 175, 2, 3, 0, 0), (175, 176, 0, 0, 0, 3), (176, 177, 9, 0, 0, 0), (177, 178, 27, 0, 0, 0), (178, 179, 9, 1, 0, 0), (179, 182, 22, 0, 183, 0), (182, 183, 0, 0, 0, -1), (183, 184, 42, 0, 0, 0), (184, 185, 4, 0, 0, 0), (185, 188, 49, 10, 6, 0), (188, 190, 0, 0, 0, 25), (190, 191, 2, 1, 0, 0), (191, 192, 9, 0, 0, 0), (192, 193, 27, 0, 0, 0), (193, 194, 42, 0, 0, 0), (194, 195, 4, 0, 0, 0), (195, 196, 2, 1, 0, 0), (196, 199, 39, 219, 0, 0), (199, 202, 18, 0, 206, 0), (202, 203, 0, 0, 0, 1), (203, 206, 22, 0, 207, 0), (206, 207, 0, 0, 0, 0), (207, 208, 42, 0, 0, 0)])
def M216 : Mth := (216, 10, 2, 2, 2, [(0, 1, 2, 1, 0, 0), (1, 4, 18, 2, 34, 0), (4, 5, 2, 1, 0, 0), (5, 7, 0, 0, 0, 12), (7, 8, 9, 4, 0, 0), (8, 9, 4, 0, 0, 0), (9, 12, 49, 10, 6, 0), (12, 13, 0, 0, 0, 0), (13, 14, 27, 0, 0, 0), (14, 17, 19, 3, 34, 0), (17, 18, 2, 1, 0, 0), (18, 20, 0, 0, 0, 12), (20, 21, 9, 3, 0, 0), (21, 22, 4, 0, 0, 0), (22, 25, 49, 10, 6, 0), (25, 26, 0, 0, 0, 1), (26, 27, 27, 0, 0, 0), (27, 30, 19, 3, 34, 0), (30, 31, 0, 0, 0, 1), (31, 34, 22, 0, 35, 0), (34, 35, 0, 0, 0, 0), (35, 36, 42, 0, 0, 0)])
def M217 : Mth := (217, 10, 2, 1, 5, [(0, 1, 0, 0, 0, 0), (1, 2, 5, 2, 0, 0), (2, 3, 0, 0, 0, 0), (3, 4, 5, 3, 0, 0), (4, 5, 2, 3, 0, 0), (5, 6, 4, 0, 0, 0), (6, 9, 49, 10, 6, 0), (9, 10, 0, 0, 0, 2), (10, 11, 27, 0, 0, 0), (11, 14, 19, 3, 73, 0), (14, 15, 0, 0, 0, 0), (15, 17, 5, 4, 0, 0), (17, 19, 2, 4, 0, 0), (19, 20, 4, 0, 0, 0), (20, 23, 49, 10, 6, 0), (23, 25, 0, 0, 0, 6), (25, 26, 27, 0, 0, 0), (26, 29, 19, 3, 67, 0), (29, 30, 2, 2, 0, 0), (30, 31, 4, 0, 0, 0), (31, 32, 2, 1, 0, 0), (32, 33, 2, 3, 0, 0), (33, 35, 2, 4, 0, 0), (35, 38, 39, 214, 0, 0), (38, 39, 4, 0, 0, 0), (39, 42, 49, 10, 6, 0), (42, 44, 0, 0, 0, 7), (44, 45, 2, 3, 0, 0), (45, 46, 9, 0, 0, 0), (46, 47, 27, 0, 0, 0), (47, 48, 9, 2, 0, 0), (48, 49, 4, 0, 0, 0), (49, 52, 49, 10, 6, 0), (52, 54, 0, 0, 0, 6), (54, 55, 27, 0, 0, 0), (55, 57, 2, 4, 0, 0), (57, 58, 9, 1, 0, 0), (58, 59, 9, 2, 0, 0), (59, 60, 9, 0, 0, 0), (60, 61, 5, 2, 0, 0), (61, 64, 8, 4, 0, 1), (64, 67, 22, 0, 17, 0), (67, 70, 8, 3, 0, 1), (70, 73, 22, 0, 4, 0), (73, 74, 2, 2, 0, 0), (74, 75, 42, 0, 0, 0)])
def M218 : Mth := (218, 10, 2, 1, 4, [(0, 1, 0, 0, 0, 0), (1, 2, 5, 2, 0, 0), (2, 3, 0, 0, 0, 0), (3, 4, 5, 3, 0, 0), (4, 5, 2, 3, 0, 0), (5, 6, 4, 0, 0, 0), (6, 9, 49, 10, 6, 0), (9, 10, 0, 0, 0, 2), (10, 11, 27, 0, 0, 0), (11, 14, 19, 3, 29, 0), (14, 15, 2, 2, 0, 0), (15, 16, 4, 0, 0, 0), (16, 17, 2, 1, 0, 0), (17, 18, 2, 3, 0, 0), (18, 21, 39, 213, 0, 0), (21, 22, 9, 0, 0, 0), (22, 23, 5, 2, 0, 0), (23, 26, 8, 3, 0, 1), (26, 29, 22, 0, 4, 0), (29, 30, 2, 2, 0, 0), (30, 31, 42, 0, 0, 0)])
def M219 : Mth := (219, 10, 2, 2, 3, [(0, 1, 0, 0, 0, 0), (1, 2, 5, 2, 0, 0), (2, 3, 2, 2, 0, 0), (3, 4, 4, 0, 0, 0), (4, 7, 49, 10, 6, 0), (7, 8, 0, 0, 0, 5), (8, 9, 27, 0, 0, 0), (9, 12, 19, 3, 34, 0), (12, 13, 4, 0, 0, 0), (13, 16, 49, 10, 6, 0), (16, 19, 0, 0, 0, 169), (19, 20, 2, 2, 0, 0), (20, 21, 9, 0, 0, 0), (21, 22, 27, 0, 0, 0), (22, 23, 2, 1, 0, 0), (23, 26, 19, 1, 28, 0), (26, 27, 0, 0, 0, 1), (27, 28, 42, 0, 0, 0), (28, 31, 8, 2, 0, 1), (31, 34, 22, 0, 2, 0), (34, 35, 0, 0, 0, 0), (35, 36, 42, 0, 0, 0)])
def M220 : Mth := (220, 10, 3, 1, 3, [(0, 1, 4, 0, 0, 0), (1, 2, 0, 0, 0, 0), (2, 5, 25, 10, 0, 0), (5, 6, 4, 0, 0, 0), (6, 7, 2, 1, 0, 0), (7, 10, 39, 221, 0, 0), (10, 13, 18, 0, 51, 0), (13, 14, 2, 2, 0, 0), (14, 15, 0, 0, 0, 0), (15, 16, 4, 0, 0, 0), (16, 19, 49, 10, 6, 0), (19, 22, 0, 0, 0, 177), (22, 23, 2, 1, 0, 0), (23, 24, 9, 0, 0, 0), (24, 25, 27, 0, 0, 0), (25, 26, 0, 0, 0, 1), (26, 27, 9, 1, 0, 0), (27, 30, 39, 199, 0, 0), (30, 33, 18, 0, 51, 0), (33, 34, 4, 0, 0, 0), (34, 37, 49, 10, 6, 0), (37, 40, 0, 0, 0, 183), (40, 42, 0, 0, 0, 41), (42, 43, 2, 1, 0, 0), (43, 44, 9, 2, 0, 0), (44, 45, 9, 0, 0, 0), (45, 46, 2, 2, 0, 0), (46, 47, 9, 0, 0, 0), (47, 48, 27, 0, 0, 0), (48, 51, 22, 0, 52, 0), (51, 52, 0, 0, 0, -1), (52, 53, 42, 0, 0, 0)])
def M221 : Mth := (221, 10, 2, 2, 2, [(0, 1, 2, 1, 0, 0), (1, 2, 0, 0, 0, 0), (2, 3, 4, 0, 0, 0), (3, 6, 49, 10, 6, 0), (6, 7, 0, 0, 0, 3), (7, 8, 27, 0, 0, 0), (8, 9, 0, 0, 0, 1), (9, 10, 9, 1, 0, 0), (10, 13, 39, 199, 0, 0), (13, 14, 42, 0, 0, 0)])
def M222 : Mth := (222, 10, 1, 1, 2, [(0, 1, 4, 0, 0, 0), (1, 2, 0, 0, 0, 0), (2, 5, 25, 10, 0, 0), (5, 6, 4, 0, 0, 0), (6, 9, 24, 10, 23, 0), (9, 12, 18, 1, 14, 0), (12, 13, 0, 0, 0, -1), (13, 14, 42, 0, 0, 0), (14, 15, 4, 0, 0, 0), (15, 16, 15, 0, 0, 0), (16, 19, 24, 10, 23, 0), (19, 20, 0, 0, 0, 1), (20, 21, 9, 1, 0, 0), (21, 24, 25, 10, 23, 0), (24, 25, 0, 0, 0, 0), (25, 26, 5, 1, 0, 0), (26, 27, 2, 1, 0, 0), (27, 30, 0, 0, 0, 9655), (30, 33, 19, 3, 64, 0), (33, 34, 4, 0, 0, 0), (34, 37, 49, 10, 6, 0), (37, 40, 0, 0, 0, 429), (40, 41, 2, 1, 0, 0), (41, 42, 9, 0, 0, 0), (42, 43, 4, 0, 0, 0), (43, 46, 49, 10, 22, 0), (46, 49, 0, 0, 0, 9655), (49, 50, 4, 0, 0, 0), (50, 53, 24, 10, 23, 0), (53, 54, 9, 2, 0, 0), (54, 55, 2, 1, 0, 0), (55, 56, 9, 0, 0, 0), (56, 57, 27, 0, 0, 0), (57, 58, 31, 0, 0, 0), (58, 61, 8, 1, 0, 1), (61, 64, 22, 0, 26, 0), (64, 65, 4, 0, 0, 0), (65, 68, 24, 10, 23, 0), (68, 69, 42, 0, 0, 0)])
def M223 : Mth := (223, 10, 4, 1, 4, [(0, 1, 4, 0, 0, 0), (1, 2, 0, 0, 0, 0), (2, 5, 25, 10, 0, 0), (5, 6, 4, 0, 0, 0), (6, 7, 2, 1, 0, 0), (7, 10, 39, 211, 0, 0), (10, 13, 18, 0, 29, 0), (13, 14, 4, 0, 0, 0), (14, 15, 2, 2, 0, 0), (15, 18, 39, 221, 0, 0), (18, 21, 18, 0, 29, 0), (21, 22, 4, 0, 0, 0), (22, 23, 2, 3, 0, 0), (23, 26, 39, 211, 0, 0), (26, 29, 18, 1, 31, 0), (29, 30, 0, 0, 0, -1), (30, 31, 42, 0, 0, 0), (31, 32, 4, 0, 0, 0), (32, 35, 39, 224, 0, 0), (35, 36, 4, 0, 0, 0), (36, 37, 2, 1, 0, 0), (37, 38, 2, 2, 0, 0), (38, 39, 4, 0, 0, 0), (39, 42, 49, 10, 6, 0), (42, 44, 0, 0, 0, 13), (44, 45, 2, 3, 0, 0), (45, 46, 9, 0, 0, 0), (46, 47, 27, 0, 0, 0), (47, 50, 39, 225, 0, 0), (50, 51, 4, 0, 0, 0), (51, 54, 49, 10, 6, 0), (54, 57, 0, 0, 0, 177), (57, 58, 2, 2, 0, 0), (58, 59, 9, 0, 0, 0), (59, 60, 27, 0, 0, 0), (60, 61, 42, 0, 0, 0)])
def M224 : Mth := (224, 10, 1, 0, 2, [(0, 1, 4, 0, 0, 0), (1, 4, 24, 10, 23, 0), (4, 6, 0, 0, 0, 6), (6, 9, 19, 1, 45, 0), (9, 10, 0, 0, 0, 0), (10, 11, 5, 1, 0, 0), (11, 12, 2, 1, 0, 0), (12, 15, 0, 0, 0, 48275), (15, 18, 19, 3, 40, 0), (18, 19, 4, 0, 0, 0), (19, 22, 49, 10, 22, 0), (22, 23, 2, 1, 0, 0), (23, 24, 4, 0, 0, 0), (24, 27, 49, 10, 22, 0), (27, 28, 2, 1, 0, 0), (28, 31, 0, 0, 0, 9655), (31, 32, 9, 0, 0, 0), (32, 33, 27, 0, 0, 0), (33, 34, 31, 0, 0, 0), (34, 37, 8, 1, 0, 1), (37, 40, 22, 0, 11, 0), (40, 41, 4, 0, 0, 0), (41, 42, 0, 0, 0, 5), (42, 45, 25, 10, 23, 0), (45, 46, 0, 0, 0, 0), (46, 47, 5, 1, 0, 0), (47, 48, 2, 1, 0, 0), (48, 51, 0, 0, 0, 9655), (51, 54, 19, 3, 85, 0), (54, 55, 4, 0, 0, 0), (55, 58, 49, 10, 22, 0), (58, 61, 0, 0, 0, 9655), (61, 62, 4, 0, 0, 0), (62, 65, 24, 10, 23, 0), (65, 66, 9, 2, 0, 0), (66, 67, 2, 1, 0, 0), (67, 68, 9, 0, 0, 0), (68, 69, 4, 0, 0, 0), (69, 72, 49, 10, 6, 0), (72, 75, 0, 0, 0, 429), (75, 76, 2, 1, 0, 0), (76, 77, 9, 0, 0, 0), (77, 78, 27, 0, 0, 0), (78, 79, 31, 0, 0, 0), (79, 82, 8, 1, 0, 1), (82, 85, 22, 0, 47, 0), (85, 86, 4, 0, 0, 0), (86, 87, 15, 0, 0, 0), (87, 90, 24, 10, 23, 0), (90, 91, 0, 0, 0, 1), (91, 92, 9, 0, 0, 0), (92, 95, 25, 10, 23, 0), (95, 96, 41, 0, 0, 0)])
def M225 : Mth := (225, 10, 4, 0, 8, [(0, 1, 4, 0, 0, 0), (1, 4, 49, 10, 6, 0), (4, 7, 0, 0, 0, 177), (7, 8, 2, 2, 0, 0), (8, 9, 9, 0, 0, 0), (9, 10, 27, 0, 0, 0), (10, 12, 5, 4, 0, 0), (12, 13, 0, 0, 0, 0), (13, 15, 5, 5, 0, 0), (15, 17, 2, 5, 0, 0), (17, 19, 2, 4, 0, 0), (19, 22, 19, 3, 237, 0), (22, 23, 4, 0, 0, 0), (23, 26, 49, 10, 6, 0), (26, 29, 0, 0, 0, 183), (29, 31, 0, 0, 0, 41), (31, 32, 2, 2, 0, 0), (32, 33, 9, 2, 0, 0), (33, 34, 9, 0, 0, 0), (34, 36, 2, 5, 0, 0), (36, 37, 9, 0, 0, 0), (37, 38, 27, 0, 0, 0), (38, 40, 5, 6, 0, 0), (40, 42, 2, 4, 0, 0), (42, 43, 0, 0, 0, 1), (43, 46, 19, 1, 50, 0), (46, 47, 0, 0, 0, 0), (47, 50, 22, 0, 108, 0), (50, 52, 2, 5, 0, 0), (52, 53, 0, 0, 0, 1), (53, 54, 9, 0, 0, 0), (54, 56, 2, 4, 0, 0), (56, 59, 19, 3, 85, 0), (59, 61, 2, 6, 0, 0), (61, 62, 4, 0, 0, 0), (62, 65, 49, 10, 6, 0), (65, 68, 0, 0, 0, 183), (68, 70, 0, 0, 0, 41), (70, 71, 2, 2, 0, 0), (71, 72, 9, 2, 0, 0), (72, 73, 9, 0, 0, 0), (73, 75, 2, 5, 0, 0), (75, 76, 9, 0, 0, 0), (76, 77, 0, 0, 0, 1), (77, 78, 9, 0, 0, 0), (78, 79, 27, 0, 0, 0), (79, 82, 39, 226, 0, 0), (82, 85, 22, 0, 108, 0), (85, 86, 4, 0, 0, 0), (86, 89, 49, 10, 6, 0), (89, 92, 0, 0, 0, 183), (92, 94, 0, 0, 0, 41), (94, 95, 2, 2, 0, 0), (95, 96, 9, 2, 0, 0), (96, 97, 9, 0, 0, 0), (97, 99, 2, 5, 0, 0), (99, 100, 9, 0, 0, 0), (100, 101, 0, 0, 0, 1), (101, 102, 9, 1, 0, 0), (102, 103, 27, 0, 0, 0), (103, 105, 2, 6, 0, 0), (105, 108, 39, 226, 0, 0), (108, 110, 5, 7, 0, 0), (110, 111, 4, 0, 0, 0), (111, 114, 49, 10, 6, 0), (114, 117, 0, 0, 0, 2308), (117, 119, 0, 0, 0, 6), (119, 121, 2, 6, 0, 0), (121, 122, 9, 2, 0, 0), (122, 123, 2, 1, 0, 0), (123, 124, 9, 0, 0, 0), (124, 126, 0, 0, 0, 9), (126, 127, 9, 2, 0, 0), (127, 128, 9, 0, 0, 0), (128, 129, 17, 0, 0, 0), (129, 130, 27, 0, 0, 0), (130, 131, 0, 0, 0, 1), (131, 132, 9, 0, 0, 0), (132, 133, 31, 0, 0, 0), (133, 134, 4, 0, 0, 0), (134, 137, 49, 10, 6, 0), (137, 140, 0, 0, 0, 1012), (140, 142, 0, 0, 0, 9), (142, 144, 2, 6, 0, 0), (144, 145, 9, 2, 0, 0), (145, 146, 9, 0, 0, 0), (146, 147, 17, 0, 0, 0), (147, 148, 27, 0, 0, 0), (148, 149, 4, 0, 0, 0), (149, 152, 49, 10, 6, 0), (152, 154, 0, 0, 0, 7), (154, 155, 2, 1, 0, 0), (155, 156, 9, 0, 0, 0), (156, 157, 27, 0, 0, 0), (157, 158, 9, 0, 0, 0), (158, 159, 31, 0, 0, 0), (159, 160, 4, 0, 0, 0), (160, 163, 49, 10, 6, 0), (163, 166, 0, 0, 0, 436), (166, 167, 0, 0, 0, 4), (167, 169, 2, 6, 0, 0), (169, 170, 9, 2, 0, 0), (170, 171, 9, 0, 0, 0), (171, 172, 2, 1, 0, 0), (172, 173, 0, 0, 0, 1), (173, 174, 9, 0, 0, 0), (174, 175, 31, 0, 0, 0), (175, 176, 4, 0, 0, 0), (176, 179, 49, 10, 6, 0), (179, 182, 0, 0, 0, 436), (182, 183, 0, 0, 0, 4), (183, 185, 2, 6, 0, 0), (185, 186, 9, 2, 0, 0), (186, 187, 9, 0, 0, 0), (187, 188, 0, 0, 0, 1), (188, 189, 9, 0, 0, 0), (189, 190, 2, 3, 0, 0), (190, 191, 31, 0, 0, 0), (191, 192, 4, 0, 0, 0), (192, 195, 49, 10, 6, 0), (195, 198, 0, 0, 0, 436), (198, 199, 0, 0, 0, 4), (199, 201, 2, 6, 0, 0), (201, 202, 9, 2, 0, 0), (202, 203, 9, 0, 0, 0), (203, 204, 0, 0, 0, 2), (204, 205, 9, 0, 0, 0), (205, 207, 2, 7, 0, 0), (207, 208, 31, 0, 0, 0), (208, 209, 4, 0, 0, 0), (209, 212, 49, 10, 6, 0), (212, 215, 0, 0, 0, 436), (215, 216, 0, 0, 0, 4), (216, 218, 2, 6, 0, 0), (218, 219, 9, 2, 0, 0), (219, 220, 9, 0, 0, 0), (220, 221, 0, 0, 0, 3), (221, 222, 9, 0, 0, 0), (222, 223, 4, 0, 0, 0), (223, 226, 49, 10, 6, 0), (226, 229, 0, 0, 0, 429), (229, 230, 27, 0, 0, 0), (230, 231, 31, 0, 0, 0), (231, 234, 8, 5, 0, 1), (234, 237, 22, 0, 15, 0), (237, 238, 4, 0, 0, 0), (238, 241, 49, 10, 6, 0), (241, 244, 0, 0, 0, 430), (244, 245, 2, 1, 0, 0), (245, 246, 9, 0, 0, 0), (246, 247, 17, 0, 0, 0), (247, 248, 27, 0, 0, 0), (248, 249, 0, 0, 0, 1), (249, 250, 9, 0, 0, 0), (250, 251, 31, 0, 0, 0), (251, 252, 41, 0, 0, 0)])
def M226 : Mth := (226, 10, 2, 1, 2, [(0, 1, 2, 1, 0, 0), (1, 2, 2, 0, 0, 0), (2, 3, 9, 1, 0, 0), (3, 5, 0, 0, 0, -12), (5, 8, 19, 1, 12, 0), (8, 9, 0, 0, 0, 0), (9, 12, 22, 0, 36, 0), (12, 13, 2, 1, 0, 0), (13, 14, 2, 0, 0, 0), (14, 15, 9, 1, 0, 0), (15, 16, 0, 0, 0, 1), (16, 19, 19, 1, 23, 0), (19, 20, 0, 0, 0, 1), (20, 23, 22, 0, 36, 0), (23, 24, 2, 1, 0, 0), (24, 25, 2, 0, 0, 0), (25, 26, 9, 1, 0, 0), (26, 28, 0, 0, 0, 12), (28, 31, 19, 1, 35, 0), (31, 32, 0, 0, 0, 2), (32, 35, 22, 0, 36, 0), (35, 36, 0, 0, 0, 3), (36, 37, 42, 0, 0, 0)])
def M227 : Mth := (227, 10, 2, 1, 3, [(0, 1, 4, 0, 0, 0), (1, 2, 0, 0, 0, 0), (2, 5, 25, 10, 0, 0), (5, 6, 2, 1, 0, 0), (6, 7, 0, 0, 0, 1), (7, 9, 0, 0, 0, 20), (9, 12, 39, 199, 0, 0), (12, 15, 18, 0, 31, 0), (15, 16, 4, 0, 0, 0), (16, 19, 49, 10, 6, 0), (19, 22, 0, 0, 0, 429), (22, 23, 27, 0, 0, 0), (23, 24, 2, 1, 0, 0), (24, 25, 9, 0, 0, 0), (25, 28, 0, 0, 0, 999), (28, 31, 19, 5, 33, 0), (31, 32, 0, 0, 0, -1), (32, 33, 42, 0, 0, 0), (33, 34, 4, 0, 0, 0), (34, 37, 39, 224, 0, 0), (37, 38, 0, 0, 0, 0), (38, 39, 5, 2, 0, 0), (39, 40, 2, 2, 0, 0), (40, 41, 2, 1, 0, 0), (41, 44, 19, 3, 54, 0), (44, 45, 4, 0, 0, 0), (45, 48, 39, 228, 0, 0), (48, 51, 8, 2, 0, 1), (51, 54, 22, 0, 39, 0), (54, 55, 4, 0, 0, 0), (55, 58, 49, 10, 6, 0), (58, 61, 0, 0, 0, 429), (61, 62, 27, 0, 0, 0), (62, 63, 42, 0, 0, 0)])
def M228 : Mth := (228, 10, 1, 0, 2, [(0, 1, 4, 0, 0, 0), (1, 4, 49, 10, 6, 0), (4, 7, 0, 0, 0, 429), (7, 8, 17, 0, 0, 0), (8, 9, 27, 0, 0, 0), (9, 10, 0, 0, 0, 1), (10, 11, 9, 0, 0, 0), (11, 12, 31, 0, 0, 0), (12, 13, 0, 0, 0, 0), (13, 14, 5, 1, 0, 0), (14, 15, 2, 1, 0, 0), (15, 18, 0, 0, 0, 864), (18, 21, 19, 3, 39, 0), (21, 22, 4, 0, 0, 0), (22, 25, 0, 0, 0, 2308), (25, 27, 0, 0, 0, 9), (27, 28, 2, 1, 0, 0), (28, 29, 9, 2, 0, 0), (29, 30, 9, 0, 0, 0), (30, 33, 39, 229, 0, 0), (33, 36, 8, 1, 0, 1), (36, 39, 22, 0, 14, 0), (39, 40, 0, 0, 0, 0), (40, 41, 5, 1, 0, 0), (41, 42, 2, 1, 0, 0), (42, 45, 0, 0, 0, 144), (45, 48, 19, 3, 126, 0), (48, 49, 4, 0, 0, 0), (49, 52, 0, 0, 0, 1012), (52, 54, 0, 0, 0, 9), (54, 55, 2, 1, 0, 0), (55, 56, 9, 2, 0, 0), (56, 57, 9, 0, 0, 0), (57, 60, 39, 229, 0, 0), (60, 61, 4, 0, 0, 0), (61, 64, 49, 10, 6, 0), (64, 67, 0, 0, 0, 436), (67, 68, 0, 0, 0, 4), (68, 69, 2, 1, 0, 0), (69, 70, 9, 2, 0, 0), (70, 71, 9, 0, 0, 0), (71, 72, 27, 0, 0, 0), (72, 75, 18, 5, 120, 0), (75, 76, 4, 0, 0, 0), (76, 79, 49, 10, 6, 0), (79, 82, 0, 0, 0, 429), (82, 83, 27, 0, 0, 0), (83, 84, 4, 0, 0, 0), (84, 87, 49, 10, 6, 0), (87, 90, 0, 0, 0, 436), (90, 91, 0, 0, 0, 4), (91, 92, 2, 1, 0, 0), (92, 93, 9, 2, 0, 0), (93, 94, 9, 0, 0, 0), (94, 95, 0, 0, 0, 3), (95, 96, 9, 0, 0, 0), (96, 97, 27, 0, 0, 0), (97, 98, 9, 1, 0, 0), (98, 99, 4, 0, 0, 0), (99, 102, 49, 10, 6, 0), (102, 104, 0, 0, 0, 6), (104, 105, 27, 0, 0, 0), (105, 108, 19, 2, 120, 0), (108, 109, 4, 0, 0, 0), (109, 112, 0, 0, 0, 436), (112, 113, 0, 0, 0, 4), (113, 114, 2, 1, 0, 0), (114, 115, 9, 2, 0, 0), (115, 116, 9, 0, 0, 0), (116, 117, 0, 0, 0, 4), (117, 120, 39, 230, 0, 0), (120, 123, 8, 1, 0, 1), (123, 126, 22, 0, 41, 0), (126, 127, 41, 0, 0, 0)])
def M229 : Mth := (229, 10, 2, 0, 3, [(0, 2, 0, 0, 0, 8), (2, 3, 5, 2, 0, 0), (3, 4, 2, 2, 0, 0), (4, 7, 18, 5, 46, 0), (7, 8, 4, 0, 0, 0), (8, 11, 49, 10, 6, 0), (11, 12, 2, 1, 0, 0), (12, 13, 2, 2, 0, 0), (13, 14, 9, 0, 0, 0), (14, 15, 2, 2, 0, 0), (15, 16, 4, 0, 0, 0), (16, 19, 49, 10, 6, 0), (19, 21, 0, 0, 0, 6), (21, 22, 27, 0, 0, 0), (22, 25, 19, 3, 38, 0), (25, 26, 4, 0, 0, 0), (26, 29, 49, 10, 6, 0), (29, 30, 2, 1, 0, 0), (30, 31, 2, 2, 0, 0), (31, 32, 9, 0, 0, 0), (32, 33, 0, 0, 0, 1), (33, 34, 9, 1, 0, 0), (34, 35, 27, 0, 0, 0), (35, 38, 22, 0, 39, 0), (38, 39, 0, 0, 0, 0), (39, 40, 31, 0, 0, 0), (40, 43, 8, 2, 0, -1), (43, 46, 22, 0, 3, 0), (46, 47, 4, 0, 0, 0), (47, 50, 49, 10, 6, 0), (50, 51, 2, 1, 0, 0), (51, 52, 0, 0, 0, 0), (52, 53, 31, 0, 0, 0), (53, 54, 41, 0, 0, 0)])
def M230 : Mth := (230, 10, 3, 0, 4, [(0, 1, 0, 0, 0, 0), (1, 2, 5, 3, 0, 0), (2, 3, 2, 3, 0, 0), (3, 4, 2, 2, 0, 0), (4, 7, 19, 3, 22, 0), (7, 8, 4, 0, 0, 0), (8, 11, 49, 10, 6, 0), (11, 12, 2, 1, 0, 0), (12, 13, 2, 3, 0, 0), (13, 14, 9, 0, 0, 0), (14, 15, 0, 0, 0, 0), (15, 16, 31, 0, 0, 0), (16, 19, 8, 3, 0, 1), (19, 22, 22, 0, 2, 0), (22, 23, 41, 0, 0, 0)])
def M231 : Mth := (231, 10, 3, 1, 10, [(0, 1, 4, 0, 0, 0), (1, 2, 0, 0, 0, 0), (2, 5, 25, 10, 0, 0), (5, 6, 4, 0, 0, 0), (6, 7, 2, 1, 0, 0), (7, 10, 39, 216, 0, 0), (10, 13, 18, 0, 21, 0), (13, 14, 4, 0, 0, 0), (14, 15, 2, 2, 0, 0), (15, 18, 39, 216, 0, 0), (18, 21, 18, 1, 23, 0), (21, 22, 0, 0, 0, -1), (22, 23, 42, 0, 0, 0), (23, 24, 4, 0, 0, 0), (24, 27, 39, 224, 0, 0), (27, 28, 2, 1, 0, 0), (28, 30, 0, 0, 0, 12), (30, 31, 9, 4, 0, 0), (31, 32, 2, 2, 0, 0), (32, 34, 0, 0, 0, 12), (34, 35, 9, 4, 0, 0), (35, 38, 19, 3, 45, 0), (38, 39, 2, 1, 0, 0), (39, 41, 0, 0, 0, 12), (41, 42, 9, 4, 0, 0), (42, 45, 22, 0, 49, 0), (45, 46, 2, 2, 0, 0), (46, 48, 0, 0, 0, 12), (48, 49, 9, 4, 0, 0), (49, 50, 5, 3, 0, 0), (50, 51, 2, 1, 0, 0), (51, 53, 0, 0, 0, 12), (53, 54, 9, 4, 0, 0), (54, 55, 2, 2, 0, 0), (55, 57, 0, 0, 0, 12), (57, 58, 9, 4, 0, 0), (58, 59, 9, 0, 0, 0), (59, 60, 2, 3, 0, 0), (60, 61, 9, 1, 0, 0), (61, 63, 5, 4, 0, 0), (63, 64, 2, 1, 0, 0), (64, 66, 0, 0, 0, 12), (66, 67, 9, 3, 0, 0), (67, 68, 2, 2, 0, 0), (68, 70, 0, 0, 0, 12), (70, 71, 9, 3, 0, 0), (71, 74, 19, 3, 81, 0), (74, 75, 2, 1, 0, 0), (75, 77, 0, 0, 0, 12), (77, 78, 9, 3, 0, 0), (78, 81, 22, 0, 85, 0), (81, 82, 2, 2, 0, 0), (82, 84, 0, 0, 0, 12), (84, 85, 9, 3, 0, 0), (85, 87, 5, 5, 0, 0), (87, 88, 2, 1, 0, 0), (88, 90, 0, 0, 0, 12), (90, 91, 9, 3, 0, 0), (91, 92, 2, 2, 0, 0), (92, 94, 0, 0, 0, 12), (94, 95, 9, 3, 0, 0), (95, 96, 9, 0, 0, 0), (96, 98, 2, 5, 0, 0), (98, 99, 9, 1, 0, 0), (99, 101, 5, 6, 0, 0), (101, 102, 0, 0, 0, 0), (102, 104, 5, 7, 0, 0), (104, 106, 2, 5, 0, 0), (106, 108, 5, 8, 0, 0), (108, 110, 2, 8, 0, 0), (110, 112, 2, 6, 0, 0), (112, 115, 19, 4, 154, 0), (115, 116, 2, 3, 0, 0), (116, 118, 5, 9, 0, 0), (118, 120, 2, 9, 0, 0), (120, 122, 2, 4, 0, 0), (122, 125, 19, 4, 148, 0), (125, 127, 2, 7, 0, 0), (127, 128, 4, 0, 0, 0), (128, 130, 0, 0, 0, 12), (130, 132, 2, 8, 0, 0), (132, 133, 9, 2, 0, 0), (133, 135, 2, 9, 0, 0), (135, 136, 9, 0, 0, 0), (136, 139, 39, 232, 0, 0), (139, 140, 9, 0, 0, 0), (140, 142, 5, 7, 0, 0), (142, 145, 8, 9, 0, 1), (145, 148, 22, 0, 118, 0), (148, 151, 8, 8, 0, 1), (151, 154, 22, 0, 108, 0), (154, 156, 2, 7, 0, 0), (156, 157, 42, 0, 0, 0)])
def M232 : Mth := (232, 10, 2, 1, 3, [(0, 1, 4, 0, 0, 0), (1, 4, 49, 10, 6, 0), (4, 7, 0, 0, 0, 436), (7, 8, 0, 0, 0, 4), (8, 9, 2, 1, 0, 0), (9, 10, 9, 2, 0, 0), (10, 11, 9, 0, 0, 0), (11, 12, 27, 0, 0, 0), (12, 15, 18, 5, 19, 0), (15, 16, 0, 0, 0, 1), (16, 19, 22, 0, 20, 0), (19, 20, 0, 0, 0, 0), (20, 21, 5, 2, 0, 0), (21, 22, 4, 0, 0, 0), (22, 25, 0, 0, 0, 436), (25, 26, 0, 0, 0, 4), (26, 27, 2, 1, 0, 0), (27, 28, 9, 2, 0, 0), (28, 29, 9, 0, 0, 0), (29, 30, 0, 0, 0, 4), (30, 33, 39, 230, 0, 0), (33, 34, 4, 0, 0, 0), (34, 37, 0, 0, 0, 2308), (37, 39, 0, 0, 0, 54), (39, 40, 2, 1, 0, 0), (40, 41, 9, 2, 0, 0), (41, 42, 9, 0, 0, 0), (42, 44, 0, 0, 0, 54), (44, 47, 39, 230, 0, 0), (47, 48, 2, 2, 0, 0), (48, 49, 42, 0, 0, 0)])
def M233 : Mth := (233, 10, 2, 1, 4, [(0, 1, 4, 0, 0, 0), (1, 2, 0, 0, 0, 0), (2, 5, 25, 10, 0, 0), (5, 6, 2, 1, 0, 0), (6, 7, 0, 0, 0, -1), (7, 10, 19, 3, 12, 0), (10, 11, 0, 0, 0, -1), (11, 12, 42, 0, 0, 0), (12, 13, 0, 0, 0, 0), (13, 14, 5, 2, 0, 0), (14, 15, 0, 0, 0, 0), (15, 16, 5, 3, 0, 0), (16, 17, 2, 3, 0, 0), (17, 20, 0, 0, 0, 144), (20, 23, 19, 3, 55, 0), (23, 24, 4, 0, 0, 0), (24, 25, 2, 3, 0, 0), (25, 28, 39, 234, 0, 0), (28, 29, 4, 0, 0, 0), (29, 30, 2, 3, 0, 0), (30, 33, 39, 217, 0, 0), (33, 36, 19, 1, 39, 0), (36, 39, 22, 0, 49, 0), (39, 40, 2, 2, 0, 0), (40, 41, 2, 1, 0, 0), (41, 44, 19, 1, 46, 0), (44, 45, 2, 3, 0, 0), (45, 46, 42, 0, 0, 0), (46, 49, 8, 2, 0, 1), (49, 52, 8, 3, 0, 1), (52, 55, 22, 0, 16, 0), (55, 56, 2, 1, 0, 0), (56, 57, 0, 0, 0, -1), (57, 60, 19, 1, 64, 0), (60, 61, 2, 2, 0, 0), (61, 64, 22, 0, 65, 0), (64, 65, 0, 0, 0, -1), (65, 66, 42, 0, 0, 0)])
def M234 : Mth := (234, 10, 2, 1, 4, [(0, 1, 0, 0, 0, 0), (1, 2, 5, 2, 0, 0), (2, 3, 0, 0, 0, 0), (3, 4, 5, 3, 0, 0), (4, 5, 2, 3, 0, 0), (5, 6, 4, 0, 0, 0), (6, 9, 49, 10, 6, 0), (9, 11, 0, 0, 0, 6), (11, 12, 27, 0, 0, 0), (12, 15, 19, 3, 49, 0), (15, 16, 2, 2, 0, 0), (16, 17, 4, 0, 0, 0), (17, 20, 49, 10, 6, 0), (20, 23, 0, 0, 0, 1012), (23, 25, 0, 0, 0, 9), (25, 26, 2, 1, 0, 0), (26, 27, 9, 2, 0, 0), (27, 28, 9, 0, 0, 0), (28, 29, 2, 3, 0, 0), (29, 30, 9, 0, 0, 0), (30, 31, 27, 0, 0, 0), (31, 32, 4, 0, 0, 0), (32, 35, 49, 10, 6, 0), (35, 37, 0, 0, 0, 6), (37, 38, 27, 0, 0, 0), (38, 39, 2, 3, 0, 0), (39, 40, 9, 1, 0, 0), (40, 41, 9, 2, 0, 0), (41, 42, 9, 0, 0, 0), (42, 43, 5, 2, 0, 0), (43, 46, 8, 3, 0, 1), (46, 49, 22, 0, 4, 0), (49, 50, 2, 2, 0, 0), (50, 51, 42, 0, 0, 0)])
def M235 : Mth := (235, 10, 2, 1, 2, [(0, 1, 4, 0, 0, 0), (1, 2, 0, 0, 0, 0), (2, 5, 25, 10, 0, 0), (5, 6, 4, 0, 0, 0), (6, 7, 2, 1, 0, 0), (7, 10, 39, 216, 0, 0), (10, 13, 18, 0, 27, 0), (13, 14, 4, 0, 0, 0), (14, 15, 2, 1, 0, 0), (15, 18, 39, 234, 0, 0), (18, 19, 4, 0, 0, 0), (19, 20, 2, 1, 0, 0), (20, 23, 39, 217, 0, 0), (23, 24, 9, 1, 0, 0), (24, 27, 22, 0, 28, 0), (27, 28, 0, 0, 0, -1), (28, 29, 42, 0, 0, 0)])
def M236 : Mth := (236, 10, 2, 1, 4, [(0, 1, 4, 0, 0, 0), (1, 2, 0, 0, 0, 0), (2, 5, 25, 10, 0, 0), (5, 6, 0, 0, 0, 0), (6, 7, 5, 2, 0, 0), (7, 8, 0, 0, 0, 0), (8, 9, 5, 3, 0, 0), (9, 10, 2, 3, 0, 0), (10, 13, 0, 0, 0, 144), (13, 16, 19, 3, 63, 0), (16, 17, 2, 2, 0, 0), (17, 18, 4, 0, 0, 0), (18, 21, 49, 10, 6, 0), (21, 24, 0, 0, 0, 436), (24, 25, 0, 0, 0, 4), (25, 26, 2, 3, 0, 0), (26, 27, 9, 2, 0, 0), (27, 28, 9, 0, 0, 0), (28, 29, 27, 0, 0, 0), (29, 32, 18, 5, 54, 0), (32, 33, 4, 0, 0, 0), (33, 36, 49, 10, 6, 0), (36, 39, 0, 0, 0, 436), (39, 40, 0, 0, 0, 4), (40, 41, 2, 3, 0, 0), (41, 42, 9, 2, 0, 0), (42, 43, 9, 0, 0, 0), (43, 44, 0, 0, 0, 1), (44, 45, 9, 0, 0, 0), (45, 46, 27, 0, 0, 0), (46, 47, 2, 1, 0, 0), (47, 50, 19, 1, 54, 0), (50, 51, 0, 0, 0, 1), (51, 54, 22, 0, 55, 0), (54, 55, 0, 0, 0, 0), (55, 56, 9, 0, 0, 0), (56, 57, 5, 2, 0, 0), (57, 60, 8, 3, 0, 1), (60, 63, 22, 0, 9, 0), (63, 64, 2, 2, 0, 0), (64, 65, 42, 0, 0, 0)])
def M237 : Mth := (237, 10, 1, 1, 5, [(0, 1, 4, 0, 0, 0), (1, 2, 0, 0, 0, 0), (2, 5, 25, 10, 0, 0), (5, 6, 0, 0, 0, -1), (6, 7, 5, 1, 0, 0), (7, 8, 0, 0, 0, 0), (8, 9, 5, 2, 0, 0), (9, 10, 0, 0, 0, 0), (10, 11, 5, 3, 0, 0), (11, 12, 2, 3, 0, 0), (12, 15, 0, 0, 0, 144), (15, 18, 19, 3, 45, 0), (18, 19, 4, 0, 0, 0), (19, 20, 2, 3, 0, 0), (20, 23, 39, 217, 0, 0), (23, 25, 5, 4, 0, 0), (25, 27, 2, 4, 0, 0), (27, 28, 2, 2, 0, 0), (28, 31, 19, 4, 34, 0), (31, 34, 22, 0, 39, 0), (34, 36, 2, 4, 0, 0), (36, 37, 5, 2, 0, 0), (37, 38, 2, 3, 0, 0), (38, 39, 5, 1, 0, 0), (39, 42, 8, 3, 0, 1), (42, 45, 22, 0, 11, 0), (45, 46, 2, 1, 0, 0), (46, 47, 42, 0, 0, 0)])
def M238 : Mth := (238, 10, 2, 1, 4, [(0, 1, 4, 0, 0, 0), (1, 2, 0, 0, 0, 0), (2, 5, 25, 10, 0, 0), (5, 6, 0, 0, 0, 0), (6, 7, 5, 2, 0, 0), (7, 8, 0, 0, 0, 0), (8, 9, 5, 3, 0, 0), (9, 10, 2, 3, 0, 0), (10, 11, 4, 0, 0, 0), (11, 14, 49, 10, 6, 0), (14, 15, 0, 0, 0, 2), (15, 16, 27, 0, 0, 0), (16, 19, 19, 3, 44, 0), (19, 20, 2, 2, 0, 0), (20, 21, 4, 0, 0, 0), (21, 22, 2, 3, 0, 0), (22, 23, 2, 1, 0, 0), (23, 26, 39, 239, 0, 0), (26, 29, 18, 2, 35, 0), (29, 30, 0, 0, 0, 1), (30, 31, 2, 3, 0, 0), (31, 32, 9, 8, 0, 0), (32, 35, 22, 0, 36, 0), (35, 36, 0, 0, 0, 0), (36, 37, 9, 6, 0, 0), (37, 38, 5, 2, 0, 0), (38, 41, 8, 3, 0, 1), (41, 44, 22, 0, 9, 0), (44, 45, 2, 2, 0, 0), (45, 48, 18, 1, 52, 0), (48, 49, 0, 0, 0, -1), (49, 52, 22, 0, 53, 0), (52, 53, 2, 2, 0, 0), (53, 54, 42, 0, 0, 0)])
def M239 : Mth := (239, 10, 3, 1, 4, [(0, 1, 0, 0, 0, 0), (1, 2, 5, 3, 0, 0), (2, 3, 2, 3, 0, 0), (3, 4, 4, 0, 0, 0), (4, 7, 49, 10, 6, 0), (7, 9, 0, 0, 0, 6), (9, 10, 27, 0, 0, 0), (10, 13, 19, 3, 44, 0), (13, 14, 4, 0, 0, 0), (14, 17, 49, 10, 6, 0), (17, 19, 0, 0, 0, 7), (19, 20, 2, 1, 0, 0), (20, 21, 9, 0, 0, 0), (21, 22, 27, 0, 0, 0), (22, 23, 4, 0, 0, 0), (23, 26, 49, 10, 6, 0), (26, 28, 0, 0, 0, 6), (28, 29, 27, 0, 0, 0), (29, 30, 2, 3, 0, 0), (30, 31, 9, 1, 0, 0), (31, 32, 9, 2, 0, 0), (32, 33, 2, 2, 0, 0), (33, 36, 19, 1, 38, 0), (36, 37, 2, 3, 0, 0), (37, 38, 42, 0, 0, 0), (38, 41, 8, 3, 0, 1), (41, 44, 22, 0, 2, 0), (44, 45, 0, 0, 0, -1), (45, 46, 42, 0, 0, 0)])
def M240 : Mth := (240, 10, 3, 1, 3, [(0, 1, 4, 0, 0, 0), (1, 2, 0, 0, 0, 0), (2, 5, 25, 10, 0, 0), (5, 6, 4, 0, 0, 0), (6, 7, 2, 1, 0, 0), (7, 10, 39, 211, 0, 0), (10, 13, 18, 0, 22, 0), (13, 14, 4, 0, 0, 0), (14, 15, 2, 1, 0, 0), (15, 16, 2, 2, 0, 0), (16, 19, 39, 239, 0, 0), (19, 22, 22, 0, 23, 0), (22, 23, 0, 0, 0, -1), (23, 24, 42, 0, 0, 0)])
def M241 : Mth := (241, 10, 1, 1, 6, [(0, 1, 4, 0, 0, 0), (1, 2, 0, 0, 0, 0), (2, 5, 25, 10, 0, 0), (5, 6, 4, 0, 0, 0), (6, 9, 0, 0, 0, 940), (9, 12, 39, 190, 0, 0), (12, 13, 4, 0, 0, 0), (13, 16, 24, 10, 3, 0), (16, 17, 0, 0, 0, 4), (17, 18, 9, 4, 0, 0), (18, 21, 18, 1, 36, 0), (21, 22, 4, 0, 0, 0), (22, 25, 24, 10, 3, 0), (25, 26, 0, 0, 0, 4), (26, 27, 9, 3, 0, 0), (27, 28, 0, 0, 0, 1), (28, 30, 0, 0, 0, 8), (30, 33, 39, 199, 0, 0), (33, 36, 18, 1, 38, 0), (36, 37, 0, 0, 0, -1), (37, 38, 42, 0, 0, 0), (38, 39, 4, 0, 0, 0), (39, 42, 24, 10, 3, 0), (42, 43, 0, 0, 0, 4), (43, 44, 9, 3, 0, 0), (44, 45, 5, 1, 0, 0), (45, 46, 0, 0, 0, 0), (46, 47, 5, 2, 0, 0), (47, 48, 2, 2, 0, 0), (48, 49, 4, 0, 0, 0), (49, 52, 24, 10, 3, 0), (52, 55, 19, 3, 229, 0), (55, 56, 4, 0, 0, 0), (56, 57, 2, 2, 0, 0), (57, 60, 39, 242, 0, 0), (60, 61, 4, 0, 0, 0), (61, 64, 49, 10, 6, 0), (64, 65, 0, 0, 0, 0), (65, 66, 27, 0, 0, 0), (66, 69, 19, 3, 110, 0), (69, 70, 4, 0, 0, 0), (70, 71, 2, 2, 0, 0), (71, 72, 0, 0, 0, 1), (72, 73, 9, 0, 0, 0), (73, 76, 39, 242, 0, 0), (76, 77, 4, 0, 0, 0), (77, 80, 49, 10, 6, 0), (80, 81, 0, 0, 0, 1), (81, 82, 27, 0, 0, 0), (82, 85, 19, 3, 110, 0), (85, 86, 4, 0, 0, 0), (86, 87, 2, 2, 0, 0), (87, 88, 0, 0, 0, 3), (88, 89, 9, 0, 0, 0), (89, 92, 39, 242, 0, 0), (92, 94, 0, 0, 0, 9), (94, 97, 19, 5, 112, 0), (97, 98, 4, 0, 0, 0), (98, 99, 2, 2, 0, 0), (99, 100, 0, 0, 0, 3), (100, 101, 9, 0, 0, 0), (101, 104, 39, 242, 0, 0), (104, 107, 0, 0, 0, 255), (107, 110, 19, 0, 112, 0), (110, 111, 0, 0, 0, -1), (111, 112, 42, 0, 0, 0), (112, 113, 0, 0, 0, 0), (113, 114, 5, 3, 0, 0), (114, 115, 2, 3, 0, 0), (115, 117, 0, 0, 0, 6), (117, 120, 19, 3, 223, 0), (120, 121, 0, 0, 0, 0), (121, 123, 5, 4, 0, 0), (123, 124, 0, 0, 0, 0), (124, 126, 5, 5, 0, 0), (126, 128, 2, 5, 0, 0), (128, 129, 4, 0, 0, 0), (129, 132, 49, 10, 6, 0), (132, 135, 0, 0, 0, 177), (135, 136, 2, 3, 0, 0), (136, 137, 9, 0, 0, 0), (137, 138, 27, 0, 0, 0), (138, 141, 19, 3, 202, 0), (141, 142, 2, 3, 0, 0), (142, 143, 4, 0, 0, 0), (143, 146, 49, 10, 6, 0), (146, 147, 0, 0, 0, 3), (147, 148, 27, 0, 0, 0), (148, 151, 19, 3, 202, 0), (151, 153, 2, 4, 0, 0), (153, 154, 4, 0, 0, 0), (154, 157, 49, 10, 6, 0), (157, 160, 0, 0, 0, 183), (160, 162, 0, 0, 0, 41), (162, 163, 2, 3, 0, 0), (163, 164, 9, 2, 0, 0), (164, 165, 9, 0, 0, 0), (165, 167, 2, 5, 0, 0), (167, 168, 9, 0, 0, 0), (168, 169, 27, 0, 0, 0), (169, 171, 0, 0, 0, 12), (171, 172, 4, 0, 0, 0), (172, 173, 2, 2, 0, 0), (173, 174, 0, 0, 0, 1), (174, 175, 9, 0, 0, 0), (175, 178, 39, 242, 0, 0), (178, 179, 9, 2, 0, 0), (179, 180, 4, 0, 0, 0), (180, 181, 2, 2, 0, 0), (181, 184, 39, 242, 0, 0), (184, 185, 9, 0, 0, 0), (185, 188, 19, 1, 192, 0), (188, 189, 0, 0, 0, 1), (189, 192, 22, 0, 193, 0), (192, 193, 0, 0, 0, 0), (193, 194, 9, 0, 0, 0), (194, 196, 5, 4, 0, 0), (196, 199, 8, 5, 0, 1), (199, 202, 22, 0, 126, 0), (202, 203, 4, 0, 0, 0), (203, 206, 49, 10, 24, 0), (206, 208, 0, 0, 0, 6), (208, 209, 2, 2, 0, 0), (209, 210, 0, 0, 0, 4), (210, 211, 9, 3, 0, 0), (211, 212, 9, 2, 0, 0), (212, 213, 2, 3, 0, 0), (213, 214, 9, 0, 0, 0), (214, 216, 2, 4, 0, 0), (216, 217, 31, 0, 0, 0), (217, 220, 8, 3, 0, 1), (220, 223, 22, 0, 114, 0), (223, 226, 8, 2, 0, 4), (226, 229, 22, 0, 47, 0), (229, 230, 0, 0, 0, 0), (230, 231, 5, 2, 0, 0), (231, 232, 2, 2, 0, 0), (232, 234, 0, 0, 0, 6), (234, 237, 19, 3, 250, 0), (237, 238, 4, 0, 0, 0), (238, 241, 49, 10, 25, 0), (241, 242, 2, 2, 0, 0), (242, 243, 0, 0, 0, 0), (243, 244, 31, 0, 0, 0), (244, 247, 8, 2, 0, 1), (247, 250, 22, 0, 231, 0), (250, 251, 0, 0, 0, 0), (251, 252, 5, 2, 0, 0), (252, 253, 0, 0, 0, 1), (253, 254, 5, 3, 0, 0), (254, 255, 2, 3, 0, 0), (255, 258, 18, 0, 291, 0), (258, 259, 4, 0, 0, 0), (259, 260, 2, 1, 0, 0), (260, 263, 39, 243, 0, 0), (263, 266, 18, 0, 283, 0), (266, 269, 8, 2, 0, 1), (269, 270, 4, 0, 0, 0), (270, 271, 2, 2, 0, 0), (271, 272, 0, 0, 0, 1), (272, 275, 19, 1, 279, 0), (275, 276, 0, 0, 0, 1), (276, 279, 22, 0, 280, 0), (279, 280, 0, 0, 0, 0), (280, 283, 39, 244, 0, 0), (283, 284, 4, 0, 0, 0), (284, 287, 39, 245, 0, 0), (287, 288, 5, 3, 0, 0), (288, 291, 22, 0, 254, 0), (291, 292, 2, 2, 0, 0), (292, 293, 42, 0, 0, 0)])
def M242 : Mth := (242, 10, 2, 1, 2, [(0, 1, 4, 0, 0, 0), (1, 4, 49, 10, 1, 0), (4, 5, 2, 1, 0, 0), (5, 6, 29, 0, 0, 0), (6, 9, 0, 0, 0, 255), (9, 10, 9, 5, 0, 0), (10, 11, 42, 0, 0, 0)])
def M243 : Mth := (243, 10, 2, 2, 6, [(0, 1, 0, 0, 0, 0), (1, 2, 5, 2, 0, 0), (2, 3, 2, 2, 0, 0), (3, 4, 2, 1, 0, 0), (4, 7, 19, 3, 170, 0), (7, 8, 0, 0, 0, 0), (8, 9, 5, 3, 0, 0), (9, 10, 0, 0, 0, -1), (10, 12, 5, 4, 0, 0), (12, 13, 0, 0, 0, 0), (13, 15, 5, 5, 0, 0), (15, 17, 2, 5, 0, 0), (17, 18, 4, 0, 0, 0), (18, 21, 49, 10, 6, 0), (21, 22, 0, 0, 0, 3), (22, 23, 27, 0, 0, 0), (23, 26, 19, 3, 120, 0), (26, 27, 4, 0, 0, 0), (27, 30, 49, 10, 25, 0), (30, 32, 2, 5, 0, 0), (32, 33, 27, 0, 0, 0), (33, 36, 18, 0, 114, 0), (36, 37, 4, 0, 0, 0), (37, 40, 49, 10, 24, 0), (40, 42, 0, 0, 0, 6), (42, 43, 2, 2, 0, 0), (43, 44, 9, 2, 0, 0), (44, 46, 2, 5, 0, 0), (46, 47, 9, 0, 0, 0), (47, 48, 27, 0, 0, 0), (48, 51, 18, 1, 54, 0), (51, 54, 22, 0, 114, 0), (54, 55, 2, 3, 0, 0), (55, 56, 4, 0, 0, 0), (56, 59, 49, 10, 24, 0), (59, 61, 0, 0, 0, 6), (61, 62, 2, 2, 0, 0), (62, 63, 9, 2, 0, 0), (63, 65, 2, 5, 0, 0), (65, 66, 9, 0, 0, 0), (66, 67, 27, 0, 0, 0), (67, 68, 4, 0, 0, 0), (68, 71, 49, 10, 6, 0), (71, 73, 0, 0, 0, 7), (73, 74, 4, 0, 0, 0), (74, 77, 49, 10, 25, 0), (77, 79, 2, 5, 0, 0), (79, 80, 27, 0, 0, 0), (80, 81, 9, 0, 0, 0), (81, 82, 0, 0, 0, 1), (82, 83, 9, 1, 0, 0), (83, 84, 27, 0, 0, 0), (84, 85, 9, 2, 0, 0), (85, 86, 4, 0, 0, 0), (86, 89, 49, 10, 6, 0), (89, 91, 0, 0, 0, 6), (91, 92, 27, 0, 0, 0), (92, 93, 9, 2, 0, 0), (93, 94, 9, 0, 0, 0), (94, 95, 5, 3, 0, 0), (95, 96, 4, 0, 0, 0), (96, 99, 49, 10, 6, 0), (99, 101, 0, 0, 0, 13), (101, 102, 4, 0, 0, 0), (102, 105, 49, 10, 25, 0), (105, 107, 2, 5, 0, 0), (107, 108, 27, 0, 0, 0), (108, 109, 9, 0, 0, 0), (109, 110, 0, 0, 0, 1), (110, 111, 9, 1, 0, 0), (111, 112, 27, 0, 0, 0), (112, 114, 5, 4, 0, 0), (114, 117, 8, 5, 0, 1), (117, 120, 22, 0, 15, 0), (120, 121, 2, 3, 0, 0), (121, 122, 4, 0, 0, 0), (122, 123, 0, 0, 0, 4), (123, 124, 2, 2, 0, 0), (124, 125, 9, 2, 0, 0), (125, 126, 0, 0, 0, 2), (126, 127, 9, 0, 0, 0), (127, 130, 39, 242, 0, 0), (130, 133, 19, 1, 162, 0), (133, 134, 4, 0, 0, 0), (134, 135, 0, 0, 0, 4), (135, 136, 2, 2, 0, 0), (136, 137, 9, 2, 0, 0), (137, 138, 0, 0, 0, 3), (138, 139, 9, 0, 0, 0), (139, 142, 39, 242, 0, 0), (142, 145, 0, 0, 0, 255), (145, 148, 19, 0, 164, 0), (148, 149, 4, 0, 0, 0), (149, 150, 0, 0, 0, 4), (150, 151, 2, 2, 0, 0), (151, 152, 9, 2, 0, 0), (152, 153, 0, 0, 0, 3), (153, 154, 9, 0, 0, 0), (154, 157, 39, 242, 0, 0), (157, 159, 2, 4, 0, 0), (159, 162, 19, 0, 164, 0), (162, 163, 0, 0, 0, 0), (163, 164, 42, 0, 0, 0), (164, 167, 8, 2, 0, 1), (167, 170, 22, 0, 2, 0), (170, 171, 0, 0, 0, 1), (171, 172, 42, 0, 0, 0)])
def M244 : Mth := (244, 10, 2, 0, 5, [(0, 1, 0, 0, 0, 0), (1, 2, 5, 2, 0, 0), (2, 3, 0, 0, 0, 0), (3, 4, 5, 3, 0, 0), (4, 5, 2, 3, 0, 0), (5, 6, 4, 0, 0, 0), (6, 9, 49, 10, 6, 0), (9, 10, 0, 0, 0, 3), (10, 11, 27, 0, 0, 0), (11, 14, 19, 3, 97, 0), (14, 15, 4, 0, 0, 0), (15, 18, 49, 10, 25, 0), (18, 19, 2, 3, 0, 0), (19, 20, 27, 0, 0, 0), (20, 23, 18, 5, 34, 0), (23, 24, 2, 2, 0, 0), (24, 25, 0, 0, 0, 1), (25, 26, 4, 0, 0, 0), (26, 29, 49, 10, 25, 0), (29, 30, 2, 3, 0, 0), (30, 31, 27, 0, 0, 0), (31, 32, 9, 8, 0, 0), (32, 33, 9, 6, 0, 0), (33, 34, 5, 2, 0, 0), (34, 35, 2, 1, 0, 0), (35, 38, 18, 0, 66, 0), (38, 39, 4, 0, 0, 0), (39, 42, 49, 10, 26, 0), (42, 43, 2, 3, 0, 0), (43, 44, 4, 0, 0, 0), (44, 47, 49, 10, 25, 0), (47, 48, 2, 3, 0, 0), (48, 49, 27, 0, 0, 0), (49, 50, 0, 0, 0, 1), (50, 51, 9, 1, 0, 0), (51, 52, 31, 0, 0, 0), (52, 53, 4, 0, 0, 0), (53, 56, 49, 10, 27, 0), (56, 57, 2, 3, 0, 0), (57, 58, 4, 0, 0, 0), (58, 61, 49, 10, 25, 0), (61, 62, 2, 3, 0, 0), (62, 63, 27, 0, 0, 0), (63, 64, 0, 0, 0, 1), (64, 65, 9, 1, 0, 0), (65, 66, 31, 0, 0, 0), (66, 67, 4, 0, 0, 0), (67, 70, 49, 10, 27, 0), (70, 71, 2, 3, 0, 0), (71, 72, 27, 0, 0, 0), (72, 73, 4, 0, 0, 0), (73, 76, 49, 10, 25, 0), (76, 77, 2, 3, 0, 0), (77, 78, 27, 0, 0, 0), (78, 79, 0, 0, 0, 1), (79, 80, 9, 1, 0, 0), (80, 83, 19, 0, 91, 0), (83, 84, 4, 0, 0, 0), (84, 87, 49, 10, 27, 0), (87, 88, 2, 3, 0, 0), (88, 90, 0, 0, 0, -2), (90, 91, 31, 0, 0, 0), (91, 94, 8, 3, 0, 1), (94, 97, 22, 0, 4, 0), (97, 98, 0, 0, 0, 0), (98, 99, 5, 3, 0, 0), (99, 100, 0, 0, 0, 1), (100, 102, 5, 4, 0, 0), (102, 104, 2, 4, 0, 0), (104, 106, 0, 0, 0, 7), (106, 109, 19, 3, 124, 0), (109, 110, 2, 3, 0, 0), (110, 111, 2, 2, 0, 0), (111, 113, 2, 4, 0, 0), (113, 114, 9, 9, 0, 0), (114, 115, 0, 0, 0, 1), (115, 116, 9, 5, 0, 0), (116, 117, 9, 0, 0, 0), (117, 118, 5, 3, 0, 0), (118, 121, 8, 4, 0, 1), (121, 124, 22, 0, 102, 0), (124, 125, 2, 1, 0, 0), (125, 128, 18, 1, 136, 0), (128, 129, 2, 3, 0, 0), (129, 130, 4, 0, 0, 0), (130, 133, 24, 10, 29, 0), (133, 136, 19, 3, 141, 0), (136, 137, 4, 0, 0, 0), (137, 138, 2, 3, 0, 0), (138, 141, 25, 10, 29, 0), (141, 142, 4, 0, 0, 0), (142, 143, 4, 0, 0, 0), (143, 146, 49, 10, 6, 0), (146, 147, 0, 0, 0, 3), (147, 148, 27, 0, 0, 0), (148, 151, 25, 10, 28, 0), (151, 152, 41, 0, 0, 0)])
def M245 : Mth := (245, 10, 1, 2, 2, [(0, 1, 4, 0, 0, 0), (1, 4, 49, 10, 6, 0), (4, 5, 0, 0, 0, 3), (5, 6, 27, 0, 0, 0), (6, 7, 0, 0, 0, 1), (7, 8, 9, 1, 0, 0), (8, 9, 5, 1, 0, 0), (9, 10, 2, 1, 0, 0), (10, 13, 18, 2, 53, 0), (13, 14, 4, 0, 0, 0), (14, 17, 49, 10, 25, 0), (17, 18, 2, 1, 0, 0), (18, 19, 27, 0, 0, 0), (19, 20, 4, 0, 0, 0), (20, 23, 49, 10, 6, 0), (23, 24, 0, 0, 0, 2), (24, 25, 27, 0, 0, 0), (25, 28, 19, 3, 40, 0), (28, 29, 4, 0, 0, 0), (29, 32, 49, 10, 25, 0), (32, 33, 2, 1, 0, 0), (33, 34, 17, 0, 0, 0), (34, 35, 27, 0, 0, 0), (35, 36, 0, 0, 0, 1), (36, 37, 9, 0, 0, 0), (37, 38, 31, 0, 0, 0), (38, 39, 0, 0, 0, 1), (39, 40, 42, 0, 0, 0), (40, 41, 4, 0, 0, 0), (41, 44, 49, 10, 25, 0), (44, 45, 2, 1, 0, 0), (45, 46, 0, 0, 0, 0), (46, 47, 31, 0, 0, 0), (47, 50, 8, 1, 0, -1), (50, 53, 22, 0, 9, 0), (53, 54, 0, 0, 0, 0), (54, 55, 42, 0, 0, 0)])
def M246 : Mth := (246, 10, 3, 1, 3, [(0, 1, 4, 0, 0, 0), (1, 2, 0, 0, 0, 0), (2, 5, 25, 10, 0, 0), (5, 6, 2, 1, 0, 0), (6, 7, 0, 0, 0, 0), (7, 8, 4, 0, 0, 0), (8, 11, 24, 10, 28, 0), (11, 12, 0, 0, 0, 1), (12, 13, 9, 1, 0, 0), (13, 16, 39, 199, 0, 0), (16, 19, 18, 0, 50, 0), (19, 20, 2, 2, 0, 0), (20, 21, 0, 0, 0, 0), (21, 22, 0, 0, 0, 1), (22, 25, 39, 199, 0, 0), (25, 28, 18, 0, 50, 0), (28, 29, 2, 2, 0, 0), (29, 32, 18, 1, 41, 0), (32, 33, 4, 0, 0, 0), (33, 36, 49, 10, 26, 0), (36, 37, 2, 1, 0, 0), (37, 38, 27, 0, 0, 0), (38, 41, 22, 0, 52, 0), (41, 42, 4, 0, 0, 0), (42, 45, 49, 10, 27, 0), (45, 46, 2, 1, 0, 0), (46, 47, 27, 0, 0, 0), (47, 50, 22, 0, 52, 0), (50, 52, 0, 0, 0, -3), (52, 53, 42, 0, 0, 0)])
def M247 : Mth := (247, 10, 1, 1, 1, [(0, 1, 4, 0, 0, 0), (1, 2, 0, 0, 0, 0), (2, 5, 25, 10, 0, 0), (5, 6, 4, 0, 0, 0), (6, 9, 24, 10, 28, 0), (9, 12, 18, 2, 19, 0), (12, 13, 4, 0, 0, 0), (13, 16, 24, 10, 29, 0), (16, 19, 22, 0, 20, 0), (19, 20, 0, 0, 0, -1), (20, 21, 42, 0, 0, 0)])
def M248 : Mth := (248, 10, 4, 1, 5, [(0, 1, 4, 0, 0, 0), (1, 2, 0, 0, 0, 0), (2, 5, 25, 10, 0, 0), (5, 6, 4, 0, 0, 0), (6, 7, 2, 1, 0, 0), (7, 8, 2, 2, 0, 0), (8, 9, 2, 3, 0, 0), (9, 12, 39, 249, 0, 0), (12, 14, 5, 4, 0, 0), (14, 16, 2, 4, 0, 0), (16, 19, 18, 3, 23, 0), (19, 20, 0, 0, 0, -1), (20, 23, 22, 0, 29, 0), (23, 25, 2, 4, 0, 0), (25, 28, 0, 0, 0, 1000), (28, 29, 9, 3, 0, 0), (29, 30, 42, 0, 0, 0)])
def M249 : Mth := (249, 10, 4, 1, 9, [(0, 1, 4, 0, 0, 0), (1, 2, 2, 1, 0, 0), (2, 5, 39, 211, 0, 0), (5, 8, 18, 0, 50, 0), (8, 9, 4, 0, 0, 0), (9, 10, 2, 2, 0, 0), (10, 13, 39, 216, 0, 0), (13, 16, 18, 0, 50, 0), (16, 17, 4, 0, 0, 0), (17, 18, 2, 3, 0, 0), (18, 21, 39, 216, 0, 0), (21, 24, 18, 0, 50, 0), (24, 25, 4, 0, 0, 0), (25, 28, 49, 10, 6, 0), (28, 30, 0, 0, 0, 25), (30, 31, 2, 2, 0, 0), (31, 32, 9, 0, 0, 0), (32, 33, 27, 0, 0, 0), (33, 34, 0, 0, 0, 1), (34, 37, 19, 0, 50, 0), (37, 38, 4, 0, 0, 0), (38, 41, 49, 10, 6, 0), (41, 43, 0, 0, 0, 25), (43, 44, 2, 3, 0, 0), (44, 45, 9, 0, 0, 0), (45, 46, 27, 0, 0, 0), (46, 47, 0, 0, 0, 1), (47, 50, 19, 1, 52, 0), (50, 51, 0, 0, 0, -1), (51, 52, 42, 0, 0, 0), (52, 53, 0, 0, 0, 0), (53, 55, 5, 4, 0, 0), (55, 57, 2, 4, 0, 0), (57, 60, 0, 0, 0, 144), (60, 63, 19, 3, 79, 0), (63, 64, 4, 0, 0, 0), (64, 67, 49, 10, 30, 0), (67, 69, 2, 4, 0, 0), (69, 72, 0, 0, 0, 1000000000), (72, 73, 31, 0, 0, 0), (73, 76, 8, 4, 0, 1), (76, 79, 22, 0, 55, 0), (79, 80, 4, 0, 0, 0), (80, 83, 49, 10, 30, 0), (83, 84, 2, 2, 0, 0), (84, 87, 0, 0, 0, 1000), (87, 88, 4, 0, 0, 0), (88, 89, 2, 1, 0, 0), (89, 90, 2, 2, 0, 0), (90, 93, 39, 250, 0, 0), (93, 94, 9, 2, 0, 0), (94, 95, 31, 0, 0, 0), (95, 96, 0, 0, 0, 1), (96, 98, 5, 4, 0, 0), (98, 100, 2, 4, 0, 0), (100, 103, 18, 0, 236, 0), (103, 104, 0, 0, 0, 0), (104, 106, 5, 4, 0, 0), (106, 107, 0, 0, 0, 0), (107, 109, 5, 5, 0, 0), (109, 111, 2, 5, 0, 0), (111, 114, 0, 0, 0, 144), (114, 117, 19, 3, 233, 0), (117, 118, 0, 0, 0, 0), (118, 120, 5, 6, 0, 0), (120, 122, 2, 6, 0, 0), (122, 123, 0, 0, 0, 4), (123, 126, 19, 3, 227, 0), (126, 127, 4, 0, 0, 0), (127, 130, 49, 10, 30, 0), (130, 132, 2, 5, 0, 0), (132, 133, 27, 0, 0, 0), (133, 136, 0, 0, 0, 1000000000), (136, 139, 19, 3, 227, 0), (139, 140, 4, 0, 0, 0), (140, 142, 2, 5, 0, 0), (142, 144, 2, 6, 0, 0), (144, 147, 39, 251, 0, 0), (147, 149, 5, 7, 0, 0), (149, 151, 2, 7, 0, 0), (151, 154, 18, 2, 221, 0), (154, 155, 4, 0, 0, 0), (155, 158, 49, 10, 6, 0), (158, 160, 0, 0, 0, 25), (160, 162, 2, 7, 0, 0), (162, 163, 9, 0, 0, 0), (163, 164, 27, 0, 0, 0), (164, 165, 0, 0, 0, 1), (165, 168, 19, 1, 171, 0), (168, 171, 22, 0, 221, 0), (171, 172, 4, 0, 0, 0), (172, 175, 49, 10, 30, 0), (175, 177, 2, 5, 0, 0), (177, 178, 27, 0, 0, 0), (178, 181, 0, 0, 0, 1000), (181, 182, 4, 0, 0, 0), (182, 183, 2, 1, 0, 0), (183, 185, 2, 7, 0, 0), (185, 188, 39, 250, 0, 0), (188, 189, 9, 2, 0, 0), (189, 190, 9, 0, 0, 0), (190, 191, 0, 0, 0, 1), (191, 192, 9, 0, 0, 0), (192, 194, 5, 8, 0, 0), (194, 196, 2, 8, 0, 0), (196, 197, 4, 0, 0, 0), (197, 200, 49, 10, 30, 0), (200, 202, 2, 7, 0, 0), (202, 203, 27, 0, 0, 0), (203, 206, 19, 2, 209, 0), (206, 209, 22, 0, 221, 0), (209, 210, 4, 0, 0, 0), (210, 213, 49, 10, 30, 0), (213, 215, 2, 7, 0, 0), (215, 217, 2, 8, 0, 0), (217, 218, 31, 0, 0, 0), (218, 219, 0, 0, 0, 1), (219, 221, 5, 4, 0, 0), (221, 224, 8, 6, 0, 1), (224, 227, 22, 0, 120, 0), (227, 230, 8, 5, 0, 1), (230, 233, 22, 0, 109, 0), (233, 236, 22, 0, 98, 0), (236, 237, 4, 0, 0, 0), (237, 240, 49, 10, 30, 0), (240, 241, 2, 3, 0, 0), (241, 242, 27, 0, 0, 0), (242, 245, 0, 0, 0, 1000000000), (245, 248, 19, 3, 257, 0), (248, 249, 4, 0, 0, 0), (249, 252, 49, 10, 30, 0), (252, 253, 2, 3, 0, 0), (253, 254, 27, 0, 0, 0), (254, 257, 22, 0, 258, 0), (257, 258, 0, 0, 0, -1), (258, 259, 42, 0, 0, 0)])
def M250 : Mth := (250, 10, 3, 1, 3, [(0, 1, 4, 0, 0, 0), (1, 4, 49, 10, 6, 0), (4, 7, 0, 0, 0, 436), (7, 8, 0, 0, 0, 4), (8, 9, 2, 2, 0, 0), (9, 10, 9, 2, 0, 0), (10, 11, 9, 0, 0, 0), (11, 12, 27, 0, 0, 0), (12, 15, 18, 5, 45, 0), (15, 16, 4, 0, 0, 0), (16, 19, 49, 10, 6, 0), (19, 22, 0, 0, 0, 436), (22, 23, 0, 0, 0, 4), (23, 24, 2, 2, 0, 0), (24, 25, 9, 2, 0, 0), (25, 26, 9, 0, 0, 0), (26, 27, 0, 0, 0, 1), (27, 28, 9, 0, 0, 0), (28, 29, 27, 0, 0, 0), (29, 30, 4, 0, 0, 0), (30, 33, 49, 10, 6, 0), (33, 35, 0, 0, 0, 13), (35, 36, 2, 1, 0, 0), (36, 37, 9, 0, 0, 0), (37, 38, 27, 0, 0, 0), (38, 41, 19, 1, 45, 0), (41, 42, 0, 0, 0, 0), (42, 45, 22, 0, 54, 0), (45, 46, 4, 0, 0, 0), (46, 49, 49, 10, 6, 0), (49, 51, 0, 0, 0, 7), (51, 52, 2, 1, 0, 0), (52, 53, 9, 0, 0, 0), (53, 54, 27, 0, 0, 0), (54, 55, 42, 0, 0, 0)])
def M251 : Mth := (251, 10, 3, 1, 3, [(0, 1, 2, 1, 0, 0), (1, 2, 2, 2, 0, 0), (2, 3, 4, 0, 0, 0), (3, 6, 49, 10, 6, 0), (6, 7, 0, 0, 0, 0), (7, 8, 27, 0, 0, 0), (8, 9, 4, 0, 0, 0), (9, 12, 49, 10, 6, 0), (12, 13, 0, 0, 0, 1), (13, 14, 27, 0, 0, 0), (14, 17, 39, 207, 0, 0), (17, 18, 42, 0, 0, 0)])
def M252 : Mth := (252, 10, 4, 1, 5, [(0, 1, 4, 0, 0, 0), (1, 2, 0, 0, 0, 0), (2, 5, 25, 10, 0, 0), (5, 6, 4, 0, 0, 0), (6, 7, 2, 1, 0, 0), (7, 8, 2, 2, 0, 0), (8, 9, 2, 3, 0, 0), (9, 12, 39, 249, 0, 0), (12, 14, 5, 4, 0, 0), (14, 16, 2, 4, 0, 0), (16, 19, 18, 3, 23, 0), (19, 20, 0, 0, 0, -1), (20, 23, 22, 0, 29, 0), (23, 25, 2, 4, 0, 0), (25, 28, 0, 0, 0, 1000), (28, 29, 9, 4, 0, 0), (29, 30, 42, 0, 0, 0)])
def M253 : Mth := (253, 10, 1, 1, 6, [(0, 1, 4, 0, 0, 0), (1, 2, 0, 0, 0, 0), (2, 5, 25, 10, 0, 0), (5, 6, 4, 0, 0, 0), (6, 9, 0, 0, 0, 300), (9, 12, 39, 190, 0, 0), (12, 13, 4, 0, 0, 0), (13, 14, 0, 0, 0, 0), (14, 17, 25, 10, 15, 0), (17, 18, 4, 0, 0, 0), (18, 19, 0, 0, 0, 0), (19, 22, 25, 10, 34, 0), (22, 23, 4, 0, 0, 0), (23, 26, 39, 191, 0, 0), (26, 27, 4, 0, 0, 0), (27, 30, 39, 254, 0, 0), (30, 33, 18, 1, 41, 0), (33, 35, 0, 0, 0, -2), (35, 36, 4, 0, 0, 0), (36, 39, 24, 10, 16, 0), (39, 40, 9, 1, 0, 0), (40, 41, 42, 0, 0, 0), (41, 42, 4, 0, 0, 0), (42, 43, 0, 0, 0, 1), (43, 46, 52, 10, 35, 0), (46, 47, 0, 0, 0, 0), (47, 48, 5, 1, 0, 0), (48, 49, 2, 1, 0, 0), (49, 50, 0, 0, 0, 3), (50, 53, 19, 3, 66, 0), (53, 54, 4, 0, 0, 0), (54, 57, 49, 10, 31, 0), (57, 58, 2, 1, 0, 0), (58, 59, 0, 0, 0, 0), (59, 60, 31, 0, 0, 0), (60, 63, 8, 1, 0, 1), (63, 66, 22, 0, 48, 0), (66, 67, 4, 0, 0, 0), (67, 70, 49, 10, 31, 0), (70, 71, 0, 0, 0, 3), (71, 72, 0, 0, 0, -1), (72, 73, 31, 0, 0, 0), (73, 74, 4, 0, 0, 0), (74, 77, 49, 10, 6, 0), (77, 79, 0, 0, 0, 25), (79, 80, 4, 0, 0, 0), (80, 83, 24, 10, 33, 0), (83, 84, 9, 0, 0, 0), (84, 85, 27, 0, 0, 0), (85, 86, 0, 0, 0, 1), (86, 89, 19, 1, 98, 0), (89, 90, 4, 0, 0, 0), (90, 93, 49, 10, 31, 0), (93, 94, 0, 0, 0, 0), (94, 95, 0, 0, 0, 1), (95, 96, 31, 0, 0, 0), (96, 97, 0, 0, 0, 0), (97, 98, 42, 0, 0, 0), (98, 99, 4, 0, 0, 0), (99, 102, 24, 10, 33, 0), (102, 103, 5, 1, 0, 0), (103, 104, 4, 0, 0, 0), (104, 107, 49, 10, 31, 0), (107, 108, 0, 0, 0, 3), (108, 109, 2, 1, 0, 0), (109, 110, 31, 0, 0, 0), (110, 111, 0, 0, 0, 0), (111, 112, 5, 2, 0, 0), (112, 113, 2, 2, 0, 0), (113, 114, 4, 0, 0, 0), (114, 117, 24, 10, 34, 0), (117, 120, 19, 3, 348, 0), (120, 121, 4, 0, 0, 0), (121, 124, 49, 10, 8, 0), (124, 125, 0, 0, 0, 3), (125, 126, 2, 2, 0, 0), (126, 127, 9, 2, 0, 0), (127, 128, 27, 0, 0, 0), (128, 129, 5, 3, 0, 0), (129, 130, 0, 0, 0, 0), (130, 132, 5, 4, 0, 0), (132, 133, 0, 0, 0, 0), (133, 135, 5, 5, 0, 0), (135, 137, 2, 5, 0, 0), (137, 138, 4, 0, 0, 0), (138, 141, 49, 10, 8, 0), (141, 142, 0, 0, 0, 3), (142, 143, 2, 2, 0, 0), (143, 144, 9, 2, 0, 0), (144, 145, 0, 0, 0, 1), (145, 146, 9, 0, 0, 0), (146, 147, 27, 0, 0, 0), (147, 150, 19, 3, 192, 0), (150, 152, 2, 4, 0, 0), (152, 155, 18, 1, 192, 0), (155, 156, 4, 0, 0, 0), (156, 157, 2, 1, 0, 0), (157, 158, 2, 3, 0, 0), (158, 161, 39, 251, 0, 0), (161, 162, 5, 1, 0, 0), (162, 163, 2, 1, 0, 0), (163, 166, 18, 2, 179, 0), (166, 167, 4, 0, 0, 0), (167, 170, 49, 10, 6, 0), (170, 172, 0, 0, 0, 25), (172, 173, 2, 1, 0, 0), (173, 174, 9, 0, 0, 0), (174, 175, 27, 0, 0, 0), (175, 176, 0, 0, 0, 1), (176, 179, 19, 1, 183, 0), (179, 180, 0, 0, 0, 1), (180, 183, 22, 0, 184, 0), (183, 184, 0, 0, 0, 0), (184, 186, 5, 4, 0, 0), (186, 189, 8, 5, 0, 1), (189, 192, 22, 0, 135, 0), (192, 194, 2, 4, 0, 0), (194, 197, 18, 1, 236, 0), (197, 198, 4, 0, 0, 0), (198, 201, 49, 10, 8, 0), (201, 202, 0, 0, 0, 3), (202, 203, 2, 2, 0, 0), (203, 204, 9, 2, 0, 0), (204, 205, 0, 0, 0, 1), (205, 206, 9, 0, 0, 0), (206, 207, 27, 0, 0, 0), (207, 208, 4, 0, 0, 0), (208, 211, 49, 10, 6, 0), (211, 213, 0, 0, 0, 19), (213, 214, 4, 0, 0, 0), (214, 217, 24, 10, 32, 0), (217, 218, 9, 0, 0, 0), (218, 219, 27, 0, 0, 0), (219, 220, 4, 0, 0, 0), (220, 223, 49, 10, 8, 0), (223, 224, 0, 0, 0, 3), (224, 225, 2, 2, 0, 0), (225, 226, 9, 2, 0, 0), (226, 227, 0, 0, 0, 2), (227, 228, 9, 0, 0, 0), (228, 229, 27, 0, 0, 0), (229, 230, 9, 2, 0, 0), (230, 233, 19, 5, 236, 0), (233, 234, 0, 0, 0, 2), (234, 236, 5, 4, 0, 0), (236, 238, 2, 4, 0, 0), (238, 241, 18, 1, 280, 0), (241, 242, 2, 2, 0, 0), (242, 245, 18, 5, 280, 0), (245, 246, 4, 0, 0, 0), (246, 249, 49, 10, 8, 0), (249, 250, 0, 0, 0, 3), (250, 251, 2, 2, 0, 0), (251, 252, 9, 2, 0, 0), (252, 253, 0, 0, 0, 2), (253, 254, 9, 0, 0, 0), (254, 255, 27, 0, 0, 0), (255, 256, 0, 0, 0, 1), (256, 259, 19, 1, 280, 0), (259, 260, 2, 3, 0, 0), (260, 261, 4, 0, 0, 0), (261, 264, 49, 10, 8, 0), (264, 265, 0, 0, 0, 3), (265, 266, 2, 2, 0, 0), (266, 267, 9, 2, 0, 0), (267, 268, 0, 0, 0, 3), (268, 269, 9, 1, 0, 0), (269, 270, 27, 0, 0, 0), (270, 271, 0, 0, 0, 2), (271, 272, 9, 0, 0, 0), (272, 273, 0, 0, 0, 4), (273, 274, 9, 4, 0, 0), (274, 277, 19, 1, 280, 0), (277, 278, 0, 0, 0, 3), (278, 280, 5, 4, 0, 0), (280, 282, 2, 4, 0, 0), (282, 285, 18, 5, 297, 0), (285, 286, 4, 0, 0, 0), (286, 289, 49, 10, 31, 0), (289, 290, 0, 0, 0, 0), (290, 292, 2, 4, 0, 0), (292, 293, 31, 0, 0, 0), (293, 294, 2, 2, 0, 0), (294, 295, 0, 0, 0, 1), (295, 296, 9, 0, 0, 0), (296, 297, 42, 0, 0, 0), (297, 298, 4, 0, 0, 0), (298, 301, 49, 10, 31, 0), (301, 302, 0, 0, 0, 1), (302, 303, 17, 0, 0, 0), (303, 304, 27, 0, 0, 0), (304, 305, 4, 0, 0, 0), (305, 308, 49, 10, 8, 0), (308, 309, 0, 0, 0, 3), (309, 310, 2, 2, 0, 0), (310, 311, 9, 2, 0, 0), (311, 312, 0, 0, 0, 1), (312, 313, 9, 0, 0, 0), (313, 314, 27, 0, 0, 0), (314, 315, 9, 0, 0, 0), (315, 316, 31, 0, 0, 0), (316, 317, 4, 0, 0, 0), (317, 320, 49, 10, 31, 0), (320, 321, 0, 0, 0, 2), (321, 322, 17, 0, 0, 0), (322, 323, 27, 0, 0, 0), (323, 324, 4, 0, 0, 0), (324, 327, 49, 10, 8, 0), (327, 328, 0, 0, 0, 3), (328, 329, 2, 2, 0, 0), (329, 330, 9, 2, 0, 0), (330, 331, 0, 0, 0, 2), (331, 332, 9, 0, 0, 0), (332, 333, 27, 0, 0, 0), (333, 334, 9, 0, 0, 0), (334, 335, 31, 0, 0, 0), (335, 336, 4, 0, 0, 0), (336, 339, 49, 10, 31, 0), (339, 340, 0, 0, 0, 3), (340, 341, 2, 1, 0, 0), (341, 342, 31, 0, 0, 0), (342, 345, 8, 2, 0, 1), (345, 348, 22, 0, 112, 0), (348, 349, 0, 0, 0, -1), (349, 350, 42, 0, 0, 0)])
def M254 : Mth := (254, 10, 1, 2, 2, [(0, 1, 4, 0, 0, 0), (1, 4, 39, 201, 0, 0), (4, 7, 18, 1, 13, 0), (7, 8, 4, 0, 0, 0), (8, 9, 0, 0, 0, 1), (9, 12, 39, 197, 0, 0), (12, 13, 42, 0, 0, 0), (13, 14, 4, 0, 0, 0), (14, 15, 4, 0, 0, 0), (15, 16, 0, 0, 0, 0), (16, 17, 4, 0, 0, 0), (17, 20, 49, 10, 6, 0), (20, 21, 0, 0, 0, 2), (21, 22, 27, 0, 0, 0), (22, 25, 39, 202, 0, 0), (25, 28, 25, 10, 32, 0), (28, 29, 4, 0, 0, 0), (29, 32, 24, 10, 32, 0), (32, 35, 18, 3, 41, 0), (35, 36, 4, 0, 0, 0), (36, 37, 0, 0, 0, 3), (37, 40, 39, 197, 0, 0), (40, 41, 42, 0, 0, 0), (41, 42, 4, 0, 0, 0), (42, 45, 39, 191, 0, 0), (45, 46, 4, 0, 0, 0), (46, 47, 0, 0, 0, 0), (47, 48, 4, 0, 0, 0), (48, 51, 49, 10, 6, 0), (51, 52, 0, 0, 0, 0), (52, 53, 27, 0, 0, 0), (53, 54, 0, 0, 0, 1), (54, 55, 9, 1, 0, 0), (55, 58, 39, 198, 0, 0), (58, 61, 18, 1, 63, 0), (61, 62, 0, 0, 0, 0), (62, 63, 42, 0, 0, 0), (63, 64, 4, 0, 0, 0), (64, 65, 4, 0, 0, 0), (65, 68, 24, 10, 18, 0), (68, 71, 25, 10, 33, 0), (71, 72, 4, 0, 0, 0), (72, 73, 0, 0, 0, 0), (73, 74, 4, 0, 0, 0), (74, 77, 49, 10, 6, 0), (77, 78, 0, 0, 0, 1), (78, 79, 27, 0, 0, 0), (79, 80, 0, 0, 0, 1), (80, 81, 9, 1, 0, 0), (81, 84, 39, 198, 0, 0), (84, 87, 18, 1, 89, 0), (87, 88, 0, 0, 0, 0), (88, 89, 42, 0, 0, 0), (89, 90, 4, 0, 0, 0), (90, 91, 15, 0, 0, 0), (91, 94, 24, 10, 33, 0), (94, 96, 0, 0, 0, 12), (96, 97, 4, 0, 0, 0), (97, 100, 24, 10, 18, 0), (100, 101, 9, 2, 0, 0), (101, 102, 9, 0, 0, 0), (102, 105, 25, 10, 33, 0), (105, 106, 4, 0, 0, 0), (106, 108, 0, 0, 0, 59), (108, 111, 39, 208, 0, 0), (111, 114, 18, 1, 116, 0), (114, 115, 0, 0, 0, 0), (115, 116, 42, 0, 0, 0), (116, 117, 4, 0, 0, 0), (117, 120, 24, 10, 11, 0), (120, 123, 18, 0, 251, 0), (123, 124, 4, 0, 0, 0), (124, 127, 39, 206, 0, 0), (127, 128, 5, 1, 0, 0), (128, 129, 2, 1, 0, 0), (129, 132, 18, 3, 138, 0), (132, 133, 4, 0, 0, 0), (133, 134, 0, 0, 0, 1), (134, 137, 39, 197, 0, 0), (137, 138, 42, 0, 0, 0), (138, 139, 4, 0, 0, 0), (139, 142, 24, 10, 34, 0), (142, 144, 0, 0, 0, 30), (144, 147, 19, 1, 153, 0), (147, 148, 4, 0, 0, 0), (148, 149, 0, 0, 0, 4), (149, 152, 39, 197, 0, 0), (152, 153, 42, 0, 0, 0), (153, 154, 4, 0, 0, 0), (154, 157, 39, 191, 0, 0), (157, 158, 4, 0, 0, 0), (158, 161, 49, 10, 8, 0), (161, 162, 0, 0, 0, 3), (162, 163, 4, 0, 0, 0), (163, 166, 24, 10, 34, 0), (166, 167, 9, 2, 0, 0), (167, 168, 2, 1, 0, 0), (168, 169, 31, 0, 0, 0), (169, 170, 4, 0, 0, 0), (170, 171, 0, 0, 0, 1), (171, 173, 0, 0, 0, 11), (173, 176, 39, 198, 0, 0), (176, 179, 18, 1, 181, 0), (179, 180, 0, 0, 0, 0), (180, 181, 42, 0, 0, 0), (181, 182, 4, 0, 0, 0), (182, 185, 49, 10, 8, 0), (185, 186, 0, 0, 0, 3), (186, 187, 4, 0, 0, 0), (187, 190, 24, 10, 34, 0), (190, 191, 9, 2, 0, 0), (191, 192, 0, 0, 0, 1), (192, 193, 9, 0, 0, 0), (193, 194, 4, 0, 0, 0), (194, 197, 24, 10, 18, 0), (197, 198, 31, 0, 0, 0), (198, 199, 4, 0, 0, 0), (199, 200, 0, 0, 0, 1), (200, 202, 0, 0, 0, 99), (202, 205, 39, 198, 0, 0), (205, 208, 18, 1, 210, 0), (208, 209, 0, 0, 0, 0), (209, 210, 42, 0, 0, 0), (210, 211, 4, 0, 0, 0), (211, 214, 49, 10, 8, 0), (214, 215, 0, 0, 0, 3), (215, 216, 4, 0, 0, 0), (216, 219, 24, 10, 34, 0), (219, 220, 9, 2, 0, 0), (220, 221, 0, 0, 0, 2), (221, 222, 9, 0, 0, 0), (222, 223, 4, 0, 0, 0), (223, 226, 24, 10, 18, 0), (226, 227, 31, 0, 0, 0), (227, 228, 4, 0, 0, 0), (228, 230, 0, 0, 0, 59), (230, 233, 39, 208, 0, 0), (233, 236, 18, 1, 238, 0), (236, 237, 0, 0, 0, 0), (237, 238, 42, 0, 0, 0), (238, 239, 4, 0, 0, 0), (239, 240, 15, 0, 0, 0), (240, 243, 24, 10, 34, 0), (243, 244, 0, 0, 0, 1), (244, 245, 9, 0, 0, 0), (245, 248, 25, 10, 34, 0), (248, 251, 22, 0, 116, 0), (251, 252, 0, 0, 0, 1), (252, 253, 42, 0, 0, 0)])
def M255 : Mth := (255, 10, 2, 1, 2, [(0, 1, 4, 0, 0, 0), (1, 2, 0, 0, 0, 0), (2, 5, 25, 10, 0, 0), (5, 6, 4, 0, 0, 0), (6, 9, 24, 10, 35, 0), (9, 12, 18, 0, 30, 0), (12, 13, 2, 1, 0, 0), (13, 14, 0, 0, 0, 0), (14, 15, 0, 0, 0, 3), (15, 18, 39, 199, 0, 0), (18, 21, 18, 0, 30, 0), (21, 22, 4, 0, 0, 0), (22, 25, 49, 10, 31, 0), (25, 26, 2, 1, 0, 0), (26, 27, 27, 0, 0, 0), (27, 30, 22, 0, 31, 0), (30, 31, 0, 0, 0, -1), (31, 32, 42, 0, 0, 0)])
def M256 : Mth := (256, 10, 3, 1, 7, [(0, 1, 4, 0, 0, 0), (1, 2, 0, 0, 0, 0), (2, 5, 25, 10, 0, 0), (5, 6, 2, 1, 0, 0), (6, 7, 0, 0, 0, 0), (7, 8, 4, 0, 0, 0), (8, 11, 49, 10, 6, 0), (11, 12, 0, 0, 0, 5), (12, 13, 27, 0, 0, 0), (13, 14, 0, 0, 0, 1), (14, 15, 9, 1, 0, 0), (15, 18, 39, 199, 0, 0), (18, 21, 18, 0, 42, 0), (21, 22, 2, 2, 0, 0), (22, 23, 0, 0, 0, 0), (23, 24, 4, 0, 0, 0), (24, 27, 49, 10, 6, 0), (27, 28, 0, 0, 0, 5), (28, 29, 27, 0, 0, 0), (29, 30, 0, 0, 0, 1), (30, 31, 9, 1, 0, 0), (31, 34, 39, 199, 0, 0), (34, 37, 18, 0, 42, 0), (37, 38, 2, 1, 0, 0), (38, 39, 2, 2, 0, 0), (39, 42, 19, 1, 44, 0), (42, 43, 0, 0, 0, -1), (43, 44, 42, 0, 0, 0), (44, 45, 4, 0, 0, 0), (45, 48, 49, 10, 6, 0), (48, 51, 0, 0, 0, 169), (51, 52, 2, 1, 0, 0), (52, 53, 9, 0, 0, 0), (53, 54, 27, 0, 0, 0), (54, 55, 5, 3, 0, 0), (55, 56, 4, 0, 0, 0), (56, 59, 49, 10, 6, 0), (59, 62, 0, 0, 0, 169), (62, 63, 2, 2, 0, 0), (63, 64, 9, 0, 0, 0), (64, 65, 27, 0, 0, 0), (65, 67, 5, 4, 0, 0), (67, 68, 0, 0, 0, 0), (68, 70, 5, 5, 0, 0), (70, 72, 2, 5, 0, 0), (72, 73, 0, 0, 0, 4), (73, 76, 19, 3, 96, 0), (76, 77, 4, 0, 0, 0), (77, 78, 2, 3, 0, 0), (78, 80, 2, 5, 0, 0), (80, 83, 39, 251, 0, 0), (83, 85, 2, 4, 0, 0), (85, 88, 19, 1, 90, 0), (88, 89, 0, 0, 0, -1), (89, 90, 42, 0, 0, 0), (90, 93, 8, 5, 0, 1), (93, 96, 22, 0, 70, 0), (96, 97, 0, 0, 0, 0), (97, 99, 5, 5, 0, 0), (99, 101, 2, 5, 0, 0), (101, 104, 0, 0, 0, 144), (104, 107, 19, 3, 121, 0), (107, 108, 4, 0, 0, 0), (108, 111, 49, 10, 41, 0), (111, 113, 2, 5, 0, 0), (113, 114, 0, 0, 0, 0), (114, 115, 33, 0, 0, 0), (115, 118, 8, 5, 0, 1), (118, 121, 22, 0, 99, 0), (121, 122, 4, 0, 0, 0), (122, 123, 2, 3, 0, 0), (123, 125, 2, 4, 0, 0), (125, 128, 39, 257, 0, 0), (128, 130, 5, 5, 0, 0), (130, 131, 4, 0, 0, 0), (131, 132, 0, 0, 0, 0), (132, 135, 25, 10, 42, 0), (135, 136, 0, 0, 0, 0), (136, 138, 5, 6, 0, 0), (138, 140, 2, 6, 0, 0), (140, 143, 0, 0, 0, 144), (143, 146, 19, 3, 251, 0), (146, 148, 2, 5, 0, 0), (148, 151, 18, 5, 251, 0), (151, 152, 4, 0, 0, 0), (152, 154, 2, 6, 0, 0), (154, 157, 39, 216, 0, 0), (157, 160, 18, 0, 245, 0), (160, 161, 4, 0, 0, 0), (161, 164, 49, 10, 6, 0), (164, 166, 0, 0, 0, 25), (166, 168, 2, 6, 0, 0), (168, 169, 9, 0, 0, 0), (169, 170, 27, 0, 0, 0), (170, 171, 0, 0, 0, 1), (171, 174, 19, 0, 245, 0), (174, 176, 2, 6, 0, 0), (176, 177, 2, 3, 0, 0), (177, 180, 19, 0, 245, 0), (180, 182, 2, 6, 0, 0), (182, 184, 2, 4, 0, 0), (184, 187, 19, 1, 190, 0), (187, 190, 22, 0, 245, 0), (190, 191, 4, 0, 0, 0), (191, 194, 49, 10, 41, 0), (194, 196, 2, 6, 0, 0), (196, 197, 0, 0, 0, 1), (197, 198, 33, 0, 0, 0), (198, 199, 4, 0, 0, 0), (199, 200, 2, 3, 0, 0), (200, 202, 2, 4, 0, 0), (202, 205, 39, 257, 0, 0), (205, 207, 2, 5, 0, 0), (207, 210, 19, 3, 237, 0), (210, 213, 8, 5, 0, -1), (213, 214, 4, 0, 0, 0), (214, 217, 49, 10, 40, 0), (217, 218, 4, 0, 0, 0), (218, 221, 24, 10, 42, 0), (221, 223, 2, 6, 0, 0), (223, 224, 31, 0, 0, 0), (224, 225, 4, 0, 0, 0), (225, 226, 15, 0, 0, 0), (226, 229, 24, 10, 42, 0), (229, 230, 0, 0, 0, 1), (230, 231, 9, 0, 0, 0), (231, 234, 25, 10, 42, 0), (234, 237, 22, 0, 245, 0), (237, 238, 4, 0, 0, 0), (238, 241, 49, 10, 41, 0), (241, 243, 2, 6, 0, 0), (243, 244, 0, 0, 0, 0), (244, 245, 33, 0, 0, 0), (245, 248, 8, 6, 0, 1), (248, 251, 22, 0, 138, 0), (251, 252, 4, 0, 0, 0), (252, 255, 24, 10, 42, 0), (255, 256, 42, 0, 0, 0)])
def M257 : Mth := (257, 10, 3, 1, 4, [(0, 1, 0, 0, 0, 0), (1, 2, 5, 3, 0, 0), (2, 3, 2, 3, 0, 0), (3, 6, 0, 0, 0, 576), (6, 9, 19, 3, 22, 0), (9, 10, 4, 0, 0, 0), (10, 13, 49, 10, 36, 0), (13, 14, 2, 3, 0, 0), (14, 15, 0, 0, 0, 0), (15, 16, 31, 0, 0, 0), (16, 19, 8, 3, 0, 1), (19, 22, 22, 0, 2, 0), (22, 23, 0, 0, 0, 0), (23, 24, 5, 3, 0, 0), (24, 25, 2, 3, 0, 0), (25, 28, 0, 0, 0, 144), (28, 31, 19, 3, 44, 0), (31, 32, 4, 0, 0, 0), (32, 35, 49, 10, 37, 0), (35, 36, 2, 3, 0, 0), (36, 37, 0, 0, 0, 0), (37, 38, 31, 0, 0, 0), (38, 41, 8, 3, 0, 1), (41, 44, 22, 0, 24, 0), (44, 45, 4, 0, 0, 0), (45, 48, 49, 10, 6, 0), (48, 50, 0, 0, 0, 25), (50, 51, 2, 1, 0, 0), (51, 52, 9, 0, 0, 0), (52, 53, 27, 0, 0, 0), (53, 54, 0, 0, 0, 1), (54, 57, 19, 0, 70, 0), (57, 58, 4, 0, 0, 0), (58, 61, 49, 10, 6, 0), (61, 63, 0, 0, 0, 25), (63, 64, 2, 2, 0, 0), (64, 65, 9, 0, 0, 0), (65, 66, 27, 0, 0, 0), (66, 67, 0, 0, 0, 1), (67, 70, 19, 1, 72, 0), (70, 71, 0, 0, 0, 0), (71, 72, 42, 0, 0, 0), (72, 73, 0, 0, 0, 0), (73, 74, 5, 3, 0, 0), (74, 75, 4, 0, 0, 0), (75, 76, 2, 1, 0, 0), (76, 77, 2, 2, 0, 0), (77, 80, 39, 258, 0, 0), (80, 83, 18, 0, 89, 0), (83, 86, 8, 3, 0, 1), (86, 89, 22, 0, 74, 0), (89, 90, 2, 3, 0, 0), (90, 91, 42, 0, 0, 0)])
def M258 : Mth := (258, 10, 3, 2, 7, [(0, 1, 0, 0, 0, 0), (1, 2, 5, 3, 0, 0), (2, 3, 2, 3, 0, 0), (3, 6, 0, 0, 0, 288), (6, 9, 19, 3, 22, 0), (9, 10, 4, 0, 0, 0), (10, 13, 49, 10, 38, 0), (13, 14, 2, 3, 0, 0), (14, 15, 0, 0, 0, -1), (15, 16, 31, 0, 0, 0), (16, 19, 8, 3, 0, 1), (19, 22, 22, 0, 2, 0), (22, 23, 4, 0, 0, 0), (23, 24, 0, 0, 0, 0), (24, 27, 25, 10, 43, 0), (27, 28, 4, 0, 0, 0), (28, 29, 0, 0, 0, 2), (29, 30, 2, 1, 0, 0), (30, 31, 9, 2, 0, 0), (31, 32, 0, 0, 0, 1), (32, 33, 9, 0, 0, 0), (33, 34, 0, 0, 0, 2), (34, 35, 2, 1, 0, 0), (35, 36, 9, 2, 0, 0), (36, 37, 0, 0, 0, 1), (37, 38, 9, 0, 0, 0), (38, 41, 39, 259, 0, 0), (41, 42, 0, 0, 0, 0), (42, 43, 5, 3, 0, 0), (43, 44, 2, 3, 0, 0), (44, 45, 4, 0, 0, 0), (45, 48, 24, 10, 43, 0), (48, 51, 19, 3, 293, 0), (51, 52, 4, 0, 0, 0), (52, 55, 49, 10, 39, 0), (55, 56, 2, 3, 0, 0), (56, 57, 27, 0, 0, 0), (57, 58, 0, 0, 0, 2), (58, 59, 9, 3, 0, 0), (59, 61, 5, 4, 0, 0), (61, 62, 4, 0, 0, 0), (62, 65, 49, 10, 39, 0), (65, 66, 2, 3, 0, 0), (66, 67, 27, 0, 0, 0), (67, 68, 0, 0, 0, 2), (68, 69, 2, 2, 0, 0), (69, 70, 9, 2, 0, 0), (70, 73, 19, 1, 80, 0), (73, 74, 4, 0, 0, 0), (74, 75, 2, 1, 0, 0), (75, 76, 2, 2, 0, 0), (76, 79, 39, 260, 0, 0), (79, 80, 42, 0, 0, 0), (80, 81, 4, 0, 0, 0), (81, 84, 49, 10, 39, 0), (84, 85, 2, 3, 0, 0), (85, 86, 27, 0, 0, 0), (86, 87, 0, 0, 0, 2), (87, 88, 9, 4, 0, 0), (88, 89, 0, 0, 0, 1), (89, 92, 19, 1, 195, 0), (92, 93, 0, 0, 0, 0), (93, 95, 5, 5, 0, 0), (95, 97, 2, 5, 0, 0), (97, 98, 0, 0, 0, 4), (98, 101, 19, 3, 161, 0), (101, 102, 4, 0, 0, 0), (102, 104, 2, 4, 0, 0), (104, 106, 2, 5, 0, 0), (106, 109, 39, 251, 0, 0), (109, 111, 5, 6, 0, 0), (111, 112, 4, 0, 0, 0), (112, 114, 2, 6, 0, 0), (114, 117, 39, 261, 0, 0), (117, 120, 18, 0, 155, 0), (120, 122, 2, 6, 0, 0), (122, 123, 2, 1, 0, 0), (123, 126, 19, 0, 155, 0), (126, 127, 4, 0, 0, 0), (127, 130, 49, 10, 36, 0), (130, 131, 0, 0, 0, 4), (131, 133, 2, 4, 0, 0), (133, 134, 9, 2, 0, 0), (134, 136, 2, 5, 0, 0), (136, 137, 9, 0, 0, 0), (137, 138, 27, 0, 0, 0), (138, 141, 18, 1, 155, 0), (141, 142, 4, 0, 0, 0), (142, 143, 0, 0, 0, 2), (143, 145, 2, 6, 0, 0), (145, 146, 9, 2, 0, 0), (146, 147, 4, 0, 0, 0), (147, 150, 49, 10, 39, 0), (150, 151, 2, 3, 0, 0), (151, 152, 27, 0, 0, 0), (152, 155, 39, 259, 0, 0), (155, 158, 8, 5, 0, 1), (158, 161, 22, 0, 95, 0), (161, 163, 2, 4, 0, 0), (163, 164, 2, 1, 0, 0), (164, 167, 19, 0, 287, 0), (167, 168, 4, 0, 0, 0), (168, 171, 49, 10, 37, 0), (171, 173, 2, 4, 0, 0), (173, 174, 27, 0, 0, 0), (174, 175, 0, 0, 0, 1), (175, 178, 19, 1, 287, 0), (178, 179, 4, 0, 0, 0), (179, 180, 0, 0, 0, 2), (180, 182, 2, 4, 0, 0), (182, 183, 9, 2, 0, 0), (183, 184, 4, 0, 0, 0), (184, 187, 49, 10, 39, 0), (187, 188, 2, 3, 0, 0), (188, 189, 27, 0, 0, 0), (189, 192, 39, 259, 0, 0), (192, 195, 22, 0, 287, 0), (195, 196, 4, 0, 0, 0), (196, 199, 49, 10, 37, 0), (199, 201, 2, 4, 0, 0), (201, 202, 27, 0, 0, 0), (202, 205, 18, 1, 221, 0), (205, 206, 4, 0, 0, 0), (206, 207, 0, 0, 0, 2), (207, 209, 2, 4, 0, 0), (209, 210, 9, 2, 0, 0), (210, 211, 0, 0, 0, 1), (211, 212, 9, 0, 0, 0), (212, 213, 4, 0, 0, 0), (213, 216, 49, 10, 39, 0), (216, 217, 2, 3, 0, 0), (217, 218, 27, 0, 0, 0), (218, 221, 39, 259, 0, 0), (221, 222, 0, 0, 0, 0), (222, 224, 5, 5, 0, 0), (224, 226, 2, 5, 0, 0), (226, 227, 0, 0, 0, 4), (227, 230, 19, 3, 287, 0), (230, 231, 4, 0, 0, 0), (231, 233, 2, 4, 0, 0), (233, 235, 2, 5, 0, 0), (235, 238, 39, 251, 0, 0), (238, 240, 5, 6, 0, 0), (240, 242, 2, 6, 0, 0), (242, 245, 18, 2, 281, 0), (245, 246, 4, 0, 0, 0), (246, 249, 49, 10, 36, 0), (249, 250, 0, 0, 0, 4), (250, 252, 2, 6, 0, 0), (252, 253, 9, 2, 0, 0), (253, 255, 2, 5, 0, 0), (255, 256, 0, 0, 0, 2), (256, 257, 9, 0, 0, 0), (257, 258, 0, 0, 0, 4), (258, 259, 9, 4, 0, 0), (259, 260, 9, 0, 0, 0), (260, 261, 27, 0, 0, 0), (261, 262, 0, 0, 0, 1), (262, 265, 19, 1, 281, 0), (265, 266, 4, 0, 0, 0), (266, 267, 0, 0, 0, 2), (267, 269, 2, 6, 0, 0), (269, 270, 9, 2, 0, 0), (270, 271, 0, 0, 0, 1), (271, 272, 9, 0, 0, 0), (272, 273, 4, 0, 0, 0), (273, 276, 49, 10, 39, 0), (276, 277, 2, 3, 0, 0), (277, 278, 27, 0, 0, 0), (278, 281, 39, 259, 0, 0), (281, 284, 8, 5, 0, 1), (284, 287, 22, 0, 224, 0), (287, 290, 8, 3, 0, 1), (290, 293, 22, 0, 43, 0), (293, 294, 0, 0, 0, 0), (294, 295, 42, 0, 0, 0)])
def M259 : Mth := (259, 10, 3, 0, 3, [(0, 1, 4, 0, 0, 0), (1, 4, 49, 10, 38, 0), (4, 5, 2, 1, 0, 0), (5, 6, 27, 0, 0, 0), (6, 7, 0, 0, 0, -1), (7, 10, 19, 0, 11, 0), (10, 11, 41, 0, 0, 0), (11, 12, 4, 0, 0, 0), (12, 15, 49, 10, 38, 0), (15, 16, 2, 1, 0, 0), (16, 17, 2, 2, 0, 0), (17, 18, 31, 0, 0, 0), (18, 19, 4, 0, 0, 0), (19, 22, 49, 10, 39, 0), (22, 23, 4, 0, 0, 0), (23, 26, 24, 10, 43, 0), (26, 27, 2, 1, 0, 0), (27, 28, 31, 0, 0, 0), (28, 29, 4, 0, 0, 0), (29, 30, 15, 0, 0, 0), (30, 33, 24, 10, 43, 0), (33, 34, 0, 0, 0, 1), (34, 35, 9, 0, 0, 0), (35, 38, 25, 10, 43, 0), (38, 39, 41, 0, 0, 0)])
def M260 : Mth := (260, 10, 3, 2, 7, [(0, 1, 0, 0, 0, 2), (1, 2, 2, 2, 0, 0), (2, 3, 9, 2, 0, 0), (3, 4, 5, 3, 0, 0), (4, 5, 2, 3, 0, 0), (5, 6, 0, 0, 0, 2), (6, 7, 2, 1, 0, 0), (7, 8, 9, 2, 0, 0), (8, 9, 0, 0, 0, 1), (9, 10, 9, 0, 0, 0), (10, 13, 19, 0, 103, 0), (13, 14, 4, 0, 0, 0), (14, 17, 49, 10, 38, 0), (17, 18, 2, 3, 0, 0), (18, 19, 27, 0, 0, 0), (19, 21, 5, 4, 0, 0), (21, 22, 2, 3, 0, 0), (22, 23, 0, 0, 0, 2), (23, 24, 9, 3, 0, 0), (24, 26, 5, 5, 0, 0), (26, 28, 2, 4, 0, 0), (28, 29, 0, 0, 0, 2), (29, 30, 9, 3, 0, 0), (30, 32, 5, 6, 0, 0), (32, 34, 2, 5, 0, 0), (34, 36, 2, 6, 0, 0), (36, 39, 19, 1, 52, 0), (39, 40, 4, 0, 0, 0), (40, 43, 49, 10, 37, 0), (43, 45, 2, 5, 0, 0), (45, 46, 2, 3, 0, 0), (46, 47, 0, 0, 0, 2), (47, 48, 9, 4, 0, 0), (48, 49, 31, 0, 0, 0), (49, 52, 22, 0, 97, 0), (52, 53, 2, 3, 0, 0), (53, 54, 0, 0, 0, 2), (54, 55, 9, 4, 0, 0), (55, 58, 18, 1, 79, 0), (58, 59, 4, 0, 0, 0), (59, 62, 49, 10, 36, 0), (62, 63, 0, 0, 0, 4), (63, 65, 2, 6, 0, 0), (65, 66, 9, 2, 0, 0), (66, 68, 2, 6, 0, 0), (68, 70, 2, 5, 0, 0), (70, 73, 39, 226, 0, 0), (73, 74, 9, 0, 0, 0), (74, 75, 0, 0, 0, 1), (75, 76, 31, 0, 0, 0), (76, 79, 22, 0, 97, 0), (79, 80, 4, 0, 0, 0), (80, 83, 49, 10, 36, 0), (83, 84, 0, 0, 0, 4), (84, 86, 2, 5, 0, 0), (86, 87, 9, 2, 0, 0), (87, 89, 2, 5, 0, 0), (89, 91, 2, 6, 0, 0), (91, 94, 39, 226, 0, 0), (94, 95, 9, 0, 0, 0), (95, 96, 0, 0, 0, 0), (96, 97, 31, 0, 0, 0), (97, 99, 2, 4, 0, 0), (99, 100, 5, 3, 0, 0), (100, 103, 22, 0, 4, 0), (103, 104, 0, 0, 0, 1), (104, 105, 42, 0, 0, 0)])
def M261 : Mth := (261, 10, 2, 2, 2, [(0, 1, 2, 1, 0, 0), (1, 4, 18, 2, 29, 0), (4, 5, 4, 0, 0, 0), (5, 8, 49, 10, 6, 0), (8, 10, 0, 0, 0, 25), (10, 11, 2, 1, 0, 0), (11, 12, 9, 0, 0, 0), (12, 13, 27, 0, 0, 0), (13, 16, 18, 1, 29, 0), (16, 17, 4, 0, 0, 0), (17, 20, 49, 10, 41, 0), (20, 21, 2, 1, 0, 0), (21, 22, 29, 0, 0, 0), (22, 25, 18, 1, 29, 0), (25, 26, 0, 0, 0, 1), (26, 29, 22, 0, 30, 0), (29, 30, 0, 0, 0, 0), (30, 31, 42, 0, 0, 0)])
def M262 : Mth := (262, 10, 2, 1, 2, [(0, 1, 4, 0, 0, 0), (1, 2, 0, 0, 0, 0), (2, 5, 25, 10, 0, 0), (5, 6, 2, 1, 0, 0), (6, 7, 0, 0, 0, 0), (7, 8, 4, 0, 0, 0), (8, 11, 24, 10, 42, 0), (11, 12, 0, 0, 0, 1), (12, 13, 9, 1, 0, 0), (13, 16, 39, 199, 0, 0), (16, 19, 18, 0, 28, 0), (19, 20, 4, 0, 0, 0), (20, 23, 49, 10, 40, 0), (23, 24, 2, 1, 0, 0), (24, 25, 27, 0, 0, 0), (25, 28, 22, 0, 29, 0), (28, 29, 0, 0, 0, -1), (29, 30, 42, 0, 0, 0)])
def M263 : Mth := (263, 10, 1, 1, 5, [(0, 1, 4, 0, 0, 0), (1, 2, 0, 0, 0, 0), (2, 5, 25, 10, 0, 0), (5, 6, 0, 0, 0, -1), (6, 7, 5, 1, 0, 0), (7, 8, 0, 0, 0, 0), (8, 9, 5, 2, 0, 0), (9, 10, 0, 0, 0, 0), (10, 11, 5, 3, 0, 0), (11, 12, 2, 3, 0, 0), (12, 15, 0, 0, 0, 144), (15, 18, 19, 3, 48, 0), (18, 19, 4, 0, 0, 0), (19, 20, 2, 3, 0, 0), (20, 23, 39, 264, 0, 0), (23, 26, 39, 265, 0, 0), (26, 28, 5, 4, 0, 0), (28, 30, 2, 4, 0, 0), (30, 31, 2, 2, 0, 0), (31, 34, 19, 4, 37, 0), (34, 37, 22, 0, 42, 0), (37, 39, 2, 4, 0, 0), (39, 40, 5, 2, 0, 0), (40, 41, 2, 3, 0, 0), (41, 42, 5, 1, 0, 0), (42, 45, 8, 3, 0, 1), (45, 48, 22, 0, 11, 0), (48, 49, 2, 1, 0, 0), (49, 50, 42, 0, 0, 0)])
def M264 : Mth := (264, 10, 2, 1, 5, [(0, 1, 0, 0, 0, 0), (1, 2, 5, 2, 0, 0), (2, 3, 0, 0, 0, 0), (3, 4, 5, 3, 0, 0), (4, 5, 2, 3, 0, 0), (5, 6, 4, 0, 0, 0), (6, 9, 49, 10, 6, 0), (9, 10, 0, 0, 0, 3), (10, 11, 27, 0, 0, 0), (11, 14, 19, 3, 70, 0), (14, 15, 0, 0, 0, 0), (15, 17, 5, 4, 0, 0), (17, 19, 2, 4, 0, 0), (19, 20, 4, 0, 0, 0), (20, 23, 49, 10, 6, 0), (23, 26, 0, 0, 0, 177), (26, 27, 2, 3, 0, 0), (27, 28, 9, 0, 0, 0), (28, 29, 27, 0, 0, 0), (29, 32, 19, 3, 64, 0), (32, 33, 4, 0, 0, 0), (33, 36, 49, 10, 6, 0), (36, 39, 0, 0, 0, 183), (39, 41, 0, 0, 0, 41), (41, 42, 2, 3, 0, 0), (42, 43, 9, 2, 0, 0), (43, 44, 9, 0, 0, 0), (44, 46, 2, 4, 0, 0), (46, 47, 9, 0, 0, 0), (47, 48, 27, 0, 0, 0), (48, 49, 2, 1, 0, 0), (49, 52, 19, 1, 58, 0), (52, 53, 2, 2, 0, 0), (53, 54, 0, 0, 0, 1), (54, 55, 2, 3, 0, 0), (55, 56, 9, 8, 0, 0), (56, 57, 9, 6, 0, 0), (57, 58, 5, 2, 0, 0), (58, 61, 8, 4, 0, 1), (61, 64, 22, 0, 17, 0), (64, 67, 8, 3, 0, 1), (67, 70, 22, 0, 4, 0), (70, 71, 2, 2, 0, 0), (71, 72, 42, 0, 0, 0)])
def M265 : Mth := (265, 10, 1, 1, 3, [(0, 1, 0, 0, 0, 0), (1, 2, 5, 1, 0, 0), (2, 3, 2, 0, 0, 0), (3, 4, 5, 2, 0, 0), (4, 5, 2, 2, 0, 0), (5, 8, 18, 0, 20, 0), (8, 11, 8, 1, 0, 1), (11, 12, 2, 2, 0, 0), (12, 13, 2, 2, 0, 0), (13, 14, 0, 0, 0, 1), (14, 15, 9, 1, 0, 0), (15, 16, 9, 5, 0, 0), (16, 17, 5, 2, 0, 0), (17, 20, 22, 0, 4, 0), (20, 21, 2, 1, 0, 0), (21, 22, 42, 0, 0, 0)])
def M266 : Mth := (266, 10, 2, 1, 2, [(0, 1, 4, 0, 0, 0), (1, 2, 0, 0, 0, 0), (2, 5, 25, 10, 0, 0), (5, 6, 4, 0, 0, 0), (6, 7, 2, 1, 0, 0), (7, 10, 39, 216, 0, 0), (10, 13, 18, 0, 21, 0), (13, 14, 4, 0, 0, 0), (14, 15, 2, 1, 0, 0), (15, 18, 39, 264, 0, 0), (18, 21, 22, 0, 22, 0), (21, 22, 0, 0, 0, -1), (22, 23, 42, 0, 0, 0)])
def M267 : Mth := (267, 10, 3, 1, 5, [(0, 1, 4, 0, 0, 0), (1, 2, 0, 0, 0, 0), (2, 5, 25, 10, 0, 0), (5, 6, 4, 0, 0, 0), (6, 7, 2, 1, 0, 0), (7, 10, 39, 221, 0, 0), (10, 13, 18, 0, 21, 0), (13, 14, 4, 0, 0, 0), (14, 15, 2, 2, 0, 0), (15, 18, 39, 221, 0, 0), (18, 21, 18, 1, 23, 0), (21, 22, 0, 0, 0, -1), (22, 23, 42, 0, 0, 0), (23, 24, 0, 0, 0, 0), (24, 25, 5, 3, 0, 0), (25, 26, 0, 0, 0, 0), (26, 28, 5, 4, 0, 0), (28, 30, 2, 4, 0, 0), (30, 33, 0, 0, 0, 144), (33, 36, 19, 3, 76, 0), (36, 37, 2, 3, 0, 0), (37, 38, 4, 0, 0, 0), (38, 40, 2, 4, 0, 0), (40, 43, 39, 264, 0, 0), (43, 44, 2, 1, 0, 0), (44, 47, 39, 268, 0, 0), (47, 50, 18, 0, 67, 0), (50, 51, 4, 0, 0, 0), (51, 53, 2, 4, 0, 0), (53, 56, 39, 264, 0, 0), (56, 57, 2, 2, 0, 0), (57, 60, 39, 268, 0, 0), (60, 63, 18, 0, 67, 0), (63, 64, 0, 0, 0, 1), (64, 67, 22, 0, 68, 0), (67, 68, 0, 0, 0, 0), (68, 69, 9, 0, 0, 0), (69, 70, 5, 3, 0, 0), (70, 73, 8, 4, 0, 1), (73, 76, 22, 0, 28, 0), (76, 77, 2, 3, 0, 0), (77, 78, 42, 0, 0, 0)])
def M268 : Mth := (268, 10, 2, 2, 2, [(0, 1, 2, 0, 0, 0), (1, 2, 2, 1, 0, 0), (2, 3, 9, 9, 0, 0), (3, 4, 0, 0, 0, 1), (4, 5, 9, 5, 0, 0), (5, 6, 0, 0, 0, 1), (6, 9, 19, 1, 13, 0), (9, 10, 0, 0, 0, 1), (10, 13, 22, 0, 14, 0), (13, 14, 0, 0, 0, 0), (14, 15, 42, 0, 0, 0)])
def M269 : Mth := (269, 10, 4, 1, 8, [(0, 1, 4, 0, 0, 0), (1, 2, 0, 0, 0, 0), (2, 5, 25, 10, 0, 0), (5, 6, 2, 1, 0, 0), (6, 7, 0, 0, 0, 1), (7, 9, 0, 0, 0, 60), (9, 12, 39, 199, 0, 0), (12, 15, 18, 0, 59, 0), (15, 16, 2, 2, 0, 0), (16, 17, 0, 0, 0, 1), (17, 19, 0, 0, 0, 9), (19, 22, 39, 199, 0, 0), (22, 25, 18, 0, 59, 0), (25, 26, 4, 0, 0, 0), (26, 29, 49, 10, 6, 0), (29, 30, 0, 0, 0, 2), (30, 31, 27, 0, 0, 0), (31, 34, 18, 0, 59, 0), (34, 35, 4, 0, 0, 0), (35, 38, 49, 10, 6, 0), (38, 39, 0, 0, 0, 3), (39, 40, 27, 0, 0, 0), (40, 43, 18, 0, 59, 0), (43, 44, 4, 0, 0, 0), (44, 47, 49, 10, 6, 0), (47, 50, 0, 0, 0, 429), (50, 51, 27, 0, 0, 0), (51, 52, 2, 1, 0, 0), (52, 53, 9, 0, 0, 0), (53, 56, 0, 0, 0, 999), (56, 59, 19, 5, 61, 0), (59, 60, 0, 0, 0, -1), (60, 61, 42, 0, 0, 0), (61, 62, 4, 0, 0, 0), (62, 65, 39, 224, 0, 0), (65, 66, 4, 0, 0, 0), (66, 67, 2, 3, 0, 0), (67, 70, 25, 10, 44, 0), (70, 71, 0, 0, 0, 0), (71, 73, 5, 4, 0, 0), (73, 75, 2, 4, 0, 0), (75, 76, 2, 1, 0, 0), (76, 79, 19, 3, 192, 0), (79, 80, 0, 0, 0, 0), (80, 82, 5, 5, 0, 0), (82, 84, 2, 5, 0, 0), (84, 85, 2, 2, 0, 0), (85, 88, 19, 3, 136, 0), (88, 89, 4, 0, 0, 0), (89, 90, 4, 0, 0, 0), (90, 93, 49, 10, 6, 0), (93, 94, 0, 0, 0, 2), (94, 95, 27, 0, 0, 0), (95, 98, 39, 270, 0, 0), (98, 100, 5, 6, 0, 0), (100, 101, 4, 0, 0, 0), (101, 102, 4, 0, 0, 0), (102, 105, 49, 10, 6, 0), (105, 106, 0, 0, 0, 3), (106, 107, 27, 0, 0, 0), (107, 110, 39, 270, 0, 0), (110, 112, 5, 7, 0, 0), (112, 113, 4, 0, 0, 0), (113, 115, 2, 6, 0, 0), (115, 117, 2, 7, 0, 0), (117, 118, 4, 0, 0, 0), (118, 121, 49, 10, 6, 0), (121, 123, 0, 0, 0, 13), (123, 125, 2, 6, 0, 0), (125, 126, 9, 0, 0, 0), (126, 127, 27, 0, 0, 0), (127, 130, 39, 225, 0, 0), (130, 133, 8, 5, 0, 1), (133, 136, 22, 0, 82, 0), (136, 137, 4, 0, 0, 0), (137, 139, 0, 0, 0, 6), (139, 142, 39, 270, 0, 0), (142, 145, 18, 1, 182, 0), (145, 146, 4, 0, 0, 0), (146, 147, 4, 0, 0, 0), (147, 150, 49, 10, 6, 0), (150, 151, 0, 0, 0, 0), (151, 152, 27, 0, 0, 0), (152, 155, 39, 270, 0, 0), (155, 157, 5, 5, 0, 0), (157, 158, 4, 0, 0, 0), (158, 159, 4, 0, 0, 0), (159, 162, 49, 10, 6, 0), (162, 163, 0, 0, 0, 1), (163, 164, 27, 0, 0, 0), (164, 167, 39, 270, 0, 0), (167, 169, 5, 6, 0, 0), (169, 170, 4, 0, 0, 0), (170, 172, 0, 0, 0, 12), (172, 174, 2, 6, 0, 0), (174, 175, 9, 2, 0, 0), (175, 177, 2, 5, 0, 0), (177, 178, 9, 0, 0, 0), (178, 181, 39, 232, 0, 0), (181, 182, 16, 0, 0, 0), (182, 183, 4, 0, 0, 0), (183, 186, 39, 228, 0, 0), (186, 189, 8, 4, 0, 1), (189, 192, 22, 0, 73, 0), (192, 193, 4, 0, 0, 0), (193, 196, 49, 10, 6, 0), (196, 199, 0, 0, 0, 429), (199, 200, 27, 0, 0, 0), (200, 201, 42, 0, 0, 0)])
def M270 : Mth := (270, 10, 2, 1, 2, [(0, 1, 4, 0, 0, 0), (1, 2, 4, 0, 0, 0), (2, 5, 24, 10, 44, 0), (5, 8, 0, 0, 0, 1103515245), (8, 9, 9, 2, 0, 0), (9, 12, 0, 0, 0, 12345), (12, 13, 9, 0, 0, 0), (13, 16, 25, 10, 44, 0), (16, 17, 4, 0, 0, 0), (17, 20, 24, 10, 44, 0), (20, 22, 0, 0, 0, 8), (22, 23, 9, 10, 0, 0), (23, 24, 2, 1, 0, 0), (24, 25, 9, 4, 0, 0), (25, 26, 42, 0, 0, 0)])
def M271 : Mth := (271, 10, 1, 1, 3, [(0, 1, 4, 0, 0, 0), (1, 2, 0, 0, 0, 0), (2, 5, 25, 10, 0, 0), (5, 6, 0, 0, 0, -1), (6, 7, 5, 1, 0, 0), (7, 8, 0, 0, 0, 0), (8, 9, 5, 2, 0, 0), (9, 10, 2, 2, 0, 0), (10, 11, 4, 0, 0, 0), (11, 14, 49, 10, 6, 0), (14, 15, 0, 0, 0, 2), (15, 16, 27, 0, 0, 0), (16, 19, 19, 3, 54, 0), (19, 20, 2, 1, 0, 0), (20, 23, 18, 2, 46, 0), (23, 24, 4, 0, 0, 0), (24, 27, 49, 10, 6, 0), (27, 30, 0, 0, 0, 430), (30, 31, 2, 2, 0, 0), (31, 32, 9, 0, 0, 0), (32, 33, 27, 0, 0, 0), (33, 34, 4, 0, 0, 0), (34, 37, 49, 10, 6, 0), (37, 40, 0, 0, 0, 430), (40, 41, 2, 1, 0, 0), (41, 42, 9, 0, 0, 0), (42, 43, 27, 0, 0, 0), (43, 46, 19, 3, 48, 0), (46, 47, 2, 2, 0, 0), (47, 48, 5, 1, 0, 0), (48, 51, 8, 2, 0, 1), (51, 54, 22, 0, 9, 0), (54, 55, 2, 1, 0, 0), (55, 56, 42, 0, 0, 0)])
def M272 : Mth := (272, 10, 1, 1, 3, [(0, 1, 4, 0, 0, 0), (1, 2, 0, 0, 0, 0), (2, 5, 25, 10, 0, 0), (5, 6, 4, 0, 0, 0), (6, 9, 0, 0, 0, 200), (9, 12, 39, 190, 0, 0), (12, 13, 4, 0, 0, 0), (13, 14, 0, 0, 0, 0), (14, 17, 25, 10, 15, 0), (17, 18, 4, 0, 0, 0), (18, 19, 0, 0, 0, 0), (19, 22, 25, 10, 46, 0), (22, 23, 4, 0, 0, 0), (23, 24, 0, 0, 0, 0), (24, 27, 25, 10, 47, 0), (27, 28, 4, 0, 0, 0), (28, 29, 0, 0, 0, 0), (29, 32, 25, 10, 48, 0), (32, 33, 4, 0, 0, 0), (33, 34, 0, 0, 0, 1), (34, 37, 25, 10, 49, 0), (37, 38, 4, 0, 0, 0), (38, 39, 0, 0, 0, 0), (39, 42, 52, 10, 50, 0), (42, 43, 4, 0, 0, 0), (43, 46, 39, 191, 0, 0), (46, 47, 0, 0, 0, 1), (47, 48, 5, 1, 0, 0), (48, 49, 2, 1, 0, 0), (49, 52, 18, 0, 132, 0), (52, 53, 4, 0, 0, 0), (53, 56, 24, 10, 50, 0), (56, 59, 18, 0, 101, 0), (59, 60, 4, 0, 0, 0), (60, 63, 24, 10, 11, 0), (63, 66, 18, 1, 101, 0), (66, 67, 4, 0, 0, 0), (67, 70, 39, 273, 0, 0), (70, 71, 4, 0, 0, 0), (71, 73, 0, 0, 0, 12), (73, 76, 39, 275, 0, 0), (76, 77, 4, 0, 0, 0), (77, 80, 24, 10, 48, 0), (80, 83, 18, 5, 96, 0), (83, 84, 4, 0, 0, 0), (84, 85, 0, 0, 0, 1), (85, 88, 39, 197, 0, 0), (88, 89, 16, 0, 0, 0), (89, 90, 0, 0, 0, -1), (90, 91, 4, 0, 0, 0), (91, 94, 24, 10, 16, 0), (94, 95, 9, 1, 0, 0), (95, 96, 42, 0, 0, 0), (96, 97, 0, 0, 0, 0), (97, 98, 5, 1, 0, 0), (98, 101, 22, 0, 48, 0), (101, 102, 4, 0, 0, 0), (102, 105, 24, 10, 50, 0), (105, 108, 18, 0, 118, 0), (108, 109, 4, 0, 0, 0), (109, 112, 39, 276, 0, 0), (112, 115, 18, 1, 48, 0), (115, 118, 22, 0, 125, 0), (118, 119, 4, 0, 0, 0), (119, 122, 39, 277, 0, 0), (122, 125, 18, 1, 48, 0), (125, 126, 0, 0, 0, -1), (126, 127, 4, 0, 0, 0), (127, 130, 24, 10, 16, 0), (130, 131, 9, 1, 0, 0), (131, 132, 42, 0, 0, 0), (132, 133, 4, 0, 0, 0), (133, 136, 49, 10, 6, 0), (136, 139, 0, 0, 0, 10084), (139, 140, 4, 0, 0, 0), (140, 143, 24, 10, 46, 0), (143, 144, 31, 0, 0, 0), (144, 145, 0, 0, 0, 0), (145, 146, 5, 2, 0, 0), (146, 147, 2, 2, 0, 0), (147, 148, 0, 0, 0, 3), (148, 149, 4, 0, 0, 0), (149, 152, 24, 10, 46, 0), (152, 153, 9, 2, 0, 0), (153, 156, 19, 3, 178, 0), (156, 157, 4, 0, 0, 0), (157, 160, 49, 10, 6, 0), (160, 163, 0, 0, 0, 10085), (163, 164, 2, 2, 0, 0), (164, 165, 9, 0, 0, 0), (165, 166, 4, 0, 0, 0), (166, 169, 49, 10, 8, 0), (169, 170, 2, 2, 0, 0), (170, 171, 27, 0, 0, 0), (171, 172, 31, 0, 0, 0), (172, 175, 8, 2, 0, 1), (175, 178, 22, 0, 146, 0), (178, 179, 4, 0, 0, 0), (179, 182, 24, 10, 47, 0), (182, 183, 42, 0, 0, 0)])
def M273 : Mth := (273, 10, 1, 0, 1, [(0, 1, 4, 0, 0, 0), (1, 4, 24, 10, 48, 0), (4, 7, 18, 5, 54, 0), (7, 8, 4, 0, 0, 0), (8, 11, 49, 10, 45, 0), (11, 12, 4, 0, 0, 0), (12, 15, 24, 10, 48, 0), (15, 16, 0, 0, 0, 1), (16, 17, 9, 1, 0, 0), (17, 18, 27, 0, 0, 0), (18, 20, 0, 0, 0, 10), (20, 23, 19, 1, 54, 0), (23, 24, 4, 0, 0, 0), (24, 25, 15, 0, 0, 0), (25, 28, 24, 10, 48, 0), (28, 29, 0, 0, 0, 1), (29, 30, 9, 1, 0, 0), (30, 33, 25, 10, 48, 0), (33, 34, 4, 0, 0, 0), (34, 35, 15, 0, 0, 0), (35, 38, 24, 10, 49, 0), (38, 39, 0, 0, 0, 1), (39, 40, 9, 1, 0, 0), (40, 43, 25, 10, 49, 0), (43, 44, 4, 0, 0, 0), (44, 46, 0, 0, 0, 10), (46, 47, 0, 0, 0, 0), (47, 48, 0, 0, 0, 0), (48, 51, 39, 274, 0, 0), (51, 54, 22, 0, 0, 0), (54, 55, 41, 0, 0, 0)])
def M274 : Mth := (274, 10, 4, 0, 4, [(0, 1, 4, 0, 0, 0), (1, 4, 49, 10, 8, 0), (4, 5, 0, 0, 0, 3), (5, 6, 4, 0, 0, 0), (6, 9, 24, 10, 46, 0), (9, 10, 9, 2, 0, 0), (10, 11, 2, 1, 0, 0), (11, 12, 31, 0, 0, 0), (12, 13, 4, 0, 0, 0), (13, 16, 49, 10, 8, 0), (16, 17, 0, 0, 0, 3), (17, 18, 4, 0, 0, 0), (18, 21, 24, 10, 46, 0), (21, 22, 9, 2, 0, 0), (22, 23, 0, 0, 0, 1), (23, 24, 9, 0, 0, 0), (24, 25, 2, 2, 0, 0), (25, 26, 31, 0, 0, 0), (26, 27, 4, 0, 0, 0), (27, 30, 49, 10, 8, 0), (30, 31, 0, 0, 0, 3), (31, 32, 4, 0, 0, 0), (32, 35, 24, 10, 46, 0), (35, 36, 9, 2, 0, 0), (36, 37, 0, 0, 0, 2), (37, 38, 9, 0, 0, 0), (38, 39, 2, 3, 0, 0), (39, 40, 31, 0, 0, 0), (40, 41, 4, 0, 0, 0), (41, 42, 15, 0, 0, 0), (42, 45, 24, 10, 46, 0), (45, 46, 0, 0, 0, 1), (46, 47, 9, 0, 0, 0), (47, 50, 25, 10, 46, 0), (50, 51, 41, 0, 0, 0)])
def M275 : Mth := (275, 10, 2, 0, 2, [(0, 1, 4, 0, 0, 0), (1, 4, 24, 10, 48, 0), (4, 7, 18, 5, 73, 0), (7, 8, 4, 0, 0, 0), (8, 11, 49, 10, 45, 0), (11, 12, 4, 0, 0, 0), (12, 15, 24, 10, 48, 0), (15, 16, 0, 0, 0, 1), (16, 17, 9, 1, 0, 0), (17, 18, 27, 0, 0, 0), (18, 20, 0, 0, 0, 11), (20, 23, 19, 0, 45, 0), (23, 24, 4, 0, 0, 0), (24, 27, 49, 10, 45, 0), (27, 28, 4, 0, 0, 0), (28, 31, 24, 10, 48, 0), (31, 32, 0, 0, 0, 1), (32, 33, 9, 1, 0, 0), (33, 34, 27, 0, 0, 0), (34, 36, 0, 0, 0, 12), (36, 39, 19, 1, 73, 0), (39, 40, 2, 1, 0, 0), (40, 42, 0, 0, 0, 12), (42, 45, 19, 1, 73, 0), (45, 46, 4, 0, 0, 0), (46, 47, 15, 0, 0, 0), (47, 50, 24, 10, 48, 0), (50, 51, 0, 0, 0, 1), (51, 52, 9, 1, 0, 0), (52, 55, 25, 10, 48, 0), (55, 56, 4, 0, 0, 0), (56, 57, 4, 0, 0, 0), (57, 60, 49, 10, 45, 0), (60, 61, 4, 0, 0, 0), (61, 64, 24, 10, 48, 0), (64, 65, 27, 0, 0, 0), (65, 66, 0, 0, 0, 0), (66, 67, 0, 0, 0, 0), (67, 70, 39, 274, 0, 0), (70, 73, 22, 0, 0, 0), (73, 74, 41, 0, 0, 0)])
def M276 : Mth := (276, 10, 1, 2, 1, [(0, 1, 4, 0, 0, 0), (1, 4, 39, 273, 0, 0), (4, 5, 4, 0, 0, 0), (5, 8, 1, 15, 0, 0), (8, 11, 39, 196, 0, 0), (11, 14, 18, 1, 24, 0), (14, 15, 4, 0, 0, 0), (15, 18, 1, 14, 0, 0), (18, 21, 39, 196, 0, 0), (21, 24, 18, 0, 92, 0), (24, 25, 4, 0, 0, 0), (25, 26, 4, 0, 0, 0), (26, 29, 1, 15, 0, 0), (29, 32, 39, 196, 0, 0), (32, 35, 18, 0, 40, 0), (35, 37, 0, 0, 0, 11), (37, 40, 22, 0, 42, 0), (40, 42, 0, 0, 0, 12), (42, 45, 39, 275, 0, 0), (45, 46, 4, 0, 0, 0), (46, 49, 49, 10, 45, 0), (49, 50, 4, 0, 0, 0), (50, 53, 24, 10, 48, 0), (53, 54, 4, 0, 0, 0), (54, 57, 1, 15, 0, 0), (57, 60, 39, 196, 0, 0), (60, 63, 18, 0, 68, 0), (63, 65, 0, 0, 0, 11), (65, 68, 22, 0, 70, 0), (68, 70, 0, 0, 0, 12), (70, 71, 31, 0, 0, 0), (71, 72, 4, 0, 0, 0), (72, 73, 15, 0, 0, 0), (73, 76, 24, 10, 48, 0), (76, 77, 0, 0, 0, 1), (77, 78, 9, 0, 0, 0), (78, 81, 25, 10, 48, 0), (81, 82, 4, 0, 0, 0), (82, 83, 0, 0, 0, 0), (83, 86, 52, 10, 50, 0), (86, 87, 4, 0, 0, 0), (87, 90, 39, 191, 0, 0), (90, 91, 0, 0, 0, 1), (91, 92, 42, 0, 0, 0), (92, 93, 4, 0, 0, 0), (93, 95, 0, 0, 0, 12), (95, 98, 39, 275, 0, 0), (98, 99, 4, 0, 0, 0), (99, 101, 0, 0, 0, 41), (101, 104, 39, 205, 0, 0), (104, 107, 18, 0, 114, 0), (107, 108, 4, 0, 0, 0), (108, 111, 24, 10, 48, 0), (111, 114, 18, 1, 120, 0), (114, 115, 4, 0, 0, 0), (115, 116, 0, 0, 0, 1), (116, 119, 39, 197, 0, 0), (119, 120, 42, 0, 0, 0), (120, 121, 4, 0, 0, 0), (121, 122, 15, 0, 0, 0), (122, 125, 24, 10, 48, 0), (125, 126, 0, 0, 0, 1), (126, 127, 9, 1, 0, 0), (127, 130, 25, 10, 48, 0), (130, 131, 4, 0, 0, 0), (131, 132, 15, 0, 0, 0), (132, 135, 24, 10, 49, 0), (135, 136, 0, 0, 0, 1), (136, 137, 9, 1, 0, 0), (137, 140, 25, 10, 49, 0), (140, 141, 4, 0, 0, 0), (141, 144, 39, 191, 0, 0), (144, 145, 0, 0, 0, 1), (145, 146, 42, 0, 0, 0)])
def M277 : Mth := (277, 10, 1, 2, 5, [(0, 1, 4, 0, 0, 0), (1, 4, 1, 16, 0, 0), (4, 7, 39, 196, 0, 0), (7, 8, 5, 1, 0, 0), (8, 9, 4, 0, 0, 0), (9, 11, 0, 0, 0, 40), (11, 14, 39, 205, 0, 0), (14, 15, 5, 2, 0, 0), (15, 16, 4, 0, 0, 0), (16, 19, 39, 278, 0, 0), (19, 20, 5, 3, 0, 0), (20, 21, 2, 1, 0, 0), (21, 24, 18, 1, 38, 0), (24, 25, 2, 2, 0, 0), (25, 28, 18, 1, 38, 0), (28, 29, 2, 3, 0, 0), (29, 32, 18, 3, 38, 0), (32, 33, 4, 0, 0, 0), (33, 34, 0, 0, 0, 1), (34, 37, 39, 197, 0, 0), (37, 38, 42, 0, 0, 0), (38, 39, 4, 0, 0, 0), (39, 42, 24, 10, 47, 0), (42, 44, 0, 0, 0, 20), (44, 47, 19, 0, 56, 0), (47, 48, 4, 0, 0, 0), (48, 51, 24, 10, 49, 0), (51, 53, 0, 0, 0, 8), (53, 56, 19, 5, 62, 0), (56, 57, 4, 0, 0, 0), (57, 58, 0, 0, 0, 4), (58, 61, 39, 197, 0, 0), (61, 62, 42, 0, 0, 0), (62, 63, 4, 0, 0, 0), (63, 64, 15, 0, 0, 0), (64, 67, 24, 10, 47, 0), (67, 68, 0, 0, 0, 1), (68, 69, 9, 0, 0, 0), (69, 72, 25, 10, 47, 0), (72, 73, 4, 0, 0, 0), (73, 76, 39, 191, 0, 0), (76, 77, 2, 1, 0, 0), (77, 80, 18, 1, 84, 0), (80, 81, 2, 2, 0, 0), (81, 84, 18, 0, 126, 0), (84, 85, 4, 0, 0, 0), (85, 88, 49, 10, 45, 0), (88, 89, 4, 0, 0, 0), (89, 92, 24, 10, 48, 0), (92, 93, 2, 1, 0, 0), (93, 96, 18, 0, 101, 0), (96, 98, 0, 0, 0, 10), (98, 101, 22, 0, 103, 0), (101, 103, 0, 0, 0, 13), (103, 104, 31, 0, 0, 0), (104, 105, 4, 0, 0, 0), (105, 106, 15, 0, 0, 0), (106, 109, 24, 10, 48, 0), (109, 110, 0, 0, 0, 1), (110, 111, 9, 0, 0, 0), (111, 114, 25, 10, 48, 0), (114, 115, 4, 0, 0, 0), (115, 116, 15, 0, 0, 0), (116, 119, 24, 10, 49, 0), (119, 120, 0, 0, 0, 1), (120, 121, 9, 0, 0, 0), (121, 124, 25, 10, 49, 0), (124, 125, 0, 0, 0, 1), (125, 126, 42, 0, 0, 0), (126, 127, 4, 0, 0, 0), (127, 128, 0, 0, 0, 1), (128, 131, 52, 10, 50, 0), (131, 132, 2, 3, 0, 0), (132, 135, 18, 1, 187, 0), (135, 136, 4, 0, 0, 0), (136, 139, 39, 201, 0, 0), (139, 142, 18, 1, 148, 0), (142, 143, 4, 0, 0, 0), (143, 144, 0, 0, 0, 1), (144, 147, 39, 197, 0, 0), (147, 148, 42, 0, 0, 0), (148, 149, 4, 0, 0, 0), (149, 151, 0, 0, 0, 6), (151, 152, 4, 0, 0, 0), (152, 155, 49, 10, 6, 0), (155, 156, 0, 0, 0, 3), (156, 157, 27, 0, 0, 0), (157, 160, 39, 202, 0, 0), (160, 162, 5, 4, 0, 0), (162, 164, 2, 4, 0, 0), (164, 167, 18, 3, 173, 0), (167, 168, 4, 0, 0, 0), (168, 169, 0, 0, 0, 3), (169, 172, 39, 197, 0, 0), (172, 173, 42, 0, 0, 0), (173, 174, 4, 0, 0, 0), (174, 175, 2, 3, 0, 0), (175, 176, 0, 0, 0, 0), (176, 178, 2, 4, 0, 0), (178, 181, 39, 274, 0, 0), (181, 182, 4, 0, 0, 0), (182, 185, 39, 191, 0, 0), (185, 186, 0, 0, 0, 1), (186, 187, 42, 0, 0, 0), (187, 188, 4, 0, 0, 0), (188, 191, 24, 10, 11, 0), (191, 192, 0, 0, 0, 3), (192, 195, 19, 1, 213, 0), (195, 196, 4, 0, 0, 0), (196, 199, 24, 10, 14, 0), (199, 201, 0, 0, 0, 60), (201, 204, 19, 2, 213, 0), (204, 205, 4, 0, 0, 0), (205, 208, 24, 10, 14, 0), (208, 210, 0, 0, 0, 62), (210, 213, 19, 5, 219, 0), (213, 214, 4, 0, 0, 0), (214, 215, 0, 0, 0, 1), (215, 218, 39, 197, 0, 0), (218, 219, 42, 0, 0, 0), (219, 220, 4, 0, 0, 0), (220, 223, 24, 10, 14, 0), (223, 225, 5, 4, 0, 0), (225, 226, 4, 0, 0, 0), (226, 229, 39, 191, 0, 0), (229, 230, 4, 0, 0, 0), (230, 233, 24, 10, 11, 0), (233, 234, 0, 0, 0, 2), (234, 237, 19, 0, 243, 0), (237, 238, 4, 0, 0, 0), (238, 239, 0, 0, 0, 1), (239, 242, 39, 197, 0, 0), (242, 243, 42, 0, 0, 0), (243, 244, 4, 0, 0, 0), (244, 245, 2, 3, 0, 0), (245, 247, 2, 4, 0, 0), (247, 248, 4, 0, 0, 0), (248, 251, 24, 10, 14, 0), (251, 254, 39, 274, 0, 0), (254, 255, 4, 0, 0, 0), (255, 258, 39, 191, 0, 0), (258, 259, 0, 0, 0, 1), (259, 260, 42, 0, 0, 0)])
def M278 : Mth := (278, 10, 1, 1, 1, [(0, 1, 4, 0, 0, 0), (1, 4, 1, 17, 0, 0), (4, 7, 39, 196, 0, 0), (7, 10, 18, 0, 14, 0), (10, 11, 0, 0, 0, 0), (11, 14, 22, 0, 100, 0), (14, 15, 4, 0, 0, 0), (15, 18, 1, 18, 0, 0), (18, 21, 39, 196, 0, 0), (21, 24, 18, 0, 28, 0), (24, 25, 0, 0, 0, 1), (25, 28, 22, 0, 100, 0), (28, 29, 4, 0, 0, 0), (29, 32, 1, 19, 0, 0), (32, 35, 39, 196, 0, 0), (35, 38, 18, 0, 42, 0), (38, 39, 0, 0, 0, 2), (39, 42, 22, 0, 100, 0), (42, 43, 4, 0, 0, 0), (43, 46, 1, 20, 0, 0), (46, 49, 39, 196, 0, 0), (49, 52, 18, 0, 56, 0), (52, 53, 0, 0, 0, 3), (53, 56, 22, 0, 100, 0), (56, 57, 4, 0, 0, 0), (57, 60, 1, 21, 0, 0), (60, 63, 39, 196, 0, 0), (63, 66, 18, 0, 70, 0), (66, 67, 0, 0, 0, 4), (67, 70, 22, 0, 100, 0), (70, 71, 4, 0, 0, 0), (71, 74, 1, 22, 0, 0), (74, 77, 39, 196, 0, 0), (77, 80, 18, 0, 84, 0), (80, 81, 0, 0, 0, 5), (81, 84, 22, 0, 100, 0), (84, 85, 4, 0, 0, 0), (85, 88, 1, 23, 0, 0), (88, 91, 39, 196, 0, 0), (91, 94, 18, 0, 99, 0), (94, 96, 0, 0, 0, 6), (96, 99, 22, 0, 100, 0), (99, 100, 0, 0, 0, -1), (100, 101, 42, 0, 0, 0)])
def M279 : Mth := (279, 10, 2, 1, 4, [(0, 1, 4, 0, 0, 0), (1, 2, 0, 0, 0, 0), (2, 5, 25, 10, 0, 0), (5, 6, 4, 0, 0, 0), (6, 9, 49, 10, 6, 0), (9, 12, 0, 0, 0, 10084), (12, 13, 27, 0, 0, 0), (13, 16, 18, 0, 21, 0), (16, 17, 2, 1, 0, 0), (17, 18, 0, 0, 0, -1), (18, 21, 19, 3, 23, 0), (21, 22, 0, 0, 0, -1), (22, 23, 42, 0, 0, 0), (23, 24, 0, 0, 0, 0), (24, 25, 5, 2, 0, 0), (25, 26, 0, 0, 0, 0), (26, 27, 5, 3, 0, 0), (27, 28, 2, 3, 0, 0), (28, 29, 4, 0, 0, 0), (29, 32, 49, 10, 6, 0), (32, 33, 0, 0, 0, 2), (33, 34, 27, 0, 0, 0), (34, 37, 19, 3, 64, 0), (37, 38, 4, 0, 0, 0), (38, 39, 2, 3, 0, 0), (39, 42, 39, 280, 0, 0), (42, 45, 18, 1, 48, 0), (45, 48, 22, 0, 58, 0), (48, 49, 2, 2, 0, 0), (49, 50, 2, 1, 0, 0), (50, 53, 19, 1, 55, 0), (53, 54, 2, 3, 0, 0), (54, 55, 42, 0, 0, 0), (55, 58, 8, 2, 0, 1), (58, 61, 8, 3, 0, 1), (61, 64, 22, 0, 27, 0), (64, 65, 2, 1, 0, 0), (65, 66, 0, 0, 0, -1), (66, 69, 19, 1, 73, 0), (69, 70, 2, 2, 0, 0), (70, 73, 22, 0, 74, 0), (73, 74, 0, 0, 0, -1), (74, 75, 42, 0, 0, 0)])
def M280 : Mth := (280, 10, 2, 2, 5, [(0, 1, 0, 0, 0, 0), (1, 2, 5, 2, 0, 0), (2, 3, 0, 0, 0, 0), (3, 4, 5, 3, 0, 0), (4, 5, 2, 3, 0, 0), (5, 6, 4, 0, 0, 0), (6, 9, 49, 10, 6, 0), (9, 12, 0, 0, 0, 10084), (12, 13, 27, 0, 0, 0), (13, 16, 19, 3, 212, 0), (16, 19, 0, 0, 0, 10085), (19, 20, 0, 0, 0, 3), (20, 21, 2, 3, 0, 0), (21, 22, 9, 2, 0, 0), (22, 23, 9, 0, 0, 0), (23, 25, 5, 4, 0, 0), (25, 26, 4, 0, 0, 0), (26, 29, 49, 10, 6, 0), (29, 31, 2, 4, 0, 0), (31, 32, 27, 0, 0, 0), (32, 34, 0, 0, 0, 10), (34, 37, 19, 1, 64, 0), (37, 38, 4, 0, 0, 0), (38, 41, 49, 10, 51, 0), (41, 42, 2, 2, 0, 0), (42, 43, 0, 0, 0, 1), (43, 44, 9, 1, 0, 0), (44, 45, 4, 0, 0, 0), (45, 48, 49, 10, 51, 0), (48, 49, 2, 2, 0, 0), (49, 50, 0, 0, 0, 1), (50, 51, 9, 1, 0, 0), (51, 52, 29, 0, 0, 0), (52, 55, 18, 1, 59, 0), (55, 56, 0, 0, 0, 1), (56, 59, 22, 0, 60, 0), (59, 60, 0, 0, 0, 0), (60, 61, 33, 0, 0, 0), (61, 64, 22, 0, 206, 0), (64, 65, 4, 0, 0, 0), (65, 68, 49, 10, 6, 0), (68, 70, 2, 4, 0, 0), (70, 71, 27, 0, 0, 0), (71, 73, 0, 0, 0, 11), (73, 76, 19, 0, 88, 0), (76, 77, 4, 0, 0, 0), (77, 80, 49, 10, 6, 0), (80, 82, 2, 4, 0, 0), (82, 83, 27, 0, 0, 0), (83, 85, 0, 0, 0, 12), (85, 88, 19, 1, 167, 0), (88, 91, 8, 2, 0, -1), (91, 92, 4, 0, 0, 0), (92, 95, 49, 10, 51, 0), (95, 96, 2, 2, 0, 0), (96, 97, 0, 0, 0, 1), (97, 98, 9, 1, 0, 0), (98, 99, 4, 0, 0, 0), (99, 102, 49, 10, 6, 0), (102, 104, 2, 4, 0, 0), (104, 105, 27, 0, 0, 0), (105, 107, 0, 0, 0, 11), (107, 110, 19, 1, 138, 0), (110, 111, 4, 0, 0, 0), (111, 114, 49, 10, 51, 0), (114, 115, 2, 2, 0, 0), (115, 116, 0, 0, 0, 1), (116, 117, 9, 1, 0, 0), (117, 118, 29, 0, 0, 0), (118, 121, 18, 0, 134, 0), (121, 122, 4, 0, 0, 0), (122, 125, 49, 10, 51, 0), (125, 126, 2, 2, 0, 0), (126, 127, 29, 0, 0, 0), (127, 130, 18, 0, 134, 0), (130, 131, 0, 0, 0, 1), (131, 134, 22, 0, 163, 0), (134, 135, 0, 0, 0, 0), (135, 138, 22, 0, 163, 0), (138, 139, 4, 0, 0, 0), (139, 142, 49, 10, 51, 0), (142, 143, 2, 2, 0, 0), (143, 144, 0, 0, 0, 1), (144, 145, 9, 1, 0, 0), (145, 146, 29, 0, 0, 0), (146, 149, 18, 1, 158, 0), (149, 150, 4, 0, 0, 0), (150, 153, 49, 10, 51, 0), (153, 154, 2, 2, 0, 0), (154, 155, 29, 0, 0, 0), (155, 158, 18, 0, 162, 0), (158, 159, 0, 0, 0, 1), (159, 162, 22, 0, 163, 0), (162, 163, 0, 0, 0, 0), (163, 164, 33, 0, 0, 0), (164, 167, 22, 0, 206, 0), (167, 168, 4, 0, 0, 0), (168, 171, 49, 10, 51, 0), (171, 172, 2, 2, 0, 0), (172, 173, 4, 0, 0, 0), (173, 174, 2, 1, 0, 0), (174, 175, 4, 0, 0, 0), (175, 178, 49, 10, 6, 0), (178, 180, 2, 4, 0, 0), (180, 181, 27, 0, 0, 0), (181, 182, 4, 0, 0, 0), (182, 185, 49, 10, 6, 0), (185, 187, 2, 4, 0, 0), (187, 188, 0, 0, 0, 1), (188, 189, 9, 0, 0, 0), (189, 190, 27, 0, 0, 0), (190, 191, 4, 0, 0, 0), (191, 194, 49, 10, 6, 0), (194, 196, 2, 4, 0, 0), (196, 197, 0, 0, 0, 2), (197, 198, 9, 0, 0, 0), (198, 199, 27, 0, 0, 0), (199, 202, 39, 281, 0, 0), (202, 203, 33, 0, 0, 0), (203, 206, 8, 2, 0, 1), (206, 209, 8, 3, 0, 1), (209, 212, 22, 0, 4, 0), (212, 213, 4, 0, 0, 0), (213, 216, 49, 10, 51, 0), (216, 217, 0, 0, 0, 0), (217, 218, 29, 0, 0, 0), (218, 219, 42, 0, 0, 0)])
def M281 : Mth := (281, 10, 5, 2, 6, [(0, 1, 2, 2, 0, 0), (1, 4, 18, 1, 12, 0), (4, 5, 4, 0, 0, 0), (5, 6, 2, 1, 0, 0), (6, 8, 2, 4, 0, 0), (8, 11, 39, 282, 0, 0), (11, 12, 42, 0, 0, 0), (12, 13, 2, 2, 0, 0), (13, 15, 0, 0, 0, 6), (15, 18, 19, 1, 22, 0), (18, 19, 2, 1, 0, 0), (19, 22, 22, 0, 30, 0), (22, 23, 4, 0, 0, 0), (23, 24, 2, 1, 0, 0), (24, 25, 2, 2, 0, 0), (25, 26, 0, 0, 0, 1), (26, 27, 9, 1, 0, 0), (27, 30, 39, 210, 0, 0), (30, 32, 5, 5, 0, 0), (32, 33, 2, 3, 0, 0), (33, 35, 0, 0, 0, 60), (35, 38, 19, 1, 53, 0), (38, 40, 2, 5, 0, 0), (40, 42, 2, 4, 0, 0), (42, 45, 19, 3, 49, 0), (45, 46, 0, 0, 0, 1), (46, 49, 22, 0, 86, 0), (49, 50, 0, 0, 0, 0), (50, 53, 22, 0, 86, 0), (53, 54, 2, 3, 0, 0), (54, 56, 0, 0, 0, 61), (56, 59, 19, 1, 74, 0), (59, 61, 2, 5, 0, 0), (61, 63, 2, 4, 0, 0), (63, 66, 19, 1, 70, 0), (66, 67, 0, 0, 0, 1), (67, 70, 22, 0, 86, 0), (70, 71, 0, 0, 0, 0), (71, 74, 22, 0, 86, 0), (74, 76, 2, 5, 0, 0), (76, 78, 2, 4, 0, 0), (78, 81, 19, 5, 85, 0), (81, 82, 0, 0, 0, 1), (82, 85, 22, 0, 86, 0), (85, 86, 0, 0, 0, 0), (86, 87, 42, 0, 0, 0)])
def M282 : Mth := (282, 10, 3, 2, 4, [(0, 1, 0, 0, 0, 0), (1, 2, 5, 3, 0, 0), (2, 3, 2, 3, 0, 0), (3, 4, 4, 0, 0, 0), (4, 7, 49, 10, 6, 0), (7, 10, 0, 0, 0, 177), (10, 11, 2, 2, 0, 0), (11, 12, 9, 0, 0, 0), (12, 13, 27, 0, 0, 0), (13, 16, 19, 3, 47, 0), (16, 17, 4, 0, 0, 0), (17, 18, 4, 0, 0, 0), (18, 21, 49, 10, 6, 0), (21, 24, 0, 0, 0, 183), (24, 26, 0, 0, 0, 41), (26, 27, 2, 2, 0, 0), (27, 28, 9, 2, 0, 0), (28, 29, 9, 0, 0, 0), (29, 30, 2, 3, 0, 0), (30, 31, 9, 0, 0, 0), (31, 32, 27, 0, 0, 0), (32, 33, 2, 1, 0, 0), (33, 36, 39, 213, 0, 0), (36, 39, 18, 5, 41, 0), (39, 40, 0, 0, 0, 1), (40, 41, 42, 0, 0, 0), (41, 44, 8, 3, 0, 1), (44, 47, 22, 0, 2, 0), (47, 48, 0, 0, 0, 0), (48, 49, 42, 0, 0, 0)])
def M283 : Mth := (283, 10, 2, 2, 3, [(0, 1, 4, 0, 0, 0), (1, 2, 0, 0, 0, 0), (2, 5, 25, 10, 0, 0), (5, 6, 2, 1, 0, 0), (6, 7, 0, 0, 0, 0), (7, 8, 0, 0, 0, 1), (8, 11, 39, 199, 0, 0), (11, 14, 18, 1, 16, 0), (14, 15, 0, 0, 0, 0), (15, 16, 42, 0, 0, 0), (16, 17, 0, 0, 0, 0), (17, 18, 5, 2, 0, 0), (18, 19, 2, 2, 0, 0), (19, 22, 0, 0, 0, 10265), (22, 25, 19, 3, 49, 0), (25, 26, 4, 0, 0, 0), (26, 29, 49, 10, 52, 0), (29, 32, 0, 0, 0, 10265), (32, 33, 2, 1, 0, 0), (33, 34, 9, 2, 0, 0), (34, 35, 2, 2, 0, 0), (35, 36, 9, 0, 0, 0), (36, 37, 4, 0, 0, 0), (37, 40, 49, 10, 6, 0), (40, 41, 2, 2, 0, 0), (41, 42, 27, 0, 0, 0), (42, 43, 31, 0, 0, 0), (43, 46, 8, 2, 0, 1), (46, 49, 22, 0, 18, 0), (49, 50, 0, 0, 0, 0), (50, 51, 5, 2, 0, 0), (51, 52, 2, 2, 0, 0), (52, 54, 0, 0, 0, 12), (54, 57, 19, 3, 80, 0), (57, 58, 4, 0, 0, 0), (58, 61, 49, 10, 53, 0), (61, 63, 0, 0, 0, 12), (63, 64, 2, 1, 0, 0), (64, 65, 9, 2, 0, 0), (65, 66, 2, 2, 0, 0), (66, 67, 9, 0, 0, 0), (67, 68, 4, 0, 0, 0), (68, 71, 49, 10, 9, 0), (71, 72, 2, 2, 0, 0), (72, 73, 28, 0, 0, 0), (73, 74, 32, 0, 0, 0), (74, 77, 8, 2, 0, 1), (77, 80, 22, 0, 51, 0), (80, 81, 4, 0, 0, 0), (81, 84, 49, 10, 54, 0), (84, 85, 2, 1, 0, 0), (85, 86, 0, 0, 0, 1), (86, 87, 33, 0, 0, 0), (87, 88, 0, 0, 0, 1), (88, 89, 42, 0, 0, 0)])
def M284 : Mth := (284, 10, 2, 2, 3, [(0, 1, 4, 0, 0, 0), (1, 2, 0, 0, 0, 0), (2, 5, 25, 10, 0, 0), (5, 6, 2, 1, 0, 0), (6, 7, 0, 0, 0, 0), (7, 8, 0, 0, 0, 1), (8, 11, 39, 199, 0, 0), (11, 14, 18, 0, 23, 0), (14, 15, 4, 0, 0, 0), (15, 18, 49, 10, 54, 0), (18, 19, 2, 1, 0, 0), (19, 20, 29, 0, 0, 0), (20, 23, 18, 1, 25, 0), (23, 24, 0, 0, 0, 0), (24, 25, 42, 0, 0, 0), (25, 26, 0, 0, 0, 0), (26, 27, 5, 2, 0, 0), (27, 28, 2, 2, 0, 0), (28, 31, 0, 0, 0, 10265), (31, 34, 19, 3, 58, 0), (34, 35, 4, 0, 0, 0), (35, 38, 49, 10, 6, 0), (38, 39, 2, 2, 0, 0), (39, 40, 4, 0, 0, 0), (40, 43, 49, 10, 52, 0), (43, 46, 0, 0, 0, 10265), (46, 47, 2, 1, 0, 0), (47, 48, 9, 2, 0, 0), (48, 49, 2, 2, 0, 0), (49, 50, 9, 0, 0, 0), (50, 51, 27, 0, 0, 0), (51, 52, 31, 0, 0, 0), (52, 55, 8, 2, 0, 1), (55, 58, 22, 0, 27, 0), (58, 59, 0, 0, 0, 0), (59, 60, 5, 2, 0, 0), (60, 61, 2, 2, 0, 0), (61, 63, 0, 0, 0, 12), (63, 66, 19, 3, 89, 0), (66, 67, 4, 0, 0, 0), (67, 70, 49, 10, 9, 0), (70, 71, 2, 2, 0, 0), (71, 72, 4, 0, 0, 0), (72, 75, 49, 10, 53, 0), (75, 77, 0, 0, 0, 12), (77, 78, 2, 1, 0, 0), (78, 79, 9, 2, 0, 0), (79, 80, 2, 2, 0, 0), (80, 81, 9, 0, 0, 0), (81, 82, 28, 0, 0, 0), (82, 83, 32, 0, 0, 0), (83, 86, 8, 2, 0, 1), (86, 89, 22, 0, 60, 0), (89, 90, 4, 0, 0, 0), (90, 91, 0, 0, 0, 0), (91, 94, 25, 10, 23, 0), (94, 95, 0, 0, 0, 1), (95, 96, 42, 0, 0, 0)])
def M285 : Mth := (285, 10, 2, 1, 2, [(0, 1, 4, 0, 0, 0), (1, 2, 0, 0, 0, 0), (2, 5, 25, 10, 0, 0), (5, 6, 2, 1, 0, 0), (6, 8, 0, 0, 0, 7), (8, 11, 19, 1, 22, 0), (11, 12, 4, 0, 0, 0), (12, 15, 49, 10, 6, 0), (15, 18, 0, 0, 0, 429), (18, 19, 27, 0, 0, 0), (19, 22, 22, 0, 55, 0), (22, 23, 2, 1, 0, 0), (23, 25, 0, 0, 0, 8), (25, 28, 19, 1, 35, 0), (28, 29, 4, 0, 0, 0), (29, 32, 24, 10, 2, 0), (32, 35, 22, 0, 55, 0), (35, 36, 2, 1, 0, 0), (36, 37, 0, 0, 0, 0), (37, 39, 0, 0, 0, 6), (39, 42, 39, 199, 0, 0), (42, 45, 18, 0, 54, 0), (45, 46, 4, 0, 0, 0), (46, 49, 49, 10, 6, 0), (49, 50, 2, 1, 0, 0), (50, 51, 27, 0, 0, 0), (51, 54, 22, 0, 55, 0), (54, 55, 0, 0, 0, -1), (55, 56, 42, 0, 0, 0)])
def zMs : List Mth := [M0, M1, M2, M3, M4, M5, M6, M7, M8, M9, M10, M11, M12, M13, M14, M15, M16, M17, M18, M19, M20, M21, M22, M23, M24, M25, M26, M27, M28, M29, M30, M31, M32, M33, M34, M35, M36, M37, M38, M39, M40, M41, M42, M43, M44, M45, M46, M47, M48, M49, M50, M51, M52, M53, M54, M55, M56, M57, M58, M59, M60, M61, M62, M63, M64, M65, M66, M67, M68, M69, M70, M71, M72, M73, M74, M75, M76, M77, M78, M79, M80, M81, M82, M83, M84, M85, M86, M87, M88, M89, M90, M91, M92, M93, M94, M95, M96, M97, M98, M99, M100, M101, M102, M103, M104, M105, M106, M107, M108, M109, M110, M111, M112, M113, M114, M115, M116, M117, M118, M119, M120, M121, M122, M123, M124, M125, M126, M127, M128, M129, M130, M131, M132, M133, M134, M135, M136, M137, M138, M139, M140, M141, M142, M143, M144, M145, M146, M147, M148, M149, M150, M151, M152, M153, M154, M155, M156, M157, M158, M159, M160, M161, M162, M163, M164, M165, M166, M167, M168, M169, M170, M171, M172, M173, M174, M175, M176, M177, M178, M179, M180, M181, M182, M183, M184, M185, M186, M187, M188, M189, M190, M191, M192, M193, M194, M195, M196, M197, M198, M199, M200, M201, M202, M203, M204, M205, M206, M207, M208, M209, M210, M211, M212, M213, M214, M215, M216, M217, M218, M219, M220, M221, M222, M223, M224, M225, M226, M227, M228, M229, M230, M231, M232, M233, M234, M235, M236, M237, M238, M239, M240, M241, M242, M243, M244, M245, M246, M247, M248, M249, M250, M251, M252, M253, M254, M255, M256, M257, M258, M259, M260, M261, M262, M263, M264, M265, M266, M267, M268, M269, M270, M271, M272, M273, M274, M275, M276, M277, M278, M279, M280, M281, M282, M283, M284, M285]
end
section
/-! one step of the small machine, but for calls and ends -/
def mTgt (pc : Nat) (off : Int) : Nat := ((pc : Int) + off).toNat
/-- a field read -/
def zfv (kd : Nat) (w : Wd) (k j : Nat) : Value := match kd with
  | 0 => .int (wI w k j)
  | 1 => .long (wL w k j)
  | _ => va_rf (wR w k j)
def zobj (w : Wd) (o c : Nat) : Bool := Nat.blt o (wn w) && Nat.beq (zsh o).1 c
def zsw3 (a : Nat) (x : Int32) : Nat := let s := zsw a; if x.toInt < s.1 ∨ s.1 + (s.2.1.length : Int) ≤ x.toInt then s.2.2 else s.2.1.getD (x.toInt - s.1).toNat s.2.2
/-- ops that touch locals and stack alone -/
def zs1 (t a b : Nat) (v : Int32) (npc : Nat) (lv : List (Nat × Value)) (st : List Value) (w : Wd) : Option Cfg := match t with
  | 0 => some (npc, lv, .int v :: st, w)
  | 1 => some (npc, lv, .long (zlc a) :: st, w)
  | 2 => match lgt lv a with
    | some (.int x) => some (npc, lv, .int x :: st, w)
    | _ => none
  | 3 => match lgt lv a with
    | some (.long x) => some (npc, lv, .long x :: st, w)
    | _ => none
  | 4 => match lgt lv a with
    | some (.ref x) => some (npc, lv, .ref x :: st, w)
    | some .null => some (npc, lv, .null :: st, w)
    | _ => none
  | 5 => match st with
    | .int x :: r => some (npc, lst1 lv a (.int x), r, w)
    | _ => none
  | 6 => match st with
    | .long x :: r => some (npc, lst2 lv a (.long x), r, w)
    | _ => none
  | 7 => match st with
    | .ref x :: r => some (npc, lst1 lv a (.ref x), r, w)
    | .null :: r => some (npc, lst1 lv a .null, r, w)
    | _ => none
  | 8 => match lgt lv a with
    | some (.int x) => some (npc, lst1 lv a (.int (x + v)), st, w)
    | _ => none
  | 9 => match st with
    | .int y :: .int x :: r => (zbin a x y).map fun z => (npc, lv, .int z :: r, w)
    | _ => none
  | 10 => match st with
    | .long y :: .long x :: r => (zlbin a x y).map fun z => (npc, lv, .long z :: r, w)
    | _ => none
  | 11 => match st with
    | .long y :: .long x :: r => some (npc, lv, .int (lg_cmp x y) :: r, w)
    | _ => none
  | 12 => match st with
    | .int x :: r => some (npc, lv, .long x.toInt64 :: r, w)
    | _ => none
  | 13 => match st with
    | .long x :: r => some (npc, lv, .int x.toInt32 :: r, w)
    | _ => none
  | 14 => match st with
    | .int x :: r => some (npc, lv, .int x.toInt8.toInt32 :: r, w)
    | _ => none
  | 15 => match st with
    | x :: r => if x.category = 1 then some (npc, lv, x :: x :: r, w) else none
    | _ => none
  | 16 => match st with
    | x :: r => if x.category = 1 then some (npc, lv, r, w) else none
    | _ => none
  | 17 => match st with
    | x :: y :: r => if x.category = 1 ∧ y.category = 1 then some (npc, lv, x :: y :: x :: y :: r, w) else none
    | _ => none
  | 18 => match st with
    | .int x :: r => some (bif zcnd a x 0 then b else npc, lv, r, w)
    | _ => none
  | 19 => match st with
    | .int y :: .int x :: r => some (bif zcnd a x y then b else npc, lv, r, w)
    | _ => none
  | 20 => match st with
    | vy :: vx :: r => match zref vx, zref vy with
      | some x, some y => if zwk x = true ∧ zwk y = true then some (bif Nat.beq a 0 == decide (x = y) then b else npc, lv, r, w) else none
      | _, _ => none
    | _ => none
  | 21 => match st with
    | .null :: r => some (bif Nat.beq a 0 then b else npc, lv, r, w)
    | .ref _ :: r => some (bif Nat.beq a 0 then npc else b, lv, r, w)
    | _ => none
  | 22 => some (b, lv, st, w)
  | 23 => match st with
    | .int x :: r => some (zsw3 a x, lv, r, w)
    | _ => none
  | 26 => some (npc, lv, .ref a :: st, w)
  | 45 => some (npc, lv, .null :: st, w)
  | 46 => match st with
    | .ref _ :: r => if (r.map fun v => v.category).sum ≤ 8 then some (npc, lv, r, w) else none
    | _ => none
  | 53 => match st with
    | .int x :: r => some (npc, lv, .int (-x) :: r, w)
    | _ => none
  | 54 => match st with
    | .int y :: .long x :: r => some (npc, lv, .long (x <<< (y.toInt64 &&& 63)) :: r, w)
    | _ => none
  | _ => none
/-- ops that touch the world: fields -/
def zs2 (M : Mth) (t a b : Nat) (npc : Nat) (lv : List (Nat × Value)) (st : List Value) (w : Wd) : Option Cfg := match t with
  | 24 => match st with
    | .ref o :: r => if zobj w o a = true then some (npc, lv, .int (wI w o b) :: r, w) else none
    | _ => none
  | 48 => match st with
    | .ref o :: r => if zobj w o a = true then some (npc, lv, .long (wL w o b) :: r, w) else none
    | _ => none
  | 49 => match st with
    | .ref o :: r => if zobj w o a = true then some (npc, lv, va_rf (wR w o b) :: r, w) else none
    | _ => none
  | 25 => match st with
    | .int x :: .ref o :: r => if zobj w o a = true ∧ zpf M a b = true then some (npc, lv, r, sI w o b x) else none
    | _ => none
  | 52 => match st with
    | .int x :: .ref o :: r => if zobj w o a = true ∧ zpf M a b = true ∧ (x = 0 ∨ x = 1) then some (npc, lv, r, sI w o b x) else none
    | _ => none
  | 50 => match st with
    | .long x :: .ref o :: r => if zobj w o a = true ∧ zpf M a b = true then some (npc, lv, r, sL w o b x) else none
    | _ => none
  | 51 => match st with
    | v :: .ref o :: r => match zref v with
      | some q => if zobj w o a = true ∧ zpf M a b = true then some (npc, lv, r, sR w o b q) else none
      | none => none
    | _ => none
  | 47 => match st with
    | .ref o :: r => if 1010 ≤ o ∧ o < 1030 then some (npc, lv, (match a with
        | 0 => .long (zwc (o - 1010))
        | 1 => .int (zwd (o - 1010))
        | _ => .int (zwm (o - 1010))) :: r, w) else none
    | _ => none
  | _ => none
/-- .. rows, new objects -/
def zs3 (t a : Nat) (npc : Nat) (lv : List (Nat × Value)) (st : List Value) (w : Wd) : Option Cfg := match t with
  | 27 => match st with
    | .int i :: .ref o :: r => if o = 1000 then (if ib i (ix (wI w 1003 0)) = true then some (npc, lv, .int (wI w 1000 (ix i)) :: r, w) else none) else
        if zobj w o 101 = true ∧ ib i (zsh o).2 = true then some (npc, lv, .int (wI w o (ix i)) :: r, w) else none
    | _ => none
  | 28 => match st with
    | .int i :: .ref o :: r => if zobj w o 102 = true ∧ ib i (zsh o).2 = true then some (npc, lv, .long (wL w o (ix i)) :: r, w) else none
    | _ => none
  | 29 => match st with
    | .int i :: .ref o :: r => if (zobj w o 103 = true ∨ zobj w o 104 = true) ∧ ib i (zsh o).2 = true then some (npc, lv, .int (wI w o (ix i)) :: r, w) else none
    | _ => none
  | 30 => match st with
    | .int i :: .ref o :: r => if o = 1001 then (if ib i 20 = true then some (npc, lv, .ref (1010 + ix i) :: r, w) else none) else
        if (zobj w o 111 = true ∨ zobj w o 115 = true ∨ zobj w o 116 = true) ∧ ib i (zsh o).2 = true then some (npc, lv, va_rf (wR w o (ix i)) :: r, w) else none
    | _ => none
  | 31 => match st with
    | .int x :: .int i :: .ref o :: r => if zobj w o 101 = true ∧ ib i (zsh o).2 = true then some (npc, lv, r, sI w o (ix i) x) else none
    | _ => none
  | 32 => match st with
    | .long x :: .int i :: .ref o :: r => if zobj w o 102 = true ∧ ib i (zsh o).2 = true then some (npc, lv, r, sL w o (ix i) x) else none
    | _ => none
  | 33 => match st with
    | .int x :: .int i :: .ref o :: r => if zobj w o 103 = true ∧ ib i (zsh o).2 = true then some (npc, lv, r, sI w o (ix i) (vp_nar .byte x)) else
        if zobj w o 104 = true ∧ ib i (zsh o).2 = true then some (npc, lv, r, sI w o (ix i) (vp_nar .boolean x)) else none
    | _ => none
  | 34 => match st with
    | .ref q :: .int i :: .ref o :: r => if (zobj w o 111 = true ∧ zobj w q 1 = true ∨ zobj w o 115 = true ∧ zobj w q 5 = true ∨ zobj w o 116 = true ∧ zobj w q 6 = true) ∧ ib i (zsh o).2 = true then some (npc, lv, r, sR w o (ix i) (some q)) else none
    | _ => none
  | 35 => match st with
    | .ref o :: r => if o = 1000 then some (npc, lv, .int (wI w 1003 0) :: r, w) else if o = 1001 then some (npc, lv, .int 20 :: r, w) else none
    | _ => none
  | 36 => if wn w < zK ∧ (zsh (wn w)).1 = a ∧ a < 11 then some (npc, lv, .ref (wn w) :: st, alc w) else none
  | 37 => match st with
    | .int n :: r => if wn w < zK ∧ (zsh (wn w)).1 = a ∧ 101 ≤ a ∧ a ≤ 104 ∧ 0 ≤ n ∧ ix n = (zsh (wn w)).2 then some (npc, lv, .ref (wn w) :: r, alc w) else none
    | _ => none
  | 38 => match st with
    | .int n :: r => if wn w < zK ∧ (zsh (wn w)).1 = 110 + a ∧ (a = 1 ∨ a = 5 ∨ a = 6) ∧ 0 ≤ n ∧ ix n = (zsh (wn w)).2 then some (npc, lv, .ref (wn w) :: r, alc w) else none
    | _ => none
  | 40 => match st with
    | .int n :: .int dp :: .ref q :: .int sp :: .ref o :: r =>
      if (r.map fun v => v.category).sum ≤ 8 ∧ 0 ≤ sp ∧ 0 ≤ dp ∧ 0 ≤ n ∧ ix sp + ix n ≤ (zsh o).2 ∧ ix dp + ix n ≤ (zsh q).2 then
        (if zobj w o 101 = true ∧ zobj w q 101 = true then some (npc, lv, r, rI w q (va_cpy (wI w o) (wI w q) (ix sp) (ix dp) (ix n))) else
         if zobj w o 102 = true ∧ zobj w q 102 = true then some (npc, lv, r, rL w q (va_cpy (wL w o) (wL w q) (ix sp) (ix dp) (ix n))) else none) else none
    | _ => none
  | _ => none
def zgr (t : Nat) : Nat := match t with
  | 24 | 25 | 47 | 48 | 49 | 50 | 51 | 52 => 2
  | 27 | 28 | 29 | 30 | 31 | 32 | 33 | 34 | 35 | 36 | 37 | 38 | 40 => 3
  | _ => 1
/-- all of them -/
def zst' (M : Mth) (op : Op4) (npc : Nat) (lv : List (Nat × Value)) (st : List Value) (w : Wd) : Option Cfg := match zgr op.1 with
  | 2 => zs2 M op.1 op.2.1 op.2.2.1 npc lv st w
  | 3 => zs3 op.1 op.2.1 npc lv st w
  | _ => zs1 op.1 op.2.1 op.2.2.1 op.2.2.2 npc lv st w
/-- a method's end -/
def zfin (M : Mth) (op : Op4) (st : List Value) : Option (Option Value) := match op.1, st with
  | 41, [] => if mRet M = 0 then some none else none
  | 42, [.int x] => if mRet M = 1 ∨ mRet M = 2 ∧ (x = 0 ∨ x = 1) then some (some (.int x)) else none
  | 43, [.long x] => if mRet M = 3 then some (some (.long x)) else none
  | 44, [.ref x] => if mRet M = 4 then some (some (.ref x)) else none
  | 44, [.null] => if mRet M = 4 then some (some .null) else none
  | _, _ => none
/-- what a whole method does: method, arguments, world; answer, world -/
abbrev Evf : Type := Nat → List Value → Wd → Option Value → Wd → Prop
/-- one step, a call's included, by what the methods called do -/
def Zst (E : Evf) (M : Mth) (a b : Cfg) : Prop :=
  (∃ op npc, opAt (mCode M) a.1 = some (op, npc) ∧ (zst' M op npc a.2.1 a.2.2.1 a.2.2.2 = some b ∨
    (op.1 = 39 ∧ ∃ (as rest : List Value) (r : Option Value) (w1 : Wd), a.2.2.1 = as.reverse ++ rest ∧ E op.2.1 as a.2.2.2 r w1 ∧ (rest.map fun v => v.category).sum ≤ 8 ∧ b = (npc, a.2.1, r.toList ++ rest, w1)))) ∨
  (∃ lv' : List (Nat × Value), (∀ q ∈ lv', q ∈ a.2.1) ∧ b = (a.1, lv', a.2.2.1, a.2.2.2))
def Pth (E : Evf) (M : Mth) : Nat → Cfg → Cfg → Prop
  | 0, a, b => a = b
  | n + 1, a, b => ∃ c, Zst E M a c ∧ Pth E M n c b
/-- from here the method comes to its end -/
def Zfn (E : Evf) (M : Mth) (a : Cfg) (r : Option Value) (w' : Wd) : Prop :=
  ∃ (n : Nat) (b : Cfg) (op : Op4) (npc : Nat), Pth E M n a b ∧ opAt (mCode M) b.1 = some (op, npc) ∧ zfin M op b.2.2.1 = some r ∧ b.2.2.2 = w'
/-- the methods' doings at a depth of calls -/
def Ev : Nat → Evf
  | 0 => fun _ _ _ _ _ => False
  | d + 1 => fun n as w r w' => ∃ M ∈ zMs, mNum M = n ∧ ¬ n = 0 ∧ as.length = mArg M ∧ (as.map fun v => v.category).sum ≤ mLoc M ∧
      (zsta.contains n = true ∨ ∃ (o : Nat) (as' : List Value), as = .ref o :: as' ∧ zobj w o (mCls M) = true) ∧ Zfn (Ev d) M (0, lv_args 0 as, [], w) r w'
end
section
/-! the small machine's ops are what the byte codes say -/
def cN : ClassFile.Cond → Nat
  | .eq => 0
  | .ne => 1
  | .lt => 2
  | .ge => 3
  | .gt => 4
  | .le => 5
def aN : ClassFile.ACond → Nat
  | .eq => 0
  | .ne => 1
def jOk (pc : Nat) (off : Int) (op : Op4) : Option Op4 := if 0 ≤ (pc : Int) + off then some op else none
def lkF (c i : Nat) : Option (Nat × Nat × Nat × Nat × Nat × Bool) := (zfl c).find? fun r => Nat.beq r.2.1 i && Nat.beq r.1 c
def lkS (c i : Nat) : Option (Nat × Nat × Nat × Nat × Bool) := zst.find? fun r => Nat.beq r.1 c && Nat.beq r.2.1 i
def lkM (c i : Nat) : Option (Nat × Nat × Nat × Nat × Bool) := (zml c).find? fun r => Nat.beq r.2.1 i && Nat.beq r.1 c
def lkC (c i : Nat) : Option (Nat × Nat × Nat × Nat) := zcls.find? fun r => Nat.beq r.1 c && Nat.beq r.2.1 i
def lkI (c i : Nat) : Option (Nat × Nat × Int32 × Nat) := zci.find? fun r => Nat.beq r.1 c && Nat.beq r.2.1 i
def lkJ (c i : Nat) : Option (Nat × Nat × Nat × Nat) := zcj.find? fun r => Nat.beq r.1 c && Nat.beq r.2.1 i
def lkW (c pc : Nat) : Option (Nat × Nat × Nat) := zswk.find? fun r => Nat.beq r.1 c && Nat.beq r.2.1 pc
def gOp (r : Nat × Nat × Nat × Nat × Nat × Bool) : Option Op4 :=
  if r.2.2.1 = 11 then some (47, r.2.2.2.1, 0, 0) else match zFk r.2.2.1 r.2.2.2.1 with
  | 0 => some (24, r.2.2.1, r.2.2.2.1, 0)
  | 1 => some (48, r.2.2.1, r.2.2.2.1, 0)
  | 2 => some (49, r.2.2.1, r.2.2.2.1, 0)
  | _ => none
def pOp (r : Nat × Nat × Nat × Nat × Nat × Bool) : Option Op4 :=
  if r.2.2.1 = 11 then none else match zFk r.2.2.1 r.2.2.2.1 with
  | 0 => if zTy r.2.2.1 r.2.2.2.1 = .boolean then some (52, r.2.2.1, r.2.2.2.1, 0) else some (25, r.2.2.1, r.2.2.2.1, 0)
  | 1 => some (50, r.2.2.1, r.2.2.2.1, 0)
  | 2 => some (51, r.2.2.1, r.2.2.2.1, 0)
  | _ => none
def mOp (s : Nat) (c i : Nat) : Option Op4 := (lkM c i).bind fun r =>
  if r.2.2.1 = 1000 then (if s = 1 then some (40, 0, 0, 0) else none) else
  if r.2.2.1 = 1001 then (if s = 2 then some (46, 0, 0, 0) else none) else
  if (s = 1 ∧ zsta.contains r.2.2.1 = true) ∨ (s = 2 ∧ zini.contains r.2.2.1 = true) ∨ (s = 0 ∧ zsta.contains r.2.2.1 = false ∧ zini.contains r.2.2.1 = false) then some (39, r.2.2.1, 0, 0) else none
def trI (c pc : Nat) : Instr → Option Op4
  | .iconst n => some (0, 0, 0, .ofInt n)
  | .bipush n => some (0, 0, 0, (Int8.ofInt n).toInt32)
  | .sipush n => some (0, 0, 0, (Int16.ofInt n).toInt32)
  | .ldc i => (lkI c i).map fun r => (0, 0, 0, r.2.2.1)
  | .ldc_w i => (lkI c i).map fun r => (0, 0, 0, r.2.2.1)
  | .lconst n => some (1, n.val, 0, 0)
  | .ldc2_w i => (lkJ c i).map fun r => (1, r.2.2.1, 0, 0)
  | .iload_n k => some (2, k.val, 0, 0)
  | .iload k => some (2, k, 0, 0)
  | .lload_n k => some (3, k.val, 0, 0)
  | .lload k => some (3, k, 0, 0)
  | .aload_n k => some (4, k.val, 0, 0)
  | .aload k => some (4, k, 0, 0)
  | .istore_n k => some (5, k.val, 0, 0)
  | .istore k => some (5, k, 0, 0)
  | .lstore_n k => some (6, k.val, 0, 0)
  | .lstore k => some (6, k, 0, 0)
  | .astore_n k => some (7, k.val, 0, 0)
  | .astore k => some (7, k, 0, 0)
  | .iinc k n => some (8, k, 0, .ofInt n)
  | .iadd => some (9, 0, 0, 0)
  | .isub => some (9, 1, 0, 0)
  | .imul => some (9, 2, 0, 0)
  | .idiv => some (9, 3, 0, 0)
  | .irem => some (9, 4, 0, 0)
  | .iand => some (9, 5, 0, 0)
  | .ior => some (9, 6, 0, 0)
  | .ixor => some (9, 7, 0, 0)
  | .ishl => some (9, 8, 0, 0)
  | .ishr => some (9, 9, 0, 0)
  | .iushr => some (9, 10, 0, 0)
  | .ladd => some (10, 0, 0, 0)
  | .lmul => some (10, 1, 0, 0)
  | .lor => some (10, 2, 0, 0)
  | .lcmp => some (11, 0, 0, 0)
  | .i2l => some (12, 0, 0, 0)
  | .l2i => some (13, 0, 0, 0)
  | .i2b => some (14, 0, 0, 0)
  | .dup => some (15, 0, 0, 0)
  | .pop => some (16, 0, 0, 0)
  | .dup2 => some (17, 0, 0, 0)
  | .ifCond k off => jOk pc off (18, cN k, mTgt pc off, 0)
  | .if_icmp k off => jOk pc off (19, cN k, mTgt pc off, 0)
  | .if_acmp k off => jOk pc off (20, aN k, mTgt pc off, 0)
  | .ifnull off => jOk pc off (21, 0, mTgt pc off, 0)
  | .ifnonnull off => jOk pc off (21, 1, mTgt pc off, 0)
  | .goto off => jOk pc off (22, 0, mTgt pc off, 0)
  | .tableswitch d lo hi offs => (lkW c pc).bind fun r =>
      if zsw r.2.2 = (lo, offs.toList.map (mTgt pc), mTgt pc d) ∧ (offs.toList.all fun x => decide (0 ≤ (pc : Int) + x)) = true ∧ 0 ≤ (pc : Int) + d ∧ hi + 1 = lo + (offs.size : Int) then some (23, r.2.2, 0, 0) else none
  | .getfield i => (lkF c i).bind gOp
  | .putfield i => (lkF c i).bind pOp
  | .getstatic i => (lkS c i).map fun r => (26, r.2.2.1, 0, 0)
  | .iaload => some (27, 0, 0, 0)
  | .laload => some (28, 0, 0, 0)
  | .baload => some (29, 0, 0, 0)
  | .aaload => some (30, 0, 0, 0)
  | .iastore => some (31, 0, 0, 0)
  | .lastore => some (32, 0, 0, 0)
  | .bastore => some (33, 0, 0, 0)
  | .aastore => some (34, 0, 0, 0)
  | .arraylength => some (35, 0, 0, 0)
  | .new i => (lkC c i).map fun r => (36, r.2.2.1, 0, 0)
  | .newarray .int => some (37, 101, 0, 0)
  | .newarray .long => some (37, 102, 0, 0)
  | .newarray .byte => some (37, 103, 0, 0)
  | .newarray .boolean => some (37, 104, 0, 0)
  | .anewarray i => (lkC c i).map fun r => (38, r.2.2.1, 0, 0)
  | .invokevirtual i => mOp 0 c i
  | .invokestatic i => mOp 1 c i
  | .invokespecial i => mOp 2 c i
  | .return_ => some (41, 0, 0, 0)
  | .ireturn => some (42, 0, 0, 0)
  | .lreturn => some (43, 0, 0, 0)
  | .areturn => some (44, 0, 0, 0)
  | .aconst_null => some (45, 0, 0, 0)
  | .ineg => some (53, 0, 0, 0)
  | .lshl => some (54, 0, 0, 0)
  | _ => none
def iLn : Instr → Nat → Bool
  | .tableswitch _ _ _ _, _ => true
  | .bipush _, n | .iload _, n | .lload _, n | .aload _, n | .istore _, n | .lstore _, n | .astore _, n | .ldc _, n | .newarray _, n => Nat.beq n 2
  | .sipush _, n | .ldc_w _, n | .ldc2_w _, n | .iinc _ _, n | .ifCond _ _, n | .if_icmp _ _, n | .if_acmp _ _, n | .ifnull _, n | .ifnonnull _, n | .goto _, n | .getfield _, n | .putfield _, n | .getstatic _, n | .new _, n | .anewarray _, n | .invokevirtual _, n | .invokestatic _, n | .invokespecial _, n => Nat.beq n 3
  | _, n => Nat.beq n 1
def zdec (n c : Nat) (r : Nat × Nat × Op4) : Bool := match decode (zby n) r.1 with
  | .ok (i, len) => iLn i len && Nat.beq (r.1 + len) r.2.1 && decide (trI c r.1 i = some r.2.2)
  | _ => false
def zchk (M : Mth) : Bool := (mCode M).all (zdec (mNum M) (mCls M))
end
section
/-! the tables' words that the codes need, by their places -/
def zWS : List Cond := lw_tbl.filter goodWord
theorem zin_of {w : Cond} (p : Nat) (h : lw_tbl[p]? = some w) (hg : goodWord w = true) : w ∈ zWS := List.mem_filter.mpr ⟨List.mem_of_getElem? h, hg⟩
theorem zin_list {ws : List Cond} (ps : List Nat) (h : ws.map some = ps.map (fun p => lw_tbl[p]?)) (hg : ws.all goodWord = true) : ∀ w ∈ ws, w ∈ zWS := by
  intro w hw
  obtain ⟨i, hi, e⟩ := List.mem_iff_getElem.mp hw
  have h1 : (ws.map some)[i]? = some (some w) := by rw [List.getElem?_map, List.getElem?_eq_getElem hi, e]; rfl
  rw [h, List.getElem?_map] at h1
  cases hp : ps[i]? with
  | none => rw [hp] at h1; cases h1
  | some p =>
    rw [hp] at h1
    exact zin_of p (Option.some.inj h1) (List.all_eq_true.mp hg w hw)
theorem zlay_0 : ∀ w ∈ u_ws (zC 0) (zT 0) (zN 0), w ∈ zWS := zin_list [435, 437, 439, 441] (by decide +kernel) (by decide +kernel)
theorem zlay_1 : ∀ w ∈ u_ws (zC 1) (zT 1) (zN 1), w ∈ zWS := zin_list [235, 237, 239, 241, 243, 245, 247, 249, 251, 253, 255, 257, 259, 261, 263, 265] (by decide +kernel) (by decide +kernel)
theorem zlay_2 : ∀ w ∈ u_ws (zC 2) (zT 2) (zN 2), w ∈ zWS := zin_list [183] (by decide +kernel) (by decide +kernel)
theorem zlay_3 : ∀ w ∈ u_ws (zC 3) (zT 3) (zN 3), w ∈ zWS := zin_list [460, 462, 464, 466, 468, 470, 472, 474, 476, 478] (by decide +kernel) (by decide +kernel)
theorem zlay_4 : ∀ w ∈ u_ws (zC 4) (zT 4) (zN 4), w ∈ zWS := zin_list [350, 352, 354, 356, 358, 360, 362, 364, 366, 368, 370, 372, 374, 376, 378, 380] (by decide +kernel) (by decide +kernel)
theorem zlay_5 : ∀ w ∈ u_ws (zC 5) (zT 5) (zN 5), w ∈ zWS := zin_list [307, 309, 311, 313, 315, 317, 319, 321] (by decide +kernel) (by decide +kernel)
theorem zlay_6 : ∀ w ∈ u_ws (zC 6) (zT 6) (zN 6), w ∈ zWS := zin_list [281, 283, 285, 287, 289] (by decide +kernel) (by decide +kernel)
theorem zlay_7 : ∀ w ∈ u_ws (zC 7) (zT 7) (zN 7), w ∈ zWS := zin_list [153, 155, 157, 159, 161, 163, 165, 167, 169, 171] (by decide +kernel) (by decide +kernel)
theorem zlay_8 : ∀ w ∈ u_ws (zC 8) (zT 8) (zN 8), w ∈ zWS := zin_list [400, 402, 404, 406, 408, 410, 412, 414, 416, 418, 420] (by decide +kernel) (by decide +kernel)
theorem zlay_9 : ∀ w ∈ u_ws (zC 9) (zT 9) (zN 9), w ∈ zWS := zin_list [499, 501, 503, 505, 507, 509, 511, 513, 515, 517, 519, 521, 523, 525, 527, 529, 531, 533] (by decide +kernel) (by decide +kernel)
theorem zlay_10 : ∀ w ∈ u_ws (zC 10) (zT 10) (zN 10), w ∈ zWS := zin_list [1483, 1485, 1487, 1489, 1491, 1493, 1495, 1497, 1499, 1501, 1503, 1505, 1507, 1509, 1511, 1513, 1515, 1517, 1519, 1521, 1523, 1525, 1527, 1529, 1531, 1533, 1535, 1537, 1539, 1541, 1543, 1545, 1547, 1549, 1551, 1553, 1555, 1557, 1559, 1561, 1563, 1565, 1567, 1569, 1571, 1573, 1575, 1577, 1579, 1581, 1583, 1585, 1587, 1589, 1591] (by decide +kernel) (by decide +kernel)
theorem zlay : ∀ c, c < 11 → ∀ w ∈ u_ws (zC c) (zT c) (zN c), w ∈ zWS := by
  intro c hc
  match c, hc with
  | 0, _ => exact zlay_0
  | 1, _ => exact zlay_1
  | 2, _ => exact zlay_2
  | 3, _ => exact zlay_3
  | 4, _ => exact zlay_4
  | 5, _ => exact zlay_5
  | 6, _ => exact zlay_6
  | 7, _ => exact zlay_7
  | 8, _ => exact zlay_8
  | 9, _ => exact zlay_9
  | 10, _ => exact zlay_10
  | c + 11, h => exact absurd h (by omega)
theorem zty_ok : ∀ c, c < 11 → ∀ k, k < zN c → parseFieldDescriptor (zT c k).2.2.1 = some (zTy c k) := by decide +kernel
theorem znm_ok : ∀ c, c < 11 → ∀ a, a < zN c → ∀ b, b < zN c → a ≠ b → (zT c a).2.1 ≠ (zT c b).2.1 := by decide +kernel
/-- a field's link -/
def zfw (r : Nat × Nat × Nat × Nat × Nat × Bool) : Cond := let f := if r.2.2.1 = 11 then (["code", "dir", "measured"].getD r.2.2.2.1 "", ["J", "I", "I"].getD r.2.2.2.1 "") else ((zT r.2.2.1 r.2.2.2.1).2.1, (zT r.2.2.1 r.2.2.2.1).2.2.1); .fieldLink (zC r.1) r.2.1 (zC r.2.2.1) f.1 f.2
theorem zfl_ok : ∀ c, c < 15 → ∀ r ∈ zfl c, lw_tbl[r.2.2.2.2.1]? = some (zfw r) ∧ goodWord (zfw r) = true ∧ r.1 = c ∧ (r.2.2.1 < 11 ∧ r.2.2.2.1 < zN r.2.2.1 ∧ (zT r.2.2.1 r.2.2.2.1).1 = zC r.2.2.1 ∨ r.2.2.1 = 11 ∧ r.2.2.2.1 < 3) := by decide +kernel
/-- a static's link -/
def zsf (a : Nat) : String × String × String := if a = 1001 then ("RugReader", "WORDS", "[LRugReader$Word;") else ("RugReader$Word", zwnm (a - 1010), "LRugReader$Word;")
def zsw1 (r : Nat × Nat × Nat × Nat × Bool) : Cond := if r.2.2.2.2 = true then .fieldLinkNest (zC r.1) r.2.1 (zsf r.2.2.1).1 (zsf r.2.2.1).2.1 (zsf r.2.2.1).2.2 "RugReader" else .fieldLink (zC r.1) r.2.1 (zsf r.2.2.1).1 (zsf r.2.2.1).2.1 (zsf r.2.2.1).2.2
theorem zst_ok : ∀ r ∈ zst, lw_tbl[r.2.2.2.1]? = some (zsw1 r) ∧ (r.2.2.2.2 = false → goodWord (zsw1 r) = true) ∧ (r.2.2.1 = 1001 ∨ 1010 ≤ r.2.2.1 ∧ r.2.2.1 < 1030) := by decide +kernel
/-- a method's link -/
def zyy (n : Nat) : MethodName := if n = 1000 then arraycopyName else if n = 1001 then Lib.objectInit else zy n
def zmw (r : Nat × Nat × Nat × Nat × Bool) : Cond := if r.2.2.2.2 = true then .methodLinkNest (zC r.1) r.2.1 (zyy r.2.2.1) "RugReader" else .methodLink (zC r.1) r.2.1 (zyy r.2.2.1)
theorem zml_ok : ∀ c, c < 15 → ∀ r ∈ zml c, lw_tbl[r.2.2.2.1]? = some (zmw r) ∧ (r.2.2.2.2 = false → goodWord (zmw r) = true) ∧ r.1 = c := by decide +kernel
theorem zcls_ok : ∀ r ∈ zcls, lw_tbl[r.2.2.2]? = some (.classLink (zC r.1) r.2.1 (zC r.2.2.1)) ∧ goodWord (.classLink (zC r.1) r.2.1 (zC r.2.2.1)) = true := by decide +kernel
theorem zci_ok : ∀ r ∈ zci, lw_tbl[r.2.2.2]? = some (.constant (zC r.1) r.2.1 r.2.2.1) ∧ goodWord (.constant (zC r.1) r.2.1 r.2.2.1) = true := by decide +kernel
theorem zcj_ok : ∀ r ∈ zcj, lw_tbl[r.2.2.2]? = some (.constantLong (zC r.1) r.2.1 (zlc r.2.2.1)) ∧ goodWord (.constantLong (zC r.1) r.2.1 (zlc r.2.2.1)) = true := by decide +kernel
def zinstP : List Nat := [424, 187, 177, 445, 328, 293, 270, 134, 384, 126, 1396]
theorem zinst : ∀ c, c < 11 → lw_tbl[zinstP.getD c 0]? = some (.instantiable (zC c) (zN c)) ∧ goodWord (.instantiable (zC c) (zN c)) = true := by decide +kernel
def ziniP : List Nat := [113, 108, 107, 114, 111, 110, 109, 106, 112, 105, 115, 118, 104, 116, 124]
theorem zinit : ∀ c, c < 15 → lw_tbl[ziniP.getD c 0]? = some (.initialized (zC c)) ∧ goodWord (.initialized (zC c)) = true := by decide +kernel
def zNest : List Cond := [zmw (6, 131, 172, 1258, true), zmw (9, 9, 2, 135, true), zmw (9, 27, 4, 188, true), zmw (9, 37, 5, 271, true), zmw (9, 80, 7, 329, true), zmw (9, 87, 8, 385, true), zmw (9, 94, 9, 425, true), zmw (9, 101, 10, 446, true)]
def zNestF : List Cond := [zsw1 (7, 89, 1001, 600, true)]
theorem zml_n : ∀ c, c < 15 → ∀ r ∈ zml c, r.2.2.2.2 = true → zmw r ∈ zNest := by decide +kernel
theorem zst_n : ∀ r ∈ zst, r.2.2.2.2 = true → zsw1 r ∈ zNestF := by decide +kernel
theorem zst_1 : ∀ r ∈ zst, r.2.2.2.2 = true → r.2.2.1 = 1001 := by decide +kernel
theorem zarr : lw_tbl[174]? = some (.arrayClass .int) ∧ lw_tbl[175]? = some (.arrayClass .long) ∧ lw_tbl[1365]? = some (.arrayClass .byte) ∧ lw_tbl[268]? = some (.arrayClass .boolean) := by decide +kernel
theorem zaro : lw_tbl[325]? = some (.arrayOver (.object "RugReader$House")) ∧ lw_tbl[324]? = some (.arrayOver (.object "RugReader$Rug")) ∧ lw_tbl[326]? = some (.arrayOver (.object "RugReader$Sentence")) := by decide +kernel
theorem zcpw : (lw_tbl[804]? = some (.native arraycopyName) ∧ goodWord (.native arraycopyName) = true) ∧ (lw_tbl[803]? = some (.static arraycopyName) ∧ goodWord (.static arraycopyName) = true) ∧ (lw_tbl[123]? = some (.initialized "java/lang/System") ∧ goodWord (.initialized "java/lang/System") = true) := by decide +kernel
theorem zobw : (lw_tbl[131]? = some (.instanceMethod Lib.objectInit) ∧ goodWord (.instanceMethod Lib.objectInit) = true) ∧ lw_tbl[132]? = some (.code Lib.objectInit ⟨#[0xb1]⟩ 1 none) ∧ goodWord (.code Lib.objectInit ⟨#[0xb1]⟩ 1 none) = true := by decide +kernel
end
section
/-- places of a method's words: code, kind, selects -/
def zmp (n : Nat) : Nat × Nat × Nat := ([(0, 0, 0), (129, 128, 0), (137, 136, 0), (180, 179, 0), (190, 189, 0), (273, 272, 0), (296, 295, 0), (331, 330, 0), (387, 386, 0), (427, 426, 0), (448, 447, 0), (539, 537, 538), (543, 541, 542), (547, 545, 546), (551, 549, 550), (555, 553, 554), (559, 557, 558), (563, 561, 562), (567, 565, 566), (570, 569, 0), (574, 573, 0), (578, 576, 577), (581, 580, 0), (584, 583, 0), (588, 587, 1), (592, 591, 2), (595, 594, 0), (599, 598, 0), (605, 604, 3), (608, 607, 0), (612, 610, 611), (616, 615, 4), (620, 619, 5), (624, 622, 623), (628, 627, 6), (634, 633, 7), (638, 636, 637), (642, 640, 641), (646, 644, 645), (650, 648, 649), (658, 657, 8), (662, 661, 9), (666, 664, 665), (672, 670, 671), (676, 674, 675), (682, 681, 10), (686, 685, 11), (693, 692, 12), (697, 695, 696), (703, 702, 13), (707, 705, 706), (711, 709, 710), (715, 714, 14), (719, 717, 718), (724, 722, 723), (728, 726, 727), (732, 730, 731), (740, 739, 15), (744, 742, 743), (748, 746, 747), (752, 750, 751), (757, 755, 756), (761, 759, 760), (765, 763, 764), (769, 767, 768), (773, 771, 772), (777, 775, 776), (781, 779, 780), (785, 783, 784), (789, 787, 788), (794, 793, 16), (797, 796, 0), (801, 799, 800), (808, 806, 807), (813, 811, 812), (816, 815, 0), (819, 818, 0), (825, 824, 0), (828, 827, 0), (832, 830, 831), (837, 836, 0), (842, 840, 841), (846, 844, 845), (850, 848, 849), (854, 852, 853), (859, 858, 0), (863, 861, 862), (867, 865, 866), (871, 870, 17), (875, 873, 874), (879, 877, 878), (883, 882, 18), (886, 885, 0), (890, 889, 0), (894, 892, 893), (898, 896, 897), (902, 900, 901), (906, 905, 19), (911, 909, 910), (915, 913, 914), (920, 918, 919), (924, 922, 923), (928, 926, 927), (932, 930, 931), (936, 934, 935), (942, 940, 941), (946, 944, 945), (950, 948, 949), (954, 953, 20), (959, 958, 21), (962, 961, 0), (969, 967, 968), (973, 972, 22), (977, 976, 23), (980, 979, 0), (987, 986, 24), (991, 990, 25), (996, 995, 26), (1000, 998, 999), (1004, 1002, 1003), (1008, 1006, 1007), (1012, 1010, 1011), (1016, 1014, 1015), (1020, 1019, 0), (1027, 1026, 0), (1032, 1031, 27), (1036, 1035, 28), (1043, 1041, 1042), (1047, 1045, 1046), (1051, 1049, 1050), (1056, 1055, 29), (1068, 1067, 30), (1074, 1072, 1073), (1080, 1079, 31), (1084, 1082, 1083), (1087, 1086, 0), (1091, 1089, 1090), (1095, 1093, 1094), (1099, 1097, 1098), (1103, 1101, 1102), (1107, 1105, 1106), (1112, 1110, 1111), (1116, 1114, 1115), (1121, 1120, 32), (1125, 1124, 33), (1129, 1128, 34), (1133, 1132, 35), (1138, 1137, 36), (1142, 1141, 37), (1146, 1145, 38), (1151, 1149, 1150), (1155, 1153, 1154), (1159, 1157, 1158), (1163, 1161, 1162), (1169, 1167, 1168), (1173, 1171, 1172), (1177, 1175, 1176), (1181, 1179, 1180), (1185, 1183, 1184), (1189, 1187, 1188), (1195, 1194, 39), (1199, 1198, 40), (1203, 1202, 41), (1213, 1211, 1212), (1220, 1219, 42), (1227, 1226, 43), (1231, 1230, 44), (1241, 1239, 1240), (1245, 1243, 1244), (1249, 1248, 45), (1253, 1251, 1252), (1257, 1255, 1256), (1260, 1259, 0), (1265, 1263, 1264), (1269, 1267, 1268), (1273, 1271, 1272), (1277, 1275, 1276), (1282, 1280, 1281), (1287, 1285, 1286), (1291, 1289, 1290), (1299, 1297, 1298), (1373, 1371, 1372), (1378, 1376, 1377), (1384, 1382, 1383), (1388, 1386, 1387), (1392, 1390, 1391), (1397, 1395, 47), (1401, 1399, 1400), (1405, 1404, 0), (1597, 1595, 1596), (1601, 1600, 48), (1605, 1604, 49), (1609, 1608, 50), (1612, 1611, 0), (1615, 1614, 0), (1619, 1618, 51), (1623, 1622, 52), (1627, 1626, 53), (1631, 1630, 54), (1634, 1633, 0), (1638, 1637, 55), (1642, 1641, 56), (1646, 1645, 57), (1650, 1649, 58), (1654, 1653, 59), (1658, 1657, 60), (1662, 1661, 61), (1665, 1664, 0), (1669, 1668, 62), (1673, 1671, 1672), (1677, 1675, 1676), (1681, 1680, 63), (1685, 1684, 64), (1689, 1688, 65), (1693, 1692, 66), (1697, 1695, 1696), (1701, 1700, 67), (1705, 1704, 68), (1709, 1708, 69), (1713, 1712, 70), (1717, 1715, 1716), (1721, 1720, 71), (1725, 1723, 1724), (1729, 1727, 1728), (1733, 1732, 72), (1738, 1737, 73), (1741, 1740, 0), (1745, 1743, 1744), (1749, 1748, 74), (1753, 1752, 75), (1757, 1756, 76), (1761, 1759, 1760), (1765, 1764, 77), (1769, 1767, 1768), (1773, 1772, 78), (1777, 1775, 1776), (1781, 1779, 1780), (1785, 1783, 1784), (1789, 1787, 1788), (1793, 1792, 79), (1797, 1795, 1796), (1801, 1799, 1800), (1805, 1804, 80), (1809, 1808, 81), (1813, 1812, 82), (1817, 1816, 83), (1821, 1819, 1820), (1825, 1823, 1824), (1829, 1827, 1828), (1833, 1832, 84), (1838, 1837, 85), (1842, 1841, 86), (1846, 1844, 1845), (1850, 1848, 1849), (1854, 1853, 87), (1858, 1856, 1857), (1862, 1860, 1861), (1866, 1865, 88), (1870, 1869, 89), (1874, 1873, 90), (1878, 1877, 91), (1882, 1881, 92), (1886, 1884, 1885), (1890, 1888, 1889), (1894, 1893, 93), (1897, 1896, 0), (1901, 1899, 1900), (1905, 1903, 1904), (1908, 1907, 0), (1912, 1910, 1911), (1916, 1915, 94), (1921, 1919, 1920), (1925, 1923, 1924), (1929, 1928, 95), (1933, 1932, 96), (1937, 1936, 97), (1941, 1940, 98), (1945, 1944, 99), (1949, 1948, 100), (1953, 1951, 1952), (1957, 1956, 101), (1961, 1960, 102), (1965, 1964, 103), (1970, 1968, 1969), (1974, 1972, 1973), (1978, 1976, 1977)] : List (Nat × Nat × Nat)).getD n (0, 0, 0)
def zcw (M : Mth) : Cond := .code (zy (mNum M)) (zby (mNum M)) (mLoc M) (zrt (mNum M))
def zkw (M : Mth) : Cond := if zsta.contains (mNum M) = true then .static (zy (mNum M)) else .instanceMethod (zy (mNum M))
def zsl (M : Mth) : Cond := .selects (zC (mCls M)) (zy (mNum M)) (zy (mNum M))
def zrk (k : Nat) (t : Option FieldType) : Bool := match k with
  | 0 => decide (t = none)
  | 1 => decide (t = some .int)
  | 2 => decide (t = some .boolean)
  | 3 => decide (t = some .long)
  | _ => match t with
    | some (.object _) => true
    | _ => false
/-- what is so of each method -/
def zmok (M : Mth) : Bool := let n := mNum M; let z := zmp n
  decide (lw_tbl[z.2.1]? = some (zkw M)) && goodWord (zkw M) &&
  (zsta.contains n || zini.contains n || (decide (lw_tbl[z.2.2]? = some (zsl M)) && goodWord (zsl M))) && decide ((zy n).cls = zC (mCls M)) && decide (mCls M < 15) &&
  plainFor (zy n) && decide ((zy n).cls ≠ "java/lang/invoke/MethodHandle") && decide ((zy n).cls ≠ "java/lang/invoke/VarHandle") &&
  decide ((parseMethodDescriptor (zy n).desc).map (fun d => d.parameters.length) = some (if zsta.contains n then mArg M else mArg M - 1)) && (zsta.contains n || Nat.ble 1 (mArg M)) &&
  decide (mLoc M ≤ 12) && zrk (mRet M) (zrt n) && (!zini.contains n || (decide ((zy n).name = "<init>") && decide (mRet M = 0))) && decide (mCls M < 11 ∨ zsta.contains n = true)
theorem ztin_1 {w : Cond} (h : w ∈ tables_1_1) : w ∈ lw_tbl := List.mem_append_right _ (List.mem_append_left _ h)
theorem ztin_2 {w : Cond} (h : w ∈ tables_1_2) : w ∈ lw_tbl := List.mem_append_right _ (List.mem_append_right _ (List.mem_append_left _ h))
theorem ztin_3 {w : Cond} (h : w ∈ tables_1_3) : w ∈ lw_tbl := List.mem_append_right _ (List.mem_append_right _ (List.mem_append_right _ (List.mem_append_left _ h)))
theorem ztin_4 {w : Cond} (h : w ∈ tables_1_4) : w ∈ lw_tbl := List.mem_append_right _ (List.mem_append_right _ (List.mem_append_right _ (List.mem_append_right _ (List.mem_append_left _ h))))
theorem ztin_5 {w : Cond} (h : w ∈ tables_1_5) : w ∈ lw_tbl := List.mem_append_right _ (List.mem_append_right _ (List.mem_append_right _ (List.mem_append_right _ (List.mem_append_right _ (List.mem_append_left _ h)))))
theorem ztin_6 {w : Cond} (h : w ∈ tables_1_6) : w ∈ lw_tbl := List.mem_append_right _ (List.mem_append_right _ (List.mem_append_right _ (List.mem_append_right _ (List.mem_append_right _ (List.mem_append_right _ (List.mem_append_left _ h))))))
theorem ztin_7 {w : Cond} (h : w ∈ tables_1_7) : w ∈ lw_tbl := List.mem_append_right _ (List.mem_append_right _ (List.mem_append_right _ (List.mem_append_right _ (List.mem_append_right _ (List.mem_append_right _ (List.mem_append_right _ (List.mem_append_left _ h)))))))
theorem ztin_8 {w : Cond} (h : w ∈ tables_1_8) : w ∈ lw_tbl := List.mem_append_right _ (List.mem_append_right _ (List.mem_append_right _ (List.mem_append_right _ (List.mem_append_right _ (List.mem_append_right _ (List.mem_append_right _ (List.mem_append_right _ (h))))))))
theorem zcd_1 : zcw M1 ∈ lw_tbl := ztin_1 (List.mem_of_getElem? (i := 25) rfl)
theorem zcd_2 : zcw M2 ∈ lw_tbl := ztin_1 (List.mem_of_getElem? (i := 33) rfl)
theorem zcd_3 : zcw M3 ∈ lw_tbl := ztin_1 (List.mem_of_getElem? (i := 76) rfl)
theorem zcd_4 : zcw M4 ∈ lw_tbl := ztin_1 (List.mem_of_getElem? (i := 86) rfl)
theorem zcd_5 : zcw M5 ∈ lw_tbl := ztin_1 (List.mem_of_getElem? (i := 169) rfl)
theorem zcd_6 : zcw M6 ∈ lw_tbl := ztin_1 (List.mem_of_getElem? (i := 192) rfl)
theorem zcd_7 : zcw M7 ∈ lw_tbl := ztin_1 (List.mem_of_getElem? (i := 227) rfl)
theorem zcd_8 : zcw M8 ∈ lw_tbl := ztin_2 (List.mem_of_getElem? (i := 43) rfl)
theorem zcd_9 : zcw M9 ∈ lw_tbl := ztin_2 (List.mem_of_getElem? (i := 83) rfl)
theorem zcd_10 : zcw M10 ∈ lw_tbl := ztin_2 (List.mem_of_getElem? (i := 104) rfl)
theorem zcd_11 : zcw M11 ∈ lw_tbl := ztin_2 (List.mem_of_getElem? (i := 195) rfl)
theorem zcd_12 : zcw M12 ∈ lw_tbl := ztin_2 (List.mem_of_getElem? (i := 199) rfl)
theorem zcd_13 : zcw M13 ∈ lw_tbl := ztin_2 (List.mem_of_getElem? (i := 203) rfl)
theorem zcd_14 : zcw M14 ∈ lw_tbl := ztin_2 (List.mem_of_getElem? (i := 207) rfl)
theorem zcd_15 : zcw M15 ∈ lw_tbl := ztin_2 (List.mem_of_getElem? (i := 211) rfl)
theorem zcd_16 : zcw M16 ∈ lw_tbl := ztin_2 (List.mem_of_getElem? (i := 215) rfl)
theorem zcd_17 : zcw M17 ∈ lw_tbl := ztin_2 (List.mem_of_getElem? (i := 219) rfl)
theorem zcd_18 : zcw M18 ∈ lw_tbl := ztin_2 (List.mem_of_getElem? (i := 223) rfl)
theorem zcd_19 : zcw M19 ∈ lw_tbl := ztin_2 (List.mem_of_getElem? (i := 226) rfl)
theorem zcd_20 : zcw M20 ∈ lw_tbl := ztin_2 (List.mem_of_getElem? (i := 230) rfl)
theorem zcd_21 : zcw M21 ∈ lw_tbl := ztin_2 (List.mem_of_getElem? (i := 234) rfl)
theorem zcd_22 : zcw M22 ∈ lw_tbl := ztin_2 (List.mem_of_getElem? (i := 237) rfl)
theorem zcd_23 : zcw M23 ∈ lw_tbl := ztin_3 (List.mem_of_getElem? (i := 0) rfl)
theorem zcd_24 : zcw M24 ∈ lw_tbl := ztin_3 (List.mem_of_getElem? (i := 4) rfl)
theorem zcd_25 : zcw M25 ∈ lw_tbl := ztin_3 (List.mem_of_getElem? (i := 8) rfl)
theorem zcd_26 : zcw M26 ∈ lw_tbl := ztin_3 (List.mem_of_getElem? (i := 11) rfl)
theorem zcd_27 : zcw M27 ∈ lw_tbl := ztin_3 (List.mem_of_getElem? (i := 15) rfl)
theorem zcd_28 : zcw M28 ∈ lw_tbl := ztin_3 (List.mem_of_getElem? (i := 21) rfl)
theorem zcd_29 : zcw M29 ∈ lw_tbl := ztin_3 (List.mem_of_getElem? (i := 24) rfl)
theorem zcd_30 : zcw M30 ∈ lw_tbl := ztin_3 (List.mem_of_getElem? (i := 28) rfl)
theorem zcd_31 : zcw M31 ∈ lw_tbl := ztin_3 (List.mem_of_getElem? (i := 32) rfl)
theorem zcd_32 : zcw M32 ∈ lw_tbl := ztin_3 (List.mem_of_getElem? (i := 36) rfl)
theorem zcd_33 : zcw M33 ∈ lw_tbl := ztin_3 (List.mem_of_getElem? (i := 40) rfl)
theorem zcd_34 : zcw M34 ∈ lw_tbl := ztin_3 (List.mem_of_getElem? (i := 44) rfl)
theorem zcd_35 : zcw M35 ∈ lw_tbl := ztin_3 (List.mem_of_getElem? (i := 50) rfl)
theorem zcd_36 : zcw M36 ∈ lw_tbl := ztin_3 (List.mem_of_getElem? (i := 54) rfl)
theorem zcd_37 : zcw M37 ∈ lw_tbl := ztin_3 (List.mem_of_getElem? (i := 58) rfl)
theorem zcd_38 : zcw M38 ∈ lw_tbl := ztin_3 (List.mem_of_getElem? (i := 62) rfl)
theorem zcd_39 : zcw M39 ∈ lw_tbl := ztin_3 (List.mem_of_getElem? (i := 66) rfl)
theorem zcd_40 : zcw M40 ∈ lw_tbl := ztin_3 (List.mem_of_getElem? (i := 74) rfl)
theorem zcd_41 : zcw M41 ∈ lw_tbl := ztin_3 (List.mem_of_getElem? (i := 78) rfl)
theorem zcd_42 : zcw M42 ∈ lw_tbl := ztin_3 (List.mem_of_getElem? (i := 82) rfl)
theorem zcd_43 : zcw M43 ∈ lw_tbl := ztin_3 (List.mem_of_getElem? (i := 88) rfl)
theorem zcd_44 : zcw M44 ∈ lw_tbl := ztin_3 (List.mem_of_getElem? (i := 92) rfl)
theorem zcd_45 : zcw M45 ∈ lw_tbl := ztin_3 (List.mem_of_getElem? (i := 98) rfl)
theorem zcd_46 : zcw M46 ∈ lw_tbl := ztin_3 (List.mem_of_getElem? (i := 102) rfl)
theorem zcd_47 : zcw M47 ∈ lw_tbl := ztin_3 (List.mem_of_getElem? (i := 109) rfl)
theorem zcd_48 : zcw M48 ∈ lw_tbl := ztin_3 (List.mem_of_getElem? (i := 113) rfl)
theorem zcd_49 : zcw M49 ∈ lw_tbl := ztin_3 (List.mem_of_getElem? (i := 119) rfl)
theorem zcd_50 : zcw M50 ∈ lw_tbl := ztin_3 (List.mem_of_getElem? (i := 123) rfl)
theorem zcd_51 : zcw M51 ∈ lw_tbl := ztin_3 (List.mem_of_getElem? (i := 127) rfl)
theorem zcd_52 : zcw M52 ∈ lw_tbl := ztin_3 (List.mem_of_getElem? (i := 131) rfl)
theorem zcd_53 : zcw M53 ∈ lw_tbl := ztin_3 (List.mem_of_getElem? (i := 135) rfl)
theorem zcd_54 : zcw M54 ∈ lw_tbl := ztin_3 (List.mem_of_getElem? (i := 140) rfl)
theorem zcd_55 : zcw M55 ∈ lw_tbl := ztin_3 (List.mem_of_getElem? (i := 144) rfl)
theorem zcd_56 : zcw M56 ∈ lw_tbl := ztin_3 (List.mem_of_getElem? (i := 148) rfl)
theorem zcd_57 : zcw M57 ∈ lw_tbl := ztin_3 (List.mem_of_getElem? (i := 156) rfl)
theorem zcd_58 : zcw M58 ∈ lw_tbl := ztin_3 (List.mem_of_getElem? (i := 160) rfl)
theorem zcd_59 : zcw M59 ∈ lw_tbl := ztin_3 (List.mem_of_getElem? (i := 164) rfl)
theorem zcd_60 : zcw M60 ∈ lw_tbl := ztin_3 (List.mem_of_getElem? (i := 168) rfl)
theorem zcd_61 : zcw M61 ∈ lw_tbl := ztin_3 (List.mem_of_getElem? (i := 173) rfl)
theorem zcd_62 : zcw M62 ∈ lw_tbl := ztin_3 (List.mem_of_getElem? (i := 177) rfl)
theorem zcd_63 : zcw M63 ∈ lw_tbl := ztin_3 (List.mem_of_getElem? (i := 181) rfl)
theorem zcd_64 : zcw M64 ∈ lw_tbl := ztin_3 (List.mem_of_getElem? (i := 185) rfl)
theorem zcd_65 : zcw M65 ∈ lw_tbl := ztin_3 (List.mem_of_getElem? (i := 189) rfl)
theorem zcd_66 : zcw M66 ∈ lw_tbl := ztin_3 (List.mem_of_getElem? (i := 193) rfl)
theorem zcd_67 : zcw M67 ∈ lw_tbl := ztin_3 (List.mem_of_getElem? (i := 197) rfl)
theorem zcd_68 : zcw M68 ∈ lw_tbl := ztin_3 (List.mem_of_getElem? (i := 201) rfl)
theorem zcd_69 : zcw M69 ∈ lw_tbl := ztin_3 (List.mem_of_getElem? (i := 205) rfl)
theorem zcd_70 : zcw M70 ∈ lw_tbl := ztin_3 (List.mem_of_getElem? (i := 210) rfl)
theorem zcd_71 : zcw M71 ∈ lw_tbl := ztin_3 (List.mem_of_getElem? (i := 213) rfl)
theorem zcd_72 : zcw M72 ∈ lw_tbl := ztin_3 (List.mem_of_getElem? (i := 217) rfl)
theorem zcd_73 : zcw M73 ∈ lw_tbl := ztin_3 (List.mem_of_getElem? (i := 224) rfl)
theorem zcd_74 : zcw M74 ∈ lw_tbl := ztin_3 (List.mem_of_getElem? (i := 229) rfl)
theorem zcd_75 : zcw M75 ∈ lw_tbl := ztin_3 (List.mem_of_getElem? (i := 232) rfl)
theorem zcd_76 : zcw M76 ∈ lw_tbl := ztin_3 (List.mem_of_getElem? (i := 235) rfl)
theorem zcd_77 : zcw M77 ∈ lw_tbl := ztin_4 (List.mem_of_getElem? (i := 1) rfl)
theorem zcd_78 : zcw M78 ∈ lw_tbl := ztin_4 (List.mem_of_getElem? (i := 4) rfl)
theorem zcd_79 : zcw M79 ∈ lw_tbl := ztin_4 (List.mem_of_getElem? (i := 8) rfl)
theorem zcd_80 : zcw M80 ∈ lw_tbl := ztin_4 (List.mem_of_getElem? (i := 13) rfl)
theorem zcd_81 : zcw M81 ∈ lw_tbl := ztin_4 (List.mem_of_getElem? (i := 18) rfl)
theorem zcd_82 : zcw M82 ∈ lw_tbl := ztin_4 (List.mem_of_getElem? (i := 22) rfl)
theorem zcd_83 : zcw M83 ∈ lw_tbl := ztin_4 (List.mem_of_getElem? (i := 26) rfl)
theorem zcd_84 : zcw M84 ∈ lw_tbl := ztin_4 (List.mem_of_getElem? (i := 30) rfl)
theorem zcd_85 : zcw M85 ∈ lw_tbl := ztin_4 (List.mem_of_getElem? (i := 35) rfl)
theorem zcd_86 : zcw M86 ∈ lw_tbl := ztin_4 (List.mem_of_getElem? (i := 39) rfl)
theorem zcd_87 : zcw M87 ∈ lw_tbl := ztin_4 (List.mem_of_getElem? (i := 43) rfl)
theorem zcd_88 : zcw M88 ∈ lw_tbl := ztin_4 (List.mem_of_getElem? (i := 47) rfl)
theorem zcd_89 : zcw M89 ∈ lw_tbl := ztin_4 (List.mem_of_getElem? (i := 51) rfl)
theorem zcd_90 : zcw M90 ∈ lw_tbl := ztin_4 (List.mem_of_getElem? (i := 55) rfl)
theorem zcd_91 : zcw M91 ∈ lw_tbl := ztin_4 (List.mem_of_getElem? (i := 59) rfl)
theorem zcd_92 : zcw M92 ∈ lw_tbl := ztin_4 (List.mem_of_getElem? (i := 62) rfl)
theorem zcd_93 : zcw M93 ∈ lw_tbl := ztin_4 (List.mem_of_getElem? (i := 66) rfl)
theorem zcd_94 : zcw M94 ∈ lw_tbl := ztin_4 (List.mem_of_getElem? (i := 70) rfl)
theorem zcd_95 : zcw M95 ∈ lw_tbl := ztin_4 (List.mem_of_getElem? (i := 74) rfl)
theorem zcd_96 : zcw M96 ∈ lw_tbl := ztin_4 (List.mem_of_getElem? (i := 78) rfl)
theorem zcd_97 : zcw M97 ∈ lw_tbl := ztin_4 (List.mem_of_getElem? (i := 82) rfl)
theorem zcd_98 : zcw M98 ∈ lw_tbl := ztin_4 (List.mem_of_getElem? (i := 87) rfl)
theorem zcd_99 : zcw M99 ∈ lw_tbl := ztin_4 (List.mem_of_getElem? (i := 91) rfl)
theorem zcd_100 : zcw M100 ∈ lw_tbl := ztin_4 (List.mem_of_getElem? (i := 96) rfl)
theorem zcd_101 : zcw M101 ∈ lw_tbl := ztin_4 (List.mem_of_getElem? (i := 100) rfl)
theorem zcd_102 : zcw M102 ∈ lw_tbl := ztin_4 (List.mem_of_getElem? (i := 104) rfl)
theorem zcd_103 : zcw M103 ∈ lw_tbl := ztin_4 (List.mem_of_getElem? (i := 108) rfl)
theorem zcd_104 : zcw M104 ∈ lw_tbl := ztin_4 (List.mem_of_getElem? (i := 112) rfl)
theorem zcd_105 : zcw M105 ∈ lw_tbl := ztin_4 (List.mem_of_getElem? (i := 118) rfl)
theorem zcd_106 : zcw M106 ∈ lw_tbl := ztin_4 (List.mem_of_getElem? (i := 122) rfl)
theorem zcd_107 : zcw M107 ∈ lw_tbl := ztin_4 (List.mem_of_getElem? (i := 126) rfl)
theorem zcd_108 : zcw M108 ∈ lw_tbl := ztin_4 (List.mem_of_getElem? (i := 130) rfl)
theorem zcd_109 : zcw M109 ∈ lw_tbl := ztin_4 (List.mem_of_getElem? (i := 135) rfl)
theorem zcd_110 : zcw M110 ∈ lw_tbl := ztin_4 (List.mem_of_getElem? (i := 138) rfl)
theorem zcd_111 : zcw M111 ∈ lw_tbl := ztin_4 (List.mem_of_getElem? (i := 145) rfl)
theorem zcd_112 : zcw M112 ∈ lw_tbl := ztin_4 (List.mem_of_getElem? (i := 149) rfl)
theorem zcd_113 : zcw M113 ∈ lw_tbl := ztin_4 (List.mem_of_getElem? (i := 153) rfl)
theorem zcd_114 : zcw M114 ∈ lw_tbl := ztin_4 (List.mem_of_getElem? (i := 156) rfl)
theorem zcd_115 : zcw M115 ∈ lw_tbl := ztin_4 (List.mem_of_getElem? (i := 163) rfl)
theorem zcd_116 : zcw M116 ∈ lw_tbl := ztin_4 (List.mem_of_getElem? (i := 167) rfl)
theorem zcd_117 : zcw M117 ∈ lw_tbl := ztin_4 (List.mem_of_getElem? (i := 172) rfl)
theorem zcd_118 : zcw M118 ∈ lw_tbl := ztin_4 (List.mem_of_getElem? (i := 176) rfl)
theorem zcd_119 : zcw M119 ∈ lw_tbl := ztin_4 (List.mem_of_getElem? (i := 180) rfl)
theorem zcd_120 : zcw M120 ∈ lw_tbl := ztin_4 (List.mem_of_getElem? (i := 184) rfl)
theorem zcd_121 : zcw M121 ∈ lw_tbl := ztin_4 (List.mem_of_getElem? (i := 188) rfl)
theorem zcd_122 : zcw M122 ∈ lw_tbl := ztin_4 (List.mem_of_getElem? (i := 192) rfl)
theorem zcd_123 : zcw M123 ∈ lw_tbl := ztin_4 (List.mem_of_getElem? (i := 196) rfl)
theorem zcd_124 : zcw M124 ∈ lw_tbl := ztin_4 (List.mem_of_getElem? (i := 203) rfl)
theorem zcd_125 : zcw M125 ∈ lw_tbl := ztin_4 (List.mem_of_getElem? (i := 208) rfl)
theorem zcd_126 : zcw M126 ∈ lw_tbl := ztin_4 (List.mem_of_getElem? (i := 212) rfl)
theorem zcd_127 : zcw M127 ∈ lw_tbl := ztin_4 (List.mem_of_getElem? (i := 219) rfl)
theorem zcd_128 : zcw M128 ∈ lw_tbl := ztin_4 (List.mem_of_getElem? (i := 223) rfl)
theorem zcd_129 : zcw M129 ∈ lw_tbl := ztin_4 (List.mem_of_getElem? (i := 227) rfl)
theorem zcd_130 : zcw M130 ∈ lw_tbl := ztin_4 (List.mem_of_getElem? (i := 232) rfl)
theorem zcd_131 : zcw M131 ∈ lw_tbl := ztin_5 (List.mem_of_getElem? (i := 4) rfl)
theorem zcd_132 : zcw M132 ∈ lw_tbl := ztin_5 (List.mem_of_getElem? (i := 10) rfl)
theorem zcd_133 : zcw M133 ∈ lw_tbl := ztin_5 (List.mem_of_getElem? (i := 16) rfl)
theorem zcd_134 : zcw M134 ∈ lw_tbl := ztin_5 (List.mem_of_getElem? (i := 20) rfl)
theorem zcd_135 : zcw M135 ∈ lw_tbl := ztin_5 (List.mem_of_getElem? (i := 23) rfl)
theorem zcd_136 : zcw M136 ∈ lw_tbl := ztin_5 (List.mem_of_getElem? (i := 27) rfl)
theorem zcd_137 : zcw M137 ∈ lw_tbl := ztin_5 (List.mem_of_getElem? (i := 31) rfl)
theorem zcd_138 : zcw M138 ∈ lw_tbl := ztin_5 (List.mem_of_getElem? (i := 35) rfl)
theorem zcd_139 : zcw M139 ∈ lw_tbl := ztin_5 (List.mem_of_getElem? (i := 39) rfl)
theorem zcd_140 : zcw M140 ∈ lw_tbl := ztin_5 (List.mem_of_getElem? (i := 43) rfl)
theorem zcd_141 : zcw M141 ∈ lw_tbl := ztin_5 (List.mem_of_getElem? (i := 48) rfl)
theorem zcd_142 : zcw M142 ∈ lw_tbl := ztin_5 (List.mem_of_getElem? (i := 52) rfl)
theorem zcd_143 : zcw M143 ∈ lw_tbl := ztin_5 (List.mem_of_getElem? (i := 57) rfl)
theorem zcd_144 : zcw M144 ∈ lw_tbl := ztin_5 (List.mem_of_getElem? (i := 61) rfl)
theorem zcd_145 : zcw M145 ∈ lw_tbl := ztin_5 (List.mem_of_getElem? (i := 65) rfl)
theorem zcd_146 : zcw M146 ∈ lw_tbl := ztin_5 (List.mem_of_getElem? (i := 69) rfl)
theorem zcd_147 : zcw M147 ∈ lw_tbl := ztin_5 (List.mem_of_getElem? (i := 74) rfl)
theorem zcd_148 : zcw M148 ∈ lw_tbl := ztin_5 (List.mem_of_getElem? (i := 78) rfl)
theorem zcd_149 : zcw M149 ∈ lw_tbl := ztin_5 (List.mem_of_getElem? (i := 82) rfl)
theorem zcd_150 : zcw M150 ∈ lw_tbl := ztin_5 (List.mem_of_getElem? (i := 87) rfl)
theorem zcd_151 : zcw M151 ∈ lw_tbl := ztin_5 (List.mem_of_getElem? (i := 91) rfl)
theorem zcd_152 : zcw M152 ∈ lw_tbl := ztin_5 (List.mem_of_getElem? (i := 95) rfl)
theorem zcd_153 : zcw M153 ∈ lw_tbl := ztin_5 (List.mem_of_getElem? (i := 99) rfl)
theorem zcd_154 : zcw M154 ∈ lw_tbl := ztin_5 (List.mem_of_getElem? (i := 105) rfl)
theorem zcd_155 : zcw M155 ∈ lw_tbl := ztin_5 (List.mem_of_getElem? (i := 109) rfl)
theorem zcd_156 : zcw M156 ∈ lw_tbl := ztin_5 (List.mem_of_getElem? (i := 113) rfl)
theorem zcd_157 : zcw M157 ∈ lw_tbl := ztin_5 (List.mem_of_getElem? (i := 117) rfl)
theorem zcd_158 : zcw M158 ∈ lw_tbl := ztin_5 (List.mem_of_getElem? (i := 121) rfl)
theorem zcd_159 : zcw M159 ∈ lw_tbl := ztin_5 (List.mem_of_getElem? (i := 125) rfl)
theorem zcd_160 : zcw M160 ∈ lw_tbl := ztin_5 (List.mem_of_getElem? (i := 131) rfl)
theorem zcd_161 : zcw M161 ∈ lw_tbl := ztin_5 (List.mem_of_getElem? (i := 135) rfl)
theorem zcd_162 : zcw M162 ∈ lw_tbl := ztin_5 (List.mem_of_getElem? (i := 139) rfl)
theorem zcd_163 : zcw M163 ∈ lw_tbl := ztin_5 (List.mem_of_getElem? (i := 149) rfl)
theorem zcd_164 : zcw M164 ∈ lw_tbl := ztin_5 (List.mem_of_getElem? (i := 156) rfl)
theorem zcd_165 : zcw M165 ∈ lw_tbl := ztin_5 (List.mem_of_getElem? (i := 163) rfl)
theorem zcd_166 : zcw M166 ∈ lw_tbl := ztin_5 (List.mem_of_getElem? (i := 167) rfl)
theorem zcd_167 : zcw M167 ∈ lw_tbl := ztin_5 (List.mem_of_getElem? (i := 177) rfl)
theorem zcd_168 : zcw M168 ∈ lw_tbl := ztin_5 (List.mem_of_getElem? (i := 181) rfl)
theorem zcd_169 : zcw M169 ∈ lw_tbl := ztin_5 (List.mem_of_getElem? (i := 185) rfl)
theorem zcd_170 : zcw M170 ∈ lw_tbl := ztin_5 (List.mem_of_getElem? (i := 189) rfl)
theorem zcd_171 : zcw M171 ∈ lw_tbl := ztin_5 (List.mem_of_getElem? (i := 193) rfl)
theorem zcd_172 : zcw M172 ∈ lw_tbl := ztin_5 (List.mem_of_getElem? (i := 196) rfl)
theorem zcd_173 : zcw M173 ∈ lw_tbl := ztin_5 (List.mem_of_getElem? (i := 201) rfl)
theorem zcd_174 : zcw M174 ∈ lw_tbl := ztin_5 (List.mem_of_getElem? (i := 205) rfl)
theorem zcd_175 : zcw M175 ∈ lw_tbl := ztin_5 (List.mem_of_getElem? (i := 209) rfl)
theorem zcd_176 : zcw M176 ∈ lw_tbl := ztin_5 (List.mem_of_getElem? (i := 213) rfl)
theorem zcd_177 : zcw M177 ∈ lw_tbl := ztin_5 (List.mem_of_getElem? (i := 218) rfl)
theorem zcd_178 : zcw M178 ∈ lw_tbl := ztin_5 (List.mem_of_getElem? (i := 223) rfl)
theorem zcd_179 : zcw M179 ∈ lw_tbl := ztin_5 (List.mem_of_getElem? (i := 227) rfl)
theorem zcd_180 : zcw M180 ∈ lw_tbl := ztin_5 (List.mem_of_getElem? (i := 235) rfl)
theorem zcd_181 : zcw M181 ∈ lw_tbl := ztin_6 (List.mem_of_getElem? (i := 69) rfl)
theorem zcd_182 : zcw M182 ∈ lw_tbl := ztin_6 (List.mem_of_getElem? (i := 74) rfl)
theorem zcd_183 : zcw M183 ∈ lw_tbl := ztin_6 (List.mem_of_getElem? (i := 80) rfl)
theorem zcd_184 : zcw M184 ∈ lw_tbl := ztin_6 (List.mem_of_getElem? (i := 84) rfl)
theorem zcd_185 : zcw M185 ∈ lw_tbl := ztin_6 (List.mem_of_getElem? (i := 88) rfl)
theorem zcd_186 : zcw M186 ∈ lw_tbl := ztin_6 (List.mem_of_getElem? (i := 93) rfl)
theorem zcd_187 : zcw M187 ∈ lw_tbl := ztin_6 (List.mem_of_getElem? (i := 97) rfl)
theorem zcd_188 : zcw M188 ∈ lw_tbl := ztin_6 (List.mem_of_getElem? (i := 101) rfl)
theorem zcd_189 : zcw M189 ∈ lw_tbl := ztin_7 (List.mem_of_getElem? (i := 53) rfl)
theorem zcd_190 : zcw M190 ∈ lw_tbl := ztin_7 (List.mem_of_getElem? (i := 57) rfl)
theorem zcd_191 : zcw M191 ∈ lw_tbl := ztin_7 (List.mem_of_getElem? (i := 61) rfl)
theorem zcd_192 : zcw M192 ∈ lw_tbl := ztin_7 (List.mem_of_getElem? (i := 65) rfl)
theorem zcd_193 : zcw M193 ∈ lw_tbl := ztin_7 (List.mem_of_getElem? (i := 68) rfl)
theorem zcd_194 : zcw M194 ∈ lw_tbl := ztin_7 (List.mem_of_getElem? (i := 71) rfl)
theorem zcd_195 : zcw M195 ∈ lw_tbl := ztin_7 (List.mem_of_getElem? (i := 75) rfl)
theorem zcd_196 : zcw M196 ∈ lw_tbl := ztin_7 (List.mem_of_getElem? (i := 79) rfl)
theorem zcd_197 : zcw M197 ∈ lw_tbl := ztin_7 (List.mem_of_getElem? (i := 83) rfl)
theorem zcd_198 : zcw M198 ∈ lw_tbl := ztin_7 (List.mem_of_getElem? (i := 87) rfl)
theorem zcd_199 : zcw M199 ∈ lw_tbl := ztin_7 (List.mem_of_getElem? (i := 90) rfl)
theorem zcd_200 : zcw M200 ∈ lw_tbl := ztin_7 (List.mem_of_getElem? (i := 94) rfl)
theorem zcd_201 : zcw M201 ∈ lw_tbl := ztin_7 (List.mem_of_getElem? (i := 98) rfl)
theorem zcd_202 : zcw M202 ∈ lw_tbl := ztin_7 (List.mem_of_getElem? (i := 102) rfl)
theorem zcd_203 : zcw M203 ∈ lw_tbl := ztin_7 (List.mem_of_getElem? (i := 106) rfl)
theorem zcd_204 : zcw M204 ∈ lw_tbl := ztin_7 (List.mem_of_getElem? (i := 110) rfl)
theorem zcd_205 : zcw M205 ∈ lw_tbl := ztin_7 (List.mem_of_getElem? (i := 114) rfl)
theorem zcd_206 : zcw M206 ∈ lw_tbl := ztin_7 (List.mem_of_getElem? (i := 118) rfl)
theorem zcd_207 : zcw M207 ∈ lw_tbl := ztin_7 (List.mem_of_getElem? (i := 121) rfl)
theorem zcd_208 : zcw M208 ∈ lw_tbl := ztin_7 (List.mem_of_getElem? (i := 125) rfl)
theorem zcd_209 : zcw M209 ∈ lw_tbl := ztin_7 (List.mem_of_getElem? (i := 129) rfl)
theorem zcd_210 : zcw M210 ∈ lw_tbl := ztin_7 (List.mem_of_getElem? (i := 133) rfl)
theorem zcd_211 : zcw M211 ∈ lw_tbl := ztin_7 (List.mem_of_getElem? (i := 137) rfl)
theorem zcd_212 : zcw M212 ∈ lw_tbl := ztin_7 (List.mem_of_getElem? (i := 141) rfl)
theorem zcd_213 : zcw M213 ∈ lw_tbl := ztin_7 (List.mem_of_getElem? (i := 145) rfl)
theorem zcd_214 : zcw M214 ∈ lw_tbl := ztin_7 (List.mem_of_getElem? (i := 149) rfl)
theorem zcd_215 : zcw M215 ∈ lw_tbl := ztin_7 (List.mem_of_getElem? (i := 153) rfl)
theorem zcd_216 : zcw M216 ∈ lw_tbl := ztin_7 (List.mem_of_getElem? (i := 157) rfl)
theorem zcd_217 : zcw M217 ∈ lw_tbl := ztin_7 (List.mem_of_getElem? (i := 161) rfl)
theorem zcd_218 : zcw M218 ∈ lw_tbl := ztin_7 (List.mem_of_getElem? (i := 165) rfl)
theorem zcd_219 : zcw M219 ∈ lw_tbl := ztin_7 (List.mem_of_getElem? (i := 169) rfl)
theorem zcd_220 : zcw M220 ∈ lw_tbl := ztin_7 (List.mem_of_getElem? (i := 173) rfl)
theorem zcd_221 : zcw M221 ∈ lw_tbl := ztin_7 (List.mem_of_getElem? (i := 177) rfl)
theorem zcd_222 : zcw M222 ∈ lw_tbl := ztin_7 (List.mem_of_getElem? (i := 181) rfl)
theorem zcd_223 : zcw M223 ∈ lw_tbl := ztin_7 (List.mem_of_getElem? (i := 185) rfl)
theorem zcd_224 : zcw M224 ∈ lw_tbl := ztin_7 (List.mem_of_getElem? (i := 189) rfl)
theorem zcd_225 : zcw M225 ∈ lw_tbl := ztin_7 (List.mem_of_getElem? (i := 194) rfl)
theorem zcd_226 : zcw M226 ∈ lw_tbl := ztin_7 (List.mem_of_getElem? (i := 197) rfl)
theorem zcd_227 : zcw M227 ∈ lw_tbl := ztin_7 (List.mem_of_getElem? (i := 201) rfl)
theorem zcd_228 : zcw M228 ∈ lw_tbl := ztin_7 (List.mem_of_getElem? (i := 205) rfl)
theorem zcd_229 : zcw M229 ∈ lw_tbl := ztin_7 (List.mem_of_getElem? (i := 209) rfl)
theorem zcd_230 : zcw M230 ∈ lw_tbl := ztin_7 (List.mem_of_getElem? (i := 213) rfl)
theorem zcd_231 : zcw M231 ∈ lw_tbl := ztin_7 (List.mem_of_getElem? (i := 217) rfl)
theorem zcd_232 : zcw M232 ∈ lw_tbl := ztin_7 (List.mem_of_getElem? (i := 221) rfl)
theorem zcd_233 : zcw M233 ∈ lw_tbl := ztin_7 (List.mem_of_getElem? (i := 225) rfl)
theorem zcd_234 : zcw M234 ∈ lw_tbl := ztin_7 (List.mem_of_getElem? (i := 229) rfl)
theorem zcd_235 : zcw M235 ∈ lw_tbl := ztin_7 (List.mem_of_getElem? (i := 233) rfl)
theorem zcd_236 : zcw M236 ∈ lw_tbl := ztin_7 (List.mem_of_getElem? (i := 237) rfl)
theorem zcd_237 : zcw M237 ∈ lw_tbl := ztin_8 (List.mem_of_getElem? (i := 1) rfl)
theorem zcd_238 : zcw M238 ∈ lw_tbl := ztin_8 (List.mem_of_getElem? (i := 5) rfl)
theorem zcd_239 : zcw M239 ∈ lw_tbl := ztin_8 (List.mem_of_getElem? (i := 9) rfl)
theorem zcd_240 : zcw M240 ∈ lw_tbl := ztin_8 (List.mem_of_getElem? (i := 13) rfl)
theorem zcd_241 : zcw M241 ∈ lw_tbl := ztin_8 (List.mem_of_getElem? (i := 17) rfl)
theorem zcd_242 : zcw M242 ∈ lw_tbl := ztin_8 (List.mem_of_getElem? (i := 21) rfl)
theorem zcd_243 : zcw M243 ∈ lw_tbl := ztin_8 (List.mem_of_getElem? (i := 25) rfl)
theorem zcd_244 : zcw M244 ∈ lw_tbl := ztin_8 (List.mem_of_getElem? (i := 29) rfl)
theorem zcd_245 : zcw M245 ∈ lw_tbl := ztin_8 (List.mem_of_getElem? (i := 33) rfl)
theorem zcd_246 : zcw M246 ∈ lw_tbl := ztin_8 (List.mem_of_getElem? (i := 37) rfl)
theorem zcd_247 : zcw M247 ∈ lw_tbl := ztin_8 (List.mem_of_getElem? (i := 41) rfl)
theorem zcd_248 : zcw M248 ∈ lw_tbl := ztin_8 (List.mem_of_getElem? (i := 45) rfl)
theorem zcd_249 : zcw M249 ∈ lw_tbl := ztin_8 (List.mem_of_getElem? (i := 49) rfl)
theorem zcd_250 : zcw M250 ∈ lw_tbl := ztin_8 (List.mem_of_getElem? (i := 54) rfl)
theorem zcd_251 : zcw M251 ∈ lw_tbl := ztin_8 (List.mem_of_getElem? (i := 58) rfl)
theorem zcd_252 : zcw M252 ∈ lw_tbl := ztin_8 (List.mem_of_getElem? (i := 62) rfl)
theorem zcd_253 : zcw M253 ∈ lw_tbl := ztin_8 (List.mem_of_getElem? (i := 66) rfl)
theorem zcd_254 : zcw M254 ∈ lw_tbl := ztin_8 (List.mem_of_getElem? (i := 70) rfl)
theorem zcd_255 : zcw M255 ∈ lw_tbl := ztin_8 (List.mem_of_getElem? (i := 74) rfl)
theorem zcd_256 : zcw M256 ∈ lw_tbl := ztin_8 (List.mem_of_getElem? (i := 78) rfl)
theorem zcd_257 : zcw M257 ∈ lw_tbl := ztin_8 (List.mem_of_getElem? (i := 82) rfl)
theorem zcd_258 : zcw M258 ∈ lw_tbl := ztin_8 (List.mem_of_getElem? (i := 86) rfl)
theorem zcd_259 : zcw M259 ∈ lw_tbl := ztin_8 (List.mem_of_getElem? (i := 90) rfl)
theorem zcd_260 : zcw M260 ∈ lw_tbl := ztin_8 (List.mem_of_getElem? (i := 94) rfl)
theorem zcd_261 : zcw M261 ∈ lw_tbl := ztin_8 (List.mem_of_getElem? (i := 98) rfl)
theorem zcd_262 : zcw M262 ∈ lw_tbl := ztin_8 (List.mem_of_getElem? (i := 102) rfl)
theorem zcd_263 : zcw M263 ∈ lw_tbl := ztin_8 (List.mem_of_getElem? (i := 106) rfl)
theorem zcd_264 : zcw M264 ∈ lw_tbl := ztin_8 (List.mem_of_getElem? (i := 110) rfl)
theorem zcd_265 : zcw M265 ∈ lw_tbl := ztin_8 (List.mem_of_getElem? (i := 113) rfl)
theorem zcd_266 : zcw M266 ∈ lw_tbl := ztin_8 (List.mem_of_getElem? (i := 117) rfl)
theorem zcd_267 : zcw M267 ∈ lw_tbl := ztin_8 (List.mem_of_getElem? (i := 121) rfl)
theorem zcd_268 : zcw M268 ∈ lw_tbl := ztin_8 (List.mem_of_getElem? (i := 124) rfl)
theorem zcd_269 : zcw M269 ∈ lw_tbl := ztin_8 (List.mem_of_getElem? (i := 128) rfl)
theorem zcd_270 : zcw M270 ∈ lw_tbl := ztin_8 (List.mem_of_getElem? (i := 132) rfl)
theorem zcd_271 : zcw M271 ∈ lw_tbl := ztin_8 (List.mem_of_getElem? (i := 137) rfl)
theorem zcd_272 : zcw M272 ∈ lw_tbl := ztin_8 (List.mem_of_getElem? (i := 141) rfl)
theorem zcd_273 : zcw M273 ∈ lw_tbl := ztin_8 (List.mem_of_getElem? (i := 145) rfl)
theorem zcd_274 : zcw M274 ∈ lw_tbl := ztin_8 (List.mem_of_getElem? (i := 149) rfl)
theorem zcd_275 : zcw M275 ∈ lw_tbl := ztin_8 (List.mem_of_getElem? (i := 153) rfl)
theorem zcd_276 : zcw M276 ∈ lw_tbl := ztin_8 (List.mem_of_getElem? (i := 157) rfl)
theorem zcd_277 : zcw M277 ∈ lw_tbl := ztin_8 (List.mem_of_getElem? (i := 161) rfl)
theorem zcd_278 : zcw M278 ∈ lw_tbl := ztin_8 (List.mem_of_getElem? (i := 165) rfl)
theorem zcd_279 : zcw M279 ∈ lw_tbl := ztin_8 (List.mem_of_getElem? (i := 169) rfl)
theorem zcd_280 : zcw M280 ∈ lw_tbl := ztin_8 (List.mem_of_getElem? (i := 173) rfl)
theorem zcd_281 : zcw M281 ∈ lw_tbl := ztin_8 (List.mem_of_getElem? (i := 177) rfl)
theorem zcd_282 : zcw M282 ∈ lw_tbl := ztin_8 (List.mem_of_getElem? (i := 181) rfl)
theorem zcd_283 : zcw M283 ∈ lw_tbl := ztin_8 (List.mem_of_getElem? (i := 186) rfl)
theorem zcd_284 : zcw M284 ∈ lw_tbl := ztin_8 (List.mem_of_getElem? (i := 190) rfl)
theorem zcd_285 : zcw M285 ∈ lw_tbl := ztin_8 (List.mem_of_getElem? (i := 194) rfl)
theorem zmok_1 : ((zMs.drop 1).take 24).all zmok = true := by decide +kernel
theorem zmok_25 : ((zMs.drop 25).take 24).all zmok = true := by decide +kernel
theorem zmok_49 : ((zMs.drop 49).take 24).all zmok = true := by decide +kernel
theorem zmok_73 : ((zMs.drop 73).take 24).all zmok = true := by decide +kernel
theorem zmok_97 : ((zMs.drop 97).take 24).all zmok = true := by decide +kernel
theorem zmok_121 : ((zMs.drop 121).take 24).all zmok = true := by decide +kernel
theorem zmok_145 : ((zMs.drop 145).take 24).all zmok = true := by decide +kernel
theorem zmok_169 : ((zMs.drop 169).take 24).all zmok = true := by decide +kernel
theorem zmok_193 : ((zMs.drop 193).take 24).all zmok = true := by decide +kernel
theorem zmok_217 : ((zMs.drop 217).take 24).all zmok = true := by decide +kernel
theorem zmok_241 : ((zMs.drop 241).take 24).all zmok = true := by decide +kernel
theorem zmok_265 : ((zMs.drop 265).take 24).all zmok = true := by decide +kernel
theorem zcut {Pr : Mth → Prop} (l : List Mth) (k : Nat) (h1 : ∀ M ∈ l.take k, Pr M) (h2 : ∀ M ∈ l.drop k, Pr M) : ∀ M ∈ l, Pr M := by
  intro M hM
  rw [← List.take_append_drop k l] at hM
  rcases List.mem_append.mp hM with h | h
  · exact h1 M h
  · exact h2 M h
theorem zmok_all : ∀ M ∈ zMs.drop 1, zmok M = true := zcut (zMs.drop 1) 24 (List.all_eq_true.mp zmok_1) (show ∀ M ∈ zMs.drop 25, _ from zcut (zMs.drop 25) 24 (List.all_eq_true.mp zmok_25) (show ∀ M ∈ zMs.drop 49, _ from zcut (zMs.drop 49) 24 (List.all_eq_true.mp zmok_49) (show ∀ M ∈ zMs.drop 73, _ from zcut (zMs.drop 73) 24 (List.all_eq_true.mp zmok_73) (show ∀ M ∈ zMs.drop 97, _ from zcut (zMs.drop 97) 24 (List.all_eq_true.mp zmok_97) (show ∀ M ∈ zMs.drop 121, _ from zcut (zMs.drop 121) 24 (List.all_eq_true.mp zmok_121) (show ∀ M ∈ zMs.drop 145, _ from zcut (zMs.drop 145) 24 (List.all_eq_true.mp zmok_145) (show ∀ M ∈ zMs.drop 169, _ from zcut (zMs.drop 169) 24 (List.all_eq_true.mp zmok_169) (show ∀ M ∈ zMs.drop 193, _ from zcut (zMs.drop 193) 24 (List.all_eq_true.mp zmok_193) (show ∀ M ∈ zMs.drop 217, _ from zcut (zMs.drop 217) 24 (List.all_eq_true.mp zmok_217) (show ∀ M ∈ zMs.drop 241, _ from zcut (zMs.drop 241) 24 (List.all_eq_true.mp zmok_241) (show ∀ M ∈ zMs.drop 265, _ from zcut (zMs.drop 265) 24 (List.all_eq_true.mp zmok_265) (show ∀ M ∈ zMs.drop 289, _ from (fun M h => absurd h List.not_mem_nil)))))))))))))
theorem zcds_1 : ∀ M ∈ (zMs.drop 1).take 24, zcw M ∈ lw_tbl := List.forall_mem_cons.mpr ⟨zcd_1, List.forall_mem_cons.mpr ⟨zcd_2, List.forall_mem_cons.mpr ⟨zcd_3, List.forall_mem_cons.mpr ⟨zcd_4, List.forall_mem_cons.mpr ⟨zcd_5, List.forall_mem_cons.mpr ⟨zcd_6, List.forall_mem_cons.mpr ⟨zcd_7, List.forall_mem_cons.mpr ⟨zcd_8, List.forall_mem_cons.mpr ⟨zcd_9, List.forall_mem_cons.mpr ⟨zcd_10, List.forall_mem_cons.mpr ⟨zcd_11, List.forall_mem_cons.mpr ⟨zcd_12, List.forall_mem_cons.mpr ⟨zcd_13, List.forall_mem_cons.mpr ⟨zcd_14, List.forall_mem_cons.mpr ⟨zcd_15, List.forall_mem_cons.mpr ⟨zcd_16, List.forall_mem_cons.mpr ⟨zcd_17, List.forall_mem_cons.mpr ⟨zcd_18, List.forall_mem_cons.mpr ⟨zcd_19, List.forall_mem_cons.mpr ⟨zcd_20, List.forall_mem_cons.mpr ⟨zcd_21, List.forall_mem_cons.mpr ⟨zcd_22, List.forall_mem_cons.mpr ⟨zcd_23, List.forall_mem_cons.mpr ⟨zcd_24, fun _ h => absurd h List.not_mem_nil⟩⟩⟩⟩⟩⟩⟩⟩⟩⟩⟩⟩⟩⟩⟩⟩⟩⟩⟩⟩⟩⟩⟩⟩
theorem zcds_25 : ∀ M ∈ (zMs.drop 25).take 24, zcw M ∈ lw_tbl := List.forall_mem_cons.mpr ⟨zcd_25, List.forall_mem_cons.mpr ⟨zcd_26, List.forall_mem_cons.mpr ⟨zcd_27, List.forall_mem_cons.mpr ⟨zcd_28, List.forall_mem_cons.mpr ⟨zcd_29, List.forall_mem_cons.mpr ⟨zcd_30, List.forall_mem_cons.mpr ⟨zcd_31, List.forall_mem_cons.mpr ⟨zcd_32, List.forall_mem_cons.mpr ⟨zcd_33, List.forall_mem_cons.mpr ⟨zcd_34, List.forall_mem_cons.mpr ⟨zcd_35, List.forall_mem_cons.mpr ⟨zcd_36, List.forall_mem_cons.mpr ⟨zcd_37, List.forall_mem_cons.mpr ⟨zcd_38, List.forall_mem_cons.mpr ⟨zcd_39, List.forall_mem_cons.mpr ⟨zcd_40, List.forall_mem_cons.mpr ⟨zcd_41, List.forall_mem_cons.mpr ⟨zcd_42, List.forall_mem_cons.mpr ⟨zcd_43, List.forall_mem_cons.mpr ⟨zcd_44, List.forall_mem_cons.mpr ⟨zcd_45, List.forall_mem_cons.mpr ⟨zcd_46, List.forall_mem_cons.mpr ⟨zcd_47, List.forall_mem_cons.mpr ⟨zcd_48, fun _ h => absurd h List.not_mem_nil⟩⟩⟩⟩⟩⟩⟩⟩⟩⟩⟩⟩⟩⟩⟩⟩⟩⟩⟩⟩⟩⟩⟩⟩
theorem zcds_49 : ∀ M ∈ (zMs.drop 49).take 24, zcw M ∈ lw_tbl := List.forall_mem_cons.mpr ⟨zcd_49, List.forall_mem_cons.mpr ⟨zcd_50, List.forall_mem_cons.mpr ⟨zcd_51, List.forall_mem_cons.mpr ⟨zcd_52, List.forall_mem_cons.mpr ⟨zcd_53, List.forall_mem_cons.mpr ⟨zcd_54, List.forall_mem_cons.mpr ⟨zcd_55, List.forall_mem_cons.mpr ⟨zcd_56, List.forall_mem_cons.mpr ⟨zcd_57, List.forall_mem_cons.mpr ⟨zcd_58, List.forall_mem_cons.mpr ⟨zcd_59, List.forall_mem_cons.mpr ⟨zcd_60, List.forall_mem_cons.mpr ⟨zcd_61, List.forall_mem_cons.mpr ⟨zcd_62, List.forall_mem_cons.mpr ⟨zcd_63, List.forall_mem_cons.mpr ⟨zcd_64, List.forall_mem_cons.mpr ⟨zcd_65, List.forall_mem_cons.mpr ⟨zcd_66, List.forall_mem_cons.mpr ⟨zcd_67, List.forall_mem_cons.mpr ⟨zcd_68, List.forall_mem_cons.mpr ⟨zcd_69, List.forall_mem_cons.mpr ⟨zcd_70, List.forall_mem_cons.mpr ⟨zcd_71, List.forall_mem_cons.mpr ⟨zcd_72, fun _ h => absurd h List.not_mem_nil⟩⟩⟩⟩⟩⟩⟩⟩⟩⟩⟩⟩⟩⟩⟩⟩⟩⟩⟩⟩⟩⟩⟩⟩
theorem zcds_73 : ∀ M ∈ (zMs.drop 73).take 24, zcw M ∈ lw_tbl := List.forall_mem_cons.mpr ⟨zcd_73, List.forall_mem_cons.mpr ⟨zcd_74, List.forall_mem_cons.mpr ⟨zcd_75, List.forall_mem_cons.mpr ⟨zcd_76, List.forall_mem_cons.mpr ⟨zcd_77, List.forall_mem_cons.mpr ⟨zcd_78, List.forall_mem_cons.mpr ⟨zcd_79, List.forall_mem_cons.mpr ⟨zcd_80, List.forall_mem_cons.mpr ⟨zcd_81, List.forall_mem_cons.mpr ⟨zcd_82, List.forall_mem_cons.mpr ⟨zcd_83, List.forall_mem_cons.mpr ⟨zcd_84, List.forall_mem_cons.mpr ⟨zcd_85, List.forall_mem_cons.mpr ⟨zcd_86, List.forall_mem_cons.mpr ⟨zcd_87, List.forall_mem_cons.mpr ⟨zcd_88, List.forall_mem_cons.mpr ⟨zcd_89, List.forall_mem_cons.mpr ⟨zcd_90, List.forall_mem_cons.mpr ⟨zcd_91, List.forall_mem_cons.mpr ⟨zcd_92, List.forall_mem_cons.mpr ⟨zcd_93, List.forall_mem_cons.mpr ⟨zcd_94, List.forall_mem_cons.mpr ⟨zcd_95, List.forall_mem_cons.mpr ⟨zcd_96, fun _ h => absurd h List.not_mem_nil⟩⟩⟩⟩⟩⟩⟩⟩⟩⟩⟩⟩⟩⟩⟩⟩⟩⟩⟩⟩⟩⟩⟩⟩
theorem zcds_97 : ∀ M ∈ (zMs.drop 97).take 24, zcw M ∈ lw_tbl := List.forall_mem_cons.mpr ⟨zcd_97, List.forall_mem_cons.mpr ⟨zcd_98, List.forall_mem_cons.mpr ⟨zcd_99, List.forall_mem_cons.mpr ⟨zcd_100, List.forall_mem_cons.mpr ⟨zcd_101, List.forall_mem_cons.mpr ⟨zcd_102, List.forall_mem_cons.mpr ⟨zcd_103, List.forall_mem_cons.mpr ⟨zcd_104, List.forall_mem_cons.mpr ⟨zcd_105, List.forall_mem_cons.mpr ⟨zcd_106, List.forall_mem_cons.mpr ⟨zcd_107, List.forall_mem_cons.mpr ⟨zcd_108, List.forall_mem_cons.mpr ⟨zcd_109, List.forall_mem_cons.mpr ⟨zcd_110, List.forall_mem_cons.mpr ⟨zcd_111, List.forall_mem_cons.mpr ⟨zcd_112, List.forall_mem_cons.mpr ⟨zcd_113, List.forall_mem_cons.mpr ⟨zcd_114, List.forall_mem_cons.mpr ⟨zcd_115, List.forall_mem_cons.mpr ⟨zcd_116, List.forall_mem_cons.mpr ⟨zcd_117, List.forall_mem_cons.mpr ⟨zcd_118, List.forall_mem_cons.mpr ⟨zcd_119, List.forall_mem_cons.mpr ⟨zcd_120, fun _ h => absurd h List.not_mem_nil⟩⟩⟩⟩⟩⟩⟩⟩⟩⟩⟩⟩⟩⟩⟩⟩⟩⟩⟩⟩⟩⟩⟩⟩
theorem zcds_121 : ∀ M ∈ (zMs.drop 121).take 24, zcw M ∈ lw_tbl := List.forall_mem_cons.mpr ⟨zcd_121, List.forall_mem_cons.mpr ⟨zcd_122, List.forall_mem_cons.mpr ⟨zcd_123, List.forall_mem_cons.mpr ⟨zcd_124, List.forall_mem_cons.mpr ⟨zcd_125, List.forall_mem_cons.mpr ⟨zcd_126, List.forall_mem_cons.mpr ⟨zcd_127, List.forall_mem_cons.mpr ⟨zcd_128, List.forall_mem_cons.mpr ⟨zcd_129, List.forall_mem_cons.mpr ⟨zcd_130, List.forall_mem_cons.mpr ⟨zcd_131, List.forall_mem_cons.mpr ⟨zcd_132, List.forall_mem_cons.mpr ⟨zcd_133, List.forall_mem_cons.mpr ⟨zcd_134, List.forall_mem_cons.mpr ⟨zcd_135, List.forall_mem_cons.mpr ⟨zcd_136, List.forall_mem_cons.mpr ⟨zcd_137, List.forall_mem_cons.mpr ⟨zcd_138, List.forall_mem_cons.mpr ⟨zcd_139, List.forall_mem_cons.mpr ⟨zcd_140, List.forall_mem_cons.mpr ⟨zcd_141, List.forall_mem_cons.mpr ⟨zcd_142, List.forall_mem_cons.mpr ⟨zcd_143, List.forall_mem_cons.mpr ⟨zcd_144, fun _ h => absurd h List.not_mem_nil⟩⟩⟩⟩⟩⟩⟩⟩⟩⟩⟩⟩⟩⟩⟩⟩⟩⟩⟩⟩⟩⟩⟩⟩
theorem zcds_145 : ∀ M ∈ (zMs.drop 145).take 24, zcw M ∈ lw_tbl := List.forall_mem_cons.mpr ⟨zcd_145, List.forall_mem_cons.mpr ⟨zcd_146, List.forall_mem_cons.mpr ⟨zcd_147, List.forall_mem_cons.mpr ⟨zcd_148, List.forall_mem_cons.mpr ⟨zcd_149, List.forall_mem_cons.mpr ⟨zcd_150, List.forall_mem_cons.mpr ⟨zcd_151, List.forall_mem_cons.mpr ⟨zcd_152, List.forall_mem_cons.mpr ⟨zcd_153, List.forall_mem_cons.mpr ⟨zcd_154, List.forall_mem_cons.mpr ⟨zcd_155, List.forall_mem_cons.mpr ⟨zcd_156, List.forall_mem_cons.mpr ⟨zcd_157, List.forall_mem_cons.mpr ⟨zcd_158, List.forall_mem_cons.mpr ⟨zcd_159, List.forall_mem_cons.mpr ⟨zcd_160, List.forall_mem_cons.mpr ⟨zcd_161, List.forall_mem_cons.mpr ⟨zcd_162, List.forall_mem_cons.mpr ⟨zcd_163, List.forall_mem_cons.mpr ⟨zcd_164, List.forall_mem_cons.mpr ⟨zcd_165, List.forall_mem_cons.mpr ⟨zcd_166, List.forall_mem_cons.mpr ⟨zcd_167, List.forall_mem_cons.mpr ⟨zcd_168, fun _ h => absurd h List.not_mem_nil⟩⟩⟩⟩⟩⟩⟩⟩⟩⟩⟩⟩⟩⟩⟩⟩⟩⟩⟩⟩⟩⟩⟩⟩
theorem zcds_169 : ∀ M ∈ (zMs.drop 169).take 24, zcw M ∈ lw_tbl := List.forall_mem_cons.mpr ⟨zcd_169, List.forall_mem_cons.mpr ⟨zcd_170, List.forall_mem_cons.mpr ⟨zcd_171, List.forall_mem_cons.mpr ⟨zcd_172, List.forall_mem_cons.mpr ⟨zcd_173, List.forall_mem_cons.mpr ⟨zcd_174, List.forall_mem_cons.mpr ⟨zcd_175, List.forall_mem_cons.mpr ⟨zcd_176, List.forall_mem_cons.mpr ⟨zcd_177, List.forall_mem_cons.mpr ⟨zcd_178, List.forall_mem_cons.mpr ⟨zcd_179, List.forall_mem_cons.mpr ⟨zcd_180, List.forall_mem_cons.mpr ⟨zcd_181, List.forall_mem_cons.mpr ⟨zcd_182, List.forall_mem_cons.mpr ⟨zcd_183, List.forall_mem_cons.mpr ⟨zcd_184, List.forall_mem_cons.mpr ⟨zcd_185, List.forall_mem_cons.mpr ⟨zcd_186, List.forall_mem_cons.mpr ⟨zcd_187, List.forall_mem_cons.mpr ⟨zcd_188, List.forall_mem_cons.mpr ⟨zcd_189, List.forall_mem_cons.mpr ⟨zcd_190, List.forall_mem_cons.mpr ⟨zcd_191, List.forall_mem_cons.mpr ⟨zcd_192, fun _ h => absurd h List.not_mem_nil⟩⟩⟩⟩⟩⟩⟩⟩⟩⟩⟩⟩⟩⟩⟩⟩⟩⟩⟩⟩⟩⟩⟩⟩
theorem zcds_193 : ∀ M ∈ (zMs.drop 193).take 24, zcw M ∈ lw_tbl := List.forall_mem_cons.mpr ⟨zcd_193, List.forall_mem_cons.mpr ⟨zcd_194, List.forall_mem_cons.mpr ⟨zcd_195, List.forall_mem_cons.mpr ⟨zcd_196, List.forall_mem_cons.mpr ⟨zcd_197, List.forall_mem_cons.mpr ⟨zcd_198, List.forall_mem_cons.mpr ⟨zcd_199, List.forall_mem_cons.mpr ⟨zcd_200, List.forall_mem_cons.mpr ⟨zcd_201, List.forall_mem_cons.mpr ⟨zcd_202, List.forall_mem_cons.mpr ⟨zcd_203, List.forall_mem_cons.mpr ⟨zcd_204, List.forall_mem_cons.mpr ⟨zcd_205, List.forall_mem_cons.mpr ⟨zcd_206, List.forall_mem_cons.mpr ⟨zcd_207, List.forall_mem_cons.mpr ⟨zcd_208, List.forall_mem_cons.mpr ⟨zcd_209, List.forall_mem_cons.mpr ⟨zcd_210, List.forall_mem_cons.mpr ⟨zcd_211, List.forall_mem_cons.mpr ⟨zcd_212, List.forall_mem_cons.mpr ⟨zcd_213, List.forall_mem_cons.mpr ⟨zcd_214, List.forall_mem_cons.mpr ⟨zcd_215, List.forall_mem_cons.mpr ⟨zcd_216, fun _ h => absurd h List.not_mem_nil⟩⟩⟩⟩⟩⟩⟩⟩⟩⟩⟩⟩⟩⟩⟩⟩⟩⟩⟩⟩⟩⟩⟩⟩
theorem zcds_217 : ∀ M ∈ (zMs.drop 217).take 24, zcw M ∈ lw_tbl := List.forall_mem_cons.mpr ⟨zcd_217, List.forall_mem_cons.mpr ⟨zcd_218, List.forall_mem_cons.mpr ⟨zcd_219, List.forall_mem_cons.mpr ⟨zcd_220, List.forall_mem_cons.mpr ⟨zcd_221, List.forall_mem_cons.mpr ⟨zcd_222, List.forall_mem_cons.mpr ⟨zcd_223, List.forall_mem_cons.mpr ⟨zcd_224, List.forall_mem_cons.mpr ⟨zcd_225, List.forall_mem_cons.mpr ⟨zcd_226, List.forall_mem_cons.mpr ⟨zcd_227, List.forall_mem_cons.mpr ⟨zcd_228, List.forall_mem_cons.mpr ⟨zcd_229, List.forall_mem_cons.mpr ⟨zcd_230, List.forall_mem_cons.mpr ⟨zcd_231, List.forall_mem_cons.mpr ⟨zcd_232, List.forall_mem_cons.mpr ⟨zcd_233, List.forall_mem_cons.mpr ⟨zcd_234, List.forall_mem_cons.mpr ⟨zcd_235, List.forall_mem_cons.mpr ⟨zcd_236, List.forall_mem_cons.mpr ⟨zcd_237, List.forall_mem_cons.mpr ⟨zcd_238, List.forall_mem_cons.mpr ⟨zcd_239, List.forall_mem_cons.mpr ⟨zcd_240, fun _ h => absurd h List.not_mem_nil⟩⟩⟩⟩⟩⟩⟩⟩⟩⟩⟩⟩⟩⟩⟩⟩⟩⟩⟩⟩⟩⟩⟩⟩
theorem zcds_241 : ∀ M ∈ (zMs.drop 241).take 24, zcw M ∈ lw_tbl := List.forall_mem_cons.mpr ⟨zcd_241, List.forall_mem_cons.mpr ⟨zcd_242, List.forall_mem_cons.mpr ⟨zcd_243, List.forall_mem_cons.mpr ⟨zcd_244, List.forall_mem_cons.mpr ⟨zcd_245, List.forall_mem_cons.mpr ⟨zcd_246, List.forall_mem_cons.mpr ⟨zcd_247, List.forall_mem_cons.mpr ⟨zcd_248, List.forall_mem_cons.mpr ⟨zcd_249, List.forall_mem_cons.mpr ⟨zcd_250, List.forall_mem_cons.mpr ⟨zcd_251, List.forall_mem_cons.mpr ⟨zcd_252, List.forall_mem_cons.mpr ⟨zcd_253, List.forall_mem_cons.mpr ⟨zcd_254, List.forall_mem_cons.mpr ⟨zcd_255, List.forall_mem_cons.mpr ⟨zcd_256, List.forall_mem_cons.mpr ⟨zcd_257, List.forall_mem_cons.mpr ⟨zcd_258, List.forall_mem_cons.mpr ⟨zcd_259, List.forall_mem_cons.mpr ⟨zcd_260, List.forall_mem_cons.mpr ⟨zcd_261, List.forall_mem_cons.mpr ⟨zcd_262, List.forall_mem_cons.mpr ⟨zcd_263, List.forall_mem_cons.mpr ⟨zcd_264, fun _ h => absurd h List.not_mem_nil⟩⟩⟩⟩⟩⟩⟩⟩⟩⟩⟩⟩⟩⟩⟩⟩⟩⟩⟩⟩⟩⟩⟩⟩
theorem zcds_265 : ∀ M ∈ (zMs.drop 265).take 24, zcw M ∈ lw_tbl := List.forall_mem_cons.mpr ⟨zcd_265, List.forall_mem_cons.mpr ⟨zcd_266, List.forall_mem_cons.mpr ⟨zcd_267, List.forall_mem_cons.mpr ⟨zcd_268, List.forall_mem_cons.mpr ⟨zcd_269, List.forall_mem_cons.mpr ⟨zcd_270, List.forall_mem_cons.mpr ⟨zcd_271, List.forall_mem_cons.mpr ⟨zcd_272, List.forall_mem_cons.mpr ⟨zcd_273, List.forall_mem_cons.mpr ⟨zcd_274, List.forall_mem_cons.mpr ⟨zcd_275, List.forall_mem_cons.mpr ⟨zcd_276, List.forall_mem_cons.mpr ⟨zcd_277, List.forall_mem_cons.mpr ⟨zcd_278, List.forall_mem_cons.mpr ⟨zcd_279, List.forall_mem_cons.mpr ⟨zcd_280, List.forall_mem_cons.mpr ⟨zcd_281, List.forall_mem_cons.mpr ⟨zcd_282, List.forall_mem_cons.mpr ⟨zcd_283, List.forall_mem_cons.mpr ⟨zcd_284, List.forall_mem_cons.mpr ⟨zcd_285, fun _ h => absurd h List.not_mem_nil⟩⟩⟩⟩⟩⟩⟩⟩⟩⟩⟩⟩⟩⟩⟩⟩⟩⟩⟩⟩⟩
theorem zcds_all : ∀ M ∈ zMs.drop 1, zcw M ∈ lw_tbl := zcut (zMs.drop 1) 24 zcds_1 (show ∀ M ∈ zMs.drop 25, _ from zcut (zMs.drop 25) 24 zcds_25 (show ∀ M ∈ zMs.drop 49, _ from zcut (zMs.drop 49) 24 zcds_49 (show ∀ M ∈ zMs.drop 73, _ from zcut (zMs.drop 73) 24 zcds_73 (show ∀ M ∈ zMs.drop 97, _ from zcut (zMs.drop 97) 24 zcds_97 (show ∀ M ∈ zMs.drop 121, _ from zcut (zMs.drop 121) 24 zcds_121 (show ∀ M ∈ zMs.drop 145, _ from zcut (zMs.drop 145) 24 zcds_145 (show ∀ M ∈ zMs.drop 169, _ from zcut (zMs.drop 169) 24 zcds_169 (show ∀ M ∈ zMs.drop 193, _ from zcut (zMs.drop 193) 24 zcds_193 (show ∀ M ∈ zMs.drop 217, _ from zcut (zMs.drop 217) 24 zcds_217 (show ∀ M ∈ zMs.drop 241, _ from zcut (zMs.drop 241) 24 zcds_241 (show ∀ M ∈ zMs.drop 265, _ from zcut (zMs.drop 265) 24 zcds_265 (show ∀ M ∈ zMs.drop 289, _ from (fun M h => absurd h List.not_mem_nil)))))))))))))
end
section
/-! what a world says of a heap -/
section ZS
variable (dC : Nat → ClassId) (dI : Nat → Nat → Nat) (dA : Nat → ClassId) (B L : Nat) (xs : Nat → Int32) (sa : Nat → Nat)
def zad (k : Nat) : Nat := if k < 1000 then B + k else sa (k - 1000)
def ztr (v : Value) : Value := match v with
  | .ref k => .ref (zad B sa k)
  | .int x => .int x
  | .long x => .long x
  | .float x => .float x
  | .double x => .double x
  | .null => .null
  | .retAddr x => .retAddr x
def zcell (w : Wd) (k : Nat) : va_E :=
  if (zsh k).1 < 100 then .inr ((zsh k).1, (List.range (zsh k).2).map (fun j => ztr B sa (zfv (zFk (zsh k).1 j) w k j)))
  else if (zsh k).1 = 102 then .inl (dA 102, (zsh k).2, .inr (.inl (wL w k)))
  else if (zsh k).1 < 110 then .inl (dA (zsh k).1, (zsh k).2, .inl (wI w k))
  else .inl (dA (zsh k).1, (zsh k).2, .inr (.inr (.inr (.inr (fun j => (wR w k j).map (zad B sa))))))
def zws (w : Wd) : va_W := (List.range (wn w)).map fun k => (B + k, zcell dA B sa w k)
def zA : Nat → Prop := fun q => B ≤ q
def ztys : List (ClassId × FieldType) := [(dA 101, .int), (dA 102, .long), (dA 103, .byte), (dA 104, .boolean), (dA 111, .object "RugReader$House"), (dA 115, .object "RugReader$Rug"), (dA 116, .object "RugReader$Sentence")]
/-- the cells that nobody writes: the enum's, the script -/
def zStat (U : State) (H : Heap) : Prop :=
  va_Z "RugReader" "WORDS" "[LRugReader$Word;" (.ref (sa 1)) (zA B) U H ∧
  va_T (.object "RugReader$Word") (sa 1) 20 (fun j => .ref (sa (10 + j))) (zA B) U H ∧
  (∀ i, i < 20 → va_Z "RugReader$Word" (zwnm i) "LRugReader$Word;" (.ref (sa (10 + i))) (zA B) U H) ∧
  va_Ef 20 "RugReader$Word" "code" "J" (fun i => .long (zwc i)) (fun i => sa (10 + i)) (zA B) U H ∧
  va_Ef 20 "RugReader$Word" "dir" "I" (fun i => .int (zwd i)) (fun i => sa (10 + i)) (zA B) U H ∧
  va_Ef 20 "RugReader$Word" "measured" "I" (fun i => .int (zwm i)) (fun i => sa (10 + i)) (zA B) U H ∧
  va_T .int (sa 0) L (fun j => .int (xs j)) (zA B) U H ∧ (∀ i j, i < 20 → j < 20 → sa (10 + i) = sa (10 + j) → i = j)
def zNs (U : State) : Prop := (∀ w ∈ zNest, va_Nw w U) ∧ (∀ w ∈ zNestF, va_Nw w U) ∧ va_AO "RugReader$House" U ∧ va_AO "RugReader$Rug" U ∧ va_AO "RugReader$Sentence" U
def zScr (w : Wd) : Prop := (∀ j, wI w 1000 j = xs j) ∧ wI w 1003 0 = Int32.ofNat L ∧ L < 2147483648
def zHp (w : Wd) (H : Heap) : Prop := va_P (dC, dI) zcl (zws dA B sa w) H ∧ wn w ≤ zK
def zG (w : Wd) (U : State) : Prop := zHp dC dI dA B sa w U.heap ∧ va_K (dC, dI) zcl (ztys dA) U ∧ zStat B L xs sa U U.heap ∧ zNs U ∧ zScr L xs w ∧ B + wn w ≤ U.heap.size ∧ (wn w < zK → U.heap.size ≤ B + wn w)
end ZS
section ZS2
variable {dC : Nat → ClassId} {dI : Nat → Nat → Nat} {dA : Nat → ClassId} {B L : Nat} {xs : Nat → Int32} {sa : Nat → Nat}
theorem zws_get {w : Wd} {k : Nat} (h : k < wn w) : (zws dA B sa w)[k]? = some (B + k, zcell dA B sa w k) := by
  unfold zws
  rw [List.getElem?_map, List.getElem?_range h]; rfl
theorem zws_len (w : Wd) : (zws dA B sa w).length = wn w := by unfold zws; simp
theorem zD (w : Wd) : va_D (zA B) (zws dA B sa w) := by
  have key : ∀ (i : Nat) (q : Nat × va_E), (zws dA B sa w)[i]? = some q → q.1 = B + i := by
    intro i q h
    have hi : i < wn w := by have := (List.getElem?_eq_some_iff.mp h).1; rwa [zws_len] at this
    rw [zws_get hi] at h
    cases h; rfl
  refine ⟨fun i j p q h1 h2 e => ?_, fun k q h => ?_⟩
  · have e1 := key i p h1
    have e2 := key j q h2
    omega
  · have e1 := key k q h
    show B ≤ q.1
    omega
theorem zcell_congr {w w' : Wd} {k : Nat} (h1 : wI w' k = wI w k) (h2 : wL w' k = wL w k) (h3 : wR w' k = wR w k) : zcell dA B sa w' k = zcell dA B sa w k := by
  have hf : ∀ (kd j : Nat), zfv kd w' k j = zfv kd w k j := fun kd j => by
    unfold zfv
    split
    · rw [h1]
    · rw [h2]
    · rw [h3]
  unfold zcell
  simp only [hf, h1, h2, h3]
theorem zws_set {w w' : Wd} {k : Nat} (hn : wn w' = wn w) (hk : k < wn w) (ho : ∀ i, i ≠ k → wI w' i = wI w i ∧ wL w' i = wL w i ∧ wR w' i = wR w i) : (zws dA B sa w).set k (B + k, zcell dA B sa w' k) = zws dA B sa w' := by
  apply List.ext_getElem?
  intro i
  by_cases hi : i < wn w
  · rw [zws_get (w := w') (by rw [hn]; exact hi), List.getElem?_set]
    by_cases e : k = i
    · subst e
      rw [if_pos rfl, if_pos (by rw [zws_len]; exact hk)]
    · rw [if_neg e, zws_get hi]
      obtain ⟨g1, g2, g3⟩ := ho i (fun q => e q.symm)
      rw [zcell_congr g1 g2 g3]
  · rw [List.getElem?_eq_none (by rw [List.length_set, zws_len]; omega), List.getElem?_eq_none (by rw [zws_len, hn]; omega)]
theorem zsh_obj : ∀ k, k < 192 → (zsh k).1 < 11 → (zsh k).2 = zN (zsh k).1 := by decide +kernel
theorem zsh_kind : ∀ k, k < 192 → ((zsh k).1 < 11 ∨ (zsh k).1 = 101 ∨ (zsh k).1 = 102 ∨ (zsh k).1 = 103 ∨ (zsh k).1 = 104 ∨ (zsh k).1 = 111 ∨ (zsh k).1 = 115 ∨ (zsh k).1 = 116) ∧ (zsh k).2 < 100000 := by decide +kernel
theorem zobj_iff {w : Wd} {o c : Nat} (h : zobj w o c = true) : o < wn w ∧ (zsh o).1 = c := by
  unfold zobj at h
  rw [Bool.and_eq_true] at h
  exact ⟨by simpa [Nat.blt_eq] using h.1, Nat.eq_of_beq_eq_true h.2⟩
theorem zcell_obj {w : Wd} {k c : Nat} (hk : k < 192) (h : (zsh k).1 = c) (hc : c < 11) : zcell dA B sa w k = .inr (c, (List.range (zN c)).map (fun j => ztr B sa (zfv (zFk c j) w k j))) := by
  unfold zcell
  rw [if_pos (by omega), zsh_obj k hk (by omega), h]
theorem zcell_long {w : Wd} {k : Nat} (h : (zsh k).1 = 102) : zcell dA B sa w k = .inl (dA 102, (zsh k).2, .inr (.inl (wL w k))) := by
  unfold zcell
  rw [if_neg (by omega), if_pos h]
theorem zcell_int {w : Wd} {k t : Nat} (h : (zsh k).1 = t) (ht : t = 101 ∨ t = 103 ∨ t = 104) : zcell dA B sa w k = .inl (dA t, (zsh k).2, .inl (wI w k)) := by
  unfold zcell
  rw [if_neg (by omega), if_neg (by omega), if_pos (by omega), h]
theorem zcell_ref {w : Wd} {k t : Nat} (h : (zsh k).1 = t) (ht : 110 ≤ t) : zcell dA B sa w k = .inl (dA t, (zsh k).2, .inr (.inr (.inr (.inr (fun j => (wR w k j).map (zad B sa)))))) := by
  unfold zcell
  rw [if_neg (by omega), if_neg (by omega), if_neg (by omega), h]
theorem zfld_set {w w' : Wd} {k c j : Nat} {v : Value} (hk : k < 192) (h : (zsh k).1 = c) (hc : c < 11) (hv : ztr B sa (zfv (zFk c j) w' k j) = v) (ho : ∀ i, i ≠ j → ztr B sa (zfv (zFk c i) w' k i) = ztr B sa (zfv (zFk c i) w k i)) :
    zcell dA B sa w' k = .inr (c, ((List.range (zN c)).map (fun i => ztr B sa (zfv (zFk c i) w k i))).set j v) := by
  rw [zcell_obj hk h hc]
  congr 2
  apply List.ext_getElem?
  intro i
  rw [List.getElem?_map, List.getElem?_set, List.getElem?_map, List.length_map, List.length_range]
  by_cases hi : i < zN c
  · rw [List.getElem?_range hi]
    by_cases e : j = i
    · subst e
      rw [if_pos rfl, if_pos hi, Option.map_some, hv]
    · rw [if_neg e, Option.map_some, Option.map_some, ho i (fun q => e q.symm)]
  · rw [List.getElem?_eq_none (by rw [List.length_range]; omega)]
    by_cases e : j = i
    · subst e
      rw [if_pos rfl, if_neg hi]; rfl
    · rw [if_neg e]; rfl
theorem zcl_get {c : Nat} (hc : c < 11) : zcl[c]? = some (zC c, zT c, zN c) := by
  unfold zcl
  rw [List.getElem?_map, List.getElem?_range hc]; rfl
theorem ztr_cat (v : Value) : (ztr B sa v).category = v.category := by cases v <;> rfl
theorem ztr_sum (st : List Value) : ((st.map (ztr B sa)).map fun v => v.category).sum = (st.map fun v => v.category).sum := by
  rw [List.map_map]
  congr 1
  apply List.map_congr_left
  intro v _
  exact ztr_cat v
theorem ztr_rf (o : Option Nat) : ztr B sa (va_rf o) = va_rf (o.map (zad B sa)) := by cases o <;> rfl
theorem zad_own {k : Nat} (h : k < 192) : zad B sa k = B + k := by unfold zad; rw [if_pos (by omega)]
/-- locals, translated -/
def zlv (B : Nat) (sa : Nat → Nat) (lv : List (Nat × Value)) : List (Nat × Value) := lv.map fun q => (q.1, ztr B sa q.2)
theorem zlv_args (vs : List Value) : ∀ i, lv_args i (vs.map (ztr B sa)) = zlv B sa (lv_args i vs) := by
  induction vs with
  | nil => intro i; rfl
  | cons v vs ih =>
    intro i
    show (i, ztr B sa v) :: lv_args (if (ztr B sa v).category = 2 then i + 2 else i + 1) (vs.map (ztr B sa)) = _
    rw [ztr_cat, ih]
    rfl
theorem zlv_at {ls : Array Slot} {n : Nat} {lv : List (Nat × Value)} (h : lv_has ls n (zlv B sa lv)) {i : Nat} {v : Value} (hv : lgt lv i = some v) : ls[i]? = some (.val (ztr B sa v)) := by
  have hm : (i, v) ∈ lv := by
    induction lv with
    | nil => cases hv
    | cons q lv ih =>
      unfold lgt at hv
      cases hb : Nat.beq q.1 i with
      | true =>
        rw [hb] at hv
        have : q.2 = v := Option.some.inj hv
        have h2 := Nat.eq_of_beq_eq_true hb
        rw [← this, ← h2]
        exact List.mem_cons_self
      | false =>
        rw [hb] at hv
        exact List.mem_cons_of_mem _ (ih ⟨h.1, h.2.1, fun q hq => h.2.2 q (List.mem_cons_of_mem _ hq)⟩ hv)
  exact h.2.2 (i, ztr B sa v) (List.mem_map.mpr ⟨(i, v), hm, rfl⟩)
theorem zlv_mem {lv : List (Nat × Value)} {i : Nat} {v : Value} (hv : lgt lv i = some v) : ∃ k : Nat, (zlv B sa lv)[k]? = some (i, ztr B sa v) := by
  induction lv with
  | nil => cases hv
  | cons q lv ih =>
    unfold lgt at hv
    cases hb : Nat.beq q.1 i with
    | true =>
      rw [hb] at hv
      have h1 : q.2 = v := Option.some.inj hv
      have h2 := Nat.eq_of_beq_eq_true hb
      exact ⟨0, by rw [← h1, ← h2]; rfl⟩
    | false =>
      rw [hb] at hv
      obtain ⟨k, hk⟩ := ih hv
      exact ⟨k + 1, hk⟩
theorem zlv_filter (lv : List (Nat × Value)) (f : Nat → Nat → Bool) : (zlv B sa lv).filter (fun q => f q.1 q.2.category) = zlv B sa (lv.filter (fun q => f q.1 q.2.category)) := by
  induction lv with
  | nil => rfl
  | cons q lv ih =>
    have e : zlv B sa (q :: lv) = (q.1, ztr B sa q.2) :: zlv B sa lv := rfl
    rw [e, List.filter_cons, List.filter_cons, ih]
    simp only [ztr_cat]
    split <;> rfl
theorem zlv_lst1 (lv : List (Nat × Value)) (i : Nat) (v : Value) : (i, ztr B sa v) :: (zlv B sa lv).filter (fun q => !(q.1 == i) && !(q.1 + 1 == i && q.2.category == 2)) = zlv B sa (lst1 lv i v) := by
  rw [zlv_filter lv (fun a b => !(a == i) && !(a + 1 == i && b == 2))]; rfl
theorem zlv_lst2 (lv : List (Nat × Value)) (i : Nat) (v : Value) : (i, ztr B sa v) :: (zlv B sa lv).filter (fun q => !(q.1 == i) && (!(q.1 == i + 1) && !(q.1 + 1 == i && q.2.category == 2))) = zlv B sa (lst2 lv i v) := by
  rw [zlv_filter lv (fun a b => !(a == i) && (!(a == i + 1) && !(a + 1 == i && b == 2)))]; rfl
theorem zlv_sub {ls : Array Slot} {n : Nat} {lv lv' : List (Nat × Value)} (h : lv_has ls n (zlv B sa lv)) (hs : ∀ q ∈ lv', q ∈ lv) : lv_has ls n (zlv B sa lv') := by
  refine ⟨h.1, h.2.1, fun q hq => ?_⟩
  obtain ⟨q', hq', rfl⟩ := List.mem_map.mp hq
  exact h.2.2 _ (List.mem_map.mpr ⟨q', hs q' hq', rfl⟩)
end ZS2
end
section
/-! one step of the small machine is the real one's -/
section ZT
variable {dC : Nat → ClassId} {dI : Nat → Nat → Nat} {dA : Nat → ClassId} {B L : Nat} {xs : Nat → Int32} {sa : Nat → Nat}
variable {p : Program} {l : Launch} {e : Env} {R : Room} {s : State} {m : MethodId} {args : Array Value} {below : List Frame} {meth : Method} {c : Code} {Q : State → Prop}
/-- an activation of the method M: what stays -/
def zCtx (dC : Nat → ClassId) (dI : Nat → Nat → Nat) (dA : Nat → ClassId) (B L : Nat) (xs : Nat → Int32) (sa : Nat → Nat) (M : Mth) (p : Program) (s : State) (m : MethodId) (args : Array Value) (meth : Method) (c : Code) (R : Room) : Prop :=
  p.tables.exec = Jvm.exec ∧ c.code = zby (mNum M) ∧ c.maxLocals = mLoc M ∧ s.vm.findClass (zC (mCls M)) = some m.cls ∧ (∀ w ∈ zWS, w.before args s = true) ∧ (zini.contains (mNum M) = true → meth.name = "<init>") ∧
  va_K (dC, dI) zcl (ztys dA) s ∧ zStat B L xs sa s s.heap ∧ zNs s ∧ B ≤ s.heap.size ∧ 1 ≤ R.frames ∧ 32 ≤ R.locals ∧ mCls M < 15
/-- where the walk stands: the world, the heap, the locals -/
def zAt (dC : Nat → ClassId) (dI : Nat → Nat → Nat) (dA : Nat → ClassId) (B L : Nat) (xs : Nat → Int32) (sa : Nat → Nat) (M : Mth) (s : State) (w : Wd) (lv : List (Nat × Value)) (H : Heap) (locs : List Loc) (ls : Array Slot) : Prop :=
  zHp dC dI dA B sa w H ∧ va_S (zA B) s.heap H locs ∧ zScr L xs w ∧ lv_has ls (mLoc M) (zlv B sa lv)
/-- the claim at a place of the walk -/
abbrev zWk (dC : Nat → ClassId) (dI : Nat → Nat → Nat) (dA : Nat → ClassId) (B L : Nat) (xs : Nat → Int32) (sa : Nat → Nat) (M : Mth) (p : Program) (l : Launch) (e : Env) (R : Room) (s : State) (m : MethodId) (args : Array Value) (below : List Frame) (meth : Method) (c : Code) (cf sf : Nat → Nat) (Q : State → Prop) (a : Cfg) : Prop :=
  ∀ (H : Heap) (locs : List Loc) (ls : Array Slot), zAt dC dI dA B L xs sa M s a.2.2.2 a.2.1 H locs ls → W p l e R s m args below meth c H locs (cf (wn a.2.2.2)) (sf (wn a.2.2.2)) Q (F0 m a.1 ls (a.2.2.1.map (ztr B sa)))
theorem zmem_op {M : Mth} {pc npc : Nat} {op : Op4} (h : opAt (mCode M) pc = some (op, npc)) : (pc, npc, op) ∈ mCode M := by
  have key : ∀ l : List (Nat × Nat × Op4), opAt l pc = some (op, npc) → (pc, npc, op) ∈ l := by
    intro l
    induction l with
    | nil => intro h; cases h
    | cons r l ih =>
      intro h
      unfold opAt at h
      cases hb : Nat.beq r.1 pc with
      | true =>
        rw [hb] at h
        have h1 : (r.2.2, r.2.1) = (op, npc) := Option.some.inj h
        have h2 := Nat.eq_of_beq_eq_true hb
        obtain ⟨r1, r2, r3⟩ := r
        simp only [Prod.mk.injEq] at h1
        obtain ⟨e1, e2⟩ := h1
        dsimp only at h2
        subst e1; subst e2; subst h2
        exact List.mem_cons_self
      | false =>
        rw [hb] at h
        exact List.mem_cons_of_mem _ (ih h)
  exact key _ h
theorem zdec_op {M : Mth} (hz : zchk M = true) {pc npc : Nat} {op : Op4} (h : opAt (mCode M) pc = some (op, npc)) : ∃ i len, decode (zby (mNum M)) pc = .ok (i, len) ∧ iLn i len = true ∧ pc + len = npc ∧ trI (mCls M) pc i = some op := by
  have h1 := List.all_eq_true.mp hz _ (zmem_op h)
  unfold zdec at h1
  dsimp only at h1
  split at h1
  · rename_i i len hd
    rw [Bool.and_eq_true, Bool.and_eq_true, decide_eq_true_eq] at h1
    exact ⟨i, len, hd, h1.1.1, Nat.eq_of_beq_eq_true h1.1.2, h1.2⟩
  · cases h1
theorem zwd_b {w : Cond} (hts : ∀ w ∈ zWS, w.before args s = true) {q : Nat} (h : lw_tbl[q]? = some w) (hg : goodWord w = true) : w.before args s = true := hts w (zin_of q h hg)
theorem ztgt {pc : Nat} {off : Int} {op op' : Op4} (h : jOk pc off op = some op') : op = op' ∧ (pc : Int) + off = (mTgt pc off : Int) := by
  unfold jOk at h
  split at h
  · rename_i h1
    exact ⟨Option.some.inj h, by unfold mTgt; omega⟩
  · cases h
theorem zbin_w {a : Nat} {x y z : Int32} (h : zbin a x y = some z) : (a = 0 ∧ z = x + y) ∨ (a = 1 ∧ z = x - y) ∨ (a = 2 ∧ z = x * y) ∨ (a = 3 ∧ ¬ y = 0 ∧ z = x / y) ∨ (a = 4 ∧ ¬ y = 0 ∧ z = x - x / y * y) ∨ (a = 5 ∧ z = x &&& y) ∨ (a = 6 ∧ z = x ||| y) ∨ (a = 7 ∧ z = x ^^^ y) ∨ (a = 8 ∧ z = x <<< (y &&& 31)) ∨ (a = 9 ∧ z = x >>> (y &&& 31)) ∨ (a = 10 ∧ z = zush x y) := by
  unfold zbin at h
  split at h
  · simp at h; simp [h]
  · simp at h; simp [h]
  · simp at h; simp [h]
  · split at h
    · cases h
    · simp at h; simp_all
  · split at h
    · cases h
    · simp [zrem] at h; simp_all
  all_goals (simp at h; try simp [h])

/-- stores go to locals that are there -/
def zloc (M : Mth) : Bool := (mCode M).all fun r => match r.2.2.1 with
  | 5 | 7 | 8 => Nat.blt r.2.2.2.1 (mLoc M)
  | 6 => Nat.blt (r.2.2.2.1 + 1) (mLoc M)
  | _ => true
theorem zloc_1 {M : Mth} (h : zloc M = true) {pc npc t a b : Nat} {v : Int32} (ho : opAt (mCode M) pc = some ((t, a, b, v), npc)) (ht : t = 5 ∨ t = 7 ∨ t = 8) : a < mLoc M := by
  have h1 := List.all_eq_true.mp h _ (zmem_op ho)
  rcases ht with rfl | rfl | rfl <;> simpa [Nat.blt_eq] using h1
theorem zloc_2 {M : Mth} (h : zloc M = true) {pc npc a b : Nat} {v : Int32} (ho : opAt (mCode M) pc = some ((6, a, b, v), npc)) : a + 1 < mLoc M := by
  have h1 := List.all_eq_true.mp h _ (zmem_op ho)
  simpa [Nat.blt_eq] using h1
theorem lkF_ok {c i : Nat} {r} (h : lkF c i = some r) : r ∈ zfl c ∧ r.2.1 = i ∧ r.1 = c := by
  have h1 := List.find?_some h
  rw [Bool.and_eq_true] at h1
  exact ⟨List.mem_of_find?_eq_some h, Nat.eq_of_beq_eq_true h1.1, Nat.eq_of_beq_eq_true h1.2⟩
theorem lkM_ok {c i : Nat} {r} (h : lkM c i = some r) : r ∈ zml c ∧ r.2.1 = i ∧ r.1 = c := by
  have h1 := List.find?_some h
  rw [Bool.and_eq_true] at h1
  exact ⟨List.mem_of_find?_eq_some h, Nat.eq_of_beq_eq_true h1.1, Nat.eq_of_beq_eq_true h1.2⟩
theorem lkS_ok {c i : Nat} {r} (h : lkS c i = some r) : r ∈ zst ∧ r.2.1 = i ∧ r.1 = c := by
  have h1 := List.find?_some h
  rw [Bool.and_eq_true] at h1
  exact ⟨List.mem_of_find?_eq_some h, Nat.eq_of_beq_eq_true h1.2, Nat.eq_of_beq_eq_true h1.1⟩
theorem lkC_ok {c i : Nat} {r} (h : lkC c i = some r) : r ∈ zcls ∧ r.2.1 = i ∧ r.1 = c := by
  have h1 := List.find?_some h
  rw [Bool.and_eq_true] at h1
  exact ⟨List.mem_of_find?_eq_some h, Nat.eq_of_beq_eq_true h1.2, Nat.eq_of_beq_eq_true h1.1⟩
theorem lkI_ok {c i : Nat} {r} (h : lkI c i = some r) : r ∈ zci ∧ r.2.1 = i ∧ r.1 = c := by
  have h1 := List.find?_some h
  rw [Bool.and_eq_true] at h1
  exact ⟨List.mem_of_find?_eq_some h, Nat.eq_of_beq_eq_true h1.2, Nat.eq_of_beq_eq_true h1.1⟩
theorem lkJ_ok {c i : Nat} {r} (h : lkJ c i = some r) : r ∈ zcj ∧ r.2.1 = i ∧ r.1 = c := by
  have h1 := List.find?_some h
  rw [Bool.and_eq_true] at h1
  exact ⟨List.mem_of_find?_eq_some h, Nat.eq_of_beq_eq_true h1.2, Nat.eq_of_beq_eq_true h1.1⟩
theorem zml_1000 : ∀ c, c < 15 → ∀ r ∈ zml c, 1000 ≤ r.2.2.1 → r.2.2.2.2 = false := by decide +kernel
theorem zsw3_out {a : Nat} {x : Int32} {lo hi d : Int} {offs : Array Int} {pc : Nat} (h : zsw a = (lo, offs.toList.map (mTgt pc), mTgt pc d)) (h4 : hi + 1 = lo + (offs.size : Int)) (hx : x.toInt < lo ∨ hi < x.toInt) : zsw3 a x = mTgt pc d := by
  unfold zsw3
  rw [h]
  dsimp only
  rw [List.length_map, Array.length_toList, if_pos (by omega)]
theorem zsw3_in {a : Nat} {x : Int32} {lo hi d : Int} {offs : Array Int} {pc : Nat} (h : zsw a = (lo, offs.toList.map (mTgt pc), mTgt pc d)) (h4 : hi + 1 = lo + (offs.size : Int)) (h1 : ¬ x.toInt < lo) (h2 : ¬ hi < x.toInt) : ∃ off, offs[(x.toInt - lo).toNat]? = some off ∧ off ∈ offs.toList ∧ zsw3 a x = mTgt pc off := by
  have hl : (x.toInt - lo).toNat < offs.size := by omega
  refine ⟨offs[(x.toInt - lo).toNat], by simp [hl], by simp, ?_⟩
  unfold zsw3
  rw [h]
  dsimp only
  rw [List.length_map, Array.length_toList, if_neg (by omega), List.getD_eq_getElem?_getD, List.getElem?_map]
  simp [hl]
theorem zref_rf {v : Value} {o : Option Nat} (h : zref v = some o) : v = va_rf o := by
  cases v <;> simp [zref] at h <;> subst h <;> rfl
theorem zad_word {k : Nat} (h : 1010 ≤ k) : zad B sa k = sa (10 + (k - 1010)) := by
  unfold zad
  rw [if_neg (by omega), show k - 1000 = 10 + (k - 1010) by omega]
theorem zinj (hS : zStat B L xs sa s s.heap) {x y : Option Nat} (hx : zwk x = true) (hy : zwk y = true) : x.map (zad B sa) = y.map (zad B sa) ↔ x = y := by
  refine ⟨fun h => ?_, fun h => by rw [h]⟩
  cases x with
  | none => cases y with
    | none => rfl
    | some b => cases h
  | some a => cases y with
    | none => cases h
    | some b =>
      simp only [zwk, Bool.and_eq_true, decide_eq_true_eq] at hx hy
      have h1 : zad B sa a = zad B sa b := Option.some.inj h
      rw [zad_word hx.1, zad_word hy.1] at h1
      have h2 := hS.2.2.2.2.2.2.2 (a - 1010) (b - 1010) (by omega) (by omega) h1
      rw [show a = b by omega]
theorem zstep1 {M : Mth} (hM : zchk M = true) (hL : zloc M = true) (C : zCtx dC dI dA B L xs sa M p s m args meth c R) {cf sf : Nat → Nat} {a b : Cfg} {op : Op4} {npc : Nat} (ho : opAt (mCode M) a.1 = some (op, npc)) (hz : zst' M op npc a.2.1 a.2.2.1 a.2.2.2 = some b) (hg : zgr op.1 = 1)
    (k : zWk dC dI dA B L xs sa M p l e R s m args below meth c cf sf Q b) : zWk dC dI dA B L xs sa M p l e R s m args below meth c cf sf Q a := by
  obtain ⟨i, len, hd, hln, hn, hI⟩ := zdec_op hM ho
  obtain ⟨hx, hb, hml, hown, hts, hini, hK, hS, hN, hB, hfr, hlo, hc15⟩ := C
  obtain ⟨pc, lv, st, w⟩ := a
  intro H locs ls hA
  obtain ⟨hP, hSS, hScr, hl⟩ := hA
  dsimp only at hP hSS hScr hl ho hz hI hd hn ⊢
  subst hn
  cases i
  case iconst n =>
    have hln := Nat.eq_of_beq_eq_true hln; subst hln
    simp only [trI, Option.some.injEq] at hI; subst hI
    simp only [zst', zgr, zs1] at hz
    cases hz
    exact lv_iconst hx hb hd rfl (k H locs ls ⟨hP, hSS, hScr, hl⟩)
  case bipush n =>
    have hln := Nat.eq_of_beq_eq_true hln; subst hln
    simp only [trI, Option.some.injEq] at hI; subst hI
    simp only [zst', zgr, zs1] at hz
    cases hz
    exact lv_bipush hx hb hd rfl (k H locs ls ⟨hP, hSS, hScr, hl⟩)
  case sipush n =>
    have hln := Nat.eq_of_beq_eq_true hln; subst hln
    simp only [trI, Option.some.injEq] at hI; subst hI
    simp only [zst', zgr, zs1] at hz
    cases hz
    exact lv_sipush hx hb hd rfl (k H locs ls ⟨hP, hSS, hScr, hl⟩)
  case lconst n =>
    have hln := Nat.eq_of_beq_eq_true hln; subst hln
    simp only [trI, Option.some.injEq] at hI; subst hI
    simp only [zst', zgr, zs1] at hz
    cases hz
    exact lv_lconst hx hb hd ((by decide +kernel : ∀ n : Fin 2, Int64.ofNat (n : Nat) = zlc n.val) n) (k H locs ls ⟨hP, hSS, hScr, hl⟩)
  case ldc j =>
    have hln := Nat.eq_of_beq_eq_true hln; subst hln
    simp only [trI] at hI
    cases hr : lkI (mCls M) j with
    | none => rw [hr] at hI; cases hI
    | some r =>
      rw [hr] at hI
      cases hI
      obtain ⟨h1, h2, h3⟩ := lkI_ok hr
      have h4 := zci_ok r h1
      rw [h2, h3] at h4
      simp only [zst', zgr, zs1] at hz
      cases hz
      exact lv_ldc hx hb hown (zwd_b hts h4.1 h4.2) hd (k H locs ls ⟨hP, hSS, hScr, hl⟩)
  case ldc_w j =>
    have hln := Nat.eq_of_beq_eq_true hln; subst hln
    simp only [trI] at hI
    cases hr : lkI (mCls M) j with
    | none => rw [hr] at hI; cases hI
    | some r =>
      rw [hr] at hI
      cases hI
      obtain ⟨h1, h2, h3⟩ := lkI_ok hr
      have h4 := zci_ok r h1
      rw [h2, h3] at h4
      simp only [zst', zgr, zs1] at hz
      cases hz
      exact lv_ldcw hx hb hown (zwd_b hts h4.1 h4.2) hd (k H locs ls ⟨hP, hSS, hScr, hl⟩)
  case ldc2_w j =>
    have hln := Nat.eq_of_beq_eq_true hln; subst hln
    simp only [trI] at hI
    cases hr : lkJ (mCls M) j with
    | none => rw [hr] at hI; cases hI
    | some r =>
      rw [hr] at hI
      cases hI
      obtain ⟨h1, h2, h3⟩ := lkJ_ok hr
      have h4 := zcj_ok r h1
      rw [h2, h3] at h4
      simp only [zst', zgr, zs1] at hz
      cases hz
      exact lv_ldc2 hx hb hown (zwd_b hts h4.1 h4.2) hd (k H locs ls ⟨hP, hSS, hScr, hl⟩)
  case iload_n j =>
    have hln := Nat.eq_of_beq_eq_true hln; subst hln
    simp only [trI, Option.some.injEq] at hI; subst hI
    simp only [zst', zgr, zs1] at hz
    split at hz
    · rename_i x hx1
      cases hz
      exact lv_iload_n hx hb hd rfl (zlv_at hl hx1) (k H locs ls ⟨hP, hSS, hScr, hl⟩)
    · cases hz
  case iload j =>
    have hln := Nat.eq_of_beq_eq_true hln; subst hln
    simp only [trI, Option.some.injEq] at hI; subst hI
    simp only [zst', zgr, zs1] at hz
    split at hz
    · rename_i x hx1
      cases hz
      exact lv_iload hx hb hd (zlv_at hl hx1) (k H locs ls ⟨hP, hSS, hScr, hl⟩)
    · cases hz
  case lload_n j =>
    have hln := Nat.eq_of_beq_eq_true hln; subst hln
    simp only [trI, Option.some.injEq] at hI; subst hI
    simp only [zst', zgr, zs1] at hz
    split at hz
    · rename_i x hx1
      cases hz
      exact lv_lload_n hx hb hd rfl (zlv_at hl hx1) (k H locs ls ⟨hP, hSS, hScr, hl⟩)
    · cases hz
  case lload j =>
    have hln := Nat.eq_of_beq_eq_true hln; subst hln
    simp only [trI, Option.some.injEq] at hI; subst hI
    simp only [zst', zgr, zs1] at hz
    split at hz
    · rename_i x hx1
      cases hz
      exact lv_lload hx hb hd (zlv_at hl hx1) (k H locs ls ⟨hP, hSS, hScr, hl⟩)
    · cases hz
  case aload_n j =>
    have hln := Nat.eq_of_beq_eq_true hln; subst hln
    simp only [trI, Option.some.injEq] at hI; subst hI
    simp only [zst', zgr, zs1] at hz
    split at hz
    · rename_i x hx1
      cases hz
      exact lv_aload_n hx hb hd rfl (zlv_at hl hx1) (k H locs ls ⟨hP, hSS, hScr, hl⟩)
    · rename_i hx1
      cases hz
      exact lv_aload_nN hx hb hd rfl (zlv_at hl hx1) (k H locs ls ⟨hP, hSS, hScr, hl⟩)
    · cases hz
  case aload j =>
    have hln := Nat.eq_of_beq_eq_true hln; subst hln
    simp only [trI, Option.some.injEq] at hI; subst hI
    simp only [zst', zgr, zs1] at hz
    split at hz
    · rename_i x hx1
      cases hz
      exact lv_aload hx hb hd (zlv_at hl hx1) (k H locs ls ⟨hP, hSS, hScr, hl⟩)
    · rename_i hx1
      cases hz
      exact lv_aloadN hx hb hd (zlv_at hl hx1) (k H locs ls ⟨hP, hSS, hScr, hl⟩)
    · cases hz
  case istore_n j =>
    have hln := Nat.eq_of_beq_eq_true hln; subst hln
    simp only [trI, Option.some.injEq] at hI; subst hI
    have hj := zloc_1 hL ho (by simp)
    simp only [zst', zgr, zs1] at hz
    split at hz
    · rename_i x r
      cases hz
      exact lv_istore_n hx hb hd rfl hl hj (zlv_lst1 lv _ (.int x)) (fun ls' h' => k H locs ls' ⟨hP, hSS, hScr, h'⟩)
    · cases hz
  case istore j =>
    have hln := Nat.eq_of_beq_eq_true hln; subst hln
    simp only [trI, Option.some.injEq] at hI; subst hI
    have hj := zloc_1 hL ho (by simp)
    simp only [zst', zgr, zs1] at hz
    split at hz
    · rename_i x r
      cases hz
      exact lv_istore hx hb hd hl hj (zlv_lst1 lv _ (.int x)) (fun ls' h' => k H locs ls' ⟨hP, hSS, hScr, h'⟩)
    · cases hz
  case lstore_n j =>
    have hln := Nat.eq_of_beq_eq_true hln; subst hln
    simp only [trI, Option.some.injEq] at hI; subst hI
    have hj := zloc_2 hL ho
    simp only [zst', zgr, zs1] at hz
    split at hz
    · rename_i x r
      cases hz
      exact lv_lstore_n hx hb hd rfl hl hj (zlv_lst2 lv _ (.long x)) (fun ls' h' => k H locs ls' ⟨hP, hSS, hScr, h'⟩)
    · cases hz
  case lstore j =>
    have hln := Nat.eq_of_beq_eq_true hln; subst hln
    simp only [trI, Option.some.injEq] at hI; subst hI
    have hj := zloc_2 hL ho
    simp only [zst', zgr, zs1] at hz
    split at hz
    · rename_i x r
      cases hz
      exact lv_lstore hx hb hd hl hj (zlv_lst2 lv _ (.long x)) (fun ls' h' => k H locs ls' ⟨hP, hSS, hScr, h'⟩)
    · cases hz
  case astore_n j =>
    have hln := Nat.eq_of_beq_eq_true hln; subst hln
    simp only [trI, Option.some.injEq] at hI; subst hI
    have hj := zloc_1 hL ho (by simp)
    simp only [zst', zgr, zs1] at hz
    split at hz
    · rename_i x r
      cases hz
      exact lv_astore_n hx hb hd rfl hl hj (zlv_lst1 lv _ (.ref x)) (fun ls' h' => k H locs ls' ⟨hP, hSS, hScr, h'⟩)
    · rename_i r
      cases hz
      exact lv_astore_nN hx hb hd rfl hl hj (zlv_lst1 lv _ .null) (fun ls' h' => k H locs ls' ⟨hP, hSS, hScr, h'⟩)
    · cases hz
  case astore j =>
    have hln := Nat.eq_of_beq_eq_true hln; subst hln
    simp only [trI, Option.some.injEq] at hI; subst hI
    have hj := zloc_1 hL ho (by simp)
    simp only [zst', zgr, zs1] at hz
    split at hz
    · rename_i x r
      cases hz
      exact lv_astore hx hb hd hl hj (zlv_lst1 lv _ (.ref x)) (fun ls' h' => k H locs ls' ⟨hP, hSS, hScr, h'⟩)
    · rename_i r
      cases hz
      exact lv_astoreN hx hb hd hl hj (zlv_lst1 lv _ .null) (fun ls' h' => k H locs ls' ⟨hP, hSS, hScr, h'⟩)
    · cases hz
  case iinc j n =>
    have hln := Nat.eq_of_beq_eq_true hln; subst hln
    simp only [trI, Option.some.injEq] at hI; subst hI
    have hj := zloc_1 hL ho (by simp)
    simp only [zst', zgr, zs1] at hz
    split at hz
    · rename_i x hx1
      cases hz
      obtain ⟨q, hq⟩ := zlv_mem (B := B) (sa := sa) hx1
      exact lv_iinc hx hb hd hl hq rfl hj (zlv_lst1 lv _ (.int (x + Int32.ofInt n))) (fun ls' h' => k H locs ls' ⟨hP, hSS, hScr, h'⟩)
    · cases hz
  case iadd =>
    have hln := Nat.eq_of_beq_eq_true hln; subst hln
    simp only [trI, Option.some.injEq] at hI; subst hI
    simp only [zst', zgr, zs1, zbin, Option.map_some] at hz
    split at hz
    · rename_i y x r
      cases hz
      exact lv_iadd hx hb hd (k H locs ls ⟨hP, hSS, hScr, hl⟩)
    · cases hz
  case isub =>
    have hln := Nat.eq_of_beq_eq_true hln; subst hln
    simp only [trI, Option.some.injEq] at hI; subst hI
    simp only [zst', zgr, zs1, zbin, Option.map_some] at hz
    split at hz
    · rename_i y x r
      cases hz
      exact lv_isub hx hb hd (k H locs ls ⟨hP, hSS, hScr, hl⟩)
    · cases hz
  case imul =>
    have hln := Nat.eq_of_beq_eq_true hln; subst hln
    simp only [trI, Option.some.injEq] at hI; subst hI
    simp only [zst', zgr, zs1, zbin, Option.map_some] at hz
    split at hz
    · rename_i y x r
      cases hz
      exact lv_imul hx hb hd (k H locs ls ⟨hP, hSS, hScr, hl⟩)
    · cases hz
  case iand =>
    have hln := Nat.eq_of_beq_eq_true hln; subst hln
    simp only [trI, Option.some.injEq] at hI; subst hI
    simp only [zst', zgr, zs1, zbin, Option.map_some] at hz
    split at hz
    · rename_i y x r
      cases hz
      exact lv_iand hx hb hd (k H locs ls ⟨hP, hSS, hScr, hl⟩)
    · cases hz
  case ior =>
    have hln := Nat.eq_of_beq_eq_true hln; subst hln
    simp only [trI, Option.some.injEq] at hI; subst hI
    simp only [zst', zgr, zs1, zbin, Option.map_some] at hz
    split at hz
    · rename_i y x r
      cases hz
      exact lv_ior hx hb hd (k H locs ls ⟨hP, hSS, hScr, hl⟩)
    · cases hz
  case ixor =>
    have hln := Nat.eq_of_beq_eq_true hln; subst hln
    simp only [trI, Option.some.injEq] at hI; subst hI
    simp only [zst', zgr, zs1, zbin, Option.map_some] at hz
    split at hz
    · rename_i y x r
      cases hz
      exact lv_ixor hx hb hd (k H locs ls ⟨hP, hSS, hScr, hl⟩)
    · cases hz
  case ishl =>
    have hln := Nat.eq_of_beq_eq_true hln; subst hln
    simp only [trI, Option.some.injEq] at hI; subst hI
    simp only [zst', zgr, zs1, zbin, Option.map_some] at hz
    split at hz
    · rename_i y x r
      cases hz
      exact lv_ishl hx hb hd (k H locs ls ⟨hP, hSS, hScr, hl⟩)
    · cases hz
  case ishr =>
    have hln := Nat.eq_of_beq_eq_true hln; subst hln
    simp only [trI, Option.some.injEq] at hI; subst hI
    simp only [zst', zgr, zs1, zbin, Option.map_some] at hz
    split at hz
    · rename_i y x r
      cases hz
      exact lv_ishr hx hb hd (k H locs ls ⟨hP, hSS, hScr, hl⟩)
    · cases hz
  case iushr =>
    have hln := Nat.eq_of_beq_eq_true hln; subst hln
    simp only [trI, Option.some.injEq] at hI; subst hI
    simp only [zst', zgr, zs1, zbin, Option.map_some] at hz
    split at hz
    · rename_i y x r
      cases hz
      exact lv_iushr hx hb hd rfl (k H locs ls ⟨hP, hSS, hScr, hl⟩)
    · cases hz
  case idiv =>
    have hln := Nat.eq_of_beq_eq_true hln; subst hln
    simp only [trI, Option.some.injEq] at hI; subst hI
    simp only [zst', zgr, zs1, zbin] at hz
    split at hz
    · rename_i y x r
      by_cases h0 : y = 0
      · rw [if_pos h0] at hz; cases hz
      · rw [if_neg h0] at hz
        cases hz
        exact lv_idiv hx hb hd h0 (k H locs ls ⟨hP, hSS, hScr, hl⟩)
    · cases hz
  case irem =>
    have hln := Nat.eq_of_beq_eq_true hln; subst hln
    simp only [trI, Option.some.injEq] at hI; subst hI
    simp only [zst', zgr, zs1, zbin] at hz
    split at hz
    · rename_i y x r
      by_cases h0 : y = 0
      · rw [if_pos h0] at hz; cases hz
      · rw [if_neg h0] at hz
        cases hz
        exact lv_irem hx hb hd h0 (k H locs ls ⟨hP, hSS, hScr, hl⟩)
    · cases hz
  case ladd =>
    have hln := Nat.eq_of_beq_eq_true hln; subst hln
    simp only [trI, Option.some.injEq] at hI; subst hI
    simp only [zst', zgr, zs1, zlbin, Option.map_some] at hz
    split at hz
    · rename_i y x r
      cases hz
      exact lv_ladd hx hb hd (k H locs ls ⟨hP, hSS, hScr, hl⟩)
    · cases hz
  case lmul =>
    have hln := Nat.eq_of_beq_eq_true hln; subst hln
    simp only [trI, Option.some.injEq] at hI; subst hI
    simp only [zst', zgr, zs1, zlbin, Option.map_some] at hz
    split at hz
    · rename_i y x r
      cases hz
      exact lv_lmul hx hb hd (k H locs ls ⟨hP, hSS, hScr, hl⟩)
    · cases hz
  case lor =>
    have hln := Nat.eq_of_beq_eq_true hln; subst hln
    simp only [trI, Option.some.injEq] at hI; subst hI
    simp only [zst', zgr, zs1, zlbin, Option.map_some] at hz
    split at hz
    · rename_i y x r
      cases hz
      exact lv_lor hx hb hd (k H locs ls ⟨hP, hSS, hScr, hl⟩)
    · cases hz
  case lcmp =>
    have hln := Nat.eq_of_beq_eq_true hln; subst hln
    simp only [trI, Option.some.injEq] at hI; subst hI
    simp only [zst', zgr, zs1] at hz
    split at hz
    · rename_i y x r
      cases hz
      exact W.lcmp hx hb hd (k H locs ls ⟨hP, hSS, hScr, hl⟩)
    · cases hz
  case i2l =>
    have hln := Nat.eq_of_beq_eq_true hln; subst hln
    simp only [trI, Option.some.injEq] at hI; subst hI
    simp only [zst', zgr, zs1] at hz
    split at hz
    · rename_i x r
      cases hz
      exact lv_i2l hx hb hd rfl (k H locs ls ⟨hP, hSS, hScr, hl⟩)
    · cases hz
  case l2i =>
    have hln := Nat.eq_of_beq_eq_true hln; subst hln
    simp only [trI, Option.some.injEq] at hI; subst hI
    simp only [zst', zgr, zs1] at hz
    split at hz
    · rename_i x r
      cases hz
      exact lv_l2i hx hb hd rfl (k H locs ls ⟨hP, hSS, hScr, hl⟩)
    · cases hz
  case i2b =>
    have hln := Nat.eq_of_beq_eq_true hln; subst hln
    simp only [trI, Option.some.injEq] at hI; subst hI
    simp only [zst', zgr, zs1] at hz
    split at hz
    · rename_i x r
      cases hz
      exact lv_i2b hx hb hd rfl (k H locs ls ⟨hP, hSS, hScr, hl⟩)
    · cases hz
  case ineg =>
    have hln := Nat.eq_of_beq_eq_true hln; subst hln
    simp only [trI, Option.some.injEq] at hI; subst hI
    simp only [zst', zgr, zs1] at hz
    split at hz
    · rename_i x r
      cases hz
      exact lv_ineg hx hb hd (k H locs ls ⟨hP, hSS, hScr, hl⟩)
    · cases hz
  case lshl =>
    have hln := Nat.eq_of_beq_eq_true hln; subst hln
    simp only [trI, Option.some.injEq] at hI; subst hI
    simp only [zst', zgr, zs1] at hz
    split at hz
    · rename_i y x r
      cases hz
      exact lv_lshl hx hb hd rfl (k H locs ls ⟨hP, hSS, hScr, hl⟩)
    · cases hz
  case dup =>
    have hln := Nat.eq_of_beq_eq_true hln; subst hln
    simp only [trI, Option.some.injEq] at hI; subst hI
    simp only [zst', zgr, zs1] at hz
    split at hz
    · rename_i x r
      split at hz
      · rename_i h1
        cases hz
        exact lv_dup hx hb hd (by rw [ztr_cat]; exact h1) (k H locs ls ⟨hP, hSS, hScr, hl⟩)
      · cases hz
    · cases hz
  case pop =>
    have hln := Nat.eq_of_beq_eq_true hln; subst hln
    simp only [trI, Option.some.injEq] at hI; subst hI
    simp only [zst', zgr, zs1] at hz
    split at hz
    · rename_i x r
      split at hz
      · rename_i h1
        cases hz
        exact lv_pop hx hb hd (by rw [ztr_cat]; exact h1) (k H locs ls ⟨hP, hSS, hScr, hl⟩)
      · cases hz
    · cases hz
  case dup2 =>
    have hln := Nat.eq_of_beq_eq_true hln; subst hln
    simp only [trI, Option.some.injEq] at hI; subst hI
    simp only [zst', zgr, zs1] at hz
    split at hz
    · rename_i x y r
      split at hz
      · rename_i h1
        cases hz
        exact lv_dup2_11 hx hb hd (by rw [ztr_cat]; exact h1.1) (by rw [ztr_cat]; exact h1.2) (k H locs ls ⟨hP, hSS, hScr, hl⟩)
      · cases hz
    · cases hz
  case ifCond kd off =>
    have hln := Nat.eq_of_beq_eq_true hln; subst hln
    simp only [trI] at hI
    obtain ⟨hI, htg⟩ := ztgt hI; subst hI
    simp only [zst', zgr, zs1] at hz
    split at hz
    · rename_i x r
      cases hz
      have k' := k H locs ls ⟨hP, hSS, hScr, hl⟩
      cases kd
      · exact lv_if_eq hx hb hd htg (fun h => by rw [show zcnd (cN ClassFile.Cond.eq) x 0 = true from by simp [zcnd, cN, h]] at k'; exact k') (fun h => by rw [show zcnd (cN ClassFile.Cond.eq) x 0 = false from by simpa [zcnd, cN] using h] at k'; exact k')
      · exact lv_if_ne hx hb hd htg (fun h => by rw [show zcnd (cN ClassFile.Cond.ne) x 0 = true from by simp [zcnd, cN, h]] at k'; exact k') (fun h => by rw [show zcnd (cN ClassFile.Cond.ne) x 0 = false from by simpa [zcnd, cN] using h] at k'; exact k')
      · exact lv_if_lt hx hb hd htg (fun h => by rw [show zcnd (cN ClassFile.Cond.lt) x 0 = true from by simp [zcnd, cN, h]] at k'; exact k') (fun h => by rw [show zcnd (cN ClassFile.Cond.lt) x 0 = false from by simpa [zcnd, cN] using h] at k'; exact k')
      · exact lv_if_ge hx hb hd htg (fun h => by rw [show zcnd (cN ClassFile.Cond.ge) x 0 = true from by simp [zcnd, cN, h]] at k'; exact k') (fun h => by rw [show zcnd (cN ClassFile.Cond.ge) x 0 = false from by simpa [zcnd, cN] using h] at k'; exact k')
      · exact lv_if_gt hx hb hd htg (fun h => by rw [show zcnd (cN ClassFile.Cond.gt) x 0 = true from by simp [zcnd, cN, h]] at k'; exact k') (fun h => by rw [show zcnd (cN ClassFile.Cond.gt) x 0 = false from by simpa [zcnd, cN] using h] at k'; exact k')
      · exact lv_if_le hx hb hd htg (fun h => by rw [show zcnd (cN ClassFile.Cond.le) x 0 = true from by simp [zcnd, cN, h]] at k'; exact k') (fun h => by rw [show zcnd (cN ClassFile.Cond.le) x 0 = false from by simpa [zcnd, cN] using h] at k'; exact k')
    · cases hz
  case if_icmp kd off =>
    have hln := Nat.eq_of_beq_eq_true hln; subst hln
    simp only [trI] at hI
    obtain ⟨hI, htg⟩ := ztgt hI; subst hI
    simp only [zst', zgr, zs1] at hz
    split at hz
    · rename_i y x r
      cases hz
      have k' := k H locs ls ⟨hP, hSS, hScr, hl⟩
      cases kd
      · exact lv_icmp_eq hx hb hd htg (fun h => by rw [show zcnd (cN ClassFile.Cond.eq) x y = true from by simp [zcnd, cN, h]] at k'; exact k') (fun h => by rw [show zcnd (cN ClassFile.Cond.eq) x y = false from by simpa [zcnd, cN] using h] at k'; exact k')
      · exact lv_icmp_ne hx hb hd htg (fun h => by rw [show zcnd (cN ClassFile.Cond.ne) x y = true from by simp [zcnd, cN, h]] at k'; exact k') (fun h => by rw [show zcnd (cN ClassFile.Cond.ne) x y = false from by simpa [zcnd, cN] using h] at k'; exact k')
      · exact lv_icmp_lt hx hb hd htg (fun h => by rw [show zcnd (cN ClassFile.Cond.lt) x y = true from by simp [zcnd, cN, h]] at k'; exact k') (fun h => by rw [show zcnd (cN ClassFile.Cond.lt) x y = false from by simpa [zcnd, cN] using h] at k'; exact k')
      · exact lv_icmp_ge hx hb hd htg (fun h => by rw [show zcnd (cN ClassFile.Cond.ge) x y = true from by simp [zcnd, cN, h]] at k'; exact k') (fun h => by rw [show zcnd (cN ClassFile.Cond.ge) x y = false from by simpa [zcnd, cN] using h] at k'; exact k')
      · exact lv_icmp_gt hx hb hd htg (fun h => by rw [show zcnd (cN ClassFile.Cond.gt) x y = true from by simp [zcnd, cN, h]] at k'; exact k') (fun h => by rw [show zcnd (cN ClassFile.Cond.gt) x y = false from by simpa [zcnd, cN] using h] at k'; exact k')
      · exact lv_icmp_le hx hb hd htg (fun h => by rw [show zcnd (cN ClassFile.Cond.le) x y = true from by simp [zcnd, cN, h]] at k'; exact k') (fun h => by rw [show zcnd (cN ClassFile.Cond.le) x y = false from by simpa [zcnd, cN] using h] at k'; exact k')
    · cases hz
  case if_acmp kd off =>
    have hln := Nat.eq_of_beq_eq_true hln; subst hln
    simp only [trI] at hI
    obtain ⟨hI, htg⟩ := ztgt hI; subst hI
    simp only [zst', zgr, zs1] at hz
    split at hz
    · rename_i vy vx r
      split at hz
      · rename_i x y ex ey
        split at hz
        · rename_i hw
          cases hz
          have k' := k H locs ls ⟨hP, hSS, hScr, hl⟩
          have e1 := zref_rf ex
          have e2 := zref_rf ey
          subst e1; subst e2
          have hi := zinj hS hw.1 hw.2
          show W p l e R s m args below meth c H locs _ _ Q (F0 m pc ls (ztr B sa (va_rf y) :: ztr B sa (va_rf x) :: r.map (ztr B sa)))
          rw [ztr_rf, ztr_rf]
          cases kd
          · exact lv_acmp_eq hx hb hd htg (fun h => by rw [show (Nat.beq (aN .eq) 0 == decide (x = y)) = true from by simp [aN, hi.mp h]] at k'; exact k') (fun h => by rw [show (Nat.beq (aN .eq) 0 == decide (x = y)) = false from by simpa [aN] using fun q => h (hi.mpr q)] at k'; exact k')
          · exact lv_acmp_ne hx hb hd htg (fun h => by rw [show (Nat.beq (aN .ne) 0 == decide (x = y)) = true from by rw [show Nat.beq (aN .ne) 0 = false from rfl, decide_eq_false (fun q => h (hi.mpr q))]; rfl] at k'; exact k') (fun h => by rw [show (Nat.beq (aN .ne) 0 == decide (x = y)) = false from by rw [show Nat.beq (aN .ne) 0 = false from rfl, decide_eq_true (hi.mp h)]; rfl] at k'; exact k')
        · cases hz
      · cases hz
    · cases hz
  case ifnull off =>
    have hln := Nat.eq_of_beq_eq_true hln; subst hln
    simp only [trI] at hI
    obtain ⟨hI, htg⟩ := ztgt hI; subst hI
    simp only [zst', zgr, zs1] at hz
    split at hz
    · cases hz
      exact lv_ifnullN hx hb hd htg (k H locs ls ⟨hP, hSS, hScr, hl⟩)
    · cases hz
      exact lv_ifnull hx hb hd (k H locs ls ⟨hP, hSS, hScr, hl⟩)
    · cases hz
  case ifnonnull off =>
    have hln := Nat.eq_of_beq_eq_true hln; subst hln
    simp only [trI] at hI
    obtain ⟨hI, htg⟩ := ztgt hI; subst hI
    simp only [zst', zgr, zs1] at hz
    split at hz
    · cases hz
      exact lv_ifnonnullN hx hb hd (k H locs ls ⟨hP, hSS, hScr, hl⟩)
    · cases hz
      exact lv_ifnonnull hx hb hd htg (k H locs ls ⟨hP, hSS, hScr, hl⟩)
    · cases hz
  case goto off =>
    have hln := Nat.eq_of_beq_eq_true hln; subst hln
    simp only [trI] at hI
    obtain ⟨hI, htg⟩ := ztgt hI; subst hI
    simp only [zst', zgr, zs1] at hz
    cases hz
    exact lv_goto hx hb hd htg (k H locs ls ⟨hP, hSS, hScr, hl⟩)
  case aconst_null =>
    have hln := Nat.eq_of_beq_eq_true hln; subst hln
    simp only [trI, Option.some.injEq] at hI; subst hI
    simp only [zst', zgr, zs1] at hz
    cases hz
    exact lv_null hx hb hd (k H locs ls ⟨hP, hSS, hScr, hl⟩)
  case tableswitch d lo hi offs =>
    simp only [trI] at hI
    cases hr : lkW (mCls M) pc with
    | none => rw [hr] at hI; cases hI
    | some r =>
      rw [hr] at hI
      simp only [Option.bind_some] at hI
      split at hI
      · rename_i hc
        cases hI
        obtain ⟨h1, h2, h3, h4⟩ := hc
        simp only [zst', zgr, zs1] at hz
        split at hz
        · rename_i x r'
          cases hz
          have k' := k H locs ls ⟨hP, hSS, hScr, hl⟩
          by_cases hx1 : x.toInt < lo
          · rw [zsw3_out (x := x) h1 h4 (Or.inl hx1)] at k'
            exact lv_tableOut hx hb hd (Or.inl hx1) (by unfold mTgt; omega) k'
          · by_cases hx2 : hi < x.toInt
            · rw [zsw3_out (x := x) h1 h4 (Or.inr hx2)] at k'
              exact lv_tableOut hx hb hd (Or.inr hx2) (by unfold mTgt; omega) k'
            · obtain ⟨off, g1, g2, g3⟩ := zsw3_in (x := x) h1 h4 hx1 hx2
              rw [g3] at k'
              have h5 := List.all_eq_true.mp h2 off g2
              rw [decide_eq_true_eq] at h5
              exact lv_tableIn hx hb hd hx1 hx2 g1 (by unfold mTgt; omega) k'
        · cases hz
      · cases hI
  case getstatic j =>
    have hln := Nat.eq_of_beq_eq_true hln; subst hln
    simp only [trI] at hI
    cases hr : lkS (mCls M) j with
    | none => rw [hr] at hI; cases hI
    | some r =>
      rw [hr] at hI
      cases hI
      obtain ⟨h1, h2, h3⟩ := lkS_ok hr
      obtain ⟨h4, h5, h6⟩ := zst_ok r h1
      simp only [zst', zgr, zs1] at hz
      cases hz
      have k' := k H locs ls ⟨hP, hSS, hScr, hl⟩
      have hZ : va_Z (zsf r.2.2.1).1 (zsf r.2.2.1).2.1 (zsf r.2.2.1).2.2 (ztr B sa (.ref r.2.2.1)) (zA B) s s.heap := by
        rcases h6 with h6 | h6
        · rw [h6]; exact hS.1
        · have h7 := hS.2.2.1 (r.2.2.1 - 1010) (by omega)
          have h8 : zsf r.2.2.1 = ("RugReader$Word", zwnm (r.2.2.1 - 1010), "LRugReader$Word;") := by unfold zsf; rw [if_neg (by omega)]
          rw [h8]
          dsimp only
          show va_Z _ _ _ (.ref (zad B sa r.2.2.1)) _ _ _
          rw [zad_word h6.1]
          exact h7
      unfold zsw1 at h4 h5
      rw [h2, h3] at h4 h5
      cases hn : r.2.2.2.2 with
      | false =>
        rw [hn] at h4 h5
        exact va_gets hx hb hZ hSS hown (zwd_b hts h4 (h5 rfl)) (fun _ h => h) hd k'
      | true =>
        have h9 := hN.2.1 _ (zst_n r h1 hn)
        unfold zsw1 at h9
        rw [h2, h3, hn] at h9
        exact va_getsN hx hb hZ hSS hown (va_Nw.use rfl h9) (fun _ h => h) hd k'
  case invokespecial j =>
    have hln := Nat.eq_of_beq_eq_true hln; subst hln
    simp only [trI, mOp] at hI
    cases hr : lkM (mCls M) j with
    | none => rw [hr] at hI; cases hI
    | some r =>
      rw [hr] at hI
      simp only [Option.bind_some] at hI
      split at hI
      · split at hI <;> simp_all
      · split at hI
        · rename_i hne h1001
          split at hI
          · cases hI
            obtain ⟨h1, h2, h3⟩ := lkM_ok hr
            obtain ⟨h4, h5, h6⟩ := zml_ok _ hc15 r h1
            have hn := zml_1000 _ hc15 r h1 (by omega)
            have h5 := h5 hn
            have h7 : zmw r = .methodLink (zC (mCls M)) j Lib.objectInit := by
              unfold zmw zyy
              rw [hn, if_neg (by decide), h1001, h2, h3]; rfl
            rw [h7] at h4 h5
            simp only [zst', zgr, zs1] at hz
            split at hz
            · rename_i o r'
              split at hz
              · rename_i hsum
                cases hz
                refine W.objInit hx hb hown (zwd_b hts h4 h5) (zwd_b hts zobw.1.1 zobw.1.2) (zwd_b hts zobw.2.1 zobw.2.2) rfl (hl.1.trans hml.symm) rfl hd hfr ?_ (k H locs ls ⟨hP, hSS, hScr, hl⟩)
                show 2 * 0 + ((r'.map (ztr B sa)).map fun v => v.category).sum + 12 ≤ R.locals
                rw [ztr_sum]
                omega
              · cases hz
            · cases hz
          · rename_i h; exact absurd trivial h
        · split at hI
          · cases hI
            simp only [zst', zgr, zs1] at hz
            cases hz
          · cases hI
  case invokevirtual j =>
    simp only [trI, mOp] at hI
    cases hr : lkM (mCls M) j with
    | none => rw [hr] at hI; cases hI
    | some r =>
      rw [hr] at hI
      simp only [Option.bind_some] at hI
      split at hI
      · split at hI
        · rename_i h; exact absurd h (by decide)
        · cases hI
      · split at hI
        · split at hI
          · rename_i h; exact absurd h (by decide)
          · cases hI
        · split at hI
          · cases hI
            simp only [zst', zgr, zs1] at hz
            cases hz
          · cases hI
  case invokestatic j =>
    simp only [trI, mOp] at hI
    cases hr : lkM (mCls M) j with
    | none => rw [hr] at hI; cases hI
    | some r =>
      rw [hr] at hI
      simp only [Option.bind_some] at hI
      split at hI
      · split at hI
        · cases hI
          simp [zgr] at hg
        · cases hI
      · split at hI
        · split at hI
          · rename_i h; exact absurd h (by decide)
          · cases hI
        · split at hI
          · cases hI
            simp only [zst', zgr, zs1] at hz
            cases hz
          · cases hI
  case getfield j =>
    simp only [trI] at hI
    cases hr : lkF (mCls M) j with
    | none => rw [hr] at hI; cases hI
    | some r =>
      rw [hr] at hI
      simp only [Option.bind_some, gOp] at hI
      split at hI
      · cases hI; simp [zgr] at hg
      · split at hI <;> first | (cases hI; simp [zgr] at hg) | cases hI
  case putfield j =>
    simp only [trI] at hI
    cases hr : lkF (mCls M) j with
    | none => rw [hr] at hI; cases hI
    | some r =>
      rw [hr] at hI
      simp only [Option.bind_some, pOp] at hI
      split at hI
      · cases hI
      · split at hI
        · split at hI <;> (cases hI; simp [zgr] at hg)
        all_goals first | (cases hI; simp [zgr] at hg) | cases hI
  case new j =>
    simp only [trI] at hI
    cases hr : lkC (mCls M) j with
    | none => rw [hr] at hI; cases hI
    | some r => rw [hr] at hI; cases hI; simp [zgr] at hg
  case anewarray j =>
    simp only [trI] at hI
    cases hr : lkC (mCls M) j with
    | none => rw [hr] at hI; cases hI
    | some r => rw [hr] at hI; cases hI; simp [zgr] at hg
  case newarray t => cases t <;> simp only [trI] at hI <;> first | (cases hI; simp [zgr] at hg) | cases hI
  case return_ =>
    simp only [trI, Option.some.injEq] at hI; subst hI
    simp only [zst', zgr, zs1] at hz
    cases hz
  case ireturn =>
    simp only [trI, Option.some.injEq] at hI; subst hI
    simp only [zst', zgr, zs1] at hz
    cases hz
  case lreturn =>
    simp only [trI, Option.some.injEq] at hI; subst hI
    simp only [zst', zgr, zs1] at hz
    cases hz
  case areturn =>
    simp only [trI, Option.some.injEq] at hI; subst hI
    simp only [zst', zgr, zs1] at hz
    cases hz
  all_goals first | (simp only [trI] at hI; cases hI; done) | (simp only [trI, Option.some.injEq] at hI; subst hI; simp [zgr] at hg)
end ZT
end
section
/-! .. fields -/
section ZT2
variable {dC : Nat → ClassId} {dI : Nat → Nat → Nat} {dA : Nat → ClassId} {B L : Nat} {xs : Nat → Int32} {sa : Nat → Nat}
variable {p : Program} {l : Launch} {e : Env} {R : Room} {s : State} {m : MethodId} {args : Array Value} {below : List Frame} {meth : Method} {c : Code} {Q : State → Prop}
theorem zfk_ty : ∀ c, c < 11 → ∀ k, k < zN c → (zFk c k = 0 → zTy c k = .int ∨ zTy c k = .boolean) ∧ (zFk c k = 1 → zTy c k = .long) ∧ (zFk c k = 2 → (match zTy c k with
    | .object _ => true
    | .array _ => true
    | _ => false) = true) := by decide +kernel
theorem zw20 {o : Nat} (h1 : 1010 ≤ o) (h2 : o < 1030) : o - 1010 < 20 := by omega
theorem zput_w {M : Mth} (hx : p.tables.exec = Jvm.exec) (hb : c.code = zby (mNum M)) (hown : s.vm.findClass (zC (mCls M)) = some m.cls) (hts : ∀ w ∈ zWS, w.before args s = true) (hini : zini.contains (mNum M) = true → meth.name = "<init>") (hK : va_K (dC, dI) zcl (ztys dA) s)
    {w w' : Wd} {H : Heap} {locs : List Loc} (hP : zHp dC dI dA B sa w H) (hSS : va_S (zA B) s.heap H locs) {o ci kf j : Nat} (ho : o < wn w) (hs : (zsh o).1 = ci) (hci : ci < 11) (hk : kf < zN ci) (hdecl : (zT ci kf).1 = zC ci)
    (hlink : (Jvm.Cond.fieldLink (zC (mCls M)) j (zC ci) (zT ci kf).2.1 (zT ci kf).2.2.1).before args s = true) (hpf : zpf M ci kf = true) {v : Value} (hn : narrow (zTy ci kf) v = v) (hfit : fits (zTy ci kf) v = true)
    (hw : wn w' = wn w) (hrow : ∀ i, i ≠ o → wI w' i = wI w i ∧ wL w' i = wL w i ∧ wR w' i = wR w i) (hv : ztr B sa (zfv (zFk ci kf) w' o kf) = v) (hov : ∀ i, i ≠ kf → ztr B sa (zfv (zFk ci i) w' o i) = ztr B sa (zfv (zFk ci i) w o i))
    {pc cells slots : Nat} {ls : Array Slot} {rest : List Value} (hd : decode (zby (mNum M)) pc = .ok (.putfield j, 3))
    (kk : ∀ (H1 : Heap) (locs1 : List Loc), zHp dC dI dA B sa w' H1 → va_S (zA B) s.heap H1 locs1 → W p l e R s m args below meth c H1 locs1 cells slots Q (F0 m (pc + 3) ls rest)) :
    W p l e R s m args below meth c H locs cells slots Q (F0 m pc ls (v :: .ref (zad B sa o) :: rest)) := by
  have h192 : o < 192 := Nat.lt_of_lt_of_le ho hP.2
  rw [zad_own h192]
  have he : (zws dA B sa w)[o]? = some (B + o, .inr (ci, (List.range (zN ci)).map (fun i => ztr B sa (zfv (zFk ci i) w o i)))) := by
    rw [zws_get ho, zcell_obj h192 hs hci]
  have hset : (zws dA B sa w).set o (B + o, .inr (ci, ((List.range (zN ci)).map (fun i => ztr B sa (zfv (zFk ci i) w o i))).set kf v)) = zws dA B sa w' := by
    rw [← zfld_set h192 hs hci hv hov]
    exact zws_set hw ho hrow
  have hd2 := zty_ok ci hci kf hk
  have hcl := zcl_get hci
  have hl : kf < ((List.range (zN ci)).map (fun i => ztr B sa (zfv (zFk ci i) w o i))).length := by simpa using hk
  have hsame : ∀ x, s.fieldFound? (zT ci kf).1 (zT ci kf).2.1 (zT ci kf).2.2.1 = some x → s.fieldFound? (zC ci) (zT ci kf).2.1 (zT ci kf).2.2.1 = some x := fun x h => by rw [hdecl] at h; exact h
  have fin : ∀ (H1 : Heap) (locs1 : List Loc), va_P (dC, dI) zcl ((zws dA B sa w).set o (B + o, .inr (ci, ((List.range (zN ci)).map (fun i => ztr B sa (zfv (zFk ci i) w o i))).set kf v))) H1 → va_S (zA B) s.heap H1 locs1 → W p l e R s m args below meth c H1 locs1 cells slots Q (F0 m (pc + 3) ls rest) := by
    intro H1 locs1 g1 g2
    rw [hset] at g1
    exact kk H1 locs1 ⟨g1, by rw [hw]; exact hP.2⟩ g2
  cases hf : (zT ci kf).2.2.2 with
  | false => exact va_put hx hb hts (zlay ci hci) (zTy ci) (zty_ok ci hci) (znm_ok ci hci) hown hK hP.1 (zD w) hSS o he hcl kf hk hlink hsame hf hd2 hn hfit hl hd (fun H1 locs1 g1 _ g2 => fin H1 locs1 g1 g2)
  | true =>
    unfold zpf at hpf
    rw [hf] at hpf
    simp only [Bool.not_true, Bool.false_or, Bool.and_eq_true] at hpf
    have h5 := Nat.eq_of_beq_eq_true hpf.2
    exact va_putF hx hb hts (zlay ci hci) (zTy ci) (zty_ok ci hci) (znm_ok ci hci) hown hK hP.1 (zD w) hSS o he hcl kf hk hlink hsame hf (hini hpf.1) (by rw [hdecl, h5]) hd2 hn hfit hl hd (fun H1 locs1 g1 _ g2 => fin H1 locs1 g1 g2)
theorem zfv_sI {kd : Nat} (w : Wd) (o k : Nat) (x : Int32) (i : Nat) (h : i ≠ k) : zfv kd (sI w o k x) o i = zfv kd w o i := by
  unfold zfv
  simp [wI_sI, wL_sI, wR_sI, h]
theorem zfv_sL {kd : Nat} (w : Wd) (o k : Nat) (x : Int64) (i : Nat) (h : i ≠ k) : zfv kd (sL w o k x) o i = zfv kd w o i := by
  unfold zfv
  simp [wI_sL, wL_sL, show wR (sL w o k x) = wR w from rfl, h]
theorem zfv_sR {kd : Nat} (w : Wd) (o k : Nat) (x : Option Nat) (i : Nat) (h : i ≠ k) : zfv kd (sR w o k x) o i = zfv kd w o i := by
  unfold zfv
  simp [wI_sR, wL_sR, wR_sR, h]
theorem zrow_sI (w : Wd) (o k : Nat) (x : Int32) (i : Nat) (h : i ≠ o) : wI (sI w o k x) i = wI w i ∧ wL (sI w o k x) i = wL w i ∧ wR (sI w o k x) i = wR w i := ⟨by funext b; simp [wI_sI, h], rfl, rfl⟩
theorem zrow_sL (w : Wd) (o k : Nat) (x : Int64) (i : Nat) (h : i ≠ o) : wI (sL w o k x) i = wI w i ∧ wL (sL w o k x) i = wL w i ∧ wR (sL w o k x) i = wR w i := ⟨rfl, by funext b; simp [wL_sL, h], rfl⟩
theorem zrow_sR (w : Wd) (o k : Nat) (x : Option Nat) (i : Nat) (h : i ≠ o) : wI (sR w o k x) i = wI w i ∧ wL (sR w o k x) i = wL w i ∧ wR (sR w o k x) i = wR w i := ⟨rfl, rfl, by funext b; simp [wR_sR, h]⟩
theorem zscr_sI {w : Wd} (h : zScr L xs w) {o k : Nat} (x : Int32) (ho : o < 192) : zScr L xs (sI w o k x) := ⟨fun j => by rw [wI_sI, if_neg (by omega)]; exact h.1 j, by rw [wI_sI, if_neg (by omega)]; exact h.2.1, h.2.2⟩
theorem zput_i {x : Int32} {ci kf : Nat} (hci : ci < 11) (hk : kf < zN ci) (h0 : zFk ci kf = 0) (hb : zTy ci kf = .boolean → x = 0 ∨ x = 1) : narrow (zTy ci kf) (.int x) = .int x ∧ fits (zTy ci kf) (.int x) = true := by
  rcases (zfk_ty ci hci kf hk).1 h0 with h | h
  · rw [h]; exact ⟨rfl, rfl⟩
  · rcases hb h with q | q <;> subst q <;> rw [h] <;> exact ⟨by decide +kernel, by decide +kernel⟩
theorem zput_l {x : Int64} {ci kf : Nat} (hci : ci < 11) (hk : kf < zN ci) (h0 : zFk ci kf = 1) : narrow (zTy ci kf) (.long x) = .long x ∧ fits (zTy ci kf) (.long x) = true := by
  rw [(zfk_ty ci hci kf hk).2.1 h0]; exact ⟨rfl, rfl⟩
theorem zput_r {x : Option Nat} {ci kf : Nat} (hci : ci < 11) (hk : kf < zN ci) (h0 : zFk ci kf = 2) : narrow (zTy ci kf) (va_rf x) = va_rf x ∧ fits (zTy ci kf) (va_rf x) = true := by
  have h := (zfk_ty ci hci kf hk).2.2 h0
  split at h
  · rename_i q; rw [q]; cases x <;> exact ⟨rfl, rfl⟩
  · rename_i q; rw [q]; cases x <;> exact ⟨rfl, rfl⟩
  · cases h
set_option maxHeartbeats 1000000 in
theorem zstep2 {M : Mth} (hM : zchk M = true) (C : zCtx dC dI dA B L xs sa M p s m args meth c R) {cf sf : Nat → Nat} {a b : Cfg} {op : Op4} {npc : Nat} (ho : opAt (mCode M) a.1 = some (op, npc)) (hz : zst' M op npc a.2.1 a.2.2.1 a.2.2.2 = some b) (hg : zgr op.1 = 2)
    (k : zWk dC dI dA B L xs sa M p l e R s m args below meth c cf sf Q b) : zWk dC dI dA B L xs sa M p l e R s m args below meth c cf sf Q a := by
  obtain ⟨i, len, hd, hln, hn, hI⟩ := zdec_op hM ho
  obtain ⟨hx, hb, hml, hown, hts, hini, hK, hS, hN, hB, hfr, hlo, hc15⟩ := C
  obtain ⟨pc, lv, st, w⟩ := a
  intro H locs ls hA
  obtain ⟨hP, hSS, hScr, hl⟩ := hA
  dsimp only at hP hSS hScr hl ho hz hI hd hn ⊢
  subst hn
  cases i
  case getfield j =>
    have hln := Nat.eq_of_beq_eq_true hln; subst hln
    simp only [trI] at hI
    cases hr : lkF (mCls M) j with
    | none => rw [hr] at hI; cases hI
    | some r =>
      rw [hr] at hI
      obtain ⟨h1, h2, h3⟩ := lkF_ok hr
      obtain ⟨h4, h5, -, h6⟩ := zfl_ok _ hc15 r h1
      have hlink := zwd_b hts h4 h5
      unfold zfw at hlink
      rw [h2, h3] at hlink
      obtain ⟨rc, rj, ci, kf, rp, rn⟩ := r
      dsimp only at h6 hlink h2 h3
      simp only [Option.bind_some, gOp] at hI
      split at hI
      · rename_i h11
        subst h11
        cases hI
        simp only [zst', zgr, zs2] at hz
        split at hz
        · rename_i o r'
          split at hz
          · rename_i hw
            cases hz
            have k' := k H locs ls ⟨hP, hSS, hScr, hl⟩
            have hk3 : kf < 3 := by
              rcases h6 with h6 | h6
              · exact absurd h6.1 (by decide)
              · exact h6.2
            show W p l e R s m args below meth c H locs _ _ Q (F0 m pc ls (.ref (zad B sa o) :: r'.map (ztr B sa)))
            rw [zad_word hw.1]
            have hi20 : o - 1010 < 20 := zw20 hw.1 hw.2
            match kf, hk3, hlink, k' with
            | 0, _, hlink, k' => exact va_getX hx hb (ad := fun i => sa (10 + i)) hS.2.2.2.1 (i := o - 1010) hi20 hSS hown hlink (fun _ h => h) hd k'
            | 1, _, hlink, k' => exact va_getX hx hb (ad := fun i => sa (10 + i)) hS.2.2.2.2.1 (i := o - 1010) hi20 hSS hown hlink (fun _ h => h) hd k'
            | 2, _, hlink, k' => exact va_getX hx hb (ad := fun i => sa (10 + i)) hS.2.2.2.2.2.1 (i := o - 1010) hi20 hSS hown hlink (fun _ h => h) hd k'
          · cases hz
        · cases hz
      · rename_i h11
        rw [if_neg h11] at hlink
        dsimp only at hlink
        rcases h6 with ⟨hci, hk, hdecl⟩ | h6
        · have key : ∀ (o : Nat) (r' : List Value), zobj w o ci = true → W p l e R s m args below meth c H locs (cf (wn w)) (sf (wn w)) Q (F0 m (pc + 3) ls (ztr B sa (zfv (zFk ci kf) w o kf) :: r'.map (ztr B sa))) → W p l e R s m args below meth c H locs (cf (wn w)) (sf (wn w)) Q (F0 m pc ls (.ref (zad B sa o) :: r'.map (ztr B sa))) := by
            intro o r' hob k'
            obtain ⟨ho1, ho2⟩ := zobj_iff hob
            have h192 : o < 192 := Nat.lt_of_lt_of_le ho1 hP.2
            rw [zad_own h192]
            have he : (zws dA B sa w)[o]? = some (B + o, .inr (ci, (List.range (zN ci)).map (fun i => ztr B sa (zfv (zFk ci i) w o i)))) := by
              rw [zws_get ho1, zcell_obj h192 ho2 hci]
            exact va_get hx hb hts (zlay ci hci) hown hK hP.1 o he (zcl_get hci) kf hk hlink (fun x h => by rw [hdecl] at h; exact h) (by rw [List.getElem?_map, List.getElem?_range hk]; rfl) hd k'
          split at hI
          · rename_i h0
            cases hI
            simp only [zst', zgr, zs2] at hz
            split at hz
            · rename_i o r'
              split at hz
              · rename_i hob
                cases hz
                exact key o r' hob (by rw [h0]; exact k H locs ls ⟨hP, hSS, hScr, hl⟩)
              · cases hz
            · cases hz
          · rename_i h0
            cases hI
            simp only [zst', zgr, zs2] at hz
            split at hz
            · rename_i o r'
              split at hz
              · rename_i hob
                cases hz
                exact key o r' hob (by rw [h0]; exact k H locs ls ⟨hP, hSS, hScr, hl⟩)
              · cases hz
            · cases hz
          · rename_i h0
            cases hI
            simp only [zst', zgr, zs2] at hz
            split at hz
            · rename_i o r'
              split at hz
              · rename_i hob
                cases hz
                exact key o r' hob (by rw [h0]; exact k H locs ls ⟨hP, hSS, hScr, hl⟩)
              · cases hz
            · cases hz
          · cases hI
        · exact absurd h6.1 h11
  case putfield j =>
    have hln := Nat.eq_of_beq_eq_true hln; subst hln
    simp only [trI] at hI
    cases hr : lkF (mCls M) j with
    | none => rw [hr] at hI; cases hI
    | some r =>
      rw [hr] at hI
      obtain ⟨h1, h2, h3⟩ := lkF_ok hr
      obtain ⟨h4, h5, -, h6⟩ := zfl_ok _ hc15 r h1
      have hlink := zwd_b hts h4 h5
      unfold zfw at hlink
      rw [h2, h3] at hlink
      obtain ⟨rc, rj, ci, kf, rp, rn⟩ := r
      dsimp only at h6 hlink h2 h3
      simp only [Option.bind_some, pOp] at hI
      split at hI
      · cases hI
      · rename_i h11
        rw [if_neg h11] at hlink
        dsimp only at hlink
        rcases h6 with ⟨hci, hk, hdecl⟩ | h6
        · split at hI
          · rename_i h0
            split at hI
            · rename_i hbool
              cases hI
              simp only [zst', zgr, zs2] at hz
              split at hz
              · rename_i x o r'
                split at hz
                · rename_i hc
                  obtain ⟨hob, hpf, h01⟩ := hc
                  cases hz
                  obtain ⟨ho1, ho2⟩ := zobj_iff hob
                  have h192 : o < 192 := Nat.lt_of_lt_of_le ho1 hP.2
                  obtain ⟨g1, g2⟩ := zput_i hci hk h0 (fun _ => h01)
                  exact zput_w hx hb hown hts hini hK hP hSS ho1 ho2 hci hk hdecl hlink hpf (v := .int x) g1 g2 (w' := sI w o kf x) rfl (zrow_sI w o kf x) (by rw [h0]; simp [zfv, ztr, wI_sI]) (fun i hi => by rw [zfv_sI w o kf x i hi]) hd (fun H1 locs1 q1 q2 => k H1 locs1 ls ⟨q1, q2, zscr_sI hScr x h192, hl⟩)
                · cases hz
              · cases hz
            · rename_i hbool
              cases hI
              simp only [zst', zgr, zs2] at hz
              split at hz
              · rename_i x o r'
                split at hz
                · rename_i hc
                  obtain ⟨hob, hpf⟩ := hc
                  cases hz
                  obtain ⟨ho1, ho2⟩ := zobj_iff hob
                  have h192 : o < 192 := Nat.lt_of_lt_of_le ho1 hP.2
                  obtain ⟨g1, g2⟩ := zput_i (x := x) hci hk h0 (fun h => absurd h hbool)
                  exact zput_w hx hb hown hts hini hK hP hSS ho1 ho2 hci hk hdecl hlink hpf (v := .int x) g1 g2 (w' := sI w o kf x) rfl (zrow_sI w o kf x) (by rw [h0]; simp [zfv, ztr, wI_sI]) (fun i hi => by rw [zfv_sI w o kf x i hi]) hd (fun H1 locs1 q1 q2 => k H1 locs1 ls ⟨q1, q2, zscr_sI hScr x h192, hl⟩)
                · cases hz
              · cases hz
          · rename_i h0
            cases hI
            simp only [zst', zgr, zs2] at hz
            split at hz
            · rename_i x o r'
              split at hz
              · rename_i hc
                obtain ⟨hob, hpf⟩ := hc
                cases hz
                obtain ⟨ho1, ho2⟩ := zobj_iff hob
                obtain ⟨g1, g2⟩ := zput_l (x := x) hci hk h0
                exact zput_w hx hb hown hts hini hK hP hSS ho1 ho2 hci hk hdecl hlink hpf (v := .long x) g1 g2 (w' := sL w o kf x) rfl (zrow_sL w o kf x) (by rw [h0]; simp [zfv, ztr, wL_sL]) (fun i hi => by rw [zfv_sL w o kf x i hi]) hd (fun H1 locs1 q1 q2 => k H1 locs1 ls ⟨q1, q2, hScr, hl⟩)
              · cases hz
            · cases hz
          · rename_i h0
            cases hI
            simp only [zst', zgr, zs2] at hz
            split at hz
            · rename_i v o r'
              split at hz
              · rename_i q hq
                split at hz
                · rename_i hc
                  obtain ⟨hob, hpf⟩ := hc
                  cases hz
                  have hv := zref_rf hq
                  subst hv
                  obtain ⟨ho1, ho2⟩ := zobj_iff hob
                  obtain ⟨g1, g2⟩ := zput_r (x := q.map (zad B sa)) hci hk h0
                  show W p l e R s m args below meth c H locs _ _ Q (F0 m pc ls (ztr B sa (va_rf q) :: .ref (zad B sa o) :: r'.map (ztr B sa)))
                  rw [ztr_rf]
                  exact zput_w hx hb hown hts hini hK hP hSS ho1 ho2 hci hk hdecl hlink hpf (v := va_rf (q.map (zad B sa))) g1 g2 (w' := sR w o kf q) rfl (zrow_sR w o kf q) (by rw [h0, ← ztr_rf]; simp [zfv, wR_sR]) (fun i hi => by rw [zfv_sR w o kf q i hi]) hd (fun H1 locs1 q1 q2 => k H1 locs1 ls ⟨q1, q2, hScr, hl⟩)
                · cases hz
              · cases hz
            · cases hz
          · cases hI
        · exact absurd h6.1 h11
  case invokespecial j =>
    simp only [trI, mOp] at hI
    cases hr : lkM (mCls M) j with
    | none => rw [hr] at hI; cases hI
    | some r =>
      rw [hr] at hI
      simp only [Option.bind_some] at hI
      repeat' split at hI
      all_goals first | cases hI | skip
      all_goals simp [zgr] at hg
  case invokevirtual j =>
    simp only [trI, mOp] at hI
    cases hr : lkM (mCls M) j with
    | none => rw [hr] at hI; cases hI
    | some r =>
      rw [hr] at hI
      simp only [Option.bind_some] at hI
      repeat' split at hI
      all_goals first | cases hI | skip
      all_goals simp [zgr] at hg
  case invokestatic j =>
    simp only [trI, mOp] at hI
    cases hr : lkM (mCls M) j with
    | none => rw [hr] at hI; cases hI
    | some r =>
      rw [hr] at hI
      simp only [Option.bind_some] at hI
      repeat' split at hI
      all_goals first | cases hI | skip
      all_goals simp [zgr] at hg
  case new j =>
    simp only [trI] at hI
    cases hr : lkC (mCls M) j with
    | none => rw [hr] at hI; cases hI
    | some r => rw [hr] at hI; cases hI; simp [zgr] at hg
  case anewarray j =>
    simp only [trI] at hI
    cases hr : lkC (mCls M) j with
    | none => rw [hr] at hI; cases hI
    | some r => rw [hr] at hI; cases hI; simp [zgr] at hg
  case newarray t => cases t <;> simp only [trI] at hI <;> first | (cases hI; simp [zgr] at hg; done) | (cases hI; done)
  case ldc j =>
    simp only [trI] at hI
    cases hr : lkI (mCls M) j with
    | none => rw [hr] at hI; cases hI
    | some r => rw [hr] at hI; cases hI; simp [zgr] at hg
  case ldc_w j =>
    simp only [trI] at hI
    cases hr : lkI (mCls M) j with
    | none => rw [hr] at hI; cases hI
    | some r => rw [hr] at hI; cases hI; simp [zgr] at hg
  case ldc2_w j =>
    simp only [trI] at hI
    cases hr : lkJ (mCls M) j with
    | none => rw [hr] at hI; cases hI
    | some r => rw [hr] at hI; cases hI; simp [zgr] at hg
  case getstatic j =>
    simp only [trI] at hI
    cases hr : lkS (mCls M) j with
    | none => rw [hr] at hI; cases hI
    | some r => rw [hr] at hI; cases hI; simp [zgr] at hg
  case tableswitch d lo hi offs =>
    simp only [trI] at hI
    cases hr : lkW (mCls M) pc with
    | none => rw [hr] at hI; cases hI
    | some r =>
      rw [hr] at hI
      simp only [Option.bind_some] at hI
      split at hI
      · cases hI; simp [zgr] at hg
      · cases hI
  case ifCond kd off => simp only [trI] at hI; obtain ⟨hI, -⟩ := ztgt hI; subst hI; simp [zgr] at hg
  case if_icmp kd off => simp only [trI] at hI; obtain ⟨hI, -⟩ := ztgt hI; subst hI; simp [zgr] at hg
  case if_acmp kd off => simp only [trI] at hI; obtain ⟨hI, -⟩ := ztgt hI; subst hI; simp [zgr] at hg
  case ifnull off => simp only [trI] at hI; obtain ⟨hI, -⟩ := ztgt hI; subst hI; simp [zgr] at hg
  case ifnonnull off => simp only [trI] at hI; obtain ⟨hI, -⟩ := ztgt hI; subst hI; simp [zgr] at hg
  case goto off => simp only [trI] at hI; obtain ⟨hI, -⟩ := ztgt hI; subst hI; simp [zgr] at hg
  all_goals first | (simp only [trI] at hI; cases hI; done) | (simp only [trI, Option.some.injEq] at hI; subst hI; simp [zgr] at hg)
end ZT2
end
section
/-! .. rows, new objects -/
section ZT3
variable {dC : Nat → ClassId} {dI : Nat → Nat → Nat} {dA : Nat → ClassId} {B L : Nat} {xs : Nat → Int32} {sa : Nat → Nat}
variable {p : Program} {l : Launch} {e : Env} {R : Room} {s : State} {m : MethodId} {args : Array Value} {below : List Frame} {meth : Method} {c : Code} {Q : State → Prop}
def zslt : Nat → Nat
  | 0 => 0
  | n + 1 => zslt n + (zsh n).2
theorem zset_i {w : Wd} {o j t : Nat} {x : Int32} (ho : o < wn w) (hs : (zsh o).1 = t) (ht : t = 101 ∨ t = 103 ∨ t = 104) : (zws dA B sa w).set o (B + o, .inl (dA t, (zsh o).2, .inl (upd (wI w o) j x))) = zws dA B sa (sI w o j x) := by
  rw [← zws_set (w := w) (w' := sI w o j x) rfl ho (zrow_sI w o j x), zcell_int hs ht]
  congr 5
  refine congrArg _ ?_
  funext b
  simp [upd, wI_sI]
theorem zset_l {w : Wd} {o j : Nat} {x : Int64} (ho : o < wn w) (hs : (zsh o).1 = 102) : (zws dA B sa w).set o (B + o, .inl (dA 102, (zsh o).2, .inr (.inl (vp_updL (wL w o) j x)))) = zws dA B sa (sL w o j x) := by
  rw [← zws_set (w := w) (w' := sL w o j x) rfl ho (zrow_sL w o j x), zcell_long hs]
  congr 6
  refine congrArg _ ?_
  funext b
  simp [vp_updL, wL_sL]
theorem zset_q {w : Wd} {o j t q : Nat} (ho : o < wn w) (hs : (zsh o).1 = t) (ht : 110 ≤ t) : (zws dA B sa w).set o (B + o, .inl (dA t, (zsh o).2, .inr (.inr (.inr (.inr (va_up (fun b => (wR w o b).map (zad B sa)) j (some (zad B sa q)))))))) = zws dA B sa (sR w o j (some q)) := by
  rw [← zws_set (w := w) (w' := sR w o j (some q)) rfl ho (zrow_sR w o j (some q)), zcell_ref hs ht]
  congr 8
  refine congrArg _ ?_
  funext b
  by_cases h : b = j
  · subst h; simp [va_up, wR_sR]
  · simp [va_up, wR_sR, h]
theorem zrow_rI (w : Wd) (o : Nat) (f : Nat → Int32) (i : Nat) (h : i ≠ o) : wI (rI w o f) i = wI w i ∧ wL (rI w o f) i = wL w i ∧ wR (rI w o f) i = wR w i := ⟨by funext b; simp [wI_rI, h], rfl, rfl⟩
theorem zrow_rL (w : Wd) (o : Nat) (f : Nat → Int64) (i : Nat) (h : i ≠ o) : wI (rL w o f) i = wI w i ∧ wL (rL w o f) i = wL w i ∧ wR (rL w o f) i = wR w i := ⟨rfl, by funext b; simp [wL_rL, h], rfl⟩
theorem zset_ri {w : Wd} {o : Nat} {f : Nat → Int32} (ho : o < wn w) (hs : (zsh o).1 = 101) : (zws dA B sa w).set o (B + o, .inl (dA 101, (zsh o).2, .inl f)) = zws dA B sa (rI w o f) := by
  rw [← zws_set (w := w) (w' := rI w o f) rfl ho (zrow_rI w o f), zcell_int hs (Or.inl rfl)]
  congr 5
  refine congrArg _ ?_
  funext b
  simp [wI_rI]
theorem zset_rl {w : Wd} {o : Nat} {f : Nat → Int64} (ho : o < wn w) (hs : (zsh o).1 = 102) : (zws dA B sa w).set o (B + o, .inl (dA 102, (zsh o).2, .inr (.inl f))) = zws dA B sa (rL w o f) := by
  rw [← zws_set (w := w) (w' := rL w o f) rfl ho (zrow_rL w o f), zcell_long hs]
  congr 6
  refine congrArg _ ?_
  funext b
  simp [wL_rL]
/-- one object more -/
theorem zws_alc {w : Wd} {z : va_E} (h : zcell dA B sa (alc w) (wn w) = z) : zws dA B sa (alc w) = zws dA B sa w ++ [(B + wn w, z)] := by
  apply List.ext_getElem?
  intro i
  have hn : wn (alc w) = wn w + 1 := rfl
  by_cases hi : i < wn w
  · rw [zws_get (by rw [hn]; omega), List.getElem?_append_left (by rw [zws_len]; exact hi), zws_get hi]
    have hne : ¬ i = wn w := by omega
    have g1 : wI (alc w) i = wI w i := by funext b; show (if i = wn w then _ else _) = _; rw [if_neg hne]
    have g2 : wL (alc w) i = wL w i := by funext b; show (if i = wn w then _ else _) = _; rw [if_neg hne]
    have g3 : wR (alc w) i = wR w i := by funext b; show (if i = wn w then _ else _) = _; rw [if_neg hne]
    rw [zcell_congr g1 g2 g3]
  · by_cases he : i = wn w
    · subst he
      rw [zws_get (by rw [hn]; omega), List.getElem?_append_right (by rw [zws_len]; omega), zws_len, Nat.sub_self, h]; rfl
    · rw [List.getElem?_eq_none (by rw [zws_len, hn]; omega), List.getElem?_eq_none (by rw [List.length_append, zws_len, List.length_singleton]; omega)]
theorem zalc_I (w : Wd) (j : Nat) : wI (alc w) (wn w) j = 0 := by show (if wn w = wn w then _ else _) = _; rw [if_pos rfl]
theorem zalc_L (w : Wd) (j : Nat) : wL (alc w) (wn w) j = 0 := by show (if wn w = wn w then _ else _) = _; rw [if_pos rfl]
theorem zalc_R (w : Wd) (j : Nat) : wR (alc w) (wn w) j = none := by show (if wn w = wn w then _ else _) = _; rw [if_pos rfl]
theorem zscr_alc {w : Wd} (h : zScr L xs w) (hn : wn w < 1000) : zScr L xs (alc w) := by
  refine ⟨fun j => ?_, ?_, h.2.2⟩
  · show (if (1000 : Nat) = wn w then _ else _) = _
    rw [if_neg (by omega)]; exact h.1 j
  · show (if (1003 : Nat) = wn w then _ else _) = _
    rw [if_neg (by omega)]; exact h.2.1
theorem zscr_rI {w : Wd} (h : zScr L xs w) {o : Nat} (f : Nat → Int32) (ho : o < 192) : zScr L xs (rI w o f) := ⟨fun j => by rw [wI_rI, if_neg (by omega)]; exact h.1 j, by rw [wI_rI, if_neg (by omega)]; exact h.2.1, h.2.2⟩
theorem zdef_val : ∀ c, c < 11 → ∀ k, k < zN c → (match zTy c k with
    | .object _ => zFk c k = 2
    | .array _ => zFk c k = 2
    | .long => zFk c k = 1
    | .int => zFk c k = 0
    | .boolean => zFk c k = 0
    | _ => False) := by
  intro c hc k hk
  have h := (by decide +kernel : ∀ c, c < 11 → ∀ k, k < zN c → (match zTy c k with
    | .object _ => decide (zFk c k = 2)
    | .array _ => decide (zFk c k = 2)
    | .long => decide (zFk c k = 1)
    | .int => decide (zFk c k = 0)
    | .boolean => decide (zFk c k = 0)
    | _ => false) = true) c hc k hk
  split at h <;> simp_all
theorem zhp_low {w : Wd} {H H0 : Heap} {locs : List Loc} (hP : zHp dC dI dA B sa w H) (hS : va_S (zA B) H0 H locs) (hB : B ≤ H0.size) : B + wn w ≤ H.size := by
  by_cases h : wn w = 0
  · have := hS.1; omega
  · have h1 := (hP.1 (wn w - 1) _ (zws_get (by omega))).lt
    dsimp only at h1
    omega
theorem zhp_new {w : Wd} {H H1 H0 : Heap} {locs : List Loc} {z : va_E} (hP : zHp dC dI dA B sa w H) (hS : va_S (zA B) H0 H locs) (hB : B ≤ H0.size) (hz : zcell dA B sa (alc w) (wn w) = z) (hsz : H.size = B + wn w) (hK : wn w < zK) (hat : va_at (dC, dI) zcl (B + wn w, z) H1) (z1 : H1.size = H.size + 1) (o1 : ∀ q, q < H.size → H1[q]? = H[q]?) :
    zHp dC dI dA B sa (alc w) H1 ∧ va_S (zA B) H0 H1 locs := by
  have hk : ∀ (k : Nat) (x : Nat × va_E), (zws dA B sa w)[k]? = some x → H1[x.1]? = H[x.1]? := fun k x hx => o1 x.1 ((hP.1 k x hx).lt)
  refine ⟨⟨?_, hK⟩, Nat.le_trans hS.1 (by omega), fun x h1 h2 => (o1 x (Nat.lt_of_lt_of_le h1 hS.1)).trans (hS.2.1 x h1 h2), hS.2.2⟩
  rw [zws_alc hz]
  refine (hP.1.kept hk).app (fun k x hx => ?_)
  have hz : k < 1 := (List.getElem?_eq_some_iff.mp hx).1
  rw [show k = 0 by omega] at hx
  cases hx
  exact hat
end ZT3
end
section
/-! .. the step itself, of rows and new objects -/
section ZT4
variable {dC : Nat → ClassId} {dI : Nat → Nat → Nat} {dA : Nat → ClassId} {B L : Nat} {xs : Nat → Int32} {sa : Nat → Nat}
variable {p : Program} {l : Launch} {e : Env} {R : Room} {s : State} {m : MethodId} {args : Array Value} {below : List Frame} {meth : Method} {c : Code} {Q : State → Prop}
theorem zix_L {w : Wd} (h : zScr L xs w) : ix (wI w 1003 0) = L := by
  unfold ix
  rw [h.2.1]
  exact Int32.toNatClampNeg_ofNat_of_lt h.2.2
theorem ib_nn {i : Int32} {n : Nat} (h : ib i n = true) : ix i < n := by
  simp only [ib, Bool.and_eq_true, decide_eq_true_eq] at h
  exact h.2
set_option maxHeartbeats 2000000 in
theorem zstep3 {M : Mth} (hM : zchk M = true) (C : zCtx dC dI dA B L xs sa M p s m args meth c R) {cf sf : Nat → Nat} {a b : Cfg} {op : Op4} {npc : Nat} (ho : opAt (mCode M) a.1 = some (op, npc)) (hz : zst' M op npc a.2.1 a.2.2.1 a.2.2.2 = some b) (hg : zgr op.1 = 3)
    {n0 : Nat} (hn0 : n0 ≤ wn a.2.2.2) (hcf : ∀ n, n0 ≤ n → cf (n + 1) = cf n + 1 ∧ sf (n + 1) = sf n + (zsh n).2) (hex : ∀ n, n0 ≤ n → n < zK → s.heap.size + cf n ≤ B + n) (hcap : cf (wn b.2.2.2) ≤ R.cells ∧ sf (wn b.2.2.2) ≤ R.slots)
    (k : zWk dC dI dA B L xs sa M p l e R s m args below meth c cf sf Q b) : zWk dC dI dA B L xs sa M p l e R s m args below meth c cf sf Q a := by
  obtain ⟨i, len, hd, hln, hn, hI⟩ := zdec_op hM ho
  obtain ⟨hx, hb, hml, hown, hts, hini, hK, hS, hN, hB, hfr, hlo, hc15⟩ := C
  obtain ⟨pc, lv, st, w⟩ := a
  intro H locs ls hA
  obtain ⟨hP, hSS, hScr, hl⟩ := hA
  dsimp only at hP hSS hScr hl ho hz hI hd hn hn0 ⊢
  subst hn
  have hlow := zhp_low hP hSS hB
  cases i
  case iaload =>
    have hln := Nat.eq_of_beq_eq_true hln; subst hln
    simp only [trI, Option.some.injEq] at hI; subst hI
    simp only [zst', zgr, zs3] at hz
    split at hz
    · rename_i i o r
      split at hz
      · rename_i h1000
        split at hz
        · rename_i hi
          cases hz
          subst h1000
          rw [zix_L hScr] at hi
          exact va_ti hx hb hS.2.2.2.2.2.2.1 hSS (ib_vp hi) (v := .int (wI w 1000 (ix i))) (by show Value.int (xs _) = _; rw [hScr.1]) hd (k H locs ls ⟨hP, hSS, hScr, hl⟩)
        · cases hz
      · split at hz
        · rename_i hc
          cases hz
          obtain ⟨ho1, ho2⟩ := zobj_iff hc.1
          show W p l e R s m args below meth c H locs _ _ Q (F0 m pc ls (.int i :: .ref (zad B sa o) :: r.map (ztr B sa)))
          rw [zad_own (Nat.lt_of_lt_of_le ho1 hP.2)]
          exact va_iald hx hb hK hP.1 o 0 (by rw [zws_get ho1, zcell_int ho2 (Or.inl rfl)]) rfl (ib_vp hc.2) hd (k H locs ls ⟨hP, hSS, hScr, hl⟩)
        · cases hz
    · cases hz
  case laload =>
    have hln := Nat.eq_of_beq_eq_true hln; subst hln
    simp only [trI, Option.some.injEq] at hI; subst hI
    simp only [zst', zgr, zs3] at hz
    split at hz
    · rename_i i o r
      split at hz
      · rename_i hc
        cases hz
        obtain ⟨ho1, ho2⟩ := zobj_iff hc.1
        show W p l e R s m args below meth c H locs _ _ Q (F0 m pc ls (.int i :: .ref (zad B sa o) :: r.map (ztr B sa)))
        rw [zad_own (Nat.lt_of_lt_of_le ho1 hP.2)]
        exact va_lald hx hb hK hP.1 o 1 (by rw [zws_get ho1, zcell_long ho2]) rfl (ib_vp hc.2) hd (k H locs ls ⟨hP, hSS, hScr, hl⟩)
      · cases hz
    · cases hz
  case baload =>
    have hln := Nat.eq_of_beq_eq_true hln; subst hln
    simp only [trI, Option.some.injEq] at hI; subst hI
    simp only [zst', zgr, zs3] at hz
    split at hz
    · rename_i i o r
      split at hz
      · rename_i hc
        cases hz
        show W p l e R s m args below meth c H locs _ _ Q (F0 m pc ls (.int i :: .ref (zad B sa o) :: r.map (ztr B sa)))
        rcases hc.1 with h | h
        · obtain ⟨ho1, ho2⟩ := zobj_iff h
          rw [zad_own (Nat.lt_of_lt_of_le ho1 hP.2)]
          exact va_bald hx hb hK hP.1 o 2 (by rw [zws_get ho1, zcell_int ho2 (Or.inr (Or.inl rfl))]) rfl (ib_vp hc.2) hd (k H locs ls ⟨hP, hSS, hScr, hl⟩)
        · obtain ⟨ho1, ho2⟩ := zobj_iff h
          rw [zad_own (Nat.lt_of_lt_of_le ho1 hP.2)]
          exact va_zald hx hb hK hP.1 o 3 (by rw [zws_get ho1, zcell_int ho2 (Or.inr (Or.inr rfl))]) rfl (ib_vp hc.2) hd (k H locs ls ⟨hP, hSS, hScr, hl⟩)
      · cases hz
    · cases hz
  case aaload =>
    have hln := Nat.eq_of_beq_eq_true hln; subst hln
    simp only [trI, Option.some.injEq] at hI; subst hI
    simp only [zst', zgr, zs3] at hz
    split at hz
    · rename_i i o r
      split at hz
      · rename_i h1001
        split at hz
        · rename_i hi
          cases hz
          subst h1001
          exact vb_tq hx hb hS.2.1 hSS (ib_vp hi) (v := ztr B sa (.ref (1010 + ix i))) (by show Value.ref (sa _) = .ref (zad B sa _); rw [zad_word (by omega), show 10 + (1010 + ix i - 1010) = 10 + ix i by omega]) hd (k H locs ls ⟨hP, hSS, hScr, hl⟩)
        · cases hz
      · split at hz
        · rename_i hc
          cases hz
          have k' := k H locs ls ⟨hP, hSS, hScr, hl⟩
          simp only [List.map_cons, ztr_rf] at k'
          show W p l e R s m args below meth c H locs _ _ Q (F0 m pc ls (.int i :: .ref (zad B sa o) :: r.map (ztr B sa)))
          rcases hc.1 with h | h | h
          · obtain ⟨ho1, ho2⟩ := zobj_iff h
            rw [zad_own (Nat.lt_of_lt_of_le ho1 hP.2)]
            exact va_aldq hx hb hK hP.1 o 4 (by rw [zws_get ho1, zcell_ref ho2 (by decide)]) rfl (ib_vp hc.2) hd k'
          · obtain ⟨ho1, ho2⟩ := zobj_iff h
            rw [zad_own (Nat.lt_of_lt_of_le ho1 hP.2)]
            exact va_aldq hx hb hK hP.1 o 5 (by rw [zws_get ho1, zcell_ref ho2 (by decide)]) rfl (ib_vp hc.2) hd k'
          · obtain ⟨ho1, ho2⟩ := zobj_iff h
            rw [zad_own (Nat.lt_of_lt_of_le ho1 hP.2)]
            exact va_aldq hx hb hK hP.1 o 6 (by rw [zws_get ho1, zcell_ref ho2 (by decide)]) rfl (ib_vp hc.2) hd k'
        · cases hz
    · cases hz
  case iastore =>
    have hln := Nat.eq_of_beq_eq_true hln; subst hln
    simp only [trI, Option.some.injEq] at hI; subst hI
    simp only [zst', zgr, zs3] at hz
    split at hz
    · rename_i x i o r
      split at hz
      · rename_i hc
        cases hz
        obtain ⟨ho1, ho2⟩ := zobj_iff hc.1
        show W p l e R s m args below meth c H locs _ _ Q (F0 m pc ls (.int x :: .int i :: .ref (zad B sa o) :: r.map (ztr B sa)))
        rw [zad_own (Nat.lt_of_lt_of_le ho1 hP.2)]
        exact va_iast hx hb hK hP.1 (zD w) hSS o 0 (by rw [zws_get ho1, zcell_int ho2 (Or.inl rfl)]) rfl (ib_vp hc.2) hd (fun H1 locs1 q1 _ q2 => k H1 locs1 ls ⟨⟨by rw [zset_i ho1 ho2 (Or.inl rfl)] at q1; exact q1, hP.2⟩, q2, zscr_sI hScr _ (Nat.lt_of_lt_of_le ho1 hP.2), hl⟩)
      · cases hz
    · cases hz
  case lastore =>
    have hln := Nat.eq_of_beq_eq_true hln; subst hln
    simp only [trI, Option.some.injEq] at hI; subst hI
    simp only [zst', zgr, zs3] at hz
    split at hz
    · rename_i x i o r
      split at hz
      · rename_i hc
        cases hz
        obtain ⟨ho1, ho2⟩ := zobj_iff hc.1
        show W p l e R s m args below meth c H locs _ _ Q (F0 m pc ls (.long x :: .int i :: .ref (zad B sa o) :: r.map (ztr B sa)))
        rw [zad_own (Nat.lt_of_lt_of_le ho1 hP.2)]
        exact va_last hx hb hK hP.1 (zD w) hSS o 1 (by rw [zws_get ho1, zcell_long ho2]) rfl (ib_vp hc.2) hd (fun H1 locs1 q1 _ q2 => k H1 locs1 ls ⟨⟨by rw [zset_l ho1 ho2] at q1; exact q1, hP.2⟩, q2, hScr, hl⟩)
      · cases hz
    · cases hz
  case bastore =>
    have hln := Nat.eq_of_beq_eq_true hln; subst hln
    simp only [trI, Option.some.injEq] at hI; subst hI
    simp only [zst', zgr, zs3] at hz
    split at hz
    · rename_i x i o r
      split at hz
      · rename_i hc
        cases hz
        obtain ⟨ho1, ho2⟩ := zobj_iff hc.1
        show W p l e R s m args below meth c H locs _ _ Q (F0 m pc ls (.int x :: .int i :: .ref (zad B sa o) :: r.map (ztr B sa)))
        rw [zad_own (Nat.lt_of_lt_of_le ho1 hP.2)]
        exact va_bast hx hb hK hP.1 (zD w) hSS o 2 (by rw [zws_get ho1, zcell_int ho2 (Or.inr (Or.inl rfl))]) rfl (ib_vp hc.2) hd (fun H1 locs1 q1 _ q2 => k H1 locs1 ls ⟨⟨by rw [zset_i ho1 ho2 (Or.inr (Or.inl rfl))] at q1; exact q1, hP.2⟩, q2, zscr_sI hScr _ (Nat.lt_of_lt_of_le ho1 hP.2), hl⟩)
      · split at hz
        · rename_i hc
          cases hz
          obtain ⟨ho1, ho2⟩ := zobj_iff hc.1
          show W p l e R s m args below meth c H locs _ _ Q (F0 m pc ls (.int x :: .int i :: .ref (zad B sa o) :: r.map (ztr B sa)))
          rw [zad_own (Nat.lt_of_lt_of_le ho1 hP.2)]
          exact va_zast hx hb hK hP.1 (zD w) hSS o 3 (by rw [zws_get ho1, zcell_int ho2 (Or.inr (Or.inr rfl))]) rfl (ib_vp hc.2) hd (fun H1 locs1 q1 _ q2 => k H1 locs1 ls ⟨⟨by rw [zset_i ho1 ho2 (Or.inr (Or.inr rfl))] at q1; exact q1, hP.2⟩, q2, zscr_sI hScr _ (Nat.lt_of_lt_of_le ho1 hP.2), hl⟩)
        · cases hz
    · cases hz
  case aastore =>
    have hln := Nat.eq_of_beq_eq_true hln; subst hln
    simp only [trI, Option.some.injEq] at hI; subst hI
    simp only [zst', zgr, zs3] at hz
    split at hz
    · rename_i x i o r
      split at hz
      · rename_i hc
        cases hz
        show W p l e R s m args below meth c H locs _ _ Q (F0 m pc ls (.ref (zad B sa x) :: .int i :: .ref (zad B sa o) :: r.map (ztr B sa)))
        rcases hc.1 with h | h | h
        · obtain ⟨ho1, ho2⟩ := zobj_iff h.1
          obtain ⟨hq1, hq2⟩ := zobj_iff h.2
          have hxq := zad_own (B := B) (sa := sa) (Nat.lt_of_lt_of_le hq1 hP.2)
          rw [zad_own (Nat.lt_of_lt_of_le ho1 hP.2), hxq]
          exact va_astq hx hb hK hP.1 (zD w) hSS o 4 x 1 (r := (zC 1, zT 1, zN 1)) (by rw [zws_get ho1, zcell_ref ho2 (by decide)]) rfl (by rw [zws_get hq1, zcell_obj (Nat.lt_of_lt_of_le hq1 hP.2) hq2 (by decide)]) (zcl_get (by decide)) (ib_vp hc.2) hd (fun H1 locs1 q1 _ q2 => k H1 locs1 ls ⟨⟨by rw [← hxq] at q1; rw [zset_q ho1 ho2 (by decide)] at q1; exact q1, hP.2⟩, q2, hScr, hl⟩)
        · obtain ⟨ho1, ho2⟩ := zobj_iff h.1
          obtain ⟨hq1, hq2⟩ := zobj_iff h.2
          have hxq := zad_own (B := B) (sa := sa) (Nat.lt_of_lt_of_le hq1 hP.2)
          rw [zad_own (Nat.lt_of_lt_of_le ho1 hP.2), hxq]
          exact va_astq hx hb hK hP.1 (zD w) hSS o 5 x 5 (r := (zC 5, zT 5, zN 5)) (by rw [zws_get ho1, zcell_ref ho2 (by decide)]) rfl (by rw [zws_get hq1, zcell_obj (Nat.lt_of_lt_of_le hq1 hP.2) hq2 (by decide)]) (zcl_get (by decide)) (ib_vp hc.2) hd (fun H1 locs1 q1 _ q2 => k H1 locs1 ls ⟨⟨by rw [← hxq] at q1; rw [zset_q ho1 ho2 (by decide)] at q1; exact q1, hP.2⟩, q2, hScr, hl⟩)
        · obtain ⟨ho1, ho2⟩ := zobj_iff h.1
          obtain ⟨hq1, hq2⟩ := zobj_iff h.2
          have hxq := zad_own (B := B) (sa := sa) (Nat.lt_of_lt_of_le hq1 hP.2)
          rw [zad_own (Nat.lt_of_lt_of_le ho1 hP.2), hxq]
          exact va_astq hx hb hK hP.1 (zD w) hSS o 6 x 6 (r := (zC 6, zT 6, zN 6)) (by rw [zws_get ho1, zcell_ref ho2 (by decide)]) rfl (by rw [zws_get hq1, zcell_obj (Nat.lt_of_lt_of_le hq1 hP.2) hq2 (by decide)]) (zcl_get (by decide)) (ib_vp hc.2) hd (fun H1 locs1 q1 _ q2 => k H1 locs1 ls ⟨⟨by rw [← hxq] at q1; rw [zset_q ho1 ho2 (by decide)] at q1; exact q1, hP.2⟩, q2, hScr, hl⟩)
      · cases hz
    · cases hz
  case arraylength =>
    have hln := Nat.eq_of_beq_eq_true hln; subst hln
    simp only [trI, Option.some.injEq] at hI; subst hI
    simp only [zst', zgr, zs3] at hz
    split at hz
    · rename_i o r
      split at hz
      · rename_i h1000
        cases hz
        subst h1000
        exact va_tlen hx hb hS.2.2.2.2.2.2.1 hSS (v := wI w 1003 0) (by rw [hScr.2.1]) hd (k H locs ls ⟨hP, hSS, hScr, hl⟩)
      · split at hz
        · rename_i h1001
          cases hz
          subst h1001
          exact va_tlen hx hb hS.2.1 hSS (v := 20) (by decide) hd (k H locs ls ⟨hP, hSS, hScr, hl⟩)
        · cases hz
    · cases hz
  case new j =>
    have hln := Nat.eq_of_beq_eq_true hln; subst hln
    simp only [trI] at hI
    cases hr : lkC (mCls M) j with
    | none => rw [hr] at hI; cases hI
    | some r =>
      rw [hr] at hI
      cases hI
      obtain ⟨h1, h2, h3⟩ := lkC_ok hr
      obtain ⟨h4, h5⟩ := zcls_ok r h1
      rw [h2, h3] at h4 h5
      obtain ⟨rc, rj, ci, rp⟩ := r
      dsimp only at h4 h5 h2 h3
      simp only [zst', zgr, zs3] at hz
      split at hz
      · rename_i hc
        obtain ⟨c1, c2, c3⟩ := hc
        cases hz
        obtain ⟨f1, f2⟩ := hcf (wn w) hn0
        have hh := hex (wn w) hn0 c1
        have hcap1 : cf (wn w) + 1 ≤ R.cells := by have := hcap.1; rw [← f1]; exact this
        have hcap2 : sf (wn w) + (zsh (wn w)).2 ≤ R.slots := by have := hcap.2; rw [← f2]; exact this
        have hN1 : (zsh (wn w)).2 = zN ci := by rw [zsh_obj _ c1 (by rw [c2]; exact c3), c2]
        rw [hN1] at hcap2
        have hw1 : (Jvm.Cond.classLink (zC (mCls M)) j (zC ci)).before args s = true := zwd_b hts h4 h5
        have hw2 : (Jvm.Cond.instantiable (zC ci) (zN ci)).before args s = true := zwd_b hts (zinst ci c3).1 (zinst ci c3).2
        have hw3 : (Jvm.Cond.initialized (zC ci)).before args s = true := zwd_b hts (zinit ci (by omega)).1 (zinit ci (by omega)).2
        have hKn := hK.1 ci _ (zcl_get c3)
        have hz1 : ztr B sa (.ref (wn w)) = .ref (B + wn w) := by show Value.ref (zad B sa _) = _; rw [zad_own c1]
        have e2 : cf (wn (alc w)) = cf (wn w) + 1 := f1
        have e3 : sf (wn (alc w)) = sf (wn w) + zN ci := by rw [← hN1]; exact f2
        have key : H.size = B + wn w → W p l e R s m args below meth c H locs (cf (wn w)) (sf (wn w)) Q (F0 m pc ls (st.map (ztr B sa))) := by
          intro hsz
          refine W.newcK (C := zC ci) (n := zN ci) (index := j) (h := B + wn w) (cC := dC ci) hx hb hown hw1 hw2 hw3 rfl hd hcap1 hcap2 hKn.2.1 hsz (fun H1 kC hkC e1 z1 o1 => ?_)
          obtain ⟨g1, g2⟩ := zhp_new (dC := dC) (dI := dI) hP hSS hB (z := zcell dA B sa (alc w) (wn w)) rfl hsz c1 (by
            rw [zcell_obj c1 c2 c3]
            refine ⟨_, zcl_get c3, (u_born (zTy ci) hts (zlay _ c3) hKn hkC e1 (zty_ok _ c3)).to (fun q hq => ?_)⟩
            have hq' : q < zN ci := hq
            have hv := zdef_val _ c3 q hq'
            show defaultValue (zTy ci q) = ((List.range (zN ci)).map _).getD q .null
            rw [List.getD_eq_getElem?_getD, List.getElem?_map, List.getElem?_range hq']
            simp only [Option.map_some, Option.getD_some]
            split at hv
            · rename_i hty; rw [hty, hv]; simp [zfv, zalc_R, defaultValue, va_rf, ztr]
            · rename_i hty; rw [hty, hv]; simp [zfv, zalc_R, defaultValue, va_rf, ztr]
            · rename_i hty; rw [hty, hv]; simp [zfv, zalc_L, defaultValue, ztr]
            · rename_i hty; rw [hty, hv]; simp [zfv, zalc_I, defaultValue, ztr]
            · rename_i hty; rw [hty, hv]; simp [zfv, zalc_I, defaultValue, ztr]
            · cases hv) (by omega) (fun q hq => o1 q (by omega))
          have k' := k H1 locs ls ⟨g1, g2, zscr_alc hScr (Nat.lt_trans c1 (by decide)), hl⟩
          dsimp only at k'
          rw [List.map_cons, hz1, e2, e3] at k'
          exact k'
        intro T hT X
        refine key ?_ T hT X
        have q := X.heapSize
        rw [hT] at q
        omega
      · cases hz
  case newarray at0 =>
    have key : ∀ (ty : FieldType) (a : Nat) (kd : Nat) (z : Nat → Nat → Value), newarray.typeOf at0 = ty → (Jvm.Cond.arrayClass ty).before args s = true → (ztys dA)[kd]? = some (dA a, ty) → (∀ cA : ClassId, va_RA s cA ty → va_RA s (dA a) ty → cA = dA a) → (∀ cA : ClassId, s.vm.findClass ("[" ++ ty.toString) = some cA → va_RA s cA ty) → componentBytes ty ≤ 16 → 101 ≤ a ∧ a ≤ 104 →
        (∀ (n : Nat), (zsh (wn w)).1 = a → (zsh (wn w)).2 = n → ∃ x : vp_A, zcell dA B sa (alc w) (wn w) = .inl (dA a, x) ∧ vp_cell (dA a) x = arrV (dA a) n (fun _ => defaultValue ty)) →
        op = (37, a, 0, 0) → W p l e R s m args below meth c H locs (cf (wn w)) (sf (wn w)) Q (F0 m pc ls (st.map (ztr B sa))) := by
      intro ty a kd zz hty harr hkd hsm hnm hcb ha hcell hop
      subst hop
      have hln := Nat.eq_of_beq_eq_true hln; subst hln
      simp only [zst', zgr, zs3] at hz
      split at hz
      · rename_i n r
        split at hz
        · rename_i hc
          obtain ⟨c1, c2, -, -, c5, c6⟩ := hc
          cases hz
          obtain ⟨f1, f2⟩ := hcf (wn w) hn0
          have hh := hex (wn w) hn0 c1
          have hcap1 : cf (wn w) + 1 ≤ R.cells := by have := hcap.1; rw [← f1]; exact this
          have hcap2 : sf (wn w) + (zsh (wn w)).2 ≤ R.slots := by have := hcap.2; rw [← f2]; exact this
          have hz1 : ztr B sa (.ref (wn w)) = .ref (B + wn w) := by show Value.ref (zad B sa _) = _; rw [zad_own c1]
          have e2 : cf (wn (alc w)) = cf (wn w) + 1 := f1
          have e3 : sf (wn (alc w)) = sf (wn w) + (zsh (wn w)).2 := f2
          have h105 := (zsh_kind (wn w) c1).2
          have hmul : (zsh (wn w)).2 * componentBytes ty ≤ 100000 * 16 := Nat.mul_le_mul (Nat.le_of_lt h105) hcb
          have key : H.size = B + wn w → W p l e R s m args below meth c H locs (cf (wn w)) (sf (wn w)) Q (F0 m pc ls (.int n :: r.map (ztr B sa))) := by
            intro hsz
            subst hty
            refine va_newaK (N := (zsh (wn w)).2) (h := B + wn w) hx hb harr rfl hd rfl (Int32.not_lt.mpr c5) c6 (by omega) hcap1 hcap2 hsz (fun H1 cA e1 z1 o1 hAr hNm => ?_)
            have hcA : cA = dA a := hsm cA (hnm cA hNm) (hK.2 kd _ hkd).2
            subst hcA
            obtain ⟨x, x1, x2⟩ := hcell _ c2 rfl
            obtain ⟨g1, g2⟩ := zhp_new (dC := dC) (dI := dI) hP hSS hB x1 hsz c1 (by
              show H1[B + wn w]? = some (vp_cell _ _)
              rw [x2]; exact e1) (by omega) (fun q hq => o1 q (by omega))
            have k' := k H1 locs ls ⟨g1, g2, zscr_alc hScr (Nat.lt_trans c1 (by decide)), hl⟩
            dsimp only at k'
            rw [List.map_cons, hz1, e2, e3] at k'
            exact k'
          intro T hT X
          refine key ?_ T hT X
          have q := X.heapSize
          rw [hT] at q
          omega
        · cases hz
      · cases hz
    have hcI : ∀ (n a : Nat), a = 101 ∨ a = 103 ∨ a = 104 → (zsh (wn w)).1 = a → (zsh (wn w)).2 = n → ∃ x : vp_A, zcell dA B sa (alc w) (wn w) = .inl (dA a, x) ∧ vp_cell (dA a) x = arrV (dA a) n (fun _ => .int 0) := by
      intro n a ha h1 h2
      refine ⟨_, zcell_int h1 ha, ?_⟩
      rw [vp_cell_i, h2]
      refine congrArg (arrV (dA a) n) (funext fun j => ?_)
      rw [zalc_I]
    have hcL : ∀ (n : Nat), (zsh (wn w)).1 = 102 → (zsh (wn w)).2 = n → ∃ x : vp_A, zcell dA B sa (alc w) (wn w) = .inl (dA 102, x) ∧ vp_cell (dA 102) x = arrV (dA 102) n (fun _ => .long 0) := by
      intro n h1 h2
      refine ⟨_, zcell_long h1, ?_⟩
      rw [vp_cell_l, h2]
      refine congrArg (arrV (dA 102) n) (funext fun j => ?_)
      rw [zalc_L]
    cases at0 <;> simp only [trI] at hI <;> first | (cases hI; done) | skip
    · cases hI
      exact key .boolean 104 3 (fun _ _ => .null) rfl (hts _ (zin_of _ zarr.2.2.2 rfl)) rfl (fun cA q1 q2 => Option.some.inj (q1.symm.trans q2)) (fun cA q => q) (by decide) (by decide) (fun n => hcI n 104 (by decide)) rfl
    · cases hI
      exact key .byte 103 2 (fun _ _ => .null) rfl (hts _ (zin_of _ zarr.2.2.1 rfl)) rfl (fun cA q1 q2 => Option.some.inj (q1.symm.trans q2)) (fun cA q => q) (by decide) (by decide) (fun n => hcI n 103 (by decide)) rfl
    · cases hI
      exact key .int 101 0 (fun _ _ => .null) rfl (hts _ (zin_of _ zarr.1 rfl)) rfl (fun cA q1 q2 => Option.some.inj (q1.symm.trans q2)) (fun cA q => q) (by decide) (by decide) (fun n => hcI n 101 (by decide)) rfl
    · cases hI
      exact key .long 102 1 (fun _ _ => .null) rfl (hts _ (zin_of _ zarr.2.1 rfl)) rfl (fun cA q1 q2 => Option.some.inj (q1.symm.trans q2)) (fun cA q => q) (by decide) (by decide) hcL rfl
  case anewarray j =>
    have hln := Nat.eq_of_beq_eq_true hln; subst hln
    simp only [trI] at hI
    cases hr : lkC (mCls M) j with
    | none => rw [hr] at hI; cases hI
    | some r =>
      rw [hr] at hI
      cases hI
      obtain ⟨h1, h2, h3⟩ := lkC_ok hr
      obtain ⟨h4, h5⟩ := zcls_ok r h1
      rw [h2, h3] at h4 h5
      obtain ⟨rc, rj, ci, rp⟩ := r
      dsimp only at h4 h5 h2 h3
      have hw1 : (Jvm.Cond.classLink (zC (mCls M)) j (zC ci)).before args s = true := zwd_b hts h4 h5
      simp only [zst', zgr, zs3] at hz
      split at hz
      · rename_i n r
        split at hz
        · rename_i hc
          obtain ⟨c1, c2, c3, c5, c6⟩ := hc
          cases hz
          obtain ⟨f1, f2⟩ := hcf (wn w) hn0
          have hh := hex (wn w) hn0 c1
          have hcap1 : cf (wn w) + 1 ≤ R.cells := by have := hcap.1; rw [← f1]; exact this
          have hcap2 : sf (wn w) + (zsh (wn w)).2 ≤ R.slots := by have := hcap.2; rw [← f2]; exact this
          have hz1 : ztr B sa (.ref (wn w)) = .ref (B + wn w) := by show Value.ref (zad B sa _) = _; rw [zad_own c1]
          have e2 : cf (wn (alc w)) = cf (wn w) + 1 := f1
          have e3 : sf (wn (alc w)) = sf (wn w) + (zsh (wn w)).2 := f2
          have h105 := (zsh_kind (wn w) c1).2
          have hover : va_AO (zC ci) s ∧ ∃ kd : Nat, (ztys dA)[kd]? = some (dA (110 + ci), .object (zC ci)) := by
            rcases c3 with q | q | q <;> subst q
            · exact ⟨hN.2.2.1, 4, rfl⟩
            · exact ⟨hN.2.2.2.1, 5, rfl⟩
            · exact ⟨hN.2.2.2.2, 6, rfl⟩
          obtain ⟨hov, kd, hkd⟩ := hover
          have key : H.size = B + wn w → W p l e R s m args below meth c H locs (cf (wn w)) (sf (wn w)) Q (F0 m pc ls (.int n :: r.map (ztr B sa))) := by
            intro hsz
            refine W.anew (C := zC ci) hx hb hown hw1 (va_AO.use hov) rfl hd rfl (Int32.not_lt.mpr c5) (by rw [show n.toNatClampNeg = (zsh (wn w)).2 from c6]; omega) hcap1 (by rw [show n.toNatClampNeg = (zsh (wn w)).2 from c6]; exact hcap2) (fun cA kA comp q1 q2 q3 q4 => ?_)
            have hcA : cA = dA (110 + ci) := by
              obtain ⟨kA', comp', -, -, -, g4⟩ := (hK.2 kd _ hkd).2
              exact Option.some.inj (q1.symm.trans g4)
            subst hcA
            generalize hH1 : H.push ({ cls := dA (110 + ci), slots := Array.replicate n.toNatClampNeg .null, vm := .none } : Cell) = H1
            have z1 : H1.size = H.size + 1 := by rw [← hH1, Array.size_push]
            have e1 : H1[H.size]? = some (arrV (dA (110 + ci)) n.toNatClampNeg (fun _ => .null)) := by rw [← hH1, Array.getElem?_push_size, ← arrV_new]
            have o1 : ∀ q : Nat, q < H.size → H1[q]? = H[q]? := fun q hq => by rw [← hH1, Array.getElem?_push, if_neg (Nat.ne_of_lt hq)]
            obtain ⟨g1, g2⟩ := zhp_new (dC := dC) (dI := dI) hP hSS hB (zcell_ref c2 (by omega)) hsz c1 (by
              rw [← hsz]
              show H1[H.size]? = some (vp_cell _ _)
              rw [e1, ← c6]
              refine congrArg some ?_
              rw [vp_cell_q]
              refine congrArg (arrV (dA (110 + ci)) (ix n)) (funext fun b => ?_)
              rw [zalc_R]; rfl) z1 o1
            have k' := k H1 locs ls ⟨g1, g2, zscr_alc hScr (Nat.lt_trans c1 (by decide)), hl⟩
            dsimp only at k'
            rw [List.map_cons, hz1, e2, e3, ← hsz, ← c6] at k'
            exact k'
          intro T hT X
          refine key ?_ T hT X
          have q := X.heapSize
          rw [hT] at q
          omega
        · cases hz
      · cases hz
  case invokestatic j =>
    have hln := Nat.eq_of_beq_eq_true hln; subst hln
    simp only [trI, mOp] at hI
    cases hr : lkM (mCls M) j with
    | none => rw [hr] at hI; cases hI
    | some r =>
      rw [hr] at hI
      simp only [Option.bind_some] at hI
      split at hI
      · rename_i h1000
        split at hI
        · cases hI
          obtain ⟨h1, h2, h3⟩ := lkM_ok hr
          obtain ⟨h4, h5, h6⟩ := zml_ok _ hc15 r h1
          have hn := zml_1000 _ hc15 r h1 (by omega)
          have h5 := h5 hn
          have h7 : zmw r = .methodLink (zC (mCls M)) j arraycopyName := by
            unfold zmw zyy
            rw [hn, if_neg (by decide), h1000, h2, h3]; rfl
          rw [h7] at h4 h5
          simp only [zst', zgr, zs3] at hz
          split at hz
          · rename_i n dp q sp o r'
            split at hz
            · rename_i hc
              obtain ⟨c0, c1, c2, c3, c4, c5⟩ := hc
              have hloc : ((r'.map (ztr B sa)).map fun v => v.category).sum + (nativeFrameWords "java/lang/System" "arraycopy" 5 + 11) ≤ R.locals := by
                rw [ztr_sum, show nativeFrameWords "java/lang/System" "arraycopy" 5 = 7 by decide]
                omega
              show W p l e R s m args below meth c H locs _ _ Q (F0 m pc ls (.int n :: .int dp :: .ref (zad B sa q) :: .int sp :: .ref (zad B sa o) :: r'.map (ztr B sa)))
              split at hz
              · rename_i hc
                cases hz
                obtain ⟨ho1, ho2⟩ := zobj_iff hc.1
                obtain ⟨hq1, hq2⟩ := zobj_iff hc.2
                rw [zad_own (Nat.lt_of_lt_of_le ho1 hP.2), zad_own (Nat.lt_of_lt_of_le hq1 hP.2)]
                exact va_copyi hx hb (hml.trans hl.1.symm) hown (zwd_b hts h4 h5) (zwd_b hts zcpw.1.1 zcpw.1.2) (zwd_b hts zcpw.2.1.1 zcpw.2.1.2) (zwd_b hts zcpw.2.2.1 zcpw.2.2.2) hK hP.1 (zD w) hSS o q 0 0 (ty := .int) (by rw [zws_get ho1, zcell_int ho2 (Or.inl rfl)]) (by rw [zws_get hq1, zcell_int hq2 (Or.inl rfl)]) rfl rfl rfl
                  (Int32.not_lt.mpr c1) (Int32.not_lt.mpr c2) (Int32.not_lt.mpr c3) c4 c5 (fun _ _ => rfl) hfr hloc hd (fun H1 locs1 q1 _ q2 => k H1 locs1 ls ⟨⟨by rw [zset_ri hq1 hq2] at q1; exact q1, hP.2⟩, q2, zscr_rI hScr _ (Nat.lt_of_lt_of_le hq1 hP.2), hl⟩)
              · split at hz
                · rename_i hc
                  cases hz
                  obtain ⟨ho1, ho2⟩ := zobj_iff hc.1
                  obtain ⟨hq1, hq2⟩ := zobj_iff hc.2
                  rw [zad_own (Nat.lt_of_lt_of_le ho1 hP.2), zad_own (Nat.lt_of_lt_of_le hq1 hP.2)]
                  exact va_copyl hx hb (hml.trans hl.1.symm) hown (zwd_b hts h4 h5) (zwd_b hts zcpw.1.1 zcpw.1.2) (zwd_b hts zcpw.2.1.1 zcpw.2.1.2) (zwd_b hts zcpw.2.2.1 zcpw.2.2.2) hK hP.1 (zD w) hSS o q 1 1 (ty := .long) (by rw [zws_get ho1, zcell_long ho2]) (by rw [zws_get hq1, zcell_long hq2]) rfl rfl rfl
                    (Int32.not_lt.mpr c1) (Int32.not_lt.mpr c2) (Int32.not_lt.mpr c3) c4 c5 (fun _ _ => rfl) hfr hloc hd (fun H1 locs1 q1 _ q2 => k H1 locs1 ls ⟨⟨by rw [zset_rl hq1 hq2] at q1; exact q1, hP.2⟩, q2, hScr, hl⟩)
                · cases hz
            · cases hz
          · cases hz
        · cases hI
      · split at hI
        · split at hI
          · rename_i h; exact absurd h (by decide)
          · cases hI
        · split at hI
          · cases hI
            simp [zgr] at hg
          · cases hI
  case getfield j =>
    simp only [trI] at hI
    cases hr : lkF (mCls M) j with
    | none => rw [hr] at hI; cases hI
    | some r =>
      rw [hr] at hI
      simp only [Option.bind_some, gOp] at hI
      repeat' split at hI
      all_goals first | cases hI | skip
      all_goals first | omega | (simp [zgr] at hg; done)
  case putfield j =>
    simp only [trI] at hI
    cases hr : lkF (mCls M) j with
    | none => rw [hr] at hI; cases hI
    | some r =>
      rw [hr] at hI
      simp only [Option.bind_some, pOp] at hI
      repeat' split at hI
      all_goals first | cases hI | skip
      all_goals first | omega | (simp [zgr] at hg; done)
  case invokespecial j =>
    simp only [trI, mOp] at hI
    cases hr : lkM (mCls M) j with
    | none => rw [hr] at hI; cases hI
    | some r =>
      rw [hr] at hI
      simp only [Option.bind_some] at hI
      repeat' split at hI
      all_goals first | cases hI | skip
      all_goals first | omega | (simp [zgr] at hg; done)
  case invokevirtual j =>
    simp only [trI, mOp] at hI
    cases hr : lkM (mCls M) j with
    | none => rw [hr] at hI; cases hI
    | some r =>
      rw [hr] at hI
      simp only [Option.bind_some] at hI
      repeat' split at hI
      all_goals first | cases hI | skip
      all_goals first | omega | (simp [zgr] at hg; done)
  case ldc j =>
    simp only [trI] at hI
    cases hr : lkI (mCls M) j with
    | none => rw [hr] at hI; cases hI
    | some r => rw [hr] at hI; cases hI; simp [zgr] at hg
  case ldc_w j =>
    simp only [trI] at hI
    cases hr : lkI (mCls M) j with
    | none => rw [hr] at hI; cases hI
    | some r => rw [hr] at hI; cases hI; simp [zgr] at hg
  case ldc2_w j =>
    simp only [trI] at hI
    cases hr : lkJ (mCls M) j with
    | none => rw [hr] at hI; cases hI
    | some r => rw [hr] at hI; cases hI; simp [zgr] at hg
  case getstatic j =>
    simp only [trI] at hI
    cases hr : lkS (mCls M) j with
    | none => rw [hr] at hI; cases hI
    | some r => rw [hr] at hI; cases hI; simp [zgr] at hg
  case tableswitch d lo hi offs =>
    simp only [trI] at hI
    cases hr : lkW (mCls M) pc with
    | none => rw [hr] at hI; cases hI
    | some r =>
      rw [hr] at hI
      simp only [Option.bind_some] at hI
      split at hI
      · cases hI; simp [zgr] at hg
      · cases hI
  case ifCond kd off => simp only [trI] at hI; obtain ⟨hI, -⟩ := ztgt hI; subst hI; simp [zgr] at hg
  case if_icmp kd off => simp only [trI] at hI; obtain ⟨hI, -⟩ := ztgt hI; subst hI; simp [zgr] at hg
  case if_acmp kd off => simp only [trI] at hI; obtain ⟨hI, -⟩ := ztgt hI; subst hI; simp [zgr] at hg
  case ifnull off => simp only [trI] at hI; obtain ⟨hI, -⟩ := ztgt hI; subst hI; simp [zgr] at hg
  case ifnonnull off => simp only [trI] at hI; obtain ⟨hI, -⟩ := ztgt hI; subst hI; simp [zgr] at hg
  case goto off => simp only [trI] at hI; obtain ⟨hI, -⟩ := ztgt hI; subst hI; simp [zgr] at hg
  all_goals first | (simp only [trI] at hI; cases hI; done) | (simp only [trI, Option.some.injEq] at hI; subst hI; simp [zgr] at hg)
end ZT4
end
section
/-! calls, ends, whole methods -/
section ZU
variable {dC : Nat → ClassId} {dI : Nat → Nat → Nat} {dA : Nat → ClassId} {B L : Nat} {xs : Nat → Int32} {sa : Nat → Nat}
variable {p : Program} {l : Launch} {e : Env} {R : Room} {s : State} {m : MethodId} {args : Array Value} {below : List Frame} {meth : Method} {c : Code} {Q : State → Prop}
theorem zmono_p {M : Mth} {op : Op4} {npc : Nat} {lv : List (Nat × Value)} {st : List Value} {w : Wd} {b : Cfg} (h : zst' M op npc lv st w = some b) : wn w ≤ wn b.2.2.2 ∧ wx b.2.2.2 = wx w := by
  unfold zst' at h
  split at h
  · unfold zs2 at h
    repeat' split at h
    all_goals first | cases h | skip
    all_goals exact ⟨Nat.le_refl _, rfl⟩
  · unfold zs3 at h
    repeat' split at h
    all_goals first | cases h | skip
    all_goals first | exact ⟨Nat.le_refl _, rfl⟩ | exact ⟨Nat.le_succ _, rfl⟩
  · unfold zs1 at h
    repeat' split at h
    all_goals first | (cases h; done) | (cases h; exact ⟨Nat.le_refl _, rfl⟩) | (rw [Option.map_eq_some_iff] at h; obtain ⟨z, -, h⟩ := h; cases h; exact ⟨Nat.le_refl _, rfl⟩)
theorem zslt_mono {a b : Nat} (h : a ≤ b) : zslt a ≤ zslt b := by
  induction b with
  | zero => rw [Nat.le_zero.mp h]; exact Nat.le_refl _
  | succ b ih =>
    rcases Nat.lt_or_ge a (b + 1) with q | q
    · exact Nat.le_trans (ih (by omega)) (Nat.le_add_right _ _)
    · rw [show a = b + 1 by omega]; exact Nat.le_refl _
theorem zStat.go {H : Heap} {locs : List Loc} {U : State} (h : zStat B L xs sa s s.heap) (hS : va_S (zA B) s.heap H locs) (hvm : s.vm.Alike U.vm) : zStat B L xs sa U H := by
  obtain ⟨h1, h2, h3, h4, h5, h6, h7, h8⟩ := h
  exact ⟨(h1.moved hvm).kept hS.2.1, (h2.moved hvm).kept hS.2.1, fun i hi => ((h3 i hi).moved hvm).kept hS.2.1, (h4.moved hvm).kept hS.2.1, (h5.moved hvm).kept hS.2.1, (h6.moved hvm).kept hS.2.1, (h7.moved hvm).kept hS.2.1, h8⟩
theorem zNest_form : (∀ w ∈ zNest, ∃ a i x h, w = Jvm.Cond.methodLinkNest a i x h) ∧ ∀ w ∈ zNestF, ∃ a i b n d h, w = Jvm.Cond.fieldLinkNest a i b n d h := by
  constructor
  · intro w hw
    unfold zNest at hw
    simp only [List.mem_cons, List.not_mem_nil, or_false] at hw
    rcases hw with h | h | h | h | h | h | h | h <;> exact ⟨_, _, _, _, h⟩
  · intro w hw
    unfold zNestF at hw
    simp only [List.mem_cons, List.not_mem_nil, or_false] at hw
    exact ⟨_, _, _, _, _, _, hw⟩
theorem zNs.warm {U : State} (h : zNs s) (hW : s.WarmedH U.vm) : zNs U := by
  obtain ⟨h1, h2, h3, h4, h5⟩ := h
  refine ⟨fun w hw => ?_, fun w hw => ?_, h3.moved hW.alike, h4.moved hW.alike, h5.moved hW.alike⟩
  · obtain ⟨a, i, x, q, e⟩ := zNest_form.1 w hw
    have := h1 w hw
    rw [e] at this ⊢
    exact this.warmM hW
  · obtain ⟨a, i, b, n, d, q, e⟩ := zNest_form.2 w hw
    have := h2 w hw
    rw [e] at this ⊢
    exact this.warmF hW
theorem zNs.same {u U : State} (h : zNs u) (e : u.vm = U.vm) (ha : u.vm.Alike U.vm) : zNs U := by
  obtain ⟨h1, h2, h3, h4, h5⟩ := h
  refine ⟨fun w hw => ?_, fun w hw => ?_, h3.moved ha, h4.moved ha, h5.moved ha⟩
  · obtain ⟨a, i, x, q, e'⟩ := zNest_form.1 w hw
    have := h1 w hw
    rw [e'] at this ⊢
    exact va_Nw.same rfl e this
  · obtain ⟨a, i, b, n, d, q, e'⟩ := zNest_form.2 w hw
    have := h2 w hw
    rw [e'] at this ⊢
    exact va_Nw.same rfl e this
theorem zG.blind {w : Wd} {U : State} {g : JFrame} {mk : MethodId} {a : Array Value} (h : zG dC dI dA B L xs sa w U) : zG dC dI dA B L xs sa w (U.calling g mk a) := by
  obtain ⟨h1, h2, h3, h4, h5, h6, h7⟩ := h
  refine ⟨h1, va_K.moved (u := U) (U := U.calling g mk a) (Vm.Alike.refl U.vm) h2, ?_, zNs.same (u := U) (U := U.calling g mk a) h4 rfl (Vm.Alike.refl U.vm), h5, h6, h7⟩
  obtain ⟨g1, g2, g3, g4, g5, g6, g7, g8⟩ := h3
  have ha : U.vm.Alike (U.calling g mk a).vm := Vm.Alike.refl U.vm
  exact ⟨g1.moved ha, g2.moved ha, fun i hi => (g3 i hi).moved ha, g4.moved ha, g5.moved ha, g6.moved ha, g7.moved ha, g8⟩
/-- what is known of the methods called -/
def zMet (dC : Nat → ClassId) (dI : Nat → Nat → Nat) (dA : Nat → ClassId) (B L : Nat) (xs : Nat → Int32) (sa : Nat → Nat) (l : Launch) (d : Nat) (E : Evf) : Prop := ∀ (n : Nat) (as : List Value) (w : Wd) (r : Option Value) (w1 : Wd), E n as w r w1 → wn w ≤ wn w1 ∧ wx w1 = wx w ∧
  ∃ M ∈ zMs, mNum M = n ∧ ¬ n = 0 ∧ as.length = mArg M ∧ (zsta.contains n = true ∨ ∃ (o : Nat) (as' : List Value), as = .ref o :: as' ∧ zobj w o (mCls M) = true) ∧
    Met l (zy n) (zcw M :: zWS) { frames := d, cells := wn w1 - wn w, slots := zslt (wn w1) - zslt (wn w), locals := 32 * d } (va_Pc (as.map (ztr B sa)) (fun U => zG dC dI dA B L xs sa w U))
      (fun _ st o t => o = .returned (r.map (ztr B sa)) ∧ zG dC dI dA B L xs sa w1 t ∧ va_F (zA B) st t) (wn w1 - wn w) (zslt (wn w1) - zslt (wn w)) (zA B)
theorem zMs_ne {M : Mth} (h : M ∈ zMs) (hn : ¬ mNum M = 0) : M ∈ zMs.drop 1 := by
  have e : zMs = M0 :: zMs.drop 1 := rfl
  rw [e] at h
  rcases List.mem_cons.mp h with q | q
  · subst q; exact absurd rfl hn
  · exact q
/-- behind a call -/
theorem zafter {w w1 : Wd} {r : Option Value} {cells slots mc ms pc npc : Nat} {H : Heap} {locs : List Loc} {ls : Array Slot} {rest st0 : List Value} {M : Mth} {lv : List (Nat × Value)} {aa : Array Value} (hpc : pc + 3 = npc)
    (hr : va_Run p l e R s m args below meth c H locs cells slots mc ms (F0 m pc ls st0) (rest.map (ztr B sa)) ((fun (_ : Array Value) st o t => o = .returned (r.map (ztr B sa)) ∧ zG dC dI dA B L xs sa w1 t ∧ va_F (zA B) st t) aa) (zA B))
    (hSS : va_S (zA B) s.heap H locs) (hl : lv_has ls (mLoc M) (zlv B sa lv))
    (k : ∀ (H1 : Heap) (locs1 : List Loc) (ls1 : Array Slot), zAt dC dI dA B L xs sa M s w1 lv H1 locs1 ls1 → W p l e R s m args below meth c H1 locs1 (cells + mc) (slots + ms) Q (F0 m npc ls1 ((r.toList ++ rest).map (ztr B sa)))) :
    W p l e R s m args below meth c H locs cells slots Q (F0 m pc ls st0) := by
  intro T hT X
  obtain ⟨v, st₀, t, T', Ls, h0, X', hL, e1, e2, ⟨hv, hG, hF⟩, st⟩ := hr T hT X
  have hv : v = r.map (ztr B sa) := by injection hv
  obtain ⟨z1, z2⟩ := hF
  rw [h0] at z1 z2
  have hS1 : va_S (zA B) s.heap T'.heap (locs ++ Ls) := by
    refine ⟨Nat.le_trans hSS.1 (by rw [e1]; exact z1), fun q g1 g2 => ?_, fun q hq => ?_⟩
    · rw [e1, z2 q (Nat.lt_of_lt_of_le g1 hSS.1) g2]; exact hSS.2.1 q g1 g2
    · rcases List.mem_append.mp hq with h | h
      · exact hSS.2.2 q h
      · exact hL q h
  have hHp : zHp dC dI dA B sa w1 T'.heap := by rw [e1]; exact hG.1
  obtain ⟨t2, a1, b1⟩ := k T'.heap (locs ++ Ls) ls ⟨hHp, hS1, hG.2.2.2.2.1, hl⟩ T' rfl X'
  refine ⟨t2, st t2 ?_, b1⟩
  rw [hv]
  have ef : (F0 m npc ls ((r.toList ++ rest).map (ztr B sa))) = { (F0 m pc ls st0) with pc := (F0 m pc ls st0).pc + 3, stack := (r.map (ztr B sa)).toList ++ rest.map (ztr B sa) } := by
    subst hpc
    cases r <;> rfl
  rw [← ef]
  exact a1

theorem mOp_39 {sk c j n b : Nat} {v : Int32} (h : mOp sk c j = some (39, n, b, v)) : ∃ r0, lkM c j = some r0 ∧ r0.2.2.1 = n ∧ (sk = 1 ∧ zsta.contains n = true ∨ sk = 2 ∧ zini.contains n = true ∨ sk = 0 ∧ zsta.contains n = false ∧ zini.contains n = false) := by
  unfold mOp at h
  cases hr : lkM c j with
  | none => rw [hr] at h; cases h
  | some r0 =>
    rw [hr] at h
    simp only [Option.bind_some] at h
    split at h
    · split at h <;> cases h
    · split at h
      · split at h <;> cases h
      · split at h
        · rename_i hk
          cases h
          exact ⟨r0, rfl, rfl, hk⟩
        · cases h
theorem zini_sta (n : Nat) (h : zini.contains n = true) : zsta.contains n = false := by
  have q := (by decide +kernel : ∀ n ∈ zini, zsta.contains n = false)
  exact q n (by simpa using h)
theorem zMs_small : ∀ M ∈ zMs, mNum M < 300 := by
  have h : zMs.map mNum = List.range 286 := by decide +kernel
  intro M hM
  have q : mNum M ∈ zMs.map mNum := List.mem_map.mpr ⟨M, hM, rfl⟩
  rw [h, List.mem_range] at q
  omega
set_option maxHeartbeats 2000000 in
theorem zcall {M : Mth} {d : Nat} {E : Evf} (hM : zchk M = true) (C : zCtx dC dI dA B L xs sa M p s m args meth c R) (hE : zMet dC dI dA B L xs sa l d E) (hfr2 : d + 1 ≤ R.frames) (hlo2 : 32 * (d + 1) ≤ R.locals) {cf sf : Nat → Nat} {pc npc n0 : Nat} {lv : List (Nat × Value)} {st : List Value} {w : Wd} {op : Op4}
    (ho : opAt (mCode M) pc = some (op, npc)) (h39 : op.1 = 39) {as rest : List Value} {r : Option Value} {w1 : Wd} (hst : st = as.reverse ++ rest) (hEv : E op.2.1 as w r w1) (hsum : (rest.map fun v => v.category).sum ≤ 8)
    (hn0 : n0 ≤ wn w) (hcf : ∀ a b, n0 ≤ a → a ≤ b → cf b = cf a + (b - a) ∧ sf b = sf a + (zslt b - zslt a)) (hex : ∀ n, n0 ≤ n → n < zK → s.heap.size + cf n ≤ B + n) (hcap : cf (wn w1) ≤ R.cells ∧ sf (wn w1) ≤ R.slots)
    (k : zWk dC dI dA B L xs sa M p l e R s m args below meth c cf sf Q (npc, lv, r.toList ++ rest, w1)) : zWk dC dI dA B L xs sa M p l e R s m args below meth c cf sf Q (pc, lv, st, w) := by
  obtain ⟨i, len, hd, hln, hn, hI⟩ := zdec_op hM ho
  obtain ⟨hx, hb, hml, hown, hts, hini, hK, hS, hN, hB, hfr, hlo, hc15⟩ := C
  obtain ⟨hwn, hwx, M', hM', hnum, hnz, hlen, hrecv, hMet⟩ := hE _ _ _ _ _ hEv
  intro H locs ls hA
  obtain ⟨hP, hSS, hScr, hl⟩ := hA
  dsimp only at hP hSS hScr hl ⊢
  subst hst
  have hmok := zmok_all M' (zMs_ne hM' (by rw [hnum]; exact hnz))
  have hcd := zcds_all M' (zMs_ne hM' (by rw [hnum]; exact hnz))
  unfold zmok at hmok
  simp only [Bool.and_eq_true, Bool.or_eq_true, decide_eq_true_eq, hnum, Bool.not_eq_true'] at hmok
  obtain ⟨⟨⟨⟨⟨⟨⟨⟨⟨⟨⟨⟨⟨hkw, hkwg⟩, hsel⟩, hcls⟩, hcl15⟩, hplain⟩, hmh⟩, hvh⟩, hpar⟩, harg1⟩, hloc12⟩, hrk⟩, hinit⟩, hclst⟩ := hmok
  have hkwm : (zkw M').before args s = true := zwd_b hts hkw hkwg
  have hinw : (Jvm.Cond.initialized (zy op.2.1).cls).before args s = true := by rw [hcls]; exact zwd_b hts (zinit _ hcl15).1 (zinit _ hcl15).2
  have hGI : GoodIn zWS (zcw M' :: zWS) := by
    intro x hx
    rcases List.mem_cons.mp hx with q | q
    · subst q
      have hg : goodWord (zcw M') = true := rfl
      exact ⟨List.mem_filter.mpr ⟨hcd, hg⟩, good_of_word hg⟩
    · exact ⟨q, good_of_word (List.mem_filter.mp q).2⟩
  have hwsM : zcw M' :: zWS = Jvm.Cond.code (zy op.2.1) (zby op.2.1) (mLoc M') (zrt op.2.1) :: zWS := by unfold zcw; rw [hnum]
  have hroom : d + 1 ≤ R.frames ∧ 8 + (mLoc M' + 11) + 32 * d ≤ R.locals := ⟨hfr2, by omega⟩
  obtain ⟨f1, f2⟩ := hcf (wn w) (wn w1) hn0 hwn
  have hcap' : cf (wn w) + (wn w1 - wn w) ≤ R.cells ∧ sf (wn w) + (zslt (wn w1) - zslt (wn w)) ≤ R.slots := by rw [← f1, ← f2]; exact hcap
  have k2 : ∀ (H1 : Heap) (locs1 : List Loc) (ls1 : Array Slot), zAt dC dI dA B L xs sa M s w1 lv H1 locs1 ls1 → W p l e R s m args below meth c H1 locs1 (cf (wn w) + (wn w1 - wn w)) (sf (wn w) + (zslt (wn w1) - zslt (wn w))) Q (F0 m npc ls1 ((r.toList ++ rest).map (ztr B sa))) := by
    intro H1 locs1 ls1 h
    rw [← f1, ← f2]
    exact k H1 locs1 ls1 h
  have hlow := zhp_low hP hSS hB
  have hbl : FrameBlind (va_Pc (as.map (ztr B sa)) (fun U => zG dC dI dA B L xs sa w U)) := fun a U g mk q => ⟨q.1, q.2.blind⟩
  have hrest : 2 * (F0 m pc ls ((as.reverse ++ rest).map (ztr B sa))).monitorRoom + ((rest.map (ztr B sa)).map fun v => v.category).sum ≤ 8 := by
    rw [ztr_sum]
    show 2 * 0 + _ ≤ 8
    omega
  have hmapst : (as.reverse ++ rest).map (ztr B sa) = (as.map (ztr B sa)).reverse ++ rest.map (ztr B sa) := by rw [List.map_append, List.map_reverse]
  have key : (wn w < zK → H.size ≤ B + wn w) → W p l e R s m args below meth c H locs (cf (wn w)) (sf (wn w)) Q (F0 m pc ls ((as.reverse ++ rest).map (ztr B sa))) := by
    intro hup
    have hpre : ∀ U : State, U.heap = H → s.WarmedH U.vm → va_Pc (as.map (ztr B sa)) (fun U => zG dC dI dA B L xs sa w U) (as.map (ztr B sa)).toArray U := by
      intro U hU hW
      refine ⟨rfl, by rw [hU]; exact hP, va_K.moved hW.alike hK, by rw [hU]; exact hS.go hSS hW.alike, hN.warm hW, hScr, by rw [hU]; exact hlow, fun h => by rw [hU]; exact hup h⟩
    obtain ⟨t39, opn, ob, ov⟩ := op
    dsimp only at h39 hEv hnum hnz hrecv hMet hkwm hinw hwsM hpar hsel hcls hrk hinit hclst hmh hvh hplain harg1
    subst h39
    have hkind : ∃ (sk j : Nat) (r0 : Nat × Nat × Nat × Nat × Bool), lkM (mCls M) j = some r0 ∧ r0.2.2.1 = opn ∧ (sk = 0 ∧ decode (zby (mNum M)) pc = .ok (.invokevirtual j, 3) ∧ zsta.contains opn = false ∧ zini.contains opn = false ∨ sk = 1 ∧ decode (zby (mNum M)) pc = .ok (.invokestatic j, 3) ∧ zsta.contains opn = true ∨ sk = 2 ∧ decode (zby (mNum M)) pc = .ok (.invokespecial j, 3) ∧ zini.contains opn = true) ∧ pc + 3 = npc := by
      cases i
      case invokevirtual j =>
        have hln := Nat.eq_of_beq_eq_true hln; subst hln
        obtain ⟨r0, g1, g2, g3⟩ := mOp_39 hI
        refine ⟨0, j, r0, g1, g2, Or.inl ⟨rfl, hd, ?_⟩, hn⟩
        rcases g3 with g | g | g
        · exact absurd g.1 (by decide)
        · exact absurd g.1 (by decide)
        · exact g.2
      case invokestatic j =>
        have hln := Nat.eq_of_beq_eq_true hln; subst hln
        obtain ⟨r0, g1, g2, g3⟩ := mOp_39 hI
        refine ⟨1, j, r0, g1, g2, Or.inr (Or.inl ⟨rfl, hd, ?_⟩), hn⟩
        rcases g3 with g | g | g
        · exact g.2
        · exact absurd g.1 (by decide)
        · exact absurd g.1 (by decide)
      case invokespecial j =>
        have hln := Nat.eq_of_beq_eq_true hln; subst hln
        obtain ⟨r0, g1, g2, g3⟩ := mOp_39 hI
        refine ⟨2, j, r0, g1, g2, Or.inr (Or.inr ⟨rfl, hd, ?_⟩), hn⟩
        rcases g3 with g | g | g
        · exact absurd g.1 (by decide)
        · exact g.2
        · exact absurd g.1 (by decide)
      case getfield j =>
        simp only [trI] at hI
        cases hr : lkF (mCls M) j with
        | none => rw [hr] at hI; cases hI
        | some r =>
          rw [hr] at hI
          simp only [Option.bind_some, gOp] at hI
          repeat' split at hI
          all_goals first | cases hI | skip
      case putfield j =>
        simp only [trI] at hI
        cases hr : lkF (mCls M) j with
        | none => rw [hr] at hI; cases hI
        | some r =>
          rw [hr] at hI
          simp only [Option.bind_some, pOp] at hI
          repeat' split at hI
          all_goals first | cases hI | skip
      case tableswitch d lo hi offs =>
        simp only [trI] at hI
        cases hr : lkW (mCls M) pc with
        | none => rw [hr] at hI; cases hI
        | some r =>
          rw [hr] at hI
          simp only [Option.bind_some] at hI
          split at hI <;> cases hI
      case newarray t => cases t <;> simp only [trI] at hI <;> cases hI
      case ifCond kd off => simp only [trI] at hI; obtain ⟨hI, -⟩ := ztgt hI; cases hI
      case if_icmp kd off => simp only [trI] at hI; obtain ⟨hI, -⟩ := ztgt hI; cases hI
      case if_acmp kd off => simp only [trI] at hI; obtain ⟨hI, -⟩ := ztgt hI; cases hI
      case ifnull off => simp only [trI] at hI; obtain ⟨hI, -⟩ := ztgt hI; cases hI
      case ifnonnull off => simp only [trI] at hI; obtain ⟨hI, -⟩ := ztgt hI; cases hI
      case goto off => simp only [trI] at hI; obtain ⟨hI, -⟩ := ztgt hI; cases hI
      all_goals first | (simp only [trI] at hI; cases hI; done) | (simp only [trI] at hI; rw [Option.map_eq_some_iff] at hI; obtain ⟨_, -, hI⟩ := hI; cases hI; done)
    obtain ⟨sk, j, r0, hlk, hr0, hkind, hnpc⟩ := hkind
    obtain ⟨l1, l2, l3⟩ := lkM_ok hlk
    obtain ⟨l4, l5, l6⟩ := zml_ok _ hc15 r0 l1
    have hne : ¬ opn = 1000 ∧ ¬ opn = 1001 := by
      have := zMs_small M' hM'
      omega
    have hzyy : zyy r0.2.2.1 = zy opn := by unfold zyy; rw [hr0, if_neg hne.1, if_neg hne.2]
    have hzm : zmw r0 = if r0.2.2.2.2 = true then .methodLinkNest (zC (mCls M)) j (zy opn) "RugReader" else .methodLink (zC (mCls M)) j (zy opn) := by unfold zmw; rw [hzyy, l2, l3]
    have hlinkN : r0.2.2.2.2 = true → va_Nw (.methodLinkNest (zC (mCls M)) j (zy opn) "RugReader") s := by
      intro h
      have q := hN.1 _ (zml_n _ hc15 r0 l1 h)
      rw [hzm, if_pos h] at q
      exact q
    have hlink1 : r0.2.2.2.2 = false → (Jvm.Cond.methodLink (zC (mCls M)) j (zy opn)).before args s = true := by
      intro h
      have q := zwd_b hts l4 (l5 h)
      rw [hzm, if_neg (by rw [h]; decide)] at q
      exact q
    rcases hkind with ⟨-, hdv, hz1, hz2⟩ | ⟨-, hds, hz1⟩ | ⟨-, hdi, hz2⟩
    · -- a method of an object
      rcases hrecv with h | ⟨o, as', ha, hob⟩
      · rw [hz1] at h; cases h
      · subst ha
        obtain ⟨ho1, ho2⟩ := zobj_iff hob
        have h192 : o < 192 := Nat.lt_of_lt_of_le ho1 hP.2
        have hc11 : mCls M' < 11 := by
          rcases hclst with h | h
          · exact h
          · rw [hz1] at h; cases h
        rw [if_neg (by rw [hz1]; decide)] at hpar
        have hkw' : (Jvm.Cond.instanceMethod (zy opn)).before args s = true := by
          unfold zkw at hkwm
          rw [hnum, if_neg (by rw [hz1]; decide)] at hkwm
          exact hkwm
        have hsl' : (Jvm.Cond.selects (zC (mCls M')) (zy opn) (zy opn)).before args s = true := by
          rcases hsel with (h | h) | h
          · rw [hz1] at h; cases h
          · rw [hz2] at h; cases h
          · have q := zwd_b hts h.1 h.2
            unfold zsl at q
            rw [hnum] at q
            exact q
        have hrv := va_recv (q0 := o) hK hP.1 (zcl_get hc11) (by rw [zws_get ho1, zcell_obj h192 ho2 hc11])
        have hz0 : ztr B sa (.ref o) = .ref (B + o) := by show Value.ref (zad B sa o) = _; rw [zad_own h192]
        have hstk : (F0 m pc ls (((Value.ref o :: as').reverse ++ rest).map (ztr B sa))).stack = (as'.map (ztr B sa)).reverse ++ .ref (B + o) :: rest.map (ztr B sa) := by
          show ((Value.ref o :: as').reverse ++ rest).map (ztr B sa) = _
          rw [hmapst, List.map_cons, hz0, List.reverse_cons, List.append_assoc]; rfl
        have hlen' : (as'.map (ztr B sa)).length = mArg M' - 1 := by rw [List.length_map]; simp only [List.length_cons] at hlen; omega
        have hpre' : ∀ U : State, U.heap = H → s.WarmedH U.vm → va_Pc ((Value.ref o :: as').map (ztr B sa)) (fun U => zG dC dI dA B L xs sa w U) (Value.ref (B + o) :: as'.map (ztr B sa)).toArray U := by
          intro U h1 h2
          have q := hpre U h1 h2
          rw [List.map_cons, hz0] at q ⊢
          exact q
        cases hne2 : r0.2.2.2.2 with
        | false => exact zafter (w := w) (aa := #[]) (M := M) (lv := lv) hnpc (va_runV (b := B + o) (As := as'.map (ztr B sa)) (rest := rest.map (ztr B sa)) ⟨hx, hb, hml, hown, hts⟩ hMet ⟨callB_of (mArg M' - 1) hts hGI hwsM rfl rfl hinw (hlink1 hne2) ⟨hmh, hvh, hpar⟩ hroom, hkw', hsl'⟩ ⟨hbl, hrv, hpre'⟩ rfl hlen' hl.1 hstk hrest hdv hcap') hSS hl k2
        | true => exact zafter (w := w) (aa := #[]) (M := M) (lv := lv) hnpc (va_runVN (b := B + o) (As := as'.map (ztr B sa)) (rest := rest.map (ztr B sa)) ⟨hx, hb, hml, hown, hts⟩ hMet ⟨va_cnB (mArg M' - 1) hts hGI hwsM rfl rfl (hlinkN hne2) hinw ⟨hmh, hvh, hpar⟩ hroom, hkw', hsl'⟩ ⟨hbl, hrv, hpre'⟩ rfl hlen' hl.1 hstk hrest hdv hcap') hSS hl k2
    · -- a static one
      rw [if_pos hz1] at hpar
      have hkw' : (Jvm.Cond.static (zy opn)).before args s = true := by
        unfold zkw at hkwm
        rw [hnum, if_pos hz1] at hkwm
        exact hkwm
      have hlen' : (as.map (ztr B sa)).length = mArg M' := by rw [List.length_map]; exact hlen
      cases hne2 : r0.2.2.2.2 with
      | false => exact zafter (w := w) (aa := #[]) (M := M) (lv := lv) hnpc (va_runS (As := as.map (ztr B sa)) (rest := rest.map (ztr B sa)) ⟨hx, hb, hml, hown, hts⟩ hMet ⟨callB_of (mArg M') hts hGI hwsM rfl rfl hinw (hlink1 hne2) ⟨hmh, hvh, hpar⟩ hroom, hkw'⟩ ⟨hbl, hpre⟩ rfl hlen' hl.1 hmapst hrest hds hcap') hSS hl k2
      | true => exact zafter (w := w) (aa := #[]) (M := M) (lv := lv) hnpc (va_runSN (As := as.map (ztr B sa)) (rest := rest.map (ztr B sa)) ⟨hx, hb, hml, hown, hts⟩ hMet ⟨va_cnB (mArg M') hts hGI hwsM rfl rfl (hlinkN hne2) hinw ⟨hmh, hvh, hpar⟩ hroom, hkw', trivial⟩ ⟨hbl, hpre⟩ rfl hlen' hl.1 hmapst hrest hds hcap') hSS hl k2
    · -- a constructor
      have hz1 := zini_sta opn hz2
      rcases hrecv with h | ⟨o, as', ha, hob⟩
      · rw [hz1] at h; cases h
      · subst ha
        obtain ⟨ho1, ho2⟩ := zobj_iff hob
        have h192 : o < 192 := Nat.lt_of_lt_of_le ho1 hP.2
        rw [if_neg (by rw [hz1]; decide)] at hpar
        have hkw' : (Jvm.Cond.instanceMethod (zy opn)).before args s = true := by
          unfold zkw at hkwm
          rw [hnum, if_neg (by rw [hz1]; decide)] at hkwm
          exact hkwm
        have hi : (zy opn).name = "<init>" ∧ zrt opn = none := by
          rcases hinit with h | h
          · rw [hz2] at h; cases h
          · refine ⟨h.1, ?_⟩
            rw [h.2] at hrk
            simpa [zrk] using hrk
        rw [hi.2] at hwsM
        have hz0 : ztr B sa (.ref o) = .ref (B + o) := by show Value.ref (zad B sa o) = _; rw [zad_own h192]
        have hstk : (F0 m pc ls (((Value.ref o :: as').reverse ++ rest).map (ztr B sa))).stack = (as'.map (ztr B sa)).reverse ++ .ref (B + o) :: rest.map (ztr B sa) := by
          show ((Value.ref o :: as').reverse ++ rest).map (ztr B sa) = _
          rw [hmapst, List.map_cons, hz0, List.reverse_cons, List.append_assoc]; rfl
        have hlen' : (as'.map (ztr B sa)).length = mArg M' - 1 := by rw [List.length_map]; simp only [List.length_cons] at hlen; omega
        have hpre' : ∀ U : State, U.heap = H → s.WarmedH U.vm → va_Pc ((Value.ref o :: as').map (ztr B sa)) (fun U => zG dC dI dA B L xs sa w U) (Value.ref (B + o) :: as'.map (ztr B sa)).toArray U := by
          intro U h1 h2
          have q := hpre U h1 h2
          rw [List.map_cons, hz0] at q ⊢
          exact q
        cases hne2 : r0.2.2.2.2 with
        | false => exact zafter (w := w) (aa := #[]) (M := M) (lv := lv) hnpc (va_runI (b := B + o) (As := as'.map (ztr B sa)) (rest := rest.map (ztr B sa)) ⟨hx, hb, hml, hown, hts⟩ hMet ⟨callB_of (mArg M' - 1) hts hGI hwsM rfl rfl hinw (hlink1 hne2) ⟨hmh, hvh, hpar⟩ hroom, hi.1, hkw'⟩ ⟨hbl, hpre'⟩ rfl hlen' hl.1 hstk hrest hdi hcap') hSS hl k2
        | true => exact zafter (w := w) (aa := #[]) (M := M) (lv := lv) hnpc (va_runIN (b := B + o) (As := as'.map (ztr B sa)) (rest := rest.map (ztr B sa)) ⟨hx, hb, hml, hown, hts⟩ hMet ⟨va_cnB (mArg M' - 1) hts hGI hwsM rfl rfl (hlinkN hne2) hinw ⟨hmh, hvh, hpar⟩ hroom, hi.1, hkw'⟩ ⟨hbl, hpre'⟩ rfl hlen' hl.1 hstk hrest hdi hcap') hSS hl k2
  intro T hT X
  refine key (fun h => ?_) T hT X
  have q := X.heapSize
  rw [hT] at q
  have := hex (wn w) hn0 h
  omega
end ZU
end
section
/-! a whole method: the small machine's doing is a contract of the real one -/
section ZV
variable {dC : Nat → ClassId} {dI : Nat → Nat → Nat} {dA : Nat → ClassId} {B L : Nat} {xs : Nat → Int32} {sa : Nat → Nat}
variable {p : Program} {l : Launch} {e : Env} {R : Room} {s : State} {m : MethodId} {args : Array Value} {below : List Frame} {meth : Method} {c : Code} {Q : State → Prop}
theorem trI_ret {cc pc : Nat} {i : Instr} {op : Op4} (hI : trI cc pc i = some op) : (op.1 = 41 → i = .return_) ∧ (op.1 = 42 → i = .ireturn) ∧ (op.1 = 43 → i = .lreturn) ∧ (op.1 = 44 → i = .areturn) := by
  cases i
  case getfield j =>
    simp only [trI] at hI
    cases hr : lkF cc j with
    | none => rw [hr] at hI; cases hI
    | some r =>
      rw [hr] at hI
      simp only [Option.bind_some, gOp] at hI
      repeat' split at hI
      all_goals first | (cases hI; done) | (cases hI; simp)
  case putfield j =>
    simp only [trI] at hI
    cases hr : lkF cc j with
    | none => rw [hr] at hI; cases hI
    | some r =>
      rw [hr] at hI
      simp only [Option.bind_some, pOp] at hI
      repeat' split at hI
      all_goals first | (cases hI; done) | (cases hI; simp)
  case tableswitch d lo hi offs =>
    simp only [trI] at hI
    cases hr : lkW cc pc with
    | none => rw [hr] at hI; cases hI
    | some r =>
      rw [hr] at hI
      simp only [Option.bind_some] at hI
      split at hI
      · cases hI; simp
      · cases hI
  case newarray t => cases t <;> simp only [trI] at hI <;> first | (cases hI; done) | (cases hI; simp)
  case ifCond kd off => simp only [trI] at hI; obtain ⟨hI, -⟩ := ztgt hI; subst hI; simp
  case if_icmp kd off => simp only [trI] at hI; obtain ⟨hI, -⟩ := ztgt hI; subst hI; simp
  case if_acmp kd off => simp only [trI] at hI; obtain ⟨hI, -⟩ := ztgt hI; subst hI; simp
  case ifnull off => simp only [trI] at hI; obtain ⟨hI, -⟩ := ztgt hI; subst hI; simp
  case ifnonnull off => simp only [trI] at hI; obtain ⟨hI, -⟩ := ztgt hI; subst hI; simp
  case goto off => simp only [trI] at hI; obtain ⟨hI, -⟩ := ztgt hI; subst hI; simp
  case invokevirtual j =>
    simp only [trI, mOp] at hI
    cases hr : lkM cc j with
    | none => rw [hr] at hI; cases hI
    | some r =>
      rw [hr] at hI
      simp only [Option.bind_some] at hI
      repeat' split at hI
      all_goals first | (cases hI; done) | (cases hI; simp)
  case invokestatic j =>
    simp only [trI, mOp] at hI
    cases hr : lkM cc j with
    | none => rw [hr] at hI; cases hI
    | some r =>
      rw [hr] at hI
      simp only [Option.bind_some] at hI
      repeat' split at hI
      all_goals first | (cases hI; done) | (cases hI; simp)
  case invokespecial j =>
    simp only [trI, mOp] at hI
    cases hr : lkM cc j with
    | none => rw [hr] at hI; cases hI
    | some r =>
      rw [hr] at hI
      simp only [Option.bind_some] at hI
      repeat' split at hI
      all_goals first | (cases hI; done) | (cases hI; simp)
  all_goals first | (simp only [trI] at hI; cases hI; done) | (simp only [trI, Option.some.injEq] at hI; subst hI; simp; done) | (simp only [trI] at hI; rw [Option.map_eq_some_iff] at hI; obtain ⟨_, -, hI⟩ := hI; subst hI; simp; done)
/-- the end of a method -/
theorem zend {M : Mth} (hM : zchk M = true) (C : zCtx dC dI dA B L xs sa M p s m args meth c R) (hr : meth.sig.returnType = zrt (mNum M)) (hrk : zrk (mRet M) (zrt (mNum M)) = true) (hlocks : meth.locks = false) {cf sf : Nat → Nat} {a : Cfg} {op : Op4} {npc n0 : Nat} {r : Option Value}
    (ho : opAt (mCode M) a.1 = some (op, npc)) (hf : zfin M op a.2.2.1 = some r) (hn0 : n0 ≤ wn a.2.2.2) (hex : ∀ n, n0 ≤ n → n < zK → s.heap.size + cf n ≤ B + n) :
    zWk dC dI dA B L xs sa M p l e R s m args below meth c cf sf (MQ below (fun _ st o t => o = .returned (r.map (ztr B sa)) ∧ zG dC dI dA B L xs sa a.2.2.2 t ∧ va_F (zA B) st t) args s (cf (wn a.2.2.2)) (sf (wn a.2.2.2)) (zA B)) a := by
  obtain ⟨i, len, hd, hln, hn, hI⟩ := zdec_op hM ho
  obtain ⟨hx, hb, hml, hown, hts, hini, hK, hS, hN, hB, hfr, hlo, hc15⟩ := C
  obtain ⟨pc, lv, st, w⟩ := a
  intro H locs ls hA
  obtain ⟨hP, hSS, hScr, hl⟩ := hA
  dsimp only at hP hSS hScr hl ho hf hn0 ⊢
  obtain ⟨t1, t2, t3, t4⟩ := trI_ret hI
  have hlow := zhp_low hP hSS hB
  have key : (wn w < zK → H.size ≤ B + wn w) → W p l e R s m args below meth c H locs (cf (wn w)) (sf (wn w)) (MQ below (fun _ st o t => o = .returned (r.map (ztr B sa)) ∧ zG dC dI dA B L xs sa w t ∧ va_F (zA B) st t) args s (cf (wn w)) (sf (wn w)) (zA B)) (F0 m pc ls (st.map (ztr B sa))) := by
    intro hup
    have hq : ∀ t : State, t.heap = H → s.WarmedH t.vm → zG dC dI dA B L xs sa w t ∧ va_F (zA B) s t := fun t ht hW => ⟨⟨by rw [ht]; exact hP, va_K.moved hW.alike hK, by rw [ht]; exact hS.go hSS hW.alike, hN.warm hW, hScr, by rw [ht]; exact hlow, fun h => by rw [ht]; exact hup h⟩, hSS.F ht⟩
    unfold zfin at hf
    split at hf
    · rename_i e1
      rw [t1 e1] at hd hln
      have hln := Nat.eq_of_beq_eq_true hln; subst hln
      split at hf
      · rename_i e0
        cases hf
        rw [e0] at hrk
        exact W.vret hx hb (hr.trans (by simpa [zrk] using hrk)) (fun t h1 h2 => ⟨rfl, hq t h1 h2⟩) hSS.2.2 hd hlocks
      · cases hf
    · rename_i x e1
      rw [t2 e1] at hd hln
      have hln := Nat.eq_of_beq_eq_true hln; subst hln
      split at hf
      · rename_i e0
        cases hf
        rcases e0 with e0 | ⟨e0, h01⟩
        · rw [e0] at hrk
          exact W.iret hx hb (hr.trans (by simpa [zrk] using hrk)) (fun t h1 h2 => ⟨rfl, hq t h1 h2⟩) hSS.2.2 hd hlocks
        · rw [e0] at hrk
          exact W.zret (ty := .boolean) hx hb (hr.trans (by simpa [zrk] using hrk)) (by rcases h01 with h | h <;> subst h <;> decide +kernel) (fun t h1 h2 => ⟨rfl, hq t h1 h2⟩) hSS.2.2 hd hlocks
      · cases hf
    · rename_i x e1
      rw [t3 e1] at hd hln
      have hln := Nat.eq_of_beq_eq_true hln; subst hln
      split at hf
      · rename_i e0
        cases hf
        rw [e0] at hrk
        exact W.lret hx hb (hr.trans (by simpa [zrk] using hrk)) (fun t h1 h2 => ⟨rfl, hq t h1 h2⟩) hSS.2.2 hd hlocks
      · cases hf
    · rename_i x e1
      rw [t4 e1] at hd hln
      have hln := Nat.eq_of_beq_eq_true hln; subst hln
      split at hf
      · rename_i e0
        cases hf
        rw [e0] at hrk
        unfold zrk at hrk
        split at hrk
        all_goals first | (exfalso; omega) | skip
        split at hrk
        · rename_i nm hz
          exact W.aret (v := ztr B sa (.ref x)) hx hb (hr.trans hz) (Or.inl ⟨_, rfl⟩) (Or.inr ⟨_, rfl⟩) (fun t h1 h2 => ⟨rfl, hq t h1 h2⟩) hSS.2.2 hd hlocks
        · cases hrk
      · cases hf
    · rename_i e1
      rw [t4 e1] at hd hln
      have hln := Nat.eq_of_beq_eq_true hln; subst hln
      split at hf
      · rename_i e0
        cases hf
        rw [e0] at hrk
        unfold zrk at hrk
        split at hrk
        all_goals first | (exfalso; omega) | skip
        split at hrk
        · rename_i nm hz
          exact W.aret (v := .null) hx hb (hr.trans hz) (Or.inl ⟨_, rfl⟩) (Or.inl rfl) (fun t h1 h2 => ⟨rfl, hq t h1 h2⟩) hSS.2.2 hd hlocks
        · cases hrk
      · cases hf
    · cases hf
  intro T hT X
  refine key (fun h => ?_) T hT X
  have q := X.heapSize
  rw [hT] at q
  have := hex (wn w) hn0 h
  omega
theorem zgr_c (t : Nat) : zgr t = 1 ∨ zgr t = 2 ∨ zgr t = 3 := by
  unfold zgr
  split <;> simp
theorem zst_mono {E : Evf} (hE : ∀ n as w r w1, E n as w r w1 → wn w ≤ wn w1 ∧ wx w1 = wx w) {M : Mth} {a b : Cfg} (h : Zst E M a b) : wn a.2.2.2 ≤ wn b.2.2.2 ∧ wx b.2.2.2 = wx a.2.2.2 := by
  rcases h with ⟨op, npc, -, h | ⟨-, as, rest, r, w1, -, hv, -, hb⟩⟩ | ⟨lv', -, hb⟩
  · exact zmono_p h
  · subst hb; exact hE _ _ _ _ _ hv
  · subst hb; exact ⟨Nat.le_refl _, rfl⟩
theorem pth_mono {E : Evf} (hE : ∀ n as w r w1, E n as w r w1 → wn w ≤ wn w1 ∧ wx w1 = wx w) {M : Mth} : ∀ (n : Nat) {a b : Cfg}, Pth E M n a b → wn a.2.2.2 ≤ wn b.2.2.2 ∧ wx b.2.2.2 = wx a.2.2.2
  | 0, a, b, h => by cases h; exact ⟨Nat.le_refl _, rfl⟩
  | n + 1, a, b, ⟨x, h1, h2⟩ => by
    obtain ⟨g1, g2⟩ := zst_mono hE h1
    obtain ⟨g3, g4⟩ := pth_mono hE n h2
    exact ⟨Nat.le_trans g1 g3, g4.trans g2⟩
/-- the walk along a path -/
theorem zpath {M : Mth} {d : Nat} {E : Evf} (hM : zchk M = true) (hL : zloc M = true) (C : zCtx dC dI dA B L xs sa M p s m args meth c R) (hE : zMet dC dI dA B L xs sa l d E) (hfr2 : d + 1 ≤ R.frames) (hlo2 : 32 * (d + 1) ≤ R.locals) {cf sf : Nat → Nat} {n0 nE : Nat}
    (hcf : ∀ a b, n0 ≤ a → a ≤ b → cf b = cf a + (b - a) ∧ sf b = sf a + (zslt b - zslt a)) (hex : ∀ n, n0 ≤ n → n < zK → s.heap.size + cf n ≤ B + n) (hcap : ∀ n, n0 ≤ n → n ≤ nE → cf n ≤ R.cells ∧ sf n ≤ R.slots) :
    ∀ (n : Nat) {a b : Cfg}, Pth E M n a b → n0 ≤ wn a.2.2.2 → wn b.2.2.2 ≤ nE → zWk dC dI dA B L xs sa M p l e R s m args below meth c cf sf Q b → zWk dC dI dA B L xs sa M p l e R s m args below meth c cf sf Q a
  | 0, a, b, h, _, _, k => by cases h; exact k
  | n + 1, a, b, ⟨x, h1, h2⟩, hn0, hnE, k => by
    have hm : ∀ n as w r w1, E n as w r w1 → wn w ≤ wn w1 ∧ wx w1 = wx w := fun n as w r w1 h => ⟨(hE n as w r w1 h).1, (hE n as w r w1 h).2.1⟩
    have m1 := (zst_mono hm h1).1
    have m2 := (pth_mono hm n h2).1
    have kx := zpath hM hL C hE hfr2 hlo2 hcf hex hcap n h2 (Nat.le_trans hn0 m1) hnE k
    have hcx := hcap (wn x.2.2.2) (Nat.le_trans hn0 m1) (Nat.le_trans m2 hnE)
    have hcf3 : ∀ n, n0 ≤ n → cf (n + 1) = cf n + 1 ∧ sf (n + 1) = sf n + (zsh n).2 := by
      intro q hq
      obtain ⟨g1, g2⟩ := hcf q (q + 1) hq (Nat.le_succ _)
      refine ⟨by rw [g1]; omega, ?_⟩
      rw [g2, show zslt (q + 1) = zslt q + (zsh q).2 from rfl]
      omega
    rcases h1 with ⟨op, npc, ho, h | ⟨h39, as, rest, r, w1, hst, hv, hsum, hb⟩⟩ | ⟨lv', hsub, hb⟩
    · rcases zgr_c op.1 with hg | hg | hg
      · exact zstep1 hM hL C ho h hg kx
      · exact zstep2 hM C ho h hg kx
      · exact zstep3 hM C ho h hg hn0 hcf3 hex hcx kx
    · subst hb
      obtain ⟨pc, lv, st, w⟩ := a
      exact zcall hM C hE hfr2 hlo2 ho h39 hst hv hsum hn0 hcf hex hcx kx
    · subst hb
      intro H locs ls hA
      exact kx H locs ls ⟨hA.1, hA.2.1, hA.2.2.1, zlv_sub hA.2.2.2 hsub⟩
theorem lg_sl_len (vs : List Value) : (lg_sl vs).length = (vs.map fun v => v.category).sum := by
  induction vs with
  | nil => rfl
  | cons v vs ih =>
    have e : lg_sl (v :: vs) = (if v.category = 2 then [.val v, .second] else [.val v]) ++ lg_sl vs := rfl
    rw [e, List.length_append, ih, List.map_cons, List.sum_cons]
    rcases lv_cat v with h | h <;> rw [h] <;> simp
/-- the machine's doing, as a contract -/
theorem zmet (hflag : ∀ M ∈ zMs.drop 1, zchk M = true ∧ zloc M = true) : ∀ d : Nat, zMet dC dI dA B L xs sa l d (Ev d)
  | 0 => fun _ _ _ _ _ h => h.elim
  | d + 1 => by
    intro n as w r w1 h
    obtain ⟨M, hMm, hnum, hnz, hlen, hcat, hrecv, k, b, op, npc, hpth, ho, hf, hw1⟩ := h
    have hE := zmet hflag d
    have hm : ∀ n as w r w1, Ev d n as w r w1 → wn w ≤ wn w1 ∧ wx w1 = wx w := fun n as w r w1 h => ⟨(hE n as w r w1 h).1, (hE n as w r w1 h).2.1⟩
    obtain ⟨m1, m2⟩ := pth_mono hm k hpth
    subst hw1
    dsimp only at m1 m2
    refine ⟨m1, m2, M, hMm, hnum, hnz, hlen, hrecv, ?_⟩
    have hMd := zMs_ne hMm (by rw [hnum]; exact hnz)
    obtain ⟨hM, hL⟩ := hflag M hMd
    have hmok := zmok_all M hMd
    unfold zmok at hmok
    simp only [Bool.and_eq_true, Bool.or_eq_true, decide_eq_true_eq, hnum, Bool.not_eq_true'] at hmok
    obtain ⟨⟨⟨⟨⟨⟨⟨⟨⟨⟨⟨⟨⟨hkw, hkwg⟩, hsel⟩, hcls⟩, hcl15⟩, hplain⟩, hmh⟩, hvh⟩, hpar⟩, harg1⟩, hloc12⟩, hrk⟩, hinit⟩, hclst⟩ := hmok
    refine va_MetF (cc := zby n) (maxL := mLoc M) (ret := zrt n) hplain (by unfold zcw; rw [hnum]) ?_
    intro p e s m args below meth c s₁ BL hml hv
    obtain ⟨rfl, hG⟩ := hv
    obtain ⟨hP, hK, hS, hN, hScr, hlow, hup⟩ := hG
    have hts := atoms_spec (ws := zcw M :: zWS) BL.pre
    have hown : s.vm.findClass (zC (mCls M)) = some m.cls := by rw [← hcls]; exact findClass_of_methodNamed BL.named
    have hC : zCtx dC dI dA B L xs sa M p s m (as.map (ztr B sa)).toArray meth c (headSpec (zcw M :: zWS) { frames := d + 1, cells := wn b.2.2.2 - wn w, slots := zslt (wn b.2.2.2) - zslt (wn w), locals := 32 * (d + 1) }).room := by
      refine ⟨BL.exec, by rw [hnum]; exact BL.bytes, hml, hown, fun q hq => hts q (List.mem_cons_of_mem _ hq), fun hi => ?_, hK, hS, hN, by omega, by show 1 ≤ d + 1; omega, by show 32 ≤ 32 * (d + 1); omega, hcl15⟩
      rw [hnum] at hi
      rcases hinit with q | q
      · rw [hi] at q; cases q
      · rw [← q.1]; exact (name_of_methodNamed BL.named BL.method).1
    have hl := lv_entry (as.map (ztr B sa)) (n := mLoc M) (by rw [lg_sl_len, ztr_sum]; exact hcat)
    rw [lg_entry_eq]
    generalize (lg_sl (as.map (ztr B sa)) ++ List.replicate (mLoc M - (lg_sl (as.map (ztr B sa))).length) Slot.unset).toArray = ls at hl ⊢
    rw [zlv_args] at hl
    have hcf : ∀ x y, wn w ≤ x → x ≤ y → (fun n => n - wn w) y = (fun n => n - wn w) x + (y - x) ∧ (fun n => zslt n - zslt (wn w)) y = (fun n => zslt n - zslt (wn w)) x + (zslt y - zslt x) := by
      intro x y h1 h2
      have q1 := zslt_mono h1
      have q2 := zslt_mono h2
      dsimp only
      omega
    have hex : ∀ n, wn w ≤ n → n < zK → s.heap.size + (fun n => n - wn w) n ≤ B + n := by
      intro q h1 h2
      have := hup (by omega)
      dsimp only
      omega
    have hcap : ∀ n, wn w ≤ n → n ≤ wn b.2.2.2 → (fun n => n - wn w) n ≤ (headSpec (zcw M :: zWS) { frames := d + 1, cells := wn b.2.2.2 - wn w, slots := zslt (wn b.2.2.2) - zslt (wn w), locals := 32 * (d + 1) }).room.cells ∧ (fun n => zslt n - zslt (wn w)) n ≤ (headSpec (zcw M :: zWS) { frames := d + 1, cells := wn b.2.2.2 - wn w, slots := zslt (wn b.2.2.2) - zslt (wn w), locals := 32 * (d + 1) }).room.slots := by
      intro q h1 h2
      have q2 := zslt_mono h2
      show q - wn w ≤ wn b.2.2.2 - wn w ∧ zslt q - zslt (wn w) ≤ zslt (wn b.2.2.2) - zslt (wn w)
      omega
    have kend := zend (l := l) (e := e) (below := below) (r := r) hM hC (by rw [hnum]; exact BL.returns) (by rw [hnum]; exact hrk) BL.notSynchronized (cf := fun n => n - wn w) (sf := fun n => zslt n - zslt (wn w)) ho hf m1 hex
    have kst := zpath hM hL hC hE (by show d + 1 ≤ d + 1; omega) (by show 32 * (d + 1) ≤ 32 * (d + 1); omega) hcf hex hcap k hpth (Nat.le_refl _) (Nat.le_refl _) kend
    have kk := kst s.heap [] ls ⟨hP, va_S.rf, hScr, hl⟩
    simp only [Nat.sub_self] at kk
    exact kk
end ZV
end
section
/-! programs over worlds (worlds in, answer and world out, or none), and how they are held against the small machine -/
def ist (t c : Nat) : Prop := t < 192 ∧ (zsh t).1 = c
/-- where an object's own rows lie, behind it: by class and field -/
def zofs (c j : Nat) : Option Nat := match c, j with
  | 0, 2 => some 1
  | 0, 3 => some 2
  | 1, 7 => some 1
  | 1, 8 => some 2
  | 1, 9 => some 3
  | 1, 10 => some 4
  | 1, 11 => some 5
  | 1, 12 => some 6
  | 1, 13 => some 7
  | 1, 14 => some 8
  | 1, 15 => some 9
  | 3, 2 => some 1
  | 3, 3 => some 2
  | 3, 4 => some 3
  | 3, 5 => some 4
  | 3, 6 => some 5
  | 3, 9 => some 6
  | 4, 2 => some 1
  | 4, 3 => some 2
  | 4, 4 => some 3
  | 4, 5 => some 4
  | 4, 6 => some 5
  | 4, 7 => some 6
  | 4, 8 => some 7
  | 4, 9 => some 8
  | 4, 10 => some 9
  | 4, 14 => some 10
  | 4, 15 => some 11
  | 5, 1 => some 1
  | 5, 2 => some 2
  | 5, 3 => some 3
  | 5, 4 => some 4
  | 5, 5 => some 5
  | 5, 6 => some 6
  | 5, 7 => some 7
  | 6, 2 => some 1
  | 6, 3 => some 2
  | 6, 4 => some 3
  | 7, 0 => some 1
  | 7, 7 => some 2
  | 7, 8 => some 3
  | 7, 9 => some 4
  | 8, 3 => some 1
  | 8, 4 => some 2
  | 8, 5 => some 3
  | 9, 0 => some 1
  | 9, 1 => some 6
  | 9, 6 => some 35
  | 9, 7 => some 43
  | 9, 10 => some 44
  | 9, 11 => some 45
  | 9, 12 => some 46
  | 9, 13 => some 47
  | 9, 14 => some 48
  | 9, 15 => some 60
  | 9, 16 => some 64
  | 9, 17 => some 67
  | 10, 1 => some 1
  | 10, 6 => some 2
  | 10, 7 => some 3
  | 10, 8 => some 4
  | 10, 9 => some 5
  | 10, 10 => some 6
  | 10, 22 => some 7
  | 10, 24 => some 8
  | 10, 25 => some 9
  | 10, 26 => some 10
  | 10, 27 => some 11
  | 10, 30 => some 12
  | 10, 31 => some 13
  | 10, 36 => some 14
  | 10, 37 => some 15
  | 10, 38 => some 16
  | 10, 39 => some 17
  | 10, 40 => some 18
  | 10, 41 => some 19
  | 10, 45 => some 20
  | 10, 51 => some 21
  | 10, 52 => some 22
  | 10, 53 => some 23
  | 10, 54 => some 24
  | _, _ => none
/-- the world is whole; its references are where they were laid -/
def TY (w : Wd) : Prop := wn w = 192 ∧ (∀ t c j o, ist t c → zofs c j = some o → wR w t j = some (t + o)) ∧ wR w 6 0 = some 1 ∧
  (∃ a, wR w 0 2 = some a ∧ ist a 1) ∧ (∃ a, wR w 0 3 = some a ∧ ist a 1) ∧ (∃ a, wR w 0 4 = some a ∧ ist a 6) ∧ (∃ a, wR w 0 5 = some a ∧ ist a 6) ∧
  (∀ i, i < 6 → wR w 43 i = some (74 + 8 * i)) ∧ (∀ i, i < 2 → wR w 44 i = some (122 + 22 * i)) ∧ (∀ i, i < 2 → wR w 45 i = some (132 + 22 * i)) ∧ (∀ i, i < 2 → wR w 46 i = some (140 + 22 * i))
theorem TY.of {w w' : Wd} (h : TY w) (hn : wn w' = wn w) (hr : wR w' = wR w) : TY w' := by
  unfold TY
  rw [hn, hr]
  exact h
theorem TY.sI {w : Wd} (h : TY w) (k j : Nat) (v : Int32) : TY (sI w k j v) := h.of rfl rfl
theorem TY.sL {w : Wd} (h : TY w) (k j : Nat) (v : Int64) : TY (sL w k j v) := h.of rfl rfl
theorem TY.rI {w : Wd} (h : TY w) (k : Nat) (f : Nat → Int32) : TY (rI w k f) := h.of rfl rfl
theorem TY.rL {w : Wd} (h : TY w) (k : Nat) (f : Nat → Int64) : TY (rL w k f) := h.of rfl rfl
theorem ist0 {t : Nat} (h : ist t 9) : t = 0 := (by decide +kernel : ∀ t, t < 192 → (zsh t).1 = 9 → t = 0) t h.1 h.2
theorem ist6 {t : Nat} (h : ist t 2) : t = 6 := (by decide +kernel : ∀ t, t < 192 → (zsh t).1 = 2 → t = 6) t h.1 h.2
/-- home, draft, saying, sayingDraft -/
theorem TY.putR {w : Wd} (h : TY w) {j a : Nat} (hj : j = 2 ∨ j = 3 ∨ j = 4 ∨ j = 5) (ha : ist a (if j < 4 then 1 else 6)) : TY (sR w 0 j (some a)) := by
  obtain ⟨h1, h2, h3, h4, h5, h6, h7, h8, h9, h10, h11⟩ := h
  have hk : ∀ k i, k ≠ 0 → wR (sR w 0 j (some a)) k i = wR w k i := fun k i hk => by rw [wR_sR, if_neg (fun q => hk q.1)]
  have hs : ∀ q b, q ≠ j → wR w 0 q = b → wR (sR w 0 j (some a)) 0 q = b := fun q b hq hb => by rw [wR_sR, if_neg (fun z => hq z.2), hb]
  have hp : wR (sR w 0 j (some a)) 0 j = some a := by rw [wR_sR, if_pos ⟨rfl, rfl⟩]
  refine ⟨h1, fun t c i o ht ho => ?_, by rw [hk _ _ (by decide)]; exact h3, ?_, ?_, ?_, ?_, fun i hi => by rw [hk _ _ (by decide)]; exact h8 i hi, fun i hi => by rw [hk _ _ (by decide)]; exact h9 i hi, fun i hi => by rw [hk _ _ (by decide)]; exact h10 i hi, fun i hi => by rw [hk _ _ (by decide)]; exact h11 i hi⟩
  · by_cases e : t = 0
    · subst e
      have hc : c = 9 := by rw [← ht.2]; rfl
      subst hc
      rw [hs i _ (fun q => by subst q; rcases hj with q | q | q | q <;> subst q <;> cases ho) rfl]
      exact h2 0 9 i o ht ho
    · rw [hk t i e]; exact h2 t c i o ht ho
  · rcases hj with q | q | q | q <;> subst q
    · exact ⟨a, hp, ha⟩
    all_goals (obtain ⟨b, g1, g2⟩ := h4; exact ⟨b, hs _ _ (by decide) g1, g2⟩)
  · rcases hj with q | q | q | q <;> subst q
    · obtain ⟨b, g1, g2⟩ := h5; exact ⟨b, hs _ _ (by decide) g1, g2⟩
    · exact ⟨a, hp, ha⟩
    all_goals (obtain ⟨b, g1, g2⟩ := h5; exact ⟨b, hs _ _ (by decide) g1, g2⟩)
  · rcases hj with q | q | q | q <;> subst q
    · obtain ⟨b, g1, g2⟩ := h6; exact ⟨b, hs _ _ (by decide) g1, g2⟩
    · obtain ⟨b, g1, g2⟩ := h6; exact ⟨b, hs _ _ (by decide) g1, g2⟩
    · exact ⟨a, hp, ha⟩
    · obtain ⟨b, g1, g2⟩ := h6; exact ⟨b, hs _ _ (by decide) g1, g2⟩
  · rcases hj with q | q | q | q <;> subst q
    · obtain ⟨b, g1, g2⟩ := h7; exact ⟨b, hs _ _ (by decide) g1, g2⟩
    · obtain ⟨b, g1, g2⟩ := h7; exact ⟨b, hs _ _ (by decide) g1, g2⟩
    · obtain ⟨b, g1, g2⟩ := h7; exact ⟨b, hs _ _ (by decide) g1, g2⟩
    · exact ⟨a, hp, ha⟩
/-! the programs -/
def bi (b : Bool) : Int32 := match b with
  | true => 1
  | false => 0
/-- a loop: its body goes on, or ends -/
def itM {S α : Type} (body : S → Wd → Option ((S ⊕ α) × Wd)) : Nat → S → Wd → Option (α × Wd)
  | 0, _, _ => none
  | n + 1, s, w => match body s w with
    | none => none
    | some (.inl s', w') => itM body n s' w'
    | some (.inr r, w') => some (r, w')
def cl {α β : Type} (m : Option (α × Wd)) (f : α → Wd → Option β) : Option β := match m with
  | none => none
  | some (r, w) => f r w
def lt {α β : Type} (x : α) (f : α → β) : β := f x
def gd {β : Type} (b : Bool) (k : Option β) : Option β := match b with
  | true => k
  | false => none
def der {β : Type} (o : Option Nat) (f : Nat → Option β) : Option β := match o with
  | none => none
  | some a => f a
def nul {β : Type} (o : Option Nat) (k : Option β) (f : Nat → Option β) : Option β := match o with
  | none => k
  | some a => f a
def stI {β : Type} (w : Wd) (k j : Nat) (v : Int32) (f : Wd → Option β) : Option β := f (sI w k j v)
def stL {β : Type} (w : Wd) (k j : Nat) (v : Int64) (f : Wd → Option β) : Option β := f (sL w k j v)
def stR {β : Type} (w : Wd) (k j : Nat) (v : Option Nat) (f : Wd → Option β) : Option β := f (sR w k j v)
/-- System.arraycopy of ints, longs: from o to q, sp, dp, n; lo, lq their lengths -/
def cpI {β : Type} (w : Wd) (o lo : Nat) (sp : Int32) (q lq : Nat) (dp n : Int32) (f : Wd → Option β) : Option β :=
  if 0 ≤ sp ∧ 0 ≤ dp ∧ 0 ≤ n ∧ ix sp + ix n ≤ lo ∧ ix dp + ix n ≤ lq then f (rI w q (va_cpy (wI w o) (wI w q) (ix sp) (ix dp) (ix n))) else none
def cpL {β : Type} (w : Wd) (o lo : Nat) (sp : Int32) (q lq : Nat) (dp n : Int32) (f : Wd → Option β) : Option β :=
  if 0 ≤ sp ∧ 0 ≤ dp ∧ 0 ≤ n ∧ ix sp + ix n ≤ lo ∧ ix dp + ix n ≤ lq then f (rL w q (va_cpy (wL w o) (wL w q) (ix sp) (ix dp) (ix n))) else none
def jn {A α : Type} (J : A → Wd → Option (α × Wd)) (f : (A → Wd → Option (α × Wd)) → Option (α × Wd)) : Option (α × Wd) := f J
/-- a switch: the int against 0, 1, .. -/
def swt {β : Type} (x : Int32) (f : Nat → Option β) (g : Option β) (n : Nat) : Option β := if 0 ≤ x ∧ ix x < n then f (ix x) else g
/-! holding -/
def sp {α : Type} (m : Option (α × Wd)) (P : α → Wd → Prop) : Prop := ∀ r w', m = some (r, w') → P r w'
theorem sp_none {α : Type} {P : α → Wd → Prop} : sp none P := fun _ _ h => by cases h
theorem sp_some {α : Type} {P : α → Wd → Prop} {r : α} {w : Wd} (h : P r w) : sp (some (r, w)) P := fun r' w' e => by cases e; exact h
theorem sp_ite {α : Type} {P : α → Wd → Prop} {c : Prop} [Decidable c] {a b : Option (α × Wd)} (h1 : c → sp a P) (h2 : ¬ c → sp b P) : sp (if c then a else b) P := by
  split
  · rename_i h; exact h1 h
  · rename_i h; exact h2 h
theorem sp_gd {α : Type} {P : α → Wd → Prop} {b : Bool} {a : Option (α × Wd)} (h1 : b = true → sp a P) : sp (gd b a) P := by
  cases b
  · exact sp_none
  · exact h1 rfl
theorem sp_lt {α β : Type} {P : α → Wd → Prop} {x : β} {f : β → Option (α × Wd)} (h : ∀ y, y = x → sp (f y) P) : sp (lt x f) P := h x rfl
theorem sp_nul {α : Type} {P : α → Wd → Prop} {o : Option Nat} {k : Option (α × Wd)} {f : Nat → Option (α × Wd)} (h1 : o = none → sp k P) (h2 : ∀ a, o = some a → sp (f a) P) : sp (nul o k f) P := by
  cases o with
  | none => exact h1 rfl
  | some a => exact h2 a rfl
/-- fewer locals known -/
def subl (l lv : List (Nat × Value)) : Prop := match l with
  | [] => True
  | q :: l => lgt lv q.1 = some q.2 ∧ subl l lv
theorem subl_mem {l lv : List (Nat × Value)} (h : subl l lv) : ∀ q ∈ l, q ∈ lv := by
  have key : ∀ (lv : List (Nat × Value)) (i : Nat) (v : Value), lgt lv i = some v → (i, v) ∈ lv := by
    intro lv
    induction lv with
    | nil => intro i v h; cases h
    | cons q lv ih =>
      intro i v h
      unfold lgt at h
      cases hb : Nat.beq q.1 i with
      | true =>
        rw [hb] at h
        have h1 : q.2 = v := Option.some.inj h
        have h2 := Nat.eq_of_beq_eq_true hb
        rw [← h1, ← h2]
        exact List.mem_cons_self
      | false =>
        rw [hb] at h
        exact List.mem_cons_of_mem _ (ih i v h)
  induction l with
  | nil => intro q hq; cases hq
  | cons a l ih =>
    intro q hq
    rcases List.mem_cons.mp hq with e | e
    · subst e; exact key _ _ _ h.1
    · exact ih h.2 q e
section RUN
variable {E : Evf} {M : Mth}
def PP (E : Evf) (M : Mth) {α : Type} (K : α → Wd → Option Value → Wd → Prop) (a : Cfg) : α → Wd → Prop := fun o w' => TY w' ∧ ∀ R W, K o w' R W → Zfn E M a R W
def KL (E : Evf) (M : Mth) {S α : Type} (h : Nat) (lvL : S → List (Nat × Value)) (K : α → Wd → Option Value → Wd → Prop) : S ⊕ α → Wd → Option Value → Wd → Prop := fun o w' R W => match o with
  | .inl s => Zfn E M (h, lvL s, [], w') R W
  | .inr r => K r w' R W
def KR {α : Type} (cv : α → Option Value) : α → Wd → Option Value → Wd → Prop := fun r w' R W => R = cv r ∧ W = w'
def cvI (x : Int32) : Option Value := some (.int x)
def cvZ (x : Bool) : Option Value := some (.int (bi x))
def cvL (x : Int64) : Option Value := some (.long x)
def cvV (_ : Unit) : Option Value := none
def cvR (x : Option Nat) : Option Value := some (va_rf x)
theorem zfn_step {a b : Cfg} {R : Option Value} {W : Wd} (h : Zst E M a b) (k : Zfn E M b R W) : Zfn E M a R W := by
  obtain ⟨n, c, op, npc, h1, h2⟩ := k
  exact ⟨n + 1, c, op, npc, ⟨b, h, h1⟩, h2⟩
variable {α : Type} {m : Option (α × Wd)} {K : α → Wd → Option Value → Wd → Prop} {pc npc : Nat} {lv : List (Nat × Value)} {st : List Value} {w : Wd}
theorem s_zst {a b : Cfg} (h : Zst E M a b) (k : sp m (PP E M K b)) : sp m (PP E M K a) := fun r w' e => ⟨(k r w' e).1, fun R W g => zfn_step h ((k r w' e).2 R W g)⟩
theorem s_step {op : Op4} {b : Cfg} (ho : opAt (mCode M) pc = some (op, npc)) (hs : zst' M op npc lv st w = some b) (k : sp m (PP E M K b)) : sp m (PP E M K (pc, lv, st, w)) := s_zst (Or.inl ⟨op, npc, ho, Or.inl hs⟩) k
theorem s_fgt (lv' : List (Nat × Value)) (hs : subl lv' lv) (k : sp m (PP E M K (pc, lv', st, w))) : sp m (PP E M K (pc, lv, st, w)) := s_zst (Or.inr ⟨lv', subl_mem hs, rfl⟩) k
theorem s_const {a b : Nat} {v : Int32} (ho : opAt (mCode M) pc = some ((0, a, b, v), npc)) (k : sp m (PP E M K (npc, lv, .int v :: st, w))) : sp m (PP E M K (pc, lv, st, w)) := s_step ho rfl k
theorem s_lconst {a b : Nat} {v : Int32} {x : Int64} (ho : opAt (mCode M) pc = some ((1, a, b, v), npc)) (hx : zlc a = x) (k : sp m (PP E M K (npc, lv, .long x :: st, w))) : sp m (PP E M K (pc, lv, st, w)) := s_step ho (by rw [← hx]; rfl) k
theorem s_iload {a b : Nat} {v x : Int32} (ho : opAt (mCode M) pc = some ((2, a, b, v), npc)) (hl : lgt lv a = some (.int x)) (k : sp m (PP E M K (npc, lv, .int x :: st, w))) : sp m (PP E M K (pc, lv, st, w)) := s_step ho (by show zs1 2 a b v npc lv st w = _; simp only [zs1, hl]) k
theorem s_lload {a b : Nat} {v : Int32} {x : Int64} (ho : opAt (mCode M) pc = some ((3, a, b, v), npc)) (hl : lgt lv a = some (.long x)) (k : sp m (PP E M K (npc, lv, .long x :: st, w))) : sp m (PP E M K (pc, lv, st, w)) := s_step ho (by show zs1 3 a b v npc lv st w = _; simp only [zs1, hl]) k
theorem s_aload {a b : Nat} {v : Int32} {x : Nat} (ho : opAt (mCode M) pc = some ((4, a, b, v), npc)) (hl : lgt lv a = some (.ref x)) (k : sp m (PP E M K (npc, lv, .ref x :: st, w))) : sp m (PP E M K (pc, lv, st, w)) := s_step ho (by show zs1 4 a b v npc lv st w = _; simp only [zs1, hl]) k
theorem s_aloadR {a b : Nat} {v : Int32} {x : Option Nat} (ho : opAt (mCode M) pc = some ((4, a, b, v), npc)) (hl : lgt lv a = some (va_rf x)) (k : sp m (PP E M K (npc, lv, va_rf x :: st, w))) : sp m (PP E M K (pc, lv, st, w)) := s_step ho (by show zs1 4 a b v npc lv st w = _; cases x <;> simp only [zs1, hl, va_rf]) k
theorem s_istore {a b : Nat} {v x : Int32} (ho : opAt (mCode M) pc = some ((5, a, b, v), npc)) (k : sp m (PP E M K (npc, lst1 lv a (.int x), st, w))) : sp m (PP E M K (pc, lv, .int x :: st, w)) := s_step ho rfl k
theorem s_lstore {a b : Nat} {v : Int32} {x : Int64} (ho : opAt (mCode M) pc = some ((6, a, b, v), npc)) (k : sp m (PP E M K (npc, lst2 lv a (.long x), st, w))) : sp m (PP E M K (pc, lv, .long x :: st, w)) := s_step ho rfl k
theorem s_astore {a b : Nat} {v : Int32} {x : Nat} (ho : opAt (mCode M) pc = some ((7, a, b, v), npc)) (k : sp m (PP E M K (npc, lst1 lv a (.ref x), st, w))) : sp m (PP E M K (pc, lv, .ref x :: st, w)) := s_step ho rfl k
theorem s_astoreR {a b : Nat} {v : Int32} {x : Option Nat} (ho : opAt (mCode M) pc = some ((7, a, b, v), npc)) (k : sp m (PP E M K (npc, lst1 lv a (va_rf x), st, w))) : sp m (PP E M K (pc, lv, va_rf x :: st, w)) := s_step ho (by cases x <;> rfl) k
theorem s_iinc {a b : Nat} {v x : Int32} {f : Int32 → Option (α × Wd)} (ho : opAt (mCode M) pc = some ((8, a, b, v), npc)) (hl : lgt lv a = some (.int x)) (k : ∀ y : Int32, y = x + v → sp (f y) (PP E M K (npc, lst1 lv a (.int y), st, w))) : sp (lt (x + v) f) (PP E M K (pc, lv, st, w)) := s_step ho (by show zs1 8 a b v npc lv st w = _; simp only [zs1, hl]) (k _ rfl)
theorem s_bin {a b : Nat} {v x y z : Int32} (ho : opAt (mCode M) pc = some ((9, a, b, v), npc)) (hz : zbin a x y = some z) (k : sp m (PP E M K (npc, lv, .int z :: st, w))) : sp m (PP E M K (pc, lv, .int y :: .int x :: st, w)) := s_step ho (by show (zbin a x y).map _ = _; rw [hz]; rfl) k
theorem s_div {b : Nat} {v x y : Int32} (ho : opAt (mCode M) pc = some ((9, 3, b, v), npc)) (hy : ¬ y = 0) (k : sp m (PP E M K (npc, lv, .int (x / y) :: st, w))) : sp m (PP E M K (pc, lv, .int y :: .int x :: st, w)) := s_bin ho (by simp only [zbin, if_neg hy]) k
theorem s_rem {b : Nat} {v x y : Int32} (ho : opAt (mCode M) pc = some ((9, 4, b, v), npc)) (hy : ¬ y = 0) (k : sp m (PP E M K (npc, lv, .int (zrem x y) :: st, w))) : sp m (PP E M K (pc, lv, .int y :: .int x :: st, w)) := s_bin ho (by simp only [zbin, if_neg hy]) k
theorem s_lbin {a b : Nat} {v : Int32} {x y z : Int64} (ho : opAt (mCode M) pc = some ((10, a, b, v), npc)) (hz : zlbin a x y = some z) (k : sp m (PP E M K (npc, lv, .long z :: st, w))) : sp m (PP E M K (pc, lv, .long y :: .long x :: st, w)) := s_step ho (by show (zlbin a x y).map _ = _; rw [hz]; rfl) k
theorem s_lcmp {a b : Nat} {v : Int32} {x y : Int64} (ho : opAt (mCode M) pc = some ((11, a, b, v), npc)) (k : sp m (PP E M K (npc, lv, .int (lg_cmp x y) :: st, w))) : sp m (PP E M K (pc, lv, .long y :: .long x :: st, w)) := s_step ho rfl k
theorem s_i2l {a b : Nat} {v x : Int32} (ho : opAt (mCode M) pc = some ((12, a, b, v), npc)) (k : sp m (PP E M K (npc, lv, .long x.toInt64 :: st, w))) : sp m (PP E M K (pc, lv, .int x :: st, w)) := s_step ho rfl k
theorem s_l2i {a b : Nat} {v : Int32} {x : Int64} (ho : opAt (mCode M) pc = some ((13, a, b, v), npc)) (k : sp m (PP E M K (npc, lv, .int x.toInt32 :: st, w))) : sp m (PP E M K (pc, lv, .long x :: st, w)) := s_step ho rfl k
theorem s_i2b {a b : Nat} {v x : Int32} (ho : opAt (mCode M) pc = some ((14, a, b, v), npc)) (k : sp m (PP E M K (npc, lv, .int x.toInt8.toInt32 :: st, w))) : sp m (PP E M K (pc, lv, .int x :: st, w)) := s_step ho rfl k
theorem s_ineg {a b : Nat} {v x : Int32} (ho : opAt (mCode M) pc = some ((53, a, b, v), npc)) (k : sp m (PP E M K (npc, lv, .int (-x) :: st, w))) : sp m (PP E M K (pc, lv, .int x :: st, w)) := s_step ho rfl k
theorem s_lshl {a b : Nat} {v y : Int32} {x : Int64} (ho : opAt (mCode M) pc = some ((54, a, b, v), npc)) (k : sp m (PP E M K (npc, lv, .long (x <<< (y.toInt64 &&& 63)) :: st, w))) : sp m (PP E M K (pc, lv, .int y :: .long x :: st, w)) := s_step ho rfl k
theorem s_dup {a b : Nat} {v : Int32} {x : Value} (ho : opAt (mCode M) pc = some ((15, a, b, v), npc)) (hx : x.category = 1) (k : sp m (PP E M K (npc, lv, x :: x :: st, w))) : sp m (PP E M K (pc, lv, x :: st, w)) := s_step ho (by show (if x.category = 1 then _ else _) = _; rw [if_pos hx]) k
theorem s_pop {a b : Nat} {v : Int32} {x : Value} (ho : opAt (mCode M) pc = some ((16, a, b, v), npc)) (hx : x.category = 1) (k : sp m (PP E M K (npc, lv, st, w))) : sp m (PP E M K (pc, lv, x :: st, w)) := s_step ho (by show (if x.category = 1 then _ else _) = _; rw [if_pos hx]) k
theorem s_dup2 {a b : Nat} {v : Int32} {x y : Value} (ho : opAt (mCode M) pc = some ((17, a, b, v), npc)) (hx : x.category = 1 ∧ y.category = 1) (k : sp m (PP E M K (npc, lv, x :: y :: x :: y :: st, w))) : sp m (PP E M K (pc, lv, x :: y :: st, w)) := s_step ho (by show (if x.category = 1 ∧ y.category = 1 then _ else _) = _; rw [if_pos hx]) k
theorem s_if1 {a b : Nat} {v x : Int32} (ho : opAt (mCode M) pc = some ((18, a, b, v), npc)) (hc : zcnd a x 0 = true) (k : sp m (PP E M K (b, lv, st, w))) : sp m (PP E M K (pc, lv, .int x :: st, w)) := s_step ho (by show some (bif zcnd a x 0 then b else npc, lv, st, w) = _; rw [hc]; rfl) k
theorem s_if0 {a b : Nat} {v x : Int32} (ho : opAt (mCode M) pc = some ((18, a, b, v), npc)) (hc : zcnd a x 0 = false) (k : sp m (PP E M K (npc, lv, st, w))) : sp m (PP E M K (pc, lv, .int x :: st, w)) := s_step ho (by show some (bif zcnd a x 0 then b else npc, lv, st, w) = _; rw [hc]; rfl) k
theorem s_ic1 {a b : Nat} {v x y : Int32} (ho : opAt (mCode M) pc = some ((19, a, b, v), npc)) (hc : zcnd a x y = true) (k : sp m (PP E M K (b, lv, st, w))) : sp m (PP E M K (pc, lv, .int y :: .int x :: st, w)) := s_step ho (by show some (bif zcnd a x y then b else npc, lv, st, w) = _; rw [hc]; rfl) k
theorem s_ic0 {a b : Nat} {v x y : Int32} (ho : opAt (mCode M) pc = some ((19, a, b, v), npc)) (hc : zcnd a x y = false) (k : sp m (PP E M K (npc, lv, st, w))) : sp m (PP E M K (pc, lv, .int y :: .int x :: st, w)) := s_step ho (by show some (bif zcnd a x y then b else npc, lv, st, w) = _; rw [hc]; rfl) k
theorem s_acn {b : Nat} {v : Int32} {x y : Option Nat} (ho : opAt (mCode M) pc = some ((20, 1, b, v), npc)) (hx : zwk x = true) (hy : zwk y = true) (k1 : ¬ x = y → sp m (PP E M K (b, lv, st, w))) (k0 : x = y → sp m (PP E M K (npc, lv, st, w))) : sp m (PP E M K (pc, lv, va_rf y :: va_rf x :: st, w)) := by
  have e : ∀ o : Option Nat, zref (va_rf o) = some o := fun o => by cases o <;> rfl
  have hs : zst' M (20, 1, b, v) npc lv (va_rf y :: va_rf x :: st) w = some (bif Nat.beq 1 0 == decide (x = y) then b else npc, lv, st, w) := by
    show zs1 20 1 b v npc lv (va_rf y :: va_rf x :: st) w = _
    simp only [zs1, e, hx, hy, and_self, if_true]
  by_cases h : x = y
  · exact s_step ho hs (by rw [show (Nat.beq 1 0 == decide (x = y)) = false from by rw [decide_eq_true h]; rfl]; exact k0 h)
  · exact s_step ho hs (by rw [show (Nat.beq 1 0 == decide (x = y)) = true from by rw [decide_eq_false h]; rfl]; exact k1 h)
theorem s_null1 {b : Nat} {v : Int32} (ho : opAt (mCode M) pc = some ((21, 0, b, v), npc)) (k : sp m (PP E M K (b, lv, st, w))) : sp m (PP E M K (pc, lv, .null :: st, w)) := s_step ho rfl k
theorem s_null0 {b : Nat} {v : Int32} {x : Nat} (ho : opAt (mCode M) pc = some ((21, 0, b, v), npc)) (k : sp m (PP E M K (npc, lv, st, w))) : sp m (PP E M K (pc, lv, .ref x :: st, w)) := s_step ho rfl k
theorem s_nonnull1 {b : Nat} {v : Int32} {x : Nat} (ho : opAt (mCode M) pc = some ((21, 1, b, v), npc)) (k : sp m (PP E M K (b, lv, st, w))) : sp m (PP E M K (pc, lv, .ref x :: st, w)) := s_step ho rfl k
theorem s_nonnull0 {b : Nat} {v : Int32} (ho : opAt (mCode M) pc = some ((21, 1, b, v), npc)) (k : sp m (PP E M K (npc, lv, st, w))) : sp m (PP E M K (pc, lv, .null :: st, w)) := s_step ho rfl k
theorem s_goto {a b : Nat} {v : Int32} (ho : opAt (mCode M) pc = some ((22, a, b, v), npc)) (k : sp m (PP E M K (b, lv, st, w))) : sp m (PP E M K (pc, lv, st, w)) := s_step ho rfl k
theorem s_sw {a b t : Nat} {v x : Int32} (ho : opAt (mCode M) pc = some ((23, a, b, v), npc)) (ht : zsw3 a x = t) (k : sp m (PP E M K (t, lv, st, w))) : sp m (PP E M K (pc, lv, .int x :: st, w)) := s_step ho (by rw [← ht]; rfl) k
theorem s_static {a b : Nat} {v : Int32} (ho : opAt (mCode M) pc = some ((26, a, b, v), npc)) (k : sp m (PP E M K (npc, lv, .ref a :: st, w))) : sp m (PP E M K (pc, lv, st, w)) := s_step ho rfl k
theorem s_anull {a b : Nat} {v : Int32} (ho : opAt (mCode M) pc = some ((45, a, b, v), npc)) (k : sp m (PP E M K (npc, lv, .null :: st, w))) : sp m (PP E M K (pc, lv, st, w)) := s_step ho rfl k
theorem zob {o c : Nat} (hT : TY w) (h : ist o c) : zobj w o c = true := by
  unfold zobj
  rw [hT.1, h.2, Bool.and_eq_true]
  exact ⟨by simpa [Nat.blt_eq] using h.1, Nat.beq_refl _⟩
theorem s_getI {a b o : Nat} {v : Int32} (ho : opAt (mCode M) pc = some ((24, a, b, v), npc)) (hT : TY w) (ht : ist o a) (k : sp m (PP E M K (npc, lv, .int (wI w o b) :: st, w))) : sp m (PP E M K (pc, lv, .ref o :: st, w)) := s_step ho (by show (if zobj w o a = true then _ else _) = _; rw [if_pos (zob hT ht)]) k
theorem s_getL {a b o : Nat} {v : Int32} (ho : opAt (mCode M) pc = some ((48, a, b, v), npc)) (hT : TY w) (ht : ist o a) (k : sp m (PP E M K (npc, lv, .long (wL w o b) :: st, w))) : sp m (PP E M K (pc, lv, .ref o :: st, w)) := s_step ho (by show (if zobj w o a = true then _ else _) = _; rw [if_pos (zob hT ht)]) k
theorem s_getF {a b o q : Nat} {v : Int32} (ho : opAt (mCode M) pc = some ((49, a, b, v), npc)) (hT : TY w) (ht : ist o a) (hq : zofs a b = some q) (k : sp m (PP E M K (npc, lv, .ref (o + q) :: st, w))) : sp m (PP E M K (pc, lv, .ref o :: st, w)) := s_step ho (by show (if zobj w o a = true then _ else _) = _; rw [if_pos (zob hT ht), hT.2.1 o a b q ht hq]; rfl) k
theorem s_get6 {o : Nat} {v : Int32} (ho : opAt (mCode M) pc = some ((49, 2, 0, v), npc)) (hT : TY w) (ht : ist o 2) (k : sp m (PP E M K (npc, lv, .ref 1 :: st, w))) : sp m (PP E M K (pc, lv, .ref o :: st, w)) := s_step ho (by show (if zobj w o 2 = true then _ else _) = _; rw [if_pos (zob hT ht), ist6 ht, hT.2.2.1]; rfl) k
theorem TY.ref9 {j a : Nat} (hT : TY w) (hj : j = 2 ∨ j = 3 ∨ j = 4 ∨ j = 5) (ha : wR w 0 j = some a) : ist a (if j < 4 then 1 else 6) := by
  obtain ⟨h1, h2, h3, ⟨a4, h4, g4⟩, ⟨a5, h5, g5⟩, ⟨a6, h6, g6⟩, ⟨a7, h7, g7⟩, -⟩ := hT
  rcases hj with q | q | q | q <;> subst q
  · rw [h4] at ha; cases ha; exact g4
  · rw [h5] at ha; cases ha; exact g5
  · rw [h6] at ha; cases ha; exact g6
  · rw [h7] at ha; cases ha; exact g7
theorem s_getD {b o c : Nat} {v : Int32} {f : Nat → Option (α × Wd)} (ho : opAt (mCode M) pc = some ((49, 9, b, v), npc)) (hT : TY w) (ht : ist o 9) (hb : b = 2 ∨ b = 3 ∨ b = 4 ∨ b = 5) (hc : (if b < 4 then 1 else 6) = c) (k : ∀ a, ist a c → sp (f a) (PP E M K (npc, lv, .ref a :: st, w))) : sp (der (wR w o b) f) (PP E M K (pc, lv, .ref o :: st, w)) := by
  have h0 := ist0 ht
  subst h0
  cases hr : wR w 0 b with
  | none => exact sp_none
  | some a => exact s_step ho (by show (if zobj w 0 9 = true then _ else _) = _; rw [if_pos (zob hT ht), hr]; rfl) (k a (hc ▸ hT.ref9 hb hr))
theorem s_putI {a b o : Nat} {v x : Int32} {f : Wd → Option (α × Wd)} (ho : opAt (mCode M) pc = some ((25, a, b, v), npc)) (hT : TY w) (ht : ist o a) (hf : zpf M a b = true) (k : ∀ w1, TY w1 → sp (f w1) (PP E M K (npc, lv, st, w1))) : sp (stI w o b x f) (PP E M K (pc, lv, .int x :: .ref o :: st, w)) := s_step ho (by show (if zobj w o a = true ∧ zpf M a b = true then _ else _) = _; rw [if_pos ⟨zob hT ht, hf⟩]) (k _ (hT.sI o b x))
theorem s_putZ {a b o : Nat} {v x : Int32} {f : Wd → Option (α × Wd)} (ho : opAt (mCode M) pc = some ((52, a, b, v), npc)) (hT : TY w) (ht : ist o a) (hf : zpf M a b = true) (hx : x = 0 ∨ x = 1) (k : ∀ w1, TY w1 → sp (f w1) (PP E M K (npc, lv, st, w1))) : sp (stI w o b x f) (PP E M K (pc, lv, .int x :: .ref o :: st, w)) := s_step ho (by show (if zobj w o a = true ∧ zpf M a b = true ∧ (x = 0 ∨ x = 1) then _ else _) = _; rw [if_pos ⟨zob hT ht, hf, hx⟩]) (k _ (hT.sI o b x))
theorem s_putL {a b o : Nat} {v : Int32} {x : Int64} {f : Wd → Option (α × Wd)} (ho : opAt (mCode M) pc = some ((50, a, b, v), npc)) (hT : TY w) (ht : ist o a) (hf : zpf M a b = true) (k : ∀ w1, TY w1 → sp (f w1) (PP E M K (npc, lv, st, w1))) : sp (stL w o b x f) (PP E M K (pc, lv, .long x :: .ref o :: st, w)) := s_step ho (by show (if zobj w o a = true ∧ zpf M a b = true then _ else _) = _; rw [if_pos ⟨zob hT ht, hf⟩]) (k _ (hT.sL o b x))
theorem s_putR {b o x c : Nat} {v : Int32} {f : Wd → Option (α × Wd)} (ho : opAt (mCode M) pc = some ((51, 9, b, v), npc)) (hT : TY w) (ht : ist o 9) (hf : zpf M 9 b = true) (hb : b = 2 ∨ b = 3 ∨ b = 4 ∨ b = 5) (hc : (if b < 4 then 1 else 6) = c) (hx : ist x c) (k : ∀ w1, TY w1 → sp (f w1) (PP E M K (npc, lv, st, w1))) : sp (stR w o b (some x) f) (PP E M K (pc, lv, .ref x :: .ref o :: st, w)) := by
  have h0 := ist0 ht
  subst h0
  exact s_step ho (by show (if zobj w 0 9 = true ∧ zpf M 9 b = true then _ else _) = _; rw [if_pos ⟨zob hT ht, hf⟩]) (k _ (hT.putR hb (hc ▸ hx)))
/-- a row: its kind and length -/
def rw_ (o t n : Nat) : Prop := o < 192 ∧ zsh o = (t, n)
theorem rw_.ob {o t n : Nat} (hT : TY w) (h : rw_ o t n) : zobj w o t = true := zob hT ⟨h.1, by rw [h.2]⟩
theorem rw_.ne {o t n : Nat} (h : rw_ o t n) : ¬ o = 1000 ∧ ¬ o = 1001 := ⟨fun e => by have := h.1; omega, fun e => by have := h.1; omega⟩
theorem s_iald {a b o n : Nat} {v i : Int32} (ho : opAt (mCode M) pc = some ((27, a, b, v), npc)) (hT : TY w) (hr : rw_ o 101 n) (k : sp m (PP E M K (npc, lv, .int (wI w o (ix i)) :: st, w))) : sp (gd (ib i n) m) (PP E M K (pc, lv, .int i :: .ref o :: st, w)) :=
  sp_gd fun hi => s_step ho (by show (if o = 1000 then _ else _) = _; rw [if_neg hr.ne.1, if_pos ⟨hr.ob hT, by rw [hr.2]; exact hi⟩]) k
theorem s_lald {a b o n : Nat} {v i : Int32} (ho : opAt (mCode M) pc = some ((28, a, b, v), npc)) (hT : TY w) (hr : rw_ o 102 n) (k : sp m (PP E M K (npc, lv, .long (wL w o (ix i)) :: st, w))) : sp (gd (ib i n) m) (PP E M K (pc, lv, .int i :: .ref o :: st, w)) :=
  sp_gd fun hi => s_step ho (by show (if zobj w o 102 = true ∧ _ then _ else _) = _; rw [if_pos ⟨hr.ob hT, by rw [hr.2]; exact hi⟩]) k
theorem s_bald {a b o n t : Nat} {v i : Int32} (ho : opAt (mCode M) pc = some ((29, a, b, v), npc)) (hT : TY w) (hr : rw_ o t n) (ht : t = 103 ∨ t = 104) (k : sp m (PP E M K (npc, lv, .int (wI w o (ix i)) :: st, w))) : sp (gd (ib i n) m) (PP E M K (pc, lv, .int i :: .ref o :: st, w)) :=
  sp_gd fun hi => s_step ho (by show (if (zobj w o 103 = true ∨ zobj w o 104 = true) ∧ _ then _ else _) = _; rw [if_pos ⟨by rcases ht with e | e <;> subst e; exact Or.inl (hr.ob hT); exact Or.inr (hr.ob hT), by rw [hr.2]; exact hi⟩]) k
theorem s_iast {a b o n : Nat} {v i x : Int32} {f : Wd → Option (α × Wd)} (ho : opAt (mCode M) pc = some ((31, a, b, v), npc)) (hT : TY w) (hr : rw_ o 101 n) (k : ∀ w1, TY w1 → sp (f w1) (PP E M K (npc, lv, st, w1))) : sp (gd (ib i n) (stI w o (ix i) x f)) (PP E M K (pc, lv, .int x :: .int i :: .ref o :: st, w)) :=
  sp_gd fun hi => s_step ho (by show (if zobj w o 101 = true ∧ _ then _ else _) = _; rw [if_pos ⟨hr.ob hT, by rw [hr.2]; exact hi⟩]) (k _ (hT.sI _ _ _))
theorem s_last {a b o n : Nat} {v i : Int32} {x : Int64} {f : Wd → Option (α × Wd)} (ho : opAt (mCode M) pc = some ((32, a, b, v), npc)) (hT : TY w) (hr : rw_ o 102 n) (k : ∀ w1, TY w1 → sp (f w1) (PP E M K (npc, lv, st, w1))) : sp (gd (ib i n) (stL w o (ix i) x f)) (PP E M K (pc, lv, .long x :: .int i :: .ref o :: st, w)) :=
  sp_gd fun hi => s_step ho (by show (if zobj w o 102 = true ∧ _ then _ else _) = _; rw [if_pos ⟨hr.ob hT, by rw [hr.2]; exact hi⟩]) (k _ (hT.sL _ _ _))
theorem s_bast {a b o n : Nat} {v i x y : Int32} {f : Wd → Option (α × Wd)} (ho : opAt (mCode M) pc = some ((33, a, b, v), npc)) (hT : TY w) (hr : rw_ o 103 n) (hy : vp_nar .byte x = y) (k : ∀ w1, TY w1 → sp (f w1) (PP E M K (npc, lv, st, w1))) : sp (gd (ib i n) (stI w o (ix i) y f)) (PP E M K (pc, lv, .int x :: .int i :: .ref o :: st, w)) :=
  sp_gd fun hi => s_step ho (by show (if zobj w o 103 = true ∧ _ then _ else _) = _; rw [if_pos ⟨hr.ob hT, by rw [hr.2]; exact hi⟩, hy]) (k _ (hT.sI _ _ _))
theorem s_zast {a b o n : Nat} {v i x y : Int32} {f : Wd → Option (α × Wd)} (ho : opAt (mCode M) pc = some ((33, a, b, v), npc)) (hT : TY w) (hr : rw_ o 104 n) (hy : vp_nar .boolean x = y) (k : ∀ w1, TY w1 → sp (f w1) (PP E M K (npc, lv, st, w1))) : sp (gd (ib i n) (stI w o (ix i) y f)) (PP E M K (pc, lv, .int x :: .int i :: .ref o :: st, w)) := by
  have h3 : zobj w o 103 = false := by
    cases h : zobj w o 103 with
    | false => rfl
    | true =>
      have h1 := (zobj_iff h).2
      rw [hr.2] at h1
      cases h1
  exact sp_gd fun hi => s_step ho (by show (if zobj w o 103 = true ∧ _ then _ else _) = _; rw [if_neg (by rw [h3]; exact fun q => by cases q.1), if_pos ⟨hr.ob hT, by rw [hr.2]; exact hi⟩, hy]) (k _ (hT.sI _ _ _))
/-- rows of objects: what stands there was laid there -/
theorem s_aald {a b o n c q : Nat} {v i : Int32} (ho : opAt (mCode M) pc = some ((30, a, b, v), npc)) (hT : TY w) (hr : rw_ o c n) (hc : c = 111 ∨ c = 115 ∨ c = 116) (hq : ∀ j, j < n → wR w o j = some (q + (if c = 115 ∧ o = 43 then 8 else 22) * j)) (k : sp m (PP E M K (npc, lv, .ref (q + (if c = 115 ∧ o = 43 then 8 else 22) * ix i) :: st, w))) : sp (gd (ib i n) m) (PP E M K (pc, lv, .int i :: .ref o :: st, w)) :=
  sp_gd fun hi => s_step ho (by
    show (if o = 1001 then _ else _) = _
    rw [if_neg hr.ne.2, if_pos ⟨by rcases hc with e | e | e <;> subst e; exact Or.inl (hr.ob hT); exact Or.inr (Or.inl (hr.ob hT)); exact Or.inr (Or.inr (hr.ob hT)), by rw [hr.2]; exact hi⟩, hq _ (ib_nn hi)]; rfl) k
theorem s_aaldW {a b : Nat} {v i : Int32} (ho : opAt (mCode M) pc = some ((30, a, b, v), npc)) (k : sp m (PP E M K (npc, lv, .ref (1010 + ix i) :: st, w))) : sp (gd (ib i 20) m) (PP E M K (pc, lv, .int i :: .ref 1001 :: st, w)) :=
  sp_gd fun hi => s_step ho (by show (if ib i 20 = true then some (npc, lv, Value.ref (1010 + ix i) :: st, w) else none) = _; rw [if_pos hi]) k
theorem s_lenW {a b : Nat} {v : Int32} (ho : opAt (mCode M) pc = some ((35, a, b, v), npc)) (k : sp m (PP E M K (npc, lv, .int 20 :: st, w))) : sp m (PP E M K (pc, lv, .ref 1001 :: st, w)) := s_step ho rfl k
theorem s_getW0 {b o : Nat} {v : Int32} (ho : opAt (mCode M) pc = some ((47, 0, b, v), npc)) (k : sp m (PP E M K (npc, lv, .long (zwc (o - 1010)) :: st, w))) : sp (gd (decide (1010 ≤ o ∧ o < 1030)) m) (PP E M K (pc, lv, .ref o :: st, w)) :=
  sp_gd fun hi => s_step ho (by show (if 1010 ≤ o ∧ o < 1030 then _ else _) = _; rw [if_pos (of_decide_eq_true hi)]; rfl) k
theorem s_getW1 {b o : Nat} {v : Int32} (ho : opAt (mCode M) pc = some ((47, 1, b, v), npc)) (k : sp m (PP E M K (npc, lv, .int (zwd (o - 1010)) :: st, w))) : sp (gd (decide (1010 ≤ o ∧ o < 1030)) m) (PP E M K (pc, lv, .ref o :: st, w)) :=
  sp_gd fun hi => s_step ho (by show (if 1010 ≤ o ∧ o < 1030 then _ else _) = _; rw [if_pos (of_decide_eq_true hi)]; rfl) k
theorem s_getW2 {b o : Nat} {v : Int32} (ho : opAt (mCode M) pc = some ((47, 2, b, v), npc)) (k : sp m (PP E M K (npc, lv, .int (zwm (o - 1010)) :: st, w))) : sp (gd (decide (1010 ≤ o ∧ o < 1030)) m) (PP E M K (pc, lv, .ref o :: st, w)) :=
  sp_gd fun hi => s_step ho (by show (if 1010 ≤ o ∧ o < 1030 then _ else _) = _; rw [if_pos (of_decide_eq_true hi)]; rfl) k
theorem s_cpI {a b o q lo lq : Nat} {v sp' dp n : Int32} {f : Wd → Option (α × Wd)} (ho : opAt (mCode M) pc = some ((40, a, b, v), npc)) (hT : TY w) (h1 : rw_ o 101 lo) (h2 : rw_ q 101 lq) (hs : (st.map fun v => v.category).sum ≤ 8) (k : ∀ w1, TY w1 → sp (f w1) (PP E M K (npc, lv, st, w1))) : sp (cpI w o lo sp' q lq dp n f) (PP E M K (pc, lv, .int n :: .int dp :: .ref q :: .int sp' :: .ref o :: st, w)) :=
  sp_ite (fun hc => s_step ho (by
    show (if (st.map fun v => v.category).sum ≤ 8 ∧ _ then _ else _) = _
    rw [if_pos ⟨hs, hc.1, hc.2.1, hc.2.2.1, by rw [h1.2]; exact hc.2.2.2.1, by rw [h2.2]; exact hc.2.2.2.2⟩, if_pos ⟨h1.ob hT, h2.ob hT⟩]) (k _ (hT.rI _ _))) (fun _ => sp_none)
theorem s_cpL {a b o q lo lq : Nat} {v sp' dp n : Int32} {f : Wd → Option (α × Wd)} (ho : opAt (mCode M) pc = some ((40, a, b, v), npc)) (hT : TY w) (h1 : rw_ o 102 lo) (h2 : rw_ q 102 lq) (hs : (st.map fun v => v.category).sum ≤ 8) (k : ∀ w1, TY w1 → sp (f w1) (PP E M K (npc, lv, st, w1))) : sp (cpL w o lo sp' q lq dp n f) (PP E M K (pc, lv, .int n :: .int dp :: .ref q :: .int sp' :: .ref o :: st, w)) := by
  have h3 : zobj w o 101 = false := by
    cases h : zobj w o 101 with
    | false => rfl
    | true =>
      have g1 := (zobj_iff h).2
      rw [h1.2] at g1
      cases g1
  exact sp_ite (fun hc => s_step ho (by
    show (if (st.map fun v => v.category).sum ≤ 8 ∧ _ then _ else _) = _
    rw [if_pos ⟨hs, hc.1, hc.2.1, hc.2.2.1, by rw [h1.2]; exact hc.2.2.2.1, by rw [h2.2]; exact hc.2.2.2.2⟩, if_neg (by rw [h3]; exact fun q => by cases q.1), if_pos ⟨h1.ob hT, h2.ob hT⟩]) (k _ (hT.rL _ _))) (fun _ => sp_none)
theorem s_call {n b : Nat} {v : Int32} {β : Type} {cv : β → Option Value} {mm : Option (β × Wd)} {f : β → Wd → Option (α × Wd)} (as rest : List Value) (ho : opAt (mCode M) pc = some ((39, n, b, v), npc)) (hst : st = as.reverse ++ rest) (hs : (rest.map fun v => v.category).sum ≤ 8) (hE : sp mm (fun r w1 => TY w1 ∧ E n as w (cv r) w1))
    (k : ∀ r w1, TY w1 → sp (f r w1) (PP E M K (npc, lv, (cv r).toList ++ rest, w1))) : sp (cl mm f) (PP E M K (pc, lv, st, w)) := by
  cases hm : mm with
  | none => exact sp_none
  | some q =>
    obtain ⟨r, w1⟩ := q
    obtain ⟨g1, g2⟩ := hE r w1 hm
    exact s_zst (Or.inl ⟨_, npc, ho, Or.inr ⟨rfl, as, rest, cv r, w1, hst, g2, hs, rfl⟩⟩) (k r w1 g1)
theorem s_ret {a b c d : Nat} {v : Int32} {o : α} {R0 : Option Value} (ho : opAt (mCode M) pc = some ((a, b, c, v), npc)) (hf : zfin M (a, b, c, v) st = some R0) (hT : TY w) (hK : ∀ R W, K o w R W → R = R0 ∧ W = w) : sp (some (o, w)) (PP E M K (pc, lv, st, w)) :=
  sp_some ⟨hT, fun R W h => by obtain ⟨e1, e2⟩ := hK R W h; subst e1; subst e2; exact ⟨0, _, _, _, rfl, ho, hf, rfl⟩⟩
theorem s_retZ {b c : Nat} {v : Int32} {o : α} {z : Bool} (ho : opAt (mCode M) pc = some ((42, b, c, v), npc)) (hM : mRet M = 2) (hT : TY w) (hK : ∀ R W, K o w R W → R = some (.int (bi z)) ∧ W = w) : sp (some (o, w)) (PP E M K (pc, lv, [.int (bi z)], w)) :=
  s_ret (d := 0) ho (by show (if mRet M = 1 ∨ mRet M = 2 ∧ (bi z = 0 ∨ bi z = 1) then _ else _) = _; rw [if_pos (Or.inr ⟨hM, by cases z; exact Or.inl rfl; exact Or.inr rfl⟩)]) hT hK
theorem s_retI {b c : Nat} {v x : Int32} {o : α} (ho : opAt (mCode M) pc = some ((42, b, c, v), npc)) (hM : mRet M = 1) (hT : TY w) (hK : ∀ R W, K o w R W → R = some (.int x) ∧ W = w) : sp (some (o, w)) (PP E M K (pc, lv, [.int x], w)) :=
  s_ret (d := 0) ho (by show (if mRet M = 1 ∨ _ then _ else _) = _; rw [if_pos (Or.inl hM)]) hT hK
theorem s_retL {b c : Nat} {v : Int32} {x : Int64} {o : α} (ho : opAt (mCode M) pc = some ((43, b, c, v), npc)) (hM : mRet M = 3) (hT : TY w) (hK : ∀ R W, K o w R W → R = some (.long x) ∧ W = w) : sp (some (o, w)) (PP E M K (pc, lv, [.long x], w)) :=
  s_ret (d := 0) ho (by show (if mRet M = 3 then _ else _) = _; rw [if_pos hM]) hT hK
theorem s_retV {b c : Nat} {v : Int32} {o : α} (ho : opAt (mCode M) pc = some ((41, b, c, v), npc)) (hM : mRet M = 0) (hT : TY w) (hK : ∀ R W, K o w R W → R = none ∧ W = w) : sp (some (o, w)) (PP E M K (pc, lv, [], w)) :=
  s_ret (d := 0) ho (by show (if mRet M = 0 then _ else _) = _; rw [if_pos hM]) hT hK
theorem s_retR {b c : Nat} {v : Int32} {x : Option Nat} {o : α} (ho : opAt (mCode M) pc = some ((44, b, c, v), npc)) (hM : mRet M = 4) (hT : TY w) (hK : ∀ R W, K o w R W → R = some (va_rf x) ∧ W = w) : sp (some (o, w)) (PP E M K (pc, lv, [va_rf x], w)) := by
  have h : zfin M (44, b, c, v) [va_rf x] = some (some (va_rf x)) := by
    cases x with
    | none => show (if mRet M = 4 then _ else _) = _; rw [if_pos hM]; rfl
    | some q => show (if mRet M = 4 then _ else _) = _; rw [if_pos hM]; rfl
  exact s_ret (d := 0) ho h hT hK
theorem s_back {S : Type} {h : Nat} {lvL : S → List (Nat × Value)} {s' : S} {o : α} (hs : subl (lvL s') lv) (hT : TY w) (hK : ∀ R W, K o w R W → Zfn E M (h, lvL s', [], w) R W) : sp (some (o, w)) (PP E M K (h, lv, [], w)) :=
  s_fgt (lvL s') hs (sp_some ⟨hT, hK⟩)
theorem s_loop {S : Type} {h n : Nat} {s0 : S} {body : S → Wd → Option ((S ⊕ α) × Wd)} (lvL : S → List (Nat × Value)) (hs : subl (lvL s0) lv) (hT : TY w) (hb : ∀ s w, TY w → sp (body s w) (PP E M (KL E M h lvL K) (h, lvL s, [], w))) : sp (itM body n s0 w) (PP E M K (h, lv, [], w)) := by
  refine s_fgt (lvL s0) hs ?_
  have key : ∀ (n : Nat) (s0 : S) (w : Wd), TY w → sp (itM body n s0 w) (PP E M K (h, lvL s0, [], w)) := by
    intro n
    induction n with
    | zero => intro s0 w hT; exact sp_none
    | succ n ih =>
      intro s0 w hT
      have h1 := hb s0 w hT
      unfold itM
      cases hbd : body s0 w with
      | none => exact sp_none
      | some q =>
        obtain ⟨o, w1⟩ := q
        obtain ⟨g1, g2⟩ := h1 o w1 hbd
        cases o with
        | inl s1 =>
          intro r w' e
          obtain ⟨g3, g4⟩ := ih s1 w1 g1 r w' e
          exact ⟨g3, fun R W hk => g2 R W (g4 R W hk)⟩
        | inr r1 => exact sp_some ⟨g1, fun R W hk => g2 R W hk⟩
  exact key n s0 w hT
theorem s_jn {A : Type} {J : A → Wd → Option (α × Wd)} {f : (A → Wd → Option (α × Wd)) → Option (α × Wd)} {P : α → Wd → Prop} (PJ : A → Wd → α → Wd → Prop) (hJ : ∀ a w, TY w → sp (J a w) (PJ a w)) (hf : ∀ j : A → Wd → Option (α × Wd), (∀ a w, TY w → sp (j a w) (PJ a w)) → sp (f j) P) : sp (jn J f) P := hf J hJ
theorem s_swt {x : Int32} {f : Nat → Option (α × Wd)} {g : Option (α × Wd)} {n : Nat} {P : α → Wd → Prop} (h1 : ∀ i, i < n → 0 ≤ x → ix x = i → sp (f i) P) (h2 : ¬ (0 ≤ x ∧ ix x < n) → sp g P) : sp (swt x f g n) P :=
  sp_ite (fun h => h1 _ h.2 h.1 rfl) h2
/-- conditions -/
theorem zc_eq1 {x y : Int32} (h : x = y) : zcnd 0 x y = true := decide_eq_true h
theorem zc_eq0 {x y : Int32} (h : ¬ x = y) : zcnd 0 x y = false := decide_eq_false h
theorem zc_ne1 {x y : Int32} (h : ¬ x = y) : zcnd 1 x y = true := by show (!decide (x = y)) = true; rw [decide_eq_false h]; rfl
theorem zc_ne0 {x y : Int32} (h : x = y) : zcnd 1 x y = false := by show (!decide (x = y)) = false; rw [decide_eq_true h]; rfl
theorem zc_lt1 {x y : Int32} (h : ¬ y ≤ x) : zcnd 2 x y = true := decide_eq_true (Int32.not_le.mp h)
theorem zc_lt0 {x y : Int32} (h : y ≤ x) : zcnd 2 x y = false := decide_eq_false (Int32.not_lt.mpr h)
theorem zc_ge1 {x y : Int32} (h : ¬ x < y) : zcnd 3 x y = true := decide_eq_true (Int32.not_lt.mp h)
theorem zc_ge0 {x y : Int32} (h : x < y) : zcnd 3 x y = false := decide_eq_false (Int32.not_le.mpr h)
theorem zc_gt1 {x y : Int32} (h : ¬ x ≤ y) : zcnd 4 x y = true := decide_eq_true (Int32.not_le.mp h)
theorem zc_gt0 {x y : Int32} (h : x ≤ y) : zcnd 4 x y = false := decide_eq_false (Int32.not_lt.mpr h)
theorem zc_le1 {x y : Int32} (h : ¬ y < x) : zcnd 5 x y = true := decide_eq_true (Int32.not_lt.mp h)
theorem zc_le0 {x y : Int32} (h : y < x) : zcnd 5 x y = false := decide_eq_false (Int32.not_le.mpr h)
theorem zb_eq1 {b : Bool} (h : ¬ b = true) : zcnd 0 (bi b) 0 = true := by cases b; rfl; exact absurd rfl h
theorem zb_eq0 {b : Bool} (h : b = true) : zcnd 0 (bi b) 0 = false := by subst h; rfl
theorem zb_ne1 {b : Bool} (h : b = true) : zcnd 1 (bi b) 0 = true := by subst h; rfl
theorem zb_ne0 {b : Bool} (h : ¬ b = true) : zcnd 1 (bi b) 0 = false := by cases b; rfl; exact absurd rfl h
theorem lg0 {x y : Int64} : lg_cmp x y = 0 ↔ x = y := by
  unfold lg_cmp
  constructor
  · intro h
    split at h
    · cases h
    · split at h
      · assumption
      · cases h
  · intro h
    subst h
    rw [if_neg (Int64.lt_irrefl), if_pos rfl]
theorem zl_eq1 {x y : Int64} (h : x = y) : zcnd 0 (lg_cmp x y) 0 = true := decide_eq_true (lg0.mpr h)
theorem zl_eq0 {x y : Int64} (h : ¬ x = y) : zcnd 0 (lg_cmp x y) 0 = false := decide_eq_false (fun q => h (lg0.mp q))
theorem zl_ne1 {x y : Int64} (h : ¬ x = y) : zcnd 1 (lg_cmp x y) 0 = true := zc_ne1 (fun q => h (lg0.mp q))
theorem zl_ne0 {x y : Int64} (h : x = y) : zcnd 1 (lg_cmp x y) 0 = false := zc_ne0 (lg0.mpr h)
/-- a method's doing, from its program -/
theorem ev_of {d n : Nat} {as : List Value} {cv : α → Option Value} (hM : M ∈ zMs) (hn : mNum M = n) (hz : ¬ n = 0) (hl : as.length = mArg M) (hc : (as.map fun v => v.category).sum ≤ mLoc M) (hr : zsta.contains n = true ∨ ∃ (o : Nat) (as' : List Value), as = .ref o :: as' ∧ ist o (mCls M)) (hT : TY w)
    (h : sp m (PP (Ev d) M (KR cv) (0, lv_args 0 as, [], w))) : sp m (fun r w' => TY w' ∧ Ev (d + 1) n as w (cv r) w') := fun r w' e => by
  obtain ⟨g1, g2⟩ := h r w' e
  refine ⟨g1, M, hM, hn, hz, hl, hc, ?_, g2 _ _ ⟨rfl, rfl⟩⟩
  rcases hr with q | ⟨o, as', q1, q2⟩
  · exact Or.inl q
  · exact Or.inr ⟨o, as', q1, zob hT q2⟩
end RUN
end
