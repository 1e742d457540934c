/-- a private method of a class that the tables say can be made, by its rows of tables_1 -/
def lw_okq (q : MethodName × Nat) : Prop := (q.1.cls ≠ "java/lang/invoke/MethodHandle" ∧ q.1.cls ≠ "java/lang/invoke/VarHandle") ∧ Cond.instantiable q.1.cls q.2 ∈ tables_1 ∧ Cond.privateMethod q.1 ∈ tables_1 ∧ Cond.instanceMethod q.1 ∈ tables_1
theorem lw_p0 : lw_okq (⟨"FlungFingers$Rule", "addWay", "(II)V"⟩, 8) := ⟨⟨by decide +kernel, by decide +kernel⟩, List.mem_of_getElem? (i := 28) (by decide +kernel), List.mem_of_getElem? (i := 38) (by decide +kernel), List.mem_of_getElem? (i := 39) (by decide +kernel)⟩
theorem lw_p1 : lw_okq (⟨"FlungFingers$Big", "trim", "()V"⟩, 2) := ⟨⟨by decide +kernel, by decide +kernel⟩, List.mem_of_getElem? (i := 127) (by decide +kernel), List.mem_of_getElem? (i := 147) (by decide +kernel), List.mem_of_getElem? (i := 148) (by decide +kernel)⟩
theorem lw_p2 : lw_okq (⟨"FlungFingers$Game", "lay", "()V"⟩, 9) := ⟨⟨by decide +kernel, by decide +kernel⟩, List.mem_of_getElem? (i := 82) (by decide +kernel), List.mem_of_getElem? (i := 513) (by decide +kernel), List.mem_of_getElem? (i := 514) (by decide +kernel)⟩
theorem lw_p3 : lw_okq (⟨"FlungFingers$Game", "findColumn", "()I"⟩, 9) := ⟨⟨by decide +kernel, by decide +kernel⟩, List.mem_of_getElem? (i := 82) (by decide +kernel), List.mem_of_getElem? (i := 527) (by decide +kernel), List.mem_of_getElem? (i := 528) (by decide +kernel)⟩
theorem lw_p4 : lw_okq (⟨"FlungFingers$Game", "findRow", "(I)I"⟩, 9) := ⟨⟨by decide +kernel, by decide +kernel⟩, List.mem_of_getElem? (i := 82) (by decide +kernel), List.mem_of_getElem? (i := 531) (by decide +kernel), List.mem_of_getElem? (i := 532) (by decide +kernel)⟩
theorem lw_p5 : lw_okq (⟨"FlungFingers$Game", "goesBefore", "(III)Z"⟩, 9) := ⟨⟨by decide +kernel, by decide +kernel⟩, List.mem_of_getElem? (i := 82) (by decide +kernel), List.mem_of_getElem? (i := 535) (by decide +kernel), List.mem_of_getElem? (i := 536) (by decide +kernel)⟩
theorem lw_p6 : lw_okq (⟨"FlungFingers$Game", "bringIn", "(II)V"⟩, 9) := ⟨⟨by decide +kernel, by decide +kernel⟩, List.mem_of_getElem? (i := 82) (by decide +kernel), List.mem_of_getElem? (i := 539) (by decide +kernel), List.mem_of_getElem? (i := 540) (by decide +kernel)⟩
theorem lw_p7 : lw_okq (⟨"FlungFingers$Game", "changeRow", "(IIIJ)V"⟩, 9) := ⟨⟨by decide +kernel, by decide +kernel⟩, List.mem_of_getElem? (i := 82) (by decide +kernel), List.mem_of_getElem? (i := 543) (by decide +kernel), List.mem_of_getElem? (i := 544) (by decide +kernel)⟩
theorem lw_p8 : lw_okq (⟨"FlungFingers$Game", "readSecond", "()V"⟩, 9) := ⟨⟨by decide +kernel, by decide +kernel⟩, List.mem_of_getElem? (i := 82) (by decide +kernel), List.mem_of_getElem? (i := 550) (by decide +kernel), List.mem_of_getElem? (i := 551) (by decide +kernel)⟩
theorem lw_p9 : lw_okq (⟨"FlungFingers$Big", "push", "(J)V"⟩, 2) := ⟨⟨by decide +kernel, by decide +kernel⟩, List.mem_of_getElem? (i := 127) (by decide +kernel), List.mem_of_getElem? (i := 633) (by decide +kernel), List.mem_of_getElem? (i := 634) (by decide +kernel)⟩
theorem lw_p10 : lw_okq (⟨"FlungFingers$Big", "addBit", "(I)V"⟩, 2) := ⟨⟨by decide +kernel, by decide +kernel⟩, List.mem_of_getElem? (i := 127) (by decide +kernel), List.mem_of_getElem? (i := 648) (by decide +kernel), List.mem_of_getElem? (i := 649) (by decide +kernel)⟩
theorem lw_p11 : lw_okq (⟨"FlungFingers$Match", "findHit", "()V"⟩, 7) := ⟨⟨by decide +kernel, by decide +kernel⟩, List.mem_of_getElem? (i := 168) (by decide +kernel), List.mem_of_getElem? (i := 680) (by decide +kernel), List.mem_of_getElem? (i := 681) (by decide +kernel)⟩
theorem lw_p12 : lw_okq (⟨"FlungFingers$Match", "play", "(II)V"⟩, 7) := ⟨⟨by decide +kernel, by decide +kernel⟩, List.mem_of_getElem? (i := 168) (by decide +kernel), List.mem_of_getElem? (i := 688) (by decide +kernel), List.mem_of_getElem? (i := 689) (by decide +kernel)⟩
theorem lw_p13 : lw_okq (⟨"FlungFingers$Match", "isEven", "(III)Z"⟩, 7) := ⟨⟨by decide +kernel, by decide +kernel⟩, List.mem_of_getElem? (i := 168) (by decide +kernel), List.mem_of_getElem? (i := 702) (by decide +kernel), List.mem_of_getElem? (i := 703) (by decide +kernel)⟩
theorem lw_p14 : lw_okq (⟨"FlungFingers$Men", "contextCount", "(I)I"⟩, 7) := ⟨⟨by decide +kernel, by decide +kernel⟩, List.mem_of_getElem? (i := 199) (by decide +kernel), List.mem_of_getElem? (i := 744) (by decide +kernel), List.mem_of_getElem? (i := 745) (by decide +kernel)⟩
theorem lw_p15 : lw_okq (⟨"FlungFingers$Fraction", "findCommon", "()V"⟩, 5) := ⟨⟨by decide +kernel, by decide +kernel⟩, List.mem_of_getElem? (i := 121) (by decide +kernel), List.mem_of_getElem? (i := 812) (by decide +kernel), List.mem_of_getElem? (i := 813) (by decide +kernel)⟩
def lw_privs_1 : List (MethodName × Nat) := [(⟨"FlungFingers$Rule", "addWay", "(II)V"⟩, 8), (⟨"FlungFingers$Big", "trim", "()V"⟩, 2), (⟨"FlungFingers$Game", "lay", "()V"⟩, 9), (⟨"FlungFingers$Game", "findColumn", "()I"⟩, 9), (⟨"FlungFingers$Game", "findRow", "(I)I"⟩, 9), (⟨"FlungFingers$Game", "goesBefore", "(III)Z"⟩, 9), (⟨"FlungFingers$Game", "bringIn", "(II)V"⟩, 9), (⟨"FlungFingers$Game", "changeRow", "(IIIJ)V"⟩, 9), (⟨"FlungFingers$Game", "readSecond", "()V"⟩, 9), (⟨"FlungFingers$Big", "push", "(J)V"⟩, 2), (⟨"FlungFingers$Big", "addBit", "(I)V"⟩, 2), (⟨"FlungFingers$Match", "findHit", "()V"⟩, 7), (⟨"FlungFingers$Match", "play", "(II)V"⟩, 7), (⟨"FlungFingers$Match", "isEven", "(III)Z"⟩, 7), (⟨"FlungFingers$Men", "contextCount", "(I)I"⟩, 7), (⟨"FlungFingers$Fraction", "findCommon", "()V"⟩, 5)]
theorem lw_r1 : ∀ q ∈ lw_privs_1, lw_okq q := List.forall_mem_cons.mpr ⟨lw_p0, List.forall_mem_cons.mpr ⟨lw_p1, List.forall_mem_cons.mpr ⟨lw_p2, List.forall_mem_cons.mpr ⟨lw_p3, List.forall_mem_cons.mpr ⟨lw_p4, List.forall_mem_cons.mpr ⟨lw_p5, List.forall_mem_cons.mpr ⟨lw_p6, List.forall_mem_cons.mpr ⟨lw_p7, List.forall_mem_cons.mpr ⟨lw_p8, List.forall_mem_cons.mpr ⟨lw_p9, List.forall_mem_cons.mpr ⟨lw_p10, List.forall_mem_cons.mpr ⟨lw_p11, List.forall_mem_cons.mpr ⟨lw_p12, List.forall_mem_cons.mpr ⟨lw_p13, List.forall_mem_cons.mpr ⟨lw_p14, List.forall_mem_cons.mpr ⟨lw_p15, fun _ h => absurd h List.not_mem_nil⟩⟩⟩⟩⟩⟩⟩⟩⟩⟩⟩⟩⟩⟩⟩⟩
theorem lw_p16 : lw_okq (⟨"FlungFingers$Men", "listToldBehind", "(IIII)I"⟩, 7) := ⟨⟨by decide +kernel, by decide +kernel⟩, List.mem_of_getElem? (i := 199) (by decide +kernel), List.mem_of_getElem? (i := 828) (by decide +kernel), List.mem_of_getElem? (i := 829) (by decide +kernel)⟩
theorem lw_p17 : lw_okq (⟨"FlungFingers", "findReply", "(II)I"⟩, 10) := ⟨⟨by decide +kernel, by decide +kernel⟩, List.mem_of_getElem? (i := 20) (by decide +kernel), List.mem_of_getElem? (i := 862) (by decide +kernel), List.mem_of_getElem? (i := 863) (by decide +kernel)⟩
theorem lw_p18 : lw_okq (⟨"FlungFingers$Reply", "weigh", "(LFlungFingers$Men;)V"⟩, 17) := ⟨⟨by decide +kernel, by decide +kernel⟩, List.mem_of_getElem? (i := 251) (by decide +kernel), List.mem_of_getElem? (i := 872) (by decide +kernel), List.mem_of_getElem? (i := 873) (by decide +kernel)⟩
theorem lw_p19 : lw_okq (⟨"FlungFingers$Reply", "stretch", "(II)V"⟩, 17) := ⟨⟨by decide +kernel, by decide +kernel⟩, List.mem_of_getElem? (i := 251) (by decide +kernel), List.mem_of_getElem? (i := 881) (by decide +kernel), List.mem_of_getElem? (i := 882) (by decide +kernel)⟩
theorem lw_p20 : lw_okq (⟨"FlungFingers$Reply", "keepIfBetter", "(IJ)V"⟩, 17) := ⟨⟨by decide +kernel, by decide +kernel⟩, List.mem_of_getElem? (i := 251) (by decide +kernel), List.mem_of_getElem? (i := 887) (by decide +kernel), List.mem_of_getElem? (i := 888) (by decide +kernel)⟩
theorem lw_p21 : lw_okq (⟨"FlungFingers$Reply", "becomeProduct", "(LFlungFingers$Big;JJ)V"⟩, 17) := ⟨⟨by decide +kernel, by decide +kernel⟩, List.mem_of_getElem? (i := 251) (by decide +kernel), List.mem_of_getElem? (i := 891) (by decide +kernel), List.mem_of_getElem? (i := 892) (by decide +kernel)⟩
theorem lw_p22 : lw_okq (⟨"FlungFingers$Slate", "fillRound", "(I)V"⟩, 9) := ⟨⟨by decide +kernel, by decide +kernel⟩, List.mem_of_getElem? (i := 313) (by decide +kernel), List.mem_of_getElem? (i := 963) (by decide +kernel), List.mem_of_getElem? (i := 964) (by decide +kernel)⟩
theorem lw_p23 : lw_okq (⟨"FlungFingers$Slate", "toldBy", "(II)I"⟩, 9) := ⟨⟨by decide +kernel, by decide +kernel⟩, List.mem_of_getElem? (i := 313) (by decide +kernel), List.mem_of_getElem? (i := 967) (by decide +kernel), List.mem_of_getElem? (i := 968) (by decide +kernel)⟩
theorem lw_p24 : lw_okq (⟨"FlungFingers$Slate", "fillFrom", "(IIII)V"⟩, 9) := ⟨⟨by decide +kernel, by decide +kernel⟩, List.mem_of_getElem? (i := 313) (by decide +kernel), List.mem_of_getElem? (i := 972) (by decide +kernel), List.mem_of_getElem? (i := 973) (by decide +kernel)⟩
theorem lw_p25 : lw_okq (⟨"FlungFingers$Slate", "addFills", "(IJ)V"⟩, 9) := ⟨⟨by decide +kernel, by decide +kernel⟩, List.mem_of_getElem? (i := 313) (by decide +kernel), List.mem_of_getElem? (i := 976) (by decide +kernel), List.mem_of_getElem? (i := 977) (by decide +kernel)⟩
theorem lw_p26 : lw_okq (⟨"FlungFingers$Slate", "mostScore", "()I"⟩, 9) := ⟨⟨by decide +kernel, by decide +kernel⟩, List.mem_of_getElem? (i := 313) (by decide +kernel), List.mem_of_getElem? (i := 981) (by decide +kernel), List.mem_of_getElem? (i := 982) (by decide +kernel)⟩
theorem lw_p27 : lw_okq (⟨"FlungFingers$Slate", "leastScore", "()I"⟩, 9) := ⟨⟨by decide +kernel, by decide +kernel⟩, List.mem_of_getElem? (i := 313) (by decide +kernel), List.mem_of_getElem? (i := 985) (by decide +kernel), List.mem_of_getElem? (i := 986) (by decide +kernel)⟩
theorem lw_p28 : lw_okq (⟨"FlungFingers$Slate", "reachRound", "(I)Z"⟩, 9) := ⟨⟨by decide +kernel, by decide +kernel⟩, List.mem_of_getElem? (i := 313) (by decide +kernel), List.mem_of_getElem? (i := 1003) (by decide +kernel), List.mem_of_getElem? (i := 1004) (by decide +kernel)⟩
theorem lw_p29 : lw_okq (⟨"FlungFingers$Slate", "playedFrom", "(II)I"⟩, 9) := ⟨⟨by decide +kernel, by decide +kernel⟩, List.mem_of_getElem? (i := 313) (by decide +kernel), List.mem_of_getElem? (i := 1007) (by decide +kernel), List.mem_of_getElem? (i := 1008) (by decide +kernel)⟩
theorem lw_p30 : lw_okq (⟨"FlungFingers$Slate", "reachFrom", "(II)V"⟩, 9) := ⟨⟨by decide +kernel, by decide +kernel⟩, List.mem_of_getElem? (i := 313) (by decide +kernel), List.mem_of_getElem? (i := 1011) (by decide +kernel), List.mem_of_getElem? (i := 1012) (by decide +kernel)⟩
theorem lw_p31 : lw_okq (⟨"FlungFingers$Slate", "keepWithFollowers", "(I)V"⟩, 9) := ⟨⟨by decide +kernel, by decide +kernel⟩, List.mem_of_getElem? (i := 313) (by decide +kernel), List.mem_of_getElem? (i := 1015) (by decide +kernel), List.mem_of_getElem? (i := 1016) (by decide +kernel)⟩
def lw_privs_2 : List (MethodName × Nat) := [(⟨"FlungFingers$Men", "listToldBehind", "(IIII)I"⟩, 7), (⟨"FlungFingers", "findReply", "(II)I"⟩, 10), (⟨"FlungFingers$Reply", "weigh", "(LFlungFingers$Men;)V"⟩, 17), (⟨"FlungFingers$Reply", "stretch", "(II)V"⟩, 17), (⟨"FlungFingers$Reply", "keepIfBetter", "(IJ)V"⟩, 17), (⟨"FlungFingers$Reply", "becomeProduct", "(LFlungFingers$Big;JJ)V"⟩, 17), (⟨"FlungFingers$Slate", "fillRound", "(I)V"⟩, 9), (⟨"FlungFingers$Slate", "toldBy", "(II)I"⟩, 9), (⟨"FlungFingers$Slate", "fillFrom", "(IIII)V"⟩, 9), (⟨"FlungFingers$Slate", "addFills", "(IJ)V"⟩, 9), (⟨"FlungFingers$Slate", "mostScore", "()I"⟩, 9), (⟨"FlungFingers$Slate", "leastScore", "()I"⟩, 9), (⟨"FlungFingers$Slate", "reachRound", "(I)Z"⟩, 9), (⟨"FlungFingers$Slate", "playedFrom", "(II)I"⟩, 9), (⟨"FlungFingers$Slate", "reachFrom", "(II)V"⟩, 9), (⟨"FlungFingers$Slate", "keepWithFollowers", "(I)V"⟩, 9)]
theorem lw_r2 : ∀ q ∈ lw_privs_2, lw_okq q := List.forall_mem_cons.mpr ⟨lw_p16, List.forall_mem_cons.mpr ⟨lw_p17, List.forall_mem_cons.mpr ⟨lw_p18, List.forall_mem_cons.mpr ⟨lw_p19, List.forall_mem_cons.mpr ⟨lw_p20, List.forall_mem_cons.mpr ⟨lw_p21, List.forall_mem_cons.mpr ⟨lw_p22, List.forall_mem_cons.mpr ⟨lw_p23, List.forall_mem_cons.mpr ⟨lw_p24, List.forall_mem_cons.mpr ⟨lw_p25, List.forall_mem_cons.mpr ⟨lw_p26, List.forall_mem_cons.mpr ⟨lw_p27, List.forall_mem_cons.mpr ⟨lw_p28, List.forall_mem_cons.mpr ⟨lw_p29, List.forall_mem_cons.mpr ⟨lw_p30, List.forall_mem_cons.mpr ⟨lw_p31, fun _ h => absurd h List.not_mem_nil⟩⟩⟩⟩⟩⟩⟩⟩⟩⟩⟩⟩⟩⟩⟩⟩
theorem lw_p32 : lw_okq (⟨"FlungFingers$Slate", "followedFrom", "(I)I"⟩, 9) := ⟨⟨by decide +kernel, by decide +kernel⟩, List.mem_of_getElem? (i := 313) (by decide +kernel), List.mem_of_getElem? (i := 1019) (by decide +kernel), List.mem_of_getElem? (i := 1020) (by decide +kernel)⟩
theorem lw_p33 : lw_okq (⟨"FlungFingers$League", "isFirst", "(II)Z"⟩, 9) := ⟨⟨by decide +kernel, by decide +kernel⟩, List.mem_of_getElem? (i := 379) (by decide +kernel), List.mem_of_getElem? (i := 1128) (by decide +kernel), List.mem_of_getElem? (i := 1129) (by decide +kernel)⟩
theorem lw_p34 : lw_okq (⟨"FlungFingers$League", "isBeaten", "(II)Z"⟩, 9) := ⟨⟨by decide +kernel, by decide +kernel⟩, List.mem_of_getElem? (i := 379) (by decide +kernel), List.mem_of_getElem? (i := 1132) (by decide +kernel), List.mem_of_getElem? (i := 1133) (by decide +kernel)⟩
theorem lw_p35 : lw_okq (⟨"FlungFingersModel", "set", "(IJ)V"⟩, 45) := ⟨⟨by decide +kernel, by decide +kernel⟩, List.mem_of_getElem? (i := 1175) (by decide +kernel), List.mem_of_getElem? (i := 1183) (by decide +kernel), List.mem_of_getElem? (i := 1184) (by decide +kernel)⟩
theorem lw_p36 : lw_okq (⟨"FlungFingersModel", "layRule", "(IIII)V"⟩, 45) := ⟨⟨by decide +kernel, by decide +kernel⟩, List.mem_of_getElem? (i := 1175) (by decide +kernel), List.mem_of_getElem? (i := 1188) (by decide +kernel), List.mem_of_getElem? (i := 1189) (by decide +kernel)⟩
theorem lw_p37 : lw_okq (⟨"FlungFingersModel", "payOf", "(II)I"⟩, 45) := ⟨⟨by decide +kernel, by decide +kernel⟩, List.mem_of_getElem? (i := 1175) (by decide +kernel), List.mem_of_getElem? (i := 1192) (by decide +kernel), List.mem_of_getElem? (i := 1193) (by decide +kernel)⟩
theorem lw_p38 : lw_okq (⟨"FlungFingersModel", "throwOf", "(I)I"⟩, 45) := ⟨⟨by decide +kernel, by decide +kernel⟩, List.mem_of_getElem? (i := 1175) (by decide +kernel), List.mem_of_getElem? (i := 1196) (by decide +kernel), List.mem_of_getElem? (i := 1197) (by decide +kernel)⟩
theorem lw_p39 : lw_okq (⟨"FlungFingersModel", "callOf", "(I)I"⟩, 45) := ⟨⟨by decide +kernel, by decide +kernel⟩, List.mem_of_getElem? (i := 1175) (by decide +kernel), List.mem_of_getElem? (i := 1200) (by decide +kernel), List.mem_of_getElem? (i := 1201) (by decide +kernel)⟩
theorem lw_p40 : lw_okq (⟨"FlungFingersModel", "work", "()V"⟩, 45) := ⟨⟨by decide +kernel, by decide +kernel⟩, List.mem_of_getElem? (i := 1175) (by decide +kernel), List.mem_of_getElem? (i := 1204) (by decide +kernel), List.mem_of_getElem? (i := 1205) (by decide +kernel)⟩
theorem lw_p41 : lw_okq (⟨"FlungFingersModel", "layTable", "()V"⟩, 45) := ⟨⟨by decide +kernel, by decide +kernel⟩, List.mem_of_getElem? (i := 1175) (by decide +kernel), List.mem_of_getElem? (i := 1208) (by decide +kernel), List.mem_of_getElem? (i := 1209) (by decide +kernel)⟩
theorem lw_p42 : lw_okq (⟨"FlungFingersModel", "end", "()I"⟩, 45) := ⟨⟨by decide +kernel, by decide +kernel⟩, List.mem_of_getElem? (i := 1175) (by decide +kernel), List.mem_of_getElem? (i := 1212) (by decide +kernel), List.mem_of_getElem? (i := 1213) (by decide +kernel)⟩
theorem lw_p43 : lw_okq (⟨"FlungFingersModel", "cellAt", "(II)I"⟩, 45) := ⟨⟨by decide +kernel, by decide +kernel⟩, List.mem_of_getElem? (i := 1175) (by decide +kernel), List.mem_of_getElem? (i := 1217) (by decide +kernel), List.mem_of_getElem? (i := 1218) (by decide +kernel)⟩
theorem lw_p44 : lw_okq (⟨"FlungFingersModel", "firstBelow", "()I"⟩, 45) := ⟨⟨by decide +kernel, by decide +kernel⟩, List.mem_of_getElem? (i := 1175) (by decide +kernel), List.mem_of_getElem? (i := 1221) (by decide +kernel), List.mem_of_getElem? (i := 1222) (by decide +kernel)⟩
theorem lw_p45 : lw_okq (⟨"FlungFingersModel", "rowFor", "(I)I"⟩, 45) := ⟨⟨by decide +kernel, by decide +kernel⟩, List.mem_of_getElem? (i := 1175) (by decide +kernel), List.mem_of_getElem? (i := 1225) (by decide +kernel), List.mem_of_getElem? (i := 1226) (by decide +kernel)⟩
theorem lw_p46 : lw_okq (⟨"FlungFingersModel", "times", "(III)V"⟩, 45) := ⟨⟨by decide +kernel, by decide +kernel⟩, List.mem_of_getElem? (i := 1175) (by decide +kernel), List.mem_of_getElem? (i := 1229) (by decide +kernel), List.mem_of_getElem? (i := 1230) (by decide +kernel)⟩
theorem lw_p47 : lw_okq (⟨"FlungFingersModel", "trim", "(III)V"⟩, 45) := ⟨⟨by decide +kernel, by decide +kernel⟩, List.mem_of_getElem? (i := 1175) (by decide +kernel), List.mem_of_getElem? (i := 1233) (by decide +kernel), List.mem_of_getElem? (i := 1234) (by decide +kernel)⟩
def lw_privs_3 : List (MethodName × Nat) := [(⟨"FlungFingers$Slate", "followedFrom", "(I)I"⟩, 9), (⟨"FlungFingers$League", "isFirst", "(II)Z"⟩, 9), (⟨"FlungFingers$League", "isBeaten", "(II)Z"⟩, 9), (⟨"FlungFingersModel", "set", "(IJ)V"⟩, 45), (⟨"FlungFingersModel", "layRule", "(IIII)V"⟩, 45), (⟨"FlungFingersModel", "payOf", "(II)I"⟩, 45), (⟨"FlungFingersModel", "throwOf", "(I)I"⟩, 45), (⟨"FlungFingersModel", "callOf", "(I)I"⟩, 45), (⟨"FlungFingersModel", "work", "()V"⟩, 45), (⟨"FlungFingersModel", "layTable", "()V"⟩, 45), (⟨"FlungFingersModel", "end", "()I"⟩, 45), (⟨"FlungFingersModel", "cellAt", "(II)I"⟩, 45), (⟨"FlungFingersModel", "firstBelow", "()I"⟩, 45), (⟨"FlungFingersModel", "rowFor", "(I)I"⟩, 45), (⟨"FlungFingersModel", "times", "(III)V"⟩, 45), (⟨"FlungFingersModel", "trim", "(III)V"⟩, 45)]
theorem lw_r3 : ∀ q ∈ lw_privs_3, lw_okq q := List.forall_mem_cons.mpr ⟨lw_p32, List.forall_mem_cons.mpr ⟨lw_p33, List.forall_mem_cons.mpr ⟨lw_p34, List.forall_mem_cons.mpr ⟨lw_p35, List.forall_mem_cons.mpr ⟨lw_p36, List.forall_mem_cons.mpr ⟨lw_p37, List.forall_mem_cons.mpr ⟨lw_p38, List.forall_mem_cons.mpr ⟨lw_p39, List.forall_mem_cons.mpr ⟨lw_p40, List.forall_mem_cons.mpr ⟨lw_p41, List.forall_mem_cons.mpr ⟨lw_p42, List.forall_mem_cons.mpr ⟨lw_p43, List.forall_mem_cons.mpr ⟨lw_p44, List.forall_mem_cons.mpr ⟨lw_p45, List.forall_mem_cons.mpr ⟨lw_p46, List.forall_mem_cons.mpr ⟨lw_p47, fun _ h => absurd h List.not_mem_nil⟩⟩⟩⟩⟩⟩⟩⟩⟩⟩⟩⟩⟩⟩⟩⟩
theorem lw_p48 : lw_okq (⟨"FlungFingersModel", "compare", "(II)I"⟩, 45) := ⟨⟨by decide +kernel, by decide +kernel⟩, List.mem_of_getElem? (i := 1175) (by decide +kernel), List.mem_of_getElem? (i := 1237) (by decide +kernel), List.mem_of_getElem? (i := 1238) (by decide +kernel)⟩
theorem lw_p49 : lw_okq (⟨"FlungFingersModel", "compareSizes", "(II)I"⟩, 45) := ⟨⟨by decide +kernel, by decide +kernel⟩, List.mem_of_getElem? (i := 1175) (by decide +kernel), List.mem_of_getElem? (i := 1241) (by decide +kernel), List.mem_of_getElem? (i := 1242) (by decide +kernel)⟩
theorem lw_p50 : lw_okq (⟨"FlungFingersModel", "comeIn", "(II)V"⟩, 45) := ⟨⟨by decide +kernel, by decide +kernel⟩, List.mem_of_getElem? (i := 1175) (by decide +kernel), List.mem_of_getElem? (i := 1245) (by decide +kernel), List.mem_of_getElem? (i := 1246) (by decide +kernel)⟩
theorem lw_p51 : lw_okq (⟨"FlungFingersModel", "copy", "(II)V"⟩, 45) := ⟨⟨by decide +kernel, by decide +kernel⟩, List.mem_of_getElem? (i := 1175) (by decide +kernel), List.mem_of_getElem? (i := 1249) (by decide +kernel), List.mem_of_getElem? (i := 1250) (by decide +kernel)⟩
theorem lw_p52 : lw_okq (⟨"FlungFingersModel", "less", "(III)V"⟩, 45) := ⟨⟨by decide +kernel, by decide +kernel⟩, List.mem_of_getElem? (i := 1175) (by decide +kernel), List.mem_of_getElem? (i := 1253) (by decide +kernel), List.mem_of_getElem? (i := 1254) (by decide +kernel)⟩
theorem lw_p53 : lw_okq (⟨"FlungFingersModel", "sum", "(IIII)V"⟩, 45) := ⟨⟨by decide +kernel, by decide +kernel⟩, List.mem_of_getElem? (i := 1175) (by decide +kernel), List.mem_of_getElem? (i := 1257) (by decide +kernel), List.mem_of_getElem? (i := 1258) (by decide +kernel)⟩
theorem lw_p54 : lw_okq (⟨"FlungFingersModel", "joinSizes", "(IIII)V"⟩, 45) := ⟨⟨by decide +kernel, by decide +kernel⟩, List.mem_of_getElem? (i := 1175) (by decide +kernel), List.mem_of_getElem? (i := 1261) (by decide +kernel), List.mem_of_getElem? (i := 1262) (by decide +kernel)⟩
theorem lw_p55 : lw_okq (⟨"FlungFingersModel", "partSizes", "(IIII)V"⟩, 45) := ⟨⟨by decide +kernel, by decide +kernel⟩, List.mem_of_getElem? (i := 1175) (by decide +kernel), List.mem_of_getElem? (i := 1265) (by decide +kernel), List.mem_of_getElem? (i := 1266) (by decide +kernel)⟩
theorem lw_p56 : lw_okq (⟨"FlungFingersModel", "divide", "(IIII)V"⟩, 45) := ⟨⟨by decide +kernel, by decide +kernel⟩, List.mem_of_getElem? (i := 1175) (by decide +kernel), List.mem_of_getElem? (i := 1270) (by decide +kernel), List.mem_of_getElem? (i := 1271) (by decide +kernel)⟩
theorem lw_p57 : lw_okq (⟨"FlungFingersModel", "digit", "(II)J"⟩, 45) := ⟨⟨by decide +kernel, by decide +kernel⟩, List.mem_of_getElem? (i := 1175) (by decide +kernel), List.mem_of_getElem? (i := 1275) (by decide +kernel), List.mem_of_getElem? (i := 1276) (by decide +kernel)⟩
theorem lw_p58 : lw_okq (⟨"FlungFingersModel", "noWay", "(I)Z"⟩, 45) := ⟨⟨by decide +kernel, by decide +kernel⟩, List.mem_of_getElem? (i := 1175) (by decide +kernel), List.mem_of_getElem? (i := 1429) (by decide +kernel), List.mem_of_getElem? (i := 1430) (by decide +kernel)⟩
theorem lw_p59 : lw_okq (⟨"FlungFingersModel", "valueTimes", "(I)V"⟩, 45) := ⟨⟨by decide +kernel, by decide +kernel⟩, List.mem_of_getElem? (i := 1175) (by decide +kernel), List.mem_of_getElem? (i := 1441) (by decide +kernel), List.mem_of_getElem? (i := 1442) (by decide +kernel)⟩
theorem lw_p60 : lw_okq (⟨"FlungFingersModel", "timesSmall", "(IJI)V"⟩, 45) := ⟨⟨by decide +kernel, by decide +kernel⟩, List.mem_of_getElem? (i := 1175) (by decide +kernel), List.mem_of_getElem? (i := 1445) (by decide +kernel), List.mem_of_getElem? (i := 1446) (by decide +kernel)⟩
theorem lw_p61 : lw_okq (⟨"FlungFingersModel", "tell", "(II)V"⟩, 45) := ⟨⟨by decide +kernel, by decide +kernel⟩, List.mem_of_getElem? (i := 1175) (by decide +kernel), List.mem_of_getElem? (i := 1449) (by decide +kernel), List.mem_of_getElem? (i := 1450) (by decide +kernel)⟩
theorem lw_p62 : lw_okq (⟨"FlungFingersModel", "lowest", "(II)V"⟩, 45) := ⟨⟨by decide +kernel, by decide +kernel⟩, List.mem_of_getElem? (i := 1175) (by decide +kernel), List.mem_of_getElem? (i := 1453) (by decide +kernel), List.mem_of_getElem? (i := 1454) (by decide +kernel)⟩
theorem lw_p63 : lw_okq (⟨"FlungFingersModel", "common", "(II)V"⟩, 45) := ⟨⟨by decide +kernel, by decide +kernel⟩, List.mem_of_getElem? (i := 1175) (by decide +kernel), List.mem_of_getElem? (i := 1457) (by decide +kernel), List.mem_of_getElem? (i := 1458) (by decide +kernel)⟩
def lw_privs_4 : List (MethodName × Nat) := [(⟨"FlungFingersModel", "compare", "(II)I"⟩, 45), (⟨"FlungFingersModel", "compareSizes", "(II)I"⟩, 45), (⟨"FlungFingersModel", "comeIn", "(II)V"⟩, 45), (⟨"FlungFingersModel", "copy", "(II)V"⟩, 45), (⟨"FlungFingersModel", "less", "(III)V"⟩, 45), (⟨"FlungFingersModel", "sum", "(IIII)V"⟩, 45), (⟨"FlungFingersModel", "joinSizes", "(IIII)V"⟩, 45), (⟨"FlungFingersModel", "partSizes", "(IIII)V"⟩, 45), (⟨"FlungFingersModel", "divide", "(IIII)V"⟩, 45), (⟨"FlungFingersModel", "digit", "(II)J"⟩, 45), (⟨"FlungFingersModel", "noWay", "(I)Z"⟩, 45), (⟨"FlungFingersModel", "valueTimes", "(I)V"⟩, 45), (⟨"FlungFingersModel", "timesSmall", "(IJI)V"⟩, 45), (⟨"FlungFingersModel", "tell", "(II)V"⟩, 45), (⟨"FlungFingersModel", "lowest", "(II)V"⟩, 45), (⟨"FlungFingersModel", "common", "(II)V"⟩, 45)]
theorem lw_r4 : ∀ q ∈ lw_privs_4, lw_okq q := List.forall_mem_cons.mpr ⟨lw_p48, List.forall_mem_cons.mpr ⟨lw_p49, List.forall_mem_cons.mpr ⟨lw_p50, List.forall_mem_cons.mpr ⟨lw_p51, List.forall_mem_cons.mpr ⟨lw_p52, List.forall_mem_cons.mpr ⟨lw_p53, List.forall_mem_cons.mpr ⟨lw_p54, List.forall_mem_cons.mpr ⟨lw_p55, List.forall_mem_cons.mpr ⟨lw_p56, List.forall_mem_cons.mpr ⟨lw_p57, List.forall_mem_cons.mpr ⟨lw_p58, List.forall_mem_cons.mpr ⟨lw_p59, List.forall_mem_cons.mpr ⟨lw_p60, List.forall_mem_cons.mpr ⟨lw_p61, List.forall_mem_cons.mpr ⟨lw_p62, List.forall_mem_cons.mpr ⟨lw_p63, fun _ h => absurd h List.not_mem_nil⟩⟩⟩⟩⟩⟩⟩⟩⟩⟩⟩⟩⟩⟩⟩⟩
theorem lw_p64 : lw_okq (⟨"FlungFingersModel", "mixTimes", "(III)V"⟩, 45) := ⟨⟨by decide +kernel, by decide +kernel⟩, List.mem_of_getElem? (i := 1175) (by decide +kernel), List.mem_of_getElem? (i := 1465) (by decide +kernel), List.mem_of_getElem? (i := 1466) (by decide +kernel)⟩
theorem lw_p65 : lw_okq (⟨"FlungFingersModel", "bringsTimes", "(III)V"⟩, 45) := ⟨⟨by decide +kernel, by decide +kernel⟩, List.mem_of_getElem? (i := 1175) (by decide +kernel), List.mem_of_getElem? (i := 1473) (by decide +kernel), List.mem_of_getElem? (i := 1474) (by decide +kernel)⟩
theorem lw_p66 : lw_okq (⟨"FlungFingersModel", "add", "(III)V"⟩, 45) := ⟨⟨by decide +kernel, by decide +kernel⟩, List.mem_of_getElem? (i := 1175) (by decide +kernel), List.mem_of_getElem? (i := 1477) (by decide +kernel), List.mem_of_getElem? (i := 1478) (by decide +kernel)⟩
theorem lw_p67 : lw_okq (⟨"FlungFingersModel", "longOf", "(I)J"⟩, 45) := ⟨⟨by decide +kernel, by decide +kernel⟩, List.mem_of_getElem? (i := 1175) (by decide +kernel), List.mem_of_getElem? (i := 1503) (by decide +kernel), List.mem_of_getElem? (i := 1504) (by decide +kernel)⟩
theorem lw_p68 : lw_okq (⟨"FlungFingersModel", "findScore", "()V"⟩, 45) := ⟨⟨by decide +kernel, by decide +kernel⟩, List.mem_of_getElem? (i := 1175) (by decide +kernel), List.mem_of_getElem? (i := 1512) (by decide +kernel), List.mem_of_getElem? (i := 1513) (by decide +kernel)⟩
theorem lw_p69 : lw_okq (⟨"FlungFingersModel", "findChance", "(II)V"⟩, 45) := ⟨⟨by decide +kernel, by decide +kernel⟩, List.mem_of_getElem? (i := 1175) (by decide +kernel), List.mem_of_getElem? (i := 1516) (by decide +kernel), List.mem_of_getElem? (i := 1517) (by decide +kernel)⟩
theorem lw_p70 : lw_okq (⟨"FlungFingersModel", "heldByHalf", "(II)I"⟩, 45) := ⟨⟨by decide +kernel, by decide +kernel⟩, List.mem_of_getElem? (i := 1175) (by decide +kernel), List.mem_of_getElem? (i := 1524) (by decide +kernel), List.mem_of_getElem? (i := 1525) (by decide +kernel)⟩
theorem lw_p71 : lw_okq (⟨"FlungFingersModel", "isThrow", "(I)Z"⟩, 45) := ⟨⟨by decide +kernel, by decide +kernel⟩, List.mem_of_getElem? (i := 1175) (by decide +kernel), List.mem_of_getElem? (i := 1536) (by decide +kernel), List.mem_of_getElem? (i := 1537) (by decide +kernel)⟩
theorem lw_p72 : lw_okq (⟨"FlungFingersModel", "isContext", "(III)Z"⟩, 45) := ⟨⟨by decide +kernel, by decide +kernel⟩, List.mem_of_getElem? (i := 1175) (by decide +kernel), List.mem_of_getElem? (i := 1553) (by decide +kernel), List.mem_of_getElem? (i := 1554) (by decide +kernel)⟩
theorem lw_p73 : lw_okq (⟨"FlungFingersModel", "contexts", "(I)I"⟩, 45) := ⟨⟨by decide +kernel, by decide +kernel⟩, List.mem_of_getElem? (i := 1175) (by decide +kernel), List.mem_of_getElem? (i := 1557) (by decide +kernel), List.mem_of_getElem? (i := 1558) (by decide +kernel)⟩
theorem lw_p74 : lw_okq (⟨"FlungFingersModel", "countBehind", "(III)I"⟩, 45) := ⟨⟨by decide +kernel, by decide +kernel⟩, List.mem_of_getElem? (i := 1175) (by decide +kernel), List.mem_of_getElem? (i := 1561) (by decide +kernel), List.mem_of_getElem? (i := 1562) (by decide +kernel)⟩
theorem lw_p75 : lw_okq (⟨"FlungFingersModel", "contextAt", "(III)I"⟩, 45) := ⟨⟨by decide +kernel, by decide +kernel⟩, List.mem_of_getElem? (i := 1175) (by decide +kernel), List.mem_of_getElem? (i := 1565) (by decide +kernel), List.mem_of_getElem? (i := 1566) (by decide +kernel)⟩
theorem lw_p76 : lw_okq (⟨"FlungFingersModel", "triedOf", "(I)I"⟩, 45) := ⟨⟨by decide +kernel, by decide +kernel⟩, List.mem_of_getElem? (i := 1175) (by decide +kernel), List.mem_of_getElem? (i := 1573) (by decide +kernel), List.mem_of_getElem? (i := 1574) (by decide +kernel)⟩
theorem lw_p77 : lw_okq (⟨"FlungFingersModel", "isTold", "(IIJ)Z"⟩, 45) := ⟨⟨by decide +kernel, by decide +kernel⟩, List.mem_of_getElem? (i := 1175) (by decide +kernel), List.mem_of_getElem? (i := 1581) (by decide +kernel), List.mem_of_getElem? (i := 1582) (by decide +kernel)⟩
theorem lw_p78 : lw_okq (⟨"FlungFingersModel", "findTail", "(II)V"⟩, 45) := ⟨⟨by decide +kernel, by decide +kernel⟩, List.mem_of_getElem? (i := 1175) (by decide +kernel), List.mem_of_getElem? (i := 1585) (by decide +kernel), List.mem_of_getElem? (i := 1586) (by decide +kernel)⟩
theorem lw_p79 : lw_okq (⟨"FlungFingersModel", "isRare", "(J)Z"⟩, 45) := ⟨⟨by decide +kernel, by decide +kernel⟩, List.mem_of_getElem? (i := 1175) (by decide +kernel), List.mem_of_getElem? (i := 1589) (by decide +kernel), List.mem_of_getElem? (i := 1590) (by decide +kernel)⟩
def lw_privs_5 : List (MethodName × Nat) := [(⟨"FlungFingersModel", "mixTimes", "(III)V"⟩, 45), (⟨"FlungFingersModel", "bringsTimes", "(III)V"⟩, 45), (⟨"FlungFingersModel", "add", "(III)V"⟩, 45), (⟨"FlungFingersModel", "longOf", "(I)J"⟩, 45), (⟨"FlungFingersModel", "findScore", "()V"⟩, 45), (⟨"FlungFingersModel", "findChance", "(II)V"⟩, 45), (⟨"FlungFingersModel", "heldByHalf", "(II)I"⟩, 45), (⟨"FlungFingersModel", "isThrow", "(I)Z"⟩, 45), (⟨"FlungFingersModel", "isContext", "(III)Z"⟩, 45), (⟨"FlungFingersModel", "contexts", "(I)I"⟩, 45), (⟨"FlungFingersModel", "countBehind", "(III)I"⟩, 45), (⟨"FlungFingersModel", "contextAt", "(III)I"⟩, 45), (⟨"FlungFingersModel", "triedOf", "(I)I"⟩, 45), (⟨"FlungFingersModel", "isTold", "(IIJ)Z"⟩, 45), (⟨"FlungFingersModel", "findTail", "(II)V"⟩, 45), (⟨"FlungFingersModel", "isRare", "(J)Z"⟩, 45)]
theorem lw_r5 : ∀ q ∈ lw_privs_5, lw_okq q := List.forall_mem_cons.mpr ⟨lw_p64, List.forall_mem_cons.mpr ⟨lw_p65, List.forall_mem_cons.mpr ⟨lw_p66, List.forall_mem_cons.mpr ⟨lw_p67, List.forall_mem_cons.mpr ⟨lw_p68, List.forall_mem_cons.mpr ⟨lw_p69, List.forall_mem_cons.mpr ⟨lw_p70, List.forall_mem_cons.mpr ⟨lw_p71, List.forall_mem_cons.mpr ⟨lw_p72, List.forall_mem_cons.mpr ⟨lw_p73, List.forall_mem_cons.mpr ⟨lw_p74, List.forall_mem_cons.mpr ⟨lw_p75, List.forall_mem_cons.mpr ⟨lw_p76, List.forall_mem_cons.mpr ⟨lw_p77, List.forall_mem_cons.mpr ⟨lw_p78, List.forall_mem_cons.mpr ⟨lw_p79, fun _ h => absurd h List.not_mem_nil⟩⟩⟩⟩⟩⟩⟩⟩⟩⟩⟩⟩⟩⟩⟩⟩
theorem lw_p80 : lw_okq (⟨"FlungFingersModel", "findTold", "(II)I"⟩, 45) := ⟨⟨by decide +kernel, by decide +kernel⟩, List.mem_of_getElem? (i := 1175) (by decide +kernel), List.mem_of_getElem? (i := 1597) (by decide +kernel), List.mem_of_getElem? (i := 1598) (by decide +kernel)⟩
theorem lw_p81 : lw_okq (⟨"FlungFingersModel", "findForeseen", "(I)I"⟩, 45) := ⟨⟨by decide +kernel, by decide +kernel⟩, List.mem_of_getElem? (i := 1175) (by decide +kernel), List.mem_of_getElem? (i := 1609) (by decide +kernel), List.mem_of_getElem? (i := 1610) (by decide +kernel)⟩
theorem lw_p82 : lw_okq (⟨"FlungFingersModel", "isLoss", "(I)Z"⟩, 45) := ⟨⟨by decide +kernel, by decide +kernel⟩, List.mem_of_getElem? (i := 1175) (by decide +kernel), List.mem_of_getElem? (i := 1621) (by decide +kernel), List.mem_of_getElem? (i := 1622) (by decide +kernel)⟩
theorem lw_p83 : lw_okq (⟨"FlungFingersModel", "findAnswer", "(I)I"⟩, 45) := ⟨⟨by decide +kernel, by decide +kernel⟩, List.mem_of_getElem? (i := 1175) (by decide +kernel), List.mem_of_getElem? (i := 1625) (by decide +kernel), List.mem_of_getElem? (i := 1626) (by decide +kernel)⟩
theorem lw_p84 : lw_okq (⟨"FlungFingersModel", "findMeans", "()V"⟩, 45) := ⟨⟨by decide +kernel, by decide +kernel⟩, List.mem_of_getElem? (i := 1175) (by decide +kernel), List.mem_of_getElem? (i := 1629) (by decide +kernel), List.mem_of_getElem? (i := 1630) (by decide +kernel)⟩
theorem lw_p85 : lw_okq (⟨"FlungFingersModel", "findShare", "(II)V"⟩, 45) := ⟨⟨by decide +kernel, by decide +kernel⟩, List.mem_of_getElem? (i := 1175) (by decide +kernel), List.mem_of_getElem? (i := 1633) (by decide +kernel), List.mem_of_getElem? (i := 1634) (by decide +kernel)⟩
theorem lw_p86 : lw_okq (⟨"FlungFingersModel", "mixedTimes", "(III)V"⟩, 45) := ⟨⟨by decide +kernel, by decide +kernel⟩, List.mem_of_getElem? (i := 1175) (by decide +kernel), List.mem_of_getElem? (i := 1642) (by decide +kernel), List.mem_of_getElem? (i := 1643) (by decide +kernel)⟩
theorem lw_p87 : lw_okq (⟨"FlungFingersModel", "findPaths", "()V"⟩, 45) := ⟨⟨by decide +kernel, by decide +kernel⟩, List.mem_of_getElem? (i := 1175) (by decide +kernel), List.mem_of_getElem? (i := 1667) (by decide +kernel), List.mem_of_getElem? (i := 1668) (by decide +kernel)⟩
theorem lw_p88 : lw_okq (⟨"FlungFingersModel", "fits", "(III)Z"⟩, 45) := ⟨⟨by decide +kernel, by decide +kernel⟩, List.mem_of_getElem? (i := 1175) (by decide +kernel), List.mem_of_getElem? (i := 1674) (by decide +kernel), List.mem_of_getElem? (i := 1675) (by decide +kernel)⟩
theorem lw_p89 : lw_okq (⟨"FlungFingersModel", "goes", "(IIII)Z"⟩, 45) := ⟨⟨by decide +kernel, by decide +kernel⟩, List.mem_of_getElem? (i := 1175) (by decide +kernel), List.mem_of_getElem? (i := 1678) (by decide +kernel), List.mem_of_getElem? (i := 1679) (by decide +kernel)⟩
theorem lw_p90 : lw_okq (⟨"FlungFingersModel", "lets", "(I)Z"⟩, 45) := ⟨⟨by decide +kernel, by decide +kernel⟩, List.mem_of_getElem? (i := 1175) (by decide +kernel), List.mem_of_getElem? (i := 1682) (by decide +kernel), List.mem_of_getElem? (i := 1683) (by decide +kernel)⟩
theorem lw_p91 : lw_okq (⟨"FlungFingersModel", "pathsTo", "(I)J"⟩, 45) := ⟨⟨by decide +kernel, by decide +kernel⟩, List.mem_of_getElem? (i := 1175) (by decide +kernel), List.mem_of_getElem? (i := 1690) (by decide +kernel), List.mem_of_getElem? (i := 1691) (by decide +kernel)⟩
theorem lw_p92 : lw_okq (⟨"FlungFingersModel", "findLive", "()V"⟩, 45) := ⟨⟨by decide +kernel, by decide +kernel⟩, List.mem_of_getElem? (i := 1175) (by decide +kernel), List.mem_of_getElem? (i := 1698) (by decide +kernel), List.mem_of_getElem? (i := 1699) (by decide +kernel)⟩
theorem lw_p93 : lw_okq (⟨"FlungFingersModel", "findLates", "(I)V"⟩, 45) := ⟨⟨by decide +kernel, by decide +kernel⟩, List.mem_of_getElem? (i := 1175) (by decide +kernel), List.mem_of_getElem? (i := 1721) (by decide +kernel), List.mem_of_getElem? (i := 1722) (by decide +kernel)⟩
theorem lw_p94 : lw_okq (⟨"FlungFingersModel", "choose", "(III)V"⟩, 45) := ⟨⟨by decide +kernel, by decide +kernel⟩, List.mem_of_getElem? (i := 1175) (by decide +kernel), List.mem_of_getElem? (i := 1729) (by decide +kernel), List.mem_of_getElem? (i := 1730) (by decide +kernel)⟩
theorem lw_p95 : lw_okq (⟨"FlungFingersModel", "note", "(IIII)V"⟩, 45) := ⟨⟨by decide +kernel, by decide +kernel⟩, List.mem_of_getElem? (i := 1175) (by decide +kernel), List.mem_of_getElem? (i := 1748) (by decide +kernel), List.mem_of_getElem? (i := 1749) (by decide +kernel)⟩
def lw_privs_6 : List (MethodName × Nat) := [(⟨"FlungFingersModel", "findTold", "(II)I"⟩, 45), (⟨"FlungFingersModel", "findForeseen", "(I)I"⟩, 45), (⟨"FlungFingersModel", "isLoss", "(I)Z"⟩, 45), (⟨"FlungFingersModel", "findAnswer", "(I)I"⟩, 45), (⟨"FlungFingersModel", "findMeans", "()V"⟩, 45), (⟨"FlungFingersModel", "findShare", "(II)V"⟩, 45), (⟨"FlungFingersModel", "mixedTimes", "(III)V"⟩, 45), (⟨"FlungFingersModel", "findPaths", "()V"⟩, 45), (⟨"FlungFingersModel", "fits", "(III)Z"⟩, 45), (⟨"FlungFingersModel", "goes", "(IIII)Z"⟩, 45), (⟨"FlungFingersModel", "lets", "(I)Z"⟩, 45), (⟨"FlungFingersModel", "pathsTo", "(I)J"⟩, 45), (⟨"FlungFingersModel", "findLive", "()V"⟩, 45), (⟨"FlungFingersModel", "findLates", "(I)V"⟩, 45), (⟨"FlungFingersModel", "choose", "(III)V"⟩, 45), (⟨"FlungFingersModel", "note", "(IIII)V"⟩, 45)]
theorem lw_r6 : ∀ q ∈ lw_privs_6, lw_okq q := List.forall_mem_cons.mpr ⟨lw_p80, List.forall_mem_cons.mpr ⟨lw_p81, List.forall_mem_cons.mpr ⟨lw_p82, List.forall_mem_cons.mpr ⟨lw_p83, List.forall_mem_cons.mpr ⟨lw_p84, List.forall_mem_cons.mpr ⟨lw_p85, List.forall_mem_cons.mpr ⟨lw_p86, List.forall_mem_cons.mpr ⟨lw_p87, List.forall_mem_cons.mpr ⟨lw_p88, List.forall_mem_cons.mpr ⟨lw_p89, List.forall_mem_cons.mpr ⟨lw_p90, List.forall_mem_cons.mpr ⟨lw_p91, List.forall_mem_cons.mpr ⟨lw_p92, List.forall_mem_cons.mpr ⟨lw_p93, List.forall_mem_cons.mpr ⟨lw_p94, List.forall_mem_cons.mpr ⟨lw_p95, fun _ h => absurd h List.not_mem_nil⟩⟩⟩⟩⟩⟩⟩⟩⟩⟩⟩⟩⟩⟩⟩⟩
theorem lw_p96 : lw_okq (⟨"FlungFingersModel", "isFirst", "(II)Z"⟩, 45) := ⟨⟨by decide +kernel, by decide +kernel⟩, List.mem_of_getElem? (i := 1175) (by decide +kernel), List.mem_of_getElem? (i := 1768) (by decide +kernel), List.mem_of_getElem? (i := 1769) (by decide +kernel)⟩
theorem lw_p97 : lw_okq (⟨"FlungFingersModel", "resultOf", "(II)I"⟩, 45) := ⟨⟨by decide +kernel, by decide +kernel⟩, List.mem_of_getElem? (i := 1175) (by decide +kernel), List.mem_of_getElem? (i := 1772) (by decide +kernel), List.mem_of_getElem? (i := 1773) (by decide +kernel)⟩
def lw_privs_7 : List (MethodName × Nat) := [(⟨"FlungFingersModel", "isFirst", "(II)Z"⟩, 45), (⟨"FlungFingersModel", "resultOf", "(II)I"⟩, 45)]
theorem lw_r7 : ∀ q ∈ lw_privs_7, lw_okq q := List.forall_mem_cons.mpr ⟨lw_p96, List.forall_mem_cons.mpr ⟨lw_p97, fun _ h => absurd h List.not_mem_nil⟩⟩
def lw_privs : List (MethodName × Nat) := lw_privs_1 ++ (lw_privs_2 ++ (lw_privs_3 ++ (lw_privs_4 ++ (lw_privs_5 ++ (lw_privs_6 ++ (lw_privs_7))))))
def lw_tbl : List Cond := k2_sels lw_privs ++ tables_1
theorem lw_privs_ok : ∀ q ∈ lw_privs, lw_okq q := by
  show ∀ q ∈ lw_privs_1 ++ (lw_privs_2 ++ (lw_privs_3 ++ (lw_privs_4 ++ (lw_privs_5 ++ (lw_privs_6 ++ (lw_privs_7)))))), lw_okq q
  exact List.forall_mem_append.mpr ⟨lw_r1, List.forall_mem_append.mpr ⟨lw_r2, List.forall_mem_append.mpr ⟨lw_r3, List.forall_mem_append.mpr ⟨lw_r4, List.forall_mem_append.mpr ⟨lw_r5, List.forall_mem_append.mpr ⟨lw_r6, lw_r7⟩⟩⟩⟩⟩⟩
def RX0 : String := "FlungFingers$Beats"
def TX0 : u_T := fun k => match k with
  | 0 => ("FlungFingers$Beats", "at", "[I", true)
  | 1 => ("FlungFingers$Beats", "scorer", "[I", true)
  | 2 => ("FlungFingers$Beats", "size", "I", false)
  | 3 => ("FlungFingers$Beats", "slack", "I", false)
  | 4 => ("FlungFingers$Beats", "above", "J", false)
  | _ => ("FlungFingers$Beats", "below", "J", false)
def tyX0 : Nat → FieldType := fun k => match k with
  | 0 => .array .int
  | 1 => .array .int
  | 2 => .int
  | 3 => .int
  | 4 => .long
  | _ => .long
abbrev wsX00 : List Cond := u_ws RX0 TX0 6
theorem nmX0 : ∀ a, a < 6 → ∀ b, b < 6 → a ≠ b → (TX0 a).2.1 ≠ (TX0 b).2.1 := by decide +kernel
theorem tyX0_ok : ∀ k, k < 6 → parseFieldDescriptor (TX0 k).2.2.1 = some (tyX0 k) := by decide +kernel
abbrev cX0_init : ByteArray := prog_2_method_1_code
def yX0_init : MethodName := ⟨RX0, "<init>", "()V"⟩
abbrev cX0_add : ByteArray := prog_2_method_2_code
def yX0_add : MethodName := ⟨RX0, "add", "(III)I"⟩
abbrev cX0_clear : ByteArray := prog_2_method_3_code
def yX0_clear : MethodName := ⟨RX0, "clear", "()I"⟩
abbrev cX0_tally : ByteArray := prog_2_method_4_code
def yX0_tally : MethodName := ⟨RX0, "tally", "(II)I"⟩
abbrev cX0_work : ByteArray := prog_2_method_5_code
def yX0_work : MethodName := ⟨RX0, "work", "(I)V"⟩
abbrev cX0_fold : ByteArray := prog_2_method_6_code
def yX0_fold : MethodName := ⟨RX0, "fold", "(J)J"⟩
abbrev cX0_choose : ByteArray := prog_2_method_7_code
def yX0_choose : MethodName := ⟨RX0, "choose", "(II)J"⟩
def RX1 : String := "FlungFingers$Big"
def TX1 : u_T := fun k => match k with
  | 0 => ("FlungFingers$Big", "digits", "[I", true)
  | _ => ("FlungFingers$Big", "size", "I", false)
def tyX1 : Nat → FieldType := fun k => match k with
  | 0 => .array .int
  | _ => .int
abbrev wsX10 : List Cond := u_ws RX1 TX1 2
theorem nmX1 : ∀ a, a < 2 → ∀ b, b < 2 → a ≠ b → (TX1 a).2.1 ≠ (TX1 b).2.1 := by decide +kernel
theorem tyX1_ok : ∀ k, k < 2 → parseFieldDescriptor (TX1 k).2.2.1 = some (tyX1 k) := by decide +kernel
abbrev cX1_init : ByteArray := prog_3_method_1_code
def yX1_init : MethodName := ⟨RX1, "<init>", "()V"⟩
abbrev cX1_digit : ByteArray := prog_3_method_2_code
def yX1_digit : MethodName := ⟨RX1, "digit", "(I)I"⟩
abbrev cX1_become : ByteArray := prog_3_method_3_code
def yX1_become : MethodName := ⟨RX1, "become", "(J)V"⟩
abbrev cX1_copy : ByteArray := prog_3_method_4_code
def yX1_copy : MethodName := ⟨RX1, "copy", "(LFlungFingers$Big;)V"⟩
abbrev cX1_toLong : ByteArray := prog_3_method_5_code
def yX1_toLong : MethodName := ⟨RX1, "toLong", "()J"⟩
abbrev cX1_against : ByteArray := prog_3_method_6_code
def yX1_against : MethodName := ⟨RX1, "against", "(LFlungFingers$Big;)I"⟩
abbrev cX1_add : ByteArray := prog_3_method_7_code
def yX1_add : MethodName := ⟨RX1, "add", "(LFlungFingers$Big;)V"⟩
abbrev cX1_take : ByteArray := prog_3_method_8_code
def yX1_take : MethodName := ⟨RX1, "take", "(LFlungFingers$Big;)V"⟩
abbrev cX1_multiply : ByteArray := prog_3_method_9_code
def yX1_multiply : MethodName := ⟨RX1, "multiply", "(I)V"⟩
abbrev cX1_becomeProduct : ByteArray := prog_3_method_10_code
def yX1_becomeProduct : MethodName := ⟨RX1, "becomeProduct", "(LFlungFingers$Big;LFlungFingers$Big;)V"⟩
abbrev cX1_shorten : ByteArray := prog_3_method_11_code
def yX1_shorten : MethodName := ⟨RX1, "shorten", "(I)I"⟩
abbrev cX1_divide : ByteArray := prog_3_method_12_code
def yX1_divide : MethodName := ⟨RX1, "divide", "(LFlungFingers$Big;LFlungFingers$Big;)V"⟩
abbrev cX1_halvings : ByteArray := prog_3_method_13_code
def yX1_halvings : MethodName := ⟨RX1, "halvings", "()I"⟩
abbrev cX1_halve : ByteArray := prog_3_method_14_code
def yX1_halve : MethodName := ⟨RX1, "halve", "(I)V"⟩
abbrev cX1_addBit : ByteArray := prog_3_method_15_code
def yX1_addBit : MethodName := ⟨RX1, "addBit", "(I)V"⟩
abbrev cX1_push : ByteArray := prog_3_method_16_code
def yX1_push : MethodName := ⟨RX1, "push", "(J)V"⟩
abbrev cX1_trim : ByteArray := prog_3_method_17_code
def yX1_trim : MethodName := ⟨RX1, "trim", "()V"⟩
def RX2 : String := "FlungFingers$Fraction"
def TX2 : u_T := fun k => match k with
  | 0 => ("FlungFingers$Fraction", "above", "LFlungFingers$Big;", true)
  | 1 => ("FlungFingers$Fraction", "below", "LFlungFingers$Big;", true)
  | 2 => ("FlungFingers$Fraction", "common", "LFlungFingers$Big;", true)
  | 3 => ("FlungFingers$Fraction", "spare", "LFlungFingers$Big;", true)
  | _ => ("FlungFingers$Fraction", "signum", "I", false)
def tyX2 : Nat → FieldType := fun k => match k with
  | 0 => .object "FlungFingers$Big"
  | 1 => .object "FlungFingers$Big"
  | 2 => .object "FlungFingers$Big"
  | 3 => .object "FlungFingers$Big"
  | _ => .int
abbrev wsX20 : List Cond := u_ws RX2 TX2 5
theorem nmX2 : ∀ a, a < 5 → ∀ b, b < 5 → a ≠ b → (TX2 a).2.1 ≠ (TX2 b).2.1 := by decide +kernel
theorem tyX2_ok : ∀ k, k < 5 → parseFieldDescriptor (TX2 k).2.2.1 = some (tyX2 k) := by decide +kernel
abbrev cX2_init : ByteArray := prog_4_method_1_code
def yX2_init : MethodName := ⟨RX2, "<init>", "()V"⟩
abbrev cX2_part : ByteArray := prog_4_method_2_code
def yX2_part : MethodName := ⟨RX2, "part", "(I)LFlungFingers$Big;"⟩
abbrev cX2_become : ByteArray := prog_4_method_3_code
def yX2_become : MethodName := ⟨RX2, "become", "(JJ)V"⟩
abbrev cX2_reduce : ByteArray := prog_4_method_4_code
def yX2_reduce : MethodName := ⟨RX2, "reduce", "(ILFlungFingers$Big;LFlungFingers$Big;)V"⟩
abbrev cX2_floorMillionths : ByteArray := prog_4_method_5_code
def yX2_floorMillionths : MethodName := ⟨RX2, "floorMillionths", "()J"⟩
abbrev cX2_commonOf : ByteArray := prog_4_method_6_code
def yX2_commonOf : MethodName := ⟨RX2, "commonOf", "(JJ)J"⟩
abbrev cX2_findCommon : ByteArray := prog_4_method_7_code
def yX2_findCommon : MethodName := ⟨RX2, "findCommon", "()V"⟩
def RX3 : String := "FlungFingers$Game"
def TX3 : u_T := fun k => match k with
  | 0 => ("FlungFingers$Game", "law", "LFlungFingers$Rule;", true)
  | 1 => ("FlungFingers$Game", "cells", "[J", true)
  | 2 => ("FlungFingers$Game", "in", "[I", true)
  | 3 => ("FlungFingers$Game", "second", "[J", true)
  | 4 => ("FlungFingers$Game", "ways", "I", false)
  | 5 => ("FlungFingers$Game", "isWorked", "Z", false)
  | 6 => ("FlungFingers$Game", "d", "J", false)
  | 7 => ("FlungFingers$Game", "z", "J", false)
  | _ => ("FlungFingers$Game", "turns", "I", false)
def tyX3 : Nat → FieldType := fun k => match k with
  | 0 => .object "FlungFingers$Rule"
  | 1 => .array .long
  | 2 => .array .int
  | 3 => .array .long
  | 4 => .int
  | 5 => .boolean
  | 6 => .long
  | 7 => .long
  | _ => .int
abbrev wsX30 : List Cond := u_ws RX3 TX3 9
theorem nmX3 : ∀ a, a < 9 → ∀ b, b < 9 → a ≠ b → (TX3 a).2.1 ≠ (TX3 b).2.1 := by decide +kernel
theorem tyX3_ok : ∀ k, k < 9 → parseFieldDescriptor (TX3 k).2.2.1 = some (tyX3 k) := by decide +kernel
abbrev cX3_init : ByteArray := prog_5_method_1_code
def yX3_init : MethodName := ⟨RX3, "<init>", "(LFlungFingers$Rule;)V"⟩
abbrev cX3_putAside : ByteArray := prog_5_method_2_code
def yX3_putAside : MethodName := ⟨RX3, "putAside", "()V"⟩
abbrev cX3_work : ByteArray := prog_5_method_3_code
def yX3_work : MethodName := ⟨RX3, "work", "()V"⟩
abbrev cX3_worth : ByteArray := prog_5_method_4_code
def yX3_worth : MethodName := ⟨RX3, "worth", "()J"⟩
abbrev cX3_share : ByteArray := prog_5_method_5_code
def yX3_share : MethodName := ⟨RX3, "share", "(II)J"⟩
abbrev cX3_earnedAgainst : ByteArray := prog_5_method_6_code
def yX3_earnedAgainst : MethodName := ⟨RX3, "earnedAgainst", "(II)J"⟩
abbrev cX3_lay : ByteArray := prog_5_method_7_code
def yX3_lay : MethodName := ⟨RX3, "lay", "()V"⟩
abbrev cX3_findColumn : ByteArray := prog_5_method_8_code
def yX3_findColumn : MethodName := ⟨RX3, "findColumn", "()I"⟩
abbrev cX3_findRow : ByteArray := prog_5_method_9_code
def yX3_findRow : MethodName := ⟨RX3, "findRow", "(I)I"⟩
abbrev cX3_goesBefore : ByteArray := prog_5_method_10_code
def yX3_goesBefore : MethodName := ⟨RX3, "goesBefore", "(III)Z"⟩
abbrev cX3_bringIn : ByteArray := prog_5_method_11_code
def yX3_bringIn : MethodName := ⟨RX3, "bringIn", "(II)V"⟩
abbrev cX3_changeRow : ByteArray := prog_5_method_12_code
def yX3_changeRow : MethodName := ⟨RX3, "changeRow", "(IIIJ)V"⟩
abbrev cX3_readSecond : ByteArray := prog_5_method_13_code
def yX3_readSecond : MethodName := ⟨RX3, "readSecond", "()V"⟩
def RX4 : String := "FlungFingers$League"
def TX4 : u_T := fun k => match k with
  | 0 => ("FlungFingers$League", "points", "[I", true)
  | 1 => ("FlungFingers$League", "after", "[I", true)
  | 2 => ("FlungFingers$League", "one", "[I", true)
  | 3 => ("FlungFingers$League", "other", "[I", true)
  | 4 => ("FlungFingers$League", "trial", "[I", true)
  | 5 => ("FlungFingers$League", "results", "[I", true)
  | 6 => ("FlungFingers$League", "resultCount", "I", false)
  | 7 => ("FlungFingers$League", "games", "I", false)
  | _ => ("FlungFingers$League", "open", "I", false)
def tyX4 : Nat → FieldType := fun k => match k with
  | 0 => .array .int
  | 1 => .array .int
  | 2 => .array .int
  | 3 => .array .int
  | 4 => .array .int
  | 5 => .array .int
  | 6 => .int
  | 7 => .int
  | _ => .int
abbrev wsX40 : List Cond := u_ws RX4 TX4 9
theorem nmX4 : ∀ a, a < 9 → ∀ b, b < 9 → a ≠ b → (TX4 a).2.1 ≠ (TX4 b).2.1 := by decide +kernel
theorem tyX4_ok : ∀ k, k < 9 → parseFieldDescriptor (TX4 k).2.2.1 = some (tyX4 k) := by decide +kernel
abbrev cX4_init : ByteArray := prog_6_method_1_code
def yX4_init : MethodName := ⟨RX4, "<init>", "()V"⟩
abbrev cX4_isTeam : ByteArray := prog_6_method_2_code
def yX4_isTeam : MethodName := ⟨RX4, "isTeam", "(I)Z"⟩
abbrev cX4_isGame : ByteArray := prog_6_method_3_code
def yX4_isGame : MethodName := ⟨RX4, "isGame", "(II)Z"⟩
abbrev cX4_arePoints : ByteArray := prog_6_method_4_code
def yX4_arePoints : MethodName := ⟨RX4, "arePoints", "(II)Z"⟩
abbrev cX4_play : ByteArray := prog_6_method_5_code
def yX4_play : MethodName := ⟨RX4, "play", "(IIII)I"⟩
abbrev cX4_leave : ByteArray := prog_6_method_6_code
def yX4_leave : MethodName := ⟨RX4, "leave", "(II)I"⟩
abbrev cX4_playFirst : ByteArray := prog_6_method_7_code
def yX4_playFirst : MethodName := ⟨RX4, "playFirst", "(II)I"⟩
abbrev cX4_seek : ByteArray := prog_6_method_8_code
def yX4_seek : MethodName := ⟨RX4, "seek", "(I)I"⟩
abbrev cX4_resultAt : ByteArray := prog_6_method_9_code
def yX4_resultAt : MethodName := ⟨RX4, "resultAt", "(I)I"⟩
abbrev cX4_fold : ByteArray := prog_6_method_10_code
def yX4_fold : MethodName := ⟨RX4, "fold", "(J)J"⟩
abbrev cX4_isFirst : ByteArray := prog_6_method_11_code
def yX4_isFirst : MethodName := ⟨RX4, "isFirst", "(II)Z"⟩
abbrev cX4_isBeaten : ByteArray := prog_6_method_12_code
def yX4_isBeaten : MethodName := ⟨RX4, "isBeaten", "(II)Z"⟩
def RX5 : String := "FlungFingers$Match"
def TX5 : u_T := fun k => match k with
  | 0 => ("FlungFingers$Match", "law", "LFlungFingers$Rule;", true)
  | 1 => ("FlungFingers$Match", "game", "LFlungFingers$Game;", true)
  | 2 => ("FlungFingers$Match", "row", "[J", true)
  | 3 => ("FlungFingers$Match", "hit", "J", false)
  | 4 => ("FlungFingers$Match", "base", "J", false)
  | 5 => ("FlungFingers$Match", "above", "J", false)
  | _ => ("FlungFingers$Match", "below", "J", false)
def tyX5 : Nat → FieldType := fun k => match k with
  | 0 => .object "FlungFingers$Rule"
  | 1 => .object "FlungFingers$Game"
  | 2 => .array .long
  | 3 => .long
  | 4 => .long
  | 5 => .long
  | _ => .long
abbrev wsX50 : List Cond := u_ws RX5 TX5 7
theorem nmX5 : ∀ a, a < 7 → ∀ b, b < 7 → a ≠ b → (TX5 a).2.1 ≠ (TX5 b).2.1 := by decide +kernel
theorem tyX5_ok : ∀ k, k < 7 → parseFieldDescriptor (TX5 k).2.2.1 = some (tyX5 k) := by decide +kernel
abbrev cX5_init : ByteArray := prog_7_method_1_code
def yX5_init : MethodName := ⟨RX5, "<init>", "(LFlungFingers$Rule;LFlungFingers$Game;)V"⟩
abbrev cX5_work : ByteArray := prog_7_method_2_code
def yX5_work : MethodName := ⟨RX5, "work", "(II)V"⟩
abbrev cX5_pointsGiven : ByteArray := prog_7_method_3_code
def yX5_pointsGiven : MethodName := ⟨RX5, "pointsGiven", "(I)I"⟩
abbrev cX5_play : ByteArray := prog_7_method_4_code
def yX5_play : MethodName := ⟨RX5, "play", "(II)V"⟩
abbrev cX5_isEven : ByteArray := prog_7_method_5_code
def yX5_isEven : MethodName := ⟨RX5, "isEven", "(III)Z"⟩
abbrev cX5_findHit : ByteArray := prog_7_method_6_code
def yX5_findHit : MethodName := ⟨RX5, "findHit", "()V"⟩
def RX6 : String := "FlungFingers$Men"
def TX6 : u_T := fun k => match k with
  | 0 => ("FlungFingers$Men", "law", "LFlungFingers$Rule;", true)
  | 1 => ("FlungFingers$Men", "rows", "[I", true)
  | 2 => ("FlungFingers$Men", "lengths", "[I", true)
  | 3 => ("FlungFingers$Men", "counts", "[I", true)
  | 4 => ("FlungFingers$Men", "codes", "[I", true)
  | 5 => ("FlungFingers$Men", "contextNow", "I", false)
  | _ => ("FlungFingers$Men", "chances", "LFlungFingers$Tail;", true)
def tyX6 : Nat → FieldType := fun k => match k with
  | 0 => .object "FlungFingers$Rule"
  | 1 => .array .int
  | 2 => .array .int
  | 3 => .array .int
  | 4 => .array .int
  | 5 => .int
  | _ => .object "FlungFingers$Tail"
abbrev wsX60 : List Cond := u_ws RX6 TX6 7
theorem nmX6 : ∀ a, a < 7 → ∀ b, b < 7 → a ≠ b → (TX6 a).2.1 ≠ (TX6 b).2.1 := by decide +kernel
theorem tyX6_ok : ∀ k, k < 7 → parseFieldDescriptor (TX6 k).2.2.1 = some (tyX6 k) := by decide +kernel
abbrev cX6_init : ByteArray := prog_8_method_1_code
def yX6_init : MethodName := ⟨RX6, "<init>", "(LFlungFingers$Rule;)V"⟩
abbrev cX6_isMan : ByteArray := prog_8_method_2_code
def yX6_isMan : MethodName := ⟨RX6, "isMan", "(I)Z"⟩
abbrev cX6_isPlace : ByteArray := prog_8_method_3_code
def yX6_isPlace : MethodName := ⟨RX6, "isPlace", "(III)Z"⟩
abbrev cX6_add : ByteArray := prog_8_method_4_code
def yX6_add : MethodName := ⟨RX6, "add", "(II)I"⟩
abbrev cX6_clear : ByteArray := prog_8_method_5_code
def yX6_clear : MethodName := ⟨RX6, "clear", "(I)I"⟩
abbrev cX6_forgetAll : ByteArray := prog_8_method_6_code
def yX6_forgetAll : MethodName := ⟨RX6, "forgetAll", "()V"⟩
abbrev cX6_tally : ByteArray := prog_8_method_7_code
def yX6_tally : MethodName := ⟨RX6, "tally", "(II)V"⟩
abbrev cX6_places : ByteArray := prog_8_method_8_code
def yX6_places : MethodName := ⟨RX6, "places", "(I)I"⟩
abbrev cX6_followed : ByteArray := prog_8_method_9_code
def yX6_followed : MethodName := ⟨RX6, "followed", "(II)I"⟩
abbrev cX6_triedBy : ByteArray := prog_8_method_10_code
def yX6_triedBy : MethodName := ⟨RX6, "triedBy", "(I)I"⟩
abbrev cX6_isRare : ByteArray := prog_8_method_11_code
def yX6_isRare : MethodName := ⟨RX6, "isRare", "(IIIZ)Z"⟩
abbrev cX6_listTold : ByteArray := prog_8_method_12_code
def yX6_listTold : MethodName := ⟨RX6, "listTold", "(II)I"⟩
abbrev cX6_codeAt : ByteArray := prog_8_method_13_code
def yX6_codeAt : MethodName := ⟨RX6, "codeAt", "(I)I"⟩
abbrev cX6_foresee : ByteArray := prog_8_method_14_code
def yX6_foresee : MethodName := ⟨RX6, "foresee", "(II)I"⟩
abbrev cX6_foreseenCount : ByteArray := prog_8_method_15_code
def yX6_foreseenCount : MethodName := ⟨RX6, "foreseenCount", "(I)I"⟩
abbrev cX6_fold : ByteArray := prog_8_method_16_code
def yX6_fold : MethodName := ⟨RX6, "fold", "(J)J"⟩
abbrev cX6_contextCount : ByteArray := prog_8_method_17_code
def yX6_contextCount : MethodName := ⟨RX6, "contextCount", "(I)I"⟩
abbrev cX6_listToldBehind : ByteArray := prog_8_method_18_code
def yX6_listToldBehind : MethodName := ⟨RX6, "listToldBehind", "(IIII)I"⟩
def RX7 : String := "FlungFingers$Reply"
def TX7 : u_T := fun k => match k with
  | 0 => ("FlungFingers$Reply", "law", "LFlungFingers$Rule;", true)
  | 1 => ("FlungFingers$Reply", "game", "LFlungFingers$Game;", true)
  | 2 => ("FlungFingers$Reply", "weight", "[J", true)
  | 3 => ("FlungFingers$Reply", "means", "[J", true)
  | 4 => ("FlungFingers$Reply", "earned", "[J", true)
  | 5 => ("FlungFingers$Reply", "one", "LFlungFingers$Big;", true)
  | 6 => ("FlungFingers$Reply", "two", "LFlungFingers$Big;", true)
  | 7 => ("FlungFingers$Reply", "mine", "LFlungFingers$Big;", true)
  | 8 => ("FlungFingers$Reply", "other", "LFlungFingers$Big;", true)
  | 9 => ("FlungFingers$Reply", "weights", "J", false)
  | 10 => ("FlungFingers$Reply", "mixMean", "J", false)
  | 11 => ("FlungFingers$Reply", "best", "I", false)
  | 12 => ("FlungFingers$Reply", "gain", "J", false)
  | 13 => ("FlungFingers$Reply", "newTop", "J", false)
  | 14 => ("FlungFingers$Reply", "newLow", "J", false)
  | 15 => ("FlungFingers$Reply", "top", "J", false)
  | _ => ("FlungFingers$Reply", "low", "J", false)
def tyX7 : Nat → FieldType := fun k => match k with
  | 0 => .object "FlungFingers$Rule"
  | 1 => .object "FlungFingers$Game"
  | 2 => .array .long
  | 3 => .array .long
  | 4 => .array .long
  | 5 => .object "FlungFingers$Big"
  | 6 => .object "FlungFingers$Big"
  | 7 => .object "FlungFingers$Big"
  | 8 => .object "FlungFingers$Big"
  | 9 => .long
  | 10 => .long
  | 11 => .int
  | 12 => .long
  | 13 => .long
  | 14 => .long
  | 15 => .long
  | _ => .long
abbrev wsX70 : List Cond := u_ws RX7 TX7 17
theorem nmX7 : ∀ a, a < 17 → ∀ b, b < 17 → a ≠ b → (TX7 a).2.1 ≠ (TX7 b).2.1 := by decide +kernel
theorem tyX7_ok : ∀ k, k < 17 → parseFieldDescriptor (TX7 k).2.2.1 = some (tyX7 k) := by decide +kernel
abbrev cX7_init : ByteArray := prog_9_method_1_code
def yX7_init : MethodName := ⟨RX7, "<init>", "(LFlungFingers$Rule;LFlungFingers$Game;)V"⟩
abbrev cX7_seek : ByteArray := prog_9_method_2_code
def yX7_seek : MethodName := ⟨RX7, "seek", "(LFlungFingers$Men;I)I"⟩
abbrev cX7_putMean : ByteArray := prog_9_method_3_code
def yX7_putMean : MethodName := ⟨RX7, "putMean", "(LFlungFingers$Fraction;)V"⟩
abbrev cX7_putWorst : ByteArray := prog_9_method_4_code
def yX7_putWorst : MethodName := ⟨RX7, "putWorst", "(LFlungFingers$Fraction;)V"⟩
abbrev cX7_weigh : ByteArray := prog_9_method_5_code
def yX7_weigh : MethodName := ⟨RX7, "weigh", "(LFlungFingers$Men;)V"⟩
abbrev cX7_stretch : ByteArray := prog_9_method_6_code
def yX7_stretch : MethodName := ⟨RX7, "stretch", "(II)V"⟩
abbrev cX7_keepIfBetter : ByteArray := prog_9_method_7_code
def yX7_keepIfBetter : MethodName := ⟨RX7, "keepIfBetter", "(IJ)V"⟩
abbrev cX7_becomeProduct : ByteArray := prog_9_method_8_code
def yX7_becomeProduct : MethodName := ⟨RX7, "becomeProduct", "(LFlungFingers$Big;JJ)V"⟩
def RX8 : String := "FlungFingers$Rule"
def TX8 : u_T := fun k => match k with
  | 0 => ("FlungFingers$Rule", "thrown", "[I", true)
  | 1 => ("FlungFingers$Rule", "called", "[I", true)
  | 2 => ("FlungFingers$Rule", "kind", "I", false)
  | 3 => ("FlungFingers$Rule", "low", "I", false)
  | 4 => ("FlungFingers$Rule", "high", "I", false)
  | 5 => ("FlungFingers$Rule", "multiple", "I", false)
  | 6 => ("FlungFingers$Rule", "throwCount", "I", false)
  | _ => ("FlungFingers$Rule", "wayCount", "I", false)
def tyX8 : Nat → FieldType := fun k => match k with
  | 0 => .array .int
  | 1 => .array .int
  | 2 => .int
  | 3 => .int
  | 4 => .int
  | 5 => .int
  | 6 => .int
  | _ => .int
abbrev wsX80 : List Cond := u_ws RX8 TX8 8
theorem nmX8 : ∀ a, a < 8 → ∀ b, b < 8 → a ≠ b → (TX8 a).2.1 ≠ (TX8 b).2.1 := by decide +kernel
theorem tyX8_ok : ∀ k, k < 8 → parseFieldDescriptor (TX8 k).2.2.1 = some (tyX8 k) := by decide +kernel
abbrev cX8_init : ByteArray := prog_10_method_1_code
def yX8_init : MethodName := ⟨RX8, "<init>", "()V"⟩
abbrev cX8_allows : ByteArray := prog_10_method_2_code
def yX8_allows : MethodName := ⟨RX8, "allows", "(IIII)Z"⟩
abbrev cX8_isLike : ByteArray := prog_10_method_3_code
def yX8_isLike : MethodName := ⟨RX8, "isLike", "(IIII)Z"⟩
abbrev cX8_become : ByteArray := prog_10_method_4_code
def yX8_become : MethodName := ⟨RX8, "become", "(IIII)V"⟩
abbrev cX8_hasWay : ByteArray := prog_10_method_5_code
def yX8_hasWay : MethodName := ⟨RX8, "hasWay", "(I)Z"⟩
abbrev cX8_isThrow : ByteArray := prog_10_method_6_code
def yX8_isThrow : MethodName := ⟨RX8, "isThrow", "(I)Z"⟩
abbrev cX8_throwOf : ByteArray := prog_10_method_7_code
def yX8_throwOf : MethodName := ⟨RX8, "throwOf", "(I)I"⟩
abbrev cX8_callOf : ByteArray := prog_10_method_8_code
def yX8_callOf : MethodName := ⟨RX8, "callOf", "(I)I"⟩
abbrev cX8_payOf : ByteArray := prog_10_method_9_code
def yX8_payOf : MethodName := ⟨RX8, "payOf", "(II)I"⟩
abbrev cX8_bound : ByteArray := prog_10_method_10_code
def yX8_bound : MethodName := ⟨RX8, "bound", "()I"⟩
abbrev cX8_addWay : ByteArray := prog_10_method_11_code
def yX8_addWay : MethodName := ⟨RX8, "addWay", "(II)V"⟩
def RX9 : String := "FlungFingers$Slate"
def TX9 : u_T := fun k => match k with
  | 0 => ("FlungFingers$Slate", "law", "LFlungFingers$Rule;", true)
  | 1 => ("FlungFingers$Slate", "noted", "[I", true)
  | 2 => ("FlungFingers$Slate", "disputed", "[Z", true)
  | 3 => ("FlungFingers$Slate", "reach", "[I", true)
  | 4 => ("FlungFingers$Slate", "fillsNow", "[J", false)
  | 5 => ("FlungFingers$Slate", "fillsBehind", "[J", false)
  | 6 => ("FlungFingers$Slate", "filled", "I", false)
  | 7 => ("FlungFingers$Slate", "goal", "I", false)
  | _ => ("FlungFingers$Slate", "rounds", "I", false)
def tyX9 : Nat → FieldType := fun k => match k with
  | 0 => .object "FlungFingers$Rule"
  | 1 => .array .int
  | 2 => .array .boolean
  | 3 => .array .int
  | 4 => .array .long
  | 5 => .array .long
  | 6 => .int
  | 7 => .int
  | _ => .int
abbrev wsX90 : List Cond := u_ws RX9 TX9 9
theorem nmX9 : ∀ a, a < 9 → ∀ b, b < 9 → a ≠ b → (TX9 a).2.1 ≠ (TX9 b).2.1 := by decide +kernel
theorem tyX9_ok : ∀ k, k < 9 → parseFieldDescriptor (TX9 k).2.2.1 = some (tyX9 k) := by decide +kernel
abbrev cX9_init : ByteArray := prog_11_method_1_code
def yX9_init : MethodName := ⟨RX9, "<init>", "(LFlungFingers$Rule;)V"⟩
abbrev cX9_begin : ByteArray := prog_11_method_2_code
def yX9_begin : MethodName := ⟨RX9, "begin", "(I)V"⟩
abbrev cX9_startAgain : ByteArray := prog_11_method_3_code
def yX9_startAgain : MethodName := ⟨RX9, "startAgain", "()V"⟩
abbrev cX9_add : ByteArray := prog_11_method_4_code
def yX9_add : MethodName := ⟨RX9, "add", "(II)I"⟩
abbrev cX9_hasMark : ByteArray := prog_11_method_5_code
def yX9_hasMark : MethodName := ⟨RX9, "hasMark", "(II)Z"⟩
abbrev cX9_setDisputed : ByteArray := prog_11_method_6_code
def yX9_setDisputed : MethodName := ⟨RX9, "setDisputed", "(IIZ)I"⟩
abbrev cX9_countFills : ByteArray := prog_11_method_7_code
def yX9_countFills : MethodName := ⟨RX9, "countFills", "()J"⟩
abbrev cX9_reachAll : ByteArray := prog_11_method_8_code
def yX9_reachAll : MethodName := ⟨RX9, "reachAll", "()I"⟩
abbrev cX9_findHad : ByteArray := prog_11_method_9_code
def yX9_findHad : MethodName := ⟨RX9, "findHad", "(IIZ)I"⟩
abbrev cX9_fold : ByteArray := prog_11_method_10_code
def yX9_fold : MethodName := ⟨RX9, "fold", "(J)J"⟩
abbrev cX9_leastScore : ByteArray := prog_11_method_11_code
def yX9_leastScore : MethodName := ⟨RX9, "leastScore", "()I"⟩
abbrev cX9_mostScore : ByteArray := prog_11_method_12_code
def yX9_mostScore : MethodName := ⟨RX9, "mostScore", "()I"⟩
abbrev cX9_toldBy : ByteArray := prog_11_method_13_code
def yX9_toldBy : MethodName := ⟨RX9, "toldBy", "(II)I"⟩
abbrev cX9_fillRound : ByteArray := prog_11_method_14_code
def yX9_fillRound : MethodName := ⟨RX9, "fillRound", "(I)V"⟩
abbrev cX9_fillFrom : ByteArray := prog_11_method_15_code
def yX9_fillFrom : MethodName := ⟨RX9, "fillFrom", "(IIII)V"⟩
abbrev cX9_addFills : ByteArray := prog_11_method_16_code
def yX9_addFills : MethodName := ⟨RX9, "addFills", "(IJ)V"⟩
abbrev cX9_playedFrom : ByteArray := prog_11_method_17_code
def yX9_playedFrom : MethodName := ⟨RX9, "playedFrom", "(II)I"⟩
abbrev cX9_reachRound : ByteArray := prog_11_method_18_code
def yX9_reachRound : MethodName := ⟨RX9, "reachRound", "(I)Z"⟩
abbrev cX9_reachFrom : ByteArray := prog_11_method_19_code
def yX9_reachFrom : MethodName := ⟨RX9, "reachFrom", "(II)V"⟩
abbrev cX9_keepWithFollowers : ByteArray := prog_11_method_20_code
def yX9_keepWithFollowers : MethodName := ⟨RX9, "keepWithFollowers", "(I)V"⟩
abbrev cX9_followedFrom : ByteArray := prog_11_method_21_code
def yX9_followedFrom : MethodName := ⟨RX9, "followedFrom", "(I)I"⟩
abbrev cX9_lowestBit : ByteArray := prog_11_method_22_code
def yX9_lowestBit : MethodName := ⟨RX9, "lowestBit", "(I)I"⟩
abbrev cX9_highestBit : ByteArray := prog_11_method_23_code
def yX9_highestBit : MethodName := ⟨RX9, "highestBit", "(I)I"⟩
def RX10 : String := "FlungFingers$Tail"
def TX10 : u_T := fun k => match k with
  | 0 => ("FlungFingers$Tail", "sum", "LFlungFingers$Big;", true)
  | 1 => ("FlungFingers$Tail", "power", "LFlungFingers$Big;", true)
  | 2 => ("FlungFingers$Tail", "term", "LFlungFingers$Big;", true)
  | _ => ("FlungFingers$Tail", "limit", "LFlungFingers$Big;", true)
def tyX10 : Nat → FieldType := fun k => match k with
  | 0 => .object "FlungFingers$Big"
  | 1 => .object "FlungFingers$Big"
  | 2 => .object "FlungFingers$Big"
  | _ => .object "FlungFingers$Big"
abbrev wsX100 : List Cond := u_ws RX10 TX10 4
theorem nmX10 : ∀ a, a < 4 → ∀ b, b < 4 → a ≠ b → (TX10 a).2.1 ≠ (TX10 b).2.1 := by decide +kernel
theorem tyX10_ok : ∀ k, k < 4 → parseFieldDescriptor (TX10 k).2.2.1 = some (tyX10 k) := by decide +kernel
abbrev cX10_init : ByteArray := prog_12_method_1_code
def yX10_init : MethodName := ⟨RX10, "<init>", "()V"⟩
abbrev cX10_isRare : ByteArray := prog_12_method_2_code
def yX10_isRare : MethodName := ⟨RX10, "isRare", "(IIIIZ)Z"⟩
def RX11 : String := "FlungFingers"
def TX11 : u_T := fun k => match k with
  | 0 => ("FlungFingers", "law", "LFlungFingers$Rule;", true)
  | 1 => ("FlungFingers", "game", "LFlungFingers$Game;", true)
  | 2 => ("FlungFingers", "fraction", "LFlungFingers$Fraction;", true)
  | 3 => ("FlungFingers", "match", "LFlungFingers$Match;", true)
  | 4 => ("FlungFingers", "men", "LFlungFingers$Men;", true)
  | 5 => ("FlungFingers", "reply", "LFlungFingers$Reply;", true)
  | 6 => ("FlungFingers", "marks", "LFlungFingers$Slate;", true)
  | 7 => ("FlungFingers", "beats", "LFlungFingers$Beats;", true)
  | 8 => ("FlungFingers", "league", "LFlungFingers$League;", true)
  | _ => ("FlungFingers", "oddsNow", "I", false)
def tyX11 : Nat → FieldType := fun k => match k with
  | 0 => .object "FlungFingers$Rule"
  | 1 => .object "FlungFingers$Game"
  | 2 => .object "FlungFingers$Fraction"
  | 3 => .object "FlungFingers$Match"
  | 4 => .object "FlungFingers$Men"
  | 5 => .object "FlungFingers$Reply"
  | 6 => .object "FlungFingers$Slate"
  | 7 => .object "FlungFingers$Beats"
  | 8 => .object "FlungFingers$League"
  | _ => .int
abbrev wsX110 : List Cond := u_ws RX11 TX11 10
theorem nmX11 : ∀ a, a < 10 → ∀ b, b < 10 → a ≠ b → (TX11 a).2.1 ≠ (TX11 b).2.1 := by decide +kernel
theorem tyX11_ok : ∀ k, k < 10 → parseFieldDescriptor (TX11 k).2.2.1 = some (tyX11 k) := by decide +kernel
abbrev cX11_init : ByteArray := prog_1_method_1_code
def yX11_init : MethodName := ⟨RX11, "<init>", "()V"⟩
abbrev cX11_rule : ByteArray := prog_1_method_2_code
def yX11_rule : MethodName := ⟨RX11, "rule", "(IIII)I"⟩
abbrev cX11_way : ByteArray := prog_1_method_3_code
def yX11_way : MethodName := ⟨RX11, "way", "(II)I"⟩
abbrev cX11_pay : ByteArray := prog_1_method_4_code
def yX11_pay : MethodName := ⟨RX11, "pay", "(II)I"⟩
abbrev cX11_value : ByteArray := prog_1_method_5_code
def yX11_value : MethodName := ⟨RX11, "value", "()I"⟩
abbrev cX11_mix : ByteArray := prog_1_method_6_code
def yX11_mix : MethodName := ⟨RX11, "mix", "(II)I"⟩
abbrev cX11_brings : ByteArray := prog_1_method_7_code
def yX11_brings : MethodName := ⟨RX11, "brings", "(II)I"⟩
abbrev cX11_steps : ByteArray := prog_1_method_8_code
def yX11_steps : MethodName := ⟨RX11, "steps", "()I"⟩
abbrev cX11_limbs : ByteArray := prog_1_method_9_code
def yX11_limbs : MethodName := ⟨RX11, "limbs", "(I)I"⟩
abbrev cX11_limb : ByteArray := prog_1_method_10_code
def yX11_limb : MethodName := ⟨RX11, "limb", "(II)I"⟩
abbrev cX11_sign : ByteArray := prog_1_method_11_code
def yX11_sign : MethodName := ⟨RX11, "sign", "()I"⟩
abbrev cX11_millionths : ByteArray := prog_1_method_12_code
def yX11_millionths : MethodName := ⟨RX11, "millionths", "()J"⟩
abbrev cX11_chance : ByteArray := prog_1_method_13_code
def yX11_chance : MethodName := ⟨RX11, "chance", "(II)I"⟩
abbrev cX11_given : ByteArray := prog_1_method_14_code
def yX11_given : MethodName := ⟨RX11, "given", "(I)I"⟩
abbrev cX11_flung : ByteArray := prog_1_method_15_code
def yX11_flung : MethodName := ⟨RX11, "flung", "(II)I"⟩
abbrev cX11_forget : ByteArray := prog_1_method_16_code
def yX11_forget : MethodName := ⟨RX11, "forget", "(I)I"⟩
abbrev cX11_odds : ByteArray := prog_1_method_17_code
def yX11_odds : MethodName := ⟨RX11, "odds", "(I)I"⟩
abbrev cX11_comes : ByteArray := prog_1_method_18_code
def yX11_comes : MethodName := ⟨RX11, "comes", "(IIII)I"⟩
abbrev cX11_tried : ByteArray := prog_1_method_19_code
def yX11_tried : MethodName := ⟨RX11, "tried", "(I)I"⟩
abbrev cX11_tail : ByteArray := prog_1_method_20_code
def yX11_tail : MethodName := ⟨RX11, "tail", "(IIII)I"⟩
abbrev cX11_told : ByteArray := prog_1_method_21_code
def yX11_told : MethodName := ⟨RX11, "told", "(I)I"⟩
abbrev cX11_toldAt : ByteArray := prog_1_method_22_code
def yX11_toldAt : MethodName := ⟨RX11, "toldAt", "(II)I"⟩
abbrev cX11_foreseen : ByteArray := prog_1_method_23_code
def yX11_foreseen : MethodName := ⟨RX11, "foreseen", "(I)I"⟩
abbrev cX11_foreseenAt : ByteArray := prog_1_method_24_code
def yX11_foreseenAt : MethodName := ⟨RX11, "foreseenAt", "(II)I"⟩
abbrev cX11_answer : ByteArray := prog_1_method_25_code
def yX11_answer : MethodName := ⟨RX11, "answer", "(II)I"⟩
abbrev cX11_answers : ByteArray := prog_1_method_26_code
def yX11_answers : MethodName := ⟨RX11, "answers", "(III)I"⟩
abbrev cX11_findReply : ByteArray := prog_1_method_27_code
def yX11_findReply : MethodName := ⟨RX11, "findReply", "(II)I"⟩
abbrev cX11_slate : ByteArray := prog_1_method_28_code
def yX11_slate : MethodName := ⟨RX11, "slate", "(I)I"⟩
abbrev cX11_round : ByteArray := prog_1_method_29_code
def yX11_round : MethodName := ⟨RX11, "round", "(II)I"⟩
abbrev cX11_dispute : ByteArray := prog_1_method_30_code
def yX11_dispute : MethodName := ⟨RX11, "dispute", "(IIZ)I"⟩
abbrev cX11_fills : ByteArray := prog_1_method_31_code
def yX11_fills : MethodName := ⟨RX11, "fills", "()J"⟩
abbrev cX11_had : ByteArray := prog_1_method_32_code
def yX11_had : MethodName := ⟨RX11, "had", "(IIZ)I"⟩
abbrev cX11_wrong : ByteArray := prog_1_method_33_code
def yX11_wrong : MethodName := ⟨RX11, "wrong", "()I"⟩
abbrev cX11_heard : ByteArray := prog_1_method_34_code
def yX11_heard : MethodName := ⟨RX11, "heard", "(III)I"⟩
abbrev cX11_beat : ByteArray := prog_1_method_35_code
def yX11_beat : MethodName := ⟨RX11, "beat", "(I)I"⟩
abbrev cX11_lates : ByteArray := prog_1_method_36_code
def yX11_lates : MethodName := ⟨RX11, "lates", "(II)I"⟩
abbrev cX11_late : ByteArray := prog_1_method_37_code
def yX11_late : MethodName := ⟨RX11, "late", "(I)I"⟩
abbrev cX11_silence : ByteArray := prog_1_method_38_code
def yX11_silence : MethodName := ⟨RX11, "silence", "()I"⟩
abbrev cX11_played : ByteArray := prog_1_method_39_code
def yX11_played : MethodName := ⟨RX11, "played", "(IIII)I"⟩
abbrev cX11_left : ByteArray := prog_1_method_40_code
def yX11_left : MethodName := ⟨RX11, "left", "(II)I"⟩
abbrev cX11_next : ByteArray := prog_1_method_41_code
def yX11_next : MethodName := ⟨RX11, "next", "(II)I"⟩
abbrev cX11_has : ByteArray := prog_1_method_42_code
def yX11_has : MethodName := ⟨RX11, "has", "(I)I"⟩
abbrev cX11_can : ByteArray := prog_1_method_43_code
def yX11_can : MethodName := ⟨RX11, "can", "(I)I"⟩
abbrev cX11_how : ByteArray := prog_1_method_44_code
def yX11_how : MethodName := ⟨RX11, "how", "(I)I"⟩
abbrev cX11_count : ByteArray := prog_1_method_45_code
def yX11_count : MethodName := ⟨RX11, "count", "(I)I"⟩
abbrev cX11_digest : ByteArray := prog_1_method_46_code
def yX11_digest : MethodName := ⟨RX11, "digest", "()J"⟩
abbrev cX11_isWithin : ByteArray := prog_1_method_47_code
def yX11_isWithin : MethodName := ⟨RX11, "isWithin", "(III)Z"⟩
abbrev cX11_isEither : ByteArray := prog_1_method_48_code
def yX11_isEither : MethodName := ⟨RX11, "isEither", "(I)Z"⟩
def RX12 : String := "FlungFingersModel"
def TX12 : u_T := fun k => match k with
  | 0 => ("FlungFingersModel", "limb", "[I", true)
  | 1 => ("FlungFingersModel", "length", "[I", true)
  | 2 => ("FlungFingersModel", "sign", "[I", true)
  | 3 => ("FlungFingersModel", "work", "[I", true)
  | 4 => ("FlungFingersModel", "top", "[J", true)
  | 5 => ("FlungFingersModel", "under", "[J", true)
  | 6 => ("FlungFingersModel", "kind", "I", false)
  | 7 => ("FlungFingersModel", "low", "I", false)
  | 8 => ("FlungFingersModel", "high", "I", false)
  | 9 => ("FlungFingersModel", "multiple", "I", false)
  | 10 => ("FlungFingersModel", "throwsMany", "I", false)
  | 11 => ("FlungFingersModel", "ways", "I", false)
  | 12 => ("FlungFingersModel", "greatest", "I", false)
  | 13 => ("FlungFingersModel", "came", "I", false)
  | 14 => ("FlungFingersModel", "ins", "[I", true)
  | 15 => ("FlungFingersModel", "rowSize", "[I", true)
  | 16 => ("FlungFingersModel", "row", "[I", true)
  | 17 => ("FlungFingersModel", "odds", "I", false)
  | 18 => ("FlungFingersModel", "counts", "[I", true)
  | 19 => ("FlungFingersModel", "found", "I", false)
  | 20 => ("FlungFingersModel", "mean", "[J", true)
  | 21 => ("FlungFingersModel", "each", "I", false)
  | 22 => ("FlungFingersModel", "all", "I", false)
  | 23 => ("FlungFingersModel", "goal", "I", false)
  | 24 => ("FlungFingersModel", "rounds", "I", false)
  | 25 => ("FlungFingersModel", "mark", "[I", true)
  | 26 => ("FlungFingersModel", "isDisputed", "[Z", true)
  | 27 => ("FlungFingersModel", "paths", "[J", true)
  | 28 => ("FlungFingersModel", "isLive", "[Z", true)
  | 29 => ("FlungFingersModel", "heardMany", "I", false)
  | 30 => ("FlungFingersModel", "beatOf", "[I", true)
  | 31 => ("FlungFingersModel", "scoredBy", "[I", true)
  | 32 => ("FlungFingersModel", "beat", "I", false)
  | 33 => ("FlungFingersModel", "ofAll", "I", false)
  | 34 => ("FlungFingersModel", "ofLate", "I", false)
  | 35 => ("FlungFingersModel", "ofWon", "I", false)
  | 36 => ("FlungFingersModel", "ofBoth", "I", false)
  | 37 => ("FlungFingersModel", "has", "[I", true)
  | 38 => ("FlungFingersModel", "games", "I", false)
  | 39 => ("FlungFingersModel", "leftMany", "I", false)
  | 40 => ("FlungFingersModel", "leftA", "[I", true)
  | 41 => ("FlungFingersModel", "leftB", "[I", true)
  | 42 => ("FlungFingersModel", "toldMany", "I", false)
  | 43 => ("FlungFingersModel", "results", "[I", true)
  | _ => ("FlungFingersModel", "draft", "[I", true)
def tyX12 : Nat → FieldType := fun k => match k with
  | 0 => .array .int
  | 1 => .array .int
  | 2 => .array .int
  | 3 => .array .int
  | 4 => .array .long
  | 5 => .array .long
  | 6 => .int
  | 7 => .int
  | 8 => .int
  | 9 => .int
  | 10 => .int
  | 11 => .int
  | 12 => .int
  | 13 => .int
  | 14 => .array .int
  | 15 => .array .int
  | 16 => .array .int
  | 17 => .int
  | 18 => .array .int
  | 19 => .int
  | 20 => .array .long
  | 21 => .int
  | 22 => .int
  | 23 => .int
  | 24 => .int
  | 25 => .array .int
  | 26 => .array .boolean
  | 27 => .array .long
  | 28 => .array .boolean
  | 29 => .int
  | 30 => .array .int
  | 31 => .array .int
  | 32 => .int
  | 33 => .int
  | 34 => .int
  | 35 => .int
  | 36 => .int
  | 37 => .array .int
  | 38 => .int
  | 39 => .int
  | 40 => .array .int
  | 41 => .array .int
  | 42 => .int
  | 43 => .array .int
  | _ => .array .int
abbrev wsX120 : List Cond := u_ws RX12 TX12 45
theorem nmX12 : ∀ a, a < 45 → ∀ b, b < 45 → a ≠ b → (TX12 a).2.1 ≠ (TX12 b).2.1 := by decide +kernel
theorem tyX12_ok : ∀ k, k < 45 → parseFieldDescriptor (TX12 k).2.2.1 = some (tyX12 k) := by decide +kernel
abbrev cX12_init : ByteArray := prog_14_method_1_code
def yX12_init : MethodName := ⟨RX12, "<init>", "()V"⟩
abbrev cX12_in : ByteArray := prog_14_method_3_code
def yX12_in : MethodName := ⟨RX12, "in", "(JJJ)Z"⟩
abbrev cX12_set : ByteArray := prog_14_method_4_code
def yX12_set : MethodName := ⟨RX12, "set", "(IJ)V"⟩
abbrev cX12_copy : ByteArray := prog_14_method_5_code
def yX12_copy : MethodName := ⟨RX12, "copy", "(II)V"⟩
abbrev cX12_compareSizes : ByteArray := prog_14_method_6_code
def yX12_compareSizes : MethodName := ⟨RX12, "compareSizes", "(II)I"⟩
abbrev cX12_compare : ByteArray := prog_14_method_7_code
def yX12_compare : MethodName := ⟨RX12, "compare", "(II)I"⟩
abbrev cX12_trim : ByteArray := prog_14_method_8_code
def yX12_trim : MethodName := ⟨RX12, "trim", "(III)V"⟩
abbrev cX12_joinSizes : ByteArray := prog_14_method_9_code
def yX12_joinSizes : MethodName := ⟨RX12, "joinSizes", "(IIII)V"⟩
abbrev cX12_partSizes : ByteArray := prog_14_method_10_code
def yX12_partSizes : MethodName := ⟨RX12, "partSizes", "(IIII)V"⟩
abbrev cX12_sum : ByteArray := prog_14_method_11_code
def yX12_sum : MethodName := ⟨RX12, "sum", "(IIII)V"⟩
abbrev cX12_add : ByteArray := prog_14_method_12_code
def yX12_add : MethodName := ⟨RX12, "add", "(III)V"⟩
abbrev cX12_less : ByteArray := prog_14_method_13_code
def yX12_less : MethodName := ⟨RX12, "less", "(III)V"⟩
abbrev cX12_times : ByteArray := prog_14_method_14_code
def yX12_times : MethodName := ⟨RX12, "times", "(III)V"⟩
abbrev cX12_timesSmall : ByteArray := prog_14_method_15_code
def yX12_timesSmall : MethodName := ⟨RX12, "timesSmall", "(IJI)V"⟩
abbrev cX12_divide : ByteArray := prog_14_method_16_code
def yX12_divide : MethodName := ⟨RX12, "divide", "(IIII)V"⟩
abbrev cX12_digit : ByteArray := prog_14_method_17_code
def yX12_digit : MethodName := ⟨RX12, "digit", "(II)J"⟩
abbrev cX12_common : ByteArray := prog_14_method_18_code
def yX12_common : MethodName := ⟨RX12, "common", "(II)V"⟩
abbrev cX12_lowest : ByteArray := prog_14_method_19_code
def yX12_lowest : MethodName := ⟨RX12, "lowest", "(II)V"⟩
abbrev cX12_tell : ByteArray := prog_14_method_20_code
def yX12_tell : MethodName := ⟨RX12, "tell", "(II)V"⟩
abbrev cX12_throwOf : ByteArray := prog_14_method_21_code
def yX12_throwOf : MethodName := ⟨RX12, "throwOf", "(I)I"⟩
abbrev cX12_callOf : ByteArray := prog_14_method_22_code
def yX12_callOf : MethodName := ⟨RX12, "callOf", "(I)I"⟩
abbrev cX12_payOf : ByteArray := prog_14_method_23_code
def yX12_payOf : MethodName := ⟨RX12, "payOf", "(II)I"⟩
abbrev cX12_cellAt : ByteArray := prog_14_method_24_code
def yX12_cellAt : MethodName := ⟨RX12, "cellAt", "(II)I"⟩
abbrev cX12_end : ByteArray := prog_14_method_25_code
def yX12_end : MethodName := ⟨RX12, "end", "()I"⟩
abbrev cX12_layRule : ByteArray := prog_14_method_26_code
def yX12_layRule : MethodName := ⟨RX12, "layRule", "(IIII)V"⟩
abbrev cX12_layTable : ByteArray := prog_14_method_27_code
def yX12_layTable : MethodName := ⟨RX12, "layTable", "()V"⟩
abbrev cX12_firstBelow : ByteArray := prog_14_method_28_code
def yX12_firstBelow : MethodName := ⟨RX12, "firstBelow", "()I"⟩
abbrev cX12_rowFor : ByteArray := prog_14_method_29_code
def yX12_rowFor : MethodName := ⟨RX12, "rowFor", "(I)I"⟩
abbrev cX12_comeIn : ByteArray := prog_14_method_30_code
def yX12_comeIn : MethodName := ⟨RX12, "comeIn", "(II)V"⟩
abbrev cX12_work : ByteArray := prog_14_method_31_code
def yX12_work : MethodName := ⟨RX12, "work", "()V"⟩
abbrev cX12_rule : ByteArray := prog_14_method_32_code
def yX12_rule : MethodName := ⟨RX12, "rule", "(IIII)I"⟩
abbrev cX12_noWay : ByteArray := prog_14_method_33_code
def yX12_noWay : MethodName := ⟨RX12, "noWay", "(I)Z"⟩
abbrev cX12_way : ByteArray := prog_14_method_34_code
def yX12_way : MethodName := ⟨RX12, "way", "(II)I"⟩
abbrev cX12_pay : ByteArray := prog_14_method_35_code
def yX12_pay : MethodName := ⟨RX12, "pay", "(II)I"⟩
abbrev cX12_valueTimes : ByteArray := prog_14_method_36_code
def yX12_valueTimes : MethodName := ⟨RX12, "valueTimes", "(I)V"⟩
abbrev cX12_value : ByteArray := prog_14_method_37_code
def yX12_value : MethodName := ⟨RX12, "value", "()I"⟩
abbrev cX12_mixTimes : ByteArray := prog_14_method_38_code
def yX12_mixTimes : MethodName := ⟨RX12, "mixTimes", "(III)V"⟩
abbrev cX12_mix : ByteArray := prog_14_method_39_code
def yX12_mix : MethodName := ⟨RX12, "mix", "(II)I"⟩
abbrev cX12_bringsTimes : ByteArray := prog_14_method_40_code
def yX12_bringsTimes : MethodName := ⟨RX12, "bringsTimes", "(III)V"⟩
abbrev cX12_brings : ByteArray := prog_14_method_41_code
def yX12_brings : MethodName := ⟨RX12, "brings", "(II)I"⟩
abbrev cX12_steps : ByteArray := prog_14_method_42_code
def yX12_steps : MethodName := ⟨RX12, "steps", "()I"⟩
abbrev cX12_limbs : ByteArray := prog_14_method_43_code
def yX12_limbs : MethodName := ⟨RX12, "limbs", "(I)I"⟩
abbrev cX12_limb : ByteArray := prog_14_method_44_code
def yX12_limb : MethodName := ⟨RX12, "limb", "(II)I"⟩
abbrev cX12_sign : ByteArray := prog_14_method_45_code
def yX12_sign : MethodName := ⟨RX12, "sign", "()I"⟩
abbrev cX12_longOf : ByteArray := prog_14_method_46_code
def yX12_longOf : MethodName := ⟨RX12, "longOf", "(I)J"⟩
abbrev cX12_millionths : ByteArray := prog_14_method_47_code
def yX12_millionths : MethodName := ⟨RX12, "millionths", "()J"⟩
abbrev cX12_findScore : ByteArray := prog_14_method_48_code
def yX12_findScore : MethodName := ⟨RX12, "findScore", "()V"⟩
abbrev cX12_findChance : ByteArray := prog_14_method_49_code
def yX12_findChance : MethodName := ⟨RX12, "findChance", "(II)V"⟩
abbrev cX12_chance : ByteArray := prog_14_method_50_code
def yX12_chance : MethodName := ⟨RX12, "chance", "(II)I"⟩
abbrev cX12_heldByHalf : ByteArray := prog_14_method_51_code
def yX12_heldByHalf : MethodName := ⟨RX12, "heldByHalf", "(II)I"⟩
abbrev cX12_given : ByteArray := prog_14_method_52_code
def yX12_given : MethodName := ⟨RX12, "given", "(I)I"⟩
abbrev cX12_isMan : ByteArray := prog_14_method_53_code
def yX12_isMan : MethodName := ⟨RX12, "isMan", "(I)Z"⟩
abbrev cX12_isThrow : ByteArray := prog_14_method_54_code
def yX12_isThrow : MethodName := ⟨RX12, "isThrow", "(I)Z"⟩
abbrev cX12_flung : ByteArray := prog_14_method_55_code
def yX12_flung : MethodName := ⟨RX12, "flung", "(II)I"⟩
abbrev cX12_forget : ByteArray := prog_14_method_56_code
def yX12_forget : MethodName := ⟨RX12, "forget", "(I)I"⟩
abbrev cX12_odds : ByteArray := prog_14_method_57_code
def yX12_odds : MethodName := ⟨RX12, "odds", "(I)I"⟩
abbrev cX12_contexts : ByteArray := prog_14_method_58_code
def yX12_contexts : MethodName := ⟨RX12, "contexts", "(I)I"⟩
abbrev cX12_contextAt : ByteArray := prog_14_method_59_code
def yX12_contextAt : MethodName := ⟨RX12, "contextAt", "(III)I"⟩
abbrev cX12_countBehind : ByteArray := prog_14_method_60_code
def yX12_countBehind : MethodName := ⟨RX12, "countBehind", "(III)I"⟩
abbrev cX12_isContext : ByteArray := prog_14_method_61_code
def yX12_isContext : MethodName := ⟨RX12, "isContext", "(III)Z"⟩
abbrev cX12_comes : ByteArray := prog_14_method_62_code
def yX12_comes : MethodName := ⟨RX12, "comes", "(IIII)I"⟩
abbrev cX12_triedOf : ByteArray := prog_14_method_63_code
def yX12_triedOf : MethodName := ⟨RX12, "triedOf", "(I)I"⟩
abbrev cX12_tried : ByteArray := prog_14_method_64_code
def yX12_tried : MethodName := ⟨RX12, "tried", "(I)I"⟩
abbrev cX12_findTail : ByteArray := prog_14_method_65_code
def yX12_findTail : MethodName := ⟨RX12, "findTail", "(II)V"⟩
abbrev cX12_isRare : ByteArray := prog_14_method_66_code
def yX12_isRare : MethodName := ⟨RX12, "isRare", "(J)Z"⟩
abbrev cX12_isTold : ByteArray := prog_14_method_67_code
def yX12_isTold : MethodName := ⟨RX12, "isTold", "(IIJ)Z"⟩
abbrev cX12_tail : ByteArray := prog_14_method_68_code
def yX12_tail : MethodName := ⟨RX12, "tail", "(IIII)I"⟩
abbrev cX12_findTold : ByteArray := prog_14_method_69_code
def yX12_findTold : MethodName := ⟨RX12, "findTold", "(II)I"⟩
abbrev cX12_told : ByteArray := prog_14_method_70_code
def yX12_told : MethodName := ⟨RX12, "told", "(I)I"⟩
abbrev cX12_toldAt : ByteArray := prog_14_method_71_code
def yX12_toldAt : MethodName := ⟨RX12, "toldAt", "(II)I"⟩
abbrev cX12_findForeseen : ByteArray := prog_14_method_72_code
def yX12_findForeseen : MethodName := ⟨RX12, "findForeseen", "(I)I"⟩
abbrev cX12_foreseen : ByteArray := prog_14_method_73_code
def yX12_foreseen : MethodName := ⟨RX12, "foreseen", "(I)I"⟩
abbrev cX12_foreseenAt : ByteArray := prog_14_method_74_code
def yX12_foreseenAt : MethodName := ⟨RX12, "foreseenAt", "(II)I"⟩
abbrev cX12_findMeans : ByteArray := prog_14_method_75_code
def yX12_findMeans : MethodName := ⟨RX12, "findMeans", "()V"⟩
abbrev cX12_findShare : ByteArray := prog_14_method_76_code
def yX12_findShare : MethodName := ⟨RX12, "findShare", "(II)V"⟩
abbrev cX12_findAnswer : ByteArray := prog_14_method_77_code
def yX12_findAnswer : MethodName := ⟨RX12, "findAnswer", "(I)I"⟩
abbrev cX12_isLoss : ByteArray := prog_14_method_78_code
def yX12_isLoss : MethodName := ⟨RX12, "isLoss", "(I)Z"⟩
abbrev cX12_answer : ByteArray := prog_14_method_79_code
def yX12_answer : MethodName := ⟨RX12, "answer", "(II)I"⟩
abbrev cX12_mixedTimes : ByteArray := prog_14_method_80_code
def yX12_mixedTimes : MethodName := ⟨RX12, "mixedTimes", "(III)V"⟩
abbrev cX12_answers : ByteArray := prog_14_method_81_code
def yX12_answers : MethodName := ⟨RX12, "answers", "(III)I"⟩
abbrev cX12_slate : ByteArray := prog_14_method_82_code
def yX12_slate : MethodName := ⟨RX12, "slate", "(I)I"⟩
abbrev cX12_isMark : ByteArray := prog_14_method_83_code
def yX12_isMark : MethodName := ⟨RX12, "isMark", "(I)Z"⟩
abbrev cX12_round : ByteArray := prog_14_method_84_code
def yX12_round : MethodName := ⟨RX12, "round", "(II)I"⟩
abbrev cX12_dispute : ByteArray := prog_14_method_85_code
def yX12_dispute : MethodName := ⟨RX12, "dispute", "(IIZ)I"⟩
abbrev cX12_fits : ByteArray := prog_14_method_86_code
def yX12_fits : MethodName := ⟨RX12, "fits", "(III)Z"⟩
abbrev cX12_at : ByteArray := prog_14_method_87_code
def yX12_at : MethodName := ⟨RX12, "at", "(III)I"⟩
abbrev cX12_lets : ByteArray := prog_14_method_88_code
def yX12_lets : MethodName := ⟨RX12, "lets", "(I)Z"⟩
abbrev cX12_goes : ByteArray := prog_14_method_89_code
def yX12_goes : MethodName := ⟨RX12, "goes", "(IIII)Z"⟩
abbrev cX12_cut : ByteArray := prog_14_method_90_code
def yX12_cut : MethodName := ⟨RX12, "cut", "(J)J"⟩
abbrev cX12_findPaths : ByteArray := prog_14_method_91_code
def yX12_findPaths : MethodName := ⟨RX12, "findPaths", "()V"⟩
abbrev cX12_pathsTo : ByteArray := prog_14_method_92_code
def yX12_pathsTo : MethodName := ⟨RX12, "pathsTo", "(I)J"⟩
abbrev cX12_fills : ByteArray := prog_14_method_93_code
def yX12_fills : MethodName := ⟨RX12, "fills", "()J"⟩
abbrev cX12_findLive : ByteArray := prog_14_method_94_code
def yX12_findLive : MethodName := ⟨RX12, "findLive", "()V"⟩
abbrev cX12_had : ByteArray := prog_14_method_95_code
def yX12_had : MethodName := ⟨RX12, "had", "(IIZ)I"⟩
abbrev cX12_wrong : ByteArray := prog_14_method_96_code
def yX12_wrong : MethodName := ⟨RX12, "wrong", "()I"⟩
abbrev cX12_isBeat : ByteArray := prog_14_method_97_code
def yX12_isBeat : MethodName := ⟨RX12, "isBeat", "(I)Z"⟩
abbrev cX12_heard : ByteArray := prog_14_method_98_code
def yX12_heard : MethodName := ⟨RX12, "heard", "(III)I"⟩
abbrev cX12_beat : ByteArray := prog_14_method_99_code
def yX12_beat : MethodName := ⟨RX12, "beat", "(I)I"⟩
abbrev cX12_findLates : ByteArray := prog_14_method_100_code
def yX12_findLates : MethodName := ⟨RX12, "findLates", "(I)V"⟩
abbrev cX12_lates : ByteArray := prog_14_method_101_code
def yX12_lates : MethodName := ⟨RX12, "lates", "(II)I"⟩
abbrev cX12_choose : ByteArray := prog_14_method_102_code
def yX12_choose : MethodName := ⟨RX12, "choose", "(III)V"⟩
abbrev cX12_late : ByteArray := prog_14_method_103_code
def yX12_late : MethodName := ⟨RX12, "late", "(I)I"⟩
abbrev cX12_silence : ByteArray := prog_14_method_104_code
def yX12_silence : MethodName := ⟨RX12, "silence", "()I"⟩
abbrev cX12_isGame : ByteArray := prog_14_method_105_code
def yX12_isGame : MethodName := ⟨RX12, "isGame", "(II)Z"⟩
abbrev cX12_isPoints : ByteArray := prog_14_method_106_code
def yX12_isPoints : MethodName := ⟨RX12, "isPoints", "(II)Z"⟩
abbrev cX12_note : ByteArray := prog_14_method_107_code
def yX12_note : MethodName := ⟨RX12, "note", "(IIII)V"⟩
abbrev cX12_played : ByteArray := prog_14_method_108_code
def yX12_played : MethodName := ⟨RX12, "played", "(IIII)I"⟩
abbrev cX12_left : ByteArray := prog_14_method_109_code
def yX12_left : MethodName := ⟨RX12, "left", "(II)I"⟩
abbrev cX12_next : ByteArray := prog_14_method_110_code
def yX12_next : MethodName := ⟨RX12, "next", "(II)I"⟩
abbrev cX12_has : ByteArray := prog_14_method_111_code
def yX12_has : MethodName := ⟨RX12, "has", "(I)I"⟩
abbrev cX12_resultOf : ByteArray := prog_14_method_112_code
def yX12_resultOf : MethodName := ⟨RX12, "resultOf", "(II)I"⟩
abbrev cX12_isFirst : ByteArray := prog_14_method_113_code
def yX12_isFirst : MethodName := ⟨RX12, "isFirst", "(II)Z"⟩
abbrev cX12_can : ByteArray := prog_14_method_114_code
def yX12_can : MethodName := ⟨RX12, "can", "(I)I"⟩
abbrev cX12_how : ByteArray := prog_14_method_115_code
def yX12_how : MethodName := ⟨RX12, "how", "(I)I"⟩
abbrev cX12_count : ByteArray := prog_14_method_116_code
def yX12_count : MethodName := ⟨RX12, "count", "(I)I"⟩
abbrev cX12_digest : ByteArray := prog_14_method_117_code
def yX12_digest : MethodName := ⟨RX12, "digest", "()J"⟩
def RJ6 : String := "java/lang/Integer"
def TJ6 : u_T := fun k => match k with
  | _ => ("", "", "", false)
def tyJ6 : Nat → FieldType := fun k => match k with
  | _ => .int
abbrev wsJ60 : List Cond := u_ws RJ6 TJ6 0
theorem nmJ6 : ∀ a, a < 0 → ∀ b, b < 0 → a ≠ b → (TJ6 a).2.1 ≠ (TJ6 b).2.1 := by decide +kernel
theorem tyJ6_ok : ∀ k, k < 0 → parseFieldDescriptor (TJ6 k).2.2.1 = some (tyJ6 k) := by decide +kernel
abbrev cJ6_compare_7cf53 : ByteArray := prog_15_method_40_code
def yJ6_compare_7cf53 : MethodName := ⟨RJ6, "compare", "(II)I"⟩
abbrev cJ6_numberOfTrailingZeros_0f7a4 : ByteArray := prog_15_method_48_code
def yJ6_numberOfTrailingZeros_0f7a4 : MethodName := ⟨RJ6, "numberOfTrailingZeros", "(I)I"⟩
def RJ13 : String := "java/lang/Long"
def TJ13 : u_T := fun k => match k with
  | _ => ("", "", "", false)
def tyJ13 : Nat → FieldType := fun k => match k with
  | _ => .int
abbrev wsJ130 : List Cond := u_ws RJ13 TJ13 0
theorem nmJ13 : ∀ a, a < 0 → ∀ b, b < 0 → a ≠ b → (TJ13 a).2.1 ≠ (TJ13 b).2.1 := by decide +kernel
theorem tyJ13_ok : ∀ k, k < 0 → parseFieldDescriptor (TJ13 k).2.2.1 = some (tyJ13 k) := by decide +kernel
abbrev cJ13_compare_74951 : ByteArray := prog_16_method_42_code
def yJ13_compare_74951 : MethodName := ⟨RJ13, "compare", "(JJ)I"⟩
def RJ9 : String := "java/lang/Math"
def TJ9 : u_T := fun k => match k with
  | _ => ("", "", "", false)
def tyJ9 : Nat → FieldType := fun k => match k with
  | _ => .int
abbrev wsJ90 : List Cond := u_ws RJ9 TJ9 0
theorem nmJ9 : ∀ a, a < 0 → ∀ b, b < 0 → a ≠ b → (TJ9 a).2.1 ≠ (TJ9 b).2.1 := by decide +kernel
theorem tyJ9_ok : ∀ k, k < 0 → parseFieldDescriptor (TJ9 k).2.2.1 = some (tyJ9 k) := by decide +kernel
abbrev cJ9_abs_067f4 : ByteArray := prog_17_method_61_code
def yJ9_abs_067f4 : MethodName := ⟨RJ9, "abs", "(J)J"⟩
abbrev cJ9_max_7cf53 : ByteArray := prog_17_method_65_code
def yJ9_max_7cf53 : MethodName := ⟨RJ9, "max", "(II)I"⟩
abbrev cJ9_max_f86c9 : ByteArray := prog_17_method_66_code
def yJ9_max_f86c9 : MethodName := ⟨RJ9, "max", "(JJ)J"⟩
abbrev cJ9_min_7cf53 : ByteArray := prog_17_method_69_code
def yJ9_min_7cf53 : MethodName := ⟨RJ9, "min", "(II)I"⟩
abbrev cJ9_min_f86c9 : ByteArray := prog_17_method_70_code
def yJ9_min_f86c9 : MethodName := ⟨RJ9, "min", "(JJ)J"⟩
def RJ10 : String := "java/lang/System"
def TJ10 : u_T := fun k => match k with
  | _ => ("", "", "", false)
def tyJ10 : Nat → FieldType := fun k => match k with
  | _ => .int
abbrev wsJ100 : List Cond := u_ws RJ10 TJ10 0
theorem nmJ10 : ∀ a, a < 0 → ∀ b, b < 0 → a ≠ b → (TJ10 a).2.1 ≠ (TJ10 b).2.1 := by decide +kernel
theorem tyJ10_ok : ∀ k, k < 0 → parseFieldDescriptor (TJ10 k).2.2.1 = some (tyJ10 k) := by decide +kernel
def RJ7 : String := "java/util/Arrays"
def TJ7 : u_T := fun k => match k with
  | _ => ("", "", "", false)
def tyJ7 : Nat → FieldType := fun k => match k with
  | _ => .int
abbrev wsJ70 : List Cond := u_ws RJ7 TJ7 0
theorem nmJ7 : ∀ a, a < 0 → ∀ b, b < 0 → a ≠ b → (TJ7 a).2.1 ≠ (TJ7 b).2.1 := by decide +kernel
theorem tyJ7_ok : ∀ k, k < 0 → parseFieldDescriptor (TJ7 k).2.2.1 = some (tyJ7 k) := by decide +kernel
abbrev cJ7_fill_d0a16 : ByteArray := prog_19_method_101_code
def yJ7_fill_d0a16 : MethodName := ⟨RJ7, "fill", "([JJ)V"⟩
abbrev cJ7_fill_53178 : ByteArray := prog_19_method_103_code
def yJ7_fill_53178 : MethodName := ⟨RJ7, "fill", "([II)V"⟩
def RL : String := "FlungFingersLaw"
abbrev cL_law : ByteArray := code
abbrev vwCl : List vw_C := [(RX0, TX0, 6), (RX1, TX1, 2), (RX2, TX2, 5), (RX3, TX3, 9), (RX4, TX4, 9), (RX5, TX5, 7), (RX6, TX6, 7), (RX7, TX7, 17), (RX8, TX8, 8), (RX9, TX9, 9), (RX10, TX10, 4), (RX11, TX11, 10), (RX12, TX12, 45)]
