-- ===== PART A: goes FIRST, ahead of the names: the tables' words, and 'selects' of the private methods out of them =====
/-- a private method of a class that the tables say can be made, by its rows of tables_1 -/
def lw_okq (q : MethodName × Nat) : Prop := (q.1.cls ≠ "java/lang/invoke/MethodHandle" ∧ q.1.cls ≠ "java/lang/invoke/VarHandle") ∧ Cond.instantiable q.1.cls q.2 ∈ tables_1 ∧ Cond.privateMethod q.1 ∈ tables_1 ∧ Cond.instanceMethod q.1 ∈ tables_1
theorem lw_p0 : lw_okq (⟨"CardHall", "isBarred", "(III)Z"⟩, 10) := ⟨⟨by decide +kernel, by decide +kernel⟩, List.mem_of_getElem? (i := 26) (by decide +kernel), List.mem_of_getElem? (i := 618) (by decide +kernel), List.mem_of_getElem? (i := 619) (by decide +kernel)⟩
theorem lw_p1 : lw_okq (⟨"CardHall$Count", "takeTelling", "(II)V"⟩, 17) := ⟨⟨by decide +kernel, by decide +kernel⟩, List.mem_of_getElem? (i := 306) (by decide +kernel), List.mem_of_getElem? (i := 632) (by decide +kernel), List.mem_of_getElem? (i := 633) (by decide +kernel)⟩
theorem lw_p2 : lw_okq (⟨"CardHall$OrdersReader", "readClause", "(I)Z"⟩, 3) := ⟨⟨by decide +kernel, by decide +kernel⟩, List.mem_of_getElem? (i := 220) (by decide +kernel), List.mem_of_getElem? (i := 708) (by decide +kernel), List.mem_of_getElem? (i := 709) (by decide +kernel)⟩
theorem lw_p3 : lw_okq (⟨"CardHall$OrdersReader", "clauseAtHand", "()I"⟩, 3) := ⟨⟨by decide +kernel, by decide +kernel⟩, List.mem_of_getElem? (i := 220) (by decide +kernel), List.mem_of_getElem? (i := 712) (by decide +kernel), List.mem_of_getElem? (i := 713) (by decide +kernel)⟩
theorem lw_p4 : lw_okq (⟨"CardHall$OrdersReader", "beginCondition", "(I)Z"⟩, 3) := ⟨⟨by decide +kernel, by decide +kernel⟩, List.mem_of_getElem? (i := 220) (by decide +kernel), List.mem_of_getElem? (i := 779) (by decide +kernel), List.mem_of_getElem? (i := 780) (by decide +kernel)⟩
theorem lw_p5 : lw_okq (⟨"CardHall$OrdersReader", "kindAtHand", "()I"⟩, 3) := ⟨⟨by decide +kernel, by decide +kernel⟩, List.mem_of_getElem? (i := 220) (by decide +kernel), List.mem_of_getElem? (i := 783) (by decide +kernel), List.mem_of_getElem? (i := 784) (by decide +kernel)⟩
theorem lw_p6 : lw_okq (⟨"CardHall$OrdersReader", "beginPart", "(I)V"⟩, 3) := ⟨⟨by decide +kernel, by decide +kernel⟩, List.mem_of_getElem? (i := 220) (by decide +kernel), List.mem_of_getElem? (i := 790) (by decide +kernel), List.mem_of_getElem? (i := 791) (by decide +kernel)⟩
theorem lw_p7 : lw_okq (⟨"CardHall$OrdersReader", "either", "(I)Z"⟩, 3) := ⟨⟨by decide +kernel, by decide +kernel⟩, List.mem_of_getElem? (i := 220) (by decide +kernel), List.mem_of_getElem? (i := 806) (by decide +kernel), List.mem_of_getElem? (i := 807) (by decide +kernel)⟩
theorem lw_p8 : lw_okq (⟨"CardHall$OrdersReader", "both", "(I)Z"⟩, 3) := ⟨⟨by decide +kernel, by decide +kernel⟩, List.mem_of_getElem? (i := 220) (by decide +kernel), List.mem_of_getElem? (i := 810) (by decide +kernel), List.mem_of_getElem? (i := 811) (by decide +kernel)⟩
theorem lw_p9 : lw_okq (⟨"CardHall$OrdersReader", "piece", "(I)Z"⟩, 3) := ⟨⟨by decide +kernel, by decide +kernel⟩, List.mem_of_getElem? (i := 220) (by decide +kernel), List.mem_of_getElem? (i := 814) (by decide +kernel), List.mem_of_getElem? (i := 815) (by decide +kernel)⟩
theorem lw_p10 : lw_okq (⟨"CardHall$OrdersReader", "skipNots", "()Z"⟩, 3) := ⟨⟨by decide +kernel, by decide +kernel⟩, List.mem_of_getElem? (i := 220) (by decide +kernel), List.mem_of_getElem? (i := 818) (by decide +kernel), List.mem_of_getElem? (i := 819) (by decide +kernel)⟩
theorem lw_p11 : lw_okq (⟨"CardHall$OrdersReader", "square", "(I)Z"⟩, 3) := ⟨⟨by decide +kernel, by decide +kernel⟩, List.mem_of_getElem? (i := 220) (by decide +kernel), List.mem_of_getElem? (i := 827) (by decide +kernel), List.mem_of_getElem? (i := 828) (by decide +kernel)⟩
theorem lw_p12 : lw_okq (⟨"CardHall$OrdersReader", "sum", "(I)Z"⟩, 3) := ⟨⟨by decide +kernel, by decide +kernel⟩, List.mem_of_getElem? (i := 220) (by decide +kernel), List.mem_of_getElem? (i := 836) (by decide +kernel), List.mem_of_getElem? (i := 837) (by decide +kernel)⟩
theorem lw_p13 : lw_okq (⟨"CardHall$OrdersReader", "product", "(I)Z"⟩, 3) := ⟨⟨by decide +kernel, by decide +kernel⟩, List.mem_of_getElem? (i := 220) (by decide +kernel), List.mem_of_getElem? (i := 840) (by decide +kernel), List.mem_of_getElem? (i := 841) (by decide +kernel)⟩
theorem lw_p14 : lw_okq (⟨"CardHall$OrdersReader", "factor", "(I)Z"⟩, 3) := ⟨⟨by decide +kernel, by decide +kernel⟩, List.mem_of_getElem? (i := 220) (by decide +kernel), List.mem_of_getElem? (i := 844) (by decide +kernel), List.mem_of_getElem? (i := 845) (by decide +kernel)⟩
theorem lw_p15 : lw_okq (⟨"CardHall$OrdersReader", "name", "()Z"⟩, 3) := ⟨⟨by decide +kernel, by decide +kernel⟩, List.mem_of_getElem? (i := 220) (by decide +kernel), List.mem_of_getElem? (i := 860) (by decide +kernel), List.mem_of_getElem? (i := 861) (by decide +kernel)⟩
def lw_privs_1 : List (MethodName × Nat) := [(⟨"CardHall", "isBarred", "(III)Z"⟩, 10), (⟨"CardHall$Count", "takeTelling", "(II)V"⟩, 17), (⟨"CardHall$OrdersReader", "readClause", "(I)Z"⟩, 3), (⟨"CardHall$OrdersReader", "clauseAtHand", "()I"⟩, 3), (⟨"CardHall$OrdersReader", "beginCondition", "(I)Z"⟩, 3), (⟨"CardHall$OrdersReader", "kindAtHand", "()I"⟩, 3), (⟨"CardHall$OrdersReader", "beginPart", "(I)V"⟩, 3), (⟨"CardHall$OrdersReader", "either", "(I)Z"⟩, 3), (⟨"CardHall$OrdersReader", "both", "(I)Z"⟩, 3), (⟨"CardHall$OrdersReader", "piece", "(I)Z"⟩, 3), (⟨"CardHall$OrdersReader", "skipNots", "()Z"⟩, 3), (⟨"CardHall$OrdersReader", "square", "(I)Z"⟩, 3), (⟨"CardHall$OrdersReader", "sum", "(I)Z"⟩, 3), (⟨"CardHall$OrdersReader", "product", "(I)Z"⟩, 3), (⟨"CardHall$OrdersReader", "factor", "(I)Z"⟩, 3), (⟨"CardHall$OrdersReader", "name", "()Z"⟩, 3)]
theorem lw_r1 : ∀ q ∈ lw_privs_1, lw_okq q := List.forall_mem_cons.mpr ⟨lw_p0, List.forall_mem_cons.mpr ⟨lw_p1, List.forall_mem_cons.mpr ⟨lw_p2, List.forall_mem_cons.mpr ⟨lw_p3, List.forall_mem_cons.mpr ⟨lw_p4, List.forall_mem_cons.mpr ⟨lw_p5, List.forall_mem_cons.mpr ⟨lw_p6, List.forall_mem_cons.mpr ⟨lw_p7, List.forall_mem_cons.mpr ⟨lw_p8, List.forall_mem_cons.mpr ⟨lw_p9, List.forall_mem_cons.mpr ⟨lw_p10, List.forall_mem_cons.mpr ⟨lw_p11, List.forall_mem_cons.mpr ⟨lw_p12, List.forall_mem_cons.mpr ⟨lw_p13, List.forall_mem_cons.mpr ⟨lw_p14, List.forall_mem_cons.mpr ⟨lw_p15, fun _ h => absurd h List.not_mem_nil⟩⟩⟩⟩⟩⟩⟩⟩⟩⟩⟩⟩⟩⟩⟩⟩
theorem lw_p16 : lw_okq (⟨"CardHall$OrdersReader", "factOfCards", "()I"⟩, 3) := ⟨⟨by decide +kernel, by decide +kernel⟩, List.mem_of_getElem? (i := 220) (by decide +kernel), List.mem_of_getElem? (i := 864) (by decide +kernel), List.mem_of_getElem? (i := 865) (by decide +kernel)⟩
theorem lw_p17 : lw_okq (⟨"CardHall$OrdersReader", "factOfLate", "()I"⟩, 3) := ⟨⟨by decide +kernel, by decide +kernel⟩, List.mem_of_getElem? (i := 220) (by decide +kernel), List.mem_of_getElem? (i := 872) (by decide +kernel), List.mem_of_getElem? (i := 873) (by decide +kernel)⟩
theorem lw_p18 : lw_okq (⟨"CardHall$OrdersReader", "factOfPass", "()I"⟩, 3) := ⟨⟨by decide +kernel, by decide +kernel⟩, List.mem_of_getElem? (i := 220) (by decide +kernel), List.mem_of_getElem? (i := 878) (by decide +kernel), List.mem_of_getElem? (i := 879) (by decide +kernel)⟩
theorem lw_p19 : lw_okq (⟨"CardHall$OrdersReader", "takeComparison", "()I"⟩, 3) := ⟨⟨by decide +kernel, by decide +kernel⟩, List.mem_of_getElem? (i := 220) (by decide +kernel), List.mem_of_getElem? (i := 887) (by decide +kernel), List.mem_of_getElem? (i := 888) (by decide +kernel)⟩
theorem lw_p20 : lw_okq (⟨"CardHall$LineReader", "readLine", "(J)I"⟩, 4) := ⟨⟨by decide +kernel, by decide +kernel⟩, List.mem_of_getElem? (i := 236) (by decide +kernel), List.mem_of_getElem? (i := 929) (by decide +kernel), List.mem_of_getElem? (i := 930) (by decide +kernel)⟩
theorem lw_p21 : lw_okq (⟨"CardHall$LineReader", "takeWord", "(Ljava/lang/String;)Z"⟩, 4) := ⟨⟨by decide +kernel, by decide +kernel⟩, List.mem_of_getElem? (i := 236) (by decide +kernel), List.mem_of_getElem? (i := 935) (by decide +kernel), List.mem_of_getElem? (i := 936) (by decide +kernel)⟩
theorem lw_p22 : lw_okq (⟨"CardHall$LineReader", "keep", "(II)V"⟩, 4) := ⟨⟨by decide +kernel, by decide +kernel⟩, List.mem_of_getElem? (i := 236) (by decide +kernel), List.mem_of_getElem? (i := 941) (by decide +kernel), List.mem_of_getElem? (i := 942) (by decide +kernel)⟩
theorem lw_p23 : lw_okq (⟨"CardHall", "isLate", "()Z"⟩, 10) := ⟨⟨by decide +kernel, by decide +kernel⟩, List.mem_of_getElem? (i := 26) (by decide +kernel), List.mem_of_getElem? (i := 947) (by decide +kernel), List.mem_of_getElem? (i := 948) (by decide +kernel)⟩
theorem lw_p24 : lw_okq (⟨"CardHall", "isTakenLate", "(II)Z"⟩, 10) := ⟨⟨by decide +kernel, by decide +kernel⟩, List.mem_of_getElem? (i := 26) (by decide +kernel), List.mem_of_getElem? (i := 951) (by decide +kernel), List.mem_of_getElem? (i := 952) (by decide +kernel)⟩
theorem lw_p25 : lw_okq (⟨"CardHall$LineReader", "readChange", "(I)Z"⟩, 4) := ⟨⟨by decide +kernel, by decide +kernel⟩, List.mem_of_getElem? (i := 236) (by decide +kernel), List.mem_of_getElem? (i := 1010) (by decide +kernel), List.mem_of_getElem? (i := 1011) (by decide +kernel)⟩
theorem lw_p26 : lw_okq (⟨"CardHall$Count", "beginSum", "()V"⟩, 17) := ⟨⟨by decide +kernel, by decide +kernel⟩, List.mem_of_getElem? (i := 306) (by decide +kernel), List.mem_of_getElem? (i := 1070) (by decide +kernel), List.mem_of_getElem? (i := 1071) (by decide +kernel)⟩
theorem lw_p27 : lw_okq (⟨"CardHall$Count", "add", "(III)V"⟩, 17) := ⟨⟨by decide +kernel, by decide +kernel⟩, List.mem_of_getElem? (i := 306) (by decide +kernel), List.mem_of_getElem? (i := 1074) (by decide +kernel), List.mem_of_getElem? (i := 1075) (by decide +kernel)⟩
theorem lw_p28 : lw_okq (⟨"CardHall$Count", "endSum", "()V"⟩, 17) := ⟨⟨by decide +kernel, by decide +kernel⟩, List.mem_of_getElem? (i := 306) (by decide +kernel), List.mem_of_getElem? (i := 1078) (by decide +kernel), List.mem_of_getElem? (i := 1079) (by decide +kernel)⟩
theorem lw_p29 : lw_okq (⟨"CardHall$Chair", "decideOn", "(II)I"⟩, 9) := ⟨⟨by decide +kernel, by decide +kernel⟩, List.mem_of_getElem? (i := 372) (by decide +kernel), List.mem_of_getElem? (i := 1107) (by decide +kernel), List.mem_of_getElem? (i := 1108) (by decide +kernel)⟩
theorem lw_p30 : lw_okq (⟨"CardHall$Floor", "copyToTrial", "(I)V"⟩, 9) := ⟨⟨by decide +kernel, by decide +kernel⟩, List.mem_of_getElem? (i := 261) (by decide +kernel), List.mem_of_getElem? (i := 1127) (by decide +kernel), List.mem_of_getElem? (i := 1128) (by decide +kernel)⟩
theorem lw_p31 : lw_okq (⟨"CardHall$Floor", "amendRow", "(II)V"⟩, 9) := ⟨⟨by decide +kernel, by decide +kernel⟩, List.mem_of_getElem? (i := 261) (by decide +kernel), List.mem_of_getElem? (i := 1148) (by decide +kernel), List.mem_of_getElem? (i := 1149) (by decide +kernel)⟩
def lw_privs_2 : List (MethodName × Nat) := [(⟨"CardHall$OrdersReader", "factOfCards", "()I"⟩, 3), (⟨"CardHall$OrdersReader", "factOfLate", "()I"⟩, 3), (⟨"CardHall$OrdersReader", "factOfPass", "()I"⟩, 3), (⟨"CardHall$OrdersReader", "takeComparison", "()I"⟩, 3), (⟨"CardHall$LineReader", "readLine", "(J)I"⟩, 4), (⟨"CardHall$LineReader", "takeWord", "(Ljava/lang/String;)Z"⟩, 4), (⟨"CardHall$LineReader", "keep", "(II)V"⟩, 4), (⟨"CardHall", "isLate", "()Z"⟩, 10), (⟨"CardHall", "isTakenLate", "(II)Z"⟩, 10), (⟨"CardHall$LineReader", "readChange", "(I)Z"⟩, 4), (⟨"CardHall$Count", "beginSum", "()V"⟩, 17), (⟨"CardHall$Count", "add", "(III)V"⟩, 17), (⟨"CardHall$Count", "endSum", "()V"⟩, 17), (⟨"CardHall$Chair", "decideOn", "(II)I"⟩, 9), (⟨"CardHall$Floor", "copyToTrial", "(I)V"⟩, 9), (⟨"CardHall$Floor", "amendRow", "(II)V"⟩, 9)]
theorem lw_r2 : ∀ q ∈ lw_privs_2, lw_okq q := List.forall_mem_cons.mpr ⟨lw_p16, List.forall_mem_cons.mpr ⟨lw_p17, List.forall_mem_cons.mpr ⟨lw_p18, List.forall_mem_cons.mpr ⟨lw_p19, List.forall_mem_cons.mpr ⟨lw_p20, List.forall_mem_cons.mpr ⟨lw_p21, List.forall_mem_cons.mpr ⟨lw_p22, List.forall_mem_cons.mpr ⟨lw_p23, List.forall_mem_cons.mpr ⟨lw_p24, List.forall_mem_cons.mpr ⟨lw_p25, List.forall_mem_cons.mpr ⟨lw_p26, List.forall_mem_cons.mpr ⟨lw_p27, List.forall_mem_cons.mpr ⟨lw_p28, List.forall_mem_cons.mpr ⟨lw_p29, List.forall_mem_cons.mpr ⟨lw_p30, List.forall_mem_cons.mpr ⟨lw_p31, fun _ h => absurd h List.not_mem_nil⟩⟩⟩⟩⟩⟩⟩⟩⟩⟩⟩⟩⟩⟩⟩⟩
theorem lw_p32 : lw_okq (⟨"CardHall$Floor", "find", "(II)I"⟩, 9) := ⟨⟨by decide +kernel, by decide +kernel⟩, List.mem_of_getElem? (i := 261) (by decide +kernel), List.mem_of_getElem? (i := 1155) (by decide +kernel), List.mem_of_getElem? (i := 1156) (by decide +kernel)⟩
theorem lw_p33 : lw_okq (⟨"CardHall$Floor", "strikeLine", "(II)V"⟩, 9) := ⟨⟨by decide +kernel, by decide +kernel⟩, List.mem_of_getElem? (i := 261) (by decide +kernel), List.mem_of_getElem? (i := 1159) (by decide +kernel), List.mem_of_getElem? (i := 1160) (by decide +kernel)⟩
theorem lw_p34 : lw_okq (⟨"CardHall$Floor", "turnLine", "(III)V"⟩, 9) := ⟨⟨by decide +kernel, by decide +kernel⟩, List.mem_of_getElem? (i := 261) (by decide +kernel), List.mem_of_getElem? (i := 1163) (by decide +kernel), List.mem_of_getElem? (i := 1164) (by decide +kernel)⟩
theorem lw_p35 : lw_okq (⟨"CardHall$Chair", "writeRow", "(IIZ)V"⟩, 9) := ⟨⟨by decide +kernel, by decide +kernel⟩, List.mem_of_getElem? (i := 372) (by decide +kernel), List.mem_of_getElem? (i := 1175) (by decide +kernel), List.mem_of_getElem? (i := 1176) (by decide +kernel)⟩
theorem lw_p36 : lw_okq (⟨"CardHall$Chair", "carryOut", "(IZ)V"⟩, 9) := ⟨⟨by decide +kernel, by decide +kernel⟩, List.mem_of_getElem? (i := 372) (by decide +kernel), List.mem_of_getElem? (i := 1186) (by decide +kernel), List.mem_of_getElem? (i := 1187) (by decide +kernel)⟩
theorem lw_p37 : lw_okq (⟨"CardHall$Composer", "choose", "(I)V"⟩, 18) := ⟨⟨by decide +kernel, by decide +kernel⟩, List.mem_of_getElem? (i := 409) (by decide +kernel), List.mem_of_getElem? (i := 1255) (by decide +kernel), List.mem_of_getElem? (i := 1256) (by decide +kernel)⟩
theorem lw_p38 : lw_okq (⟨"CardHall$Composer", "compose", "(I)I"⟩, 18) := ⟨⟨by decide +kernel, by decide +kernel⟩, List.mem_of_getElem? (i := 409) (by decide +kernel), List.mem_of_getElem? (i := 1272) (by decide +kernel), List.mem_of_getElem? (i := 1273) (by decide +kernel)⟩
theorem lw_p39 : lw_okq (⟨"CardHall$Composer", "gather", "(I)Z"⟩, 18) := ⟨⟨by decide +kernel, by decide +kernel⟩, List.mem_of_getElem? (i := 409) (by decide +kernel), List.mem_of_getElem? (i := 1276) (by decide +kernel), List.mem_of_getElem? (i := 1277) (by decide +kernel)⟩
theorem lw_p40 : lw_okq (⟨"CardHall$Composer", "share", "(J)V"⟩, 18) := ⟨⟨by decide +kernel, by decide +kernel⟩, List.mem_of_getElem? (i := 409) (by decide +kernel), List.mem_of_getElem? (i := 1284) (by decide +kernel), List.mem_of_getElem? (i := 1285) (by decide +kernel)⟩
theorem lw_p41 : lw_okq (⟨"CardHall$Composer", "keepUpTo", "(I)V"⟩, 18) := ⟨⟨by decide +kernel, by decide +kernel⟩, List.mem_of_getElem? (i := 409) (by decide +kernel), List.mem_of_getElem? (i := 1294) (by decide +kernel), List.mem_of_getElem? (i := 1295) (by decide +kernel)⟩
theorem lw_p42 : lw_okq (⟨"CardHall$Composer", "keepIfBetter", "()V"⟩, 18) := ⟨⟨by decide +kernel, by decide +kernel⟩, List.mem_of_getElem? (i := 409) (by decide +kernel), List.mem_of_getElem? (i := 1322) (by decide +kernel), List.mem_of_getElem? (i := 1323) (by decide +kernel)⟩
theorem lw_p43 : lw_okq (⟨"CardHall$Composer", "groupsAhead", "(I)I"⟩, 18) := ⟨⟨by decide +kernel, by decide +kernel⟩, List.mem_of_getElem? (i := 409) (by decide +kernel), List.mem_of_getElem? (i := 1326) (by decide +kernel), List.mem_of_getElem? (i := 1327) (by decide +kernel)⟩
theorem lw_p44 : lw_okq (⟨"CardHall$Composer", "lostByGroups", "()I"⟩, 18) := ⟨⟨by decide +kernel, by decide +kernel⟩, List.mem_of_getElem? (i := 409) (by decide +kernel), List.mem_of_getElem? (i := 1331) (by decide +kernel), List.mem_of_getElem? (i := 1332) (by decide +kernel)⟩
theorem lw_p45 : lw_okq (⟨"CardHall$Composer", "nextGrouping", "()Z"⟩, 18) := ⟨⟨by decide +kernel, by decide +kernel⟩, List.mem_of_getElem? (i := 409) (by decide +kernel), List.mem_of_getElem? (i := 1336) (by decide +kernel), List.mem_of_getElem? (i := 1337) (by decide +kernel)⟩
theorem lw_p46 : lw_okq (⟨"CardHall$Worths", "countMotion", "(ILCardHall$Rules;)V"⟩, 16) := ⟨⟨by decide +kernel, by decide +kernel⟩, List.mem_of_getElem? (i := 470) (by decide +kernel), List.mem_of_getElem? (i := 1380) (by decide +kernel), List.mem_of_getElem? (i := 1381) (by decide +kernel)⟩
theorem lw_p47 : lw_okq (⟨"CardHall$Worths", "passesNow", "(LCardHall$Rules;I)I"⟩, 16) := ⟨⟨by decide +kernel, by decide +kernel⟩, List.mem_of_getElem? (i := 470) (by decide +kernel), List.mem_of_getElem? (i := 1387) (by decide +kernel), List.mem_of_getElem? (i := 1388) (by decide +kernel)⟩
def lw_privs_3 : List (MethodName × Nat) := [(⟨"CardHall$Floor", "find", "(II)I"⟩, 9), (⟨"CardHall$Floor", "strikeLine", "(II)V"⟩, 9), (⟨"CardHall$Floor", "turnLine", "(III)V"⟩, 9), (⟨"CardHall$Chair", "writeRow", "(IIZ)V"⟩, 9), (⟨"CardHall$Chair", "carryOut", "(IZ)V"⟩, 9), (⟨"CardHall$Composer", "choose", "(I)V"⟩, 18), (⟨"CardHall$Composer", "compose", "(I)I"⟩, 18), (⟨"CardHall$Composer", "gather", "(I)Z"⟩, 18), (⟨"CardHall$Composer", "share", "(J)V"⟩, 18), (⟨"CardHall$Composer", "keepUpTo", "(I)V"⟩, 18), (⟨"CardHall$Composer", "keepIfBetter", "()V"⟩, 18), (⟨"CardHall$Composer", "groupsAhead", "(I)I"⟩, 18), (⟨"CardHall$Composer", "lostByGroups", "()I"⟩, 18), (⟨"CardHall$Composer", "nextGrouping", "()Z"⟩, 18), (⟨"CardHall$Worths", "countMotion", "(ILCardHall$Rules;)V"⟩, 16), (⟨"CardHall$Worths", "passesNow", "(LCardHall$Rules;I)I"⟩, 16)]
theorem lw_r3 : ∀ q ∈ lw_privs_3, lw_okq q := List.forall_mem_cons.mpr ⟨lw_p32, List.forall_mem_cons.mpr ⟨lw_p33, List.forall_mem_cons.mpr ⟨lw_p34, List.forall_mem_cons.mpr ⟨lw_p35, List.forall_mem_cons.mpr ⟨lw_p36, List.forall_mem_cons.mpr ⟨lw_p37, List.forall_mem_cons.mpr ⟨lw_p38, List.forall_mem_cons.mpr ⟨lw_p39, List.forall_mem_cons.mpr ⟨lw_p40, List.forall_mem_cons.mpr ⟨lw_p41, List.forall_mem_cons.mpr ⟨lw_p42, List.forall_mem_cons.mpr ⟨lw_p43, List.forall_mem_cons.mpr ⟨lw_p44, List.forall_mem_cons.mpr ⟨lw_p45, List.forall_mem_cons.mpr ⟨lw_p46, List.forall_mem_cons.mpr ⟨lw_p47, fun _ h => absurd h List.not_mem_nil⟩⟩⟩⟩⟩⟩⟩⟩⟩⟩⟩⟩⟩⟩⟩⟩
theorem lw_p48 : lw_okq (⟨"CardHall$Worths", "contraryTo", "(I)I"⟩, 16) := ⟨⟨by decide +kernel, by decide +kernel⟩, List.mem_of_getElem? (i := 470) (by decide +kernel), List.mem_of_getElem? (i := 1392) (by decide +kernel), List.mem_of_getElem? (i := 1393) (by decide +kernel)⟩
theorem lw_p49 : lw_okq (⟨"CardHall$Worths", "worthFor", "(II)I"⟩, 16) := ⟨⟨by decide +kernel, by decide +kernel⟩, List.mem_of_getElem? (i := 470) (by decide +kernel), List.mem_of_getElem? (i := 1408) (by decide +kernel), List.mem_of_getElem? (i := 1409) (by decide +kernel)⟩
theorem lw_p50 : lw_okq (⟨"CardHall$Worths", "nextOrder", "()Z"⟩, 16) := ⟨⟨by decide +kernel, by decide +kernel⟩, List.mem_of_getElem? (i := 470) (by decide +kernel), List.mem_of_getElem? (i := 1423) (by decide +kernel), List.mem_of_getElem? (i := 1424) (by decide +kernel)⟩
theorem lw_p51 : lw_okq (⟨"CardHall$Worths", "swap", "(II)V"⟩, 16) := ⟨⟨by decide +kernel, by decide +kernel⟩, List.mem_of_getElem? (i := 470) (by decide +kernel), List.mem_of_getElem? (i := 1427) (by decide +kernel), List.mem_of_getElem? (i := 1428) (by decide +kernel)⟩
theorem lw_p52 : lw_okq (⟨"CardHall$Worths", "findChanges", "(I)V"⟩, 16) := ⟨⟨by decide +kernel, by decide +kernel⟩, List.mem_of_getElem? (i := 470) (by decide +kernel), List.mem_of_getElem? (i := 1443) (by decide +kernel), List.mem_of_getElem? (i := 1444) (by decide +kernel)⟩
theorem lw_p53 : lw_okq (⟨"CardHall$Worths", "findDealOf", "(II)V"⟩, 16) := ⟨⟨by decide +kernel, by decide +kernel⟩, List.mem_of_getElem? (i := 470) (by decide +kernel), List.mem_of_getElem? (i := 1451) (by decide +kernel), List.mem_of_getElem? (i := 1452) (by decide +kernel)⟩
theorem lw_p54 : lw_okq (⟨"CardHall$Worths", "keepIfBetter", "(IIII)V"⟩, 16) := ⟨⟨by decide +kernel, by decide +kernel⟩, List.mem_of_getElem? (i := 470) (by decide +kernel), List.mem_of_getElem? (i := 1455) (by decide +kernel), List.mem_of_getElem? (i := 1456) (by decide +kernel)⟩
theorem lw_p55 : lw_okq (⟨"java/lang/Throwable", "fillInStackTrace", "(I)Ljava/lang/Throwable;"⟩, 6) := ⟨⟨by decide +kernel, by decide +kernel⟩, List.mem_of_getElem? (i := 1516) (by decide +kernel), List.mem_of_getElem? (i := 1514) (by decide +kernel), List.mem_of_getElem? (i := 1515) (by decide +kernel)⟩
theorem lw_p56 : lw_okq (⟨"CardHallModel", "isAffiliate", "(I)Z"⟩, 90) := ⟨⟨by decide +kernel, by decide +kernel⟩, List.mem_of_getElem? (i := 1550) (by decide +kernel), List.mem_of_getElem? (i := 1839) (by decide +kernel), List.mem_of_getElem? (i := 1840) (by decide +kernel)⟩
theorem lw_p57 : lw_okq (⟨"CardHallModel", "isMatter", "(I)Z"⟩, 90) := ⟨⟨by decide +kernel, by decide +kernel⟩, List.mem_of_getElem? (i := 1550) (by decide +kernel), List.mem_of_getElem? (i := 1856) (by decide +kernel), List.mem_of_getElem? (i := 1857) (by decide +kernel)⟩
theorem lw_p58 : lw_okq (⟨"CardHallModel", "isMotion", "(I)Z"⟩, 90) := ⟨⟨by decide +kernel, by decide +kernel⟩, List.mem_of_getElem? (i := 1550) (by decide +kernel), List.mem_of_getElem? (i := 1860) (by decide +kernel), List.mem_of_getElem? (i := 1861) (by decide +kernel)⟩
theorem lw_p59 : lw_okq (⟨"CardHallModel", "howOf", "(I)I"⟩, 90) := ⟨⟨by decide +kernel, by decide +kernel⟩, List.mem_of_getElem? (i := 1550) (by decide +kernel), List.mem_of_getElem? (i := 1864) (by decide +kernel), List.mem_of_getElem? (i := 1865) (by decide +kernel)⟩
theorem lw_p60 : lw_okq (⟨"CardHallModel", "tells", "(IIII)Z"⟩, 90) := ⟨⟨by decide +kernel, by decide +kernel⟩, List.mem_of_getElem? (i := 1550) (by decide +kernel), List.mem_of_getElem? (i := 1880) (by decide +kernel), List.mem_of_getElem? (i := 1881) (by decide +kernel)⟩
theorem lw_p61 : lw_okq (⟨"CardHallModel", "mandateOf", "(III)I"⟩, 90) := ⟨⟨by decide +kernel, by decide +kernel⟩, List.mem_of_getElem? (i := 1550) (by decide +kernel), List.mem_of_getElem? (i := 1897) (by decide +kernel), List.mem_of_getElem? (i := 1898) (by decide +kernel)⟩
theorem lw_p62 : lw_okq (⟨"CardHallModel", "toldBy", "(IIIII)I"⟩, 90) := ⟨⟨by decide +kernel, by decide +kernel⟩, List.mem_of_getElem? (i := 1550) (by decide +kernel), List.mem_of_getElem? (i := 1901) (by decide +kernel), List.mem_of_getElem? (i := 1902) (by decide +kernel)⟩
theorem lw_p63 : lw_okq (⟨"CardHallModel", "hasBind", "()Z"⟩, 90) := ⟨⟨by decide +kernel, by decide +kernel⟩, List.mem_of_getElem? (i := 1550) (by decide +kernel), List.mem_of_getElem? (i := 1905) (by decide +kernel), List.mem_of_getElem? (i := 1906) (by decide +kernel)⟩
def lw_privs_4 : List (MethodName × Nat) := [(⟨"CardHall$Worths", "contraryTo", "(I)I"⟩, 16), (⟨"CardHall$Worths", "worthFor", "(II)I"⟩, 16), (⟨"CardHall$Worths", "nextOrder", "()Z"⟩, 16), (⟨"CardHall$Worths", "swap", "(II)V"⟩, 16), (⟨"CardHall$Worths", "findChanges", "(I)V"⟩, 16), (⟨"CardHall$Worths", "findDealOf", "(II)V"⟩, 16), (⟨"CardHall$Worths", "keepIfBetter", "(IIII)V"⟩, 16), (⟨"java/lang/Throwable", "fillInStackTrace", "(I)Ljava/lang/Throwable;"⟩, 6), (⟨"CardHallModel", "isAffiliate", "(I)Z"⟩, 90), (⟨"CardHallModel", "isMatter", "(I)Z"⟩, 90), (⟨"CardHallModel", "isMotion", "(I)Z"⟩, 90), (⟨"CardHallModel", "howOf", "(I)I"⟩, 90), (⟨"CardHallModel", "tells", "(IIII)Z"⟩, 90), (⟨"CardHallModel", "mandateOf", "(III)I"⟩, 90), (⟨"CardHallModel", "toldBy", "(IIIII)I"⟩, 90), (⟨"CardHallModel", "hasBind", "()Z"⟩, 90)]
theorem lw_r4 : ∀ q ∈ lw_privs_4, lw_okq q := List.forall_mem_cons.mpr ⟨lw_p48, List.forall_mem_cons.mpr ⟨lw_p49, List.forall_mem_cons.mpr ⟨lw_p50, List.forall_mem_cons.mpr ⟨lw_p51, List.forall_mem_cons.mpr ⟨lw_p52, List.forall_mem_cons.mpr ⟨lw_p53, List.forall_mem_cons.mpr ⟨lw_p54, List.forall_mem_cons.mpr ⟨lw_p55, List.forall_mem_cons.mpr ⟨lw_p56, List.forall_mem_cons.mpr ⟨lw_p57, List.forall_mem_cons.mpr ⟨lw_p58, List.forall_mem_cons.mpr ⟨lw_p59, List.forall_mem_cons.mpr ⟨lw_p60, List.forall_mem_cons.mpr ⟨lw_p61, List.forall_mem_cons.mpr ⟨lw_p62, List.forall_mem_cons.mpr ⟨lw_p63, fun _ h => absurd h List.not_mem_nil⟩⟩⟩⟩⟩⟩⟩⟩⟩⟩⟩⟩⟩⟩⟩⟩
theorem lw_p64 : lw_okq (⟨"CardHallModel", "clause", "(I)I"⟩, 90) := ⟨⟨by decide +kernel, by decide +kernel⟩, List.mem_of_getElem? (i := 1550) (by decide +kernel), List.mem_of_getElem? (i := 1909) (by decide +kernel), List.mem_of_getElem? (i := 1910) (by decide +kernel)⟩
theorem lw_p65 : lw_okq (⟨"CardHallModel", "isKnown", "(I)Z"⟩, 90) := ⟨⟨by decide +kernel, by decide +kernel⟩, List.mem_of_getElem? (i := 1550) (by decide +kernel), List.mem_of_getElem? (i := 1917) (by decide +kernel), List.mem_of_getElem? (i := 1918) (by decide +kernel)⟩
theorem lw_p66 : lw_okq (⟨"CardHallModel", "voiceOf", "(III)I"⟩, 90) := ⟨⟨by decide +kernel, by decide +kernel⟩, List.mem_of_getElem? (i := 1550) (by decide +kernel), List.mem_of_getElem? (i := 1921) (by decide +kernel), List.mem_of_getElem? (i := 1922) (by decide +kernel)⟩
theorem lw_p67 : lw_okq (⟨"CardHallModel", "starts", "()V"⟩, 90) := ⟨⟨by decide +kernel, by decide +kernel⟩, List.mem_of_getElem? (i := 1550) (by decide +kernel), List.mem_of_getElem? (i := 1945) (by decide +kernel), List.mem_of_getElem? (i := 1946) (by decide +kernel)⟩
theorem lw_p68 : lw_okq (⟨"CardHallModel", "next", "()V"⟩, 90) := ⟨⟨by decide +kernel, by decide +kernel⟩, List.mem_of_getElem? (i := 1550) (by decide +kernel), List.mem_of_getElem? (i := 1949) (by decide +kernel), List.mem_of_getElem? (i := 1950) (by decide +kernel)⟩
theorem lw_p69 : lw_okq (⟨"CardHallModel", "see", "(I)I"⟩, 90) := ⟨⟨by decide +kernel, by decide +kernel⟩, List.mem_of_getElem? (i := 1550) (by decide +kernel), List.mem_of_getElem? (i := 1956) (by decide +kernel), List.mem_of_getElem? (i := 1957) (by decide +kernel)⟩
theorem lw_p70 : lw_okq (⟨"CardHallModel", "isWell", "()Z"⟩, 90) := ⟨⟨by decide +kernel, by decide +kernel⟩, List.mem_of_getElem? (i := 1550) (by decide +kernel), List.mem_of_getElem? (i := 1963) (by decide +kernel), List.mem_of_getElem? (i := 1964) (by decide +kernel)⟩
theorem lw_p71 : lw_okq (⟨"CardHallModel", "readClause", "()V"⟩, 90) := ⟨⟨by decide +kernel, by decide +kernel⟩, List.mem_of_getElem? (i := 1550) (by decide +kernel), List.mem_of_getElem? (i := 1967) (by decide +kernel), List.mem_of_getElem? (i := 1968) (by decide +kernel)⟩
theorem lw_p72 : lw_okq (⟨"CardHallModel", "clauseKind", "()I"⟩, 90) := ⟨⟨by decide +kernel, by decide +kernel⟩, List.mem_of_getElem? (i := 1550) (by decide +kernel), List.mem_of_getElem? (i := 1971) (by decide +kernel), List.mem_of_getElem? (i := 1972) (by decide +kernel)⟩
theorem lw_p73 : lw_okq (⟨"CardHallModel", "isWord", "(Ljava/lang/String;)Z"⟩, 90) := ⟨⟨by decide +kernel, by decide +kernel⟩, List.mem_of_getElem? (i := 1550) (by decide +kernel), List.mem_of_getElem? (i := 1976) (by decide +kernel), List.mem_of_getElem? (i := 1977) (by decide +kernel)⟩
theorem lw_p74 : lw_okq (⟨"CardHallModel", "fails", "(I)V"⟩, 90) := ⟨⟨by decide +kernel, by decide +kernel⟩, List.mem_of_getElem? (i := 1550) (by decide +kernel), List.mem_of_getElem? (i := 1987) (by decide +kernel), List.mem_of_getElem? (i := 1988) (by decide +kernel)⟩
theorem lw_p75 : lw_okq (⟨"CardHallModel", "readNumber", "(I)I"⟩, 90) := ⟨⟨by decide +kernel, by decide +kernel⟩, List.mem_of_getElem? (i := 1550) (by decide +kernel), List.mem_of_getElem? (i := 1994) (by decide +kernel), List.mem_of_getElem? (i := 1995) (by decide +kernel)⟩
theorem lw_p76 : lw_okq (⟨"CardHallModel", "sum", "()V"⟩, 90) := ⟨⟨by decide +kernel, by decide +kernel⟩, List.mem_of_getElem? (i := 1550) (by decide +kernel), List.mem_of_getElem? (i := 1998) (by decide +kernel), List.mem_of_getElem? (i := 1999) (by decide +kernel)⟩
theorem lw_p77 : lw_okq (⟨"CardHallModel", "product", "()V"⟩, 90) := ⟨⟨by decide +kernel, by decide +kernel⟩, List.mem_of_getElem? (i := 1550) (by decide +kernel), List.mem_of_getElem? (i := 2002) (by decide +kernel), List.mem_of_getElem? (i := 2003) (by decide +kernel)⟩
theorem lw_p78 : lw_okq (⟨"CardHallModel", "factor", "()V"⟩, 90) := ⟨⟨by decide +kernel, by decide +kernel⟩, List.mem_of_getElem? (i := 1550) (by decide +kernel), List.mem_of_getElem? (i := 2006) (by decide +kernel), List.mem_of_getElem? (i := 2007) (by decide +kernel)⟩
theorem lw_p79 : lw_okq (⟨"CardHallModel", "emits", "(I)V"⟩, 90) := ⟨⟨by decide +kernel, by decide +kernel⟩, List.mem_of_getElem? (i := 1550) (by decide +kernel), List.mem_of_getElem? (i := 2010) (by decide +kernel), List.mem_of_getElem? (i := 2011) (by decide +kernel)⟩
def lw_privs_5 : List (MethodName × Nat) := [(⟨"CardHallModel", "clause", "(I)I"⟩, 90), (⟨"CardHallModel", "isKnown", "(I)Z"⟩, 90), (⟨"CardHallModel", "voiceOf", "(III)I"⟩, 90), (⟨"CardHallModel", "starts", "()V"⟩, 90), (⟨"CardHallModel", "next", "()V"⟩, 90), (⟨"CardHallModel", "see", "(I)I"⟩, 90), (⟨"CardHallModel", "isWell", "()Z"⟩, 90), (⟨"CardHallModel", "readClause", "()V"⟩, 90), (⟨"CardHallModel", "clauseKind", "()I"⟩, 90), (⟨"CardHallModel", "isWord", "(Ljava/lang/String;)Z"⟩, 90), (⟨"CardHallModel", "fails", "(I)V"⟩, 90), (⟨"CardHallModel", "readNumber", "(I)I"⟩, 90), (⟨"CardHallModel", "sum", "()V"⟩, 90), (⟨"CardHallModel", "product", "()V"⟩, 90), (⟨"CardHallModel", "factor", "()V"⟩, 90), (⟨"CardHallModel", "emits", "(I)V"⟩, 90)]
theorem lw_r5 : ∀ q ∈ lw_privs_5, lw_okq q := List.forall_mem_cons.mpr ⟨lw_p64, List.forall_mem_cons.mpr ⟨lw_p65, List.forall_mem_cons.mpr ⟨lw_p66, List.forall_mem_cons.mpr ⟨lw_p67, List.forall_mem_cons.mpr ⟨lw_p68, List.forall_mem_cons.mpr ⟨lw_p69, List.forall_mem_cons.mpr ⟨lw_p70, List.forall_mem_cons.mpr ⟨lw_p71, List.forall_mem_cons.mpr ⟨lw_p72, List.forall_mem_cons.mpr ⟨lw_p73, List.forall_mem_cons.mpr ⟨lw_p74, List.forall_mem_cons.mpr ⟨lw_p75, List.forall_mem_cons.mpr ⟨lw_p76, List.forall_mem_cons.mpr ⟨lw_p77, List.forall_mem_cons.mpr ⟨lw_p78, List.forall_mem_cons.mpr ⟨lw_p79, fun _ h => absurd h List.not_mem_nil⟩⟩⟩⟩⟩⟩⟩⟩⟩⟩⟩⟩⟩⟩⟩⟩
theorem lw_p80 : lw_okq (⟨"CardHallModel", "name", "()I"⟩, 90) := ⟨⟨by decide +kernel, by decide +kernel⟩, List.mem_of_getElem? (i := 1550) (by decide +kernel), List.mem_of_getElem? (i := 2014) (by decide +kernel), List.mem_of_getElem? (i := 2015) (by decide +kernel)⟩
theorem lw_p81 : lw_okq (⟨"CardHallModel", "isSign", "(I)Z"⟩, 90) := ⟨⟨by decide +kernel, by decide +kernel⟩, List.mem_of_getElem? (i := 1550) (by decide +kernel), List.mem_of_getElem? (i := 2029) (by decide +kernel), List.mem_of_getElem? (i := 2030) (by decide +kernel)⟩
theorem lw_p82 : lw_okq (⟨"CardHallModel", "opens", "()V"⟩, 90) := ⟨⟨by decide +kernel, by decide +kernel⟩, List.mem_of_getElem? (i := 1550) (by decide +kernel), List.mem_of_getElem? (i := 2033) (by decide +kernel), List.mem_of_getElem? (i := 2034) (by decide +kernel)⟩
theorem lw_p83 : lw_okq (⟨"CardHallModel", "wantSign", "(I)V"⟩, 90) := ⟨⟨by decide +kernel, by decide +kernel⟩, List.mem_of_getElem? (i := 1550) (by decide +kernel), List.mem_of_getElem? (i := 2037) (by decide +kernel), List.mem_of_getElem? (i := 2038) (by decide +kernel)⟩
theorem lw_p84 : lw_okq (⟨"CardHallModel", "wantWord", "(Ljava/lang/String;)V"⟩, 90) := ⟨⟨by decide +kernel, by decide +kernel⟩, List.mem_of_getElem? (i := 1550) (by decide +kernel), List.mem_of_getElem? (i := 2042) (by decide +kernel), List.mem_of_getElem? (i := 2043) (by decide +kernel)⟩
theorem lw_p85 : lw_okq (⟨"CardHallModel", "cond", "()V"⟩, 90) := ⟨⟨by decide +kernel, by decide +kernel⟩, List.mem_of_getElem? (i := 1550) (by decide +kernel), List.mem_of_getElem? (i := 2046) (by decide +kernel), List.mem_of_getElem? (i := 2047) (by decide +kernel)⟩
theorem lw_p86 : lw_okq (⟨"CardHallModel", "both", "()V"⟩, 90) := ⟨⟨by decide +kernel, by decide +kernel⟩, List.mem_of_getElem? (i := 1550) (by decide +kernel), List.mem_of_getElem? (i := 2050) (by decide +kernel), List.mem_of_getElem? (i := 2051) (by decide +kernel)⟩
theorem lw_p87 : lw_okq (⟨"CardHallModel", "part", "()V"⟩, 90) := ⟨⟨by decide +kernel, by decide +kernel⟩, List.mem_of_getElem? (i := 1550) (by decide +kernel), List.mem_of_getElem? (i := 2054) (by decide +kernel), List.mem_of_getElem? (i := 2055) (by decide +kernel)⟩
theorem lw_p88 : lw_okq (⟨"CardHallModel", "compares", "()V"⟩, 90) := ⟨⟨by decide +kernel, by decide +kernel⟩, List.mem_of_getElem? (i := 1550) (by decide +kernel), List.mem_of_getElem? (i := 2059) (by decide +kernel), List.mem_of_getElem? (i := 2060) (by decide +kernel)⟩
theorem lw_p89 : lw_okq (⟨"CardHallModel", "stops", "()I"⟩, 90) := ⟨⟨by decide +kernel, by decide +kernel⟩, List.mem_of_getElem? (i := 1550) (by decide +kernel), List.mem_of_getElem? (i := 2065) (by decide +kernel), List.mem_of_getElem? (i := 2066) (by decide +kernel)⟩
theorem lw_p90 : lw_okq (⟨"CardHallModel", "paidOf", "(II)I"⟩, 90) := ⟨⟨by decide +kernel, by decide +kernel⟩, List.mem_of_getElem? (i := 1550) (by decide +kernel), List.mem_of_getElem? (i := 2073) (by decide +kernel), List.mem_of_getElem? (i := 2074) (by decide +kernel)⟩
theorem lw_p91 : lw_okq (⟨"CardHallModel", "cardsOf", "(II)I"⟩, 90) := ⟨⟨by decide +kernel, by decide +kernel⟩, List.mem_of_getElem? (i := 1550) (by decide +kernel), List.mem_of_getElem? (i := 2081) (by decide +kernel), List.mem_of_getElem? (i := 2082) (by decide +kernel)⟩
theorem lw_p92 : lw_okq (⟨"CardHallModel", "works", "(I)I"⟩, 90) := ⟨⟨by decide +kernel, by decide +kernel⟩, List.mem_of_getElem? (i := 1550) (by decide +kernel), List.mem_of_getElem? (i := 2085) (by decide +kernel), List.mem_of_getElem? (i := 2086) (by decide +kernel)⟩
theorem lw_p93 : lw_okq (⟨"CardHallModel", "findCount", "(IIIIZ)V"⟩, 90) := ⟨⟨by decide +kernel, by decide +kernel⟩, List.mem_of_getElem? (i := 1550) (by decide +kernel), List.mem_of_getElem? (i := 2103) (by decide +kernel), List.mem_of_getElem? (i := 2104) (by decide +kernel)⟩
theorem lw_p94 : lw_okq (⟨"CardHallModel", "counts", "(III)V"⟩, 90) := ⟨⟨by decide +kernel, by decide +kernel⟩, List.mem_of_getElem? (i := 1550) (by decide +kernel), List.mem_of_getElem? (i := 2107) (by decide +kernel), List.mem_of_getElem? (i := 2108) (by decide +kernel)⟩
theorem lw_p95 : lw_okq (⟨"CardHallModel", "readLine", "(II)V"⟩, 90) := ⟨⟨by decide +kernel, by decide +kernel⟩, List.mem_of_getElem? (i := 1550) (by decide +kernel), List.mem_of_getElem? (i := 2118) (by decide +kernel), List.mem_of_getElem? (i := 2119) (by decide +kernel)⟩
def lw_privs_6 : List (MethodName × Nat) := [(⟨"CardHallModel", "name", "()I"⟩, 90), (⟨"CardHallModel", "isSign", "(I)Z"⟩, 90), (⟨"CardHallModel", "opens", "()V"⟩, 90), (⟨"CardHallModel", "wantSign", "(I)V"⟩, 90), (⟨"CardHallModel", "wantWord", "(Ljava/lang/String;)V"⟩, 90), (⟨"CardHallModel", "cond", "()V"⟩, 90), (⟨"CardHallModel", "both", "()V"⟩, 90), (⟨"CardHallModel", "part", "()V"⟩, 90), (⟨"CardHallModel", "compares", "()V"⟩, 90), (⟨"CardHallModel", "stops", "()I"⟩, 90), (⟨"CardHallModel", "paidOf", "(II)I"⟩, 90), (⟨"CardHallModel", "cardsOf", "(II)I"⟩, 90), (⟨"CardHallModel", "works", "(I)I"⟩, 90), (⟨"CardHallModel", "findCount", "(IIIIZ)V"⟩, 90), (⟨"CardHallModel", "counts", "(III)V"⟩, 90), (⟨"CardHallModel", "readLine", "(II)V"⟩, 90)]
theorem lw_r6 : ∀ q ∈ lw_privs_6, lw_okq q := List.forall_mem_cons.mpr ⟨lw_p80, List.forall_mem_cons.mpr ⟨lw_p81, List.forall_mem_cons.mpr ⟨lw_p82, List.forall_mem_cons.mpr ⟨lw_p83, List.forall_mem_cons.mpr ⟨lw_p84, List.forall_mem_cons.mpr ⟨lw_p85, List.forall_mem_cons.mpr ⟨lw_p86, List.forall_mem_cons.mpr ⟨lw_p87, List.forall_mem_cons.mpr ⟨lw_p88, List.forall_mem_cons.mpr ⟨lw_p89, List.forall_mem_cons.mpr ⟨lw_p90, List.forall_mem_cons.mpr ⟨lw_p91, List.forall_mem_cons.mpr ⟨lw_p92, List.forall_mem_cons.mpr ⟨lw_p93, List.forall_mem_cons.mpr ⟨lw_p94, List.forall_mem_cons.mpr ⟨lw_p95, fun _ h => absurd h List.not_mem_nil⟩⟩⟩⟩⟩⟩⟩⟩⟩⟩⟩⟩⟩⟩⟩⟩
theorem lw_p96 : lw_okq (⟨"CardHallModel", "inRow", "(I)I"⟩, 90) := ⟨⟨by decide +kernel, by decide +kernel⟩, List.mem_of_getElem? (i := 1550) (by decide +kernel), List.mem_of_getElem? (i := 2123) (by decide +kernel), List.mem_of_getElem? (i := 2124) (by decide +kernel)⟩
theorem lw_p97 : lw_okq (⟨"CardHallModel", "mayBeLate", "(I)Z"⟩, 90) := ⟨⟨by decide +kernel, by decide +kernel⟩, List.mem_of_getElem? (i := 1550) (by decide +kernel), List.mem_of_getElem? (i := 2128) (by decide +kernel), List.mem_of_getElem? (i := 2129) (by decide +kernel)⟩
theorem lw_p98 : lw_okq (⟨"CardHallModel", "comes", "(I)I"⟩, 90) := ⟨⟨by decide +kernel, by decide +kernel⟩, List.mem_of_getElem? (i := 1550) (by decide +kernel), List.mem_of_getElem? (i := 2132) (by decide +kernel), List.mem_of_getElem? (i := 2133) (by decide +kernel)⟩
theorem lw_p99 : lw_okq (⟨"CardHallModel", "laysRow", "(I)V"⟩, 90) := ⟨⟨by decide +kernel, by decide +kernel⟩, List.mem_of_getElem? (i := 1550) (by decide +kernel), List.mem_of_getElem? (i := 2136) (by decide +kernel), List.mem_of_getElem? (i := 2137) (by decide +kernel)⟩
theorem lw_p100 : lw_okq (⟨"CardHallModel", "isOpen", "(I)Z"⟩, 90) := ⟨⟨by decide +kernel, by decide +kernel⟩, List.mem_of_getElem? (i := 1550) (by decide +kernel), List.mem_of_getElem? (i := 2144) (by decide +kernel), List.mem_of_getElem? (i := 2145) (by decide +kernel)⟩
theorem lw_p101 : lw_okq (⟨"CardHallModel", "readChange", "(II)V"⟩, 90) := ⟨⟨by decide +kernel, by decide +kernel⟩, List.mem_of_getElem? (i := 1550) (by decide +kernel), List.mem_of_getElem? (i := 2148) (by decide +kernel), List.mem_of_getElem? (i := 2149) (by decide +kernel)⟩
theorem lw_p102 : lw_okq (⟨"CardHallModel", "keeps", "()V"⟩, 90) := ⟨⟨by decide +kernel, by decide +kernel⟩, List.mem_of_getElem? (i := 1550) (by decide +kernel), List.mem_of_getElem? (i := 2159) (by decide +kernel), List.mem_of_getElem? (i := 2160) (by decide +kernel)⟩
theorem lw_p103 : lw_okq (⟨"CardHallModel", "copies", "([I[I)V"⟩, 90) := ⟨⟨by decide +kernel, by decide +kernel⟩, List.mem_of_getElem? (i := 1550) (by decide +kernel), List.mem_of_getElem? (i := 2163) (by decide +kernel), List.mem_of_getElem? (i := 2164) (by decide +kernel)⟩
theorem lw_p104 : lw_okq (⟨"CardHallModel", "decides", "(III)I"⟩, 90) := ⟨⟨by decide +kernel, by decide +kernel⟩, List.mem_of_getElem? (i := 1550) (by decide +kernel), List.mem_of_getElem? (i := 2167) (by decide +kernel), List.mem_of_getElem? (i := 2168) (by decide +kernel)⟩
theorem lw_p105 : lw_okq (⟨"CardHallModel", "passes", "(II[I)Z"⟩, 90) := ⟨⟨by decide +kernel, by decide +kernel⟩, List.mem_of_getElem? (i := 1550) (by decide +kernel), List.mem_of_getElem? (i := 2171) (by decide +kernel), List.mem_of_getElem? (i := 2172) (by decide +kernel)⟩
theorem lw_p106 : lw_okq (⟨"CardHallModel", "againstOf", "(I[I)I"⟩, 90) := ⟨⟨by decide +kernel, by decide +kernel⟩, List.mem_of_getElem? (i := 1550) (by decide +kernel), List.mem_of_getElem? (i := 2175) (by decide +kernel), List.mem_of_getElem? (i := 2176) (by decide +kernel)⟩
theorem lw_p107 : lw_okq (⟨"CardHallModel", "takesRow", "(I)V"⟩, 90) := ⟨⟨by decide +kernel, by decide +kernel⟩, List.mem_of_getElem? (i := 1550) (by decide +kernel), List.mem_of_getElem? (i := 2179) (by decide +kernel), List.mem_of_getElem? (i := 2180) (by decide +kernel)⟩
theorem lw_p108 : lw_okq (⟨"CardHallModel", "does", "(I)V"⟩, 90) := ⟨⟨by decide +kernel, by decide +kernel⟩, List.mem_of_getElem? (i := 1550) (by decide +kernel), List.mem_of_getElem? (i := 2183) (by decide +kernel), List.mem_of_getElem? (i := 2184) (by decide +kernel)⟩
theorem lw_p109 : lw_okq (⟨"CardHallModel", "against", "([I)I"⟩, 90) := ⟨⟨by decide +kernel, by decide +kernel⟩, List.mem_of_getElem? (i := 1550) (by decide +kernel), List.mem_of_getElem? (i := 2187) (by decide +kernel), List.mem_of_getElem? (i := 2188) (by decide +kernel)⟩
theorem lw_p110 : lw_okq (⟨"CardHallModel", "passesMotion", "(I)V"⟩, 90) := ⟨⟨by decide +kernel, by decide +kernel⟩, List.mem_of_getElem? (i := 1550) (by decide +kernel), List.mem_of_getElem? (i := 2194) (by decide +kernel), List.mem_of_getElem? (i := 2195) (by decide +kernel)⟩
theorem lw_p111 : lw_okq (⟨"CardHallModel", "settles", "(II)V"⟩, 90) := ⟨⟨by decide +kernel, by decide +kernel⟩, List.mem_of_getElem? (i := 1550) (by decide +kernel), List.mem_of_getElem? (i := 2198) (by decide +kernel), List.mem_of_getElem? (i := 2199) (by decide +kernel)⟩
def lw_privs_7 : List (MethodName × Nat) := [(⟨"CardHallModel", "inRow", "(I)I"⟩, 90), (⟨"CardHallModel", "mayBeLate", "(I)Z"⟩, 90), (⟨"CardHallModel", "comes", "(I)I"⟩, 90), (⟨"CardHallModel", "laysRow", "(I)V"⟩, 90), (⟨"CardHallModel", "isOpen", "(I)Z"⟩, 90), (⟨"CardHallModel", "readChange", "(II)V"⟩, 90), (⟨"CardHallModel", "keeps", "()V"⟩, 90), (⟨"CardHallModel", "copies", "([I[I)V"⟩, 90), (⟨"CardHallModel", "decides", "(III)I"⟩, 90), (⟨"CardHallModel", "passes", "(II[I)Z"⟩, 90), (⟨"CardHallModel", "againstOf", "(I[I)I"⟩, 90), (⟨"CardHallModel", "takesRow", "(I)V"⟩, 90), (⟨"CardHallModel", "does", "(I)V"⟩, 90), (⟨"CardHallModel", "against", "([I)I"⟩, 90), (⟨"CardHallModel", "passesMotion", "(I)V"⟩, 90), (⟨"CardHallModel", "settles", "(II)V"⟩, 90)]
theorem lw_r7 : ∀ q ∈ lw_privs_7, lw_okq q := List.forall_mem_cons.mpr ⟨lw_p96, List.forall_mem_cons.mpr ⟨lw_p97, List.forall_mem_cons.mpr ⟨lw_p98, List.forall_mem_cons.mpr ⟨lw_p99, List.forall_mem_cons.mpr ⟨lw_p100, List.forall_mem_cons.mpr ⟨lw_p101, List.forall_mem_cons.mpr ⟨lw_p102, List.forall_mem_cons.mpr ⟨lw_p103, List.forall_mem_cons.mpr ⟨lw_p104, List.forall_mem_cons.mpr ⟨lw_p105, List.forall_mem_cons.mpr ⟨lw_p106, List.forall_mem_cons.mpr ⟨lw_p107, List.forall_mem_cons.mpr ⟨lw_p108, List.forall_mem_cons.mpr ⟨lw_p109, List.forall_mem_cons.mpr ⟨lw_p110, List.forall_mem_cons.mpr ⟨lw_p111, fun _ h => absurd h List.not_mem_nil⟩⟩⟩⟩⟩⟩⟩⟩⟩⟩⟩⟩⟩⟩⟩⟩
theorem lw_p112 : lw_okq (⟨"CardHallModel", "isContrary", "(II)Z"⟩, 90) := ⟨⟨by decide +kernel, by decide +kernel⟩, List.mem_of_getElem? (i := 1550) (by decide +kernel), List.mem_of_getElem? (i := 2202) (by decide +kernel), List.mem_of_getElem? (i := 2203) (by decide +kernel)⟩
theorem lw_p113 : lw_okq (⟨"CardHallModel", "passesAmend", "(I)V"⟩, 90) := ⟨⟨by decide +kernel, by decide +kernel⟩, List.mem_of_getElem? (i := 1550) (by decide +kernel), List.mem_of_getElem? (i := 2206) (by decide +kernel), List.mem_of_getElem? (i := 2207) (by decide +kernel)⟩
theorem lw_p114 : lw_okq (⟨"CardHallModel", "goesBack", "()V"⟩, 90) := ⟨⟨by decide +kernel, by decide +kernel⟩, List.mem_of_getElem? (i := 1550) (by decide +kernel), List.mem_of_getElem? (i := 2214) (by decide +kernel), List.mem_of_getElem? (i := 2215) (by decide +kernel)⟩
theorem lw_p115 : lw_okq (⟨"CardHallModel", "areOpen", "(III)Z"⟩, 90) := ⟨⟨by decide +kernel, by decide +kernel⟩, List.mem_of_getElem? (i := 1550) (by decide +kernel), List.mem_of_getElem? (i := 2226) (by decide +kernel), List.mem_of_getElem? (i := 2227) (by decide +kernel)⟩
theorem lw_p116 : lw_okq (⟨"CardHallModel", "composes", "(I)Z"⟩, 90) := ⟨⟨by decide +kernel, by decide +kernel⟩, List.mem_of_getElem? (i := 1550) (by decide +kernel), List.mem_of_getElem? (i := 2233) (by decide +kernel), List.mem_of_getElem? (i := 2234) (by decide +kernel)⟩
theorem lw_p117 : lw_okq (⟨"CardHallModel", "length", "()I"⟩, 90) := ⟨⟨by decide +kernel, by decide +kernel⟩, List.mem_of_getElem? (i := 1550) (by decide +kernel), List.mem_of_getElem? (i := 2237) (by decide +kernel), List.mem_of_getElem? (i := 2238) (by decide +kernel)⟩
theorem lw_p118 : lw_okq (⟨"CardHallModel", "groups", "(II)I"⟩, 90) := ⟨⟨by decide +kernel, by decide +kernel⟩, List.mem_of_getElem? (i := 1550) (by decide +kernel), List.mem_of_getElem? (i := 2249) (by decide +kernel), List.mem_of_getElem? (i := 2250) (by decide +kernel)⟩
theorem lw_p119 : lw_okq (⟨"CardHallModel", "groupsOf", "()I"⟩, 90) := ⟨⟨by decide +kernel, by decide +kernel⟩, List.mem_of_getElem? (i := 1550) (by decide +kernel), List.mem_of_getElem? (i := 2253) (by decide +kernel), List.mem_of_getElem? (i := 2254) (by decide +kernel)⟩
theorem lw_p120 : lw_okq (⟨"CardHallModel", "loses", "(I)I"⟩, 90) := ⟨⟨by decide +kernel, by decide +kernel⟩, List.mem_of_getElem? (i := 1550) (by decide +kernel), List.mem_of_getElem? (i := 2257) (by decide +kernel), List.mem_of_getElem? (i := 2258) (by decide +kernel)⟩
theorem lw_p121 : lw_okq (⟨"CardHallModel", "countsUp", "()Z"⟩, 90) := ⟨⟨by decide +kernel, by decide +kernel⟩, List.mem_of_getElem? (i := 1550) (by decide +kernel), List.mem_of_getElem? (i := 2261) (by decide +kernel), List.mem_of_getElem? (i := 2262) (by decide +kernel)⟩
theorem lw_p122 : lw_okq (⟨"CardHallModel", "wouldPass", "(III[I)Z"⟩, 90) := ⟨⟨by decide +kernel, by decide +kernel⟩, List.mem_of_getElem? (i := 1550) (by decide +kernel), List.mem_of_getElem? (i := 2273) (by decide +kernel), List.mem_of_getElem? (i := 2274) (by decide +kernel)⟩
theorem lw_p123 : lw_okq (⟨"CardHallModel", "listsMotions", "(I)V"⟩, 90) := ⟨⟨by decide +kernel, by decide +kernel⟩, List.mem_of_getElem? (i := 1550) (by decide +kernel), List.mem_of_getElem? (i := 2285) (by decide +kernel), List.mem_of_getElem? (i := 2286) (by decide +kernel)⟩
theorem lw_p124 : lw_okq (⟨"CardHallModel", "worthOf", "(I)I"⟩, 90) := ⟨⟨by decide +kernel, by decide +kernel⟩, List.mem_of_getElem? (i := 1550) (by decide +kernel), List.mem_of_getElem? (i := 2289) (by decide +kernel), List.mem_of_getElem? (i := 2290) (by decide +kernel)⟩
theorem lw_p125 : lw_okq (⟨"CardHallModel", "goesOn", "()Z"⟩, 90) := ⟨⟨by decide +kernel, by decide +kernel⟩, List.mem_of_getElem? (i := 1550) (by decide +kernel), List.mem_of_getElem? (i := 2297) (by decide +kernel), List.mem_of_getElem? (i := 2298) (by decide +kernel)⟩
theorem lw_p126 : lw_okq (⟨"CardHallModel", "swaps", "(II)V"⟩, 90) := ⟨⟨by decide +kernel, by decide +kernel⟩, List.mem_of_getElem? (i := 1550) (by decide +kernel), List.mem_of_getElem? (i := 2301) (by decide +kernel), List.mem_of_getElem? (i := 2302) (by decide +kernel)⟩
theorem lw_p127 : lw_okq (⟨"CardHallModel", "findDeal", "()Z"⟩, 90) := ⟨⟨by decide +kernel, by decide +kernel⟩, List.mem_of_getElem? (i := 1550) (by decide +kernel), List.mem_of_getElem? (i := 2309) (by decide +kernel), List.mem_of_getElem? (i := 2310) (by decide +kernel)⟩
def lw_privs_8 : List (MethodName × Nat) := [(⟨"CardHallModel", "isContrary", "(II)Z"⟩, 90), (⟨"CardHallModel", "passesAmend", "(I)V"⟩, 90), (⟨"CardHallModel", "goesBack", "()V"⟩, 90), (⟨"CardHallModel", "areOpen", "(III)Z"⟩, 90), (⟨"CardHallModel", "composes", "(I)Z"⟩, 90), (⟨"CardHallModel", "length", "()I"⟩, 90), (⟨"CardHallModel", "groups", "(II)I"⟩, 90), (⟨"CardHallModel", "groupsOf", "()I"⟩, 90), (⟨"CardHallModel", "loses", "(I)I"⟩, 90), (⟨"CardHallModel", "countsUp", "()Z"⟩, 90), (⟨"CardHallModel", "wouldPass", "(III[I)Z"⟩, 90), (⟨"CardHallModel", "listsMotions", "(I)V"⟩, 90), (⟨"CardHallModel", "worthOf", "(I)I"⟩, 90), (⟨"CardHallModel", "goesOn", "()Z"⟩, 90), (⟨"CardHallModel", "swaps", "(II)V"⟩, 90), (⟨"CardHallModel", "findDeal", "()Z"⟩, 90)]
theorem lw_r8 : ∀ q ∈ lw_privs_8, lw_okq q := List.forall_mem_cons.mpr ⟨lw_p112, List.forall_mem_cons.mpr ⟨lw_p113, List.forall_mem_cons.mpr ⟨lw_p114, List.forall_mem_cons.mpr ⟨lw_p115, List.forall_mem_cons.mpr ⟨lw_p116, List.forall_mem_cons.mpr ⟨lw_p117, List.forall_mem_cons.mpr ⟨lw_p118, List.forall_mem_cons.mpr ⟨lw_p119, List.forall_mem_cons.mpr ⟨lw_p120, List.forall_mem_cons.mpr ⟨lw_p121, List.forall_mem_cons.mpr ⟨lw_p122, List.forall_mem_cons.mpr ⟨lw_p123, List.forall_mem_cons.mpr ⟨lw_p124, List.forall_mem_cons.mpr ⟨lw_p125, List.forall_mem_cons.mpr ⟨lw_p126, List.forall_mem_cons.mpr ⟨lw_p127, fun _ h => absurd h List.not_mem_nil⟩⟩⟩⟩⟩⟩⟩⟩⟩⟩⟩⟩⟩⟩⟩⟩
theorem lw_p128 : lw_okq (⟨"CardHallModel", "findTurns", "()V"⟩, 90) := ⟨⟨by decide +kernel, by decide +kernel⟩, List.mem_of_getElem? (i := 1550) (by decide +kernel), List.mem_of_getElem? (i := 2313) (by decide +kernel), List.mem_of_getElem? (i := 2314) (by decide +kernel)⟩
theorem lw_p129 : lw_okq (⟨"CardHallModel", "gain", "(III)I"⟩, 90) := ⟨⟨by decide +kernel, by decide +kernel⟩, List.mem_of_getElem? (i := 1550) (by decide +kernel), List.mem_of_getElem? (i := 2317) (by decide +kernel), List.mem_of_getElem? (i := 2318) (by decide +kernel)⟩
def lw_privs_9 : List (MethodName × Nat) := [(⟨"CardHallModel", "findTurns", "()V"⟩, 90), (⟨"CardHallModel", "gain", "(III)I"⟩, 90)]
theorem lw_r9 : ∀ q ∈ lw_privs_9, lw_okq q := List.forall_mem_cons.mpr ⟨lw_p128, List.forall_mem_cons.mpr ⟨lw_p129, fun _ h => absurd h List.not_mem_nil⟩⟩
def lw_privs : List (MethodName × Nat) := lw_privs_1 ++ (lw_privs_2 ++ (lw_privs_3 ++ (lw_privs_4 ++ (lw_privs_5 ++ (lw_privs_6 ++ (lw_privs_7 ++ (lw_privs_8 ++ (lw_privs_9))))))))
def lw_tbl : List Cond := k2_sels lw_privs ++ tables_1
theorem lw_privs_ok : ∀ q ∈ lw_privs, lw_okq q := by
  show ∀ q ∈ lw_privs_1 ++ (lw_privs_2 ++ (lw_privs_3 ++ (lw_privs_4 ++ (lw_privs_5 ++ (lw_privs_6 ++ (lw_privs_7 ++ (lw_privs_8 ++ (lw_privs_9)))))))), lw_okq q
  exact List.forall_mem_append.mpr ⟨lw_r1, List.forall_mem_append.mpr ⟨lw_r2, List.forall_mem_append.mpr ⟨lw_r3, List.forall_mem_append.mpr ⟨lw_r4, List.forall_mem_append.mpr ⟨lw_r5, List.forall_mem_append.mpr ⟨lw_r6, List.forall_mem_append.mpr ⟨lw_r7, List.forall_mem_append.mpr ⟨lw_r8, lw_r9⟩⟩⟩⟩⟩⟩⟩⟩
def RX0 : String := "CardHall$Chair"
def TX0 : u_T := fun k => match k with
  | 0 => ("CardHall$Chair", "register", "LCardHall$Register;", true)
  | 1 => ("CardHall$Chair", "papers", "LCardHall$Papers;", true)
  | 2 => ("CardHall$Chair", "floor", "LCardHall$Floor;", true)
  | 3 => ("CardHall$Chair", "before", "LCardHall$Floor;", true)
  | 4 => ("CardHall$Chair", "count", "LCardHall$Count;", true)
  | 5 => ("CardHall$Chair", "fields", "[I", true)
  | 6 => ("CardHall$Chair", "latestStays", "Z", false)
  | 7 => ("CardHall$Chair", "voidBits", "I", false)
  | _ => ("CardHall$Chair", "rows", "I", false)
def tyX0 : Nat → FieldType := fun k => match k with
  | 0 => .object "CardHall$Register"
  | 1 => .object "CardHall$Papers"
  | 2 => .object "CardHall$Floor"
  | 3 => .object "CardHall$Floor"
  | 4 => .object "CardHall$Count"
  | 5 => .array .int
  | 6 => .boolean
  | 7 => .int
  | _ => .int
abbrev wsX00 : List Cond := u_ws RX0 TX0 9
theorem nmX0 : ∀ a, a < 9 → ∀ b, b < 9 → a ≠ b → (TX0 a).2.1 ≠ (TX0 b).2.1 := by decide +kernel
theorem tyX0_ok : ∀ k, k < 9 → parseFieldDescriptor (TX0 k).2.2.1 = some (tyX0 k) := by decide +kernel
abbrev cX0_init : ByteArray := prog_2_method_1_code
def yX0_init : MethodName := ⟨RX0, "<init>", "(LCardHall$Register;LCardHall$Papers;LCardHall$Floor;LCardHall$Count;)V"⟩
abbrev cX0_closeLatest : ByteArray := prog_2_method_2_code
def yX0_closeLatest : MethodName := ⟨RX0, "closeLatest", "()V"⟩
abbrev cX0_rowField : ByteArray := prog_2_method_3_code
def yX0_rowField : MethodName := ⟨RX0, "rowField", "(II)I"⟩
abbrev cX0_decideNow : ByteArray := prog_2_method_4_code
def yX0_decideNow : MethodName := ⟨RX0, "decideNow", "(I)I"⟩
abbrev cX0_decideWithout : ByteArray := prog_2_method_5_code
def yX0_decideWithout : MethodName := ⟨RX0, "decideWithout", "(I)I"⟩
abbrev cX0_decideOn : ByteArray := prog_2_method_6_code
def yX0_decideOn : MethodName := ⟨RX0, "decideOn", "(II)I"⟩
abbrev cX0_writeRow : ByteArray := prog_2_method_7_code
def yX0_writeRow : MethodName := ⟨RX0, "writeRow", "(IIZ)V"⟩
abbrev cX0_carryOut : ByteArray := prog_2_method_8_code
def yX0_carryOut : MethodName := ⟨RX0, "carryOut", "(IZ)V"⟩
abbrev cX0_wouldPass : ByteArray := prog_2_method_9_code
def yX0_wouldPass : MethodName := ⟨RX0, "wouldPass", "(II)Z"⟩
def RX1 : String := "CardHall$Composer"
def TX1 : u_T := fun k => match k with
  | 0 => ("CardHall$Composer", "papers", "LCardHall$Papers;", true)
  | 1 => ("CardHall$Composer", "floor", "LCardHall$Floor;", true)
  | 2 => ("CardHall$Composer", "motions", "[I", true)
  | 3 => ("CardHall$Composer", "saidBits", "[J", true)
  | 4 => ("CardHall$Composer", "deniedBits", "[J", true)
  | 5 => ("CardHall$Composer", "mustBits", "[J", true)
  | 6 => ("CardHall$Composer", "many", "I", false)
  | 7 => ("CardHall$Composer", "kept", "J", false)
  | 8 => ("CardHall$Composer", "said", "J", false)
  | 9 => ("CardHall$Composer", "must", "J", false)
  | 10 => ("CardHall$Composer", "sharedBy", "[J", true)
  | 11 => ("CardHall$Composer", "lostBy", "[I", true)
  | 12 => ("CardHall$Composer", "members", "[I", true)
  | 13 => ("CardHall$Composer", "inGroup", "[I", true)
  | 14 => ("CardHall$Composer", "bestInGroup", "[I", true)
  | 15 => ("CardHall$Composer", "mostGroups", "I", false)
  | 16 => ("CardHall$Composer", "bestLost", "I", false)
  | _ => ("CardHall$Composer", "bestGroups", "I", false)
def tyX1 : Nat → FieldType := fun k => match k with
  | 0 => .object "CardHall$Papers"
  | 1 => .object "CardHall$Floor"
  | 2 => .array .int
  | 3 => .array .long
  | 4 => .array .long
  | 5 => .array .long
  | 6 => .int
  | 7 => .long
  | 8 => .long
  | 9 => .long
  | 10 => .array .long
  | 11 => .array .int
  | 12 => .array .int
  | 13 => .array .int
  | 14 => .array .int
  | 15 => .int
  | 16 => .int
  | _ => .int
abbrev wsX10 : List Cond := u_ws RX1 TX1 18
theorem nmX1 : ∀ a, a < 18 → ∀ b, b < 18 → a ≠ b → (TX1 a).2.1 ≠ (TX1 b).2.1 := by decide +kernel
theorem tyX1_ok : ∀ k, k < 18 → parseFieldDescriptor (TX1 k).2.2.1 = some (tyX1 k) := by decide +kernel
abbrev cX1_init : ByteArray := prog_3_method_1_code
def yX1_init : MethodName := ⟨RX1, "<init>", "(LCardHall$Papers;LCardHall$Floor;)V"⟩
abbrev cX1_choose : ByteArray := prog_3_method_2_code
def yX1_choose : MethodName := ⟨RX1, "choose", "(I)V"⟩
abbrev cX1_lostByAll : ByteArray := prog_3_method_3_code
def yX1_lostByAll : MethodName := ⟨RX1, "lostByAll", "(I)I"⟩
abbrev cX1_compose : ByteArray := prog_3_method_4_code
def yX1_compose : MethodName := ⟨RX1, "compose", "(I)I"⟩
abbrev cX1_gather : ByteArray := prog_3_method_5_code
def yX1_gather : MethodName := ⟨RX1, "gather", "(I)Z"⟩
abbrev cX1_share : ByteArray := prog_3_method_6_code
def yX1_share : MethodName := ⟨RX1, "share", "(J)V"⟩
abbrev cX1_keepUpTo : ByteArray := prog_3_method_7_code
def yX1_keepUpTo : MethodName := ⟨RX1, "keepUpTo", "(I)V"⟩
abbrev cX1_make : ByteArray := prog_3_method_8_code
def yX1_make : MethodName := ⟨RX1, "make", "()I"⟩
abbrev cX1_groupUp : ByteArray := prog_3_method_9_code
def yX1_groupUp : MethodName := ⟨RX1, "groupUp", "(II)I"⟩
abbrev cX1_nextGrouping : ByteArray := prog_3_method_10_code
def yX1_nextGrouping : MethodName := ⟨RX1, "nextGrouping", "()Z"⟩
abbrev cX1_groupsAhead : ByteArray := prog_3_method_11_code
def yX1_groupsAhead : MethodName := ⟨RX1, "groupsAhead", "(I)I"⟩
abbrev cX1_keepIfBetter : ByteArray := prog_3_method_12_code
def yX1_keepIfBetter : MethodName := ⟨RX1, "keepIfBetter", "()V"⟩
abbrev cX1_lostByGroups : ByteArray := prog_3_method_13_code
def yX1_lostByGroups : MethodName := ⟨RX1, "lostByGroups", "()I"⟩
abbrev cX1_groupOf : ByteArray := prog_3_method_14_code
def yX1_groupOf : MethodName := ⟨RX1, "groupOf", "(I)I"⟩
def RX2 : String := "CardHall$Count"
def TX2 : u_T := fun k => match k with
  | 0 => ("CardHall$Count", "register", "LCardHall$Register;", true)
  | 1 => ("CardHall$Count", "heads", "[I", true)
  | 2 => ("CardHall$Count", "dues", "[I", true)
  | 3 => ("CardHall$Count", "casts", "[I", true)
  | 4 => ("CardHall$Count", "mandates", "[I", true)
  | 5 => ("CardHall$Count", "weights", "[I", true)
  | 6 => ("CardHall$Count", "voices", "[I", true)
  | 7 => ("CardHall$Count", "lead", "[J", true)
  | 8 => ("CardHall$Count", "facts", "[I", true)
  | 9 => ("CardHall$Count", "stack", "[I", true)
  | 10 => ("CardHall$Count", "yesSum", "J", false)
  | 11 => ("CardHall$Count", "noSum", "J", false)
  | 12 => ("CardHall$Count", "allSum", "J", false)
  | 13 => ("CardHall$Count", "yes", "I", false)
  | 14 => ("CardHall$Count", "no", "I", false)
  | 15 => ("CardHall$Count", "all", "I", false)
  | _ => ("CardHall$Count", "sections", "I", false)
def tyX2 : Nat → FieldType := fun k => match k with
  | 0 => .object "CardHall$Register"
  | 1 => .array .int
  | 2 => .array .int
  | 3 => .array .int
  | 4 => .array .int
  | 5 => .array .int
  | 6 => .array .int
  | 7 => .array .long
  | 8 => .array .int
  | 9 => .array .int
  | 10 => .long
  | 11 => .long
  | 12 => .long
  | 13 => .int
  | 14 => .int
  | 15 => .int
  | _ => .int
abbrev wsX20 : List Cond := u_ws RX2 TX2 17
theorem nmX2 : ∀ a, a < 17 → ∀ b, b < 17 → a ≠ b → (TX2 a).2.1 ≠ (TX2 b).2.1 := by decide +kernel
theorem tyX2_ok : ∀ k, k < 17 → parseFieldDescriptor (TX2 k).2.2.1 = some (tyX2 k) := by decide +kernel
abbrev cX2_init : ByteArray := prog_4_method_1_code
def yX2_init : MethodName := ⟨RX2, "<init>", "(LCardHall$Register;)V"⟩
abbrev cX2_take : ByteArray := prog_4_method_2_code
def yX2_take : MethodName := ⟨RX2, "take", "(II)V"⟩
abbrev cX2_takeTelling : ByteArray := prog_4_method_3_code
def yX2_takeTelling : MethodName := ⟨RX2, "takeTelling", "(II)V"⟩
abbrev cX2_mandateOf : ByteArray := prog_4_method_4_code
def yX2_mandateOf : MethodName := ⟨RX2, "mandateOf", "(I)I"⟩
abbrev cX2_voiceOf : ByteArray := prog_4_method_5_code
def yX2_voiceOf : MethodName := ⟨RX2, "voiceOf", "(I)I"⟩
abbrev cX2_voiceTaken : ByteArray := prog_4_method_6_code
def yX2_voiceTaken : MethodName := ⟨RX2, "voiceTaken", "(I)I"⟩
abbrev cX2_brokenMandates : ByteArray := prog_4_method_7_code
def yX2_brokenMandates : MethodName := ⟨RX2, "brokenMandates", "()I"⟩
abbrev cX2_paidHeadsOf : ByteArray := prog_4_method_8_code
def yX2_paidHeadsOf : MethodName := ⟨RX2, "paidHeadsOf", "(II)I"⟩
abbrev cX2_cardsOf : ByteArray := prog_4_method_9_code
def yX2_cardsOf : MethodName := ⟨RX2, "cardsOf", "(ILCardHall$Rules;)I"⟩
abbrev cX2_takesLate : ByteArray := prog_4_method_10_code
def yX2_takesLate : MethodName := ⟨RX2, "takesLate", "(LCardHall$Rules;III)Z"⟩
abbrev cX2_weigh : ByteArray := prog_4_method_11_code
def yX2_weigh : MethodName := ⟨RX2, "weigh", "(LCardHall$Rules;I)V"⟩
abbrev cX2_leaveOut : ByteArray := prog_4_method_12_code
def yX2_leaveOut : MethodName := ⟨RX2, "leaveOut", "(I)V"⟩
abbrev cX2_sumUp : ByteArray := prog_4_method_13_code
def yX2_sumUp : MethodName := ⟨RX2, "sumUp", "(I)V"⟩
abbrev cX2_sumUpBranches : ByteArray := prog_4_method_14_code
def yX2_sumUpBranches : MethodName := ⟨RX2, "sumUpBranches", "()V"⟩
abbrev cX2_beginSum : ByteArray := prog_4_method_15_code
def yX2_beginSum : MethodName := ⟨RX2, "beginSum", "()V"⟩
abbrev cX2_add : ByteArray := prog_4_method_16_code
def yX2_add : MethodName := ⟨RX2, "add", "(III)V"⟩
abbrev cX2_endSum : ByteArray := prog_4_method_17_code
def yX2_endSum : MethodName := ⟨RX2, "endSum", "()V"⟩
abbrev cX2_passes : ByteArray := prog_4_method_18_code
def yX2_passes : MethodName := ⟨RX2, "passes", "(LCardHall$Rules;III)Z"⟩
def RX3 : String := "CardHall$Floor"
def TX3 : u_T := fun k => match k with
  | 0 => ("CardHall$Floor", "papers", "LCardHall$Papers;", true)
  | 1 => ("CardHall$Floor", "state", "[I", true)
  | 2 => ("CardHall$Floor", "size", "[I", true)
  | 3 => ("CardHall$Floor", "number", "[I", true)
  | 4 => ("CardHall$Floor", "must", "[I", true)
  | 5 => ("CardHall$Floor", "by", "[I", true)
  | 6 => ("CardHall$Floor", "said", "J", false)
  | 7 => ("CardHall$Floor", "denied", "J", false)
  | _ => ("CardHall$Floor", "force", "I", false)
def tyX3 : Nat → FieldType := fun k => match k with
  | 0 => .object "CardHall$Papers"
  | 1 => .array .int
  | 2 => .array .int
  | 3 => .array .int
  | 4 => .array .int
  | 5 => .array .int
  | 6 => .long
  | 7 => .long
  | _ => .int
abbrev wsX30 : List Cond := u_ws RX3 TX3 9
theorem nmX3 : ∀ a, a < 9 → ∀ b, b < 9 → a ≠ b → (TX3 a).2.1 ≠ (TX3 b).2.1 := by decide +kernel
theorem tyX3_ok : ∀ k, k < 9 → parseFieldDescriptor (TX3 k).2.2.1 = some (tyX3 k) := by decide +kernel
abbrev cX3_init : ByteArray := prog_5_method_1_code
def yX3_init : MethodName := ⟨RX3, "<init>", "(LCardHall$Papers;)V"⟩
abbrev cX3_copyFrom : ByteArray := prog_5_method_2_code
def yX3_copyFrom : MethodName := ⟨RX3, "copyFrom", "(LCardHall$Floor;)V"⟩
abbrev cX3_has : ByteArray := prog_5_method_3_code
def yX3_has : MethodName := ⟨RX3, "has", "(I)Z"⟩
abbrev cX3_stateOf : ByteArray := prog_5_method_4_code
def yX3_stateOf : MethodName := ⟨RX3, "stateOf", "(I)I"⟩
abbrev cX3_put : ByteArray := prog_5_method_5_code
def yX3_put : MethodName := ⟨RX3, "put", "(II)V"⟩
abbrev cX3_bring : ByteArray := prog_5_method_6_code
def yX3_bring : MethodName := ⟨RX3, "bring", "(I)V"⟩
abbrev cX3_openMotions : ByteArray := prog_5_method_7_code
def yX3_openMotions : MethodName := ⟨RX3, "openMotions", "()I"⟩
abbrev cX3_chosen : ByteArray := prog_5_method_8_code
def yX3_chosen : MethodName := ⟨RX3, "chosen", "(I[I)I"⟩
abbrev cX3_sizeOf : ByteArray := prog_5_method_9_code
def yX3_sizeOf : MethodName := ⟨RX3, "sizeOf", "(I)I"⟩
abbrev cX3_lineOf : ByteArray := prog_5_method_10_code
def yX3_lineOf : MethodName := ⟨RX3, "lineOf", "(II)I"⟩
abbrev cX3_mustOf : ByteArray := prog_5_method_11_code
def yX3_mustOf : MethodName := ⟨RX3, "mustOf", "(II)I"⟩
abbrev cX3_byOf : ByteArray := prog_5_method_12_code
def yX3_byOf : MethodName := ⟨RX3, "byOf", "(II)I"⟩
abbrev cX3_bitsOf : ByteArray := prog_5_method_13_code
def yX3_bitsOf : MethodName := ⟨RX3, "bitsOf", "(II)J"⟩
abbrev cX3_mustBitsOf : ByteArray := prog_5_method_14_code
def yX3_mustBitsOf : MethodName := ⟨RX3, "mustBitsOf", "(I)J"⟩
abbrev cX3_addLine : ByteArray := prog_5_method_15_code
def yX3_addLine : MethodName := ⟨RX3, "addLine", "(IIII)V"⟩
abbrev cX3_strikeLine : ByteArray := prog_5_method_16_code
def yX3_strikeLine : MethodName := ⟨RX3, "strikeLine", "(II)V"⟩
abbrev cX3_turnLine : ByteArray := prog_5_method_17_code
def yX3_turnLine : MethodName := ⟨RX3, "turnLine", "(III)V"⟩
abbrev cX3_find : ByteArray := prog_5_method_18_code
def yX3_find : MethodName := ⟨RX3, "find", "(II)I"⟩
abbrev cX3_amendRow : ByteArray := prog_5_method_19_code
def yX3_amendRow : MethodName := ⟨RX3, "amendRow", "(II)V"⟩
abbrev cX3_copyToTrial : ByteArray := prog_5_method_20_code
def yX3_copyToTrial : MethodName := ⟨RX3, "copyToTrial", "(I)V"⟩
abbrev cX3_against : ByteArray := prog_5_method_21_code
def yX3_against : MethodName := ⟨RX3, "against", "(I)I"⟩
abbrev cX3_areContrary : ByteArray := prog_5_method_22_code
def yX3_areContrary : MethodName := ⟨RX3, "areContrary", "(II)Z"⟩
abbrev cX3_closeMotion : ByteArray := prog_5_method_23_code
def yX3_closeMotion : MethodName := ⟨RX3, "closeMotion", "(II)V"⟩
abbrev cX3_passMotion : ByteArray := prog_5_method_24_code
def yX3_passMotion : MethodName := ⟨RX3, "passMotion", "(I)V"⟩
abbrev cX3_passAmendment : ByteArray := prog_5_method_25_code
def yX3_passAmendment : MethodName := ⟨RX3, "passAmendment", "(I)V"⟩
abbrev cX3_passOrders : ByteArray := prog_5_method_26_code
def yX3_passOrders : MethodName := ⟨RX3, "passOrders", "(I)V"⟩
def RX4 : String := "CardHall$LineReader"
def TX4 : u_T := fun k => match k with
  | 0 => ("CardHall$LineReader", "tape", "LCardHall$Tape;", true)
  | 1 => ("CardHall$LineReader", "number", "[I", true)
  | 2 => ("CardHall$LineReader", "sort", "[I", true)
  | _ => ("CardHall$LineReader", "size", "I", false)
def tyX4 : Nat → FieldType := fun k => match k with
  | 0 => .object "CardHall$Tape"
  | 1 => .array .int
  | 2 => .array .int
  | _ => .int
abbrev wsX40 : List Cond := u_ws RX4 TX4 4
theorem nmX4 : ∀ a, a < 4 → ∀ b, b < 4 → a ≠ b → (TX4 a).2.1 ≠ (TX4 b).2.1 := by decide +kernel
theorem tyX4_ok : ∀ k, k < 4 → parseFieldDescriptor (TX4 k).2.2.1 = some (tyX4 k) := by decide +kernel
abbrev cX4_init : ByteArray := prog_6_method_1_code
def yX4_init : MethodName := ⟨RX4, "<init>", "(LCardHall$Tape;)V"⟩
abbrev cX4_readMotion : ByteArray := prog_6_method_2_code
def yX4_readMotion : MethodName := ⟨RX4, "readMotion", "()Z"⟩
abbrev cX4_readLine : ByteArray := prog_6_method_3_code
def yX4_readLine : MethodName := ⟨RX4, "readLine", "(J)I"⟩
abbrev cX4_readAmendment : ByteArray := prog_6_method_4_code
def yX4_readAmendment : MethodName := ⟨RX4, "readAmendment", "()Z"⟩
abbrev cX4_readChange : ByteArray := prog_6_method_5_code
def yX4_readChange : MethodName := ⟨RX4, "readChange", "(I)Z"⟩
abbrev cX4_takeWord : ByteArray := prog_6_method_6_code
def yX4_takeWord : MethodName := ⟨RX4, "takeWord", "(Ljava/lang/String;)Z"⟩
abbrev cX4_keep : ByteArray := prog_6_method_7_code
def yX4_keep : MethodName := ⟨RX4, "keep", "(II)V"⟩
def RX5 : String := "CardHall$OrdersReader"
def TX5 : u_T := fun k => match k with
  | 0 => ("CardHall$OrdersReader", "tape", "LCardHall$Tape;", true)
  | 1 => ("CardHall$OrdersReader", "rules", "LCardHall$Rules;", false)
  | _ => ("CardHall$OrdersReader", "part", "I", false)
def tyX5 : Nat → FieldType := fun k => match k with
  | 0 => .object "CardHall$Tape"
  | 1 => .object "CardHall$Rules"
  | _ => .int
abbrev wsX50 : List Cond := u_ws RX5 TX5 3
theorem nmX5 : ∀ a, a < 3 → ∀ b, b < 3 → a ≠ b → (TX5 a).2.1 ≠ (TX5 b).2.1 := by decide +kernel
theorem tyX5_ok : ∀ k, k < 3 → parseFieldDescriptor (TX5 k).2.2.1 = some (tyX5 k) := by decide +kernel
abbrev cX5_init : ByteArray := prog_7_method_1_code
def yX5_init : MethodName := ⟨RX5, "<init>", "(LCardHall$Tape;LCardHall$Rules;)V"⟩
abbrev cX5_read : ByteArray := prog_7_method_2_code
def yX5_read : MethodName := ⟨RX5, "read", "(LCardHall$Rules;)Z"⟩
abbrev cX5_readClause : ByteArray := prog_7_method_3_code
def yX5_readClause : MethodName := ⟨RX5, "readClause", "(I)Z"⟩
abbrev cX5_clauseAtHand : ByteArray := prog_7_method_4_code
def yX5_clauseAtHand : MethodName := ⟨RX5, "clauseAtHand", "()I"⟩
abbrev cX5_kindAtHand : ByteArray := prog_7_method_5_code
def yX5_kindAtHand : MethodName := ⟨RX5, "kindAtHand", "()I"⟩
abbrev cX5_beginCondition : ByteArray := prog_7_method_6_code
def yX5_beginCondition : MethodName := ⟨RX5, "beginCondition", "(I)Z"⟩
abbrev cX5_beginPart : ByteArray := prog_7_method_7_code
def yX5_beginPart : MethodName := ⟨RX5, "beginPart", "(I)V"⟩
abbrev cX5_either : ByteArray := prog_7_method_8_code
def yX5_either : MethodName := ⟨RX5, "either", "(I)Z"⟩
abbrev cX5_both : ByteArray := prog_7_method_9_code
def yX5_both : MethodName := ⟨RX5, "both", "(I)Z"⟩
abbrev cX5_piece : ByteArray := prog_7_method_10_code
def yX5_piece : MethodName := ⟨RX5, "piece", "(I)Z"⟩
abbrev cX5_skipNots : ByteArray := prog_7_method_11_code
def yX5_skipNots : MethodName := ⟨RX5, "skipNots", "()Z"⟩
abbrev cX5_takeComparison : ByteArray := prog_7_method_12_code
def yX5_takeComparison : MethodName := ⟨RX5, "takeComparison", "()I"⟩
abbrev cX5_square : ByteArray := prog_7_method_13_code
def yX5_square : MethodName := ⟨RX5, "square", "(I)Z"⟩
abbrev cX5_sum : ByteArray := prog_7_method_14_code
def yX5_sum : MethodName := ⟨RX5, "sum", "(I)Z"⟩
abbrev cX5_product : ByteArray := prog_7_method_15_code
def yX5_product : MethodName := ⟨RX5, "product", "(I)Z"⟩
abbrev cX5_factor : ByteArray := prog_7_method_16_code
def yX5_factor : MethodName := ⟨RX5, "factor", "(I)Z"⟩
abbrev cX5_name : ByteArray := prog_7_method_17_code
def yX5_name : MethodName := ⟨RX5, "name", "()Z"⟩
abbrev cX5_factOfPass : ByteArray := prog_7_method_18_code
def yX5_factOfPass : MethodName := ⟨RX5, "factOfPass", "()I"⟩
abbrev cX5_factOfCards : ByteArray := prog_7_method_19_code
def yX5_factOfCards : MethodName := ⟨RX5, "factOfCards", "()I"⟩
abbrev cX5_factOfLate : ByteArray := prog_7_method_20_code
def yX5_factOfLate : MethodName := ⟨RX5, "factOfLate", "()I"⟩
def RX6 : String := "CardHall$Papers"
def TX6 : u_T := fun k => match k with
  | 0 => ("CardHall$Papers", "mover", "[I", true)
  | 1 => ("CardHall$Papers", "hangsOn", "[I", true)
  | 2 => ("CardHall$Papers", "changes", "[I", true)
  | 3 => ("CardHall$Papers", "changeSort", "[I", true)
  | 4 => ("CardHall$Papers", "changeNumber", "[I", true)
  | 5 => ("CardHall$Papers", "rules", "[LCardHall$Rules;", true)
  | 6 => ("CardHall$Papers", "noOrders", "LCardHall$Rules;", true)
  | 7 => ("CardHall$Papers", "motions", "I", false)
  | 8 => ("CardHall$Papers", "amendments", "I", false)
  | _ => ("CardHall$Papers", "orders", "I", false)
def tyX6 : Nat → FieldType := fun k => match k with
  | 0 => .array .int
  | 1 => .array .int
  | 2 => .array .int
  | 3 => .array .int
  | 4 => .array .int
  | 5 => .array (.object "CardHall$Rules")
  | 6 => .object "CardHall$Rules"
  | 7 => .int
  | 8 => .int
  | _ => .int
abbrev wsX60 : List Cond := u_ws RX6 TX6 10
theorem nmX6 : ∀ a, a < 10 → ∀ b, b < 10 → a ≠ b → (TX6 a).2.1 ≠ (TX6 b).2.1 := by decide +kernel
theorem tyX6_ok : ∀ k, k < 10 → parseFieldDescriptor (TX6 k).2.2.1 = some (tyX6 k) := by decide +kernel
abbrev cX6_init : ByteArray := prog_8_method_1_code
def yX6_init : MethodName := ⟨RX6, "<init>", "()V"⟩
abbrev cX6_hasMotion : ByteArray := prog_8_method_2_code
def yX6_hasMotion : MethodName := ⟨RX6, "hasMotion", "(I)Z"⟩
abbrev cX6_inForce : ByteArray := prog_8_method_3_code
def yX6_inForce : MethodName := ⟨RX6, "inForce", "(I)LCardHall$Rules;"⟩
abbrev cX6_draft : ByteArray := prog_8_method_4_code
def yX6_draft : MethodName := ⟨RX6, "draft", "()LCardHall$Rules;"⟩
abbrev cX6_addMotion : ByteArray := prog_8_method_5_code
def yX6_addMotion : MethodName := ⟨RX6, "addMotion", "(I)I"⟩
abbrev cX6_addAmendment : ByteArray := prog_8_method_6_code
def yX6_addAmendment : MethodName := ⟨RX6, "addAmendment", "(ILCardHall$LineReader;)I"⟩
def RX7 : String := "CardHall$Register"
def TX7 : u_T := fun k => match k with
  | 0 => ("CardHall$Register", "section", "[I", true)
  | 1 => ("CardHall$Register", "owner", "[I", true)
  | 2 => ("CardHall$Register", "souls", "[I", true)
  | 3 => ("CardHall$Register", "kind", "[I", true)
  | 4 => ("CardHall$Register", "who", "[I", true)
  | 5 => ("CardHall$Register", "matter", "[I", true)
  | 6 => ("CardHall$Register", "told", "[I", true)
  | 7 => ("CardHall$Register", "value", "[I", true)
  | 8 => ("CardHall$Register", "affiliates", "I", false)
  | 9 => ("CardHall$Register", "branches", "I", false)
  | 10 => ("CardHall$Register", "tellings", "I", false)
  | 11 => ("CardHall$Register", "today", "I", false)
  | _ => ("CardHall$Register", "lastDay", "I", false)
def tyX7 : Nat → FieldType := fun k => match k with
  | 0 => .array .int
  | 1 => .array .int
  | 2 => .array .int
  | 3 => .array .int
  | 4 => .array .int
  | 5 => .array .int
  | 6 => .array .int
  | 7 => .array .int
  | 8 => .int
  | 9 => .int
  | 10 => .int
  | 11 => .int
  | _ => .int
abbrev wsX70 : List Cond := u_ws RX7 TX7 13
theorem nmX7 : ∀ a, a < 13 → ∀ b, b < 13 → a ≠ b → (TX7 a).2.1 ≠ (TX7 b).2.1 := by decide +kernel
theorem tyX7_ok : ∀ k, k < 13 → parseFieldDescriptor (TX7 k).2.2.1 = some (tyX7 k) := by decide +kernel
abbrev cX7_init : ByteArray := prog_9_method_1_code
def yX7_init : MethodName := ⟨RX7, "<init>", "()V"⟩
abbrev cX7_hasAffiliate : ByteArray := prog_9_method_2_code
def yX7_hasAffiliate : MethodName := ⟨RX7, "hasAffiliate", "(I)Z"⟩
abbrev cX7_hasBranch : ByteArray := prog_9_method_3_code
def yX7_hasBranch : MethodName := ⟨RX7, "hasBranch", "(I)Z"⟩
abbrev cX7_isKnownDay : ByteArray := prog_9_method_4_code
def yX7_isKnownDay : MethodName := ⟨RX7, "isKnownDay", "(I)Z"⟩
abbrev cX7_addAffiliate : ByteArray := prog_9_method_5_code
def yX7_addAffiliate : MethodName := ⟨RX7, "addAffiliate", "(I)I"⟩
abbrev cX7_addBranch : ByteArray := prog_9_method_6_code
def yX7_addBranch : MethodName := ⟨RX7, "addBranch", "(II)I"⟩
abbrev cX7_branchesOf : ByteArray := prog_9_method_7_code
def yX7_branchesOf : MethodName := ⟨RX7, "branchesOf", "(I)I"⟩
abbrev cX7_soulsOf : ByteArray := prog_9_method_8_code
def yX7_soulsOf : MethodName := ⟨RX7, "soulsOf", "(I)I"⟩
abbrev cX7_tell : ByteArray := prog_9_method_9_code
def yX7_tell : MethodName := ⟨RX7, "tell", "(IIII)Z"⟩
def RX8 : String := "CardHall$Rules"
def TX8 : u_T := fun k => match k with
  | 0 => ("CardHall$Rules", "steps", "[I", true)
  | 1 => ("CardHall$Rules", "from", "[I", true)
  | 2 => ("CardHall$Rules", "to", "[I", true)
  | 3 => ("CardHall$Rules", "size", "I", false)
  | 4 => ("CardHall$Rules", "rate", "I", false)
  | 5 => ("CardHall$Rules", "length", "I", false)
  | _ => ("CardHall$Rules", "binds", "Z", false)
def tyX8 : Nat → FieldType := fun k => match k with
  | 0 => .array .int
  | 1 => .array .int
  | 2 => .array .int
  | 3 => .int
  | 4 => .int
  | 5 => .int
  | _ => .boolean
abbrev wsX80 : List Cond := u_ws RX8 TX8 7
theorem nmX8 : ∀ a, a < 7 → ∀ b, b < 7 → a ≠ b → (TX8 a).2.1 ≠ (TX8 b).2.1 := by decide +kernel
theorem tyX8_ok : ∀ k, k < 7 → parseFieldDescriptor (TX8 k).2.2.1 = some (tyX8 k) := by decide +kernel
abbrev cX8_init : ByteArray := prog_10_method_1_code
def yX8_init : MethodName := ⟨RX8, "<init>", "()V"⟩
abbrev cX8_clear : ByteArray := prog_10_method_2_code
def yX8_clear : MethodName := ⟨RX8, "clear", "()V"⟩
abbrev cX8_beginPart : ByteArray := prog_10_method_3_code
def yX8_beginPart : MethodName := ⟨RX8, "beginPart", "(I)V"⟩
abbrev cX8_endPart : ByteArray := prog_10_method_4_code
def yX8_endPart : MethodName := ⟨RX8, "endPart", "(I)V"⟩
abbrev cX8_addStep : ByteArray := prog_10_method_5_code
def yX8_addStep : MethodName := ⟨RX8, "addStep", "(II)V"⟩
abbrev cX8_says : ByteArray := prog_10_method_6_code
def yX8_says : MethodName := ⟨RX8, "says", "(I)Z"⟩
abbrev cX8_value : ByteArray := prog_10_method_7_code
def yX8_value : MethodName := ⟨RX8, "value", "(I[I[I)I"⟩
abbrev cX8_joined : ByteArray := prog_10_method_8_code
def yX8_joined : MethodName := ⟨RX8, "joined", "(IJJ)J"⟩
abbrev cX8_bounded : ByteArray := prog_10_method_9_code
def yX8_bounded : MethodName := ⟨RX8, "bounded", "(J)I"⟩
def RX9 : String := "CardHall$Tape"
def TX9 : u_T := fun k => match k with
  | 0 => ("CardHall$Tape", "bytes", "[I", true)
  | 1 => ("CardHall$Tape", "length", "I", false)
  | 2 => ("CardHall$Tape", "kind", "I", false)
  | 3 => ("CardHall$Tape", "start", "I", false)
  | 4 => ("CardHall$Tape", "after", "I", false)
  | 5 => ("CardHall$Tape", "value", "I", false)
  | 6 => ("CardHall$Tape", "fault", "I", false)
  | _ => ("CardHall$Tape", "place", "I", false)
def tyX9 : Nat → FieldType := fun k => match k with
  | 0 => .array .int
  | 1 => .int
  | 2 => .int
  | 3 => .int
  | 4 => .int
  | 5 => .int
  | 6 => .int
  | _ => .int
abbrev wsX90 : List Cond := u_ws RX9 TX9 8
theorem nmX9 : ∀ a, a < 8 → ∀ b, b < 8 → a ≠ b → (TX9 a).2.1 ≠ (TX9 b).2.1 := by decide +kernel
theorem tyX9_ok : ∀ k, k < 8 → parseFieldDescriptor (TX9 k).2.2.1 = some (tyX9 k) := by decide +kernel
abbrev cX9_init : ByteArray := prog_11_method_1_code
def yX9_init : MethodName := ⟨RX9, "<init>", "()V"⟩
abbrev cX9_append : ByteArray := prog_11_method_2_code
def yX9_append : MethodName := ⟨RX9, "append", "(I)V"⟩
abbrev cX9_begin : ByteArray := prog_11_method_3_code
def yX9_begin : MethodName := ⟨RX9, "begin", "()V"⟩
abbrev cX9_next : ByteArray := prog_11_method_4_code
def yX9_next : MethodName := ⟨RX9, "next", "()V"⟩
abbrev cX9_sortOf : ByteArray := prog_11_method_5_code
def yX9_sortOf : MethodName := ⟨RX9, "sortOf", "(I)I"⟩
abbrev cX9_isLetter : ByteArray := prog_11_method_6_code
def yX9_isLetter : MethodName := ⟨RX9, "isLetter", "(I)Z"⟩
abbrev cX9_isFigure : ByteArray := prog_11_method_7_code
def yX9_isFigure : MethodName := ⟨RX9, "isFigure", "(I)Z"⟩
abbrev cX9_isEnd : ByteArray := prog_11_method_8_code
def yX9_isEnd : MethodName := ⟨RX9, "isEnd", "()Z"⟩
abbrev cX9_isNumber : ByteArray := prog_11_method_9_code
def yX9_isNumber : MethodName := ⟨RX9, "isNumber", "()Z"⟩
abbrev cX9_isAnyWord : ByteArray := prog_11_method_10_code
def yX9_isAnyWord : MethodName := ⟨RX9, "isAnyWord", "()Z"⟩
abbrev cX9_isSign : ByteArray := prog_11_method_11_code
def yX9_isSign : MethodName := ⟨RX9, "isSign", "(C)Z"⟩
abbrev cX9_isWord : ByteArray := prog_11_method_12_code
def yX9_isWord : MethodName := ⟨RX9, "isWord", "(Ljava/lang/String;)Z"⟩
abbrev cX9_fail : ByteArray := prog_11_method_13_code
def yX9_fail : MethodName := ⟨RX9, "fail", "(I)Z"⟩
abbrev cX9_skipSign : ByteArray := prog_11_method_14_code
def yX9_skipSign : MethodName := ⟨RX9, "skipSign", "(C)Z"⟩
abbrev cX9_skipWord : ByteArray := prog_11_method_15_code
def yX9_skipWord : MethodName := ⟨RX9, "skipWord", "(Ljava/lang/String;)Z"⟩
abbrev cX9_takeN : ByteArray := prog_11_method_16_code
def yX9_takeN : MethodName := ⟨RX9, "takeN", "(IJ)I"⟩
def RX10 : String := "CardHall$Worths"
def TX10 : u_T := fun k => match k with
  | 0 => ("CardHall$Worths", "register", "LCardHall$Register;", true)
  | 1 => ("CardHall$Worths", "papers", "LCardHall$Papers;", true)
  | 2 => ("CardHall$Worths", "floor", "LCardHall$Floor;", true)
  | 3 => ("CardHall$Worths", "count", "LCardHall$Count;", true)
  | 4 => ("CardHall$Worths", "worthOf", "[I", true)
  | 5 => ("CardHall$Worths", "motions", "[I", true)
  | 6 => ("CardHall$Worths", "many", "I", false)
  | 7 => ("CardHall$Worths", "passFree", "[I", true)
  | 8 => ("CardHall$Worths", "passAgainst", "[I", true)
  | 9 => ("CardHall$Worths", "contraryBits", "[I", true)
  | 10 => ("CardHall$Worths", "saidBits", "[J", true)
  | 11 => ("CardHall$Worths", "deniedBits", "[J", true)
  | 12 => ("CardHall$Worths", "order", "[I", true)
  | 13 => ("CardHall$Worths", "bestOrder", "[I", true)
  | 14 => ("CardHall$Worths", "change", "[I", true)
  | _ => ("CardHall$Worths", "theDeal", "[I", true)
def tyX10 : Nat → FieldType := fun k => match k with
  | 0 => .object "CardHall$Register"
  | 1 => .object "CardHall$Papers"
  | 2 => .object "CardHall$Floor"
  | 3 => .object "CardHall$Count"
  | 4 => .array .int
  | 5 => .array .int
  | 6 => .int
  | 7 => .array .int
  | 8 => .array .int
  | 9 => .array .int
  | 10 => .array .long
  | 11 => .array .long
  | 12 => .array .int
  | 13 => .array .int
  | 14 => .array .int
  | _ => .array .int
abbrev wsX100 : List Cond := u_ws RX10 TX10 16
theorem nmX10 : ∀ a, a < 16 → ∀ b, b < 16 → a ≠ b → (TX10 a).2.1 ≠ (TX10 b).2.1 := by decide +kernel
theorem tyX10_ok : ∀ k, k < 16 → parseFieldDescriptor (TX10 k).2.2.1 = some (tyX10 k) := by decide +kernel
abbrev cX10_init : ByteArray := prog_12_method_1_code
def yX10_init : MethodName := ⟨RX10, "<init>", "(LCardHall$Register;LCardHall$Papers;LCardHall$Floor;LCardHall$Count;)V"⟩
abbrev cX10_tell : ByteArray := prog_12_method_2_code
def yX10_tell : MethodName := ⟨RX10, "tell", "(III)Z"⟩
abbrev cX10_worthFor : ByteArray := prog_12_method_3_code
def yX10_worthFor : MethodName := ⟨RX10, "worthFor", "(II)I"⟩
abbrev cX10_countMotion : ByteArray := prog_12_method_4_code
def yX10_countMotion : MethodName := ⟨RX10, "countMotion", "(ILCardHall$Rules;)V"⟩
abbrev cX10_passesNow : ByteArray := prog_12_method_5_code
def yX10_passesNow : MethodName := ⟨RX10, "passesNow", "(LCardHall$Rules;I)I"⟩
abbrev cX10_prepare : ByteArray := prog_12_method_6_code
def yX10_prepare : MethodName := ⟨RX10, "prepare", "(I)Z"⟩
abbrev cX10_contraryTo : ByteArray := prog_12_method_7_code
def yX10_contraryTo : MethodName := ⟨RX10, "contraryTo", "(I)I"⟩
abbrev cX10_readOrder : ByteArray := prog_12_method_8_code
def yX10_readOrder : MethodName := ⟨RX10, "readOrder", "(I)Z"⟩
abbrev cX10_along : ByteArray := prog_12_method_9_code
def yX10_along : MethodName := ⟨RX10, "along", "(I)I"⟩
abbrev cX10_findBest : ByteArray := prog_12_method_10_code
def yX10_findBest : MethodName := ⟨RX10, "findBest", "(I)I"⟩
abbrev cX10_nextOrder : ByteArray := prog_12_method_11_code
def yX10_nextOrder : MethodName := ⟨RX10, "nextOrder", "()Z"⟩
abbrev cX10_swap : ByteArray := prog_12_method_12_code
def yX10_swap : MethodName := ⟨RX10, "swap", "(II)V"⟩
abbrev cX10_bestMotionAt : ByteArray := prog_12_method_13_code
def yX10_bestMotionAt : MethodName := ⟨RX10, "bestMotionAt", "(I)I"⟩
abbrev cX10_dealField : ByteArray := prog_12_method_14_code
def yX10_dealField : MethodName := ⟨RX10, "dealField", "(I)I"⟩
abbrev cX10_findDeal : ByteArray := prog_12_method_15_code
def yX10_findDeal : MethodName := ⟨RX10, "findDeal", "()Z"⟩
abbrev cX10_findChanges : ByteArray := prog_12_method_16_code
def yX10_findChanges : MethodName := ⟨RX10, "findChanges", "(I)V"⟩
abbrev cX10_findDealOf : ByteArray := prog_12_method_17_code
def yX10_findDealOf : MethodName := ⟨RX10, "findDealOf", "(II)V"⟩
abbrev cX10_keepIfBetter : ByteArray := prog_12_method_18_code
def yX10_keepIfBetter : MethodName := ⟨RX10, "keepIfBetter", "(IIII)V"⟩
def RX11 : String := "CardHall"
def TX11 : u_T := fun k => match k with
  | 0 => ("CardHall", "register", "LCardHall$Register;", true)
  | 1 => ("CardHall", "tape", "LCardHall$Tape;", true)
  | 2 => ("CardHall", "ordersReader", "LCardHall$OrdersReader;", true)
  | 3 => ("CardHall", "lineReader", "LCardHall$LineReader;", true)
  | 4 => ("CardHall", "papers", "LCardHall$Papers;", true)
  | 5 => ("CardHall", "floor", "LCardHall$Floor;", true)
  | 6 => ("CardHall", "count", "LCardHall$Count;", true)
  | 7 => ("CardHall", "chair", "LCardHall$Chair;", true)
  | 8 => ("CardHall", "composer", "LCardHall$Composer;", true)
  | _ => ("CardHall", "worths", "LCardHall$Worths;", true)
def tyX11 : Nat → FieldType := fun k => match k with
  | 0 => .object "CardHall$Register"
  | 1 => .object "CardHall$Tape"
  | 2 => .object "CardHall$OrdersReader"
  | 3 => .object "CardHall$LineReader"
  | 4 => .object "CardHall$Papers"
  | 5 => .object "CardHall$Floor"
  | 6 => .object "CardHall$Count"
  | 7 => .object "CardHall$Chair"
  | 8 => .object "CardHall$Composer"
  | _ => .object "CardHall$Worths"
abbrev wsX110 : List Cond := u_ws RX11 TX11 10
theorem nmX11 : ∀ a, a < 10 → ∀ b, b < 10 → a ≠ b → (TX11 a).2.1 ≠ (TX11 b).2.1 := by decide +kernel
theorem tyX11_ok : ∀ k, k < 10 → parseFieldDescriptor (TX11 k).2.2.1 = some (tyX11 k) := by decide +kernel
abbrev cX11_init : ByteArray := prog_1_method_1_code
def yX11_init : MethodName := ⟨RX11, "<init>", "()V"⟩
abbrev cX11_affiliate : ByteArray := prog_1_method_2_code
def yX11_affiliate : MethodName := ⟨RX11, "affiliate", "(I)I"⟩
abbrev cX11_branch : ByteArray := prog_1_method_3_code
def yX11_branch : MethodName := ⟨RX11, "branch", "(II)I"⟩
abbrev cX11_heads : ByteArray := prog_1_method_4_code
def yX11_heads : MethodName := ⟨RX11, "heads", "(II)Z"⟩
abbrev cX11_dues : ByteArray := prog_1_method_5_code
def yX11_dues : MethodName := ⟨RX11, "dues", "(II)Z"⟩
abbrev cX11_mandate : ByteArray := prog_1_method_6_code
def yX11_mandate : MethodName := ⟨RX11, "mandate", "(III)Z"⟩
abbrev cX11_casts : ByteArray := prog_1_method_7_code
def yX11_casts : MethodName := ⟨RX11, "casts", "(III)Z"⟩
abbrev cX11_isBarred : ByteArray := prog_1_method_8_code
def yX11_isBarred : MethodName := ⟨RX11, "isBarred", "(III)Z"⟩
abbrev cX11_day : ByteArray := prog_1_method_9_code
def yX11_day : MethodName := ⟨RX11, "day", "(I)I"⟩
abbrev cX11_closing : ByteArray := prog_1_method_10_code
def yX11_closing : MethodName := ⟨RX11, "closing", "(I)Z"⟩
abbrev cX11_feed : ByteArray := prog_1_method_11_code
def yX11_feed : MethodName := ⟨RX11, "feed", "(IIIII)I"⟩
abbrev cX11_end : ByteArray := prog_1_method_12_code
def yX11_end : MethodName := ⟨RX11, "end", "(I)I"⟩
abbrev cX11_orders : ByteArray := prog_1_method_13_code
def yX11_orders : MethodName := ⟨RX11, "orders", "()I"⟩
abbrev cX11_motion : ByteArray := prog_1_method_14_code
def yX11_motion : MethodName := ⟨RX11, "motion", "(I)I"⟩
abbrev cX11_isLate : ByteArray := prog_1_method_15_code
def yX11_isLate : MethodName := ⟨RX11, "isLate", "()Z"⟩
abbrev cX11_isTakenLate : ByteArray := prog_1_method_16_code
def yX11_isTakenLate : MethodName := ⟨RX11, "isTakenLate", "(II)Z"⟩
abbrev cX11_amend : ByteArray := prog_1_method_17_code
def yX11_amend : MethodName := ⟨RX11, "amend", "(I)I"⟩
abbrev cX11_place : ByteArray := prog_1_method_18_code
def yX11_place : MethodName := ⟨RX11, "place", "()I"⟩
abbrev cX11_paid : ByteArray := prog_1_method_19_code
def yX11_paid : MethodName := ⟨RX11, "paid", "(II)I"⟩
abbrev cX11_cards : ByteArray := prog_1_method_20_code
def yX11_cards : MethodName := ⟨RX11, "cards", "(II)I"⟩
abbrev cX11_voice : ByteArray := prog_1_method_21_code
def yX11_voice : MethodName := ⟨RX11, "voice", "(IIII)I"⟩
abbrev cX11_counted : ByteArray := prog_1_method_22_code
def yX11_counted : MethodName := ⟨RX11, "counted", "(III)I"⟩
abbrev cX11_broken : ByteArray := prog_1_method_23_code
def yX11_broken : MethodName := ⟨RX11, "broken", "(II)I"⟩
abbrev cX11_decide : ByteArray := prog_1_method_24_code
def yX11_decide : MethodName := ⟨RX11, "decide", "(I)I"⟩
abbrev cX11_voids : ByteArray := prog_1_method_25_code
def yX11_voids : MethodName := ⟨RX11, "voids", "(I)I"⟩
abbrev cX11_row : ByteArray := prog_1_method_26_code
def yX11_row : MethodName := ⟨RX11, "row", "(II)I"⟩
abbrev cX11_how : ByteArray := prog_1_method_27_code
def yX11_how : MethodName := ⟨RX11, "how", "(I)I"⟩
abbrev cX11_line : ByteArray := prog_1_method_28_code
def yX11_line : MethodName := ⟨RX11, "line", "(III)I"⟩
abbrev cX11_stands : ByteArray := prog_1_method_29_code
def yX11_stands : MethodName := ⟨RX11, "stands", "(I)I"⟩
abbrev cX11_lost : ByteArray := prog_1_method_30_code
def yX11_lost : MethodName := ⟨RX11, "lost", "(I)I"⟩
abbrev cX11_composite : ByteArray := prog_1_method_31_code
def yX11_composite : MethodName := ⟨RX11, "composite", "(I)I"⟩
abbrev cX11_group : ByteArray := prog_1_method_32_code
def yX11_group : MethodName := ⟨RX11, "group", "(II)I"⟩
abbrev cX11_grouped : ByteArray := prog_1_method_33_code
def yX11_grouped : MethodName := ⟨RX11, "grouped", "(III)I"⟩
abbrev cX11_would : ByteArray := prog_1_method_34_code
def yX11_would : MethodName := ⟨RX11, "would", "(II)I"⟩
abbrev cX11_worth : ByteArray := prog_1_method_35_code
def yX11_worth : MethodName := ⟨RX11, "worth", "(III)Z"⟩
abbrev cX11_inOrder : ByteArray := prog_1_method_36_code
def yX11_inOrder : MethodName := ⟨RX11, "inOrder", "(III)I"⟩
abbrev cX11_best : ByteArray := prog_1_method_37_code
def yX11_best : MethodName := ⟨RX11, "best", "(III)I"⟩
abbrev cX11_deal : ByteArray := prog_1_method_38_code
def yX11_deal : MethodName := ⟨RX11, "deal", "(I)I"⟩
abbrev cX11_count : ByteArray := prog_1_method_39_code
def yX11_count : MethodName := ⟨RX11, "count", "(I)I"⟩
abbrev cX11_at : ByteArray := prog_1_method_40_code
def yX11_at : MethodName := ⟨RX11, "at", "([II)I"⟩
abbrev cX11_set : ByteArray := prog_1_method_41_code
def yX11_set : MethodName := ⟨RX11, "set", "([III)V"⟩
abbrev cX11_at_ : ByteArray := prog_1_method_42_code
def yX11_at_ : MethodName := ⟨RX11, "at", "([JI)J"⟩
abbrev cX11_set_ : ByteArray := prog_1_method_43_code
def yX11_set_ : MethodName := ⟨RX11, "set", "([JIJ)V"⟩
abbrev cX11_fill : ByteArray := prog_1_method_44_code
def yX11_fill : MethodName := ⟨RX11, "fill", "([II)V"⟩
abbrev cX11_copy : ByteArray := prog_1_method_45_code
def yX11_copy : MethodName := ⟨RX11, "copy", "([I[I)V"⟩
abbrev cX11_kindOf : ByteArray := prog_1_method_46_code
def yX11_kindOf : MethodName := ⟨RX11, "kindOf", "(I)I"⟩
def RX12 : String := "CardHallModel"
def TX12 : u_T := fun k => match k with
  | 0 => ("CardHallModel", "thrown", "I", false)
  | 1 => ("CardHallModel", "today", "I", false)
  | 2 => ("CardHallModel", "affiliates", "I", false)
  | 3 => ("CardHallModel", "section", "[I", true)
  | 4 => ("CardHallModel", "branches", "I", false)
  | 5 => ("CardHallModel", "branchOf", "[I", true)
  | 6 => ("CardHallModel", "souls", "[I", true)
  | 7 => ("CardHallModel", "closing", "I", false)
  | 8 => ("CardHallModel", "motions", "I", false)
  | 9 => ("CardHallModel", "mover", "[I", true)
  | 10 => ("CardHallModel", "amends", "I", false)
  | 11 => ("CardHallModel", "amendOn", "[I", true)
  | 12 => ("CardHallModel", "changes", "[I", true)
  | 13 => ("CardHallModel", "changeKind", "[I", true)
  | 14 => ("CardHallModel", "changeN", "[I", true)
  | 15 => ("CardHallModel", "orders", "I", false)
  | 16 => ("CardHallModel", "inForce", "I", false)
  | 17 => ("CardHallModel", "motionHow", "[I", true)
  | 18 => ("CardHallModel", "amendHow", "[I", true)
  | 19 => ("CardHallModel", "orderHow", "[I", true)
  | 20 => ("CardHallModel", "lines", "[I", true)
  | 21 => ("CardHallModel", "lineN", "[I", true)
  | 22 => ("CardHallModel", "isMust", "[Z", true)
  | 23 => ("CardHallModel", "lineBy", "[I", true)
  | 24 => ("CardHallModel", "stand", "[I", true)
  | 25 => ("CardHallModel", "wasInForce", "I", false)
  | 26 => ("CardHallModel", "wasMotion", "[I", true)
  | 27 => ("CardHallModel", "wasAmend", "[I", true)
  | 28 => ("CardHallModel", "wasOrder", "[I", true)
  | 29 => ("CardHallModel", "wasLines", "[I", true)
  | 30 => ("CardHallModel", "wasN", "[I", true)
  | 31 => ("CardHallModel", "wasMust", "[Z", true)
  | 32 => ("CardHallModel", "wasBy", "[I", true)
  | 33 => ("CardHallModel", "wasStand", "[I", true)
  | 34 => ("CardHallModel", "tellings", "I", false)
  | 35 => ("CardHallModel", "tellKind", "[I", true)
  | 36 => ("CardHallModel", "tellOf", "[I", true)
  | 37 => ("CardHallModel", "tellMatter", "[I", true)
  | 38 => ("CardHallModel", "tellWhat", "[I", true)
  | 39 => ("CardHallModel", "tellDay", "[I", true)
  | 40 => ("CardHallModel", "signs", "[I", true)
  | 41 => ("CardHallModel", "signMany", "[I", true)
  | 42 => ("CardHallModel", "many", "[I", true)
  | 43 => ("CardHallModel", "kind", "[I", true)
  | 44 => ("CardHallModel", "number", "[I", true)
  | 45 => ("CardHallModel", "begins", "[I", true)
  | 46 => ("CardHallModel", "ends", "[I", true)
  | 47 => ("CardHallModel", "tape", "[B", true)
  | 48 => ("CardHallModel", "taped", "I", false)
  | 49 => ("CardHallModel", "at", "I", false)
  | 50 => ("CardHallModel", "place", "I", false)
  | 51 => ("CardHallModel", "sort", "I", false)
  | 52 => ("CardHallModel", "value", "I", false)
  | 53 => ("CardHallModel", "fault", "I", false)
  | 54 => ("CardHallModel", "faultPlace", "I", false)
  | 55 => ("CardHallModel", "lastPlace", "I", false)
  | 56 => ("CardHallModel", "open", "I", false)
  | 57 => ("CardHallModel", "asked", "I", false)
  | 58 => ("CardHallModel", "named", "[I", true)
  | 59 => ("CardHallModel", "heap", "[I", true)
  | 60 => ("CardHallModel", "isVoid", "[Z", true)
  | 61 => ("CardHallModel", "yes", "J", false)
  | 62 => ("CardHallModel", "no", "J", false)
  | 63 => ("CardHallModel", "all", "J", false)
  | 64 => ("CardHallModel", "more", "[J", true)
  | 65 => ("CardHallModel", "sections", "I", false)
  | 66 => ("CardHallModel", "rowN", "[I", true)
  | 67 => ("CardHallModel", "rowMust", "[Z", true)
  | 68 => ("CardHallModel", "rowBy", "[I", true)
  | 69 => ("CardHallModel", "rowMany", "I", false)
  | 70 => ("CardHallModel", "rows", "I", false)
  | 71 => ("CardHallModel", "row", "[I", true)
  | 72 => ("CardHallModel", "mayBeVoid", "Z", false)
  | 73 => ("CardHallModel", "wayOf", "[I", true)
  | 74 => ("CardHallModel", "mustOf", "[Z", true)
  | 75 => ("CardHallModel", "haveIt", "[I", true)
  | 76 => ("CardHallModel", "isTaken", "[Z", true)
  | 77 => ("CardHallModel", "lostLines", "I", false)
  | 78 => ("CardHallModel", "inSet", "[I", true)
  | 79 => ("CardHallModel", "groupOf", "[I", true)
  | 80 => ("CardHallModel", "bestOf", "[I", true)
  | 81 => ("CardHallModel", "setMany", "I", false)
  | 82 => ("CardHallModel", "worths", "[I", true)
  | 83 => ("CardHallModel", "order", "[I", true)
  | 84 => ("CardHallModel", "bestOrder", "[I", true)
  | 85 => ("CardHallModel", "tried", "[I", true)
  | 86 => ("CardHallModel", "isNow", "[Z", true)
  | 87 => ("CardHallModel", "isThen", "[Z", true)
  | 88 => ("CardHallModel", "mayTurn", "[Z", true)
  | _ => ("CardHallModel", "deal", "[I", true)
def tyX12 : Nat → FieldType := fun k => match k with
  | 0 => .int
  | 1 => .int
  | 2 => .int
  | 3 => .array .int
  | 4 => .int
  | 5 => .array .int
  | 6 => .array .int
  | 7 => .int
  | 8 => .int
  | 9 => .array .int
  | 10 => .int
  | 11 => .array .int
  | 12 => .array .int
  | 13 => .array .int
  | 14 => .array .int
  | 15 => .int
  | 16 => .int
  | 17 => .array .int
  | 18 => .array .int
  | 19 => .array .int
  | 20 => .array .int
  | 21 => .array .int
  | 22 => .array .boolean
  | 23 => .array .int
  | 24 => .array .int
  | 25 => .int
  | 26 => .array .int
  | 27 => .array .int
  | 28 => .array .int
  | 29 => .array .int
  | 30 => .array .int
  | 31 => .array .boolean
  | 32 => .array .int
  | 33 => .array .int
  | 34 => .int
  | 35 => .array .int
  | 36 => .array .int
  | 37 => .array .int
  | 38 => .array .int
  | 39 => .array .int
  | 40 => .array .int
  | 41 => .array .int
  | 42 => .array .int
  | 43 => .array .int
  | 44 => .array .int
  | 45 => .array .int
  | 46 => .array .int
  | 47 => .array .byte
  | 48 => .int
  | 49 => .int
  | 50 => .int
  | 51 => .int
  | 52 => .int
  | 53 => .int
  | 54 => .int
  | 55 => .int
  | 56 => .int
  | 57 => .int
  | 58 => .array .int
  | 59 => .array .int
  | 60 => .array .boolean
  | 61 => .long
  | 62 => .long
  | 63 => .long
  | 64 => .array .long
  | 65 => .int
  | 66 => .array .int
  | 67 => .array .boolean
  | 68 => .array .int
  | 69 => .int
  | 70 => .int
  | 71 => .array .int
  | 72 => .boolean
  | 73 => .array .int
  | 74 => .array .boolean
  | 75 => .array .int
  | 76 => .array .boolean
  | 77 => .int
  | 78 => .array .int
  | 79 => .array .int
  | 80 => .array .int
  | 81 => .int
  | 82 => .array .int
  | 83 => .array .int
  | 84 => .array .int
  | 85 => .array .int
  | 86 => .array .boolean
  | 87 => .array .boolean
  | 88 => .array .boolean
  | _ => .array .int
abbrev wsX120 : List Cond := u_ws RX12 TX12 90
theorem nmX12 : ∀ a, a < 90 → ∀ b, b < 90 → a ≠ b → (TX12 a).2.1 ≠ (TX12 b).2.1 := by decide +kernel
theorem tyX12_ok : ∀ k, k < 90 → parseFieldDescriptor (TX12 k).2.2.1 = some (tyX12 k) := by decide +kernel
abbrev cX12_thrown : ByteArray := prog_14_method_1_code
def yX12_thrown : MethodName := ⟨RX12, "thrown", "()I"⟩
abbrev cX12_within : ByteArray := prog_14_method_2_code
def yX12_within : MethodName := ⟨RX12, "within", "(III)Z"⟩
abbrev cX12_init : ByteArray := prog_14_method_3_code
def yX12_init : MethodName := ⟨RX12, "<init>", "()V"⟩
abbrev cX12_isAffiliate : ByteArray := prog_14_method_4_code
def yX12_isAffiliate : MethodName := ⟨RX12, "isAffiliate", "(I)Z"⟩
abbrev cX12_isKnown : ByteArray := prog_14_method_5_code
def yX12_isKnown : MethodName := ⟨RX12, "isKnown", "(I)Z"⟩
abbrev cX12_affiliate : ByteArray := prog_14_method_6_code
def yX12_affiliate : MethodName := ⟨RX12, "affiliate", "(I)I"⟩
abbrev cX12_branch : ByteArray := prog_14_method_7_code
def yX12_branch : MethodName := ⟨RX12, "branch", "(II)I"⟩
abbrev cX12_day : ByteArray := prog_14_method_8_code
def yX12_day : MethodName := ⟨RX12, "day", "(I)I"⟩
abbrev cX12_closing : ByteArray := prog_14_method_9_code
def yX12_closing : MethodName := ⟨RX12, "closing", "(I)Z"⟩
abbrev cX12_copies : ByteArray := prog_14_method_10_code
def yX12_copies : MethodName := ⟨RX12, "copies", "([I[I)V"⟩
abbrev cX12_keeps : ByteArray := prog_14_method_11_code
def yX12_keeps : MethodName := ⟨RX12, "keeps", "()V"⟩
abbrev cX12_goesBack : ByteArray := prog_14_method_12_code
def yX12_goesBack : MethodName := ⟨RX12, "goesBack", "()V"⟩
abbrev cX12_isMotion : ByteArray := prog_14_method_13_code
def yX12_isMotion : MethodName := ⟨RX12, "isMotion", "(I)Z"⟩
abbrev cX12_isMatter : ByteArray := prog_14_method_14_code
def yX12_isMatter : MethodName := ⟨RX12, "isMatter", "(I)Z"⟩
abbrev cX12_howOf : ByteArray := prog_14_method_15_code
def yX12_howOf : MethodName := ⟨RX12, "howOf", "(I)I"⟩
abbrev cX12_isOpen : ByteArray := prog_14_method_16_code
def yX12_isOpen : MethodName := ⟨RX12, "isOpen", "(I)Z"⟩
abbrev cX12_how : ByteArray := prog_14_method_17_code
def yX12_how : MethodName := ⟨RX12, "how", "(I)I"⟩
abbrev cX12_line : ByteArray := prog_14_method_18_code
def yX12_line : MethodName := ⟨RX12, "line", "(III)I"⟩
abbrev cX12_stands : ByteArray := prog_14_method_19_code
def yX12_stands : MethodName := ⟨RX12, "stands", "(I)I"⟩
abbrev cX12_tells : ByteArray := prog_14_method_20_code
def yX12_tells : MethodName := ⟨RX12, "tells", "(IIII)Z"⟩
abbrev cX12_toldBy : ByteArray := prog_14_method_21_code
def yX12_toldBy : MethodName := ⟨RX12, "toldBy", "(IIIII)I"⟩
abbrev cX12_heads : ByteArray := prog_14_method_22_code
def yX12_heads : MethodName := ⟨RX12, "heads", "(II)Z"⟩
abbrev cX12_dues : ByteArray := prog_14_method_23_code
def yX12_dues : MethodName := ⟨RX12, "dues", "(II)Z"⟩
abbrev cX12_mandate : ByteArray := prog_14_method_24_code
def yX12_mandate : MethodName := ⟨RX12, "mandate", "(III)Z"⟩
abbrev cX12_mandateOf : ByteArray := prog_14_method_25_code
def yX12_mandateOf : MethodName := ⟨RX12, "mandateOf", "(III)I"⟩
abbrev cX12_voiceOf : ByteArray := prog_14_method_26_code
def yX12_voiceOf : MethodName := ⟨RX12, "voiceOf", "(III)I"⟩
abbrev cX12_casts : ByteArray := prog_14_method_27_code
def yX12_casts : MethodName := ⟨RX12, "casts", "(III)Z"⟩
abbrev cX12_voice : ByteArray := prog_14_method_28_code
def yX12_voice : MethodName := ⟨RX12, "voice", "(IIII)I"⟩
abbrev cX12_broken : ByteArray := prog_14_method_29_code
def yX12_broken : MethodName := ⟨RX12, "broken", "(II)I"⟩
abbrev cX12_feed : ByteArray := prog_14_method_30_code
def yX12_feed : MethodName := ⟨RX12, "feed", "(IIIII)I"⟩
abbrev cX12_end : ByteArray := prog_14_method_31_code
def yX12_end : MethodName := ⟨RX12, "end", "(I)I"⟩
abbrev cX12_see : ByteArray := prog_14_method_32_code
def yX12_see : MethodName := ⟨RX12, "see", "(I)I"⟩
abbrev cX12_isSmall : ByteArray := prog_14_method_33_code
def yX12_isSmall : MethodName := ⟨RX12, "isSmall", "(I)Z"⟩
abbrev cX12_isDigit : ByteArray := prog_14_method_34_code
def yX12_isDigit : MethodName := ⟨RX12, "isDigit", "(I)Z"⟩
abbrev cX12_next : ByteArray := prog_14_method_35_code
def yX12_next : MethodName := ⟨RX12, "next", "()V"⟩
abbrev cX12_isWord : ByteArray := prog_14_method_36_code
def yX12_isWord : MethodName := ⟨RX12, "isWord", "(Ljava/lang/String;)Z"⟩
abbrev cX12_isSign : ByteArray := prog_14_method_37_code
def yX12_isSign : MethodName := ⟨RX12, "isSign", "(I)Z"⟩
abbrev cX12_fails : ByteArray := prog_14_method_38_code
def yX12_fails : MethodName := ⟨RX12, "fails", "(I)V"⟩
abbrev cX12_isWell : ByteArray := prog_14_method_39_code
def yX12_isWell : MethodName := ⟨RX12, "isWell", "()Z"⟩
abbrev cX12_wantSign : ByteArray := prog_14_method_40_code
def yX12_wantSign : MethodName := ⟨RX12, "wantSign", "(I)V"⟩
abbrev cX12_wantWord : ByteArray := prog_14_method_41_code
def yX12_wantWord : MethodName := ⟨RX12, "wantWord", "(Ljava/lang/String;)V"⟩
abbrev cX12_name : ByteArray := prog_14_method_42_code
def yX12_name : MethodName := ⟨RX12, "name", "()I"⟩
abbrev cX12_emits : ByteArray := prog_14_method_43_code
def yX12_emits : MethodName := ⟨RX12, "emits", "(I)V"⟩
abbrev cX12_opens : ByteArray := prog_14_method_44_code
def yX12_opens : MethodName := ⟨RX12, "opens", "()V"⟩
abbrev cX12_factor : ByteArray := prog_14_method_45_code
def yX12_factor : MethodName := ⟨RX12, "factor", "()V"⟩
abbrev cX12_product : ByteArray := prog_14_method_46_code
def yX12_product : MethodName := ⟨RX12, "product", "()V"⟩
abbrev cX12_sum : ByteArray := prog_14_method_47_code
def yX12_sum : MethodName := ⟨RX12, "sum", "()V"⟩
abbrev cX12_compares : ByteArray := prog_14_method_48_code
def yX12_compares : MethodName := ⟨RX12, "compares", "()V"⟩
abbrev cX12_part : ByteArray := prog_14_method_49_code
def yX12_part : MethodName := ⟨RX12, "part", "()V"⟩
abbrev cX12_both : ByteArray := prog_14_method_50_code
def yX12_both : MethodName := ⟨RX12, "both", "()V"⟩
abbrev cX12_cond : ByteArray := prog_14_method_51_code
def yX12_cond : MethodName := ⟨RX12, "cond", "()V"⟩
abbrev cX12_readNumber : ByteArray := prog_14_method_52_code
def yX12_readNumber : MethodName := ⟨RX12, "readNumber", "(I)I"⟩
abbrev cX12_clauseKind : ByteArray := prog_14_method_53_code
def yX12_clauseKind : MethodName := ⟨RX12, "clauseKind", "()I"⟩
abbrev cX12_readClause : ByteArray := prog_14_method_54_code
def yX12_readClause : MethodName := ⟨RX12, "readClause", "()V"⟩
abbrev cX12_starts : ByteArray := prog_14_method_55_code
def yX12_starts : MethodName := ⟨RX12, "starts", "()V"⟩
abbrev cX12_stops : ByteArray := prog_14_method_56_code
def yX12_stops : MethodName := ⟨RX12, "stops", "()I"⟩
abbrev cX12_place : ByteArray := prog_14_method_57_code
def yX12_place : MethodName := ⟨RX12, "place", "()I"⟩
abbrev cX12_orders : ByteArray := prog_14_method_58_code
def yX12_orders : MethodName := ⟨RX12, "orders", "()I"⟩
abbrev cX12_clause : ByteArray := prog_14_method_59_code
def yX12_clause : MethodName := ⟨RX12, "clause", "(I)I"⟩
abbrev cX12_hasBind : ByteArray := prog_14_method_60_code
def yX12_hasBind : MethodName := ⟨RX12, "hasBind", "()Z"⟩
abbrev cX12_length : ByteArray := prog_14_method_61_code
def yX12_length : MethodName := ⟨RX12, "length", "()I"⟩
abbrev cX12_bounded : ByteArray := prog_14_method_62_code
def yX12_bounded : MethodName := ⟨RX12, "bounded", "(J)I"⟩
abbrev cX12_joined : ByteArray := prog_14_method_63_code
def yX12_joined : MethodName := ⟨RX12, "joined", "(III)I"⟩
abbrev cX12_works : ByteArray := prog_14_method_64_code
def yX12_works : MethodName := ⟨RX12, "works", "(I)I"⟩
abbrev cX12_paidOf : ByteArray := prog_14_method_65_code
def yX12_paidOf : MethodName := ⟨RX12, "paidOf", "(II)I"⟩
abbrev cX12_cardsOf : ByteArray := prog_14_method_66_code
def yX12_cardsOf : MethodName := ⟨RX12, "cardsOf", "(II)I"⟩
abbrev cX12_paid : ByteArray := prog_14_method_67_code
def yX12_paid : MethodName := ⟨RX12, "paid", "(II)I"⟩
abbrev cX12_cards : ByteArray := prog_14_method_68_code
def yX12_cards : MethodName := ⟨RX12, "cards", "(II)I"⟩
abbrev cX12_counts : ByteArray := prog_14_method_69_code
def yX12_counts : MethodName := ⟨RX12, "counts", "(III)V"⟩
abbrev cX12_findCount : ByteArray := prog_14_method_70_code
def yX12_findCount : MethodName := ⟨RX12, "findCount", "(IIIIZ)V"⟩
abbrev cX12_whole : ByteArray := prog_14_method_71_code
def yX12_whole : MethodName := ⟨RX12, "whole", "(J)I"⟩
abbrev cX12_counted : ByteArray := prog_14_method_72_code
def yX12_counted : MethodName := ⟨RX12, "counted", "(III)I"⟩
abbrev cX12_takesRow : ByteArray := prog_14_method_73_code
def yX12_takesRow : MethodName := ⟨RX12, "takesRow", "(I)V"⟩
abbrev cX12_laysRow : ByteArray := prog_14_method_74_code
def yX12_laysRow : MethodName := ⟨RX12, "laysRow", "(I)V"⟩
abbrev cX12_inRow : ByteArray := prog_14_method_75_code
def yX12_inRow : MethodName := ⟨RX12, "inRow", "(I)I"⟩
abbrev cX12_does : ByteArray := prog_14_method_76_code
def yX12_does : MethodName := ⟨RX12, "does", "(I)V"⟩
abbrev cX12_size : ByteArray := prog_14_method_77_code
def yX12_size : MethodName := ⟨RX12, "size", "(I)I"⟩
abbrev cX12_against : ByteArray := prog_14_method_78_code
def yX12_against : MethodName := ⟨RX12, "against", "([I)I"⟩
abbrev cX12_againstOf : ByteArray := prog_14_method_79_code
def yX12_againstOf : MethodName := ⟨RX12, "againstOf", "(I[I)I"⟩
abbrev cX12_passes : ByteArray := prog_14_method_80_code
def yX12_passes : MethodName := ⟨RX12, "passes", "(II[I)Z"⟩
abbrev cX12_readLine : ByteArray := prog_14_method_81_code
def yX12_readLine : MethodName := ⟨RX12, "readLine", "(II)V"⟩
abbrev cX12_mayBeLate : ByteArray := prog_14_method_82_code
def yX12_mayBeLate : MethodName := ⟨RX12, "mayBeLate", "(I)Z"⟩
abbrev cX12_motion : ByteArray := prog_14_method_83_code
def yX12_motion : MethodName := ⟨RX12, "motion", "(I)I"⟩
abbrev cX12_comes : ByteArray := prog_14_method_84_code
def yX12_comes : MethodName := ⟨RX12, "comes", "(I)I"⟩
abbrev cX12_readChange : ByteArray := prog_14_method_85_code
def yX12_readChange : MethodName := ⟨RX12, "readChange", "(II)V"⟩
abbrev cX12_amend : ByteArray := prog_14_method_86_code
def yX12_amend : MethodName := ⟨RX12, "amend", "(I)I"⟩
abbrev cX12_settles : ByteArray := prog_14_method_87_code
def yX12_settles : MethodName := ⟨RX12, "settles", "(II)V"⟩
abbrev cX12_isContrary : ByteArray := prog_14_method_88_code
def yX12_isContrary : MethodName := ⟨RX12, "isContrary", "(II)Z"⟩
abbrev cX12_passesMotion : ByteArray := prog_14_method_89_code
def yX12_passesMotion : MethodName := ⟨RX12, "passesMotion", "(I)V"⟩
abbrev cX12_passesAmend : ByteArray := prog_14_method_90_code
def yX12_passesAmend : MethodName := ⟨RX12, "passesAmend", "(I)V"⟩
abbrev cX12_decides : ByteArray := prog_14_method_91_code
def yX12_decides : MethodName := ⟨RX12, "decides", "(III)I"⟩
abbrev cX12_decide : ByteArray := prog_14_method_92_code
def yX12_decide : MethodName := ⟨RX12, "decide", "(I)I"⟩
abbrev cX12_voids : ByteArray := prog_14_method_93_code
def yX12_voids : MethodName := ⟨RX12, "voids", "(I)I"⟩
abbrev cX12_row : ByteArray := prog_14_method_94_code
def yX12_row : MethodName := ⟨RX12, "row", "(II)I"⟩
abbrev cX12_bitsOf : ByteArray := prog_14_method_95_code
def yX12_bitsOf : MethodName := ⟨RX12, "bitsOf", "(I)I"⟩
abbrev cX12_areOpen : ByteArray := prog_14_method_96_code
def yX12_areOpen : MethodName := ⟨RX12, "areOpen", "(III)Z"⟩
abbrev cX12_composes : ByteArray := prog_14_method_97_code
def yX12_composes : MethodName := ⟨RX12, "composes", "(I)Z"⟩
abbrev cX12_lost : ByteArray := prog_14_method_98_code
def yX12_lost : MethodName := ⟨RX12, "lost", "(I)I"⟩
abbrev cX12_composite : ByteArray := prog_14_method_99_code
def yX12_composite : MethodName := ⟨RX12, "composite", "(I)I"⟩
abbrev cX12_loses : ByteArray := prog_14_method_100_code
def yX12_loses : MethodName := ⟨RX12, "loses", "(I)I"⟩
abbrev cX12_groupsOf : ByteArray := prog_14_method_101_code
def yX12_groupsOf : MethodName := ⟨RX12, "groupsOf", "()I"⟩
abbrev cX12_countsUp : ByteArray := prog_14_method_102_code
def yX12_countsUp : MethodName := ⟨RX12, "countsUp", "()Z"⟩
abbrev cX12_groups : ByteArray := prog_14_method_103_code
def yX12_groups : MethodName := ⟨RX12, "groups", "(II)I"⟩
abbrev cX12_group : ByteArray := prog_14_method_104_code
def yX12_group : MethodName := ⟨RX12, "group", "(II)I"⟩
abbrev cX12_grouped : ByteArray := prog_14_method_105_code
def yX12_grouped : MethodName := ⟨RX12, "grouped", "(III)I"⟩
abbrev cX12_wouldPass : ByteArray := prog_14_method_106_code
def yX12_wouldPass : MethodName := ⟨RX12, "wouldPass", "(III[I)Z"⟩
abbrev cX12_would : ByteArray := prog_14_method_107_code
def yX12_would : MethodName := ⟨RX12, "would", "(II)I"⟩
abbrev cX12_worth : ByteArray := prog_14_method_108_code
def yX12_worth : MethodName := ⟨RX12, "worth", "(III)Z"⟩
abbrev cX12_listsMotions : ByteArray := prog_14_method_109_code
def yX12_listsMotions : MethodName := ⟨RX12, "listsMotions", "(I)V"⟩
abbrev cX12_worthOf : ByteArray := prog_14_method_110_code
def yX12_worthOf : MethodName := ⟨RX12, "worthOf", "(I)I"⟩
abbrev cX12_inOrder : ByteArray := prog_14_method_111_code
def yX12_inOrder : MethodName := ⟨RX12, "inOrder", "(III)I"⟩
abbrev cX12_goesOn : ByteArray := prog_14_method_112_code
def yX12_goesOn : MethodName := ⟨RX12, "goesOn", "()Z"⟩
abbrev cX12_swaps : ByteArray := prog_14_method_113_code
def yX12_swaps : MethodName := ⟨RX12, "swaps", "(II)V"⟩
abbrev cX12_best : ByteArray := prog_14_method_114_code
def yX12_best : MethodName := ⟨RX12, "best", "(III)I"⟩
abbrev cX12_findTurns : ByteArray := prog_14_method_115_code
def yX12_findTurns : MethodName := ⟨RX12, "findTurns", "()V"⟩
abbrev cX12_gain : ByteArray := prog_14_method_116_code
def yX12_gain : MethodName := ⟨RX12, "gain", "(III)I"⟩
abbrev cX12_findDeal : ByteArray := prog_14_method_117_code
def yX12_findDeal : MethodName := ⟨RX12, "findDeal", "()Z"⟩
abbrev cX12_deal : ByteArray := prog_14_method_118_code
def yX12_deal : MethodName := ⟨RX12, "deal", "(I)I"⟩
abbrev cX12_count : ByteArray := prog_14_method_119_code
def yX12_count : MethodName := ⟨RX12, "count", "(I)I"⟩
def RJx145de : String := "java/io/Serializable"
def TJx145de : u_T := fun k => match k with
  | _ => ("", "", "", false)
def tyJx145de : Nat → FieldType := fun k => match k with
  | _ => .int
def RJx9f9b0 : String := "java/lang/CharSequence"
def TJx9f9b0 : u_T := fun k => match k with
  | _ => ("", "", "", false)
def tyJx9f9b0 : Nat → FieldType := fun k => match k with
  | _ => .int
def RJxb160c : String := "java/lang/Comparable"
def TJxb160c : u_T := fun k => match k with
  | _ => ("", "", "", false)
def tyJxb160c : Nat → FieldType := fun k => match k with
  | _ => .int
def RJ6 : String := "java/lang/Integer"
def TJ6 : u_T := fun k => match k with
  | _ => ("", "", "", false)
def tyJ6 : Nat → FieldType := fun k => match k with
  | _ => .int
abbrev cJ6_bitCount_0f7a4 : ByteArray := prog_19_method_49_code
def yJ6_bitCount_0f7a4 : MethodName := ⟨RJ6, "bitCount", "(I)I"⟩
def RJ13 : String := "java/lang/Long"
def TJ13 : u_T := fun k => match k with
  | _ => ("", "", "", false)
def tyJ13 : Nat → FieldType := fun k => match k with
  | _ => .int
abbrev cJ13_bitCount_95d88 : ByteArray := prog_20_method_50_code
def yJ13_bitCount_95d88 : MethodName := ⟨RJ13, "bitCount", "(J)I"⟩
def RJ9 : String := "java/lang/Math"
def TJ9 : u_T := fun k => match k with
  | _ => ("", "", "", false)
def tyJ9 : Nat → FieldType := fun k => match k with
  | _ => .int
abbrev cJ9_abs_0f7a4 : ByteArray := prog_21_method_59_code
def yJ9_abs_0f7a4 : MethodName := ⟨RJ9, "abs", "(I)I"⟩
abbrev cJ9_max_7cf53 : ByteArray := prog_21_method_65_code
def yJ9_max_7cf53 : MethodName := ⟨RJ9, "max", "(II)I"⟩
abbrev cJ9_min_7cf53 : ByteArray := prog_21_method_69_code
def yJ9_min_7cf53 : MethodName := ⟨RJ9, "min", "(II)I"⟩
def RJ0 : String := "java/lang/String"
def TJ0 : u_T := fun k => match k with
  | _ => ("", "", "", false)
def tyJ0 : Nat → FieldType := fun k => match k with
  | _ => .int
abbrev cJ0_length_8abf5 : ByteArray := prog_23_method_54_code
def yJ0_length_8abf5 : MethodName := ⟨RJ0, "length", "()I"⟩
abbrev cJ0_charAt_5068e : ByteArray := prog_23_method_56_code
def yJ0_charAt_5068e : MethodName := ⟨RJ0, "charAt", "(I)C"⟩
abbrev cJ0_coder_7d493 : ByteArray := prog_23_method_152_code
def yJ0_coder_7d493 : MethodName := ⟨RJ0, "coder", "()B"⟩
abbrev cJ0_isLatin1_aae02 : ByteArray := prog_23_method_154_code
def yJ0_isLatin1_aae02 : MethodName := ⟨RJ0, "isLatin1", "()Z"⟩
abbrev cJ0_checkIndex_df160 : ByteArray := prog_23_method_155_code
def yJ0_checkIndex_df160 : MethodName := ⟨RJ0, "checkIndex", "(II)V"⟩
def RJ1 : String := "java/lang/StringLatin1"
def TJ1 : u_T := fun k => match k with
  | _ => ("", "", "", false)
def tyJ1 : Nat → FieldType := fun k => match k with
  | _ => .int
abbrev cJ1_charAt_3b067 : ByteArray := prog_24_method_2_code
def yJ1_charAt_3b067 : MethodName := ⟨RJ1, "charAt", "([BI)C"⟩
def RJ2 : String := "java/lang/StringUTF16"
def TJ2 : u_T := fun k => match k with
  | _ => ("", "", "", false)
def tyJ2 : Nat → FieldType := fun k => match k with
  | _ => .int
abbrev cJ2_getChar_3b067 : ByteArray := prog_25_method_5_code
def yJ2_getChar_3b067 : MethodName := ⟨RJ2, "getChar", "([BI)C"⟩
abbrev cJ2_length_9d52b : ByteArray := prog_25_method_6_code
def yJ2_length_9d52b : MethodName := ⟨RJ2, "length", "([B)I"⟩
abbrev cJ2_charAt_3b067 : ByteArray := prog_25_method_83_code
def yJ2_charAt_3b067 : MethodName := ⟨RJ2, "charAt", "([BI)C"⟩
abbrev cJ2_checkIndex_2214a : ByteArray := prog_25_method_91_code
def yJ2_checkIndex_2214a : MethodName := ⟨RJ2, "checkIndex", "(I[B)V"⟩
def RJxfd54e : String := "java/lang/constant/Constable"
def TJxfd54e : u_T := fun k => match k with
  | _ => ("", "", "", false)
def tyJxfd54e : Nat → FieldType := fun k => match k with
  | _ => .int
def RJx3cf43 : String := "java/lang/constant/ConstantDesc"
def TJx3cf43 : u_T := fun k => match k with
  | _ => ("", "", "", false)
def tyJx3cf43 : Nat → FieldType := fun k => match k with
  | _ => .int
def RJ3 : String := "jdk/internal/util/Preconditions"
def TJ3 : u_T := fun k => match k with
  | _ => ("", "", "", false)
def tyJ3 : Nat → FieldType := fun k => match k with
  | _ => .int
abbrev cJ3_checkIndex_8e157 : ByteArray := prog_30_method_11_code
def yJ3_checkIndex_8e157 : MethodName := ⟨RJ3, "checkIndex", "(IILjava/util/function/BiFunction;)I"⟩
def RL : String := "CardHallLaw"
abbrev cL_row : ByteArray := method_3_code
def yL_row : MethodName := ⟨RL, "row", "(LCardHall;II[J)I"⟩
abbrev cL_law : ByteArray := code
def yL_law : MethodName := ⟨RL, "law", "([I)Z"⟩
abbrev vwCl : List vw_C := [(RX0, TX0, 9), (RX1, TX1, 18), (RX2, TX2, 17), (RX3, TX3, 9), (RX4, TX4, 4), (RX5, TX5, 3), (RX6, TX6, 10), (RX7, TX7, 13), (RX8, TX8, 7), (RX9, TX9, 8), (RX10, TX10, 16), (RX11, TX11, 10), (RX12, TX12, 90)]
