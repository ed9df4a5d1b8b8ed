-- ===== PART A: goes FIRST, ahead of the names: the tables' words, and 'selects' of the private methods out of them =====
/-- a private method of a class that the tables say can be made, by its rows of tables_1 -/
def lw_okq (q : MethodName × Nat) : Prop := (q.1.cls ≠ "java/lang/invoke/MethodHandle" ∧ q.1.cls ≠ "java/lang/invoke/VarHandle") ∧ Cond.instantiable q.1.cls q.2 ∈ tables_1 ∧ Cond.privateMethod q.1 ∈ tables_1 ∧ Cond.instanceMethod q.1 ∈ tables_1
theorem lw_p0 : lw_okq (⟨"RuleChangeDesk$Row", "findActs", "()V"⟩, 6) := ⟨⟨by decide +kernel, by decide +kernel⟩, List.mem_of_getElem? (i := 33) (by decide +kernel), List.mem_of_getElem? (i := 297) (by decide +kernel), List.mem_of_getElem? (i := 298) (by decide +kernel)⟩
theorem lw_p1 : lw_okq (⟨"RuleChangeDesk", "startAfresh", "()V"⟩, 6) := ⟨⟨by decide +kernel, by decide +kernel⟩, List.mem_of_getElem? (i := 15) (by decide +kernel), List.mem_of_getElem? (i := 308) (by decide +kernel), List.mem_of_getElem? (i := 309) (by decide +kernel)⟩
theorem lw_p2 : lw_okq (⟨"RuleChangeDesk$Row", "put", "(IIIII)V"⟩, 6) := ⟨⟨by decide +kernel, by decide +kernel⟩, List.mem_of_getElem? (i := 33) (by decide +kernel), List.mem_of_getElem? (i := 406) (by decide +kernel), List.mem_of_getElem? (i := 407) (by decide +kernel)⟩
theorem lw_p3 : lw_okq (⟨"RuleChangeDesk$Net", "findClasses", "()V"⟩, 9) := ⟨⟨by decide +kernel, by decide +kernel⟩, List.mem_of_getElem? (i := 23) (by decide +kernel), List.mem_of_getElem? (i := 487) (by decide +kernel), List.mem_of_getElem? (i := 488) (by decide +kernel)⟩
theorem lw_p4 : lw_okq (⟨"RuleChangeDesk$Net", "leastAlike", "(I)I"⟩, 9) := ⟨⟨by decide +kernel, by decide +kernel⟩, List.mem_of_getElem? (i := 23) (by decide +kernel), List.mem_of_getElem? (i := 491) (by decide +kernel), List.mem_of_getElem? (i := 492) (by decide +kernel)⟩
theorem lw_p5 : lw_okq (⟨"RuleChangeDesk$Net", "isSeparated", "(II)Z"⟩, 9) := ⟨⟨by decide +kernel, by decide +kernel⟩, List.mem_of_getElem? (i := 23) (by decide +kernel), List.mem_of_getElem? (i := 495) (by decide +kernel), List.mem_of_getElem? (i := 496) (by decide +kernel)⟩
theorem lw_p6 : lw_okq (⟨"RuleChangeDesk$Judge", "findKept", "()V"⟩, 10) := ⟨⟨by decide +kernel, by decide +kernel⟩, List.mem_of_getElem? (i := 89) (by decide +kernel), List.mem_of_getElem? (i := 511) (by decide +kernel), List.mem_of_getElem? (i := 512) (by decide +kernel)⟩
theorem lw_p7 : lw_okq (⟨"RuleChangeDesk$Judge", "traceByBooks", "(II)V"⟩, 10) := ⟨⟨by decide +kernel, by decide +kernel⟩, List.mem_of_getElem? (i := 89) (by decide +kernel), List.mem_of_getElem? (i := 524) (by decide +kernel), List.mem_of_getElem? (i := 525) (by decide +kernel)⟩
theorem lw_p8 : lw_okq (⟨"RuleChangeDesk$Judge", "strikeNotGood", "(LRuleChangeDesk$Want;I)V"⟩, 10) := ⟨⟨by decide +kernel, by decide +kernel⟩, List.mem_of_getElem? (i := 89) (by decide +kernel), List.mem_of_getElem? (i := 577) (by decide +kernel), List.mem_of_getElem? (i := 578) (by decide +kernel)⟩
theorem lw_p9 : lw_okq (⟨"RuleChangeDesk$Planner", "fewestFrom", "(II)I"⟩, 4) := ⟨⟨by decide +kernel, by decide +kernel⟩, List.mem_of_getElem? (i := 186) (by decide +kernel), List.mem_of_getElem? (i := 661) (by decide +kernel), List.mem_of_getElem? (i := 662) (by decide +kernel)⟩
theorem lw_p10 : lw_okq (⟨"RuleChangeDesk$Planner", "leastNotGood", "(II)I"⟩, 4) := ⟨⟨by decide +kernel, by decide +kernel⟩, List.mem_of_getElem? (i := 186) (by decide +kernel), List.mem_of_getElem? (i := 665) (by decide +kernel), List.mem_of_getElem? (i := 666) (by decide +kernel)⟩
theorem lw_p11 : lw_okq (⟨"RuleChangeDesk$Planner", "leastRound", "(II)I"⟩, 4) := ⟨⟨by decide +kernel, by decide +kernel⟩, List.mem_of_getElem? (i := 186) (by decide +kernel), List.mem_of_getElem? (i := 670) (by decide +kernel), List.mem_of_getElem? (i := 671) (by decide +kernel)⟩
theorem lw_p12 : lw_okq (⟨"RuleChangeDesk$Planner", "findOrderings", "(I)I"⟩, 4) := ⟨⟨by decide +kernel, by decide +kernel⟩, List.mem_of_getElem? (i := 186) (by decide +kernel), List.mem_of_getElem? (i := 686) (by decide +kernel), List.mem_of_getElem? (i := 687) (by decide +kernel)⟩
theorem lw_p13 : lw_okq (⟨"RuleChangeDesk$Planner", "orderingsFrom", "(II)I"⟩, 4) := ⟨⟨by decide +kernel, by decide +kernel⟩, List.mem_of_getElem? (i := 186) (by decide +kernel), List.mem_of_getElem? (i := 690) (by decide +kernel), List.mem_of_getElem? (i := 691) (by decide +kernel)⟩
theorem lw_p14 : lw_okq (⟨"RuleChangeDesk$Planner", "orderingsBy", "(III)I"⟩, 4) := ⟨⟨by decide +kernel, by decide +kernel⟩, List.mem_of_getElem? (i := 186) (by decide +kernel), List.mem_of_getElem? (i := 694) (by decide +kernel), List.mem_of_getElem? (i := 695) (by decide +kernel)⟩
theorem lw_p15 : lw_okq (⟨"RuleChangeDesk$Run", "left", "()I"⟩, 10) := ⟨⟨by decide +kernel, by decide +kernel⟩, List.mem_of_getElem? (i := 205) (by decide +kernel), List.mem_of_getElem? (i := 810) (by decide +kernel), List.mem_of_getElem? (i := 811) (by decide +kernel)⟩
def lw_privs_1 : List (MethodName × Nat) := [(⟨"RuleChangeDesk$Row", "findActs", "()V"⟩, 6), (⟨"RuleChangeDesk", "startAfresh", "()V"⟩, 6), (⟨"RuleChangeDesk$Row", "put", "(IIIII)V"⟩, 6), (⟨"RuleChangeDesk$Net", "findClasses", "()V"⟩, 9), (⟨"RuleChangeDesk$Net", "leastAlike", "(I)I"⟩, 9), (⟨"RuleChangeDesk$Net", "isSeparated", "(II)Z"⟩, 9), (⟨"RuleChangeDesk$Judge", "findKept", "()V"⟩, 10), (⟨"RuleChangeDesk$Judge", "traceByBooks", "(II)V"⟩, 10), (⟨"RuleChangeDesk$Judge", "strikeNotGood", "(LRuleChangeDesk$Want;I)V"⟩, 10), (⟨"RuleChangeDesk$Planner", "fewestFrom", "(II)I"⟩, 4), (⟨"RuleChangeDesk$Planner", "leastNotGood", "(II)I"⟩, 4), (⟨"RuleChangeDesk$Planner", "leastRound", "(II)I"⟩, 4), (⟨"RuleChangeDesk$Planner", "findOrderings", "(I)I"⟩, 4), (⟨"RuleChangeDesk$Planner", "orderingsFrom", "(II)I"⟩, 4), (⟨"RuleChangeDesk$Planner", "orderingsBy", "(III)I"⟩, 4), (⟨"RuleChangeDesk$Run", "left", "()I"⟩, 10)]
theorem lw_r1 : ∀ q ∈ lw_privs_1, lw_okq q := List.forall_mem_cons.mpr ⟨lw_p0, List.forall_mem_cons.mpr ⟨lw_p1, List.forall_mem_cons.mpr ⟨lw_p2, List.forall_mem_cons.mpr ⟨lw_p3, List.forall_mem_cons.mpr ⟨lw_p4, List.forall_mem_cons.mpr ⟨lw_p5, List.forall_mem_cons.mpr ⟨lw_p6, List.forall_mem_cons.mpr ⟨lw_p7, List.forall_mem_cons.mpr ⟨lw_p8, List.forall_mem_cons.mpr ⟨lw_p9, List.forall_mem_cons.mpr ⟨lw_p10, List.forall_mem_cons.mpr ⟨lw_p11, List.forall_mem_cons.mpr ⟨lw_p12, List.forall_mem_cons.mpr ⟨lw_p13, List.forall_mem_cons.mpr ⟨lw_p14, List.forall_mem_cons.mpr ⟨lw_p15, fun _ h => absurd h List.not_mem_nil⟩⟩⟩⟩⟩⟩⟩⟩⟩⟩⟩⟩⟩⟩⟩⟩
theorem lw_p16 : lw_okq (⟨"RuleChangeDeskModel", "clear", "(I)V"⟩, 39) := ⟨⟨by decide +kernel, by decide +kernel⟩, List.mem_of_getElem? (i := 850) (by decide +kernel), List.mem_of_getElem? (i := 856) (by decide +kernel), List.mem_of_getElem? (i := 857) (by decide +kernel)⟩
theorem lw_p17 : lw_okq (⟨"RuleChangeDeskModel", "changed", "()V"⟩, 39) := ⟨⟨by decide +kernel, by decide +kernel⟩, List.mem_of_getElem? (i := 850) (by decide +kernel), List.mem_of_getElem? (i := 860) (by decide +kernel), List.mem_of_getElem? (i := 861) (by decide +kernel)⟩
theorem lw_p18 : lw_okq (⟨"RuleChangeDeskModel", "isPort", "(II)Z"⟩, 39) := ⟨⟨by decide +kernel, by decide +kernel⟩, List.mem_of_getElem? (i := 850) (by decide +kernel), List.mem_of_getElem? (i := 989) (by decide +kernel), List.mem_of_getElem? (i := 990) (by decide +kernel)⟩
theorem lw_p19 : lw_okq (⟨"RuleChangeDeskModel", "isOf", "(II)Z"⟩, 39) := ⟨⟨by decide +kernel, by decide +kernel⟩, List.mem_of_getElem? (i := 850) (by decide +kernel), List.mem_of_getElem? (i := 1001) (by decide +kernel), List.mem_of_getElem? (i := 1002) (by decide +kernel)⟩
theorem lw_p20 : lw_okq (⟨"RuleChangeDeskModel", "isSpan", "(II)Z"⟩, 39) := ⟨⟨by decide +kernel, by decide +kernel⟩, List.mem_of_getElem? (i := 850) (by decide +kernel), List.mem_of_getElem? (i := 1012) (by decide +kernel), List.mem_of_getElem? (i := 1013) (by decide +kernel)⟩
theorem lw_p21 : lw_okq (⟨"RuleChangeDeskModel", "ruleAt", "(III)I"⟩, 39) := ⟨⟨by decide +kernel, by decide +kernel⟩, List.mem_of_getElem? (i := 850) (by decide +kernel), List.mem_of_getElem? (i := 1016) (by decide +kernel), List.mem_of_getElem? (i := 1017) (by decide +kernel)⟩
theorem lw_p22 : lw_okq (⟨"RuleChangeDeskModel", "isMixture", "(I)Z"⟩, 39) := ⟨⟨by decide +kernel, by decide +kernel⟩, List.mem_of_getElem? (i := 850) (by decide +kernel), List.mem_of_getElem? (i := 1040) (by decide +kernel), List.mem_of_getElem? (i := 1041) (by decide +kernel)⟩
theorem lw_p23 : lw_okq (⟨"RuleChangeDeskModel", "all", "()I"⟩, 39) := ⟨⟨by decide +kernel, by decide +kernel⟩, List.mem_of_getElem? (i := 850) (by decide +kernel), List.mem_of_getElem? (i := 1044) (by decide +kernel), List.mem_of_getElem? (i := 1045) (by decide +kernel)⟩
theorem lw_p24 : lw_okq (⟨"RuleChangeDeskModel", "walks", "(III)V"⟩, 39) := ⟨⟨by decide +kernel, by decide +kernel⟩, List.mem_of_getElem? (i := 850) (by decide +kernel), List.mem_of_getElem? (i := 1048) (by decide +kernel), List.mem_of_getElem? (i := 1049) (by decide +kernel)⟩
theorem lw_p25 : lw_okq (⟨"RuleChangeDeskModel", "goes", "(III)I"⟩, 39) := ⟨⟨by decide +kernel, by decide +kernel⟩, List.mem_of_getElem? (i := 850) (by decide +kernel), List.mem_of_getElem? (i := 1052) (by decide +kernel), List.mem_of_getElem? (i := 1053) (by decide +kernel)⟩
theorem lw_p26 : lw_okq (⟨"RuleChangeDeskModel", "actOf", "(III)I"⟩, 39) := ⟨⟨by decide +kernel, by decide +kernel⟩, List.mem_of_getElem? (i := 850) (by decide +kernel), List.mem_of_getElem? (i := 1056) (by decide +kernel), List.mem_of_getElem? (i := 1057) (by decide +kernel)⟩
theorem lw_p27 : lw_okq (⟨"RuleChangeDeskModel", "breaks", "(II)I"⟩, 39) := ⟨⟨by decide +kernel, by decide +kernel⟩, List.mem_of_getElem? (i := 850) (by decide +kernel), List.mem_of_getElem? (i := 1071) (by decide +kernel), List.mem_of_getElem? (i := 1072) (by decide +kernel)⟩
theorem lw_p28 : lw_okq (⟨"RuleChangeDeskModel", "isKept", "(II)Z"⟩, 39) := ⟨⟨by decide +kernel, by decide +kernel⟩, List.mem_of_getElem? (i := 850) (by decide +kernel), List.mem_of_getElem? (i := 1075) (by decide +kernel), List.mem_of_getElem? (i := 1076) (by decide +kernel)⟩
theorem lw_p29 : lw_okq (⟨"RuleChangeDeskModel", "isWhole", "(II)Z"⟩, 39) := ⟨⟨by decide +kernel, by decide +kernel⟩, List.mem_of_getElem? (i := 850) (by decide +kernel), List.mem_of_getElem? (i := 1079) (by decide +kernel), List.mem_of_getElem? (i := 1080) (by decide +kernel)⟩
theorem lw_p30 : lw_okq (⟨"RuleChangeDeskModel", "isKeptOne", "(I)Z"⟩, 39) := ⟨⟨by decide +kernel, by decide +kernel⟩, List.mem_of_getElem? (i := 850) (by decide +kernel), List.mem_of_getElem? (i := 1087) (by decide +kernel), List.mem_of_getElem? (i := 1088) (by decide +kernel)⟩
theorem lw_p31 : lw_okq (⟨"RuleChangeDeskModel", "classMany", "()I"⟩, 39) := ⟨⟨by decide +kernel, by decide +kernel⟩, List.mem_of_getElem? (i := 850) (by decide +kernel), List.mem_of_getElem? (i := 1099) (by decide +kernel), List.mem_of_getElem? (i := 1100) (by decide +kernel)⟩
def lw_privs_2 : List (MethodName × Nat) := [(⟨"RuleChangeDeskModel", "clear", "(I)V"⟩, 39), (⟨"RuleChangeDeskModel", "changed", "()V"⟩, 39), (⟨"RuleChangeDeskModel", "isPort", "(II)Z"⟩, 39), (⟨"RuleChangeDeskModel", "isOf", "(II)Z"⟩, 39), (⟨"RuleChangeDeskModel", "isSpan", "(II)Z"⟩, 39), (⟨"RuleChangeDeskModel", "ruleAt", "(III)I"⟩, 39), (⟨"RuleChangeDeskModel", "isMixture", "(I)Z"⟩, 39), (⟨"RuleChangeDeskModel", "all", "()I"⟩, 39), (⟨"RuleChangeDeskModel", "walks", "(III)V"⟩, 39), (⟨"RuleChangeDeskModel", "goes", "(III)I"⟩, 39), (⟨"RuleChangeDeskModel", "actOf", "(III)I"⟩, 39), (⟨"RuleChangeDeskModel", "breaks", "(II)I"⟩, 39), (⟨"RuleChangeDeskModel", "isKept", "(II)Z"⟩, 39), (⟨"RuleChangeDeskModel", "isWhole", "(II)Z"⟩, 39), (⟨"RuleChangeDeskModel", "isKeptOne", "(I)Z"⟩, 39), (⟨"RuleChangeDeskModel", "classMany", "()I"⟩, 39)]
theorem lw_r2 : ∀ q ∈ lw_privs_2, lw_okq q := List.forall_mem_cons.mpr ⟨lw_p16, List.forall_mem_cons.mpr ⟨lw_p17, List.forall_mem_cons.mpr ⟨lw_p18, List.forall_mem_cons.mpr ⟨lw_p19, List.forall_mem_cons.mpr ⟨lw_p20, List.forall_mem_cons.mpr ⟨lw_p21, List.forall_mem_cons.mpr ⟨lw_p22, List.forall_mem_cons.mpr ⟨lw_p23, List.forall_mem_cons.mpr ⟨lw_p24, List.forall_mem_cons.mpr ⟨lw_p25, List.forall_mem_cons.mpr ⟨lw_p26, List.forall_mem_cons.mpr ⟨lw_p27, List.forall_mem_cons.mpr ⟨lw_p28, List.forall_mem_cons.mpr ⟨lw_p29, List.forall_mem_cons.mpr ⟨lw_p30, List.forall_mem_cons.mpr ⟨lw_p31, fun _ h => absurd h List.not_mem_nil⟩⟩⟩⟩⟩⟩⟩⟩⟩⟩⟩⟩⟩⟩⟩⟩
theorem lw_p32 : lw_okq (⟨"RuleChangeDeskModel", "areAlike", "(II)Z"⟩, 39) := ⟨⟨by decide +kernel, by decide +kernel⟩, List.mem_of_getElem? (i := 850) (by decide +kernel), List.mem_of_getElem? (i := 1103) (by decide +kernel), List.mem_of_getElem? (i := 1104) (by decide +kernel)⟩
theorem lw_p33 : lw_okq (⟨"RuleChangeDeskModel", "unlike", "()I"⟩, 39) := ⟨⟨by decide +kernel, by decide +kernel⟩, List.mem_of_getElem? (i := 850) (by decide +kernel), List.mem_of_getElem? (i := 1111) (by decide +kernel), List.mem_of_getElem? (i := 1112) (by decide +kernel)⟩
theorem lw_p34 : lw_okq (⟨"RuleChangeDeskModel", "learn", "()V"⟩, 39) := ⟨⟨by decide +kernel, by decide +kernel⟩, List.mem_of_getElem? (i := 850) (by decide +kernel), List.mem_of_getElem? (i := 1115) (by decide +kernel), List.mem_of_getElem? (i := 1116) (by decide +kernel)⟩
theorem lw_p35 : lw_okq (⟨"RuleChangeDeskModel", "planned", "(I)I"⟩, 39) := ⟨⟨by decide +kernel, by decide +kernel⟩, List.mem_of_getElem? (i := 850) (by decide +kernel), List.mem_of_getElem? (i := 1120) (by decide +kernel), List.mem_of_getElem? (i := 1121) (by decide +kernel)⟩
theorem lw_p36 : lw_okq (⟨"RuleChangeDeskModel", "fewest", "(I)V"⟩, 39) := ⟨⟨by decide +kernel, by decide +kernel⟩, List.mem_of_getElem? (i := 850) (by decide +kernel), List.mem_of_getElem? (i := 1128) (by decide +kernel), List.mem_of_getElem? (i := 1129) (by decide +kernel)⟩
theorem lw_p37 : lw_okq (⟨"RuleChangeDeskModel", "against", "(II)I"⟩, 39) := ⟨⟨by decide +kernel, by decide +kernel⟩, List.mem_of_getElem? (i := 850) (by decide +kernel), List.mem_of_getElem? (i := 1132) (by decide +kernel), List.mem_of_getElem? (i := 1133) (by decide +kernel)⟩
theorem lw_p38 : lw_okq (⟨"RuleChangeDeskModel", "ways", "(I)V"⟩, 39) := ⟨⟨by decide +kernel, by decide +kernel⟩, List.mem_of_getElem? (i := 850) (by decide +kernel), List.mem_of_getElem? (i := 1140) (by decide +kernel), List.mem_of_getElem? (i := 1141) (by decide +kernel)⟩
theorem lw_p39 : lw_okq (⟨"RuleChangeDeskModel", "isPacket", "(I)Z"⟩, 39) := ⟨⟨by decide +kernel, by decide +kernel⟩, List.mem_of_getElem? (i := 850) (by decide +kernel), List.mem_of_getElem? (i := 1176) (by decide +kernel), List.mem_of_getElem? (i := 1177) (by decide +kernel)⟩
theorem lw_p40 : lw_okq (⟨"RuleChangeDeskModel", "left", "()I"⟩, 39) := ⟨⟨by decide +kernel, by decide +kernel⟩, List.mem_of_getElem? (i := 850) (by decide +kernel), List.mem_of_getElem? (i := 1184) (by decide +kernel), List.mem_of_getElem? (i := 1185) (by decide +kernel)⟩
theorem lw_p41 : lw_okq (⟨"RuleChangeDeskModel", "underWay", "()I"⟩, 39) := ⟨⟨by decide +kernel, by decide +kernel⟩, List.mem_of_getElem? (i := 850) (by decide +kernel), List.mem_of_getElem? (i := 1192) (by decide +kernel), List.mem_of_getElem? (i := 1193) (by decide +kernel)⟩
def lw_privs_3 : List (MethodName × Nat) := [(⟨"RuleChangeDeskModel", "areAlike", "(II)Z"⟩, 39), (⟨"RuleChangeDeskModel", "unlike", "()I"⟩, 39), (⟨"RuleChangeDeskModel", "learn", "()V"⟩, 39), (⟨"RuleChangeDeskModel", "planned", "(I)I"⟩, 39), (⟨"RuleChangeDeskModel", "fewest", "(I)V"⟩, 39), (⟨"RuleChangeDeskModel", "against", "(II)I"⟩, 39), (⟨"RuleChangeDeskModel", "ways", "(I)V"⟩, 39), (⟨"RuleChangeDeskModel", "isPacket", "(I)Z"⟩, 39), (⟨"RuleChangeDeskModel", "left", "()I"⟩, 39), (⟨"RuleChangeDeskModel", "underWay", "()I"⟩, 39)]
theorem lw_r3 : ∀ q ∈ lw_privs_3, lw_okq q := List.forall_mem_cons.mpr ⟨lw_p32, List.forall_mem_cons.mpr ⟨lw_p33, List.forall_mem_cons.mpr ⟨lw_p34, List.forall_mem_cons.mpr ⟨lw_p35, List.forall_mem_cons.mpr ⟨lw_p36, List.forall_mem_cons.mpr ⟨lw_p37, List.forall_mem_cons.mpr ⟨lw_p38, List.forall_mem_cons.mpr ⟨lw_p39, List.forall_mem_cons.mpr ⟨lw_p40, List.forall_mem_cons.mpr ⟨lw_p41, fun _ h => absurd h List.not_mem_nil⟩⟩⟩⟩⟩⟩⟩⟩⟩⟩
def lw_privs : List (MethodName × Nat) := lw_privs_1 ++ (lw_privs_2 ++ (lw_privs_3))
def lw_tbl : List Cond := k2_sels lw_privs ++ tables_1
theorem lw_privs_ok : ∀ q ∈ lw_privs, lw_okq q := by
  show ∀ q ∈ lw_privs_1 ++ (lw_privs_2 ++ (lw_privs_3)), lw_okq q
  exact List.forall_mem_append.mpr ⟨lw_r1, List.forall_mem_append.mpr ⟨lw_r2, lw_r3⟩⟩
def RX0 : String := "RuleChangeDesk$Judge"
def TX0 : u_T := fun k => match k with
  | 0 => ("RuleChangeDesk$Judge", "net", "LRuleChangeDesk$Net;", true)
  | 1 => ("RuleChangeDesk$Judge", "wants", "[LRuleChangeDesk$Want;", true)
  | 2 => ("RuleChangeDesk$Judge", "kept", "[Z", true)
  | 3 => ("RuleChangeDesk$Judge", "good", "[Z", true)
  | 4 => ("RuleChangeDesk$Judge", "byOld", "LRuleChangeDesk$Way;", true)
  | 5 => ("RuleChangeDesk$Judge", "byNew", "LRuleChangeDesk$Way;", true)
  | 6 => ("RuleChangeDesk$Judge", "mixed", "LRuleChangeDesk$Way;", true)
  | 7 => ("RuleChangeDesk$Judge", "count", "I", false)
  | 8 => ("RuleChangeDesk$Judge", "keptIsKnown", "Z", false)
  | _ => ("RuleChangeDesk$Judge", "goodIsKnown", "Z", false)
def tyX0 : Nat → FieldType := fun k => match k with
  | 0 => .object "RuleChangeDesk$Net"
  | 1 => .array (.object "RuleChangeDesk$Want")
  | 2 => .array .boolean
  | 3 => .array .boolean
  | 4 => .object "RuleChangeDesk$Way"
  | 5 => .object "RuleChangeDesk$Way"
  | 6 => .object "RuleChangeDesk$Way"
  | 7 => .int
  | 8 => .boolean
  | _ => .boolean
theorem nmX0 : ∀ a, a < 10 → ∀ b, b < 10 → a ≠ b → (TX0 a).2.1 ≠ (TX0 b).2.1 := by decide +kernel
theorem tyX0_ok : ∀ k, k < 10 → parseFieldDescriptor (TX0 k).2.2.1 = some (tyX0 k) := by decide +kernel
abbrev cX0_init : ByteArray := prog_2_method_1_code
def yX0_init : MethodName := ⟨RX0, "<init>", "(LRuleChangeDesk$Net;)V"⟩
abbrev cX0_forget : ByteArray := prog_2_method_2_code
def yX0_forget : MethodName := ⟨RX0, "forget", "()V"⟩
abbrev cX0_dropWants : ByteArray := prog_2_method_3_code
def yX0_dropWants : MethodName := ⟨RX0, "dropWants", "()V"⟩
abbrev cX0_wantCount : ByteArray := prog_2_method_4_code
def yX0_wantCount : MethodName := ⟨RX0, "wantCount", "()I"⟩
abbrev cX0_hasWant : ByteArray := prog_2_method_5_code
def yX0_hasWant : MethodName := ⟨RX0, "hasWant", "(I)Z"⟩
abbrev cX0_addWant : ByteArray := prog_2_method_6_code
def yX0_addWant : MethodName := ⟨RX0, "addWant", "(LRuleChangeDesk$Want;)V"⟩
abbrev cX0_removeWant : ByteArray := prog_2_method_7_code
def yX0_removeWant : MethodName := ⟨RX0, "removeWant", "(I)V"⟩
abbrev cX0_needsHost : ByteArray := prog_2_method_8_code
def yX0_needsHost : MethodName := ⟨RX0, "needsHost", "(I)Z"⟩
abbrev cX0_leastBadMark : ByteArray := prog_2_method_9_code
def yX0_leastBadMark : MethodName := ⟨RX0, "leastBadMark", "(II)I"⟩
abbrev cX0_isKept : ByteArray := prog_2_method_10_code
def yX0_isKept : MethodName := ⟨RX0, "isKept", "(I)Z"⟩
abbrev cX0_firstBroken : ByteArray := prog_2_method_11_code
def yX0_firstBroken : MethodName := ⟨RX0, "firstBroken", "(I)I"⟩
abbrev cX0_countBroken : ByteArray := prog_2_method_12_code
def yX0_countBroken : MethodName := ⟨RX0, "countBroken", "(IILRuleChangeDesk$Way;)I"⟩
abbrev cX0_findGood : ByteArray := prog_2_method_13_code
def yX0_findGood : MethodName := ⟨RX0, "findGood", "()V"⟩
abbrev cX0_isGood : ByteArray := prog_2_method_14_code
def yX0_isGood : MethodName := ⟨RX0, "isGood", "(I)Z"⟩
abbrev cX0_findKept : ByteArray := prog_2_method_15_code
def yX0_findKept : MethodName := ⟨RX0, "findKept", "()V"⟩
abbrev cX0_strikeNotGood : ByteArray := prog_2_method_16_code
def yX0_strikeNotGood : MethodName := ⟨RX0, "strikeNotGood", "(LRuleChangeDesk$Want;I)V"⟩
abbrev cX0_traceByBooks : ByteArray := prog_2_method_17_code
def yX0_traceByBooks : MethodName := ⟨RX0, "traceByBooks", "(II)V"⟩
def RX1 : String := "RuleChangeDesk$Net"
def TX1 : u_T := fun k => match k with
  | 0 => ("RuleChangeDesk$Net", "ports", "[I", true)
  | 1 => ("RuleChangeDesk$Net", "hostSwitches", "[I", true)
  | 2 => ("RuleChangeDesk$Net", "rows", "[LRuleChangeDesk$Row;", true)
  | 3 => ("RuleChangeDesk$Net", "classes", "[I", true)
  | 4 => ("RuleChangeDesk$Net", "classesAreKnown", "Z", false)
  | 5 => ("RuleChangeDesk$Net", "classCount", "I", false)
  | 6 => ("RuleChangeDesk$Net", "switchCount", "I", false)
  | 7 => ("RuleChangeDesk$Net", "hostCount", "I", false)
  | _ => ("RuleChangeDesk$Net", "linkCount", "I", false)
def tyX1 : Nat → FieldType := fun k => match k with
  | 0 => .array .int
  | 1 => .array .int
  | 2 => .array (.object "RuleChangeDesk$Row")
  | 3 => .array .int
  | 4 => .boolean
  | 5 => .int
  | 6 => .int
  | 7 => .int
  | _ => .int
theorem nmX1 : ∀ a, a < 9 → ∀ b, b < 9 → a ≠ b → (TX1 a).2.1 ≠ (TX1 b).2.1 := by decide +kernel
theorem tyX1_ok : ∀ k, k < 9 → parseFieldDescriptor (TX1 k).2.2.1 = some (tyX1 k) := by decide +kernel
abbrev cX1_init : ByteArray := prog_3_method_1_code
def yX1_init : MethodName := ⟨RX1, "<init>", "()V"⟩
abbrev cX1_reset : ByteArray := prog_3_method_2_code
def yX1_reset : MethodName := ⟨RX1, "reset", "(I)V"⟩
abbrev cX1_forget : ByteArray := prog_3_method_3_code
def yX1_forget : MethodName := ⟨RX1, "forget", "()V"⟩
abbrev cX1_switchCount : ByteArray := prog_3_method_4_code
def yX1_switchCount : MethodName := ⟨RX1, "switchCount", "()I"⟩
abbrev cX1_hostCount : ByteArray := prog_3_method_5_code
def yX1_hostCount : MethodName := ⟨RX1, "hostCount", "()I"⟩
abbrev cX1_linkCount : ByteArray := prog_3_method_6_code
def yX1_linkCount : MethodName := ⟨RX1, "linkCount", "()I"⟩
abbrev cX1_hasSwitch : ByteArray := prog_3_method_7_code
def yX1_hasSwitch : MethodName := ⟨RX1, "hasSwitch", "(I)Z"⟩
abbrev cX1_hasPort : ByteArray := prog_3_method_8_code
def yX1_hasPort : MethodName := ⟨RX1, "hasPort", "(II)Z"⟩
abbrev cX1_hasHost : ByteArray := prog_3_method_9_code
def yX1_hasHost : MethodName := ⟨RX1, "hasHost", "(I)Z"⟩
abbrev cX1_hasMixture : ByteArray := prog_3_method_10_code
def yX1_hasMixture : MethodName := ⟨RX1, "hasMixture", "(I)Z"⟩
abbrev cX1_allNew : ByteArray := prog_3_method_11_code
def yX1_allNew : MethodName := ⟨RX1, "allNew", "()I"⟩
abbrev cX1_isFree : ByteArray := prog_3_method_12_code
def yX1_isFree : MethodName := ⟨RX1, "isFree", "(II)Z"⟩
abbrev cX1_join : ByteArray := prog_3_method_13_code
def yX1_join : MethodName := ⟨RX1, "join", "(IIII)V"⟩
abbrev cX1_addHost : ByteArray := prog_3_method_14_code
def yX1_addHost : MethodName := ⟨RX1, "addHost", "(II)I"⟩
abbrev cX1_switchOf : ByteArray := prog_3_method_15_code
def yX1_switchOf : MethodName := ⟨RX1, "switchOf", "(I)I"⟩
abbrev cX1_hostAt : ByteArray := prog_3_method_16_code
def yX1_hostAt : MethodName := ⟨RX1, "hostAt", "(II)I"⟩
abbrev cX1_clear : ByteArray := prog_3_method_17_code
def yX1_clear : MethodName := ⟨RX1, "clear", "(II)V"⟩
abbrev cX1_rowOf : ByteArray := prog_3_method_18_code
def yX1_rowOf : MethodName := ⟨RX1, "rowOf", "(II)LRuleChangeDesk$Row;"⟩
abbrev cX1_ruleCount : ByteArray := prog_3_method_19_code
def yX1_ruleCount : MethodName := ⟨RX1, "ruleCount", "()I"⟩
abbrev cX1_unlike : ByteArray := prog_3_method_20_code
def yX1_unlike : MethodName := ⟨RX1, "unlike", "()I"⟩
abbrev cX1_classOf : ByteArray := prog_3_method_21_code
def yX1_classOf : MethodName := ⟨RX1, "classOf", "(I)I"⟩
abbrev cX1_classCount : ByteArray := prog_3_method_22_code
def yX1_classCount : MethodName := ⟨RX1, "classCount", "()I"⟩
abbrev cX1_findClasses : ByteArray := prog_3_method_23_code
def yX1_findClasses : MethodName := ⟨RX1, "findClasses", "()V"⟩
abbrev cX1_leastAlike : ByteArray := prog_3_method_24_code
def yX1_leastAlike : MethodName := ⟨RX1, "leastAlike", "(I)I"⟩
abbrev cX1_isSeparated : ByteArray := prog_3_method_25_code
def yX1_isSeparated : MethodName := ⟨RX1, "isSeparated", "(II)Z"⟩
abbrev cX1_trace : ByteArray := prog_3_method_26_code
def yX1_trace : MethodName := ⟨RX1, "trace", "(LRuleChangeDesk$Way;III)V"⟩
abbrev cX1_whereTo : ByteArray := prog_3_method_27_code
def yX1_whereTo : MethodName := ⟨RX1, "whereTo", "(III)I"⟩
def RX2 : String := "RuleChangeDesk$Packet"
def TX2 : u_T := fun k => match k with
  | 0 => ("RuleChangeDesk$Packet", "way", "LRuleChangeDesk$Way;", true)
  | 1 => ("RuleChangeDesk$Packet", "host", "I", false)
  | _ => ("RuleChangeDesk$Packet", "mark", "I", false)
def tyX2 : Nat → FieldType := fun k => match k with
  | 0 => .object "RuleChangeDesk$Way"
  | 1 => .int
  | _ => .int
theorem nmX2 : ∀ a, a < 3 → ∀ b, b < 3 → a ≠ b → (TX2 a).2.1 ≠ (TX2 b).2.1 := by decide +kernel
theorem tyX2_ok : ∀ k, k < 3 → parseFieldDescriptor (TX2 k).2.2.1 = some (tyX2 k) := by decide +kernel
abbrev cX2_init : ByteArray := prog_4_method_1_code
def yX2_init : MethodName := ⟨RX2, "<init>", "()V"⟩
abbrev cX2_putInAt : ByteArray := prog_4_method_2_code
def yX2_putInAt : MethodName := ⟨RX2, "putInAt", "(III)V"⟩
abbrev cX2_isUnderWay : ByteArray := prog_4_method_3_code
def yX2_isUnderWay : MethodName := ⟨RX2, "isUnderWay", "()Z"⟩
abbrev cX2_place : ByteArray := prog_4_method_4_code
def yX2_place : MethodName := ⟨RX2, "place", "()I"⟩
abbrev cX2_end : ByteArray := prog_4_method_5_code
def yX2_end : MethodName := ⟨RX2, "end", "()I"⟩
abbrev cX2_tell : ByteArray := prog_4_method_6_code
def yX2_tell : MethodName := ⟨RX2, "tell", "(I)I"⟩
def RX3 : String := "RuleChangeDesk$Plan"
def TX3 : u_T := fun k => match k with
  | 0 => ("RuleChangeDesk$Plan", "sets", "[I", true)
  | _ => ("RuleChangeDesk$Plan", "size", "I", false)
def tyX3 : Nat → FieldType := fun k => match k with
  | 0 => .array .int
  | _ => .int
theorem nmX3 : ∀ a, a < 2 → ∀ b, b < 2 → a ≠ b → (TX3 a).2.1 ≠ (TX3 b).2.1 := by decide +kernel
theorem tyX3_ok : ∀ k, k < 2 → parseFieldDescriptor (TX3 k).2.2.1 = some (tyX3 k) := by decide +kernel
abbrev cX3_init : ByteArray := prog_5_method_1_code
def yX3_init : MethodName := ⟨RX3, "<init>", "()V"⟩
abbrev cX3_clear : ByteArray := prog_5_method_2_code
def yX3_clear : MethodName := ⟨RX3, "clear", "()V"⟩
abbrev cX3_add : ByteArray := prog_5_method_3_code
def yX3_add : MethodName := ⟨RX3, "add", "(I)V"⟩
abbrev cX3_size : ByteArray := prog_5_method_4_code
def yX3_size : MethodName := ⟨RX3, "size", "()I"⟩
abbrev cX3_has : ByteArray := prog_5_method_5_code
def yX3_has : MethodName := ⟨RX3, "has", "(I)Z"⟩
abbrev cX3_get : ByteArray := prog_5_method_6_code
def yX3_get : MethodName := ⟨RX3, "get", "(I)I"⟩
abbrev cX3_members : ByteArray := prog_5_method_7_code
def yX3_members : MethodName := ⟨RX3, "members", "()I"⟩
abbrev cX3_membersAhead : ByteArray := prog_5_method_8_code
def yX3_membersAhead : MethodName := ⟨RX3, "membersAhead", "(I)I"⟩
def RX4 : String := "RuleChangeDesk$Planner"
def TX4 : u_T := fun k => match k with
  | 0 => ("RuleChangeDesk$Planner", "net", "LRuleChangeDesk$Net;", true)
  | 1 => ("RuleChangeDesk$Planner", "judge", "LRuleChangeDesk$Judge;", true)
  | 2 => ("RuleChangeDesk$Planner", "fewest", "[I", true)
  | _ => ("RuleChangeDesk$Planner", "orderings", "[I", true)
def tyX4 : Nat → FieldType := fun k => match k with
  | 0 => .object "RuleChangeDesk$Net"
  | 1 => .object "RuleChangeDesk$Judge"
  | 2 => .array .int
  | _ => .array .int
theorem nmX4 : ∀ a, a < 4 → ∀ b, b < 4 → a ≠ b → (TX4 a).2.1 ≠ (TX4 b).2.1 := by decide +kernel
theorem tyX4_ok : ∀ k, k < 4 → parseFieldDescriptor (TX4 k).2.2.1 = some (tyX4 k) := by decide +kernel
abbrev cX4_init : ByteArray := prog_6_method_1_code
def yX4_init : MethodName := ⟨RX4, "<init>", "(LRuleChangeDesk$Net;LRuleChangeDesk$Judge;)V"⟩
abbrev cX4_countGood : ByteArray := prog_6_method_2_code
def yX4_countGood : MethodName := ⟨RX4, "countGood", "()I"⟩
abbrev cX4_whyNotTaken : ByteArray := prog_6_method_3_code
def yX4_whyNotTaken : MethodName := ⟨RX4, "whyNotTaken", "(II)I"⟩
abbrev cX4_makeLeast : ByteArray := prog_6_method_4_code
def yX4_makeLeast : MethodName := ⟨RX4, "makeLeast", "(LRuleChangeDesk$Plan;)Z"⟩
abbrev cX4_countOrders : ByteArray := prog_6_method_5_code
def yX4_countOrders : MethodName := ⟨RX4, "countOrders", "()I"⟩
abbrev cX4_makeOrder : ByteArray := prog_6_method_6_code
def yX4_makeOrder : MethodName := ⟨RX4, "makeOrder", "(LRuleChangeDesk$Plan;I)Z"⟩
abbrev cX4_findOrderings : ByteArray := prog_6_method_7_code
def yX4_findOrderings : MethodName := ⟨RX4, "findOrderings", "(I)I"⟩
abbrev cX4_leastNotGood : ByteArray := prog_6_method_8_code
def yX4_leastNotGood : MethodName := ⟨RX4, "leastNotGood", "(II)I"⟩
abbrev cX4_fewestFrom : ByteArray := prog_6_method_9_code
def yX4_fewestFrom : MethodName := ⟨RX4, "fewestFrom", "(II)I"⟩
abbrev cX4_leastRound : ByteArray := prog_6_method_10_code
def yX4_leastRound : MethodName := ⟨RX4, "leastRound", "(II)I"⟩
abbrev cX4_orderingsFrom : ByteArray := prog_6_method_11_code
def yX4_orderingsFrom : MethodName := ⟨RX4, "orderingsFrom", "(II)I"⟩
abbrev cX4_orderingsBy : ByteArray := prog_6_method_12_code
def yX4_orderingsBy : MethodName := ⟨RX4, "orderingsBy", "(III)I"⟩
def RX5 : String := "RuleChangeDesk$Row"
def TX5 : u_T := fun k => match k with
  | 0 => ("RuleChangeDesk$Row", "values", "[I", true)
  | 1 => ("RuleChangeDesk$Row", "masks", "[I", true)
  | 2 => ("RuleChangeDesk$Row", "ranks", "[I", true)
  | 3 => ("RuleChangeDesk$Row", "acts", "[I", true)
  | 4 => ("RuleChangeDesk$Row", "actOfMark", "[I", true)
  | _ => ("RuleChangeDesk$Row", "size", "I", false)
def tyX5 : Nat → FieldType := fun k => match k with
  | 0 => .array .int
  | 1 => .array .int
  | 2 => .array .int
  | 3 => .array .int
  | 4 => .array .int
  | _ => .int
theorem nmX5 : ∀ a, a < 6 → ∀ b, b < 6 → a ≠ b → (TX5 a).2.1 ≠ (TX5 b).2.1 := by decide +kernel
theorem tyX5_ok : ∀ k, k < 6 → parseFieldDescriptor (TX5 k).2.2.1 = some (tyX5 k) := by decide +kernel
abbrev cX5_init : ByteArray := prog_7_method_1_code
def yX5_init : MethodName := ⟨RX5, "<init>", "()V"⟩
abbrev cX5_size : ByteArray := prog_7_method_2_code
def yX5_size : MethodName := ⟨RX5, "size", "()I"⟩
abbrev cX5_clear : ByteArray := prog_7_method_3_code
def yX5_clear : MethodName := ⟨RX5, "clear", "()V"⟩
abbrev cX5_add : ByteArray := prog_7_method_4_code
def yX5_add : MethodName := ⟨RX5, "add", "(IIII)V"⟩
abbrev cX5_remove : ByteArray := prog_7_method_5_code
def yX5_remove : MethodName := ⟨RX5, "remove", "(I)V"⟩
abbrev cX5_becomeLike : ByteArray := prog_7_method_6_code
def yX5_becomeLike : MethodName := ⟨RX5, "becomeLike", "(LRuleChangeDesk$Row;)V"⟩
abbrev cX5_isLike : ByteArray := prog_7_method_7_code
def yX5_isLike : MethodName := ⟨RX5, "isLike", "(LRuleChangeDesk$Row;)Z"⟩
abbrev cX5_separates : ByteArray := prog_7_method_8_code
def yX5_separates : MethodName := ⟨RX5, "separates", "(II)Z"⟩
abbrev cX5_put : ByteArray := prog_7_method_9_code
def yX5_put : MethodName := ⟨RX5, "put", "(IIIII)V"⟩
abbrev cX5_findActs : ByteArray := prog_7_method_10_code
def yX5_findActs : MethodName := ⟨RX5, "findActs", "()V"⟩
def RX6 : String := "RuleChangeDesk$Run"
def TX6 : u_T := fun k => match k with
  | 0 => ("RuleChangeDesk$Run", "net", "LRuleChangeDesk$Net;", true)
  | 1 => ("RuleChangeDesk$Run", "judge", "LRuleChangeDesk$Judge;", true)
  | 2 => ("RuleChangeDesk$Run", "plan", "LRuleChangeDesk$Plan;", true)
  | 3 => ("RuleChangeDesk$Run", "packets", "[LRuleChangeDesk$Packet;", true)
  | 4 => ("RuleChangeDesk$Run", "live", "Z", false)
  | 5 => ("RuleChangeDesk$Run", "atHand", "I", false)
  | 6 => ("RuleChangeDesk$Run", "changed", "I", false)
  | 7 => ("RuleChangeDesk$Run", "count", "I", false)
  | 8 => ("RuleChangeDesk$Run", "underWay", "I", false)
  | _ => ("RuleChangeDesk$Run", "broken", "I", false)
def tyX6 : Nat → FieldType := fun k => match k with
  | 0 => .object "RuleChangeDesk$Net"
  | 1 => .object "RuleChangeDesk$Judge"
  | 2 => .object "RuleChangeDesk$Plan"
  | 3 => .array (.object "RuleChangeDesk$Packet")
  | 4 => .boolean
  | 5 => .int
  | 6 => .int
  | 7 => .int
  | 8 => .int
  | _ => .int
theorem nmX6 : ∀ a, a < 10 → ∀ b, b < 10 → a ≠ b → (TX6 a).2.1 ≠ (TX6 b).2.1 := by decide +kernel
theorem tyX6_ok : ∀ k, k < 10 → parseFieldDescriptor (TX6 k).2.2.1 = some (tyX6 k) := by decide +kernel
abbrev cX6_init : ByteArray := prog_8_method_1_code
def yX6_init : MethodName := ⟨RX6, "<init>", "(LRuleChangeDesk$Net;LRuleChangeDesk$Judge;LRuleChangeDesk$Plan;)V"⟩
abbrev cX6_start : ByteArray := prog_8_method_2_code
def yX6_start : MethodName := ⟨RX6, "start", "()V"⟩
abbrev cX6_stop : ByteArray := prog_8_method_3_code
def yX6_stop : MethodName := ⟨RX6, "stop", "()V"⟩
abbrev cX6_isLive : ByteArray := prog_8_method_4_code
def yX6_isLive : MethodName := ⟨RX6, "isLive", "()Z"⟩
abbrev cX6_packetCount : ByteArray := prog_8_method_5_code
def yX6_packetCount : MethodName := ⟨RX6, "packetCount", "()I"⟩
abbrev cX6_packetOf : ByteArray := prog_8_method_6_code
def yX6_packetOf : MethodName := ⟨RX6, "packetOf", "(I)LRuleChangeDesk$Packet;"⟩
abbrev cX6_putIn : ByteArray := prog_8_method_7_code
def yX6_putIn : MethodName := ⟨RX6, "putIn", "(II)I"⟩
abbrev cX6_moveOn : ByteArray := prog_8_method_8_code
def yX6_moveOn : MethodName := ⟨RX6, "moveOn", "(LRuleChangeDesk$Packet;)V"⟩
abbrev cX6_takeNew : ByteArray := prog_8_method_9_code
def yX6_takeNew : MethodName := ⟨RX6, "takeNew", "(I)I"⟩
abbrev cX6_nextRound : ByteArray := prog_8_method_10_code
def yX6_nextRound : MethodName := ⟨RX6, "nextRound", "()I"⟩
abbrev cX6_tell : ByteArray := prog_8_method_11_code
def yX6_tell : MethodName := ⟨RX6, "tell", "(I)I"⟩
abbrev cX6_left : ByteArray := prog_8_method_12_code
def yX6_left : MethodName := ⟨RX6, "left", "()I"⟩
def RX7 : String := "RuleChangeDesk$Want"
def TX7 : u_T := fun k => match k with
  | 0 => ("RuleChangeDesk$Want", "kind", "I", true)
  | 1 => ("RuleChangeDesk$Want", "value", "I", true)
  | 2 => ("RuleChangeDesk$Want", "bits", "I", true)
  | 3 => ("RuleChangeDesk$Want", "a", "I", true)
  | 4 => ("RuleChangeDesk$Want", "b", "I", true)
  | _ => ("RuleChangeDesk$Want", "s", "I", true)
def tyX7 : Nat → FieldType := fun k => match k with
  | 0 => .int
  | 1 => .int
  | 2 => .int
  | 3 => .int
  | 4 => .int
  | _ => .int
theorem nmX7 : ∀ a, a < 6 → ∀ b, b < 6 → a ≠ b → (TX7 a).2.1 ≠ (TX7 b).2.1 := by decide +kernel
theorem tyX7_ok : ∀ k, k < 6 → parseFieldDescriptor (TX7 k).2.2.1 = some (tyX7 k) := by decide +kernel
abbrev cX7_init : ByteArray := prog_9_method_1_code
def yX7_init : MethodName := ⟨RX7, "<init>", "(IIIIII)V"⟩
abbrev cX7_needsHost : ByteArray := prog_9_method_2_code
def yX7_needsHost : MethodName := ⟨RX7, "needsHost", "(I)Z"⟩
abbrev cX7_hasMark : ByteArray := prog_9_method_3_code
def yX7_hasMark : MethodName := ⟨RX7, "hasMark", "(I)Z"⟩
abbrev cX7_isMet : ByteArray := prog_9_method_4_code
def yX7_isMet : MethodName := ⟨RX7, "isMet", "(LRuleChangeDesk$Way;LRuleChangeDesk$Way;LRuleChangeDesk$Way;)Z"⟩
def RX8 : String := "RuleChangeDesk$Way"
def TX8 : u_T := fun k => match k with
  | 0 => ("RuleChangeDesk$Way", "stops", "[I", true)
  | 1 => ("RuleChangeDesk$Way", "length", "I", false)
  | 2 => ("RuleChangeDesk$Way", "passed", "I", false)
  | _ => ("RuleChangeDesk$Way", "end", "I", false)
def tyX8 : Nat → FieldType := fun k => match k with
  | 0 => .array .int
  | 1 => .int
  | 2 => .int
  | _ => .int
theorem nmX8 : ∀ a, a < 4 → ∀ b, b < 4 → a ≠ b → (TX8 a).2.1 ≠ (TX8 b).2.1 := by decide +kernel
theorem tyX8_ok : ∀ k, k < 4 → parseFieldDescriptor (TX8 k).2.2.1 = some (tyX8 k) := by decide +kernel
abbrev cX8_init : ByteArray := prog_10_method_1_code
def yX8_init : MethodName := ⟨RX8, "<init>", "()V"⟩
abbrev cX8_startAt : ByteArray := prog_10_method_2_code
def yX8_startAt : MethodName := ⟨RX8, "startAt", "(I)V"⟩
abbrev cX8_goOn : ByteArray := prog_10_method_3_code
def yX8_goOn : MethodName := ⟨RX8, "goOn", "(I)V"⟩
abbrev cX8_length : ByteArray := prog_10_method_4_code
def yX8_length : MethodName := ⟨RX8, "length", "()I"⟩
abbrev cX8_end : ByteArray := prog_10_method_5_code
def yX8_end : MethodName := ⟨RX8, "end", "()I"⟩
abbrev cX8_stop : ByteArray := prog_10_method_6_code
def yX8_stop : MethodName := ⟨RX8, "stop", "(I)I"⟩
abbrev cX8_last : ByteArray := prog_10_method_7_code
def yX8_last : MethodName := ⟨RX8, "last", "()I"⟩
abbrev cX8_passes : ByteArray := prog_10_method_8_code
def yX8_passes : MethodName := ⟨RX8, "passes", "(I)Z"⟩
abbrev cX8_isLike : ByteArray := prog_10_method_9_code
def yX8_isLike : MethodName := ⟨RX8, "isLike", "(LRuleChangeDesk$Way;)Z"⟩
def RX9 : String := "RuleChangeDesk"
def TX9 : u_T := fun k => match k with
  | 0 => ("RuleChangeDesk", "switches", "LRuleChangeDesk$Net;", true)
  | 1 => ("RuleChangeDesk", "judge", "LRuleChangeDesk$Judge;", true)
  | 2 => ("RuleChangeDesk", "rounds", "LRuleChangeDesk$Plan;", true)
  | 3 => ("RuleChangeDesk", "planner", "LRuleChangeDesk$Planner;", true)
  | 4 => ("RuleChangeDesk", "current", "LRuleChangeDesk$Run;", true)
  | _ => ("RuleChangeDesk", "latest", "LRuleChangeDesk$Way;", true)
def tyX9 : Nat → FieldType := fun k => match k with
  | 0 => .object "RuleChangeDesk$Net"
  | 1 => .object "RuleChangeDesk$Judge"
  | 2 => .object "RuleChangeDesk$Plan"
  | 3 => .object "RuleChangeDesk$Planner"
  | 4 => .object "RuleChangeDesk$Run"
  | _ => .object "RuleChangeDesk$Way"
theorem nmX9 : ∀ a, a < 6 → ∀ b, b < 6 → a ≠ b → (TX9 a).2.1 ≠ (TX9 b).2.1 := by decide +kernel
theorem tyX9_ok : ∀ k, k < 6 → parseFieldDescriptor (TX9 k).2.2.1 = some (tyX9 k) := by decide +kernel
abbrev cX9_init : ByteArray := prog_1_method_1_code
def yX9_init : MethodName := ⟨RX9, "<init>", "()V"⟩
abbrev cX9_net : ByteArray := prog_1_method_2_code
def yX9_net : MethodName := ⟨RX9, "net", "(I)Z"⟩
abbrev cX9_link : ByteArray := prog_1_method_3_code
def yX9_link : MethodName := ⟨RX9, "link", "(IIII)Z"⟩
abbrev cX9_host : ByteArray := prog_1_method_4_code
def yX9_host : MethodName := ⟨RX9, "host", "(II)I"⟩
abbrev cX9_unplug : ByteArray := prog_1_method_5_code
def yX9_unplug : MethodName := ⟨RX9, "unplug", "(II)Z"⟩
abbrev cX9_rule : ByteArray := prog_1_method_6_code
def yX9_rule : MethodName := ⟨RX9, "rule", "(IIIIII)I"⟩
abbrev cX9_strike : ByteArray := prog_1_method_7_code
def yX9_strike : MethodName := ⟨RX9, "strike", "(III)I"⟩
abbrev cX9_copy : ByteArray := prog_1_method_8_code
def yX9_copy : MethodName := ⟨RX9, "copy", "(IZ)I"⟩
abbrev cX9_want : ByteArray := prog_1_method_9_code
def yX9_want : MethodName := ⟨RX9, "want", "(IIIIII)I"⟩
abbrev cX9_unwant : ByteArray := prog_1_method_10_code
def yX9_unwant : MethodName := ⟨RX9, "unwant", "(I)I"⟩
abbrev cX9_look : ByteArray := prog_1_method_11_code
def yX9_look : MethodName := ⟨RX9, "look", "(I)I"⟩
abbrev cX9_ofClass : ByteArray := prog_1_method_12_code
def yX9_ofClass : MethodName := ⟨RX9, "ofClass", "(I)I"⟩
abbrev cX9_way : ByteArray := prog_1_method_13_code
def yX9_way : MethodName := ⟨RX9, "way", "(III)I"⟩
abbrev cX9_on : ByteArray := prog_1_method_14_code
def yX9_on : MethodName := ⟨RX9, "on", "(I)I"⟩
abbrev cX9_holds : ByteArray := prog_1_method_15_code
def yX9_holds : MethodName := ⟨RX9, "holds", "(II)I"⟩
abbrev cX9_kept : ByteArray := prog_1_method_16_code
def yX9_kept : MethodName := ⟨RX9, "kept", "(I)I"⟩
abbrev cX9_why : ByteArray := prog_1_method_17_code
def yX9_why : MethodName := ⟨RX9, "why", "(II)I"⟩
abbrev cX9_least : ByteArray := prog_1_method_18_code
def yX9_least : MethodName := ⟨RX9, "least", "()I"⟩
abbrev cX9_orders : ByteArray := prog_1_method_19_code
def yX9_orders : MethodName := ⟨RX9, "orders", "()I"⟩
abbrev cX9_order : ByteArray := prog_1_method_20_code
def yX9_order : MethodName := ⟨RX9, "order", "(I)Z"⟩
abbrev cX9_round : ByteArray := prog_1_method_21_code
def yX9_round : MethodName := ⟨RX9, "round", "(I)I"⟩
abbrev cX9_empty : ByteArray := prog_1_method_22_code
def yX9_empty : MethodName := ⟨RX9, "empty", "()V"⟩
abbrev cX9_plan : ByteArray := prog_1_method_23_code
def yX9_plan : MethodName := ⟨RX9, "plan", "(I)I"⟩
abbrev cX9_mid : ByteArray := prog_1_method_24_code
def yX9_mid : MethodName := ⟨RX9, "mid", "(I)I"⟩
abbrev cX9_begin : ByteArray := prog_1_method_25_code
def yX9_begin : MethodName := ⟨RX9, "begin", "()Z"⟩
abbrev cX9_send : ByteArray := prog_1_method_26_code
def yX9_send : MethodName := ⟨RX9, "send", "(II)I"⟩
abbrev cX9_hop : ByteArray := prog_1_method_27_code
def yX9_hop : MethodName := ⟨RX9, "hop", "(I)I"⟩
abbrev cX9_change : ByteArray := prog_1_method_28_code
def yX9_change : MethodName := ⟨RX9, "change", "(I)I"⟩
abbrev cX9_next : ByteArray := prog_1_method_29_code
def yX9_next : MethodName := ⟨RX9, "next", "()I"⟩
abbrev cX9_run : ByteArray := prog_1_method_30_code
def yX9_run : MethodName := ⟨RX9, "run", "(I)I"⟩
abbrev cX9_packet : ByteArray := prog_1_method_31_code
def yX9_packet : MethodName := ⟨RX9, "packet", "(II)I"⟩
abbrev cX9_startAfresh : ByteArray := prog_1_method_32_code
def yX9_startAfresh : MethodName := ⟨RX9, "startAfresh", "()V"⟩
abbrev cX9_isMark : ByteArray := prog_1_method_33_code
def yX9_isMark : MethodName := ⟨RX9, "isMark", "(I)Z"⟩
abbrev cX9_isSpan : ByteArray := prog_1_method_34_code
def yX9_isSpan : MethodName := ⟨RX9, "isSpan", "(II)Z"⟩
abbrev cX9_spanHas : ByteArray := prog_1_method_35_code
def yX9_spanHas : MethodName := ⟨RX9, "spanHas", "(III)Z"⟩
abbrev cX9_hasTarget : ByteArray := prog_1_method_36_code
def yX9_hasTarget : MethodName := ⟨RX9, "hasTarget", "(I)Z"⟩
abbrev cX9_isWithin : ByteArray := prog_1_method_37_code
def yX9_isWithin : MethodName := ⟨RX9, "isWithin", "(II)Z"⟩
def RX10 : String := "RuleChangeDeskModel"
def TX10 : u_T := fun k => match k with
  | 0 => ("RuleChangeDeskModel", "switches", "I", false)
  | 1 => ("RuleChangeDeskModel", "hosts", "I", false)
  | 2 => ("RuleChangeDeskModel", "wants", "I", false)
  | 3 => ("RuleChangeDeskModel", "there", "[I", true)
  | 4 => ("RuleChangeDeskModel", "other", "[I", true)
  | 5 => ("RuleChangeDeskModel", "hostAt", "[I", true)
  | 6 => ("RuleChangeDeskModel", "ruleMany", "[I", true)
  | 7 => ("RuleChangeDeskModel", "rules", "[I", true)
  | 8 => ("RuleChangeDeskModel", "want", "[I", true)
  | 9 => ("RuleChangeDeskModel", "path", "[I", true)
  | 10 => ("RuleChangeDeskModel", "pathOld", "[I", true)
  | 11 => ("RuleChangeDeskModel", "pathNew", "[I", true)
  | 12 => ("RuleChangeDeskModel", "told", "[I", true)
  | 13 => ("RuleChangeDeskModel", "long0", "I", false)
  | 14 => ("RuleChangeDeskModel", "end0", "I", false)
  | 15 => ("RuleChangeDeskModel", "longOld", "I", false)
  | 16 => ("RuleChangeDeskModel", "endOld", "I", false)
  | 17 => ("RuleChangeDeskModel", "longNew", "I", false)
  | 18 => ("RuleChangeDeskModel", "endNew", "I", false)
  | 19 => ("RuleChangeDeskModel", "toldLong", "I", false)
  | 20 => ("RuleChangeDeskModel", "toldEnd", "I", false)
  | 21 => ("RuleChangeDeskModel", "knows", "Z", false)
  | 22 => ("RuleChangeDeskModel", "good", "[Z", true)
  | 23 => ("RuleChangeDeskModel", "classes", "[I", true)
  | 24 => ("RuleChangeDeskModel", "rounds", "I", false)
  | 25 => ("RuleChangeDeskModel", "plan", "[I", true)
  | 26 => ("RuleChangeDeskModel", "fewest", "[I", true)
  | 27 => ("RuleChangeDeskModel", "ways", "[I", true)
  | 28 => ("RuleChangeDeskModel", "runs", "Z", false)
  | 29 => ("RuleChangeDeskModel", "atHand", "I", false)
  | 30 => ("RuleChangeDeskModel", "done", "I", false)
  | 31 => ("RuleChangeDeskModel", "packets", "I", false)
  | 32 => ("RuleChangeDeskModel", "broken", "I", false)
  | 33 => ("RuleChangeDeskModel", "pHost", "[I", true)
  | 34 => ("RuleChangeDeskModel", "pMark", "[I", true)
  | 35 => ("RuleChangeDeskModel", "pAt", "[I", true)
  | 36 => ("RuleChangeDeskModel", "pEnd", "[I", true)
  | 37 => ("RuleChangeDeskModel", "pLong", "[I", true)
  | _ => ("RuleChangeDeskModel", "pPath", "[I", true)
def tyX10 : Nat → FieldType := fun k => match k with
  | 0 => .int
  | 1 => .int
  | 2 => .int
  | 3 => .array .int
  | 4 => .array .int
  | 5 => .array .int
  | 6 => .array .int
  | 7 => .array .int
  | 8 => .array .int
  | 9 => .array .int
  | 10 => .array .int
  | 11 => .array .int
  | 12 => .array .int
  | 13 => .int
  | 14 => .int
  | 15 => .int
  | 16 => .int
  | 17 => .int
  | 18 => .int
  | 19 => .int
  | 20 => .int
  | 21 => .boolean
  | 22 => .array .boolean
  | 23 => .array .int
  | 24 => .int
  | 25 => .array .int
  | 26 => .array .int
  | 27 => .array .int
  | 28 => .boolean
  | 29 => .int
  | 30 => .int
  | 31 => .int
  | 32 => .int
  | 33 => .array .int
  | 34 => .array .int
  | 35 => .array .int
  | 36 => .array .int
  | 37 => .array .int
  | _ => .array .int
theorem nmX10 : ∀ a, a < 39 → ∀ b, b < 39 → a ≠ b → (TX10 a).2.1 ≠ (TX10 b).2.1 := by decide +kernel
theorem tyX10_ok : ∀ k, k < 39 → parseFieldDescriptor (TX10 k).2.2.1 = some (tyX10 k) := by decide +kernel
abbrev cX10_init : ByteArray := prog_12_method_1_code
def yX10_init : MethodName := ⟨RX10, "<init>", "()V"⟩
abbrev cX10_isIn : ByteArray := prog_12_method_2_code
def yX10_isIn : MethodName := ⟨RX10, "isIn", "(III)Z"⟩
abbrev cX10_clear : ByteArray := prog_12_method_3_code
def yX10_clear : MethodName := ⟨RX10, "clear", "(I)V"⟩
abbrev cX10_isPort : ByteArray := prog_12_method_4_code
def yX10_isPort : MethodName := ⟨RX10, "isPort", "(II)Z"⟩
abbrev cX10_isSpan : ByteArray := prog_12_method_5_code
def yX10_isSpan : MethodName := ⟨RX10, "isSpan", "(II)Z"⟩
abbrev cX10_net : ByteArray := prog_12_method_6_code
def yX10_net : MethodName := ⟨RX10, "net", "(I)Z"⟩
abbrev cX10_link : ByteArray := prog_12_method_7_code
def yX10_link : MethodName := ⟨RX10, "link", "(IIII)Z"⟩
abbrev cX10_host : ByteArray := prog_12_method_8_code
def yX10_host : MethodName := ⟨RX10, "host", "(II)I"⟩
abbrev cX10_isOf : ByteArray := prog_12_method_9_code
def yX10_isOf : MethodName := ⟨RX10, "isOf", "(II)Z"⟩
abbrev cX10_hasGoal : ByteArray := prog_12_method_10_code
def yX10_hasGoal : MethodName := ⟨RX10, "hasGoal", "(I)Z"⟩
abbrev cX10_unplug : ByteArray := prog_12_method_11_code
def yX10_unplug : MethodName := ⟨RX10, "unplug", "(II)Z"⟩
abbrev cX10_ruleAt : ByteArray := prog_12_method_12_code
def yX10_ruleAt : MethodName := ⟨RX10, "ruleAt", "(III)I"⟩
abbrev cX10_rule : ByteArray := prog_12_method_13_code
def yX10_rule : MethodName := ⟨RX10, "rule", "(IIIIII)I"⟩
abbrev cX10_strike : ByteArray := prog_12_method_14_code
def yX10_strike : MethodName := ⟨RX10, "strike", "(III)I"⟩
abbrev cX10_copy : ByteArray := prog_12_method_15_code
def yX10_copy : MethodName := ⟨RX10, "copy", "(IZ)I"⟩
abbrev cX10_want : ByteArray := prog_12_method_16_code
def yX10_want : MethodName := ⟨RX10, "want", "(IIIIII)I"⟩
abbrev cX10_unwant : ByteArray := prog_12_method_17_code
def yX10_unwant : MethodName := ⟨RX10, "unwant", "(I)I"⟩
abbrev cX10_isOfSpan : ByteArray := prog_12_method_18_code
def yX10_isOfSpan : MethodName := ⟨RX10, "isOfSpan", "(III)Z"⟩
abbrev cX10_actOf : ByteArray := prog_12_method_19_code
def yX10_actOf : MethodName := ⟨RX10, "actOf", "(III)I"⟩
abbrev cX10_goes : ByteArray := prog_12_method_20_code
def yX10_goes : MethodName := ⟨RX10, "goes", "(III)I"⟩
abbrev cX10_walks : ByteArray := prog_12_method_21_code
def yX10_walks : MethodName := ⟨RX10, "walks", "(III)V"⟩
abbrev cX10_all : ByteArray := prog_12_method_22_code
def yX10_all : MethodName := ⟨RX10, "all", "()I"⟩
abbrev cX10_isMixture : ByteArray := prog_12_method_23_code
def yX10_isMixture : MethodName := ⟨RX10, "isMixture", "(I)Z"⟩
abbrev cX10_way : ByteArray := prog_12_method_24_code
def yX10_way : MethodName := ⟨RX10, "way", "(III)I"⟩
abbrev cX10_on : ByteArray := prog_12_method_25_code
def yX10_on : MethodName := ⟨RX10, "on", "(I)I"⟩
abbrev cX10_isKept : ByteArray := prog_12_method_26_code
def yX10_isKept : MethodName := ⟨RX10, "isKept", "(II)Z"⟩
abbrev cX10_isWhole : ByteArray := prog_12_method_27_code
def yX10_isWhole : MethodName := ⟨RX10, "isWhole", "(II)Z"⟩
abbrev cX10_breaks : ByteArray := prog_12_method_28_code
def yX10_breaks : MethodName := ⟨RX10, "breaks", "(II)I"⟩
abbrev cX10_isKeptOne : ByteArray := prog_12_method_29_code
def yX10_isKeptOne : MethodName := ⟨RX10, "isKeptOne", "(I)Z"⟩
abbrev cX10_holds : ByteArray := prog_12_method_30_code
def yX10_holds : MethodName := ⟨RX10, "holds", "(II)I"⟩
abbrev cX10_kept : ByteArray := prog_12_method_31_code
def yX10_kept : MethodName := ⟨RX10, "kept", "(I)I"⟩
abbrev cX10_why : ByteArray := prog_12_method_32_code
def yX10_why : MethodName := ⟨RX10, "why", "(II)I"⟩
abbrev cX10_changed : ByteArray := prog_12_method_33_code
def yX10_changed : MethodName := ⟨RX10, "changed", "()V"⟩
abbrev cX10_learn : ByteArray := prog_12_method_34_code
def yX10_learn : MethodName := ⟨RX10, "learn", "()V"⟩
abbrev cX10_unlike : ByteArray := prog_12_method_35_code
def yX10_unlike : MethodName := ⟨RX10, "unlike", "()I"⟩
abbrev cX10_classMany : ByteArray := prog_12_method_36_code
def yX10_classMany : MethodName := ⟨RX10, "classMany", "()I"⟩
abbrev cX10_areAlike : ByteArray := prog_12_method_37_code
def yX10_areAlike : MethodName := ⟨RX10, "areAlike", "(II)Z"⟩
abbrev cX10_ofClass : ByteArray := prog_12_method_38_code
def yX10_ofClass : MethodName := ⟨RX10, "ofClass", "(I)I"⟩
abbrev cX10_look : ByteArray := prog_12_method_39_code
def yX10_look : MethodName := ⟨RX10, "look", "(I)I"⟩
abbrev cX10_planned : ByteArray := prog_12_method_40_code
def yX10_planned : MethodName := ⟨RX10, "planned", "(I)I"⟩
abbrev cX10_against : ByteArray := prog_12_method_41_code
def yX10_against : MethodName := ⟨RX10, "against", "(II)I"⟩
abbrev cX10_fewest : ByteArray := prog_12_method_42_code
def yX10_fewest : MethodName := ⟨RX10, "fewest", "(I)V"⟩
abbrev cX10_least : ByteArray := prog_12_method_43_code
def yX10_least : MethodName := ⟨RX10, "least", "()I"⟩
abbrev cX10_ways : ByteArray := prog_12_method_44_code
def yX10_ways : MethodName := ⟨RX10, "ways", "(I)V"⟩
abbrev cX10_orders : ByteArray := prog_12_method_45_code
def yX10_orders : MethodName := ⟨RX10, "orders", "()I"⟩
abbrev cX10_order : ByteArray := prog_12_method_46_code
def yX10_order : MethodName := ⟨RX10, "order", "(I)Z"⟩
abbrev cX10_round : ByteArray := prog_12_method_47_code
def yX10_round : MethodName := ⟨RX10, "round", "(I)I"⟩
abbrev cX10_empty : ByteArray := prog_12_method_48_code
def yX10_empty : MethodName := ⟨RX10, "empty", "()V"⟩
abbrev cX10_plan : ByteArray := prog_12_method_49_code
def yX10_plan : MethodName := ⟨RX10, "plan", "(I)I"⟩
abbrev cX10_mid : ByteArray := prog_12_method_50_code
def yX10_mid : MethodName := ⟨RX10, "mid", "(I)I"⟩
abbrev cX10_begin : ByteArray := prog_12_method_51_code
def yX10_begin : MethodName := ⟨RX10, "begin", "()Z"⟩
abbrev cX10_send : ByteArray := prog_12_method_52_code
def yX10_send : MethodName := ⟨RX10, "send", "(II)I"⟩
abbrev cX10_isPacket : ByteArray := prog_12_method_53_code
def yX10_isPacket : MethodName := ⟨RX10, "isPacket", "(I)Z"⟩
abbrev cX10_hop : ByteArray := prog_12_method_54_code
def yX10_hop : MethodName := ⟨RX10, "hop", "(I)I"⟩
abbrev cX10_left : ByteArray := prog_12_method_55_code
def yX10_left : MethodName := ⟨RX10, "left", "()I"⟩
abbrev cX10_change : ByteArray := prog_12_method_56_code
def yX10_change : MethodName := ⟨RX10, "change", "(I)I"⟩
abbrev cX10_underWay : ByteArray := prog_12_method_57_code
def yX10_underWay : MethodName := ⟨RX10, "underWay", "()I"⟩
abbrev cX10_next : ByteArray := prog_12_method_58_code
def yX10_next : MethodName := ⟨RX10, "next", "()I"⟩
abbrev cX10_run : ByteArray := prog_12_method_59_code
def yX10_run : MethodName := ⟨RX10, "run", "(I)I"⟩
abbrev cX10_packet : ByteArray := prog_12_method_60_code
def yX10_packet : MethodName := ⟨RX10, "packet", "(II)I"⟩
def RJ6 : String := "java/lang/Integer"
def TJ6 : u_T := fun k => match k with
  | _ => ("", "", "", false)
def tyJ6 : Nat → FieldType := fun k => match k with
  | _ => .int
theorem nmJ6 : ∀ a, a < 0 → ∀ b, b < 0 → a ≠ b → (TJ6 a).2.1 ≠ (TJ6 b).2.1 := by decide +kernel
theorem tyJ6_ok : ∀ k, k < 0 → parseFieldDescriptor (TJ6 k).2.2.1 = some (tyJ6 k) := by decide +kernel
abbrev cJ6_bitCount_0f7a4 : ByteArray := prog_13_method_49_code
def yJ6_bitCount_0f7a4 : MethodName := ⟨RJ6, "bitCount", "(I)I"⟩
def RJ7 : String := "java/util/Arrays"
def TJ7 : u_T := fun k => match k with
  | _ => ("", "", "", false)
def tyJ7 : Nat → FieldType := fun k => match k with
  | _ => .int
theorem nmJ7 : ∀ a, a < 0 → ∀ b, b < 0 → a ≠ b → (TJ7 a).2.1 ≠ (TJ7 b).2.1 := by decide +kernel
theorem tyJ7_ok : ∀ k, k < 0 → parseFieldDescriptor (TJ7 k).2.2.1 = some (tyJ7 k) := by decide +kernel
abbrev cJ7_fill_53178 : ByteArray := prog_14_method_103_code
def yJ7_fill_53178 : MethodName := ⟨RJ7, "fill", "([II)V"⟩
def RL : String := "RuleChangeDeskLaw"
abbrev cL_law : ByteArray := code
def yL_law : MethodName := ⟨RL, "law", "([I)Z"⟩
abbrev vwCl : List vw_C := [(RX0, TX0, 10), (RX1, TX1, 9), (RX2, TX2, 3), (RX3, TX3, 2), (RX4, TX4, 4), (RX5, TX5, 6), (RX6, TX6, 10), (RX7, TX7, 6), (RX8, TX8, 4), (RX9, TX9, 6), (RX10, TX10, 39)]
