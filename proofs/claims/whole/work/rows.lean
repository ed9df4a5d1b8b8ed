section
-- ===== PART A: goes FIRST, ahead of the names: the tables' words, and 'selects' of the private methods out of them =====
/-- a private method of a class that the tables say can be made, by its rows of tables_1 -/
def lw_okq (q : MethodName × Nat) : Prop := (q.1.cls ≠ "java/lang/invoke/MethodHandle" ∧ q.1.cls ≠ "java/lang/invoke/VarHandle") ∧ Cond.instantiable q.1.cls q.2 ∈ tables_1 ∧ Cond.privateMethod q.1 ∈ tables_1 ∧ Cond.instanceMethod q.1 ∈ tables_1
theorem lw_p0 : lw_okq (⟨"RuleChangeDesk$Row", "findActs", "()V"⟩, 6) := ⟨⟨by decide +kernel, by decide +kernel⟩, List.mem_of_getElem? (i := 33) (by decide +kernel), List.mem_of_getElem? (i := 297) (by decide +kernel), List.mem_of_getElem? (i := 298) (by decide +kernel)⟩
theorem lw_p1 : lw_okq (⟨"RuleChangeDesk", "startAfresh", "()V"⟩, 6) := ⟨⟨by decide +kernel, by decide +kernel⟩, List.mem_of_getElem? (i := 15) (by decide +kernel), List.mem_of_getElem? (i := 308) (by decide +kernel), List.mem_of_getElem? (i := 309) (by decide +kernel)⟩
theorem lw_p2 : lw_okq (⟨"RuleChangeDesk$Row", "put", "(IIIII)V"⟩, 6) := ⟨⟨by decide +kernel, by decide +kernel⟩, List.mem_of_getElem? (i := 33) (by decide +kernel), List.mem_of_getElem? (i := 406) (by decide +kernel), List.mem_of_getElem? (i := 407) (by decide +kernel)⟩
theorem lw_p3 : lw_okq (⟨"RuleChangeDesk$Net", "findClasses", "()V"⟩, 9) := ⟨⟨by decide +kernel, by decide +kernel⟩, List.mem_of_getElem? (i := 23) (by decide +kernel), List.mem_of_getElem? (i := 487) (by decide +kernel), List.mem_of_getElem? (i := 488) (by decide +kernel)⟩
theorem lw_p4 : lw_okq (⟨"RuleChangeDesk$Net", "leastAlike", "(I)I"⟩, 9) := ⟨⟨by decide +kernel, by decide +kernel⟩, List.mem_of_getElem? (i := 23) (by decide +kernel), List.mem_of_getElem? (i := 491) (by decide +kernel), List.mem_of_getElem? (i := 492) (by decide +kernel)⟩
theorem lw_p5 : lw_okq (⟨"RuleChangeDesk$Net", "isSeparated", "(II)Z"⟩, 9) := ⟨⟨by decide +kernel, by decide +kernel⟩, List.mem_of_getElem? (i := 23) (by decide +kernel), List.mem_of_getElem? (i := 495) (by decide +kernel), List.mem_of_getElem? (i := 496) (by decide +kernel)⟩
theorem lw_p6 : lw_okq (⟨"RuleChangeDesk$Judge", "findKept", "()V"⟩, 10) := ⟨⟨by decide +kernel, by decide +kernel⟩, List.mem_of_getElem? (i := 89) (by decide +kernel), List.mem_of_getElem? (i := 511) (by decide +kernel), List.mem_of_getElem? (i := 512) (by decide +kernel)⟩
theorem lw_p7 : lw_okq (⟨"RuleChangeDesk$Judge", "traceByBooks", "(II)V"⟩, 10) := ⟨⟨by decide +kernel, by decide +kernel⟩, List.mem_of_getElem? (i := 89) (by decide +kernel), List.mem_of_getElem? (i := 524) (by decide +kernel), List.mem_of_getElem? (i := 525) (by decide +kernel)⟩
theorem lw_p8 : lw_okq (⟨"RuleChangeDesk$Judge", "strikeNotGood", "(LRuleChangeDesk$Want;I)V"⟩, 10) := ⟨⟨by decide +kernel, by decide +kernel⟩, List.mem_of_getElem? (i := 89) (by decide +kernel), List.mem_of_getElem? (i := 577) (by decide +kernel), List.mem_of_getElem? (i := 578) (by decide +kernel)⟩
theorem lw_p9 : lw_okq (⟨"RuleChangeDesk$Planner", "fewestFrom", "(II)I"⟩, 4) := ⟨⟨by decide +kernel, by decide +kernel⟩, List.mem_of_getElem? (i := 186) (by decide +kernel), List.mem_of_getElem? (i := 661) (by decide +kernel), List.mem_of_getElem? (i := 662) (by decide +kernel)⟩
theorem lw_p10 : lw_okq (⟨"RuleChangeDesk$Planner", "leastNotGood", "(II)I"⟩, 4) := ⟨⟨by decide +kernel, by decide +kernel⟩, List.mem_of_getElem? (i := 186) (by decide +kernel), List.mem_of_getElem? (i := 665) (by decide +kernel), List.mem_of_getElem? (i := 666) (by decide +kernel)⟩
theorem lw_p11 : lw_okq (⟨"RuleChangeDesk$Planner", "leastRound", "(II)I"⟩, 4) := ⟨⟨by decide +kernel, by decide +kernel⟩, List.mem_of_getElem? (i := 186) (by decide +kernel), List.mem_of_getElem? (i := 670) (by decide +kernel), List.mem_of_getElem? (i := 671) (by decide +kernel)⟩
theorem lw_p12 : lw_okq (⟨"RuleChangeDesk$Planner", "findOrderings", "(I)I"⟩, 4) := ⟨⟨by decide +kernel, by decide +kernel⟩, List.mem_of_getElem? (i := 186) (by decide +kernel), List.mem_of_getElem? (i := 686) (by decide +kernel), List.mem_of_getElem? (i := 687) (by decide +kernel)⟩
theorem lw_p13 : lw_okq (⟨"RuleChangeDesk$Planner", "orderingsFrom", "(II)I"⟩, 4) := ⟨⟨by decide +kernel, by decide +kernel⟩, List.mem_of_getElem? (i := 186) (by decide +kernel), List.mem_of_getElem? (i := 690) (by decide +kernel), List.mem_of_getElem? (i := 691) (by decide +kernel)⟩
theorem lw_p14 : lw_okq (⟨"RuleChangeDesk$Planner", "orderingsBy", "(III)I"⟩, 4) := ⟨⟨by decide +kernel, by decide +kernel⟩, List.mem_of_getElem? (i := 186) (by decide +kernel), List.mem_of_getElem? (i := 694) (by decide +kernel), List.mem_of_getElem? (i := 695) (by decide +kernel)⟩
theorem lw_p15 : lw_okq (⟨"RuleChangeDesk$Run", "left", "()I"⟩, 10) := ⟨⟨by decide +kernel, by decide +kernel⟩, List.mem_of_getElem? (i := 205) (by decide +kernel), List.mem_of_getElem? (i := 810) (by decide +kernel), List.mem_of_getElem? (i := 811) (by decide +kernel)⟩
def lw_privs_1 : List (MethodName × Nat) := [(⟨"RuleChangeDesk$Row", "findActs", "()V"⟩, 6), (⟨"RuleChangeDesk", "startAfresh", "()V"⟩, 6), (⟨"RuleChangeDesk$Row", "put", "(IIIII)V"⟩, 6), (⟨"RuleChangeDesk$Net", "findClasses", "()V"⟩, 9), (⟨"RuleChangeDesk$Net", "leastAlike", "(I)I"⟩, 9), (⟨"RuleChangeDesk$Net", "isSeparated", "(II)Z"⟩, 9), (⟨"RuleChangeDesk$Judge", "findKept", "()V"⟩, 10), (⟨"RuleChangeDesk$Judge", "traceByBooks", "(II)V"⟩, 10), (⟨"RuleChangeDesk$Judge", "strikeNotGood", "(LRuleChangeDesk$Want;I)V"⟩, 10), (⟨"RuleChangeDesk$Planner", "fewestFrom", "(II)I"⟩, 4), (⟨"RuleChangeDesk$Planner", "leastNotGood", "(II)I"⟩, 4), (⟨"RuleChangeDesk$Planner", "leastRound", "(II)I"⟩, 4), (⟨"RuleChangeDesk$Planner", "findOrderings", "(I)I"⟩, 4), (⟨"RuleChangeDesk$Planner", "orderingsFrom", "(II)I"⟩, 4), (⟨"RuleChangeDesk$Planner", "orderingsBy", "(III)I"⟩, 4), (⟨"RuleChangeDesk$Run", "left", "()I"⟩, 10)]
theorem lw_r1 : ∀ q ∈ lw_privs_1, lw_okq q := List.forall_mem_cons.mpr ⟨lw_p0, List.forall_mem_cons.mpr ⟨lw_p1, List.forall_mem_cons.mpr ⟨lw_p2, List.forall_mem_cons.mpr ⟨lw_p3, List.forall_mem_cons.mpr ⟨lw_p4, List.forall_mem_cons.mpr ⟨lw_p5, List.forall_mem_cons.mpr ⟨lw_p6, List.forall_mem_cons.mpr ⟨lw_p7, List.forall_mem_cons.mpr ⟨lw_p8, List.forall_mem_cons.mpr ⟨lw_p9, List.forall_mem_cons.mpr ⟨lw_p10, List.forall_mem_cons.mpr ⟨lw_p11, List.forall_mem_cons.mpr ⟨lw_p12, List.forall_mem_cons.mpr ⟨lw_p13, List.forall_mem_cons.mpr ⟨lw_p14, List.forall_mem_cons.mpr ⟨lw_p15, fun _ h => absurd h List.not_mem_nil⟩⟩⟩⟩⟩⟩⟩⟩⟩⟩⟩⟩⟩⟩⟩⟩
theorem lw_p16 : lw_okq (⟨"RuleChangeDeskModel", "clear", "(I)V"⟩, 39) := ⟨⟨by decide +kernel, by decide +kernel⟩, List.mem_of_getElem? (i := 850) (by decide +kernel), List.mem_of_getElem? (i := 856) (by decide +kernel), List.mem_of_getElem? (i := 857) (by decide +kernel)⟩
theorem lw_p17 : lw_okq (⟨"RuleChangeDeskModel", "changed", "()V"⟩, 39) := ⟨⟨by decide +kernel, by decide +kernel⟩, List.mem_of_getElem? (i := 850) (by decide +kernel), List.mem_of_getElem? (i := 860) (by decide +kernel), List.mem_of_getElem? (i := 861) (by decide +kernel)⟩
theorem lw_p18 : lw_okq (⟨"RuleChangeDeskModel", "isPort", "(II)Z"⟩, 39) := ⟨⟨by decide +kernel, by decide +kernel⟩, List.mem_of_getElem? (i := 850) (by decide +kernel), List.mem_of_getElem? (i := 989) (by decide +kernel), List.mem_of_getElem? (i := 990) (by decide +kernel)⟩
theorem lw_p19 : lw_okq (⟨"RuleChangeDeskModel", "isOf", "(II)Z"⟩, 39) := ⟨⟨by decide +kernel, by decide +kernel⟩, List.mem_of_getElem? (i := 850) (by decide +kernel), List.mem_of_getElem? (i := 1001) (by decide +kernel), List.mem_of_getElem? (i := 1002) (by decide +kernel)⟩
theorem lw_p20 : lw_okq (⟨"RuleChangeDeskModel", "isSpan", "(II)Z"⟩, 39) := ⟨⟨by decide +kernel, by decide +kernel⟩, List.mem_of_getElem? (i := 850) (by decide +kernel), List.mem_of_getElem? (i := 1012) (by decide +kernel), List.mem_of_getElem? (i := 1013) (by decide +kernel)⟩
theorem lw_p21 : lw_okq (⟨"RuleChangeDeskModel", "ruleAt", "(III)I"⟩, 39) := ⟨⟨by decide +kernel, by decide +kernel⟩, List.mem_of_getElem? (i := 850) (by decide +kernel), List.mem_of_getElem? (i := 1016) (by decide +kernel), List.mem_of_getElem? (i := 1017) (by decide +kernel)⟩
theorem lw_p22 : lw_okq (⟨"RuleChangeDeskModel", "isMixture", "(I)Z"⟩, 39) := ⟨⟨by decide +kernel, by decide +kernel⟩, List.mem_of_getElem? (i := 850) (by decide +kernel), List.mem_of_getElem? (i := 1040) (by decide +kernel), List.mem_of_getElem? (i := 1041) (by decide +kernel)⟩
theorem lw_p23 : lw_okq (⟨"RuleChangeDeskModel", "all", "()I"⟩, 39) := ⟨⟨by decide +kernel, by decide +kernel⟩, List.mem_of_getElem? (i := 850) (by decide +kernel), List.mem_of_getElem? (i := 1044) (by decide +kernel), List.mem_of_getElem? (i := 1045) (by decide +kernel)⟩
theorem lw_p24 : lw_okq (⟨"RuleChangeDeskModel", "walks", "(III)V"⟩, 39) := ⟨⟨by decide +kernel, by decide +kernel⟩, List.mem_of_getElem? (i := 850) (by decide +kernel), List.mem_of_getElem? (i := 1048) (by decide +kernel), List.mem_of_getElem? (i := 1049) (by decide +kernel)⟩
theorem lw_p25 : lw_okq (⟨"RuleChangeDeskModel", "goes", "(III)I"⟩, 39) := ⟨⟨by decide +kernel, by decide +kernel⟩, List.mem_of_getElem? (i := 850) (by decide +kernel), List.mem_of_getElem? (i := 1052) (by decide +kernel), List.mem_of_getElem? (i := 1053) (by decide +kernel)⟩
theorem lw_p26 : lw_okq (⟨"RuleChangeDeskModel", "actOf", "(III)I"⟩, 39) := ⟨⟨by decide +kernel, by decide +kernel⟩, List.mem_of_getElem? (i := 850) (by decide +kernel), List.mem_of_getElem? (i := 1056) (by decide +kernel), List.mem_of_getElem? (i := 1057) (by decide +kernel)⟩
theorem lw_p27 : lw_okq (⟨"RuleChangeDeskModel", "breaks", "(II)I"⟩, 39) := ⟨⟨by decide +kernel, by decide +kernel⟩, List.mem_of_getElem? (i := 850) (by decide +kernel), List.mem_of_getElem? (i := 1071) (by decide +kernel), List.mem_of_getElem? (i := 1072) (by decide +kernel)⟩
theorem lw_p28 : lw_okq (⟨"RuleChangeDeskModel", "isKept", "(II)Z"⟩, 39) := ⟨⟨by decide +kernel, by decide +kernel⟩, List.mem_of_getElem? (i := 850) (by decide +kernel), List.mem_of_getElem? (i := 1075) (by decide +kernel), List.mem_of_getElem? (i := 1076) (by decide +kernel)⟩
theorem lw_p29 : lw_okq (⟨"RuleChangeDeskModel", "isWhole", "(II)Z"⟩, 39) := ⟨⟨by decide +kernel, by decide +kernel⟩, List.mem_of_getElem? (i := 850) (by decide +kernel), List.mem_of_getElem? (i := 1079) (by decide +kernel), List.mem_of_getElem? (i := 1080) (by decide +kernel)⟩
theorem lw_p30 : lw_okq (⟨"RuleChangeDeskModel", "isKeptOne", "(I)Z"⟩, 39) := ⟨⟨by decide +kernel, by decide +kernel⟩, List.mem_of_getElem? (i := 850) (by decide +kernel), List.mem_of_getElem? (i := 1087) (by decide +kernel), List.mem_of_getElem? (i := 1088) (by decide +kernel)⟩
theorem lw_p31 : lw_okq (⟨"RuleChangeDeskModel", "classMany", "()I"⟩, 39) := ⟨⟨by decide +kernel, by decide +kernel⟩, List.mem_of_getElem? (i := 850) (by decide +kernel), List.mem_of_getElem? (i := 1099) (by decide +kernel), List.mem_of_getElem? (i := 1100) (by decide +kernel)⟩
def lw_privs_2 : List (MethodName × Nat) := [(⟨"RuleChangeDeskModel", "clear", "(I)V"⟩, 39), (⟨"RuleChangeDeskModel", "changed", "()V"⟩, 39), (⟨"RuleChangeDeskModel", "isPort", "(II)Z"⟩, 39), (⟨"RuleChangeDeskModel", "isOf", "(II)Z"⟩, 39), (⟨"RuleChangeDeskModel", "isSpan", "(II)Z"⟩, 39), (⟨"RuleChangeDeskModel", "ruleAt", "(III)I"⟩, 39), (⟨"RuleChangeDeskModel", "isMixture", "(I)Z"⟩, 39), (⟨"RuleChangeDeskModel", "all", "()I"⟩, 39), (⟨"RuleChangeDeskModel", "walks", "(III)V"⟩, 39), (⟨"RuleChangeDeskModel", "goes", "(III)I"⟩, 39), (⟨"RuleChangeDeskModel", "actOf", "(III)I"⟩, 39), (⟨"RuleChangeDeskModel", "breaks", "(II)I"⟩, 39), (⟨"RuleChangeDeskModel", "isKept", "(II)Z"⟩, 39), (⟨"RuleChangeDeskModel", "isWhole", "(II)Z"⟩, 39), (⟨"RuleChangeDeskModel", "isKeptOne", "(I)Z"⟩, 39), (⟨"RuleChangeDeskModel", "classMany", "()I"⟩, 39)]
theorem lw_r2 : ∀ q ∈ lw_privs_2, lw_okq q := List.forall_mem_cons.mpr ⟨lw_p16, List.forall_mem_cons.mpr ⟨lw_p17, List.forall_mem_cons.mpr ⟨lw_p18, List.forall_mem_cons.mpr ⟨lw_p19, List.forall_mem_cons.mpr ⟨lw_p20, List.forall_mem_cons.mpr ⟨lw_p21, List.forall_mem_cons.mpr ⟨lw_p22, List.forall_mem_cons.mpr ⟨lw_p23, List.forall_mem_cons.mpr ⟨lw_p24, List.forall_mem_cons.mpr ⟨lw_p25, List.forall_mem_cons.mpr ⟨lw_p26, List.forall_mem_cons.mpr ⟨lw_p27, List.forall_mem_cons.mpr ⟨lw_p28, List.forall_mem_cons.mpr ⟨lw_p29, List.forall_mem_cons.mpr ⟨lw_p30, List.forall_mem_cons.mpr ⟨lw_p31, fun _ h => absurd h List.not_mem_nil⟩⟩⟩⟩⟩⟩⟩⟩⟩⟩⟩⟩⟩⟩⟩⟩
theorem lw_p32 : lw_okq (⟨"RuleChangeDeskModel", "areAlike", "(II)Z"⟩, 39) := ⟨⟨by decide +kernel, by decide +kernel⟩, List.mem_of_getElem? (i := 850) (by decide +kernel), List.mem_of_getElem? (i := 1103) (by decide +kernel), List.mem_of_getElem? (i := 1104) (by decide +kernel)⟩
theorem lw_p33 : lw_okq (⟨"RuleChangeDeskModel", "unlike", "()I"⟩, 39) := ⟨⟨by decide +kernel, by decide +kernel⟩, List.mem_of_getElem? (i := 850) (by decide +kernel), List.mem_of_getElem? (i := 1111) (by decide +kernel), List.mem_of_getElem? (i := 1112) (by decide +kernel)⟩
theorem lw_p34 : lw_okq (⟨"RuleChangeDeskModel", "learn", "()V"⟩, 39) := ⟨⟨by decide +kernel, by decide +kernel⟩, List.mem_of_getElem? (i := 850) (by decide +kernel), List.mem_of_getElem? (i := 1115) (by decide +kernel), List.mem_of_getElem? (i := 1116) (by decide +kernel)⟩
theorem lw_p35 : lw_okq (⟨"RuleChangeDeskModel", "planned", "(I)I"⟩, 39) := ⟨⟨by decide +kernel, by decide +kernel⟩, List.mem_of_getElem? (i := 850) (by decide +kernel), List.mem_of_getElem? (i := 1120) (by decide +kernel), List.mem_of_getElem? (i := 1121) (by decide +kernel)⟩
theorem lw_p36 : lw_okq (⟨"RuleChangeDeskModel", "fewest", "(I)V"⟩, 39) := ⟨⟨by decide +kernel, by decide +kernel⟩, List.mem_of_getElem? (i := 850) (by decide +kernel), List.mem_of_getElem? (i := 1128) (by decide +kernel), List.mem_of_getElem? (i := 1129) (by decide +kernel)⟩
theorem lw_p37 : lw_okq (⟨"RuleChangeDeskModel", "against", "(II)I"⟩, 39) := ⟨⟨by decide +kernel, by decide +kernel⟩, List.mem_of_getElem? (i := 850) (by decide +kernel), List.mem_of_getElem? (i := 1132) (by decide +kernel), List.mem_of_getElem? (i := 1133) (by decide +kernel)⟩
theorem lw_p38 : lw_okq (⟨"RuleChangeDeskModel", "ways", "(I)V"⟩, 39) := ⟨⟨by decide +kernel, by decide +kernel⟩, List.mem_of_getElem? (i := 850) (by decide +kernel), List.mem_of_getElem? (i := 1140) (by decide +kernel), List.mem_of_getElem? (i := 1141) (by decide +kernel)⟩
theorem lw_p39 : lw_okq (⟨"RuleChangeDeskModel", "isPacket", "(I)Z"⟩, 39) := ⟨⟨by decide +kernel, by decide +kernel⟩, List.mem_of_getElem? (i := 850) (by decide +kernel), List.mem_of_getElem? (i := 1176) (by decide +kernel), List.mem_of_getElem? (i := 1177) (by decide +kernel)⟩
theorem lw_p40 : lw_okq (⟨"RuleChangeDeskModel", "left", "()I"⟩, 39) := ⟨⟨by decide +kernel, by decide +kernel⟩, List.mem_of_getElem? (i := 850) (by decide +kernel), List.mem_of_getElem? (i := 1184) (by decide +kernel), List.mem_of_getElem? (i := 1185) (by decide +kernel)⟩
theorem lw_p41 : lw_okq (⟨"RuleChangeDeskModel", "underWay", "()I"⟩, 39) := ⟨⟨by decide +kernel, by decide +kernel⟩, List.mem_of_getElem? (i := 850) (by decide +kernel), List.mem_of_getElem? (i := 1192) (by decide +kernel), List.mem_of_getElem? (i := 1193) (by decide +kernel)⟩
def lw_privs_3 : List (MethodName × Nat) := [(⟨"RuleChangeDeskModel", "areAlike", "(II)Z"⟩, 39), (⟨"RuleChangeDeskModel", "unlike", "()I"⟩, 39), (⟨"RuleChangeDeskModel", "learn", "()V"⟩, 39), (⟨"RuleChangeDeskModel", "planned", "(I)I"⟩, 39), (⟨"RuleChangeDeskModel", "fewest", "(I)V"⟩, 39), (⟨"RuleChangeDeskModel", "against", "(II)I"⟩, 39), (⟨"RuleChangeDeskModel", "ways", "(I)V"⟩, 39), (⟨"RuleChangeDeskModel", "isPacket", "(I)Z"⟩, 39), (⟨"RuleChangeDeskModel", "left", "()I"⟩, 39), (⟨"RuleChangeDeskModel", "underWay", "()I"⟩, 39)]
theorem lw_r3 : ∀ q ∈ lw_privs_3, lw_okq q := List.forall_mem_cons.mpr ⟨lw_p32, List.forall_mem_cons.mpr ⟨lw_p33, List.forall_mem_cons.mpr ⟨lw_p34, List.forall_mem_cons.mpr ⟨lw_p35, List.forall_mem_cons.mpr ⟨lw_p36, List.forall_mem_cons.mpr ⟨lw_p37, List.forall_mem_cons.mpr ⟨lw_p38, List.forall_mem_cons.mpr ⟨lw_p39, List.forall_mem_cons.mpr ⟨lw_p40, List.forall_mem_cons.mpr ⟨lw_p41, fun _ h => absurd h List.not_mem_nil⟩⟩⟩⟩⟩⟩⟩⟩⟩⟩
def lw_privs : List (MethodName × Nat) := lw_privs_1 ++ (lw_privs_2 ++ (lw_privs_3))
def lw_tbl : List Cond := k2_sels lw_privs ++ tables_1
theorem lw_privs_ok : ∀ q ∈ lw_privs, lw_okq q := by
  show ∀ q ∈ lw_privs_1 ++ (lw_privs_2 ++ (lw_privs_3)), lw_okq q
  exact List.forall_mem_append.mpr ⟨lw_r1, List.forall_mem_append.mpr ⟨lw_r2, lw_r3⟩⟩
def RX0 : String := "RuleChangeDesk$Judge"
def TX0 : u_T := fun k => match k with
  | 0 => ("RuleChangeDesk$Judge", "net", "LRuleChangeDesk$Net;", true)
  | 1 => ("RuleChangeDesk$Judge", "wants", "[LRuleChangeDesk$Want;", true)
  | 2 => ("RuleChangeDesk$Judge", "kept", "[Z", true)
  | 3 => ("RuleChangeDesk$Judge", "good", "[Z", true)
  | 4 => ("RuleChangeDesk$Judge", "byOld", "LRuleChangeDesk$Way;", true)
  | 5 => ("RuleChangeDesk$Judge", "byNew", "LRuleChangeDesk$Way;", true)
  | 6 => ("RuleChangeDesk$Judge", "mixed", "LRuleChangeDesk$Way;", true)
  | 7 => ("RuleChangeDesk$Judge", "count", "I", false)
  | 8 => ("RuleChangeDesk$Judge", "keptIsKnown", "Z", false)
  | _ => ("RuleChangeDesk$Judge", "goodIsKnown", "Z", false)
def tyX0 : Nat → FieldType := fun k => match k with
  | 0 => .object "RuleChangeDesk$Net"
  | 1 => .array (.object "RuleChangeDesk$Want")
  | 2 => .array .boolean
  | 3 => .array .boolean
  | 4 => .object "RuleChangeDesk$Way"
  | 5 => .object "RuleChangeDesk$Way"
  | 6 => .object "RuleChangeDesk$Way"
  | 7 => .int
  | 8 => .boolean
  | _ => .boolean
theorem nmX0 : ∀ a, a < 10 → ∀ b, b < 10 → a ≠ b → (TX0 a).2.1 ≠ (TX0 b).2.1 := by decide +kernel
theorem tyX0_ok : ∀ k, k < 10 → parseFieldDescriptor (TX0 k).2.2.1 = some (tyX0 k) := by decide +kernel
abbrev cX0_init : ByteArray := prog_2_method_1_code
def yX0_init : MethodName := ⟨RX0, "<init>", "(LRuleChangeDesk$Net;)V"⟩
abbrev cX0_forget : ByteArray := prog_2_method_2_code
def yX0_forget : MethodName := ⟨RX0, "forget", "()V"⟩
abbrev cX0_dropWants : ByteArray := prog_2_method_3_code
def yX0_dropWants : MethodName := ⟨RX0, "dropWants", "()V"⟩
abbrev cX0_wantCount : ByteArray := prog_2_method_4_code
def yX0_wantCount : MethodName := ⟨RX0, "wantCount", "()I"⟩
abbrev cX0_hasWant : ByteArray := prog_2_method_5_code
def yX0_hasWant : MethodName := ⟨RX0, "hasWant", "(I)Z"⟩
abbrev cX0_addWant : ByteArray := prog_2_method_6_code
def yX0_addWant : MethodName := ⟨RX0, "addWant", "(LRuleChangeDesk$Want;)V"⟩
abbrev cX0_removeWant : ByteArray := prog_2_method_7_code
def yX0_removeWant : MethodName := ⟨RX0, "removeWant", "(I)V"⟩
abbrev cX0_needsHost : ByteArray := prog_2_method_8_code
def yX0_needsHost : MethodName := ⟨RX0, "needsHost", "(I)Z"⟩
abbrev cX0_leastBadMark : ByteArray := prog_2_method_9_code
def yX0_leastBadMark : MethodName := ⟨RX0, "leastBadMark", "(II)I"⟩
abbrev cX0_isKept : ByteArray := prog_2_method_10_code
def yX0_isKept : MethodName := ⟨RX0, "isKept", "(I)Z"⟩
abbrev cX0_firstBroken : ByteArray := prog_2_method_11_code
def yX0_firstBroken : MethodName := ⟨RX0, "firstBroken", "(I)I"⟩
abbrev cX0_countBroken : ByteArray := prog_2_method_12_code
def yX0_countBroken : MethodName := ⟨RX0, "countBroken", "(IILRuleChangeDesk$Way;)I"⟩
abbrev cX0_findGood : ByteArray := prog_2_method_13_code
def yX0_findGood : MethodName := ⟨RX0, "findGood", "()V"⟩
abbrev cX0_isGood : ByteArray := prog_2_method_14_code
def yX0_isGood : MethodName := ⟨RX0, "isGood", "(I)Z"⟩
abbrev cX0_findKept : ByteArray := prog_2_method_15_code
def yX0_findKept : MethodName := ⟨RX0, "findKept", "()V"⟩
abbrev cX0_strikeNotGood : ByteArray := prog_2_method_16_code
def yX0_strikeNotGood : MethodName := ⟨RX0, "strikeNotGood", "(LRuleChangeDesk$Want;I)V"⟩
abbrev cX0_traceByBooks : ByteArray := prog_2_method_17_code
def yX0_traceByBooks : MethodName := ⟨RX0, "traceByBooks", "(II)V"⟩
def RX1 : String := "RuleChangeDesk$Net"
def TX1 : u_T := fun k => match k with
  | 0 => ("RuleChangeDesk$Net", "ports", "[I", true)
  | 1 => ("RuleChangeDesk$Net", "hostSwitches", "[I", true)
  | 2 => ("RuleChangeDesk$Net", "rows", "[LRuleChangeDesk$Row;", true)
  | 3 => ("RuleChangeDesk$Net", "classes", "[I", true)
  | 4 => ("RuleChangeDesk$Net", "classesAreKnown", "Z", false)
  | 5 => ("RuleChangeDesk$Net", "classCount", "I", false)
  | 6 => ("RuleChangeDesk$Net", "switchCount", "I", false)
  | 7 => ("RuleChangeDesk$Net", "hostCount", "I", false)
  | _ => ("RuleChangeDesk$Net", "linkCount", "I", false)
def tyX1 : Nat → FieldType := fun k => match k with
  | 0 => .array .int
  | 1 => .array .int
  | 2 => .array (.object "RuleChangeDesk$Row")
  | 3 => .array .int
  | 4 => .boolean
  | 5 => .int
  | 6 => .int
  | 7 => .int
  | _ => .int
theorem nmX1 : ∀ a, a < 9 → ∀ b, b < 9 → a ≠ b → (TX1 a).2.1 ≠ (TX1 b).2.1 := by decide +kernel
theorem tyX1_ok : ∀ k, k < 9 → parseFieldDescriptor (TX1 k).2.2.1 = some (tyX1 k) := by decide +kernel
abbrev cX1_init : ByteArray := prog_3_method_1_code
def yX1_init : MethodName := ⟨RX1, "<init>", "()V"⟩
abbrev cX1_reset : ByteArray := prog_3_method_2_code
def yX1_reset : MethodName := ⟨RX1, "reset", "(I)V"⟩
abbrev cX1_forget : ByteArray := prog_3_method_3_code
def yX1_forget : MethodName := ⟨RX1, "forget", "()V"⟩
abbrev cX1_switchCount : ByteArray := prog_3_method_4_code
def yX1_switchCount : MethodName := ⟨RX1, "switchCount", "()I"⟩
abbrev cX1_hostCount : ByteArray := prog_3_method_5_code
def yX1_hostCount : MethodName := ⟨RX1, "hostCount", "()I"⟩
abbrev cX1_linkCount : ByteArray := prog_3_method_6_code
def yX1_linkCount : MethodName := ⟨RX1, "linkCount", "()I"⟩
abbrev cX1_hasSwitch : ByteArray := prog_3_method_7_code
def yX1_hasSwitch : MethodName := ⟨RX1, "hasSwitch", "(I)Z"⟩
abbrev cX1_hasPort : ByteArray := prog_3_method_8_code
def yX1_hasPort : MethodName := ⟨RX1, "hasPort", "(II)Z"⟩
abbrev cX1_hasHost : ByteArray := prog_3_method_9_code
def yX1_hasHost : MethodName := ⟨RX1, "hasHost", "(I)Z"⟩
abbrev cX1_hasMixture : ByteArray := prog_3_method_10_code
def yX1_hasMixture : MethodName := ⟨RX1, "hasMixture", "(I)Z"⟩
abbrev cX1_allNew : ByteArray := prog_3_method_11_code
def yX1_allNew : MethodName := ⟨RX1, "allNew", "()I"⟩
abbrev cX1_isFree : ByteArray := prog_3_method_12_code
def yX1_isFree : MethodName := ⟨RX1, "isFree", "(II)Z"⟩
abbrev cX1_join : ByteArray := prog_3_method_13_code
def yX1_join : MethodName := ⟨RX1, "join", "(IIII)V"⟩
abbrev cX1_addHost : ByteArray := prog_3_method_14_code
def yX1_addHost : MethodName := ⟨RX1, "addHost", "(II)I"⟩
abbrev cX1_switchOf : ByteArray := prog_3_method_15_code
def yX1_switchOf : MethodName := ⟨RX1, "switchOf", "(I)I"⟩
abbrev cX1_hostAt : ByteArray := prog_3_method_16_code
def yX1_hostAt : MethodName := ⟨RX1, "hostAt", "(II)I"⟩
abbrev cX1_clear : ByteArray := prog_3_method_17_code
def yX1_clear : MethodName := ⟨RX1, "clear", "(II)V"⟩
abbrev cX1_rowOf : ByteArray := prog_3_method_18_code
def yX1_rowOf : MethodName := ⟨RX1, "rowOf", "(II)LRuleChangeDesk$Row;"⟩
abbrev cX1_ruleCount : ByteArray := prog_3_method_19_code
def yX1_ruleCount : MethodName := ⟨RX1, "ruleCount", "()I"⟩
abbrev cX1_unlike : ByteArray := prog_3_method_20_code
def yX1_unlike : MethodName := ⟨RX1, "unlike", "()I"⟩
abbrev cX1_classOf : ByteArray := prog_3_method_21_code
def yX1_classOf : MethodName := ⟨RX1, "classOf", "(I)I"⟩
abbrev cX1_classCount : ByteArray := prog_3_method_22_code
def yX1_classCount : MethodName := ⟨RX1, "classCount", "()I"⟩
abbrev cX1_findClasses : ByteArray := prog_3_method_23_code
def yX1_findClasses : MethodName := ⟨RX1, "findClasses", "()V"⟩
abbrev cX1_leastAlike : ByteArray := prog_3_method_24_code
def yX1_leastAlike : MethodName := ⟨RX1, "leastAlike", "(I)I"⟩
abbrev cX1_isSeparated : ByteArray := prog_3_method_25_code
def yX1_isSeparated : MethodName := ⟨RX1, "isSeparated", "(II)Z"⟩
abbrev cX1_trace : ByteArray := prog_3_method_26_code
def yX1_trace : MethodName := ⟨RX1, "trace", "(LRuleChangeDesk$Way;III)V"⟩
abbrev cX1_whereTo : ByteArray := prog_3_method_27_code
def yX1_whereTo : MethodName := ⟨RX1, "whereTo", "(III)I"⟩
def RX2 : String := "RuleChangeDesk$Packet"
def TX2 : u_T := fun k => match k with
  | 0 => ("RuleChangeDesk$Packet", "way", "LRuleChangeDesk$Way;", true)
  | 1 => ("RuleChangeDesk$Packet", "host", "I", false)
  | _ => ("RuleChangeDesk$Packet", "mark", "I", false)
def tyX2 : Nat → FieldType := fun k => match k with
  | 0 => .object "RuleChangeDesk$Way"
  | 1 => .int
  | _ => .int
theorem nmX2 : ∀ a, a < 3 → ∀ b, b < 3 → a ≠ b → (TX2 a).2.1 ≠ (TX2 b).2.1 := by decide +kernel
theorem tyX2_ok : ∀ k, k < 3 → parseFieldDescriptor (TX2 k).2.2.1 = some (tyX2 k) := by decide +kernel
abbrev cX2_init : ByteArray := prog_4_method_1_code
def yX2_init : MethodName := ⟨RX2, "<init>", "()V"⟩
abbrev cX2_putInAt : ByteArray := prog_4_method_2_code
def yX2_putInAt : MethodName := ⟨RX2, "putInAt", "(III)V"⟩
abbrev cX2_isUnderWay : ByteArray := prog_4_method_3_code
def yX2_isUnderWay : MethodName := ⟨RX2, "isUnderWay", "()Z"⟩
abbrev cX2_place : ByteArray := prog_4_method_4_code
def yX2_place : MethodName := ⟨RX2, "place", "()I"⟩
abbrev cX2_end : ByteArray := prog_4_method_5_code
def yX2_end : MethodName := ⟨RX2, "end", "()I"⟩
abbrev cX2_tell : ByteArray := prog_4_method_6_code
def yX2_tell : MethodName := ⟨RX2, "tell", "(I)I"⟩
def RX3 : String := "RuleChangeDesk$Plan"
def TX3 : u_T := fun k => match k with
  | 0 => ("RuleChangeDesk$Plan", "sets", "[I", true)
  | _ => ("RuleChangeDesk$Plan", "size", "I", false)
def tyX3 : Nat → FieldType := fun k => match k with
  | 0 => .array .int
  | _ => .int
theorem nmX3 : ∀ a, a < 2 → ∀ b, b < 2 → a ≠ b → (TX3 a).2.1 ≠ (TX3 b).2.1 := by decide +kernel
theorem tyX3_ok : ∀ k, k < 2 → parseFieldDescriptor (TX3 k).2.2.1 = some (tyX3 k) := by decide +kernel
abbrev cX3_init : ByteArray := prog_5_method_1_code
def yX3_init : MethodName := ⟨RX3, "<init>", "()V"⟩
abbrev cX3_clear : ByteArray := prog_5_method_2_code
def yX3_clear : MethodName := ⟨RX3, "clear", "()V"⟩
abbrev cX3_add : ByteArray := prog_5_method_3_code
def yX3_add : MethodName := ⟨RX3, "add", "(I)V"⟩
abbrev cX3_size : ByteArray := prog_5_method_4_code
def yX3_size : MethodName := ⟨RX3, "size", "()I"⟩
abbrev cX3_has : ByteArray := prog_5_method_5_code
def yX3_has : MethodName := ⟨RX3, "has", "(I)Z"⟩
abbrev cX3_get : ByteArray := prog_5_method_6_code
def yX3_get : MethodName := ⟨RX3, "get", "(I)I"⟩
abbrev cX3_members : ByteArray := prog_5_method_7_code
def yX3_members : MethodName := ⟨RX3, "members", "()I"⟩
abbrev cX3_membersAhead : ByteArray := prog_5_method_8_code
def yX3_membersAhead : MethodName := ⟨RX3, "membersAhead", "(I)I"⟩
def RX4 : String := "RuleChangeDesk$Planner"
def TX4 : u_T := fun k => match k with
  | 0 => ("RuleChangeDesk$Planner", "net", "LRuleChangeDesk$Net;", true)
  | 1 => ("RuleChangeDesk$Planner", "judge", "LRuleChangeDesk$Judge;", true)
  | 2 => ("RuleChangeDesk$Planner", "fewest", "[I", true)
  | _ => ("RuleChangeDesk$Planner", "orderings", "[I", true)
def tyX4 : Nat → FieldType := fun k => match k with
  | 0 => .object "RuleChangeDesk$Net"
  | 1 => .object "RuleChangeDesk$Judge"
  | 2 => .array .int
  | _ => .array .int
theorem nmX4 : ∀ a, a < 4 → ∀ b, b < 4 → a ≠ b → (TX4 a).2.1 ≠ (TX4 b).2.1 := by decide +kernel
theorem tyX4_ok : ∀ k, k < 4 → parseFieldDescriptor (TX4 k).2.2.1 = some (tyX4 k) := by decide +kernel
abbrev cX4_init : ByteArray := prog_6_method_1_code
def yX4_init : MethodName := ⟨RX4, "<init>", "(LRuleChangeDesk$Net;LRuleChangeDesk$Judge;)V"⟩
abbrev cX4_countGood : ByteArray := prog_6_method_2_code
def yX4_countGood : MethodName := ⟨RX4, "countGood", "()I"⟩
abbrev cX4_whyNotTaken : ByteArray := prog_6_method_3_code
def yX4_whyNotTaken : MethodName := ⟨RX4, "whyNotTaken", "(II)I"⟩
abbrev cX4_makeLeast : ByteArray := prog_6_method_4_code
def yX4_makeLeast : MethodName := ⟨RX4, "makeLeast", "(LRuleChangeDesk$Plan;)Z"⟩
abbrev cX4_countOrders : ByteArray := prog_6_method_5_code
def yX4_countOrders : MethodName := ⟨RX4, "countOrders", "()I"⟩
abbrev cX4_makeOrder : ByteArray := prog_6_method_6_code
def yX4_makeOrder : MethodName := ⟨RX4, "makeOrder", "(LRuleChangeDesk$Plan;I)Z"⟩
abbrev cX4_findOrderings : ByteArray := prog_6_method_7_code
def yX4_findOrderings : MethodName := ⟨RX4, "findOrderings", "(I)I"⟩
abbrev cX4_leastNotGood : ByteArray := prog_6_method_8_code
def yX4_leastNotGood : MethodName := ⟨RX4, "leastNotGood", "(II)I"⟩
abbrev cX4_fewestFrom : ByteArray := prog_6_method_9_code
def yX4_fewestFrom : MethodName := ⟨RX4, "fewestFrom", "(II)I"⟩
abbrev cX4_leastRound : ByteArray := prog_6_method_10_code
def yX4_leastRound : MethodName := ⟨RX4, "leastRound", "(II)I"⟩
abbrev cX4_orderingsFrom : ByteArray := prog_6_method_11_code
def yX4_orderingsFrom : MethodName := ⟨RX4, "orderingsFrom", "(II)I"⟩
abbrev cX4_orderingsBy : ByteArray := prog_6_method_12_code
def yX4_orderingsBy : MethodName := ⟨RX4, "orderingsBy", "(III)I"⟩
def RX5 : String := "RuleChangeDesk$Row"
def TX5 : u_T := fun k => match k with
  | 0 => ("RuleChangeDesk$Row", "values", "[I", true)
  | 1 => ("RuleChangeDesk$Row", "masks", "[I", true)
  | 2 => ("RuleChangeDesk$Row", "ranks", "[I", true)
  | 3 => ("RuleChangeDesk$Row", "acts", "[I", true)
  | 4 => ("RuleChangeDesk$Row", "actOfMark", "[I", true)
  | _ => ("RuleChangeDesk$Row", "size", "I", false)
def tyX5 : Nat → FieldType := fun k => match k with
  | 0 => .array .int
  | 1 => .array .int
  | 2 => .array .int
  | 3 => .array .int
  | 4 => .array .int
  | _ => .int
theorem nmX5 : ∀ a, a < 6 → ∀ b, b < 6 → a ≠ b → (TX5 a).2.1 ≠ (TX5 b).2.1 := by decide +kernel
theorem tyX5_ok : ∀ k, k < 6 → parseFieldDescriptor (TX5 k).2.2.1 = some (tyX5 k) := by decide +kernel
abbrev cX5_init : ByteArray := prog_7_method_1_code
def yX5_init : MethodName := ⟨RX5, "<init>", "()V"⟩
abbrev cX5_size : ByteArray := prog_7_method_2_code
def yX5_size : MethodName := ⟨RX5, "size", "()I"⟩
abbrev cX5_clear : ByteArray := prog_7_method_3_code
def yX5_clear : MethodName := ⟨RX5, "clear", "()V"⟩
abbrev cX5_add : ByteArray := prog_7_method_4_code
def yX5_add : MethodName := ⟨RX5, "add", "(IIII)V"⟩
abbrev cX5_remove : ByteArray := prog_7_method_5_code
def yX5_remove : MethodName := ⟨RX5, "remove", "(I)V"⟩
abbrev cX5_becomeLike : ByteArray := prog_7_method_6_code
def yX5_becomeLike : MethodName := ⟨RX5, "becomeLike", "(LRuleChangeDesk$Row;)V"⟩
abbrev cX5_isLike : ByteArray := prog_7_method_7_code
def yX5_isLike : MethodName := ⟨RX5, "isLike", "(LRuleChangeDesk$Row;)Z"⟩
abbrev cX5_separates : ByteArray := prog_7_method_8_code
def yX5_separates : MethodName := ⟨RX5, "separates", "(II)Z"⟩
abbrev cX5_put : ByteArray := prog_7_method_9_code
def yX5_put : MethodName := ⟨RX5, "put", "(IIIII)V"⟩
abbrev cX5_findActs : ByteArray := prog_7_method_10_code
def yX5_findActs : MethodName := ⟨RX5, "findActs", "()V"⟩
def RX6 : String := "RuleChangeDesk$Run"
def TX6 : u_T := fun k => match k with
  | 0 => ("RuleChangeDesk$Run", "net", "LRuleChangeDesk$Net;", true)
  | 1 => ("RuleChangeDesk$Run", "judge", "LRuleChangeDesk$Judge;", true)
  | 2 => ("RuleChangeDesk$Run", "plan", "LRuleChangeDesk$Plan;", true)
  | 3 => ("RuleChangeDesk$Run", "packets", "[LRuleChangeDesk$Packet;", true)
  | 4 => ("RuleChangeDesk$Run", "live", "Z", false)
  | 5 => ("RuleChangeDesk$Run", "atHand", "I", false)
  | 6 => ("RuleChangeDesk$Run", "changed", "I", false)
  | 7 => ("RuleChangeDesk$Run", "count", "I", false)
  | 8 => ("RuleChangeDesk$Run", "underWay", "I", false)
  | _ => ("RuleChangeDesk$Run", "broken", "I", false)
def tyX6 : Nat → FieldType := fun k => match k with
  | 0 => .object "RuleChangeDesk$Net"
  | 1 => .object "RuleChangeDesk$Judge"
  | 2 => .object "RuleChangeDesk$Plan"
  | 3 => .array (.object "RuleChangeDesk$Packet")
  | 4 => .boolean
  | 5 => .int
  | 6 => .int
  | 7 => .int
  | 8 => .int
  | _ => .int
theorem nmX6 : ∀ a, a < 10 → ∀ b, b < 10 → a ≠ b → (TX6 a).2.1 ≠ (TX6 b).2.1 := by decide +kernel
theorem tyX6_ok : ∀ k, k < 10 → parseFieldDescriptor (TX6 k).2.2.1 = some (tyX6 k) := by decide +kernel
abbrev cX6_init : ByteArray := prog_8_method_1_code
def yX6_init : MethodName := ⟨RX6, "<init>", "(LRuleChangeDesk$Net;LRuleChangeDesk$Judge;LRuleChangeDesk$Plan;)V"⟩
abbrev cX6_start : ByteArray := prog_8_method_2_code
def yX6_start : MethodName := ⟨RX6, "start", "()V"⟩
abbrev cX6_stop : ByteArray := prog_8_method_3_code
def yX6_stop : MethodName := ⟨RX6, "stop", "()V"⟩
abbrev cX6_isLive : ByteArray := prog_8_method_4_code
def yX6_isLive : MethodName := ⟨RX6, "isLive", "()Z"⟩
abbrev cX6_packetCount : ByteArray := prog_8_method_5_code
def yX6_packetCount : MethodName := ⟨RX6, "packetCount", "()I"⟩
abbrev cX6_packetOf : ByteArray := prog_8_method_6_code
def yX6_packetOf : MethodName := ⟨RX6, "packetOf", "(I)LRuleChangeDesk$Packet;"⟩
abbrev cX6_putIn : ByteArray := prog_8_method_7_code
def yX6_putIn : MethodName := ⟨RX6, "putIn", "(II)I"⟩
abbrev cX6_moveOn : ByteArray := prog_8_method_8_code
def yX6_moveOn : MethodName := ⟨RX6, "moveOn", "(LRuleChangeDesk$Packet;)V"⟩
abbrev cX6_takeNew : ByteArray := prog_8_method_9_code
def yX6_takeNew : MethodName := ⟨RX6, "takeNew", "(I)I"⟩
abbrev cX6_nextRound : ByteArray := prog_8_method_10_code
def yX6_nextRound : MethodName := ⟨RX6, "nextRound", "()I"⟩
abbrev cX6_tell : ByteArray := prog_8_method_11_code
def yX6_tell : MethodName := ⟨RX6, "tell", "(I)I"⟩
abbrev cX6_left : ByteArray := prog_8_method_12_code
def yX6_left : MethodName := ⟨RX6, "left", "()I"⟩
def RX7 : String := "RuleChangeDesk$Want"
def TX7 : u_T := fun k => match k with
  | 0 => ("RuleChangeDesk$Want", "kind", "I", true)
  | 1 => ("RuleChangeDesk$Want", "value", "I", true)
  | 2 => ("RuleChangeDesk$Want", "bits", "I", true)
  | 3 => ("RuleChangeDesk$Want", "a", "I", true)
  | 4 => ("RuleChangeDesk$Want", "b", "I", true)
  | _ => ("RuleChangeDesk$Want", "s", "I", true)
def tyX7 : Nat → FieldType := fun k => match k with
  | 0 => .int
  | 1 => .int
  | 2 => .int
  | 3 => .int
  | 4 => .int
  | _ => .int
theorem nmX7 : ∀ a, a < 6 → ∀ b, b < 6 → a ≠ b → (TX7 a).2.1 ≠ (TX7 b).2.1 := by decide +kernel
theorem tyX7_ok : ∀ k, k < 6 → parseFieldDescriptor (TX7 k).2.2.1 = some (tyX7 k) := by decide +kernel
abbrev cX7_init : ByteArray := prog_9_method_1_code
def yX7_init : MethodName := ⟨RX7, "<init>", "(IIIIII)V"⟩
abbrev cX7_needsHost : ByteArray := prog_9_method_2_code
def yX7_needsHost : MethodName := ⟨RX7, "needsHost", "(I)Z"⟩
abbrev cX7_hasMark : ByteArray := prog_9_method_3_code
def yX7_hasMark : MethodName := ⟨RX7, "hasMark", "(I)Z"⟩
abbrev cX7_isMet : ByteArray := prog_9_method_4_code
def yX7_isMet : MethodName := ⟨RX7, "isMet", "(LRuleChangeDesk$Way;LRuleChangeDesk$Way;LRuleChangeDesk$Way;)Z"⟩
def RX8 : String := "RuleChangeDesk$Way"
def TX8 : u_T := fun k => match k with
  | 0 => ("RuleChangeDesk$Way", "stops", "[I", true)
  | 1 => ("RuleChangeDesk$Way", "length", "I", false)
  | 2 => ("RuleChangeDesk$Way", "passed", "I", false)
  | _ => ("RuleChangeDesk$Way", "end", "I", false)
def tyX8 : Nat → FieldType := fun k => match k with
  | 0 => .array .int
  | 1 => .int
  | 2 => .int
  | _ => .int
theorem nmX8 : ∀ a, a < 4 → ∀ b, b < 4 → a ≠ b → (TX8 a).2.1 ≠ (TX8 b).2.1 := by decide +kernel
theorem tyX8_ok : ∀ k, k < 4 → parseFieldDescriptor (TX8 k).2.2.1 = some (tyX8 k) := by decide +kernel
abbrev cX8_init : ByteArray := prog_10_method_1_code
def yX8_init : MethodName := ⟨RX8, "<init>", "()V"⟩
abbrev cX8_startAt : ByteArray := prog_10_method_2_code
def yX8_startAt : MethodName := ⟨RX8, "startAt", "(I)V"⟩
abbrev cX8_goOn : ByteArray := prog_10_method_3_code
def yX8_goOn : MethodName := ⟨RX8, "goOn", "(I)V"⟩
abbrev cX8_length : ByteArray := prog_10_method_4_code
def yX8_length : MethodName := ⟨RX8, "length", "()I"⟩
abbrev cX8_end : ByteArray := prog_10_method_5_code
def yX8_end : MethodName := ⟨RX8, "end", "()I"⟩
abbrev cX8_stop : ByteArray := prog_10_method_6_code
def yX8_stop : MethodName := ⟨RX8, "stop", "(I)I"⟩
abbrev cX8_last : ByteArray := prog_10_method_7_code
def yX8_last : MethodName := ⟨RX8, "last", "()I"⟩
abbrev cX8_passes : ByteArray := prog_10_method_8_code
def yX8_passes : MethodName := ⟨RX8, "passes", "(I)Z"⟩
abbrev cX8_isLike : ByteArray := prog_10_method_9_code
def yX8_isLike : MethodName := ⟨RX8, "isLike", "(LRuleChangeDesk$Way;)Z"⟩
def RX9 : String := "RuleChangeDesk"
def TX9 : u_T := fun k => match k with
  | 0 => ("RuleChangeDesk", "switches", "LRuleChangeDesk$Net;", true)
  | 1 => ("RuleChangeDesk", "judge", "LRuleChangeDesk$Judge;", true)
  | 2 => ("RuleChangeDesk", "rounds", "LRuleChangeDesk$Plan;", true)
  | 3 => ("RuleChangeDesk", "planner", "LRuleChangeDesk$Planner;", true)
  | 4 => ("RuleChangeDesk", "current", "LRuleChangeDesk$Run;", true)
  | _ => ("RuleChangeDesk", "latest", "LRuleChangeDesk$Way;", true)
def tyX9 : Nat → FieldType := fun k => match k with
  | 0 => .object "RuleChangeDesk$Net"
  | 1 => .object "RuleChangeDesk$Judge"
  | 2 => .object "RuleChangeDesk$Plan"
  | 3 => .object "RuleChangeDesk$Planner"
  | 4 => .object "RuleChangeDesk$Run"
  | _ => .object "RuleChangeDesk$Way"
theorem nmX9 : ∀ a, a < 6 → ∀ b, b < 6 → a ≠ b → (TX9 a).2.1 ≠ (TX9 b).2.1 := by decide +kernel
theorem tyX9_ok : ∀ k, k < 6 → parseFieldDescriptor (TX9 k).2.2.1 = some (tyX9 k) := by decide +kernel
abbrev cX9_init : ByteArray := prog_1_method_1_code
def yX9_init : MethodName := ⟨RX9, "<init>", "()V"⟩
abbrev cX9_net : ByteArray := prog_1_method_2_code
def yX9_net : MethodName := ⟨RX9, "net", "(I)Z"⟩
abbrev cX9_link : ByteArray := prog_1_method_3_code
def yX9_link : MethodName := ⟨RX9, "link", "(IIII)Z"⟩
abbrev cX9_host : ByteArray := prog_1_method_4_code
def yX9_host : MethodName := ⟨RX9, "host", "(II)I"⟩
abbrev cX9_unplug : ByteArray := prog_1_method_5_code
def yX9_unplug : MethodName := ⟨RX9, "unplug", "(II)Z"⟩
abbrev cX9_rule : ByteArray := prog_1_method_6_code
def yX9_rule : MethodName := ⟨RX9, "rule", "(IIIIII)I"⟩
abbrev cX9_strike : ByteArray := prog_1_method_7_code
def yX9_strike : MethodName := ⟨RX9, "strike", "(III)I"⟩
abbrev cX9_copy : ByteArray := prog_1_method_8_code
def yX9_copy : MethodName := ⟨RX9, "copy", "(IZ)I"⟩
abbrev cX9_want : ByteArray := prog_1_method_9_code
def yX9_want : MethodName := ⟨RX9, "want", "(IIIIII)I"⟩
abbrev cX9_unwant : ByteArray := prog_1_method_10_code
def yX9_unwant : MethodName := ⟨RX9, "unwant", "(I)I"⟩
abbrev cX9_look : ByteArray := prog_1_method_11_code
def yX9_look : MethodName := ⟨RX9, "look", "(I)I"⟩
abbrev cX9_ofClass : ByteArray := prog_1_method_12_code
def yX9_ofClass : MethodName := ⟨RX9, "ofClass", "(I)I"⟩
abbrev cX9_way : ByteArray := prog_1_method_13_code
def yX9_way : MethodName := ⟨RX9, "way", "(III)I"⟩
abbrev cX9_on : ByteArray := prog_1_method_14_code
def yX9_on : MethodName := ⟨RX9, "on", "(I)I"⟩
abbrev cX9_holds : ByteArray := prog_1_method_15_code
def yX9_holds : MethodName := ⟨RX9, "holds", "(II)I"⟩
abbrev cX9_kept : ByteArray := prog_1_method_16_code
def yX9_kept : MethodName := ⟨RX9, "kept", "(I)I"⟩
abbrev cX9_why : ByteArray := prog_1_method_17_code
def yX9_why : MethodName := ⟨RX9, "why", "(II)I"⟩
abbrev cX9_least : ByteArray := prog_1_method_18_code
def yX9_least : MethodName := ⟨RX9, "least", "()I"⟩
abbrev cX9_orders : ByteArray := prog_1_method_19_code
def yX9_orders : MethodName := ⟨RX9, "orders", "()I"⟩
abbrev cX9_order : ByteArray := prog_1_method_20_code
def yX9_order : MethodName := ⟨RX9, "order", "(I)Z"⟩
abbrev cX9_round : ByteArray := prog_1_method_21_code
def yX9_round : MethodName := ⟨RX9, "round", "(I)I"⟩
abbrev cX9_empty : ByteArray := prog_1_method_22_code
def yX9_empty : MethodName := ⟨RX9, "empty", "()V"⟩
abbrev cX9_plan : ByteArray := prog_1_method_23_code
def yX9_plan : MethodName := ⟨RX9, "plan", "(I)I"⟩
abbrev cX9_mid : ByteArray := prog_1_method_24_code
def yX9_mid : MethodName := ⟨RX9, "mid", "(I)I"⟩
abbrev cX9_begin : ByteArray := prog_1_method_25_code
def yX9_begin : MethodName := ⟨RX9, "begin", "()Z"⟩
abbrev cX9_send : ByteArray := prog_1_method_26_code
def yX9_send : MethodName := ⟨RX9, "send", "(II)I"⟩
abbrev cX9_hop : ByteArray := prog_1_method_27_code
def yX9_hop : MethodName := ⟨RX9, "hop", "(I)I"⟩
abbrev cX9_change : ByteArray := prog_1_method_28_code
def yX9_change : MethodName := ⟨RX9, "change", "(I)I"⟩
abbrev cX9_next : ByteArray := prog_1_method_29_code
def yX9_next : MethodName := ⟨RX9, "next", "()I"⟩
abbrev cX9_run : ByteArray := prog_1_method_30_code
def yX9_run : MethodName := ⟨RX9, "run", "(I)I"⟩
abbrev cX9_packet : ByteArray := prog_1_method_31_code
def yX9_packet : MethodName := ⟨RX9, "packet", "(II)I"⟩
abbrev cX9_startAfresh : ByteArray := prog_1_method_32_code
def yX9_startAfresh : MethodName := ⟨RX9, "startAfresh", "()V"⟩
abbrev cX9_isMark : ByteArray := prog_1_method_33_code
def yX9_isMark : MethodName := ⟨RX9, "isMark", "(I)Z"⟩
abbrev cX9_isSpan : ByteArray := prog_1_method_34_code
def yX9_isSpan : MethodName := ⟨RX9, "isSpan", "(II)Z"⟩
abbrev cX9_spanHas : ByteArray := prog_1_method_35_code
def yX9_spanHas : MethodName := ⟨RX9, "spanHas", "(III)Z"⟩
abbrev cX9_hasTarget : ByteArray := prog_1_method_36_code
def yX9_hasTarget : MethodName := ⟨RX9, "hasTarget", "(I)Z"⟩
abbrev cX9_isWithin : ByteArray := prog_1_method_37_code
def yX9_isWithin : MethodName := ⟨RX9, "isWithin", "(II)Z"⟩
def RX10 : String := "RuleChangeDeskModel"
def TX10 : u_T := fun k => match k with
  | 0 => ("RuleChangeDeskModel", "switches", "I", false)
  | 1 => ("RuleChangeDeskModel", "hosts", "I", false)
  | 2 => ("RuleChangeDeskModel", "wants", "I", false)
  | 3 => ("RuleChangeDeskModel", "there", "[I", true)
  | 4 => ("RuleChangeDeskModel", "other", "[I", true)
  | 5 => ("RuleChangeDeskModel", "hostAt", "[I", true)
  | 6 => ("RuleChangeDeskModel", "ruleMany", "[I", true)
  | 7 => ("RuleChangeDeskModel", "rules", "[I", true)
  | 8 => ("RuleChangeDeskModel", "want", "[I", true)
  | 9 => ("RuleChangeDeskModel", "path", "[I", true)
  | 10 => ("RuleChangeDeskModel", "pathOld", "[I", true)
  | 11 => ("RuleChangeDeskModel", "pathNew", "[I", true)
  | 12 => ("RuleChangeDeskModel", "told", "[I", true)
  | 13 => ("RuleChangeDeskModel", "long0", "I", false)
  | 14 => ("RuleChangeDeskModel", "end0", "I", false)
  | 15 => ("RuleChangeDeskModel", "longOld", "I", false)
  | 16 => ("RuleChangeDeskModel", "endOld", "I", false)
  | 17 => ("RuleChangeDeskModel", "longNew", "I", false)
  | 18 => ("RuleChangeDeskModel", "endNew", "I", false)
  | 19 => ("RuleChangeDeskModel", "toldLong", "I", false)
  | 20 => ("RuleChangeDeskModel", "toldEnd", "I", false)
  | 21 => ("RuleChangeDeskModel", "knows", "Z", false)
  | 22 => ("RuleChangeDeskModel", "good", "[Z", true)
  | 23 => ("RuleChangeDeskModel", "classes", "[I", true)
  | 24 => ("RuleChangeDeskModel", "rounds", "I", false)
  | 25 => ("RuleChangeDeskModel", "plan", "[I", true)
  | 26 => ("RuleChangeDeskModel", "fewest", "[I", true)
  | 27 => ("RuleChangeDeskModel", "ways", "[I", true)
  | 28 => ("RuleChangeDeskModel", "runs", "Z", false)
  | 29 => ("RuleChangeDeskModel", "atHand", "I", false)
  | 30 => ("RuleChangeDeskModel", "done", "I", false)
  | 31 => ("RuleChangeDeskModel", "packets", "I", false)
  | 32 => ("RuleChangeDeskModel", "broken", "I", false)
  | 33 => ("RuleChangeDeskModel", "pHost", "[I", true)
  | 34 => ("RuleChangeDeskModel", "pMark", "[I", true)
  | 35 => ("RuleChangeDeskModel", "pAt", "[I", true)
  | 36 => ("RuleChangeDeskModel", "pEnd", "[I", true)
  | 37 => ("RuleChangeDeskModel", "pLong", "[I", true)
  | _ => ("RuleChangeDeskModel", "pPath", "[I", true)
def tyX10 : Nat → FieldType := fun k => match k with
  | 0 => .int
  | 1 => .int
  | 2 => .int
  | 3 => .array .int
  | 4 => .array .int
  | 5 => .array .int
  | 6 => .array .int
  | 7 => .array .int
  | 8 => .array .int
  | 9 => .array .int
  | 10 => .array .int
  | 11 => .array .int
  | 12 => .array .int
  | 13 => .int
  | 14 => .int
  | 15 => .int
  | 16 => .int
  | 17 => .int
  | 18 => .int
  | 19 => .int
  | 20 => .int
  | 21 => .boolean
  | 22 => .array .boolean
  | 23 => .array .int
  | 24 => .int
  | 25 => .array .int
  | 26 => .array .int
  | 27 => .array .int
  | 28 => .boolean
  | 29 => .int
  | 30 => .int
  | 31 => .int
  | 32 => .int
  | 33 => .array .int
  | 34 => .array .int
  | 35 => .array .int
  | 36 => .array .int
  | 37 => .array .int
  | _ => .array .int
theorem nmX10 : ∀ a, a < 39 → ∀ b, b < 39 → a ≠ b → (TX10 a).2.1 ≠ (TX10 b).2.1 := by decide +kernel
theorem tyX10_ok : ∀ k, k < 39 → parseFieldDescriptor (TX10 k).2.2.1 = some (tyX10 k) := by decide +kernel
abbrev cX10_init : ByteArray := prog_12_method_1_code
def yX10_init : MethodName := ⟨RX10, "<init>", "()V"⟩
abbrev cX10_isIn : ByteArray := prog_12_method_2_code
def yX10_isIn : MethodName := ⟨RX10, "isIn", "(III)Z"⟩
abbrev cX10_clear : ByteArray := prog_12_method_3_code
def yX10_clear : MethodName := ⟨RX10, "clear", "(I)V"⟩
abbrev cX10_isPort : ByteArray := prog_12_method_4_code
def yX10_isPort : MethodName := ⟨RX10, "isPort", "(II)Z"⟩
abbrev cX10_isSpan : ByteArray := prog_12_method_5_code
def yX10_isSpan : MethodName := ⟨RX10, "isSpan", "(II)Z"⟩
abbrev cX10_net : ByteArray := prog_12_method_6_code
def yX10_net : MethodName := ⟨RX10, "net", "(I)Z"⟩
abbrev cX10_link : ByteArray := prog_12_method_7_code
def yX10_link : MethodName := ⟨RX10, "link", "(IIII)Z"⟩
abbrev cX10_host : ByteArray := prog_12_method_8_code
def yX10_host : MethodName := ⟨RX10, "host", "(II)I"⟩
abbrev cX10_isOf : ByteArray := prog_12_method_9_code
def yX10_isOf : MethodName := ⟨RX10, "isOf", "(II)Z"⟩
abbrev cX10_hasGoal : ByteArray := prog_12_method_10_code
def yX10_hasGoal : MethodName := ⟨RX10, "hasGoal", "(I)Z"⟩
abbrev cX10_unplug : ByteArray := prog_12_method_11_code
def yX10_unplug : MethodName := ⟨RX10, "unplug", "(II)Z"⟩
abbrev cX10_ruleAt : ByteArray := prog_12_method_12_code
def yX10_ruleAt : MethodName := ⟨RX10, "ruleAt", "(III)I"⟩
abbrev cX10_rule : ByteArray := prog_12_method_13_code
def yX10_rule : MethodName := ⟨RX10, "rule", "(IIIIII)I"⟩
abbrev cX10_strike : ByteArray := prog_12_method_14_code
def yX10_strike : MethodName := ⟨RX10, "strike", "(III)I"⟩
abbrev cX10_copy : ByteArray := prog_12_method_15_code
def yX10_copy : MethodName := ⟨RX10, "copy", "(IZ)I"⟩
abbrev cX10_want : ByteArray := prog_12_method_16_code
def yX10_want : MethodName := ⟨RX10, "want", "(IIIIII)I"⟩
abbrev cX10_unwant : ByteArray := prog_12_method_17_code
def yX10_unwant : MethodName := ⟨RX10, "unwant", "(I)I"⟩
abbrev cX10_isOfSpan : ByteArray := prog_12_method_18_code
def yX10_isOfSpan : MethodName := ⟨RX10, "isOfSpan", "(III)Z"⟩
abbrev cX10_actOf : ByteArray := prog_12_method_19_code
def yX10_actOf : MethodName := ⟨RX10, "actOf", "(III)I"⟩
abbrev cX10_goes : ByteArray := prog_12_method_20_code
def yX10_goes : MethodName := ⟨RX10, "goes", "(III)I"⟩
abbrev cX10_walks : ByteArray := prog_12_method_21_code
def yX10_walks : MethodName := ⟨RX10, "walks", "(III)V"⟩
abbrev cX10_all : ByteArray := prog_12_method_22_code
def yX10_all : MethodName := ⟨RX10, "all", "()I"⟩
abbrev cX10_isMixture : ByteArray := prog_12_method_23_code
def yX10_isMixture : MethodName := ⟨RX10, "isMixture", "(I)Z"⟩
abbrev cX10_way : ByteArray := prog_12_method_24_code
def yX10_way : MethodName := ⟨RX10, "way", "(III)I"⟩
abbrev cX10_on : ByteArray := prog_12_method_25_code
def yX10_on : MethodName := ⟨RX10, "on", "(I)I"⟩
abbrev cX10_isKept : ByteArray := prog_12_method_26_code
def yX10_isKept : MethodName := ⟨RX10, "isKept", "(II)Z"⟩
abbrev cX10_isWhole : ByteArray := prog_12_method_27_code
def yX10_isWhole : MethodName := ⟨RX10, "isWhole", "(II)Z"⟩
abbrev cX10_breaks : ByteArray := prog_12_method_28_code
def yX10_breaks : MethodName := ⟨RX10, "breaks", "(II)I"⟩
abbrev cX10_isKeptOne : ByteArray := prog_12_method_29_code
def yX10_isKeptOne : MethodName := ⟨RX10, "isKeptOne", "(I)Z"⟩
abbrev cX10_holds : ByteArray := prog_12_method_30_code
def yX10_holds : MethodName := ⟨RX10, "holds", "(II)I"⟩
abbrev cX10_kept : ByteArray := prog_12_method_31_code
def yX10_kept : MethodName := ⟨RX10, "kept", "(I)I"⟩
abbrev cX10_why : ByteArray := prog_12_method_32_code
def yX10_why : MethodName := ⟨RX10, "why", "(II)I"⟩
abbrev cX10_changed : ByteArray := prog_12_method_33_code
def yX10_changed : MethodName := ⟨RX10, "changed", "()V"⟩
abbrev cX10_learn : ByteArray := prog_12_method_34_code
def yX10_learn : MethodName := ⟨RX10, "learn", "()V"⟩
abbrev cX10_unlike : ByteArray := prog_12_method_35_code
def yX10_unlike : MethodName := ⟨RX10, "unlike", "()I"⟩
abbrev cX10_classMany : ByteArray := prog_12_method_36_code
def yX10_classMany : MethodName := ⟨RX10, "classMany", "()I"⟩
abbrev cX10_areAlike : ByteArray := prog_12_method_37_code
def yX10_areAlike : MethodName := ⟨RX10, "areAlike", "(II)Z"⟩
abbrev cX10_ofClass : ByteArray := prog_12_method_38_code
def yX10_ofClass : MethodName := ⟨RX10, "ofClass", "(I)I"⟩
abbrev cX10_look : ByteArray := prog_12_method_39_code
def yX10_look : MethodName := ⟨RX10, "look", "(I)I"⟩
abbrev cX10_planned : ByteArray := prog_12_method_40_code
def yX10_planned : MethodName := ⟨RX10, "planned", "(I)I"⟩
abbrev cX10_against : ByteArray := prog_12_method_41_code
def yX10_against : MethodName := ⟨RX10, "against", "(II)I"⟩
abbrev cX10_fewest : ByteArray := prog_12_method_42_code
def yX10_fewest : MethodName := ⟨RX10, "fewest", "(I)V"⟩
abbrev cX10_least : ByteArray := prog_12_method_43_code
def yX10_least : MethodName := ⟨RX10, "least", "()I"⟩
abbrev cX10_ways : ByteArray := prog_12_method_44_code
def yX10_ways : MethodName := ⟨RX10, "ways", "(I)V"⟩
abbrev cX10_orders : ByteArray := prog_12_method_45_code
def yX10_orders : MethodName := ⟨RX10, "orders", "()I"⟩
abbrev cX10_order : ByteArray := prog_12_method_46_code
def yX10_order : MethodName := ⟨RX10, "order", "(I)Z"⟩
abbrev cX10_round : ByteArray := prog_12_method_47_code
def yX10_round : MethodName := ⟨RX10, "round", "(I)I"⟩
abbrev cX10_empty : ByteArray := prog_12_method_48_code
def yX10_empty : MethodName := ⟨RX10, "empty", "()V"⟩
abbrev cX10_plan : ByteArray := prog_12_method_49_code
def yX10_plan : MethodName := ⟨RX10, "plan", "(I)I"⟩
abbrev cX10_mid : ByteArray := prog_12_method_50_code
def yX10_mid : MethodName := ⟨RX10, "mid", "(I)I"⟩
abbrev cX10_begin : ByteArray := prog_12_method_51_code
def yX10_begin : MethodName := ⟨RX10, "begin", "()Z"⟩
abbrev cX10_send : ByteArray := prog_12_method_52_code
def yX10_send : MethodName := ⟨RX10, "send", "(II)I"⟩
abbrev cX10_isPacket : ByteArray := prog_12_method_53_code
def yX10_isPacket : MethodName := ⟨RX10, "isPacket", "(I)Z"⟩
abbrev cX10_hop : ByteArray := prog_12_method_54_code
def yX10_hop : MethodName := ⟨RX10, "hop", "(I)I"⟩
abbrev cX10_left : ByteArray := prog_12_method_55_code
def yX10_left : MethodName := ⟨RX10, "left", "()I"⟩
abbrev cX10_change : ByteArray := prog_12_method_56_code
def yX10_change : MethodName := ⟨RX10, "change", "(I)I"⟩
abbrev cX10_underWay : ByteArray := prog_12_method_57_code
def yX10_underWay : MethodName := ⟨RX10, "underWay", "()I"⟩
abbrev cX10_next : ByteArray := prog_12_method_58_code
def yX10_next : MethodName := ⟨RX10, "next", "()I"⟩
abbrev cX10_run : ByteArray := prog_12_method_59_code
def yX10_run : MethodName := ⟨RX10, "run", "(I)I"⟩
abbrev cX10_packet : ByteArray := prog_12_method_60_code
def yX10_packet : MethodName := ⟨RX10, "packet", "(II)I"⟩
def RJ6 : String := "java/lang/Integer"
def TJ6 : u_T := fun k => match k with
  | _ => ("", "", "", false)
def tyJ6 : Nat → FieldType := fun k => match k with
  | _ => .int
theorem nmJ6 : ∀ a, a < 0 → ∀ b, b < 0 → a ≠ b → (TJ6 a).2.1 ≠ (TJ6 b).2.1 := by decide +kernel
theorem tyJ6_ok : ∀ k, k < 0 → parseFieldDescriptor (TJ6 k).2.2.1 = some (tyJ6 k) := by decide +kernel
abbrev cJ6_bitCount_0f7a4 : ByteArray := prog_13_method_49_code
def yJ6_bitCount_0f7a4 : MethodName := ⟨RJ6, "bitCount", "(I)I"⟩
def RJ7 : String := "java/util/Arrays"
def TJ7 : u_T := fun k => match k with
  | _ => ("", "", "", false)
def tyJ7 : Nat → FieldType := fun k => match k with
  | _ => .int
theorem nmJ7 : ∀ a, a < 0 → ∀ b, b < 0 → a ≠ b → (TJ7 a).2.1 ≠ (TJ7 b).2.1 := by decide +kernel
theorem tyJ7_ok : ∀ k, k < 0 → parseFieldDescriptor (TJ7 k).2.2.1 = some (tyJ7 k) := by decide +kernel
abbrev cJ7_fill_53178 : ByteArray := prog_14_method_103_code
def yJ7_fill_53178 : MethodName := ⟨RJ7, "fill", "([II)V"⟩
def RL : String := "RuleChangeDeskLaw"
abbrev cL_law : ByteArray := code
def yL_law : MethodName := ⟨RL, "law", "([I)Z"⟩
abbrev vwCl : List vw_C := [(RX0, TX0, 10), (RX1, TX1, 9), (RX2, TX2, 3), (RX3, TX3, 2), (RX4, TX4, 4), (RX5, TX5, 6), (RX6, TX6, 10), (RX7, TX7, 6), (RX8, TX8, 4), (RX9, TX9, 6), (RX10, TX10, 39)]
end
section
/-! ===== the small machine: words, classes, heaps, worlds ===== -/
def gtb : List Cond := lw_tbl.filter goodWord
theorem gt_mem {w : Cond} (h : w ∈ lw_tbl) (g : goodWord w = true) : w ∈ gtb := List.mem_filter.mpr ⟨h, g⟩
theorem gt_in {ws : List Cond} (h : ∀ w ∈ ws, w ∈ gtb) : GoodIn gtb ws := fun w hw => ⟨h w hw, good_of_word (List.mem_filter.mp (h w hw)).2⟩
theorem gt_all {ws : List Cond} (h : ws.all (fun w => decide (w ∈ lw_tbl) && goodWord w) = true) : ∀ w ∈ ws, w ∈ gtb := by
  intro w hw
  have h1 := List.all_eq_true.mp h w hw
  simp only [Bool.and_eq_true, decide_eq_true_eq] at h1
  exact gt_mem h1.1 h1.2
-- classes by their number
def mm_C : Nat → String | 0 => RX0 | 1 => RX1 | 2 => RX2 | 3 => RX3 | 4 => RX4 | 5 => RX5 | 6 => RX6 | 7 => RX7 | 8 => RX8 | 9 => RX9 | _ => RX10
def mm_T : Nat → u_T | 0 => TX0 | 1 => TX1 | 2 => TX2 | 3 => TX3 | 4 => TX4 | 5 => TX5 | 6 => TX6 | 7 => TX7 | 8 => TX8 | 9 => TX9 | _ => TX10
def mm_ty : Nat → Nat → FieldType | 0 => tyX0 | 1 => tyX1 | 2 => tyX2 | 3 => tyX3 | 4 => tyX4 | 5 => tyX5 | 6 => tyX6 | 7 => tyX7 | 8 => tyX8 | 9 => tyX9 | _ => tyX10
def mm_nf : Nat → Nat | 0 => 10 | 1 => 9 | 2 => 3 | 3 => 2 | 4 => 4 | 5 => 6 | 6 => 10 | 7 => 6 | 8 => 4 | 9 => 6 | _ => 39
def mm_isI : FieldType → Bool | .int => true | .boolean => true | _ => false
def mm_isR : FieldType → Bool | .object _ => true | .array _ => true | _ => false
def mm_ii (ci k : Nat) : Bool := mm_isI (mm_ty ci k)
theorem mm_lt {ci : Nat} (h : ci < 11) : ci = 0 ∨ ci = 1 ∨ ci = 2 ∨ ci = 3 ∨ ci = 4 ∨ ci = 5 ∨ ci = 6 ∨ ci = 7 ∨ ci = 8 ∨ ci = 9 ∨ ci = 10 := by omega
theorem mm_cl {ci : Nat} (h : ci < 11) : vwCl[ci]? = some (mm_C ci, mm_T ci, mm_nf ci) := by
  rcases mm_lt h with rfl | rfl | rfl | rfl | rfl | rfl | rfl | rfl | rfl | rfl | rfl <;> rfl
theorem mm_nm {ci : Nat} (h : ci < 11) : ∀ a, a < mm_nf ci → ∀ b, b < mm_nf ci → a ≠ b → (mm_T ci a).2.1 ≠ (mm_T ci b).2.1 := by
  rcases mm_lt h with rfl | rfl | rfl | rfl | rfl | rfl | rfl | rfl | rfl | rfl | rfl
  · exact nmX0
  · exact nmX1
  · exact nmX2
  · exact nmX3
  · exact nmX4
  · exact nmX5
  · exact nmX6
  · exact nmX7
  · exact nmX8
  · exact nmX9
  · exact nmX10
theorem mm_tyok {ci : Nat} (h : ci < 11) : ∀ k, k < mm_nf ci → parseFieldDescriptor (mm_T ci k).2.2.1 = some (mm_ty ci k) := by
  rcases mm_lt h with rfl | rfl | rfl | rfl | rfl | rfl | rfl | rfl | rfl | rfl | rfl
  · exact tyX0_ok
  · exact tyX1_ok
  · exact tyX2_ok
  · exact tyX3_ok
  · exact tyX4_ok
  · exact tyX5_ok
  · exact tyX6_ok
  · exact tyX7_ok
  · exact tyX8_ok
  · exact tyX9_ok
  · exact tyX10_ok
theorem mm_in0 : ∀ w ∈ u_ws RX0 TX0 10, w ∈ gtb := gt_all (by decide +kernel)
theorem mm_in1 : ∀ w ∈ u_ws RX1 TX1 9, w ∈ gtb := gt_all (by decide +kernel)
theorem mm_in2 : ∀ w ∈ u_ws RX2 TX2 3, w ∈ gtb := gt_all (by decide +kernel)
theorem mm_in3 : ∀ w ∈ u_ws RX3 TX3 2, w ∈ gtb := gt_all (by decide +kernel)
theorem mm_in4 : ∀ w ∈ u_ws RX4 TX4 4, w ∈ gtb := gt_all (by decide +kernel)
theorem mm_in5 : ∀ w ∈ u_ws RX5 TX5 6, w ∈ gtb := gt_all (by decide +kernel)
theorem mm_in6 : ∀ w ∈ u_ws RX6 TX6 10, w ∈ gtb := gt_all (by decide +kernel)
theorem mm_in7 : ∀ w ∈ u_ws RX7 TX7 6, w ∈ gtb := gt_all (by decide +kernel)
theorem mm_in8 : ∀ w ∈ u_ws RX8 TX8 4, w ∈ gtb := gt_all (by decide +kernel)
theorem mm_in9 : ∀ w ∈ u_ws RX9 TX9 6, w ∈ gtb := gt_all (by decide +kernel)
theorem mm_in10 : ∀ w ∈ u_ws RX10 TX10 39, w ∈ gtb := gt_all (by decide +kernel)
theorem mm_ws {ci : Nat} (h : ci < 11) : ∀ w ∈ u_ws (mm_C ci) (mm_T ci) (mm_nf ci), w ∈ gtb := by
  rcases mm_lt h with rfl | rfl | rfl | rfl | rfl | rfl | rfl | rfl | rfl | rfl | rfl
  · exact mm_in0
  · exact mm_in1
  · exact mm_in2
  · exact mm_in3
  · exact mm_in4
  · exact mm_in5
  · exact mm_in6
  · exact mm_in7
  · exact mm_in8
  · exact mm_in9
  · exact mm_in10
theorem mm_tyk {ci : Nat} (h : ci < 11) : ∀ k, k < mm_nf ci → mm_isI (mm_ty ci k) = true ∨ mm_isR (mm_ty ci k) = true := by
  rcases mm_lt h with rfl | rfl | rfl | rfl | rfl | rfl | rfl | rfl | rfl | rfl | rfl <;> decide +kernel
theorem mm_dv {ty : FieldType} (h : mm_isI ty = true ∨ mm_isR ty = true) : defaultValue ty = if mm_isI ty then .int 0 else .null := by
  cases ty <;> first | rfl | (simp [mm_isI, mm_isR] at h)
-- heaps: kind, length, ints, references, cells, slots
abbrev MH : Type := (Nat → Nat) × (Nat → Nat) × (Nat → Nat → Int32) × (Nat → Nat → Option Nat) × Nat × Nat
def mm_K (h : MH) : Nat → Nat := h.1
def mm_L (h : MH) : Nat → Nat := h.2.1
def mm_I (h : MH) : Nat → Nat → Int32 := h.2.2.1
def mm_R (h : MH) : Nat → Nat → Option Nat := h.2.2.2.1
def mm_N (h : MH) : Nat := h.2.2.2.2.1
def mm_S (h : MH) : Nat := h.2.2.2.2.2
def mm_si (h : MH) (a k : Nat) (x : Int32) : MH := (mm_K h, mm_L h, va_up (mm_I h) a (upd (mm_I h a) k x), mm_R h, mm_N h, mm_S h)
def mm_sr (h : MH) (a k : Nat) (x : Option Nat) : MH := (mm_K h, mm_L h, mm_I h, va_up (mm_R h) a (va_up (mm_R h a) k x), mm_N h, mm_S h)
def mm_no (h : MH) (ci : Nat) : MH := (va_up (mm_K h) (mm_N h) ci, mm_L h, va_up (mm_I h) (mm_N h) (fun _ => 0), va_up (mm_R h) (mm_N h) (fun _ => none), mm_N h + 1, mm_S h + mm_nf ci)
def mm_na (h : MH) (kd n : Nat) : MH := (va_up (mm_K h) (mm_N h) kd, va_up (mm_L h) (mm_N h) n, va_up (mm_I h) (mm_N h) (fun _ => 0), va_up (mm_R h) (mm_N h) (fun _ => none), mm_N h + 1, mm_S h + n)
def mm_v (bs : Nat) (h : MH) (a k : Nat) : Value := if mm_ii (mm_K h a) k then .int (mm_I h a k) else va_rf ((mm_R h a k).map (fun q => bs + q))
def mm_f (bs : Nat) (h : MH) (a : Nat) : List Value := (List.range (mm_nf (mm_K h a))).map (mm_v bs h a)
def mm_e (tc : Nat → ClassId) (bs : Nat) (h : MH) (a : Nat) : va_E :=
  if mm_K h a < 11 then .inr (mm_K h a, mm_f bs h a)
  else if mm_K h a < 13 then .inl (tc (mm_K h a), mm_L h a, .inl (mm_I h a))
  else .inl (tc (mm_K h a), mm_L h a, .inr (.inr (.inr (.inr (fun i => (mm_R h a i).map (fun q => bs + q))))))
def mm_w (tc : Nat → ClassId) (bs : Nat) (h : MH) : va_W := (List.range (mm_N h)).map (fun a => (bs + a, mm_e tc bs h a))
theorem mm_w_at {tc : Nat → ClassId} {bs : Nat} {h : MH} {a : Nat} (ha : a < mm_N h) : (mm_w tc bs h)[a]? = some (bs + a, mm_e tc bs h a) := by
  simp [mm_w, ha]
theorem mm_w_of {tc : Nat → ClassId} {bs : Nat} {h : MH} {a : Nat} {q : Nat × va_E} (hq : (mm_w tc bs h)[a]? = some q) : a < mm_N h ∧ q = (bs + a, mm_e tc bs h a) := by
  by_cases ha : a < mm_N h
  · exact ⟨ha, (Option.some.inj (hq.symm.trans (mm_w_at ha)))⟩
  · simp [mm_w, ha] at hq
theorem mm_w_D {tc : Nat → ClassId} {bs : Nat} {h : MH} : va_D (fun q => bs ≤ q) (mm_w tc bs h) := by
  refine ⟨fun i j p q hp hq hpq => ?_, fun k q hq => ?_⟩
  · obtain ⟨-, rfl⟩ := mm_w_of hp
    obtain ⟨-, rfl⟩ := mm_w_of hq
    have : bs + i = bs + j := hpq
    omega
  · obtain ⟨-, rfl⟩ := mm_w_of hq
    exact Nat.le_add_right bs k
theorem mm_w_set {tc : Nat → ClassId} {bs : Nat} {h h' : MH} {a : Nat} (hn : mm_N h' = mm_N h) (ho : ∀ b, b ≠ a → mm_e tc bs h' b = mm_e tc bs h b) (ha : a < mm_N h) : (mm_w tc bs h).set a (bs + a, mm_e tc bs h' a) = mm_w tc bs h' := by
  apply List.ext_getElem?
  intro i
  by_cases hi : i < mm_N h
  · by_cases e : i = a
    · subst e
      rw [List.getElem?_set_self (by simp [mm_w, hi]), mm_w_at (by omega)]
    · rw [List.getElem?_set_ne (Ne.symm e), mm_w_at hi, mm_w_at (by omega), ho i e]
  · rw [List.getElem?_eq_none (by simp [mm_w]; omega), List.getElem?_eq_none (by simp [mm_w]; omega)]
theorem mm_w_push {tc : Nat → ClassId} {bs : Nat} {h h' : MH} (hn : mm_N h' = mm_N h + 1) (ho : ∀ b, b < mm_N h → mm_e tc bs h' b = mm_e tc bs h b) : mm_w tc bs h ++ [(bs + mm_N h, mm_e tc bs h' (mm_N h))] = mm_w tc bs h' := by
  have e : mm_w tc bs h' = (List.range (mm_N h)).map (fun a => (bs + a, mm_e tc bs h' a)) ++ [(bs + mm_N h, mm_e tc bs h' (mm_N h))] := by
    simp [mm_w, hn, List.range_succ]
  rw [e]
  congr 1
  simp only [mm_w]
  apply List.map_congr_left
  intro a ha
  rw [ho a (List.mem_range.mp ha)]
theorem mm_e_obj {tc : Nat → ClassId} {bs : Nat} {h : MH} {a ci : Nat} (hk : mm_K h a = ci) (hc : ci < 11) : mm_e tc bs h a = .inr (ci, mm_f bs h a) := by
  subst hk; simp [mm_e, hc]
theorem mm_e_int {tc : Nat → ClassId} {bs : Nat} {h : MH} {a : Nat} (hk : mm_K h a = 11 ∨ mm_K h a = 12) : mm_e tc bs h a = .inl (tc (mm_K h a), mm_L h a, .inl (mm_I h a)) := by
  rcases hk with hk | hk <;> simp [mm_e, hk]
theorem mm_e_ref {tc : Nat → ClassId} {bs : Nat} {h : MH} {a : Nat} (hk : 13 ≤ mm_K h a) : mm_e tc bs h a = .inl (tc (mm_K h a), mm_L h a, .inr (.inr (.inr (.inr (fun i => (mm_R h a i).map (fun q => bs + q)))))) := by
  have h1 : ¬ mm_K h a < 11 := by omega
  have h2 : ¬ mm_K h a < 13 := by omega
  simp [mm_e, h1, h2]
theorem mm_e_cong {tc : Nat → ClassId} {bs : Nat} {h h' : MH} {a : Nat} (h1 : mm_K h' a = mm_K h a) (h2 : mm_L h' a = mm_L h a) (h3 : mm_I h' a = mm_I h a) (h4 : mm_R h' a = mm_R h a) : mm_e tc bs h' a = mm_e tc bs h a := by
  have hv : mm_v bs h' a = mm_v bs h a := by funext k; simp only [mm_v, h1, h3, h4]
  simp only [mm_e, mm_f, hv, h1, h2, h3, h4]
theorem mm_f_at {bs : Nat} {h : MH} {a k : Nat} (hk : k < mm_nf (mm_K h a)) : (mm_f bs h a)[k]? = some (mm_v bs h a k) := by simp [mm_f, hk]
theorem mm_f_len {bs : Nat} {h : MH} {a : Nat} : (mm_f bs h a).length = mm_nf (mm_K h a) := by simp [mm_f]
theorem mm_f_set {bs : Nat} {h h' : MH} {a k : Nat} {v : Value} (hK : mm_K h' a = mm_K h a) (hv : mm_v bs h' a k = v) (ho : ∀ j, j ≠ k → mm_v bs h' a j = mm_v bs h a j) : (mm_f bs h a).set k v = mm_f bs h' a := by
  apply List.ext_getElem?
  intro i
  by_cases hi : i < mm_nf (mm_K h a)
  · by_cases e : i = k
    · subst e
      rw [List.getElem?_set_self (by rw [mm_f_len]; exact hi), mm_f_at (by rw [hK]; exact hi), hv]
    · rw [List.getElem?_set_ne (Ne.symm e), mm_f_at hi, mm_f_at (by rw [hK]; exact hi), ho i e]
  · rw [List.getElem?_eq_none (by simp [mm_f]; omega), List.getElem?_eq_none (by simp [mm_f, hK]; omega)]
-- reads of written heaps
theorem si_K (h : MH) (a k : Nat) (x : Int32) : mm_K (mm_si h a k x) = mm_K h := rfl
theorem si_L (h : MH) (a k : Nat) (x : Int32) : mm_L (mm_si h a k x) = mm_L h := rfl
theorem si_R (h : MH) (a k : Nat) (x : Int32) : mm_R (mm_si h a k x) = mm_R h := rfl
theorem si_N (h : MH) (a k : Nat) (x : Int32) : mm_N (mm_si h a k x) = mm_N h := rfl
theorem si_S (h : MH) (a k : Nat) (x : Int32) : mm_S (mm_si h a k x) = mm_S h := rfl
theorem si_I (h : MH) (a k : Nat) (x : Int32) (b j : Nat) : mm_I (mm_si h a k x) b j = if b = a ∧ j = k then x else mm_I h b j := by
  show va_up (mm_I h) a (upd (mm_I h a) k x) b j = _
  by_cases e : b = a
  · subst e; by_cases e2 : j = k <;> simp [va_up, upd, e2]
  · simp [va_up, e]
theorem sr_K (h : MH) (a k : Nat) (x : Option Nat) : mm_K (mm_sr h a k x) = mm_K h := rfl
theorem sr_L (h : MH) (a k : Nat) (x : Option Nat) : mm_L (mm_sr h a k x) = mm_L h := rfl
theorem sr_I (h : MH) (a k : Nat) (x : Option Nat) : mm_I (mm_sr h a k x) = mm_I h := rfl
theorem sr_N (h : MH) (a k : Nat) (x : Option Nat) : mm_N (mm_sr h a k x) = mm_N h := rfl
theorem sr_S (h : MH) (a k : Nat) (x : Option Nat) : mm_S (mm_sr h a k x) = mm_S h := rfl
theorem sr_R (h : MH) (a k : Nat) (x : Option Nat) (b j : Nat) : mm_R (mm_sr h a k x) b j = if b = a ∧ j = k then x else mm_R h b j := by
  show va_up (mm_R h) a (va_up (mm_R h a) k x) b j = _
  by_cases e : b = a
  · subst e; by_cases e2 : j = k <;> simp [va_up, e2]
  · simp [va_up, e]
theorem mm_si_e {tc : Nat → ClassId} {bs : Nat} {h : MH} {a k : Nat} {x : Int32} {b : Nat} (hb : b ≠ a) : mm_e tc bs (mm_si h a k x) b = mm_e tc bs h b :=
  mm_e_cong rfl rfl (by show va_up (mm_I h) a _ b = _; simp [va_up, hb]) rfl
theorem mm_sr_e {tc : Nat → ClassId} {bs : Nat} {h : MH} {a k : Nat} {x : Option Nat} {b : Nat} (hb : b ≠ a) : mm_e tc bs (mm_sr h a k x) b = mm_e tc bs h b :=
  mm_e_cong rfl rfl rfl (by show va_up (mm_R h) a _ b = _; simp [va_up, hb])
theorem mm_no_e {tc : Nat → ClassId} {bs : Nat} {h : MH} {ci b : Nat} (hb : b < mm_N h) : mm_e tc bs (mm_no h ci) b = mm_e tc bs h b := by
  have hb : b ≠ mm_N h := by omega
  exact mm_e_cong (by show va_up (mm_K h) _ _ b = _; simp [va_up, hb]) rfl (by show va_up (mm_I h) _ _ b = _; simp [va_up, hb]) (by show va_up (mm_R h) _ _ b = _; simp [va_up, hb])
theorem mm_na_e {tc : Nat → ClassId} {bs : Nat} {h : MH} {kd n b : Nat} (hb : b < mm_N h) : mm_e tc bs (mm_na h kd n) b = mm_e tc bs h b := by
  have hb : b ≠ mm_N h := by omega
  exact mm_e_cong (by show va_up (mm_K h) _ _ b = _; simp [va_up, hb]) (by show va_up (mm_L h) _ _ b = _; simp [va_up, hb]) (by show va_up (mm_I h) _ _ b = _; simp [va_up, hb]) (by show va_up (mm_R h) _ _ b = _; simp [va_up, hb])
end
section
/-! ===== stores that also tell the heap's size ===== -/
section
variable {p : Program} {l : Launch} {e : Env} {R : Room} {s : State} {m : MethodId} {args : Array Value} {below : List Frame} {meth : Method} {c : Code} {H : Heap} {locs : List Loc} {cells slots : Nat} {Q : State → Prop}
variable {cc : ByteArray} {pc : Nat} {ls : Array Slot} {rest : List Value} {D : va_G} {cl : List vw_C} {A : Nat → Prop} {a : Nat} {tys : List (ClassId × FieldType)} {ws : va_W} {H0 : Heap}
theorem pu_put (hexec : p.tables.exec = Jvm.exec) (hb : c.code = cc) {own C : String} {T : u_T} {N ci index : Nat} {Ts : List Cond} (hts : ∀ w ∈ Ts, w.before args s = true) (hin : ∀ w ∈ u_ws C T N, w ∈ Ts) (ty0 : Nat → FieldType) (hty : ∀ k, k < N → parseFieldDescriptor (T k).2.2.1 = some (ty0 k)) (hnm : ∀ a, a < N → ∀ b, b < N → a ≠ b → (T a).2.1 ≠ (T b).2.1) (hown : s.vm.findClass own = some m.cls) (hK : va_K D cl tys s) (hP : va_P D cl ws H) (hD : va_D A ws) (hS0 : va_S A H0 H locs) (q0 : Nat) {fs : List Value} (he : ws[q0]? = some (a, .inr (ci, fs))) (hc : cl[ci]? = some (C, T, N)) (k : Nat) (hk : k < N) (hlink : (Cond.fieldLink own index (T k).1 (T k).2.1 (T k).2.2.1).before args s = true) (hfin : (T k).2.2.2 = false ∨ ((T k).2.2.2 = true ∧ meth.name = "<init>" ∧ (T k).1 = own)) {v : Value} (hn : narrow (ty0 k) v = v) (hfit : fits (ty0 k) v = true) (hl : k < fs.length)
    (hdg : decode cc pc = .ok (.putfield index, 3)) (kk : ∀ (H1 : Heap) (locs1 : List Loc), va_P D cl (ws.set q0 (a, .inr (ci, fs.set k v))) H1 → va_S A H0 H1 locs1 → H1.size = H.size → W p l e R s m args below meth c H1 locs1 cells slots Q (F0 m (pc + 3) ls rest)) : W p l e R s m args below meth c H locs cells slots Q (F0 m pc ls (v :: .ref a :: rest)) := by
  have hap := va_apart (own := own) hts hin ty0 hty hnm hK hc
  obtain ⟨r, h1, cell, q1, q2, q3, q4⟩ := hP q0 _ he
  have hr : r = (C, T, N) := Option.some.inj (h1.symm.trans hc)
  subst hr
  obtain ⟨hS, hfc, kC, hkC, hkind⟩ := hK.1 ci _ hc
  obtain ⟨cf, kf, fi, f, hi, hsl⟩ := hS k hk
  have hlay := hts _ (hin _ (u_in_lay hk))
  unfold u_lay at hlay
  have hst := (u_facts hfc hkC (u_lays hts hin hk) hi).1
  have fin : ∀ (H' : Heap), H'[a]? = some (cell.setSlot f.slot v) → H'.size = H.size → (∀ q, q ≠ a → H'[q]? = H[q]?) → W p l e R s m args below meth c H' (locs ++ [⟨a, f.slot⟩]) cells slots Q (F0 m (pc + 3) ls rest) := fun H' e1 e2 e3 => by
    rw [hsl] at e1 ⊢
    exact kk H' _ (hP.set hD he ⟨_, hc, t_OB.to (V := updV (vp_V fs) k v) ⟨_, e1, q2, q3, t_set q4 hap hk v⟩ (fun j _ => vp_updV_set hl v j)⟩ e3) (hS0.put e2 e3 (hD.2 q0 _ he)) e2
  rcases hfin with hfin | ⟨hfin, hin2, hdecl⟩
  · rw [if_neg (by rw [hfin]; decide)] at hlay
    have h6 := u_store hfc hkC hkind hlay hi (hty k hk) hn hfit
    exact W.putK hexec hb (f := f) ⟨hown, hlink, ⟨_, _, _, hi⟩, hst⟩ (by rw [q2]; exact h6) q1 q3 (by rw [hsl]; exact k2_hasslot (q4 k hk)) rfl rfl hdg fin
  · rw [if_pos hfin] at hlay
    have hcf : m.cls = cf := by
      obtain ⟨_, _, c', _, _, _, -, -, hf', -, -, -, hown2, -⟩ := Cond.laysFinal_spec hlay
      have e1 : c' = cf := by have := hi.symm.trans hf'; simp at this; exact this.1.symm
      rw [hdecl] at hown2
      rw [← e1]; exact Option.some.inj (hown.symm.trans hown2)
    have h6 := u_fits hfc hkC hkind (Or.inr hlay) hi (hty k hk) hn hfit
    exact W.putFinK hexec hb hown hlink hi hst hcf hin2 (by rw [q2]; exact h6) q1 q3 (by rw [hsl]; exact k2_hasslot (q4 k hk)) rfl rfl hdg fin
theorem pu_iast (hexec : p.tables.exec = Jvm.exec) (hb : c.code = cc) (hK : va_K D cl tys s) (hP : va_P D cl ws H) (hD : va_D A ws) (hS : va_S A H0 H locs) (q0 t0 : Nat) {cA : ClassId} {n : Nat} {f : Nat → Int32} (ha : ws[q0]? = some (a, .inl (cA, n, .inl f))) (ht : tys[t0]? = some (cA, .int)) {i : Int32} {x : Int32} (hin : vp_in i n) (hdg : decode cc pc = .ok (.iastore, 1))
    (kk : ∀ (H1 : Heap) (locs1 : List Loc), va_P D cl (ws.set q0 (a, .inl (cA, n, .inl (upd f i.toNatClampNeg x)))) H1 → va_S A H0 H1 locs1 → H1.size = H.size → W p l e R s m args below meth c H1 locs1 cells slots Q (F0 m (pc + 1) ls rest)) : W p l e R s m args below meth c H locs cells slots Q (F0 m pc ls (.int x :: .int i :: .ref a :: rest)) := by
  refine W.iast hexec hb (hP q0 _ ha) ((hK.2 t0 _ ht).1 n (fun j => .int (f j))) (fun q => by cases q) (by show ¬ (i < 0 ∨ (arrV _ _ _).slots.size ≤ _); rw [arrV_size]; exact hin) rfl rfl hdg fun H1 e z oq => ?_
  refine kk H1 _ (hP.set hD ha ?_ oq) (hS.put z oq (hD.2 q0 _ ha)) z
  show H1[a]? = some (vp_cell _ _)
  rw [e, vp_cell_i, vp_cell_i, arrV_store]
  congr 2
  funext q
  by_cases hq : q = i.toNatClampNeg
  · subst hq
    simp [updV, upd]
  · simp [updV, upd, hq]
theorem pu_zast (hexec : p.tables.exec = Jvm.exec) (hb : c.code = cc) (hK : va_K D cl tys s) (hP : va_P D cl ws H) (hD : va_D A ws) (hS : va_S A H0 H locs) (q0 t0 : Nat) {cA : ClassId} {n : Nat} {f : Nat → Int32} (ha : ws[q0]? = some (a, .inl (cA, n, .inl f))) (ht : tys[t0]? = some (cA, .boolean)) {i : Int32} {x : Int32} (hx1 : x &&& 1 = x) (hin : vp_in i n) (hdg : decode cc pc = .ok (.bastore, 1))
    (kk : ∀ (H1 : Heap) (locs1 : List Loc), va_P D cl (ws.set q0 (a, .inl (cA, n, .inl (upd f i.toNatClampNeg x)))) H1 → va_S A H0 H1 locs1 → H1.size = H.size → W p l e R s m args below meth c H1 locs1 cells slots Q (F0 m (pc + 1) ls rest)) : W p l e R s m args below meth c H locs cells slots Q (F0 m pc ls (.int x :: .int i :: .ref a :: rest)) := by
  refine W.zast hexec hb (hP q0 _ ha) ((hK.2 t0 _ ht).1 n (fun j => .int (f j))) (fun q => by cases q) (by show ¬ (i < 0 ∨ (arrV _ _ _).slots.size ≤ _); rw [arrV_size]; exact hin) rfl rfl hdg fun H1 e z oq => ?_
  refine kk H1 _ (hP.set hD ha ?_ oq) (hS.put z oq (hD.2 q0 _ ha)) z
  show H1[a]? = some (vp_cell _ _)
  rw [e, vp_cell_i, vp_cell_i, arrV_store]
  congr 2
  funext q
  by_cases hq : q = i.toNatClampNeg
  · subst hq
    simp [updV, upd, narrow, hx1]
  · simp [updV, upd, hq]
theorem pu_aast (hexec : p.tables.exec = Jvm.exec) (hb : c.code = cc) (hK : va_K D cl tys s) (hP : va_P D cl ws H) (hD : va_D A ws) (hS : va_S A H0 H locs) (q0 t0 qk ci : Nat) {cA : ClassId} {r : vw_C} {n v : Nat} {vs : List Value} {f : Nat → Option Nat} (ha : ws[q0]? = some (a, .inl (cA, n, .inr (.inr (.inr (.inr f)))))) (ht : tys[t0]? = some (cA, .object r.1)) (hv : ws[qk]? = some (v, .inr (ci, vs))) (hc : cl[ci]? = some r) {i : Int32} (hin : vp_in i n) (hdg : decode cc pc = .ok (.aastore, 1))
    (kk : ∀ (H1 : Heap) (locs1 : List Loc), va_P D cl (ws.set q0 (a, .inl (cA, n, .inr (.inr (.inr (.inr (va_up f i.toNatClampNeg (some v)))))))) H1 → va_S A H0 H1 locs1 → H1.size = H.size → W p l e R s m args below meth c H1 locs1 cells slots Q (F0 m (pc + 1) ls rest)) : W p l e R s m args below meth c H locs cells slots Q (F0 m pc ls (.ref v :: .int i :: .ref a :: rest)) := by
  have hlt : i.toNatClampNeg < n := Nat.not_le.mp fun q => hin (Or.inr q)
  have h0 : ¬ i < 0 := fun q => hin (Or.inl q)
  obtain ⟨r', hr', cellV, g1, g2, g3, -⟩ := hP qk _ hv
  have hcls := (hK.1 ci r hc).2
  obtain ⟨kA, comp, k1, k2, k3, -⟩ := (hK.2 t0 _ ht).2
  have hcomp : comp = D.1 ci := Option.some.inj (k3.symm.trans hcls.1)
  subst hcomp
  obtain ⟨kC, hkC, -⟩ := hcls.2
  refine W.aast hexec hb (hP q0 _ ha) (fun q h => by cases h) (fun h => by cases h) k1 k2 rfl hkC ⟨h0, by show _ < (arrV _ _ _).slots.size; rw [arrV_size]; exact hlt⟩ g1 (fun q h => by rw [g3] at h; cases h) (by rw [g2]; exact hkC) (by rw [g2]; exact va_assign hcls) rfl rfl hdg fun H1 e z oq => ?_
  refine kk H1 _ (hP.set hD ha ?_ oq) (hS.put z oq (hD.2 q0 _ ha)) z
  show H1[a]? = some (vp_cell _ _)
  rw [e, vp_cell_q, vp_cell_q, arrV_store]
  congr 2
  funext q
  by_cases hq : q = i.toNatClampNeg
  · subst hq
    simp [updV, va_up, va_rf]
  · simp [updV, va_up, hq]
/-- a new int or boolean array, at the heap's end -/
theorem pu_newa (hexec : p.tables.exec = Jvm.exec) (hb : c.code = cc) {atype : ArrayType} (harr : (Cond.arrayClass (newarray.typeOf atype)).before args s = true) {ty : FieldType} (hty : newarray.typeOf atype = ty) (hP : va_P D cl ws H) (hS : va_S A H0 H locs)
    {n : Int32} {N' : Nat} {a0 : vp_A} (ha : ∀ cA : ClassId, vp_cell cA a0 = arrV cA N' (fun _ => defaultValue ty)) (hn : ¬ n < 0) (hN : n.toNatClampNeg = N') (hbytes : N' * componentBytes ty ≤ 536870912) (hcells : cells + 1 ≤ R.cells) (hslots : slots + N' ≤ R.slots) {cA : ClassId} (hcA : s.vm.findClass ("[" ++ ty.toString) = some cA) (hdg : decode cc pc = .ok (.newarray atype, 2))
    (kk : ∀ (H1 : Heap), va_P D cl (ws ++ [(H.size, .inl (cA, a0))]) H1 → va_S A H0 H1 locs → H1.size = H.size + 1 →
      W p l e R s m args below meth c H1 locs (cells + 1) (slots + N') Q (F0 m (pc + 2) ls (.ref H.size :: rest))) : W p l e R s m args below meth c H locs cells slots Q (F0 m pc ls (.int n :: rest)) := by
  subst hty
  refine va_newaK hexec hb harr rfl hdg rfl hn hN hbytes hcells hslots rfl fun H1 cA' e1 z1 o1 hAr hNm => ?_
  have hce : cA' = cA := Option.some.inj (hNm.symm.trans hcA)
  subst hce
  have hk : ∀ (k : Nat) (x : Nat × va_E), ws[k]? = some x → H1[x.1]? = H[x.1]? := fun k x hx => o1 x.1 ((hP k x hx).lt)
  refine kk H1 ((hP.kept hk).app (fun k x hx => ?_)) ⟨Nat.le_trans hS.1 (by omega), fun x h1 h2 => (o1 x (Nat.lt_of_lt_of_le h1 hS.1)).trans (hS.2.1 x h1 h2), hS.2.2⟩ z1
  have hz : k < 1 := (List.getElem?_eq_some_iff.mp hx).1
  rw [show k = 0 by omega] at hx
  cases hx
  show H1[H.size]? = some (vp_cell _ _)
  rw [ha]
  exact e1
/-- a new array of references, at the heap's end -/
theorem pu_newr (hexec : p.tables.exec = Jvm.exec) (hb : c.code = cc) {own C : String} {index : Nat} (hown : s.vm.findClass own = some m.cls) (hclink : (Cond.classLink own index C).before args s = true) (hover : va_AO C s) (hP : va_P D cl ws H) (hS : va_S A H0 H locs)
    {n : Int32} {N' : Nat} (hn : ¬ n < 0) (hN : n.toNatClampNeg = N') (hbytes : N' * 4 ≤ 536870912) (hcells : cells + 1 ≤ R.cells) (hslots : slots + N' ≤ R.slots) {cA : ClassId} (hcA : s.vm.findClass ("[" ++ (FieldType.object C).toString) = some cA) (hdg : decode cc pc = .ok (.anewarray index, 3))
    (kk : ∀ (H1 : Heap), va_P D cl (ws ++ [(H.size, .inl (cA, N', .inr (.inr (.inr (.inr (fun _ => none))))))]) H1 → va_S A H0 H1 locs → H1.size = H.size + 1 →
      W p l e R s m args below meth c H1 locs (cells + 1) (slots + N') Q (F0 m (pc + 3) ls (.ref H.size :: rest))) : W p l e R s m args below meth c H locs cells slots Q (F0 m pc ls (.int n :: rest)) := by
  subst hN
  refine W.anew hexec hb hown hclink (va_AO.use hover) rfl hdg rfl hn hbytes hcells hslots fun cA' kA comp f1 f2 f3 f4 => ?_
  have hce : cA' = cA := Option.some.inj (f1.symm.trans hcA)
  subst hce
  generalize hH1 : H.push ({ cls := cA', slots := Array.replicate n.toNatClampNeg .null, vm := .none } : Cell) = H1
  have z1 : H1.size = H.size + 1 := by rw [← hH1, Array.size_push]
  have e1 : H1[H.size]? = some (arrV cA' n.toNatClampNeg (fun _ => .null)) := by rw [← hH1, Array.getElem?_push_size, ← arrV_new]
  have o1 : ∀ q : Nat, q < H.size → H1[q]? = H[q]? := fun q hq => by rw [← hH1, Array.getElem?_push, if_neg (Nat.ne_of_lt hq)]
  have hk : ∀ (k : Nat) (x : Nat × va_E), ws[k]? = some x → H1[x.1]? = H[x.1]? := fun k x hx => o1 x.1 ((hP k x hx).lt)
  refine kk H1 ((hP.kept hk).app (fun k x hx => ?_)) ⟨Nat.le_trans hS.1 (by omega), fun x h1 h2 => (o1 x (Nat.lt_of_lt_of_le h1 hS.1)).trans (hS.2.1 x h1 h2), hS.2.2⟩ z1
  have hz : k < 1 := (List.getElem?_eq_some_iff.mp hx).1
  rw [show k = 0 by omega] at hx
  cases hx
  show H1[H.size]? = some (vp_cell _ _)
  rw [vp_cell_q]
  exact e1
/-- a new object, at the heap's end -/
theorem pu_new (hexec : p.tables.exec = Jvm.exec) (hb : c.code = cc) {own C : String} {T : u_T} {N ci index : Nat} {Ts : List Cond} (hts : ∀ w ∈ Ts, w.before args s = true) (hin : ∀ w ∈ u_ws C T N, w ∈ Ts) (ty : Nat → FieldType) (hty : ∀ k, k < N → parseFieldDescriptor (T k).2.2.1 = some (ty k)) (hown : s.vm.findClass own = some m.cls) (hcl : (Cond.classLink own index C).before args s = true) (hinst : (Cond.instantiable C N).before args s = true) (hini : (Cond.initialized C).before args s = true)
    (hK : va_K D cl tys s) (hP : va_P D cl ws H) (hS : va_S A H0 H locs) (hc : cl[ci]? = some (C, T, N)) {fs : List Value} (hfs : ∀ j, j < N → defaultValue (ty j) = vp_V fs j) (hcells : cells + 1 ≤ R.cells) (hslots : slots + N ≤ R.slots) (hdg : decode cc pc = .ok (.new index, 3))
    (kk : ∀ (H1 : Heap), va_P D cl (ws ++ [(H.size, .inr (ci, fs))]) H1 → va_S A H0 H1 locs → H1.size = H.size + 1 →
      W p l e R s m args below meth c H1 locs (cells + 1) (slots + N) Q (F0 m (pc + 3) ls (.ref H.size :: rest))) : W p l e R s m args below meth c H locs cells slots Q (F0 m pc ls rest) := by
  have hKn := hK.1 ci _ hc
  refine W.newcK hexec hb hown hcl hinst hini rfl hdg hcells hslots hKn.2.1 rfl fun H1 kC hkC e1 z1 o1 => ?_
  have hk : ∀ (k : Nat) (x : Nat × va_E), ws[k]? = some x → H1[x.1]? = H[x.1]? := fun k x hx => o1 x.1 ((hP k x hx).lt)
  refine kk H1 ((hP.kept hk).app (fun k x hx => ?_)) ⟨Nat.le_trans hS.1 (by omega), fun x h1 h2 => (o1 x (Nat.lt_of_lt_of_le h1 hS.1)).trans (hS.2.1 x h1 h2), hS.2.2⟩ z1
  have hz : k < 1 := (List.getElem?_eq_some_iff.mp hx).1
  rw [show k = 0 by omega] at hx
  cases hx
  exact ⟨_, hc, (u_born ty hts hin hKn hkC e1 hty).to hfs⟩
end
end
section
/-! ===== the judgement: a method's frame, at pc with these locals and this stack over this small heap, returns v with that small heap ===== -/
def mm_nest : Cond → Bool | .fieldLinkNest _ _ _ _ _ _ => true | .methodLinkNest _ _ _ _ => true | .arrayOver (.object _) => true | _ => false
def NW (s : State) : Prop := ∀ w ∈ lw_tbl, mm_nest w = true → va_Nw w s
theorem NW.warm {s U : State} (hW : s.WarmedH U.vm) (h : NW s) : NW U := by
  intro w hw hn
  have h1 := h w hw hn
  cases w with
  | fieldLinkNest a i b n d x => exact va_Nw.warmF hW h1
  | methodLinkNest a i y x => exact va_Nw.warmM hW h1
  | arrayOver t =>
    cases t with
    | object C => exact va_AO.moved hW.alike h1
    | _ => simp [mm_nest] at hn
  | _ => simp [mm_nest] at hn
theorem NW.calling {U : State} {g : JFrame} {mk : MethodId} {a : Array Value} (h : NW U) : NW (U.calling g mk a) := by
  intro w hw hn
  have h1 := h w hw hn
  cases w with
  | fieldLinkNest a i b n d x => exact va_Nw.same (u := U) rfl rfl h1
  | methodLinkNest a i y x => exact va_Nw.same (u := U) rfl rfl h1
  | arrayOver t =>
    cases t with
    | object C => exact va_AO.moved (u := U) (Vm.Alike.refl U.vm) h1
    | _ => simp [mm_nest] at hn
  | _ => simp [mm_nest] at hn
abbrev GG : Type := Launch × va_G × (Nat → ClassId) × Nat × Nat × Nat × (Nat → Int32)
def gg_l (G : GG) : Launch := G.1
def gg_D (G : GG) : va_G := G.2.1
def gg_t (G : GG) : Nat → ClassId := G.2.2.1
def gg_b (G : GG) : Nat := G.2.2.2.1
def gg_s (G : GG) : Nat := G.2.2.2.2.1
def gg_L (G : GG) : Nat := G.2.2.2.2.2.1
def gg_x (G : GG) : Nat → Int32 := G.2.2.2.2.2.2
def cv (G : GG) : Value → Value
  | .int x => .int x
  | .ref k => .ref (gg_b G + k)
  | .long _ => .ref (gg_s G)
  | _ => .null
theorem cv_cat (G : GG) (v : Value) : (cv G v).category = 1 := by cases v <;> rfl
def gg_tys (G : GG) : List (ClassId × FieldType) := [(gg_t G 11, .int), (gg_t G 12, .boolean), (gg_t G 13, .object RX2), (gg_t G 14, .object RX5), (gg_t G 15, .object RX7)]
abbrev MD : Type := MethodName × ByteArray × Nat × Option FieldType × String × Bool
def md_y (M : MD) : MethodName := M.1
def md_c (M : MD) : ByteArray := M.2.1
def md_l (M : MD) : Nat := M.2.2.1
def md_r (M : MD) : Option FieldType := M.2.2.2.1
def md_o (M : MD) : String := M.2.2.2.2.1
def md_i (M : MD) : Bool := M.2.2.2.2.2
def IX (cc : ByteArray) (pc : Nat) (op : Instr) (len nx : Nat) : Prop := decode cc pc = .ok (op, len) ∧ pc + len = nx
def mm_l (G : GG) (nL : Nat) (ls : Array Slot) (lc : List (Option Value)) : Prop := ls.size = nL ∧ lv_wf ls ∧ lc.length = nL ∧ ∀ (i : Nat) (v : Value), lc[i]? = some (some v) → ls[i]? = some (.val (cv G v))
def Cx (G : GG) (d : Nat) (M : MD) (p : Program) (R : Room) (s : State) (m : MethodId) (args : Array Value) (meth : Method) (c : Code) : Prop :=
  p.tables.exec = Jvm.exec ∧ c.code = md_c M ∧ c.maxLocals = md_l M ∧ s.vm.findClass (md_o M) = some m.cls ∧ (∀ w ∈ gtb, w.before args s = true) ∧ NW s ∧ va_K (gg_D G) vwCl (gg_tys G) s ∧ gg_b G ≤ s.heap.size ∧ (md_i M = true → meth.name = "<init>") ∧ (d ≤ R.frames ∧ 40 * d ≤ R.locals) ∧ (md_o M = RL → va_X (gg_s G) (gg_L G) (gg_x G) s s.heap ∧ gg_s G < gg_b G)
def Wd (G : GG) (s : State) (H : Heap) (locs : List Loc) (h : MH) : Prop := va_P (gg_D G) vwCl (mm_w (gg_t G) (gg_b G) h) H ∧ va_S (fun q => gg_b G ≤ q) s.heap H locs ∧ H.size = gg_b G + mm_N h
def RetAt (M : MD) (pc : Nat) (v : Option Value) : Prop :=
  (v = none ∧ decode (md_c M) pc = .ok (.return_, 1) ∧ md_r M = none) ∨
  (∃ (x : Int32) (ty : FieldType), v = some (.int x) ∧ decode (md_c M) pc = .ok (.ireturn, 1) ∧ md_r M = some ty ∧ narrow ty (.int x) = .int x) ∨
  (∃ (u : Value) (n : String), v = some u ∧ (u = .null ∨ ∃ a, u = .ref a) ∧ decode (md_c M) pc = .ok (.areturn, 1) ∧ md_r M = some (.object n))
def Ev (G : GG) (d : Nat) (M : MD) (pc : Nat) (lc : List (Option Value)) (st : List Value) (h : MH) (v : Option Value) (h' : MH) : Prop :=
  (mm_N h ≤ mm_N h' ∧ mm_S h ≤ mm_S h') ∧
  ∀ (p : Program) (e : Env) (R : Room) (s : State) (m : MethodId) (args : Array Value) (below : List Frame) (meth : Method) (c : Code) (Q : State → Prop) (H : Heap) (locs : List Loc) (ls : Array Slot) (n0 z0 : Nat),
    Cx G d M p R s m args meth c → Wd G s H locs h → mm_l G (md_l M) ls lc → n0 ≤ mm_N h → z0 ≤ mm_S h → mm_N h' - n0 ≤ R.cells → mm_S h' - z0 ≤ R.slots →
    (∀ (H' : Heap) (locs' : List Loc) (ls' : Array Slot) (pc' : Nat), Wd G s H' locs' h' → RetAt M pc' v → W p (gg_l G) e R s m args below meth c H' locs' (mm_N h' - n0) (mm_S h' - z0) Q (F0 m pc' ls' (v.toList.map (cv G)))) →
    W p (gg_l G) e R s m args below meth c H locs (mm_N h - n0) (mm_S h - z0) Q (F0 m pc ls (st.map (cv G)))
theorem mm_l_at {G : GG} {nL : Nat} {ls : Array Slot} {lc : List (Option Value)} (h : mm_l G nL ls lc) {i : Nat} {v : Value} (hv : lc[i]? = some (some v)) : ls[i]? = some (.val (cv G v)) := h.2.2.2 i v hv
def mm_pl (G : GG) (lc : List (Option Value)) : List (Nat × Value) := (List.range lc.length).filterMap (fun i => (lc.getD i none).map (fun v => (i, cv G v)))
theorem mm_pl_in {G : GG} {lc : List (Option Value)} {i : Nat} {v : Value} (hv : lc[i]? = some (some v)) : (i, cv G v) ∈ mm_pl G lc := by
  have hi : i < lc.length := (List.getElem?_eq_some_iff.mp hv).1
  refine List.mem_filterMap.mpr ⟨i, List.mem_range.mpr hi, ?_⟩
  simp [List.getD, hv]
theorem mm_pl_of {G : GG} {lc : List (Option Value)} {q : Nat × Value} (hq : q ∈ mm_pl G lc) : ∃ v, lc[q.1]? = some (some v) ∧ q.2 = cv G v := by
  obtain ⟨i, hi, h⟩ := List.mem_filterMap.mp hq
  have hi := List.mem_range.mp hi
  cases hx : lc[i]? with
  | none => simp [List.getD, hx] at h
  | some o =>
    cases o with
    | none => simp [List.getD, hx] at h
    | some v =>
      simp [List.getD, hx] at h
      subst h
      exact ⟨v, hx, rfl⟩
theorem mm_l_has {G : GG} {nL : Nat} {ls : Array Slot} {lc : List (Option Value)} (h : mm_l G nL ls lc) : lv_has ls nL (mm_pl G lc) :=
  ⟨h.1, h.2.1, fun q hq => by obtain ⟨v, h1, h2⟩ := mm_pl_of hq; rw [h2]; exact h.2.2.2 q.1 v h1⟩
theorem mm_l_set {G : GG} {nL : Nat} {ls ls' : Array Slot} {lc : List (Option Value)} {i : Nat} {v : Value} (h : mm_l G nL ls lc) (h' : lv_has ls' nL ((i, cv G v) :: (mm_pl G lc).filter (fun q => !(q.1 == i) && !(q.1 + 1 == i && q.2.category == 2)))) : mm_l G nL ls' (lc.set i (some v)) := by
  refine ⟨h'.1, h'.2.1, by rw [List.length_set]; exact h.2.2.1, fun j w hj => ?_⟩
  by_cases e : j = i
  · subst e
    have hl : j < lc.length := by
      have := (List.getElem?_eq_some_iff.mp hj).1
      rwa [List.length_set] at this
    rw [List.getElem?_set_self hl] at hj
    cases hj
    exact h'.2.2 (j, cv G v) List.mem_cons_self
  · rw [List.getElem?_set_ne (Ne.symm e)] at hj
    refine h'.2.2 (j, cv G w) (List.mem_cons_of_mem _ (List.mem_filter.mpr ⟨mm_pl_in hj, ?_⟩))
    have hc := cv_cat G w
    simp [e, hc]
section
variable {G : GG} {d : Nat} {M : MD} {pc nx : Nat} {lc : List (Option Value)} {st : List Value} {h : MH} {v : Option Value} {h' : MH}

theorem ev_iadd {x y : Int32} (hd : IX (md_c M) pc .iadd 1 nx) (k : Ev G d M nx lc (.int (x + y) :: st) h v h') : Ev G d M pc lc (.int y :: .int x :: st) h v h' :=
  ⟨k.1, fun p e R s m args below meth c Q H locs ls n0 z0 C w hl h1 h2 h3 h4 kk => by
    have K := k.2 p e R s m args below meth c Q H locs ls n0 z0 C w hl h1 h2 h3 h4 kk
    rw [← hd.2] at K
    exact lv_iadd C.1 C.2.1 hd.1 K⟩
theorem ev_isub {x y : Int32} (hd : IX (md_c M) pc .isub 1 nx) (k : Ev G d M nx lc (.int (x - y) :: st) h v h') : Ev G d M pc lc (.int y :: .int x :: st) h v h' :=
  ⟨k.1, fun p e R s m args below meth c Q H locs ls n0 z0 C w hl h1 h2 h3 h4 kk => by
    have K := k.2 p e R s m args below meth c Q H locs ls n0 z0 C w hl h1 h2 h3 h4 kk
    rw [← hd.2] at K
    exact lv_isub C.1 C.2.1 hd.1 K⟩
theorem ev_imul {x y : Int32} (hd : IX (md_c M) pc .imul 1 nx) (k : Ev G d M nx lc (.int (x * y) :: st) h v h') : Ev G d M pc lc (.int y :: .int x :: st) h v h' :=
  ⟨k.1, fun p e R s m args below meth c Q H locs ls n0 z0 C w hl h1 h2 h3 h4 kk => by
    have K := k.2 p e R s m args below meth c Q H locs ls n0 z0 C w hl h1 h2 h3 h4 kk
    rw [← hd.2] at K
    exact lv_imul C.1 C.2.1 hd.1 K⟩
theorem ev_iand {x y : Int32} (hd : IX (md_c M) pc .iand 1 nx) (k : Ev G d M nx lc (.int (x &&& y) :: st) h v h') : Ev G d M pc lc (.int y :: .int x :: st) h v h' :=
  ⟨k.1, fun p e R s m args below meth c Q H locs ls n0 z0 C w hl h1 h2 h3 h4 kk => by
    have K := k.2 p e R s m args below meth c Q H locs ls n0 z0 C w hl h1 h2 h3 h4 kk
    rw [← hd.2] at K
    exact lv_iand C.1 C.2.1 hd.1 K⟩
theorem ev_ior {x y : Int32} (hd : IX (md_c M) pc .ior 1 nx) (k : Ev G d M nx lc (.int (x ||| y) :: st) h v h') : Ev G d M pc lc (.int y :: .int x :: st) h v h' :=
  ⟨k.1, fun p e R s m args below meth c Q H locs ls n0 z0 C w hl h1 h2 h3 h4 kk => by
    have K := k.2 p e R s m args below meth c Q H locs ls n0 z0 C w hl h1 h2 h3 h4 kk
    rw [← hd.2] at K
    exact lv_ior C.1 C.2.1 hd.1 K⟩
theorem ev_ixor {x y : Int32} (hd : IX (md_c M) pc .ixor 1 nx) (k : Ev G d M nx lc (.int (x ^^^ y) :: st) h v h') : Ev G d M pc lc (.int y :: .int x :: st) h v h' :=
  ⟨k.1, fun p e R s m args below meth c Q H locs ls n0 z0 C w hl h1 h2 h3 h4 kk => by
    have K := k.2 p e R s m args below meth c Q H locs ls n0 z0 C w hl h1 h2 h3 h4 kk
    rw [← hd.2] at K
    exact lv_ixor C.1 C.2.1 hd.1 K⟩
theorem ev_ishl {x y : Int32} (hd : IX (md_c M) pc .ishl 1 nx) (k : Ev G d M nx lc (.int (x <<< (y &&& 31)) :: st) h v h') : Ev G d M pc lc (.int y :: .int x :: st) h v h' :=
  ⟨k.1, fun p e R s m args below meth c Q H locs ls n0 z0 C w hl h1 h2 h3 h4 kk => by
    have K := k.2 p e R s m args below meth c Q H locs ls n0 z0 C w hl h1 h2 h3 h4 kk
    rw [← hd.2] at K
    exact lv_ishl C.1 C.2.1 hd.1 K⟩
theorem ev_ishr {x y : Int32} (hd : IX (md_c M) pc .ishr 1 nx) (k : Ev G d M nx lc (.int (x >>> (y &&& 31)) :: st) h v h') : Ev G d M pc lc (.int y :: .int x :: st) h v h' :=
  ⟨k.1, fun p e R s m args below meth c Q H locs ls n0 z0 C w hl h1 h2 h3 h4 kk => by
    have K := k.2 p e R s m args below meth c Q H locs ls n0 z0 C w hl h1 h2 h3 h4 kk
    rw [← hd.2] at K
    exact lv_ishr C.1 C.2.1 hd.1 K⟩
theorem ev_iushr {x y : Int32} (hd : IX (md_c M) pc .iushr 1 nx) (k : Ev G d M nx lc (.int (x.toUInt32 >>> (y.toUInt32 &&& Int32.toUInt32 31)).toInt32 :: st) h v h') : Ev G d M pc lc (.int y :: .int x :: st) h v h' :=
  ⟨k.1, fun p e R s m args below meth c Q H locs ls n0 z0 C w hl h1 h2 h3 h4 kk => by
    have K := k.2 p e R s m args below meth c Q H locs ls n0 z0 C w hl h1 h2 h3 h4 kk
    rw [← hd.2] at K
    exact lv_iushr C.1 C.2.1 hd.1 rfl K⟩
theorem ev_idiv {x y : Int32} (hd : IX (md_c M) pc .idiv 1 nx) (hne : ¬ y = 0) (k : Ev G d M nx lc (.int (x / y) :: st) h v h') : Ev G d M pc lc (.int y :: .int x :: st) h v h' :=
  ⟨k.1, fun p e R s m args below meth c Q H locs ls n0 z0 C w hl h1 h2 h3 h4 kk => by
    have K := k.2 p e R s m args below meth c Q H locs ls n0 z0 C w hl h1 h2 h3 h4 kk
    rw [← hd.2] at K
    exact lv_idiv C.1 C.2.1 hd.1 hne K⟩
theorem ev_iconst {n : Int} {x : Int32} (hd : IX (md_c M) pc (.iconst n) 1 nx) (hv : Int32.ofInt n = x) (k : Ev G d M nx lc (.int x :: st) h v h') : Ev G d M pc lc st h v h' :=
  ⟨k.1, fun p e R s m args below meth c Q H locs ls n0 z0 C w hl h1 h2 h3 h4 kk => by
    have K := k.2 p e R s m args below meth c Q H locs ls n0 z0 C w hl h1 h2 h3 h4 kk
    rw [← hd.2] at K
    exact lv_iconst C.1 C.2.1 hd.1 hv K⟩
theorem ev_bipush {n : Int} {x : Int32} (hd : IX (md_c M) pc (.bipush n) 2 nx) (hv : (Int8.ofInt n).toInt32 = x) (k : Ev G d M nx lc (.int x :: st) h v h') : Ev G d M pc lc st h v h' :=
  ⟨k.1, fun p e R s m args below meth c Q H locs ls n0 z0 C w hl h1 h2 h3 h4 kk => by
    have K := k.2 p e R s m args below meth c Q H locs ls n0 z0 C w hl h1 h2 h3 h4 kk
    rw [← hd.2] at K
    exact lv_bipush C.1 C.2.1 hd.1 hv K⟩
theorem ev_sipush {n : Int} {x : Int32} (hd : IX (md_c M) pc (.sipush n) 3 nx) (hv : (Int16.ofInt n).toInt32 = x) (k : Ev G d M nx lc (.int x :: st) h v h') : Ev G d M pc lc st h v h' :=
  ⟨k.1, fun p e R s m args below meth c Q H locs ls n0 z0 C w hl h1 h2 h3 h4 kk => by
    have K := k.2 p e R s m args below meth c Q H locs ls n0 z0 C w hl h1 h2 h3 h4 kk
    rw [← hd.2] at K
    exact lv_sipush C.1 C.2.1 hd.1 hv K⟩
theorem ev_ldcw {i : Nat} {x : Int32} (hd : IX (md_c M) pc (.ldc_w i) 3 nx) (hw : Cond.constant (md_o M) i x ∈ gtb) (k : Ev G d M nx lc (.int x :: st) h v h') : Ev G d M pc lc st h v h' :=
  ⟨k.1, fun p e R s m args below meth c Q H locs ls n0 z0 C w hl h1 h2 h3 h4 kk => by
    have K := k.2 p e R s m args below meth c Q H locs ls n0 z0 C w hl h1 h2 h3 h4 kk
    rw [← hd.2] at K
    exact lv_ldcw C.1 C.2.1 C.2.2.2.1 (C.2.2.2.2.1 _ hw) hd.1 K⟩
theorem ev_null  (hd : IX (md_c M) pc .aconst_null 1 nx) (k : Ev G d M nx lc (.null :: st) h v h') : Ev G d M pc lc st h v h' :=
  ⟨k.1, fun p e R s m args below meth c Q H locs ls n0 z0 C w hl h1 h2 h3 h4 kk => by
    have K := k.2 p e R s m args below meth c Q H locs ls n0 z0 C w hl h1 h2 h3 h4 kk
    rw [← hd.2] at K
    exact lv_null C.1 C.2.1 hd.1 K⟩
theorem ev_iload_n {k0 : Fin 4} {x : Int32} (hd : IX (md_c M) pc (.iload_n k0) 1 nx) (hv : lc[(k0 : Nat)]? = some (some (.int x))) (k : Ev G d M nx lc (.int x :: st) h v h') : Ev G d M pc lc st h v h' :=
  ⟨k.1, fun p e R s m args below meth c Q H locs ls n0 z0 C w hl h1 h2 h3 h4 kk => by
    have K := k.2 p e R s m args below meth c Q H locs ls n0 z0 C w hl h1 h2 h3 h4 kk
    rw [← hd.2] at K
    exact lv_iload_n C.1 C.2.1 hd.1 rfl (mm_l_at hl hv) K⟩
theorem ev_iload {i : Nat} {x : Int32} (hd : IX (md_c M) pc (.iload i) 2 nx) (hv : lc[i]? = some (some (.int x))) (k : Ev G d M nx lc (.int x :: st) h v h') : Ev G d M pc lc st h v h' :=
  ⟨k.1, fun p e R s m args below meth c Q H locs ls n0 z0 C w hl h1 h2 h3 h4 kk => by
    have K := k.2 p e R s m args below meth c Q H locs ls n0 z0 C w hl h1 h2 h3 h4 kk
    rw [← hd.2] at K
    exact lv_iload C.1 C.2.1 hd.1 (mm_l_at hl hv) K⟩
theorem ev_aload_n {k0 : Fin 4} {a : Nat} (hd : IX (md_c M) pc (.aload_n k0) 1 nx) (hv : lc[(k0 : Nat)]? = some (some (.ref a))) (k : Ev G d M nx lc (.ref a :: st) h v h') : Ev G d M pc lc st h v h' :=
  ⟨k.1, fun p e R s m args below meth c Q H locs ls n0 z0 C w hl h1 h2 h3 h4 kk => by
    have K := k.2 p e R s m args below meth c Q H locs ls n0 z0 C w hl h1 h2 h3 h4 kk
    rw [← hd.2] at K
    exact lv_aload_n C.1 C.2.1 hd.1 rfl (mm_l_at hl hv) K⟩
theorem ev_aload {i a : Nat} (hd : IX (md_c M) pc (.aload i) 2 nx) (hv : lc[i]? = some (some (.ref a))) (k : Ev G d M nx lc (.ref a :: st) h v h') : Ev G d M pc lc st h v h' :=
  ⟨k.1, fun p e R s m args below meth c Q H locs ls n0 z0 C w hl h1 h2 h3 h4 kk => by
    have K := k.2 p e R s m args below meth c Q H locs ls n0 z0 C w hl h1 h2 h3 h4 kk
    rw [← hd.2] at K
    exact lv_aload C.1 C.2.1 hd.1 (mm_l_at hl hv) K⟩
theorem ev_aload_nN {k0 : Fin 4} (hd : IX (md_c M) pc (.aload_n k0) 1 nx) (hv : lc[(k0 : Nat)]? = some (some .null)) (k : Ev G d M nx lc (.null :: st) h v h') : Ev G d M pc lc st h v h' :=
  ⟨k.1, fun p e R s m args below meth c Q H locs ls n0 z0 C w hl h1 h2 h3 h4 kk => by
    have K := k.2 p e R s m args below meth c Q H locs ls n0 z0 C w hl h1 h2 h3 h4 kk
    rw [← hd.2] at K
    exact lv_aload_nN C.1 C.2.1 hd.1 rfl (mm_l_at hl hv) K⟩
theorem ev_aloadN {i : Nat} (hd : IX (md_c M) pc (.aload i) 2 nx) (hv : lc[i]? = some (some .null)) (k : Ev G d M nx lc (.null :: st) h v h') : Ev G d M pc lc st h v h' :=
  ⟨k.1, fun p e R s m args below meth c Q H locs ls n0 z0 C w hl h1 h2 h3 h4 kk => by
    have K := k.2 p e R s m args below meth c Q H locs ls n0 z0 C w hl h1 h2 h3 h4 kk
    rw [← hd.2] at K
    exact lv_aloadN C.1 C.2.1 hd.1 (mm_l_at hl hv) K⟩
theorem ev_aload_nS {k0 : Fin 4} {z : Int64} (hd : IX (md_c M) pc (.aload_n k0) 1 nx) (hv : lc[(k0 : Nat)]? = some (some (.long z))) (k : Ev G d M nx lc (.long z :: st) h v h') : Ev G d M pc lc st h v h' :=
  ⟨k.1, fun p e R s m args below meth c Q H locs ls n0 z0 C w hl h1 h2 h3 h4 kk => by
    have K := k.2 p e R s m args below meth c Q H locs ls n0 z0 C w hl h1 h2 h3 h4 kk
    rw [← hd.2] at K
    exact lv_aload_n C.1 C.2.1 hd.1 rfl (mm_l_at hl hv) K⟩
theorem ev_dup {x : Value} (hd : IX (md_c M) pc .dup 1 nx) (k : Ev G d M nx lc (x :: x :: st) h v h') : Ev G d M pc lc (x :: st) h v h' :=
  ⟨k.1, fun p e R s m args below meth c Q H locs ls n0 z0 C w hl h1 h2 h3 h4 kk => by
    have K := k.2 p e R s m args below meth c Q H locs ls n0 z0 C w hl h1 h2 h3 h4 kk
    rw [← hd.2] at K
    exact lv_dup C.1 C.2.1 hd.1 (cv_cat G x) K⟩
theorem ev_dup2 {x y : Value} (hd : IX (md_c M) pc .dup2 1 nx) (k : Ev G d M nx lc (x :: y :: x :: y :: st) h v h') : Ev G d M pc lc (x :: y :: st) h v h' :=
  ⟨k.1, fun p e R s m args below meth c Q H locs ls n0 z0 C w hl h1 h2 h3 h4 kk => by
    have K := k.2 p e R s m args below meth c Q H locs ls n0 z0 C w hl h1 h2 h3 h4 kk
    rw [← hd.2] at K
    exact lv_dup2_11 C.1 C.2.1 hd.1 (cv_cat G x) (cv_cat G y) K⟩
theorem ev_istore_n {k0 : Fin 4} {x : Int32} (hd : IX (md_c M) pc (.istore_n k0) 1 nx) (hi : (k0 : Nat) < md_l M) (k : Ev G d M nx (lc.set (k0 : Nat) (some (.int x))) st h v h') : Ev G d M pc lc ((.int x) :: st) h v h' :=
  ⟨k.1, fun p e R s m args below meth c Q H locs ls n0 z0 C w hl h1 h2 h3 h4 kk => by
    refine lv_istore_n (lv' := _) C.1 C.2.1 hd.1 rfl (mm_l_has hl) hi rfl (fun ls' hl' => ?_)
    have K := k.2 p e R s m args below meth c Q H locs ls' n0 z0 C w (mm_l_set hl hl') h1 h2 h3 h4 kk
    rw [← hd.2] at K
    exact K⟩
theorem ev_istore {i : Nat} {x : Int32} (hd : IX (md_c M) pc (.istore i) 2 nx) (hi : i < md_l M) (k : Ev G d M nx (lc.set i (some (.int x))) st h v h') : Ev G d M pc lc ((.int x) :: st) h v h' :=
  ⟨k.1, fun p e R s m args below meth c Q H locs ls n0 z0 C w hl h1 h2 h3 h4 kk => by
    refine lv_istore (lv' := _) C.1 C.2.1 hd.1 (mm_l_has hl) hi rfl (fun ls' hl' => ?_)
    have K := k.2 p e R s m args below meth c Q H locs ls' n0 z0 C w (mm_l_set hl hl') h1 h2 h3 h4 kk
    rw [← hd.2] at K
    exact K⟩
theorem ev_astore_n {k0 : Fin 4} {a : Nat} (hd : IX (md_c M) pc (.astore_n k0) 1 nx) (hi : (k0 : Nat) < md_l M) (k : Ev G d M nx (lc.set (k0 : Nat) (some (.ref a))) st h v h') : Ev G d M pc lc ((.ref a) :: st) h v h' :=
  ⟨k.1, fun p e R s m args below meth c Q H locs ls n0 z0 C w hl h1 h2 h3 h4 kk => by
    refine lv_astore_n (lv' := _) C.1 C.2.1 hd.1 rfl (mm_l_has hl) hi rfl (fun ls' hl' => ?_)
    have K := k.2 p e R s m args below meth c Q H locs ls' n0 z0 C w (mm_l_set hl hl') h1 h2 h3 h4 kk
    rw [← hd.2] at K
    exact K⟩
theorem ev_astore {i a : Nat} (hd : IX (md_c M) pc (.astore i) 2 nx) (hi : i < md_l M) (k : Ev G d M nx (lc.set i (some (.ref a))) st h v h') : Ev G d M pc lc ((.ref a) :: st) h v h' :=
  ⟨k.1, fun p e R s m args below meth c Q H locs ls n0 z0 C w hl h1 h2 h3 h4 kk => by
    refine lv_astore (lv' := _) C.1 C.2.1 hd.1 (mm_l_has hl) hi rfl (fun ls' hl' => ?_)
    have K := k.2 p e R s m args below meth c Q H locs ls' n0 z0 C w (mm_l_set hl hl') h1 h2 h3 h4 kk
    rw [← hd.2] at K
    exact K⟩
theorem ev_astore_nN {k0 : Fin 4} (hd : IX (md_c M) pc (.astore_n k0) 1 nx) (hi : (k0 : Nat) < md_l M) (k : Ev G d M nx (lc.set (k0 : Nat) (some .null)) st h v h') : Ev G d M pc lc (.null :: st) h v h' :=
  ⟨k.1, fun p e R s m args below meth c Q H locs ls n0 z0 C w hl h1 h2 h3 h4 kk => by
    refine lv_astore_nN (lv' := _) C.1 C.2.1 hd.1 rfl (mm_l_has hl) hi rfl (fun ls' hl' => ?_)
    have K := k.2 p e R s m args below meth c Q H locs ls' n0 z0 C w (mm_l_set hl hl') h1 h2 h3 h4 kk
    rw [← hd.2] at K
    exact K⟩
theorem ev_astoreN {i : Nat} (hd : IX (md_c M) pc (.astore i) 2 nx) (hi : i < md_l M) (k : Ev G d M nx (lc.set i (some .null)) st h v h') : Ev G d M pc lc (.null :: st) h v h' :=
  ⟨k.1, fun p e R s m args below meth c Q H locs ls n0 z0 C w hl h1 h2 h3 h4 kk => by
    refine lv_astoreN (lv' := _) C.1 C.2.1 hd.1 (mm_l_has hl) hi rfl (fun ls' hl' => ?_)
    have K := k.2 p e R s m args below meth c Q H locs ls' n0 z0 C w (mm_l_set hl hl') h1 h2 h3 h4 kk
    rw [← hd.2] at K
    exact K⟩
theorem ev_iinc {i : Nat} {n : Int} {x y : Int32} (hd : IX (md_c M) pc (.iinc i n) 3 nx) (hv : lc[i]? = some (some (.int x))) (hy : x + Int32.ofInt n = y) (hi : i < md_l M) (k : Ev G d M nx (lc.set i (some (.int y))) st h v h') : Ev G d M pc lc st h v h' :=
  ⟨k.1, fun p e R s m args below meth c Q H locs ls n0 z0 C w hl h1 h2 h3 h4 kk => by
    obtain ⟨kq, hkq⟩ := List.getElem?_of_mem (mm_pl_in (G := G) hv)
    refine lv_iinc (lv' := _) C.1 C.2.1 hd.1 (mm_l_has hl) hkq hy hi rfl (fun ls' hl' => ?_)
    have K := k.2 p e R s m args below meth c Q H locs ls' n0 z0 C w (mm_l_set (v := .int y) hl hl') h1 h2 h3 h4 kk
    rw [← hd.2] at K
    exact K⟩
theorem ev_goto {off : Int} {tg : Nat} (hd : IX (md_c M) pc (.goto off) 3 nx) (ht : (pc : Int) + off = (tg : Int)) (k : Ev G d M tg lc st h v h') : Ev G d M pc lc st h v h' :=
  ⟨k.1, fun p e R s m args below meth c Q H locs ls n0 z0 C w hl h1 h2 h3 h4 kk => lv_goto C.1 C.2.1 hd.1 ht (k.2 p e R s m args below meth c Q H locs ls n0 z0 C w hl h1 h2 h3 h4 kk)⟩
theorem ev_if_eq {x : Int32} {off : Int} {tg : Nat} (hd : IX (md_c M) pc (.ifCond .eq off) 3 nx) (ht : (pc : Int) + off = (tg : Int)) (kt : x = 0 → Ev G d M tg lc st h v h') (kf : ¬ x = 0 → Ev G d M nx lc st h v h') : Ev G d M pc lc (.int x :: st) h v h' :=
  ⟨(Decidable.em (x = 0)).elim (fun q => (kt q).1) (fun q => (kf (by first | exact q | (simpa using q))).1), fun p e R s m args below meth c Q H locs ls n0 z0 C w hl h1 h2 h3 h4 kk => by
    refine lv_if_eq C.1 C.2.1 hd.1 ht (fun q => (kt q).2 p e R s m args below meth c Q H locs ls n0 z0 C w hl h1 h2 h3 h4 kk) (fun q => ?_)
    have K := (kf q).2 p e R s m args below meth c Q H locs ls n0 z0 C w hl h1 h2 h3 h4 kk
    rw [← hd.2] at K
    exact K⟩
theorem ev_icmp_eq {x y : Int32} {off : Int} {tg : Nat} (hd : IX (md_c M) pc (.if_icmp .eq off) 3 nx) (ht : (pc : Int) + off = (tg : Int)) (kt : x = y → Ev G d M tg lc st h v h') (kf : ¬ x = y → Ev G d M nx lc st h v h') : Ev G d M pc lc (.int y :: .int x :: st) h v h' :=
  ⟨(Decidable.em (x = y)).elim (fun q => (kt q).1) (fun q => (kf (by first | exact q | (simpa using q))).1), fun p e R s m args below meth c Q H locs ls n0 z0 C w hl h1 h2 h3 h4 kk => by
    refine lv_icmp_eq C.1 C.2.1 hd.1 ht (fun q => (kt q).2 p e R s m args below meth c Q H locs ls n0 z0 C w hl h1 h2 h3 h4 kk) (fun q => ?_)
    have K := (kf q).2 p e R s m args below meth c Q H locs ls n0 z0 C w hl h1 h2 h3 h4 kk
    rw [← hd.2] at K
    exact K⟩
theorem ev_if_ne {x : Int32} {off : Int} {tg : Nat} (hd : IX (md_c M) pc (.ifCond .ne off) 3 nx) (ht : (pc : Int) + off = (tg : Int)) (kt : ¬ x = 0 → Ev G d M tg lc st h v h') (kf : x = 0 → Ev G d M nx lc st h v h') : Ev G d M pc lc (.int x :: st) h v h' :=
  ⟨(Decidable.em (¬ x = 0)).elim (fun q => (kt q).1) (fun q => (kf (by first | exact q | (simpa using q))).1), fun p e R s m args below meth c Q H locs ls n0 z0 C w hl h1 h2 h3 h4 kk => by
    refine lv_if_ne C.1 C.2.1 hd.1 ht (fun q => (kt q).2 p e R s m args below meth c Q H locs ls n0 z0 C w hl h1 h2 h3 h4 kk) (fun q => ?_)
    have K := (kf q).2 p e R s m args below meth c Q H locs ls n0 z0 C w hl h1 h2 h3 h4 kk
    rw [← hd.2] at K
    exact K⟩
theorem ev_icmp_ne {x y : Int32} {off : Int} {tg : Nat} (hd : IX (md_c M) pc (.if_icmp .ne off) 3 nx) (ht : (pc : Int) + off = (tg : Int)) (kt : ¬ x = y → Ev G d M tg lc st h v h') (kf : x = y → Ev G d M nx lc st h v h') : Ev G d M pc lc (.int y :: .int x :: st) h v h' :=
  ⟨(Decidable.em (¬ x = y)).elim (fun q => (kt q).1) (fun q => (kf (by first | exact q | (simpa using q))).1), fun p e R s m args below meth c Q H locs ls n0 z0 C w hl h1 h2 h3 h4 kk => by
    refine lv_icmp_ne C.1 C.2.1 hd.1 ht (fun q => (kt q).2 p e R s m args below meth c Q H locs ls n0 z0 C w hl h1 h2 h3 h4 kk) (fun q => ?_)
    have K := (kf q).2 p e R s m args below meth c Q H locs ls n0 z0 C w hl h1 h2 h3 h4 kk
    rw [← hd.2] at K
    exact K⟩
theorem ev_if_lt {x : Int32} {off : Int} {tg : Nat} (hd : IX (md_c M) pc (.ifCond .lt off) 3 nx) (ht : (pc : Int) + off = (tg : Int)) (kt : x < 0 → Ev G d M tg lc st h v h') (kf : ¬ x < 0 → Ev G d M nx lc st h v h') : Ev G d M pc lc (.int x :: st) h v h' :=
  ⟨(Decidable.em (x < 0)).elim (fun q => (kt q).1) (fun q => (kf (by first | exact q | (simpa using q))).1), fun p e R s m args below meth c Q H locs ls n0 z0 C w hl h1 h2 h3 h4 kk => by
    refine lv_if_lt C.1 C.2.1 hd.1 ht (fun q => (kt q).2 p e R s m args below meth c Q H locs ls n0 z0 C w hl h1 h2 h3 h4 kk) (fun q => ?_)
    have K := (kf q).2 p e R s m args below meth c Q H locs ls n0 z0 C w hl h1 h2 h3 h4 kk
    rw [← hd.2] at K
    exact K⟩
theorem ev_icmp_lt {x y : Int32} {off : Int} {tg : Nat} (hd : IX (md_c M) pc (.if_icmp .lt off) 3 nx) (ht : (pc : Int) + off = (tg : Int)) (kt : x < y → Ev G d M tg lc st h v h') (kf : ¬ x < y → Ev G d M nx lc st h v h') : Ev G d M pc lc (.int y :: .int x :: st) h v h' :=
  ⟨(Decidable.em (x < y)).elim (fun q => (kt q).1) (fun q => (kf (by first | exact q | (simpa using q))).1), fun p e R s m args below meth c Q H locs ls n0 z0 C w hl h1 h2 h3 h4 kk => by
    refine lv_icmp_lt C.1 C.2.1 hd.1 ht (fun q => (kt q).2 p e R s m args below meth c Q H locs ls n0 z0 C w hl h1 h2 h3 h4 kk) (fun q => ?_)
    have K := (kf q).2 p e R s m args below meth c Q H locs ls n0 z0 C w hl h1 h2 h3 h4 kk
    rw [← hd.2] at K
    exact K⟩
theorem ev_if_ge {x : Int32} {off : Int} {tg : Nat} (hd : IX (md_c M) pc (.ifCond .ge off) 3 nx) (ht : (pc : Int) + off = (tg : Int)) (kt : 0 ≤ x → Ev G d M tg lc st h v h') (kf : ¬ 0 ≤ x → Ev G d M nx lc st h v h') : Ev G d M pc lc (.int x :: st) h v h' :=
  ⟨(Decidable.em (0 ≤ x)).elim (fun q => (kt q).1) (fun q => (kf (by first | exact q | (simpa using q))).1), fun p e R s m args below meth c Q H locs ls n0 z0 C w hl h1 h2 h3 h4 kk => by
    refine lv_if_ge C.1 C.2.1 hd.1 ht (fun q => (kt q).2 p e R s m args below meth c Q H locs ls n0 z0 C w hl h1 h2 h3 h4 kk) (fun q => ?_)
    have K := (kf q).2 p e R s m args below meth c Q H locs ls n0 z0 C w hl h1 h2 h3 h4 kk
    rw [← hd.2] at K
    exact K⟩
theorem ev_icmp_ge {x y : Int32} {off : Int} {tg : Nat} (hd : IX (md_c M) pc (.if_icmp .ge off) 3 nx) (ht : (pc : Int) + off = (tg : Int)) (kt : y ≤ x → Ev G d M tg lc st h v h') (kf : ¬ y ≤ x → Ev G d M nx lc st h v h') : Ev G d M pc lc (.int y :: .int x :: st) h v h' :=
  ⟨(Decidable.em (y ≤ x)).elim (fun q => (kt q).1) (fun q => (kf (by first | exact q | (simpa using q))).1), fun p e R s m args below meth c Q H locs ls n0 z0 C w hl h1 h2 h3 h4 kk => by
    refine lv_icmp_ge C.1 C.2.1 hd.1 ht (fun q => (kt q).2 p e R s m args below meth c Q H locs ls n0 z0 C w hl h1 h2 h3 h4 kk) (fun q => ?_)
    have K := (kf q).2 p e R s m args below meth c Q H locs ls n0 z0 C w hl h1 h2 h3 h4 kk
    rw [← hd.2] at K
    exact K⟩
theorem ev_if_gt {x : Int32} {off : Int} {tg : Nat} (hd : IX (md_c M) pc (.ifCond .gt off) 3 nx) (ht : (pc : Int) + off = (tg : Int)) (kt : 0 < x → Ev G d M tg lc st h v h') (kf : ¬ 0 < x → Ev G d M nx lc st h v h') : Ev G d M pc lc (.int x :: st) h v h' :=
  ⟨(Decidable.em (0 < x)).elim (fun q => (kt q).1) (fun q => (kf (by first | exact q | (simpa using q))).1), fun p e R s m args below meth c Q H locs ls n0 z0 C w hl h1 h2 h3 h4 kk => by
    refine lv_if_gt C.1 C.2.1 hd.1 ht (fun q => (kt q).2 p e R s m args below meth c Q H locs ls n0 z0 C w hl h1 h2 h3 h4 kk) (fun q => ?_)
    have K := (kf q).2 p e R s m args below meth c Q H locs ls n0 z0 C w hl h1 h2 h3 h4 kk
    rw [← hd.2] at K
    exact K⟩
theorem ev_icmp_gt {x y : Int32} {off : Int} {tg : Nat} (hd : IX (md_c M) pc (.if_icmp .gt off) 3 nx) (ht : (pc : Int) + off = (tg : Int)) (kt : y < x → Ev G d M tg lc st h v h') (kf : ¬ y < x → Ev G d M nx lc st h v h') : Ev G d M pc lc (.int y :: .int x :: st) h v h' :=
  ⟨(Decidable.em (y < x)).elim (fun q => (kt q).1) (fun q => (kf (by first | exact q | (simpa using q))).1), fun p e R s m args below meth c Q H locs ls n0 z0 C w hl h1 h2 h3 h4 kk => by
    refine lv_icmp_gt C.1 C.2.1 hd.1 ht (fun q => (kt q).2 p e R s m args below meth c Q H locs ls n0 z0 C w hl h1 h2 h3 h4 kk) (fun q => ?_)
    have K := (kf q).2 p e R s m args below meth c Q H locs ls n0 z0 C w hl h1 h2 h3 h4 kk
    rw [← hd.2] at K
    exact K⟩
theorem ev_if_le {x : Int32} {off : Int} {tg : Nat} (hd : IX (md_c M) pc (.ifCond .le off) 3 nx) (ht : (pc : Int) + off = (tg : Int)) (kt : x ≤ 0 → Ev G d M tg lc st h v h') (kf : ¬ x ≤ 0 → Ev G d M nx lc st h v h') : Ev G d M pc lc (.int x :: st) h v h' :=
  ⟨(Decidable.em (x ≤ 0)).elim (fun q => (kt q).1) (fun q => (kf (by first | exact q | (simpa using q))).1), fun p e R s m args below meth c Q H locs ls n0 z0 C w hl h1 h2 h3 h4 kk => by
    refine lv_if_le C.1 C.2.1 hd.1 ht (fun q => (kt q).2 p e R s m args below meth c Q H locs ls n0 z0 C w hl h1 h2 h3 h4 kk) (fun q => ?_)
    have K := (kf q).2 p e R s m args below meth c Q H locs ls n0 z0 C w hl h1 h2 h3 h4 kk
    rw [← hd.2] at K
    exact K⟩
theorem ev_icmp_le {x y : Int32} {off : Int} {tg : Nat} (hd : IX (md_c M) pc (.if_icmp .le off) 3 nx) (ht : (pc : Int) + off = (tg : Int)) (kt : x ≤ y → Ev G d M tg lc st h v h') (kf : ¬ x ≤ y → Ev G d M nx lc st h v h') : Ev G d M pc lc (.int y :: .int x :: st) h v h' :=
  ⟨(Decidable.em (x ≤ y)).elim (fun q => (kt q).1) (fun q => (kf (by first | exact q | (simpa using q))).1), fun p e R s m args below meth c Q H locs ls n0 z0 C w hl h1 h2 h3 h4 kk => by
    refine lv_icmp_le C.1 C.2.1 hd.1 ht (fun q => (kt q).2 p e R s m args below meth c Q H locs ls n0 z0 C w hl h1 h2 h3 h4 kk) (fun q => ?_)
    have K := (kf q).2 p e R s m args below meth c Q H locs ls n0 z0 C w hl h1 h2 h3 h4 kk
    rw [← hd.2] at K
    exact K⟩
theorem ev_tsIn {dflt lo hi : Int} {offs : Array Int} {len : Nat} {x : Int32} {off : Int} {tg : Nat} (hd : IX (md_c M) pc (.tableswitch dflt lo hi offs) len nx) (q1 : ¬ x.toInt < lo) (q2 : ¬ hi < x.toInt) (ho : offs[(x.toInt - lo).toNat]? = some off) (ht : (pc : Int) + off = (tg : Int)) (k : Ev G d M tg lc st h v h') : Ev G d M pc lc (.int x :: st) h v h' :=
  ⟨k.1, fun p e R s m args below meth c Q H locs ls n0 z0 C w hl h1 h2 h3 h4 kk => lv_tableIn C.1 C.2.1 hd.1 q1 q2 ho ht (k.2 p e R s m args below meth c Q H locs ls n0 z0 C w hl h1 h2 h3 h4 kk)⟩
theorem ev_tsOut {dflt lo hi : Int} {offs : Array Int} {len : Nat} {x : Int32} {tg : Nat} (hd : IX (md_c M) pc (.tableswitch dflt lo hi offs) len nx) (q1 : x.toInt < lo ∨ hi < x.toInt) (ht : (pc : Int) + dflt = (tg : Int)) (k : Ev G d M tg lc st h v h') : Ev G d M pc lc (.int x :: st) h v h' :=
  ⟨k.1, fun p e R s m args below meth c Q H locs ls n0 z0 C w hl h1 h2 h3 h4 kk => lv_tableOut C.1 C.2.1 hd.1 q1 ht (k.2 p e R s m args below meth c Q H locs ls n0 z0 C w hl h1 h2 h3 h4 kk)⟩
theorem ev_ifnull {a : Nat} {off : Int} (hd : IX (md_c M) pc (.ifnull off) 3 nx) (k : Ev G d M nx lc st h v h') : Ev G d M pc lc (.ref a :: st) h v h' :=
  ⟨k.1, fun p e R s m args below meth c Q H locs ls n0 z0 C w hl h1 h2 h3 h4 kk => by
    have K := k.2 p e R s m args below meth c Q H locs ls n0 z0 C w hl h1 h2 h3 h4 kk
    rw [← hd.2] at K
    exact lv_ifnull C.1 C.2.1 hd.1 K⟩
theorem ev_ifnonnullN {off : Int} (hd : IX (md_c M) pc (.ifnonnull off) 3 nx) (k : Ev G d M nx lc st h v h') : Ev G d M pc lc (.null :: st) h v h' :=
  ⟨k.1, fun p e R s m args below meth c Q H locs ls n0 z0 C w hl h1 h2 h3 h4 kk => by
    have K := k.2 p e R s m args below meth c Q H locs ls n0 z0 C w hl h1 h2 h3 h4 kk
    rw [← hd.2] at K
    exact lv_ifnonnullN C.1 C.2.1 hd.1 K⟩
theorem ev_ifnullN {off : Int} {tg : Nat} (hd : IX (md_c M) pc (.ifnull off) 3 nx) (ht : (pc : Int) + off = (tg : Int)) (k : Ev G d M tg lc st h v h') : Ev G d M pc lc (.null :: st) h v h' :=
  ⟨k.1, fun p e R s m args below meth c Q H locs ls n0 z0 C w hl h1 h2 h3 h4 kk => lv_ifnullN C.1 C.2.1 hd.1 ht (k.2 p e R s m args below meth c Q H locs ls n0 z0 C w hl h1 h2 h3 h4 kk)⟩
theorem ev_ifnonnull {a : Nat} {off : Int} {tg : Nat} (hd : IX (md_c M) pc (.ifnonnull off) 3 nx) (ht : (pc : Int) + off = (tg : Int)) (k : Ev G d M tg lc st h v h') : Ev G d M pc lc (.ref a :: st) h v h' :=
  ⟨k.1, fun p e R s m args below meth c Q H locs ls n0 z0 C w hl h1 h2 h3 h4 kk => lv_ifnonnull C.1 C.2.1 hd.1 ht (k.2 p e R s m args below meth c Q H locs ls n0 z0 C w hl h1 h2 h3 h4 kk)⟩
theorem ev_vret (hd : IX (md_c M) pc .return_ 1 nx) (hr : md_r M = none) : Ev G d M pc lc [] h none h :=
  ⟨⟨Nat.le_refl _, Nat.le_refl _⟩, fun p e R s m args below meth c Q H locs ls n0 z0 C w hl h1 h2 h3 h4 kk => kk H locs ls pc w (Or.inl ⟨rfl, hd.1, hr⟩)⟩
theorem ev_iret {x : Int32} {ty : FieldType} (hd : IX (md_c M) pc .ireturn 1 nx) (hr : md_r M = some ty) (hn : narrow ty (.int x) = .int x) : Ev G d M pc lc [.int x] h (some (.int x)) h :=
  ⟨⟨Nat.le_refl _, Nat.le_refl _⟩, fun p e R s m args below meth c Q H locs ls n0 z0 C w hl h1 h2 h3 h4 kk => kk H locs ls pc w (Or.inr (Or.inl ⟨x, ty, rfl, hd.1, hr, hn⟩))⟩
theorem ev_aret {u : Value} {n : String} (hd : IX (md_c M) pc .areturn 1 nx) (hr : md_r M = some (.object n)) (hu : u = .null ∨ ∃ a, u = .ref a) : Ev G d M pc lc [u] h (some u) h :=
  ⟨⟨Nat.le_refl _, Nat.le_refl _⟩, fun p e R s m args below meth c Q H locs ls n0 z0 C w hl h1 h2 h3 h4 kk => kk H locs ls pc w (Or.inr (Or.inr ⟨u, n, rfl, hu, hd.1, hr⟩))⟩
end
end
section
/-! ===== rows of the judgement that read and write the heap ===== -/
def FL (own : String) (idx ci k : Nat) : Prop := ci < 11 ∧ k < mm_nf ci ∧ (Cond.fieldLink own idx (mm_T ci k).1 (mm_T ci k).2.1 (mm_T ci k).2.2.1 ∈ gtb ∨ ∃ host, Cond.fieldLinkNest own idx (mm_T ci k).1 (mm_T ci k).2.1 (mm_T ci k).2.2.1 host ∈ lw_tbl)
def FP (M : MD) (idx ci k : Nat) : Prop := ci < 11 ∧ k < mm_nf ci ∧ Cond.fieldLink (md_o M) idx (mm_T ci k).1 (mm_T ci k).2.1 (mm_T ci k).2.2.1 ∈ gtb ∧ ((mm_T ci k).2.2.2 = false ∨ ((mm_T ci k).2.2.2 = true ∧ md_i M = true ∧ (mm_T ci k).1 = md_o M))
theorem mm_w_si {tc : Nat → ClassId} {bs : Nat} {h : MH} {a k : Nat} {x : Int32} (ha : a < mm_N h) : (mm_w tc bs h).set a (bs + a, mm_e tc bs (mm_si h a k x) a) = mm_w tc bs (mm_si h a k x) := mm_w_set (h' := mm_si h a k x) rfl (fun b hb => mm_si_e hb) ha
theorem mm_w_sr {tc : Nat → ClassId} {bs : Nat} {h : MH} {a k : Nat} {x : Option Nat} (ha : a < mm_N h) : (mm_w tc bs h).set a (bs + a, mm_e tc bs (mm_sr h a k x) a) = mm_w tc bs (mm_sr h a k x) := mm_w_set (h' := mm_sr h a k x) rfl (fun b hb => mm_sr_e hb) ha
theorem mm_w_no {tc : Nat → ClassId} {bs : Nat} {h : MH} {ci : Nat} : mm_w tc bs h ++ [(bs + mm_N h, mm_e tc bs (mm_no h ci) (mm_N h))] = mm_w tc bs (mm_no h ci) := mm_w_push (h' := mm_no h ci) rfl (fun b hb => mm_no_e hb)
theorem mm_w_na {tc : Nat → ClassId} {bs : Nat} {h : MH} {kd n : Nat} : mm_w tc bs h ++ [(bs + mm_N h, mm_e tc bs (mm_na h kd n) (mm_N h))] = mm_w tc bs (mm_na h kd n) := mm_w_push (h' := mm_na h kd n) rfl (fun b hb => mm_na_e hb)
theorem cv_rf (G : GG) (r : Option Nat) : cv G (va_rf r) = va_rf (r.map (fun q => gg_b G + q)) := by cases r <;> rfl
section
variable {G : GG} {d : Nat} {M : MD} {pc nx : Nat} {lc : List (Option Value)} {st : List Value} {h : MH} {v : Option Value} {h' : MH}
theorem ev_getI {ci k a idx : Nat} (hd : IX (md_c M) pc (.getfield idx) 3 nx) (hf : FL (md_o M) idx ci k) (hi : mm_ii ci k = true) (ha : a < mm_N h) (hk : mm_K h a = ci) (q : Ev G d M nx lc (.int (mm_I h a k) :: st) h v h') : Ev G d M pc lc (.ref a :: st) h v h' :=
  ⟨q.1, fun p e R s m args below meth c Q H locs ls n0 z0 C w hl h1 h2 h3 h4 kk => by
    have K := q.2 p e R s m args below meth c Q H locs ls n0 z0 C w hl h1 h2 h3 h4 kk
    rw [← hd.2] at K
    obtain ⟨hc, hkn, hf⟩ := hf
    have he : (mm_w (gg_t G) (gg_b G) h)[a]? = some (gg_b G + a, .inr (ci, mm_f (gg_b G) h a)) := by rw [mm_w_at ha, mm_e_obj hk hc]
    have hv : (mm_f (gg_b G) h a)[k]? = some (.int (mm_I h a k)) := by rw [mm_f_at (by rw [hk]; exact hkn)]; simp [mm_v, hk, hi]
    rcases hf with hf | ⟨host, hf⟩
    · exact va_get C.1 C.2.1 C.2.2.2.2.1 (mm_ws hc) C.2.2.2.1 C.2.2.2.2.2.2.1 w.1 a he (mm_cl hc) k hkn (C.2.2.2.2.1 _ hf) (fun _ h9 => h9) hv hd.1 K
    · exact va_getN C.1 C.2.1 C.2.2.2.2.1 (mm_ws hc) C.2.2.2.1 C.2.2.2.2.2.2.1 w.1 a he (mm_cl hc) k hkn (va_Nw.use rfl (C.2.2.2.2.2.1 _ hf rfl)) (fun _ h9 => h9) hv hd.1 K⟩
theorem ev_getR {ci k a b idx : Nat} (hd : IX (md_c M) pc (.getfield idx) 3 nx) (hf : FL (md_o M) idx ci k) (hi : mm_ii ci k = false) (ha : a < mm_N h) (hk : mm_K h a = ci) (hr : mm_R h a k = some b) (q : Ev G d M nx lc (.ref b :: st) h v h') : Ev G d M pc lc (.ref a :: st) h v h' :=
  ⟨q.1, fun p e R s m args below meth c Q H locs ls n0 z0 C w hl h1 h2 h3 h4 kk => by
    have K := q.2 p e R s m args below meth c Q H locs ls n0 z0 C w hl h1 h2 h3 h4 kk
    rw [← hd.2] at K
    obtain ⟨hc, hkn, hf⟩ := hf
    have he : (mm_w (gg_t G) (gg_b G) h)[a]? = some (gg_b G + a, .inr (ci, mm_f (gg_b G) h a)) := by rw [mm_w_at ha, mm_e_obj hk hc]
    have hv : (mm_f (gg_b G) h a)[k]? = some (cv G (.ref b)) := by rw [mm_f_at (by rw [hk]; exact hkn)]; simp [mm_v, hk, hi, hr, va_rf, cv]
    rcases hf with hf | ⟨host, hf⟩
    · exact va_get C.1 C.2.1 C.2.2.2.2.1 (mm_ws hc) C.2.2.2.1 C.2.2.2.2.2.2.1 w.1 a he (mm_cl hc) k hkn (C.2.2.2.2.1 _ hf) (fun _ h9 => h9) hv hd.1 K
    · exact va_getN C.1 C.2.1 C.2.2.2.2.1 (mm_ws hc) C.2.2.2.1 C.2.2.2.2.2.2.1 w.1 a he (mm_cl hc) k hkn (va_Nw.use rfl (C.2.2.2.2.2.1 _ hf rfl)) (fun _ h9 => h9) hv hd.1 K⟩
theorem ev_putI {ci k a idx : Nat} {x : Int32} (hd : IX (md_c M) pc (.putfield idx) 3 nx) (hf : FP M idx ci k) (hz : mm_ty ci k = .int ∨ (mm_ty ci k = .boolean ∧ (x = 0 ∨ x = 1))) (ha : a < mm_N h) (hk : mm_K h a = ci) (q : Ev G d M nx lc st (mm_si h a k x) v h') : Ev G d M pc lc (.int x :: .ref a :: st) h v h' :=
  ⟨q.1, fun p e R s m args below meth c Q H locs ls n0 z0 C w hl h1 h2 h3 h4 kk => by
    obtain ⟨hc, hkn, hf, hfin⟩ := hf
    have hi : mm_ii ci k = true := by rcases hz with hz | ⟨hz, -⟩ <;> simp [mm_ii, hz, mm_isI]
    have he : (mm_w (gg_t G) (gg_b G) h)[a]? = some (gg_b G + a, .inr (ci, mm_f (gg_b G) h a)) := by rw [mm_w_at ha, mm_e_obj hk hc]
    have hn : narrow (mm_ty ci k) (.int x) = .int x ∧ fits (mm_ty ci k) (.int x) = true := by
      rcases hz with hz | ⟨hz, hz2 | hz2⟩
      · rw [hz]; exact ⟨rfl, rfl⟩
      · rw [hz, hz2]; exact ⟨by decide, by decide⟩
      · rw [hz, hz2]; exact ⟨by decide, by decide⟩
    refine pu_put C.1 C.2.1 C.2.2.2.2.1 (mm_ws hc) (mm_ty ci) (mm_tyok hc) (mm_nm hc) C.2.2.2.1 C.2.2.2.2.2.2.1 w.1 mm_w_D w.2.1 a he (mm_cl hc) k hkn (C.2.2.2.2.1 _ hf) ?_ hn.1 hn.2 (by rw [mm_f_len, hk]; exact hkn) hd.1 (fun H1 locs1 hP1 hS1 hz1 => ?_)
    · rcases hfin with hfin | ⟨f1, f2, f3⟩
      · exact Or.inl hfin
      · exact Or.inr ⟨f1, C.2.2.2.2.2.2.2.2.1 f2, f3⟩
    · have e1 : (mm_f (gg_b G) h a).set k (cv G (.int x)) = mm_f (gg_b G) (mm_si h a k x) a := mm_f_set rfl (by simp [mm_v, si_K, hk, hi, si_I, cv]) (fun j hj => by simp [mm_v, si_K, si_R, si_I, hj])
      have e2 : mm_e (gg_t G) (gg_b G) (mm_si h a k x) a = .inr (ci, mm_f (gg_b G) (mm_si h a k x) a) := mm_e_obj (by rw [si_K]; exact hk) hc
      rw [e1, ← e2, mm_w_si ha] at hP1
      have K := q.2 p e R s m args below meth c Q H1 locs1 ls n0 z0 C ⟨hP1, hS1, hz1.trans w.2.2⟩ hl h1 h2 h3 h4 kk
      rw [← hd.2] at K
      exact K⟩
theorem ev_putR {ci k a b idx : Nat} (hd : IX (md_c M) pc (.putfield idx) 3 nx) (hf : FP M idx ci k) (hi : mm_ii ci k = false) (ha : a < mm_N h) (hk : mm_K h a = ci) (q : Ev G d M nx lc st (mm_sr h a k (some b)) v h') : Ev G d M pc lc (.ref b :: .ref a :: st) h v h' :=
  ⟨q.1, fun p e R s m args below meth c Q H locs ls n0 z0 C w hl h1 h2 h3 h4 kk => by
    obtain ⟨hc, hkn, hf, hfin⟩ := hf
    have he : (mm_w (gg_t G) (gg_b G) h)[a]? = some (gg_b G + a, .inr (ci, mm_f (gg_b G) h a)) := by rw [mm_w_at ha, mm_e_obj hk hc]
    have hn : narrow (mm_ty ci k) (cv G (.ref b)) = cv G (.ref b) ∧ fits (mm_ty ci k) (cv G (.ref b)) = true := by
      have hh := mm_tyk hc k hkn
      simp only [mm_ii] at hi
      rw [hi] at hh
      cases ht : mm_ty ci k <;> simp [ht, mm_isR] at hh <;> exact ⟨rfl, rfl⟩
    refine pu_put C.1 C.2.1 C.2.2.2.2.1 (mm_ws hc) (mm_ty ci) (mm_tyok hc) (mm_nm hc) C.2.2.2.1 C.2.2.2.2.2.2.1 w.1 mm_w_D w.2.1 a he (mm_cl hc) k hkn (C.2.2.2.2.1 _ hf) ?_ hn.1 hn.2 (by rw [mm_f_len, hk]; exact hkn) hd.1 (fun H1 locs1 hP1 hS1 hz1 => ?_)
    · rcases hfin with hfin | ⟨f1, f2, f3⟩
      · exact Or.inl hfin
      · exact Or.inr ⟨f1, C.2.2.2.2.2.2.2.2.1 f2, f3⟩
    · have e1 : (mm_f (gg_b G) h a).set k (cv G (.ref b)) = mm_f (gg_b G) (mm_sr h a k (some b)) a := mm_f_set rfl (by simp [mm_v, sr_K, hk, hi, sr_R, va_rf, cv]) (fun j hj => by simp [mm_v, sr_K, sr_R, sr_I, hj])
      have e2 : mm_e (gg_t G) (gg_b G) (mm_sr h a k (some b)) a = .inr (ci, mm_f (gg_b G) (mm_sr h a k (some b)) a) := mm_e_obj (by rw [sr_K]; exact hk) hc
      rw [e1, ← e2, mm_w_sr ha] at hP1
      have K := q.2 p e R s m args below meth c Q H1 locs1 ls n0 z0 C ⟨hP1, hS1, hz1.trans w.2.2⟩ hl h1 h2 h3 h4 kk
      rw [← hd.2] at K
      exact K⟩
theorem ev_iald {a : Nat} {i : Int32} (hd : IX (md_c M) pc .iaload 1 nx) (ha : a < mm_N h) (hk : mm_K h a = 11) (hin : vp_in i (mm_L h a)) (q : Ev G d M nx lc (.int (mm_I h a i.toNatClampNeg) :: st) h v h') : Ev G d M pc lc (.int i :: .ref a :: st) h v h' :=
  ⟨q.1, fun p e R s m args below meth c Q H locs ls n0 z0 C w hl h1 h2 h3 h4 kk => by
    have K := q.2 p e R s m args below meth c Q H locs ls n0 z0 C w hl h1 h2 h3 h4 kk
    rw [← hd.2] at K
    have he : (mm_w (gg_t G) (gg_b G) h)[a]? = some (gg_b G + a, .inl (gg_t G 11, mm_L h a, .inl (mm_I h a))) := by rw [mm_w_at ha, mm_e_int (Or.inl hk), hk]
    exact va_iald C.1 C.2.1 C.2.2.2.2.2.2.1 w.1 a 0 he rfl hin hd.1 K⟩
theorem ev_bald {a : Nat} {i : Int32} (hd : IX (md_c M) pc .baload 1 nx) (ha : a < mm_N h) (hk : mm_K h a = 12) (hin : vp_in i (mm_L h a)) (q : Ev G d M nx lc (.int (mm_I h a i.toNatClampNeg) :: st) h v h') : Ev G d M pc lc (.int i :: .ref a :: st) h v h' :=
  ⟨q.1, fun p e R s m args below meth c Q H locs ls n0 z0 C w hl h1 h2 h3 h4 kk => by
    have K := q.2 p e R s m args below meth c Q H locs ls n0 z0 C w hl h1 h2 h3 h4 kk
    rw [← hd.2] at K
    have he : (mm_w (gg_t G) (gg_b G) h)[a]? = some (gg_b G + a, .inl (gg_t G 12, mm_L h a, .inl (mm_I h a))) := by rw [mm_w_at ha, mm_e_int (Or.inr hk), hk]
    exact va_zald C.1 C.2.1 C.2.2.2.2.2.2.1 w.1 a 1 he rfl hin hd.1 K⟩
theorem ev_aald {a b : Nat} {i : Int32} (hd : IX (md_c M) pc .aaload 1 nx) (ha : a < mm_N h) (hk : mm_K h a = 13 ∨ mm_K h a = 14 ∨ mm_K h a = 15) (hin : vp_in i (mm_L h a)) (hr : mm_R h a i.toNatClampNeg = some b) (q : Ev G d M nx lc (.ref b :: st) h v h') : Ev G d M pc lc (.int i :: .ref a :: st) h v h' :=
  ⟨q.1, fun p e R s m args below meth c Q H locs ls n0 z0 C w hl h1 h2 h3 h4 kk => by
    have K := q.2 p e R s m args below meth c Q H locs ls n0 z0 C w hl h1 h2 h3 h4 kk
    rw [← hd.2] at K
    have he : (mm_w (gg_t G) (gg_b G) h)[a]? = some (gg_b G + a, .inl (gg_t G (mm_K h a), mm_L h a, .inr (.inr (.inr (.inr (fun i => (mm_R h a i).map (fun q => gg_b G + q))))))) := by rw [mm_w_at ha, mm_e_ref (by omega)]
    have hval : va_rf ((mm_R h a i.toNatClampNeg).map (fun q => gg_b G + q)) = cv G (.ref b) := by rw [hr]; rfl
    rcases hk with hk | hk | hk
    · rw [hk] at he
      refine va_aldq C.1 C.2.1 C.2.2.2.2.2.2.1 w.1 a 2 he rfl hin hd.1 ?_
      rw [hval]; exact K
    · rw [hk] at he
      refine va_aldq C.1 C.2.1 C.2.2.2.2.2.2.1 w.1 a 3 he rfl hin hd.1 ?_
      rw [hval]; exact K
    · rw [hk] at he
      refine va_aldq C.1 C.2.1 C.2.2.2.2.2.2.1 w.1 a 4 he rfl hin hd.1 ?_
      rw [hval]; exact K⟩
theorem ev_iast {a : Nat} {i x : Int32} (hd : IX (md_c M) pc .iastore 1 nx) (ha : a < mm_N h) (hk : mm_K h a = 11) (hin : vp_in i (mm_L h a)) (q : Ev G d M nx lc st (mm_si h a i.toNatClampNeg x) v h') : Ev G d M pc lc (.int x :: .int i :: .ref a :: st) h v h' :=
  ⟨q.1, fun p e R s m args below meth c Q H locs ls n0 z0 C w hl h1 h2 h3 h4 kk => by
    have he : (mm_w (gg_t G) (gg_b G) h)[a]? = some (gg_b G + a, .inl (gg_t G 11, mm_L h a, .inl (mm_I h a))) := by rw [mm_w_at ha, mm_e_int (Or.inl hk), hk]
    refine pu_iast C.1 C.2.1 C.2.2.2.2.2.2.1 w.1 mm_w_D w.2.1 a 0 he rfl hin hd.1 (fun H1 locs1 hP1 hS1 hz1 => ?_)
    have e2 : mm_e (gg_t G) (gg_b G) (mm_si h a i.toNatClampNeg x) a = .inl (gg_t G 11, mm_L h a, .inl (upd (mm_I h a) i.toNatClampNeg x)) := by
      rw [mm_e_int (by rw [si_K]; exact Or.inl hk), si_K, hk, si_L]
      simp [mm_si, mm_I, va_up]
    rw [← e2, mm_w_si ha] at hP1
    have K := q.2 p e R s m args below meth c Q H1 locs1 ls n0 z0 C ⟨hP1, hS1, hz1.trans w.2.2⟩ hl h1 h2 h3 h4 kk
    rw [← hd.2] at K
    exact K⟩
theorem ev_bast {a : Nat} {i x : Int32} (hd : IX (md_c M) pc .bastore 1 nx) (hx : x = 0 ∨ x = 1) (ha : a < mm_N h) (hk : mm_K h a = 12) (hin : vp_in i (mm_L h a)) (q : Ev G d M nx lc st (mm_si h a i.toNatClampNeg x) v h') : Ev G d M pc lc (.int x :: .int i :: .ref a :: st) h v h' :=
  ⟨q.1, fun p e R s m args below meth c Q H locs ls n0 z0 C w hl h1 h2 h3 h4 kk => by
    have he : (mm_w (gg_t G) (gg_b G) h)[a]? = some (gg_b G + a, .inl (gg_t G 12, mm_L h a, .inl (mm_I h a))) := by rw [mm_w_at ha, mm_e_int (Or.inr hk), hk]
    refine pu_zast C.1 C.2.1 C.2.2.2.2.2.2.1 w.1 mm_w_D w.2.1 a 1 he rfl (by rcases hx with rfl | rfl <;> decide) hin hd.1 (fun H1 locs1 hP1 hS1 hz1 => ?_)
    have e2 : mm_e (gg_t G) (gg_b G) (mm_si h a i.toNatClampNeg x) a = .inl (gg_t G 12, mm_L h a, .inl (upd (mm_I h a) i.toNatClampNeg x)) := by
      rw [mm_e_int (by rw [si_K]; exact Or.inr hk), si_K, hk, si_L]
      simp [mm_si, mm_I, va_up]
    rw [← e2, mm_w_si ha] at hP1
    have K := q.2 p e R s m args below meth c Q H1 locs1 ls n0 z0 C ⟨hP1, hS1, hz1.trans w.2.2⟩ hl h1 h2 h3 h4 kk
    rw [← hd.2] at K
    exact K⟩
theorem ev_aast {a b : Nat} {i : Int32} (hd : IX (md_c M) pc .aastore 1 nx) (ha : a < mm_N h) (hb : b < mm_N h) (hk : (mm_K h a = 13 ∧ mm_K h b = 2) ∨ (mm_K h a = 14 ∧ mm_K h b = 5) ∨ (mm_K h a = 15 ∧ mm_K h b = 7)) (hin : vp_in i (mm_L h a)) (q : Ev G d M nx lc st (mm_sr h a i.toNatClampNeg (some b)) v h') : Ev G d M pc lc (.ref b :: .int i :: .ref a :: st) h v h' :=
  ⟨q.1, fun p e R s m args below meth c Q H locs ls n0 z0 C w hl h1 h2 h3 h4 kk => by
    have he : (mm_w (gg_t G) (gg_b G) h)[a]? = some (gg_b G + a, .inl (gg_t G (mm_K h a), mm_L h a, .inr (.inr (.inr (.inr (fun i => (mm_R h a i).map (fun q => gg_b G + q))))))) := by rw [mm_w_at ha, mm_e_ref (by omega)]
    have hbe : (mm_w (gg_t G) (gg_b G) h)[b]? = some (gg_b G + b, .inr (mm_K h b, mm_f (gg_b G) h b)) := by rw [mm_w_at hb, mm_e_obj rfl (by omega)]
    have e2 : mm_e (gg_t G) (gg_b G) (mm_sr h a i.toNatClampNeg (some b)) a = .inl (gg_t G (mm_K h a), mm_L h a, .inr (.inr (.inr (.inr (va_up (fun i => (mm_R h a i).map (fun q => gg_b G + q)) i.toNatClampNeg (some (gg_b G + b))))))) := by
      rw [mm_e_ref (by rw [sr_K]; omega), sr_K, sr_L]
      congr 7
      funext j
      simp only [sr_R, true_and, va_up]
      by_cases e : j = i.toNatClampNeg <;> simp [e]
    have fin : ∀ (H1 : Heap) (locs1 : List Loc), va_P (gg_D G) vwCl ((mm_w (gg_t G) (gg_b G) h).set a (gg_b G + a, .inl (gg_t G (mm_K h a), mm_L h a, .inr (.inr (.inr (.inr (va_up (fun i => (mm_R h a i).map (fun q => gg_b G + q)) i.toNatClampNeg (some (gg_b G + b))))))))) H1 → va_S (fun q => gg_b G ≤ q) s.heap H1 locs1 → H1.size = H.size → W p (gg_l G) e R s m args below meth c H1 locs1 (mm_N h - n0) (mm_S h - z0) Q (F0 m (pc + 1) ls (st.map (cv G))) := fun H1 locs1 hP1 hS1 hz1 => by
      rw [← e2, mm_w_sr ha] at hP1
      have K := q.2 p e R s m args below meth c Q H1 locs1 ls n0 z0 C ⟨hP1, hS1, hz1.trans w.2.2⟩ hl h1 h2 h3 h4 kk
      rw [← hd.2] at K
      exact K
    rcases hk with ⟨k1, k2⟩ | ⟨k1, k2⟩ | ⟨k1, k2⟩
    · rw [k1] at he fin
      rw [k2] at hbe
      exact pu_aast C.1 C.2.1 C.2.2.2.2.2.2.1 w.1 mm_w_D w.2.1 a 2 b 2 (r := (RX2, TX2, 3)) he rfl hbe rfl hin hd.1 fin
    · rw [k1] at he fin
      rw [k2] at hbe
      exact pu_aast C.1 C.2.1 C.2.2.2.2.2.2.1 w.1 mm_w_D w.2.1 a 3 b 5 (r := (RX5, TX5, 6)) he rfl hbe rfl hin hd.1 fin
    · rw [k1] at he fin
      rw [k2] at hbe
      exact pu_aast C.1 C.2.1 C.2.2.2.2.2.2.1 w.1 mm_w_D w.2.1 a 4 b 7 (r := (RX7, TX7, 6)) he rfl hbe rfl hin hd.1 fin⟩
theorem ev_alen {a : Nat} (hd : IX (md_c M) pc .arraylength 1 nx) (ha : a < mm_N h) (hk : mm_K h a = 11) (q : Ev G d M nx lc (.int (Int32.ofNat (mm_L h a)) :: st) h v h') : Ev G d M pc lc (.ref a :: st) h v h' :=
  ⟨q.1, fun p e R s m args below meth c Q H locs ls n0 z0 C w hl h1 h2 h3 h4 kk => by
    have K := q.2 p e R s m args below meth c Q H locs ls n0 z0 C w hl h1 h2 h3 h4 kk
    rw [← hd.2] at K
    have he : (mm_w (gg_t G) (gg_b G) h)[a]? = some (gg_b G + a, .inl (gg_t G 11, mm_L h a, .inl (mm_I h a))) := by rw [mm_w_at ha, mm_e_int (Or.inl hk), hk]
    exact va_alen C.1 C.2.1 C.2.2.2.2.2.2.1 w.1 a 0 he rfl rfl hd.1 K⟩
/-- the script -/
theorem ev_sld {z : Int64} {i : Int32} (hM : md_o M = RL) (hd : IX (md_c M) pc .iaload 1 nx) (hin : vp_in i (gg_L G)) (q : Ev G d M nx lc (.int (gg_x G i.toNatClampNeg) :: st) h v h') : Ev G d M pc lc (.int i :: .long z :: st) h v h' :=
  ⟨q.1, fun p e R s m args below meth c Q H locs ls n0 z0 C w hl h1 h2 h3 h4 kk => by
    have K := q.2 p e R s m args below meth c Q H locs ls n0 z0 C w hl h1 h2 h3 h4 kk
    rw [← hd.2] at K
    obtain ⟨hX, hb⟩ := C.2.2.2.2.2.2.2.2.2.2 hM
    exact va_sld C.1 C.2.1 hX (Nat.lt_of_lt_of_le hb C.2.2.2.2.2.2.2.1) (Nat.not_le.mpr hb) w.2.1 hin hd.1 K⟩
theorem ev_slen {z : Int64} (hM : md_o M = RL) (hd : IX (md_c M) pc .arraylength 1 nx) (q : Ev G d M nx lc (.int (Int32.ofNat (gg_L G)) :: st) h v h') : Ev G d M pc lc (.long z :: st) h v h' :=
  ⟨q.1, fun p e R s m args below meth c Q H locs ls n0 z0 C w hl h1 h2 h3 h4 kk => by
    have K := q.2 p e R s m args below meth c Q H locs ls n0 z0 C w hl h1 h2 h3 h4 kk
    rw [← hd.2] at K
    obtain ⟨hX, hb⟩ := C.2.2.2.2.2.2.2.2.2.2 hM
    exact va_slen C.1 C.2.1 hX (Nat.lt_of_lt_of_le hb C.2.2.2.2.2.2.2.1) (Nat.not_le.mpr hb) w.2.1 hd.1 K⟩
/-- new objects and arrays -/
def NC (own : String) (idx ci : Nat) : Prop := ci < 11 ∧ Cond.classLink own idx (mm_C ci) ∈ gtb ∧ Cond.instantiable (mm_C ci) (mm_nf ci) ∈ gtb ∧ Cond.initialized (mm_C ci) ∈ gtb
theorem no_K (h : MH) (ci : Nat) : mm_K (mm_no h ci) (mm_N h) = ci := by show va_up _ _ _ _ = _; simp [va_up]
theorem na_K (h : MH) (kd n : Nat) : mm_K (mm_na h kd n) (mm_N h) = kd := by show va_up _ _ _ _ = _; simp [va_up]
theorem na_L (h : MH) (kd n : Nat) : mm_L (mm_na h kd n) (mm_N h) = n := by show va_up _ _ _ _ = _; simp [va_up]
theorem ev_new {ci idx : Nat} (hd : IX (md_c M) pc (.new idx) 3 nx) (hc : NC (md_o M) idx ci) (q : Ev G d M nx lc (.ref (mm_N h) :: st) (mm_no h ci) v h') : Ev G d M pc lc st h v h' := by
  have m1 : mm_N h + 1 ≤ mm_N h' := q.1.1
  have m2 : mm_S h + mm_nf ci ≤ mm_S h' := q.1.2
  refine ⟨⟨by omega, by omega⟩, fun p e R s m args below meth c Q H locs ls n0 z0 C w hl h1 h2 h3 h4 kk => ?_⟩
  obtain ⟨hc, w1, w2, w3⟩ := hc
  refine pu_new C.1 C.2.1 C.2.2.2.2.1 (mm_ws hc) (mm_ty ci) (mm_tyok hc) C.2.2.2.1 (C.2.2.2.2.1 _ w1) (C.2.2.2.2.1 _ w2) (C.2.2.2.2.1 _ w3) C.2.2.2.2.2.2.1 w.1 w.2.1 (mm_cl hc) (fs := mm_f (gg_b G) (mm_no h ci) (mm_N h)) (fun j hj => ?_) (by omega) (by omega) hd.1 (fun H1 hP1 hS1 hz1 => ?_)
  · have e1 : (mm_f (gg_b G) (mm_no h ci) (mm_N h))[j]? = some (mm_v (gg_b G) (mm_no h ci) (mm_N h) j) := mm_f_at (by rw [no_K]; exact hj)
    rw [mm_dv (mm_tyk hc j hj)]
    simp only [vp_V, List.getD, e1, Option.getD_some, mm_v, no_K, mm_ii]
    have e2 : mm_I (mm_no h ci) (mm_N h) j = 0 := by simp [mm_no, mm_I, mm_N, va_up]
    have e3 : mm_R (mm_no h ci) (mm_N h) j = none := by simp [mm_no, mm_R, mm_N, va_up]
    rw [e2, e3]; rfl
  · have e2 : mm_e (gg_t G) (gg_b G) (mm_no h ci) (mm_N h) = .inr (ci, mm_f (gg_b G) (mm_no h ci) (mm_N h)) := mm_e_obj (no_K h ci) hc
    rw [w.2.2, ← e2, mm_w_no] at hP1
    have K := q.2 p e R s m args below meth c Q H1 locs ls n0 z0 C ⟨hP1, hS1, by rw [hz1, w.2.2]; rfl⟩ hl (Nat.le_succ_of_le h1) (Nat.le_trans h2 (Nat.le_add_right _ _)) h3 h4 kk
    rw [← hd.2] at K
    have c1 : mm_N (mm_no h ci) - n0 = mm_N h - n0 + 1 := by show mm_N h + 1 - n0 = _; omega
    have c2 : mm_S (mm_no h ci) - z0 = mm_S h - z0 + mm_nf ci := by show mm_S h + mm_nf ci - z0 = _; omega
    rw [c1, c2] at K
    rw [w.2.2]
    exact K
theorem ev_newa {kd : Nat} {at_ : ArrayType} {n : Int32} (hd : IX (md_c M) pc (.newarray at_) 2 nx) (ht : (kd = 11 ∧ newarray.typeOf at_ = .int) ∨ (kd = 12 ∧ newarray.typeOf at_ = .boolean)) (hw : Cond.arrayClass (newarray.typeOf at_) ∈ gtb) (hn : ¬ n < 0) (hs : n.toNatClampNeg ≤ 100000) (q : Ev G d M nx lc (.ref (mm_N h) :: st) (mm_na h kd n.toNatClampNeg) v h') : Ev G d M pc lc (.int n :: st) h v h' := by
  have m1 : mm_N h + 1 ≤ mm_N h' := q.1.1
  have m2 : mm_S h + n.toNatClampNeg ≤ mm_S h' := q.1.2
  refine ⟨⟨by omega, by omega⟩, fun p e R s m args below meth c Q H locs ls n0 z0 C w hl h1 h2 h3 h4 kk => ?_⟩
  have hcb : n.toNatClampNeg * componentBytes (newarray.typeOf at_) ≤ 536870912 := by
    rcases ht with ⟨-, ht⟩ | ⟨-, ht⟩ <;> rw [ht] <;> simp [componentBytes] <;> omega
  have hdf : defaultValue (newarray.typeOf at_) = .int 0 := by rcases ht with ⟨-, ht⟩ | ⟨-, ht⟩ <;> rw [ht] <;> rfl
  have hfc : s.vm.findClass ("[" ++ (newarray.typeOf at_).toString) = some (gg_t G kd) := by
    rcases ht with ⟨rfl, ht⟩ | ⟨rfl, ht⟩
    · rw [ht]; exact (C.2.2.2.2.2.2.1.2 0 _ rfl).2
    · rw [ht]; exact (C.2.2.2.2.2.2.1.2 1 _ rfl).2
  refine pu_newa C.1 C.2.1 (C.2.2.2.2.1 _ hw) rfl w.1 w.2.1 (a0 := (n.toNatClampNeg, .inl (fun _ => 0))) (fun cA => by rw [vp_cell_i, hdf]) hn rfl hcb (by omega) (by omega) hfc hd.1 (fun H1 hP1 hS1 hz1 => ?_)
  have hkd : mm_K (mm_na h kd n.toNatClampNeg) (mm_N h) = 11 ∨ mm_K (mm_na h kd n.toNatClampNeg) (mm_N h) = 12 := by rw [na_K]; rcases ht with ⟨rfl, -⟩ | ⟨rfl, -⟩ <;> simp
  have e3 : mm_I (mm_na h kd n.toNatClampNeg) (mm_N h) = fun _ => 0 := by show va_up _ _ _ _ = _; simp [va_up]
  have e2 : mm_e (gg_t G) (gg_b G) (mm_na h kd n.toNatClampNeg) (mm_N h) = .inl (gg_t G kd, n.toNatClampNeg, .inl (fun _ => 0)) := by rw [mm_e_int hkd, na_K, na_L, e3]
  rw [w.2.2, ← e2, mm_w_na] at hP1
  have K := q.2 p e R s m args below meth c Q H1 locs ls n0 z0 C ⟨hP1, hS1, by rw [hz1, w.2.2]; rfl⟩ hl (Nat.le_succ_of_le h1) (Nat.le_trans h2 (Nat.le_add_right _ _)) h3 h4 kk
  rw [← hd.2] at K
  have c1 : mm_N (mm_na h kd n.toNatClampNeg) - n0 = mm_N h - n0 + 1 := by show mm_N h + 1 - n0 = _; omega
  have c2 : mm_S (mm_na h kd n.toNatClampNeg) - z0 = mm_S h - z0 + n.toNatClampNeg := by show mm_S h + n.toNatClampNeg - z0 = _; omega
  rw [c1, c2] at K
  rw [w.2.2]
  exact K
theorem ev_newr {kd idx : Nat} {C0 : String} {n : Int32} (hd : IX (md_c M) pc (.anewarray idx) 3 nx) (ht : (kd = 13 ∧ C0 = RX2) ∨ (kd = 14 ∧ C0 = RX5) ∨ (kd = 15 ∧ C0 = RX7)) (hw : Cond.classLink (md_o M) idx C0 ∈ gtb) (ho : Cond.arrayOver (.object C0) ∈ lw_tbl) (hn : ¬ n < 0) (hs : n.toNatClampNeg ≤ 100000) (q : Ev G d M nx lc (.ref (mm_N h) :: st) (mm_na h kd n.toNatClampNeg) v h') : Ev G d M pc lc (.int n :: st) h v h' := by
  have m1 : mm_N h + 1 ≤ mm_N h' := q.1.1
  have m2 : mm_S h + n.toNatClampNeg ≤ mm_S h' := q.1.2
  refine ⟨⟨by omega, by omega⟩, fun p e R s m args below meth c Q H locs ls n0 z0 C w hl h1 h2 h3 h4 kk => ?_⟩
  have hfc : s.vm.findClass ("[" ++ (FieldType.object C0).toString) = some (gg_t G kd) := by
    rcases ht with ⟨rfl, rfl⟩ | ⟨rfl, rfl⟩ | ⟨rfl, rfl⟩
    · obtain ⟨_, _, _, _, _, h9⟩ := (C.2.2.2.2.2.2.1.2 2 _ rfl).2; exact h9
    · obtain ⟨_, _, _, _, _, h9⟩ := (C.2.2.2.2.2.2.1.2 3 _ rfl).2; exact h9
    · obtain ⟨_, _, _, _, _, h9⟩ := (C.2.2.2.2.2.2.1.2 4 _ rfl).2; exact h9
  have hkd : 13 ≤ kd := by rcases ht with ⟨rfl, -⟩ | ⟨rfl, -⟩ | ⟨rfl, -⟩ <;> omega
  refine pu_newr C.1 C.2.1 C.2.2.2.1 (C.2.2.2.2.1 _ hw) (C.2.2.2.2.2.1 _ ho rfl) w.1 w.2.1 hn rfl (by omega) (by omega) (by omega) hfc hd.1 (fun H1 hP1 hS1 hz1 => ?_)
  have e3 : mm_R (mm_na h kd n.toNatClampNeg) (mm_N h) = fun _ => none := by show va_up _ _ _ _ = _; simp [va_up]
  have e2 : mm_e (gg_t G) (gg_b G) (mm_na h kd n.toNatClampNeg) (mm_N h) = .inl (gg_t G kd, n.toNatClampNeg, .inr (.inr (.inr (.inr (fun _ => none))))) := by rw [mm_e_ref (by rw [na_K]; exact hkd), na_K, na_L, e3]; rfl
  rw [w.2.2, ← e2, mm_w_na] at hP1
  have K := q.2 p e R s m args below meth c Q H1 locs ls n0 z0 C ⟨hP1, hS1, by rw [hz1, w.2.2]; rfl⟩ hl (Nat.le_succ_of_le h1) (Nat.le_trans h2 (Nat.le_add_right _ _)) h3 h4 kk
  rw [← hd.2] at K
  have c1 : mm_N (mm_na h kd n.toNatClampNeg) - n0 = mm_N h - n0 + 1 := by show mm_N h + 1 - n0 = _; omega
  have c2 : mm_S (mm_na h kd n.toNatClampNeg) - z0 = mm_S h - z0 + n.toNatClampNeg := by show mm_S h + n.toNatClampNeg - z0 = _; omega
  rw [c1, c2] at K
  rw [w.2.2]
  exact K
end
end
section
/-! ===== calls ===== -/
def md_ws (M : MD) : List Cond := .code (md_y M) (md_c M) (md_l M) (md_r M) :: gtb
def ent (M : MD) (vs : List Value) : List (Option Value) := vs.map some ++ List.replicate (md_l M - vs.length) none
/-- what the tables say of a method -/
def MOk (M : MD) : Prop := plainName (md_y M).cls = true ∧ Cond.code (md_y M) (md_c M) (md_l M) (md_r M) ∈ gtb ∧ Cond.initialized (md_y M).cls ∈ gtb ∧ (md_y M).cls = md_o M ∧ (md_i M = true → (md_y M).name = "<init>") ∧ md_l M ≤ 21 ∧ ((md_y M).cls ≠ "java/lang/invoke/MethodHandle" ∧ (md_y M).cls ≠ "java/lang/invoke/VarHandle") ∧ md_o M ≠ RL
def cc_P (G : GG) (vs : List Value) (h : MH) : Array Value → State → Prop := va_Pc (vs.map (cv G)) (fun U => U.heap.size = gg_b G + mm_N h ∧ va_P (gg_D G) vwCl (mm_w (gg_t G) (gg_b G) h) U.heap ∧ va_K (gg_D G) vwCl (gg_tys G) U ∧ NW U)
def cc_Q (G : GG) (v : Option Value) (h' : MH) : Array Value → State → Outcome → State → Prop := fun _ s0 oc t => oc = .returned (v.map (cv G)) ∧ va_P (gg_D G) vwCl (mm_w (gg_t G) (gg_b G) h') t.heap ∧ t.heap.size = gg_b G + mm_N h' ∧ va_F (fun q => gg_b G ≤ q) s0 t
def cc_R (d : Nat) (h h' : MH) : Room := { frames := d, cells := mm_N h' - mm_N h, slots := mm_S h' - mm_S h, locals := 40 * d }
theorem lg_sl_map (G : GG) (vs : List Value) : (lg_sl (vs.map (cv G))).length = vs.length := by
  induction vs with
  | nil => rfl
  | cons v t ih =>
    have hc := cv_cat G v
    have hc2 : ¬ (cv G v).category = 2 := by omega
    simp only [List.map_cons, List.length_cons]
    rw [← ih]
    simp [lg_sl, hc2]
theorem lv_args_in (G : GG) : ∀ (vs : List Value) (j i : Nat) (v : Value), vs[i]? = some v → (j + i, cv G v) ∈ lv_args j (vs.map (cv G)) := by
  intro vs
  induction vs with
  | nil => intro j i v h; simp at h
  | cons w t ih =>
    intro j i v h
    have hc2 : ¬ (cv G w).category = 2 := by have := cv_cat G w; omega
    simp only [List.map_cons, lv_args, if_neg hc2]
    cases i with
    | zero => simp at h; subst h; exact List.mem_cons_self
    | succ i =>
      have h2 : t[i]? = some v := by simpa using h
      have := ih (j + 1) i v h2
      rw [show j + (i + 1) = j + 1 + i by omega]
      exact List.mem_cons_of_mem _ this
theorem mm_l_ent {G : GG} {M : MD} {vs : List Value} (hn : vs.length ≤ md_l M) : mm_l G (md_l M) ((lg_sl (vs.map (cv G)) ++ List.replicate (md_l M - (lg_sl (vs.map (cv G))).length) Slot.unset).toArray) (ent M vs) := by
  have h := lv_entry (vs.map (cv G)) (n := md_l M) (by rw [lg_sl_map]; exact hn)
  refine ⟨h.1, h.2.1, by simp [ent]; omega, fun i v hv => ?_⟩
  have hi : vs[i]? = some v := by
    by_cases hlt : i < vs.length
    · rw [ent, List.getElem?_append_left (by simpa using hlt), List.getElem?_map] at hv
      cases hx : vs[i]? with
      | none => rw [hx] at hv; simp at hv
      | some u => rw [hx] at hv; simp at hv; rw [hv]
    · rw [ent, List.getElem?_append_right (by simpa using Nat.not_lt.mp hlt)] at hv
      have := List.getElem?_replicate (a := (none : Option Value)) (n := md_l M - vs.length) (i := i - (vs.map some).length)
      rw [this] at hv
      split at hv <;> simp at hv
  have := lv_args_in G vs 0 i v hi
  rw [Nat.zero_add] at this
  exact h.2.2 _ this
theorem ev_met {G : GG} {d : Nat} {M : MD} {vs : List Value} {h : MH} {v : Option Value} {h' : MH} (hM : MOk M) (hn : vs.length ≤ md_l M) (E : Ev G d M 0 (ent M vs) [] h v h') :
    Met (gg_l G) (md_y M) (md_ws M) (cc_R d h h') (cc_P G vs h) (cc_Q G v h') (mm_N h' - mm_N h) (mm_S h' - mm_S h) (fun q => gg_b G ≤ q) := by
  refine Met.ofW (cc := md_c M) (maxL := md_l M) (ret := md_r M) hM.1 rfl ?_
  intro p e s m args below meth c s₁ B hml hv
  obtain ⟨rfl, hsz, hP, hK, hN⟩ := hv
  have hts0 := atoms_spec (ws := md_ws M) B.pre
  have hown : s.vm.findClass (md_y M).cls = some m.cls := findClass_of_methodNamed B.named
  have hlocks := B.notSynchronized
  have hr := B.returns
  rw [lg_entry_eq]
  have C : Cx G d M p (headSpec (md_ws M) (cc_R d h h')).room s m ((vs.map (cv G)).toArray) meth c := by
    refine ⟨B.exec, B.bytes, hml, by rw [← hM.2.2.2.1]; exact hown, fun w hw => hts0 w (List.mem_cons_of_mem _ hw), hN, hK, by omega, fun hi => ?_, ⟨Nat.le_refl _, Nat.le_refl _⟩, fun hl => absurd hl hM.2.2.2.2.2.2.2⟩
    rw [← hM.2.2.2.2.1 hi]
    exact (name_of_methodNamed B.named B.method).1
  have K := E.2 p e (headSpec (md_ws M) (cc_R d h h')).room s m ((vs.map (cv G)).toArray) below meth c (MQ below (cc_Q G v h') ((vs.map (cv G)).toArray) s (mm_N h' - mm_N h) (mm_S h' - mm_S h) (fun q => gg_b G ≤ q)) s.heap [] _ (mm_N h) (mm_S h) C ⟨hP, va_S.rf, hsz⟩ (mm_l_ent hn) (Nat.le_refl _) (Nat.le_refl _) (Nat.le_refl _) (Nat.le_refl _) ?_
  · rw [Nat.sub_self, Nat.sub_self] at K
    exact K
  · intro H' locs' ls' pc' w' hret
    rcases hret with ⟨rfl, hdg, hrr⟩ | ⟨x, ty, rfl, hdg, hrr, hnr⟩ | ⟨u, nm, rfl, hu, hdg, hrr⟩
    · exact W.vret B.exec B.bytes (hr.trans hrr) (fun t ht hW => ⟨rfl, by rw [ht]; exact w'.1, by rw [ht]; exact w'.2.2, w'.2.1.F ht⟩) w'.2.1.2.2 hdg
    · exact W.zret B.exec B.bytes (hr.trans hrr) hnr (fun t ht hW => ⟨rfl, by rw [ht]; exact w'.1, by rw [ht]; exact w'.2.2, w'.2.1.F ht⟩) w'.2.1.2.2 hdg
    · exact W.aret B.exec B.bytes (hr.trans hrr) (Or.inl ⟨nm, rfl⟩) (by rcases hu with rfl | ⟨a, rfl⟩; exact Or.inl rfl; exact Or.inr ⟨_, rfl⟩) (fun t ht hW => ⟨rfl, by rw [ht]; exact w'.1, by rw [ht]; exact w'.2.2, w'.2.1.F ht⟩) w'.2.1.2.2 hdg
theorem cc_blind {G : GG} {vs : List Value} {h : MH} : FrameBlind (cc_P G vs h) := by
  intro a U g mk q
  obtain ⟨q0, q1, qP, qK, qN⟩ := q
  exact ⟨q0, q1, qP, va_K.moved (u := U) (U := U.calling g mk a) (Vm.Alike.refl U.vm) qK, qN.calling⟩
theorem md_good {M : MD} (hM : MOk M) : ∀ w ∈ md_ws M, w ∈ gtb := fun w hw => (List.mem_cons.mp hw).elim (fun e => e ▸ hM.2.1) id
theorem cv_sum (G : GG) (st : List Value) : ((st.map (cv G)).map fun v => v.category).sum = st.length := by
  induction st with
  | nil => rfl
  | cons v t ih => simp only [List.map_cons, List.sum_cons, List.length_cons, ih, cv_cat]; omega
section
variable {G : GG} {d : Nat} {M : MD} {pc nx : Nat} {lc : List (Option Value)} {rest : List Value} {h : MH} {v : Option Value} {h' : MH} {d2 : Nat} {N : MD} {vs : List Value} {v1 : Option Value} {h1 : MH}
/-- behind a call -/
theorem ev_after {p : Program} {e : Env} {R : Room} {s : State} {m : MethodId} {args : Array Value} {below : List Frame} {meth : Method} {c : Code} {Q : State → Prop} {H : Heap} {locs : List Loc} {ls : Array Slot} {n0 z0 : Nat} {a : Array Value} {st0 : List Value}
    (C : Cx G d M p R s m args meth c) (w : Wd G s H locs h) (hl : mm_l G (md_l M) ls lc) (g1 : n0 ≤ mm_N h) (g2 : z0 ≤ mm_S h) (g3 : mm_N h' - n0 ≤ R.cells) (g4 : mm_S h' - z0 ≤ R.slots)
    (kk : ∀ (H' : Heap) (locs' : List Loc) (ls' : Array Slot) (pc' : Nat), Wd G s H' locs' h' → RetAt M pc' v → W p (gg_l G) e R s m args below meth c H' locs' (mm_N h' - n0) (mm_S h' - z0) Q (F0 m pc' ls' (v.toList.map (cv G))))
    (m1 : mm_N h ≤ mm_N h1) (m2 : mm_S h ≤ mm_S h1) (hnx : pc + 3 = nx) (k : Ev G d M nx lc (v1.toList ++ rest) h1 v h')
    (hr : va_Run p (gg_l G) e R s m args below meth c H locs (mm_N h - n0) (mm_S h - z0) (mm_N h1 - mm_N h) (mm_S h1 - mm_S h) (F0 m pc ls st0) (rest.map (cv G)) (cc_Q G v1 h1 a) (fun q => gg_b G ≤ q)) :
    W p (gg_l G) e R s m args below meth c H locs (mm_N h - n0) (mm_S h - z0) Q (F0 m pc ls st0) := by
  intro T hT X
  obtain ⟨v0, s0, t, T', L, h0, X', hL, e1, e2, ⟨hv, hp, hz, hF⟩, stp⟩ := hr T hT X
  have hv0 : v0 = v1.map (cv G) := by injection hv
  subst hv0
  have hS1 : va_S (fun q => gg_b G ≤ q) s.heap T'.heap (locs ++ L) := by
    refine ⟨Nat.le_trans w.2.1.1 (by rw [e1, ← h0]; exact hF.1), fun q q1 q2 => ?_, fun q hq => ?_⟩
    · have q3 : q < H.size := Nat.lt_of_lt_of_le q1 w.2.1.1
      rw [e1, hF.2 q (by rw [h0]; exact q3) q2, h0]
      exact w.2.1.2.1 q q1 q2
    · rcases List.mem_append.mp hq with h9 | h9
      · exact w.2.1.2.2 q h9
      · exact hL q h9
  have K := k.2 p e R s m args below meth c Q T'.heap (locs ++ L) ls n0 z0 C ⟨by rw [e1]; exact hp, hS1, by rw [e1]; exact hz⟩ hl (Nat.le_trans g1 m1) (Nat.le_trans g2 m2) g3 g4 kk
  have c1 : mm_N h1 - n0 = mm_N h - n0 + (mm_N h1 - mm_N h) := by omega
  have c2 : mm_S h1 - z0 = mm_S h - z0 + (mm_S h1 - mm_S h) := by omega
  rw [c1, c2] at K
  obtain ⟨t2, a1, b1⟩ := K T' rfl X'
  refine ⟨t2, stp t2 ?_, b1⟩
  have es : (v1.map (cv G)).toList ++ rest.map (cv G) = (v1.toList ++ rest).map (cv G) := by cases v1 <;> rfl
  show Steps _ _ _ (T'.setTop { (F0 m pc ls st0) with pc := pc + 3, stack := (v1.map (cv G)).toList ++ rest.map (cv G) }) t2
  rw [es, hnx]
  exact a1
def CallOk (M N : MD) (np : Nat) : Prop := MOk N ∧ (parseMethodDescriptor (md_y N).desc).map (fun d => d.parameters.length) = some np
def LV (M : MD) (idx : Nat) (N : MD) (ci np : Nat) : Prop := CallOk M N np ∧ ci < 11 ∧ mm_C ci = (md_y N).cls ∧ Cond.methodLink (md_o M) idx (md_y N) ∈ gtb ∧ Cond.instanceMethod (md_y N) ∈ gtb ∧ Cond.selects (md_y N).cls (md_y N) (md_y N) ∈ gtb
def LS2 (M : MD) (idx : Nat) (N : MD) (np : Nat) : Prop := CallOk M N np ∧ Cond.static (md_y N) ∈ gtb ∧ (Cond.methodLink (md_o M) idx (md_y N) ∈ gtb ∨ ∃ host, Cond.methodLinkNest (md_o M) idx (md_y N) host ∈ lw_tbl)
def LI (M : MD) (idx : Nat) (N : MD) (np : Nat) : Prop := CallOk M N np ∧ md_r N = none ∧ (md_y N).name = "<init>" ∧ Cond.instanceMethod (md_y N) ∈ gtb ∧ (Cond.methodLink (md_o M) idx (md_y N) ∈ gtb ∨ ∃ host, Cond.methodLinkNest (md_o M) idx (md_y N) host ∈ lw_tbl)
theorem cc_room {R : Room} {hN : MOk N} (hd : d ≤ R.frames ∧ 40 * d ≤ R.locals) (h2 : d2 + 1 ≤ d) : (cc_R d2 h h1).frames + 1 ≤ R.frames ∧ 8 + (md_l N + 11) + (cc_R d2 h h1).locals ≤ R.locals := by
  have hml := hN.2.2.2.2.2.1
  refine ⟨Nat.le_trans h2 hd.1, ?_⟩
  have : (cc_R d2 h h1).locals = 40 * d2 := rfl
  omega
theorem ev_callV {idx ci np a : Nat} {st : List Value} (hd : IX (md_c M) pc (.invokevirtual idx) 3 nx) (L : LV M idx N ci np) (As : List Value) (hst : st = As.reverse ++ .ref a :: rest) (hnp : As.length = np) (hl2 : np + 1 ≤ md_l N) (ha : a < mm_N h) (hk : mm_K h a = ci) (hrest : rest.length ≤ 8) (hdd : d2 + 1 ≤ d)
    (E : Ev G d2 N 0 (ent N (.ref a :: As)) [] h v1 h1) (k : Ev G d M nx lc (v1.toList ++ rest) h1 v h') : Ev G d M pc lc st h v h' := by
  refine ⟨⟨Nat.le_trans E.1.1 k.1.1, Nat.le_trans E.1.2 k.1.2⟩, fun p e R s m args below meth c Q H locs ls n0 z0 C w hl g1 g2 g3 g4 kk => ?_⟩
  obtain ⟨⟨hN, hnd⟩, hc, hcn, w1, w2, w3⟩ := L
  have m1 := E.1.1
  have m2 := E.1.2
  have m3 := k.1.1
  have m4 := k.1.2
  have hM := ev_met (vs := .ref a :: As) hN (by simp; omega) E
  have he : (mm_w (gg_t G) (gg_b G) h)[a]? = some (gg_b G + a, .inr (ci, mm_f (gg_b G) h a)) := by rw [mm_w_at ha, mm_e_obj hk hc]
  have cb : CallB R s args (md_o M) idx (md_y N) (md_c N) (md_l N) (md_r N) (md_ws N) (cc_R d2 h h1) (mm_N h1 - mm_N h) (mm_S h1 - mm_S h) np :=
    callB_of np C.2.2.2.2.1 (gt_in (md_good hN)) rfl rfl rfl (C.2.2.2.2.1 _ hN.2.2.1) (C.2.2.2.2.1 _ w1) ⟨hN.2.2.2.2.2.2.1.1, hN.2.2.2.2.2.2.1.2, hnd⟩ (cc_room (hN := hN) C.2.2.2.2.2.2.2.2.2.1 hdd)
  have hrecv := va_recv C.2.2.2.2.2.2.1 w.1 (mm_cl hc) he
  refine ev_after C w hl g1 g2 g3 g4 kk m1 m2 hd.2 k (va_runV (C := (md_y N).cls) (b := gg_b G + a) (As := As.map (cv G)) (rest := rest.map (cv G)) ⟨C.1, C.2.1, C.2.2.1, C.2.2.2.1, C.2.2.2.2.1⟩ hM ⟨cb, C.2.2.2.2.1 _ w2, C.2.2.2.2.1 _ w3⟩ ⟨cc_blind, by rw [← hcn]; exact hrecv, fun U hU hW => ⟨rfl, by rw [hU]; exact w.2.2, by rw [hU]; exact w.1, va_K.moved hW.alike C.2.2.2.2.2.2.1, C.2.2.2.2.2.1.warm hW⟩⟩ rfl (by rw [List.length_map]; exact hnp) hl.1 ?_ (lv_room (by rw [cv_sum]; exact hrest)) hd.1 ⟨by omega, by omega⟩)
  rw [hst]
  simp [cv]
theorem ev_callS {idx np : Nat} {st : List Value} (hd : IX (md_c M) pc (.invokestatic idx) 3 nx) (L : LS2 M idx N np) (As : List Value) (hst : st = As.reverse ++ rest) (hnp : As.length = np) (hl2 : np ≤ md_l N) (hrest : rest.length ≤ 8) (hdd : d2 + 1 ≤ d)
    (E : Ev G d2 N 0 (ent N As) [] h v1 h1) (k : Ev G d M nx lc (v1.toList ++ rest) h1 v h') : Ev G d M pc lc st h v h' := by
  refine ⟨⟨Nat.le_trans E.1.1 k.1.1, Nat.le_trans E.1.2 k.1.2⟩, fun p e R s m args below meth c Q H locs ls n0 z0 C w hl g1 g2 g3 g4 kk => ?_⟩
  obtain ⟨⟨hN, hnd⟩, w2, w1⟩ := L
  have m1 := E.1.1
  have m2 := E.1.2
  have m3 := k.1.1
  have m4 := k.1.2
  have hM := ev_met (vs := As) hN (by omega) E
  have hpre : PreS s H (cc_P G As h) (As.map (cv G)) := ⟨cc_blind, fun U hU hW => ⟨rfl, by rw [hU]; exact w.2.2, by rw [hU]; exact w.1, va_K.moved hW.alike C.2.2.2.2.2.2.1, C.2.2.2.2.2.1.warm hW⟩⟩
  have hst2 : (st.map (cv G)) = (As.map (cv G)).reverse ++ rest.map (cv G) := by rw [hst]; simp
  rcases w1 with w1 | ⟨host, w1⟩
  · have cb : CallB R s args (md_o M) idx (md_y N) (md_c N) (md_l N) (md_r N) (md_ws N) (cc_R d2 h h1) (mm_N h1 - mm_N h) (mm_S h1 - mm_S h) np :=
      callB_of np C.2.2.2.2.1 (gt_in (md_good hN)) rfl rfl rfl (C.2.2.2.2.1 _ hN.2.2.1) (C.2.2.2.2.1 _ w1) ⟨hN.2.2.2.2.2.2.1.1, hN.2.2.2.2.2.2.1.2, hnd⟩ (cc_room (hN := hN) C.2.2.2.2.2.2.2.2.2.1 hdd)
    exact ev_after C w hl g1 g2 g3 g4 kk m1 m2 hd.2 k (va_runS (As := As.map (cv G)) (rest := rest.map (cv G)) ⟨C.1, C.2.1, C.2.2.1, C.2.2.2.1, C.2.2.2.2.1⟩ hM ⟨cb, C.2.2.2.2.1 _ w2⟩ hpre rfl (by rw [List.length_map]; exact hnp) hl.1 hst2 (lv_room (by rw [cv_sum]; exact hrest)) hd.1 ⟨by omega, by omega⟩)
  · have cb : va_CN R s args (md_o M) idx (md_y N) host (md_c N) (md_l N) (md_r N) (md_ws N) (cc_R d2 h h1) (mm_N h1 - mm_N h) (mm_S h1 - mm_S h) np :=
      va_cnB np C.2.2.2.2.1 (gt_in (md_good hN)) rfl rfl rfl (C.2.2.2.2.2.1 _ w1 rfl) (C.2.2.2.2.1 _ hN.2.2.1) ⟨hN.2.2.2.2.2.2.1.1, hN.2.2.2.2.2.2.1.2, hnd⟩ (cc_room (hN := hN) C.2.2.2.2.2.2.2.2.2.1 hdd)
    exact ev_after C w hl g1 g2 g3 g4 kk m1 m2 hd.2 k (va_runSN (As := As.map (cv G)) (rest := rest.map (cv G)) ⟨C.1, C.2.1, C.2.2.1, C.2.2.2.1, C.2.2.2.2.1⟩ hM ⟨cb, C.2.2.2.2.1 _ w2, trivial⟩ hpre rfl (by rw [List.length_map]; exact hnp) hl.1 hst2 (lv_room (by rw [cv_sum]; exact hrest)) hd.1 ⟨by omega, by omega⟩)
theorem ev_callI {idx np a : Nat} {st : List Value} (hd : IX (md_c M) pc (.invokespecial idx) 3 nx) (L : LI M idx N np) (As : List Value) (hst : st = As.reverse ++ .ref a :: rest) (hnp : As.length = np) (hl2 : np + 1 ≤ md_l N) (hrest : rest.length ≤ 8) (hdd : d2 + 1 ≤ d)
    (E : Ev G d2 N 0 (ent N (.ref a :: As)) [] h v1 h1) (k : Ev G d M nx lc (v1.toList ++ rest) h1 v h') : Ev G d M pc lc st h v h' := by
  refine ⟨⟨Nat.le_trans E.1.1 k.1.1, Nat.le_trans E.1.2 k.1.2⟩, fun p e R s m args below meth c Q H locs ls n0 z0 C w hl g1 g2 g3 g4 kk => ?_⟩
  obtain ⟨⟨hN, hnd⟩, hrn, hin, w2, w1⟩ := L
  have m1 := E.1.1
  have m2 := E.1.2
  have m3 := k.1.1
  have m4 := k.1.2
  have hM := ev_met (vs := .ref a :: As) hN (by simp; omega) E
  have hpre : PreS s H (cc_P G (.ref a :: As) h) (.ref (gg_b G + a) :: As.map (cv G)) := ⟨cc_blind, fun U hU hW => ⟨rfl, by rw [hU]; exact w.2.2, by rw [hU]; exact w.1, va_K.moved hW.alike C.2.2.2.2.2.2.1, C.2.2.2.2.2.1.warm hW⟩⟩
  have hst2 : (st.map (cv G)) = (As.map (cv G)).reverse ++ .ref (gg_b G + a) :: rest.map (cv G) := by rw [hst]; simp [cv]
  rcases w1 with w1 | ⟨host, w1⟩
  · have cb : CallB R s args (md_o M) idx (md_y N) (md_c N) (md_l N) (md_r N) (md_ws N) (cc_R d2 h h1) (mm_N h1 - mm_N h) (mm_S h1 - mm_S h) np :=
      callB_of np C.2.2.2.2.1 (gt_in (md_good hN)) rfl rfl rfl (C.2.2.2.2.1 _ hN.2.2.1) (C.2.2.2.2.1 _ w1) ⟨hN.2.2.2.2.2.2.1.1, hN.2.2.2.2.2.2.1.2, hnd⟩ (cc_room (hN := hN) C.2.2.2.2.2.2.2.2.2.1 hdd)
    rw [hrn] at cb
    exact ev_after C w hl g1 g2 g3 g4 kk m1 m2 hd.2 k (va_runI (b := gg_b G + a) (As := As.map (cv G)) (rest := rest.map (cv G)) ⟨C.1, C.2.1, C.2.2.1, C.2.2.2.1, C.2.2.2.2.1⟩ hM ⟨cb, hin, C.2.2.2.2.1 _ w2⟩ hpre rfl (by rw [List.length_map]; exact hnp) hl.1 hst2 (lv_room (by rw [cv_sum]; exact hrest)) hd.1 ⟨by omega, by omega⟩)
  · have cb : va_CN R s args (md_o M) idx (md_y N) host (md_c N) (md_l N) (md_r N) (md_ws N) (cc_R d2 h h1) (mm_N h1 - mm_N h) (mm_S h1 - mm_S h) np :=
      va_cnB np C.2.2.2.2.1 (gt_in (md_good hN)) rfl rfl rfl (C.2.2.2.2.2.1 _ w1 rfl) (C.2.2.2.2.1 _ hN.2.2.1) ⟨hN.2.2.2.2.2.2.1.1, hN.2.2.2.2.2.2.1.2, hnd⟩ (cc_room (hN := hN) C.2.2.2.2.2.2.2.2.2.1 hdd)
    rw [hrn] at cb
    exact ev_after C w hl g1 g2 g3 g4 kk m1 m2 hd.2 k (va_runIN (b := gg_b G + a) (As := As.map (cv G)) (rest := rest.map (cv G)) ⟨C.1, C.2.1, C.2.2.1, C.2.2.2.1, C.2.2.2.2.1⟩ hM ⟨cb, hin, C.2.2.2.2.1 _ w2⟩ hpre rfl (by rw [List.length_map]; exact hnp) hl.1 hst2 (lv_room (by rw [cv_sum]; exact hrest)) hd.1 ⟨by omega, by omega⟩)
/-- Object's own constructor -/
theorem ev_objI {idx a : Nat} (hd : IX (md_c M) pc (.invokespecial idx) 3 nx) (w1 : Cond.methodLink (md_o M) idx objectInit ∈ gtb) (w2 : Cond.instanceMethod objectInit ∈ gtb) (w3 : Cond.code objectInit ⟨#[0xb1]⟩ 1 none ∈ gtb) (hrest : rest.length ≤ 8) (hdd : 1 ≤ d) (k : Ev G d M nx lc rest h v h') : Ev G d M pc lc (.ref a :: rest) h v h' := by
  refine ⟨k.1, fun p e R s m args below meth c Q H locs ls n0 z0 C w hl g1 g2 g3 g4 kk => ?_⟩
  have K := k.2 p e R s m args below meth c Q H locs ls n0 z0 C w hl g1 g2 g3 g4 kk
  rw [← hd.2] at K
  have hR := C.2.2.2.2.2.2.2.2.2.1
  refine W.objInit C.1 C.2.1 C.2.2.2.1 (C.2.2.2.2.1 _ w1) (C.2.2.2.2.1 _ w2) (C.2.2.2.2.1 _ w3) rfl (by rw [C.2.2.1]; exact hl.1) rfl hd.1 (by omega) ?_ K
  have := lv_room (m := m) (pc := pc) (ls := ls) (rest := (.ref a :: rest).map (cv G)) (st := rest.map (cv G)) (by rw [cv_sum]; exact hrest)
  omega
end
end
