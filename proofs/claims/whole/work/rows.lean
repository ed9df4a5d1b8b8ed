section
-- ===== PART A: goes FIRST, ahead of the names: the tables' words, and 'selects' of the private methods out of them =====
/-- a private method of a class that the tables say can be made, by its rows of tables_1 -/
def lw_okq (q : MethodName × Nat) : Prop := (q.1.cls ≠ "java/lang/invoke/MethodHandle" ∧ q.1.cls ≠ "java/lang/invoke/VarHandle") ∧ Cond.instantiable q.1.cls q.2 ∈ tables_1 ∧ Cond.privateMethod q.1 ∈ tables_1 ∧ Cond.instanceMethod q.1 ∈ tables_1
theorem lw_p0 : lw_okq (⟨"RuleChangeDesk$Row", "findActs", "()V"⟩, 6) := ⟨⟨by decide +kernel, by decide +kernel⟩, List.mem_of_getElem? (i := 33) (by decide +kernel), List.mem_of_getElem? (i := 297) (by decide +kernel), List.mem_of_getElem? (i := 298) (by decide +kernel)⟩
theorem lw_p1 : lw_okq (⟨"RuleChangeDesk", "startAfresh", "()V"⟩, 6) := ⟨⟨by decide +kernel, by decide +kernel⟩, List.mem_of_getElem? (i := 15) (by decide +kernel), List.mem_of_getElem? (i := 308) (by decide +kernel), List.mem_of_getElem? (i := 309) (by decide +kernel)⟩
theorem lw_p2 : lw_okq (⟨"RuleChangeDesk$Row", "put", "(IIIII)V"⟩, 6) := ⟨⟨by decide +kernel, by decide +kernel⟩, List.mem_of_getElem? (i := 33) (by decide +kernel), List.mem_of_getElem? (i := 406) (by decide +kernel), List.mem_of_getElem? (i := 407) (by decide +kernel)⟩
theorem lw_p3 : lw_okq (⟨"RuleChangeDesk$Net", "findClasses", "()V"⟩, 9) := ⟨⟨by decide +kernel, by decide +kernel⟩, List.mem_of_getElem? (i := 23) (by decide +kernel), List.mem_of_getElem? (i := 487) (by decide +kernel), List.mem_of_getElem? (i := 488) (by decide +kernel)⟩
theorem lw_p4 : lw_okq (⟨"RuleChangeDesk$Net", "leastAlike", "(I)I"⟩, 9) := ⟨⟨by decide +kernel, by decide +kernel⟩, List.mem_of_getElem? (i := 23) (by decide +kernel), List.mem_of_getElem? (i := 491) (by decide +kernel), List.mem_of_getElem? (i := 492) (by decide +kernel)⟩
theorem lw_p5 : lw_okq (⟨"RuleChangeDesk$Net", "isSeparated", "(II)Z"⟩, 9) := ⟨⟨by decide +kernel, by decide +kernel⟩, List.mem_of_getElem? (i := 23) (by decide +kernel), List.mem_of_getElem? (i := 495) (by decide +kernel), List.mem_of_getElem? (i := 496) (by decide +kernel)⟩
theorem lw_p6 : lw_okq (⟨"RuleChangeDesk$Judge", "findKept", "()V"⟩, 10) := ⟨⟨by decide +kernel, by decide +kernel⟩, List.mem_of_getElem? (i := 89) (by decide +kernel), List.mem_of_getElem? (i := 511) (by decide +kernel), List.mem_of_getElem? (i := 512) (by decide +kernel)⟩
theorem lw_p7 : lw_okq (⟨"RuleChangeDesk$Judge", "traceByBooks", "(II)V"⟩, 10) := ⟨⟨by decide +kernel, by decide +kernel⟩, List.mem_of_getElem? (i := 89) (by decide +kernel), List.mem_of_getElem? (i := 524) (by decide +kernel), List.mem_of_getElem? (i := 525) (by decide +kernel)⟩
theorem lw_p8 : lw_okq (⟨"RuleChangeDesk$Judge", "strikeNotGood", "(LRuleChangeDesk$Want;I)V"⟩, 10) := ⟨⟨by decide +kernel, by decide +kernel⟩, List.mem_of_getElem? (i := 89) (by decide +kernel), List.mem_of_getElem? (i := 577) (by decide +kernel), List.mem_of_getElem? (i := 578) (by decide +kernel)⟩
theorem lw_p9 : lw_okq (⟨"RuleChangeDesk$Planner", "fewestFrom", "(II)I"⟩, 4) := ⟨⟨by decide +kernel, by decide +kernel⟩, List.mem_of_getElem? (i := 186) (by decide +kernel), List.mem_of_getElem? (i := 661) (by decide +kernel), List.mem_of_getElem? (i := 662) (by decide +kernel)⟩
theorem lw_p10 : lw_okq (⟨"RuleChangeDesk$Planner", "leastNotGood", "(II)I"⟩, 4) := ⟨⟨by decide +kernel, by decide +kernel⟩, List.mem_of_getElem? (i := 186) (by decide +kernel), List.mem_of_getElem? (i := 665) (by decide +kernel), List.mem_of_getElem? (i := 666) (by decide +kernel)⟩
theorem lw_p11 : lw_okq (⟨"RuleChangeDesk$Planner", "leastRound", "(II)I"⟩, 4) := ⟨⟨by decide +kernel, by decide +kernel⟩, List.mem_of_getElem? (i := 186) (by decide +kernel), List.mem_of_getElem? (i := 670) (by decide +kernel), List.mem_of_getElem? (i := 671) (by decide +kernel)⟩
theorem lw_p12 : lw_okq (⟨"RuleChangeDesk$Planner", "findOrderings", "(I)I"⟩, 4) := ⟨⟨by decide +kernel, by decide +kernel⟩, List.mem_of_getElem? (i := 186) (by decide +kernel), List.mem_of_getElem? (i := 686) (by decide +kernel), List.mem_of_getElem? (i := 687) (by decide +kernel)⟩
theorem lw_p13 : lw_okq (⟨"RuleChangeDesk$Planner", "orderingsFrom", "(II)I"⟩, 4) := ⟨⟨by decide +kernel, by decide +kernel⟩, List.mem_of_getElem? (i := 186) (by decide +kernel), List.mem_of_getElem? (i := 690) (by decide +kernel), List.mem_of_getElem? (i := 691) (by decide +kernel)⟩
theorem lw_p14 : lw_okq (⟨"RuleChangeDesk$Planner", "orderingsBy", "(III)I"⟩, 4) := ⟨⟨by decide +kernel, by decide +kernel⟩, List.mem_of_getElem? (i := 186) (by decide +kernel), List.mem_of_getElem? (i := 694) (by decide +kernel), List.mem_of_getElem? (i := 695) (by decide +kernel)⟩
theorem lw_p15 : lw_okq (⟨"RuleChangeDesk$Run", "left", "()I"⟩, 10) := ⟨⟨by decide +kernel, by decide +kernel⟩, List.mem_of_getElem? (i := 205) (by decide +kernel), List.mem_of_getElem? (i := 810) (by decide +kernel), List.mem_of_getElem? (i := 811) (by decide +kernel)⟩
def lw_privs_1 : List (MethodName × Nat) := [(⟨"RuleChangeDesk$Row", "findActs", "()V"⟩, 6), (⟨"RuleChangeDesk", "startAfresh", "()V"⟩, 6), (⟨"RuleChangeDesk$Row", "put", "(IIIII)V"⟩, 6), (⟨"RuleChangeDesk$Net", "findClasses", "()V"⟩, 9), (⟨"RuleChangeDesk$Net", "leastAlike", "(I)I"⟩, 9), (⟨"RuleChangeDesk$Net", "isSeparated", "(II)Z"⟩, 9), (⟨"RuleChangeDesk$Judge", "findKept", "()V"⟩, 10), (⟨"RuleChangeDesk$Judge", "traceByBooks", "(II)V"⟩, 10), (⟨"RuleChangeDesk$Judge", "strikeNotGood", "(LRuleChangeDesk$Want;I)V"⟩, 10), (⟨"RuleChangeDesk$Planner", "fewestFrom", "(II)I"⟩, 4), (⟨"RuleChangeDesk$Planner", "leastNotGood", "(II)I"⟩, 4), (⟨"RuleChangeDesk$Planner", "leastRound", "(II)I"⟩, 4), (⟨"RuleChangeDesk$Planner", "findOrderings", "(I)I"⟩, 4), (⟨"RuleChangeDesk$Planner", "orderingsFrom", "(II)I"⟩, 4), (⟨"RuleChangeDesk$Planner", "orderingsBy", "(III)I"⟩, 4), (⟨"RuleChangeDesk$Run", "left", "()I"⟩, 10)]
theorem lw_r1 : ∀ q ∈ lw_privs_1, lw_okq q := List.forall_mem_cons.mpr ⟨lw_p0, List.forall_mem_cons.mpr ⟨lw_p1, List.forall_mem_cons.mpr ⟨lw_p2, List.forall_mem_cons.mpr ⟨lw_p3, List.forall_mem_cons.mpr ⟨lw_p4, List.forall_mem_cons.mpr ⟨lw_p5, List.forall_mem_cons.mpr ⟨lw_p6, List.forall_mem_cons.mpr ⟨lw_p7, List.forall_mem_cons.mpr ⟨lw_p8, List.forall_mem_cons.mpr ⟨lw_p9, List.forall_mem_cons.mpr ⟨lw_p10, List.forall_mem_cons.mpr ⟨lw_p11, List.forall_mem_cons.mpr ⟨lw_p12, List.forall_mem_cons.mpr ⟨lw_p13, List.forall_mem_cons.mpr ⟨lw_p14, List.forall_mem_cons.mpr ⟨lw_p15, fun _ h => absurd h List.not_mem_nil⟩⟩⟩⟩⟩⟩⟩⟩⟩⟩⟩⟩⟩⟩⟩⟩
theorem lw_p16 : lw_okq (⟨"RuleChangeDeskModel", "clear", "(I)V"⟩, 39) := ⟨⟨by decide +kernel, by decide +kernel⟩, List.mem_of_getElem? (i := 850) (by decide +kernel), List.mem_of_getElem? (i := 856) (by decide +kernel), List.mem_of_getElem? (i := 857) (by decide +kernel)⟩
theorem lw_p17 : lw_okq (⟨"RuleChangeDeskModel", "changed", "()V"⟩, 39) := ⟨⟨by decide +kernel, by decide +kernel⟩, List.mem_of_getElem? (i := 850) (by decide +kernel), List.mem_of_getElem? (i := 860) (by decide +kernel), List.mem_of_getElem? (i := 861) (by decide +kernel)⟩
theorem lw_p18 : lw_okq (⟨"RuleChangeDeskModel", "isPort", "(II)Z"⟩, 39) := ⟨⟨by decide +kernel, by decide +kernel⟩, List.mem_of_getElem? (i := 850) (by decide +kernel), List.mem_of_getElem? (i := 989) (by decide +kernel), List.mem_of_getElem? (i := 990) (by decide +kernel)⟩
theorem lw_p19 : lw_okq (⟨"RuleChangeDeskModel", "isOf", "(II)Z"⟩, 39) := ⟨⟨by decide +kernel, by decide +kernel⟩, List.mem_of_getElem? (i := 850) (by decide +kernel), List.mem_of_getElem? (i := 1001) (by decide +kernel), List.mem_of_getElem? (i := 1002) (by decide +kernel)⟩
theorem lw_p20 : lw_okq (⟨"RuleChangeDeskModel", "isSpan", "(II)Z"⟩, 39) := ⟨⟨by decide +kernel, by decide +kernel⟩, List.mem_of_getElem? (i := 850) (by decide +kernel), List.mem_of_getElem? (i := 1012) (by decide +kernel), List.mem_of_getElem? (i := 1013) (by decide +kernel)⟩
theorem lw_p21 : lw_okq (⟨"RuleChangeDeskModel", "ruleAt", "(III)I"⟩, 39) := ⟨⟨by decide +kernel, by decide +kernel⟩, List.mem_of_getElem? (i := 850) (by decide +kernel), List.mem_of_getElem? (i := 1016) (by decide +kernel), List.mem_of_getElem? (i := 1017) (by decide +kernel)⟩
theorem lw_p22 : lw_okq (⟨"RuleChangeDeskModel", "isMixture", "(I)Z"⟩, 39) := ⟨⟨by decide +kernel, by decide +kernel⟩, List.mem_of_getElem? (i := 850) (by decide +kernel), List.mem_of_getElem? (i := 1040) (by decide +kernel), List.mem_of_getElem? (i := 1041) (by decide +kernel)⟩
theorem lw_p23 : lw_okq (⟨"RuleChangeDeskModel", "all", "()I"⟩, 39) := ⟨⟨by decide +kernel, by decide +kernel⟩, List.mem_of_getElem? (i := 850) (by decide +kernel), List.mem_of_getElem? (i := 1044) (by decide +kernel), List.mem_of_getElem? (i := 1045) (by decide +kernel)⟩
theorem lw_p24 : lw_okq (⟨"RuleChangeDeskModel", "walks", "(III)V"⟩, 39) := ⟨⟨by decide +kernel, by decide +kernel⟩, List.mem_of_getElem? (i := 850) (by decide +kernel), List.mem_of_getElem? (i := 1048) (by decide +kernel), List.mem_of_getElem? (i := 1049) (by decide +kernel)⟩
theorem lw_p25 : lw_okq (⟨"RuleChangeDeskModel", "goes", "(III)I"⟩, 39) := ⟨⟨by decide +kernel, by decide +kernel⟩, List.mem_of_getElem? (i := 850) (by decide +kernel), List.mem_of_getElem? (i := 1052) (by decide +kernel), List.mem_of_getElem? (i := 1053) (by decide +kernel)⟩
theorem lw_p26 : lw_okq (⟨"RuleChangeDeskModel", "actOf", "(III)I"⟩, 39) := ⟨⟨by decide +kernel, by decide +kernel⟩, List.mem_of_getElem? (i := 850) (by decide +kernel), List.mem_of_getElem? (i := 1056) (by decide +kernel), List.mem_of_getElem? (i := 1057) (by decide +kernel)⟩
theorem lw_p27 : lw_okq (⟨"RuleChangeDeskModel", "breaks", "(II)I"⟩, 39) := ⟨⟨by decide +kernel, by decide +kernel⟩, List.mem_of_getElem? (i := 850) (by decide +kernel), List.mem_of_getElem? (i := 1071) (by decide +kernel), List.mem_of_getElem? (i := 1072) (by decide +kernel)⟩
theorem lw_p28 : lw_okq (⟨"RuleChangeDeskModel", "isKept", "(II)Z"⟩, 39) := ⟨⟨by decide +kernel, by decide +kernel⟩, List.mem_of_getElem? (i := 850) (by decide +kernel), List.mem_of_getElem? (i := 1075) (by decide +kernel), List.mem_of_getElem? (i := 1076) (by decide +kernel)⟩
theorem lw_p29 : lw_okq (⟨"RuleChangeDeskModel", "isWhole", "(II)Z"⟩, 39) := ⟨⟨by decide +kernel, by decide +kernel⟩, List.mem_of_getElem? (i := 850) (by decide +kernel), List.mem_of_getElem? (i := 1079) (by decide +kernel), List.mem_of_getElem? (i := 1080) (by decide +kernel)⟩
theorem lw_p30 : lw_okq (⟨"RuleChangeDeskModel", "isKeptOne", "(I)Z"⟩, 39) := ⟨⟨by decide +kernel, by decide +kernel⟩, List.mem_of_getElem? (i := 850) (by decide +kernel), List.mem_of_getElem? (i := 1087) (by decide +kernel), List.mem_of_getElem? (i := 1088) (by decide +kernel)⟩
theorem lw_p31 : lw_okq (⟨"RuleChangeDeskModel", "classMany", "()I"⟩, 39) := ⟨⟨by decide +kernel, by decide +kernel⟩, List.mem_of_getElem? (i := 850) (by decide +kernel), List.mem_of_getElem? (i := 1099) (by decide +kernel), List.mem_of_getElem? (i := 1100) (by decide +kernel)⟩
def lw_privs_2 : List (MethodName × Nat) := [(⟨"RuleChangeDeskModel", "clear", "(I)V"⟩, 39), (⟨"RuleChangeDeskModel", "changed", "()V"⟩, 39), (⟨"RuleChangeDeskModel", "isPort", "(II)Z"⟩, 39), (⟨"RuleChangeDeskModel", "isOf", "(II)Z"⟩, 39), (⟨"RuleChangeDeskModel", "isSpan", "(II)Z"⟩, 39), (⟨"RuleChangeDeskModel", "ruleAt", "(III)I"⟩, 39), (⟨"RuleChangeDeskModel", "isMixture", "(I)Z"⟩, 39), (⟨"RuleChangeDeskModel", "all", "()I"⟩, 39), (⟨"RuleChangeDeskModel", "walks", "(III)V"⟩, 39), (⟨"RuleChangeDeskModel", "goes", "(III)I"⟩, 39), (⟨"RuleChangeDeskModel", "actOf", "(III)I"⟩, 39), (⟨"RuleChangeDeskModel", "breaks", "(II)I"⟩, 39), (⟨"RuleChangeDeskModel", "isKept", "(II)Z"⟩, 39), (⟨"RuleChangeDeskModel", "isWhole", "(II)Z"⟩, 39), (⟨"RuleChangeDeskModel", "isKeptOne", "(I)Z"⟩, 39), (⟨"RuleChangeDeskModel", "classMany", "()I"⟩, 39)]
theorem lw_r2 : ∀ q ∈ lw_privs_2, lw_okq q := List.forall_mem_cons.mpr ⟨lw_p16, List.forall_mem_cons.mpr ⟨lw_p17, List.forall_mem_cons.mpr ⟨lw_p18, List.forall_mem_cons.mpr ⟨lw_p19, List.forall_mem_cons.mpr ⟨lw_p20, List.forall_mem_cons.mpr ⟨lw_p21, List.forall_mem_cons.mpr ⟨lw_p22, List.forall_mem_cons.mpr ⟨lw_p23, List.forall_mem_cons.mpr ⟨lw_p24, List.forall_mem_cons.mpr ⟨lw_p25, List.forall_mem_cons.mpr ⟨lw_p26, List.forall_mem_cons.mpr ⟨lw_p27, List.forall_mem_cons.mpr ⟨lw_p28, List.forall_mem_cons.mpr ⟨lw_p29, List.forall_mem_cons.mpr ⟨lw_p30, List.forall_mem_cons.mpr ⟨lw_p31, fun _ h => absurd h List.not_mem_nil⟩⟩⟩⟩⟩⟩⟩⟩⟩⟩⟩⟩⟩⟩⟩⟩
theorem lw_p32 : lw_okq (⟨"RuleChangeDeskModel", "areAlike", "(II)Z"⟩, 39) := ⟨⟨by decide +kernel, by decide +kernel⟩, List.mem_of_getElem? (i := 850) (by decide +kernel), List.mem_of_getElem? (i := 1103) (by decide +kernel), List.mem_of_getElem? (i := 1104) (by decide +kernel)⟩
theorem lw_p33 : lw_okq (⟨"RuleChangeDeskModel", "unlike", "()I"⟩, 39) := ⟨⟨by decide +kernel, by decide +kernel⟩, List.mem_of_getElem? (i := 850) (by decide +kernel), List.mem_of_getElem? (i := 1111) (by decide +kernel), List.mem_of_getElem? (i := 1112) (by decide +kernel)⟩
theorem lw_p34 : lw_okq (⟨"RuleChangeDeskModel", "learn", "()V"⟩, 39) := ⟨⟨by decide +kernel, by decide +kernel⟩, List.mem_of_getElem? (i := 850) (by decide +kernel), List.mem_of_getElem? (i := 1115) (by decide +kernel), List.mem_of_getElem? (i := 1116) (by decide +kernel)⟩
theorem lw_p35 : lw_okq (⟨"RuleChangeDeskModel", "planned", "(I)I"⟩, 39) := ⟨⟨by decide +kernel, by decide +kernel⟩, List.mem_of_getElem? (i := 850) (by decide +kernel), List.mem_of_getElem? (i := 1120) (by decide +kernel), List.mem_of_getElem? (i := 1121) (by decide +kernel)⟩
theorem lw_p36 : lw_okq (⟨"RuleChangeDeskModel", "fewest", "(I)V"⟩, 39) := ⟨⟨by decide +kernel, by decide +kernel⟩, List.mem_of_getElem? (i := 850) (by decide +kernel), List.mem_of_getElem? (i := 1128) (by decide +kernel), List.mem_of_getElem? (i := 1129) (by decide +kernel)⟩
theorem lw_p37 : lw_okq (⟨"RuleChangeDeskModel", "against", "(II)I"⟩, 39) := ⟨⟨by decide +kernel, by decide +kernel⟩, List.mem_of_getElem? (i := 850) (by decide +kernel), List.mem_of_getElem? (i := 1132) (by decide +kernel), List.mem_of_getElem? (i := 1133) (by decide +kernel)⟩
theorem lw_p38 : lw_okq (⟨"RuleChangeDeskModel", "ways", "(I)V"⟩, 39) := ⟨⟨by decide +kernel, by decide +kernel⟩, List.mem_of_getElem? (i := 850) (by decide +kernel), List.mem_of_getElem? (i := 1140) (by decide +kernel), List.mem_of_getElem? (i := 1141) (by decide +kernel)⟩
theorem lw_p39 : lw_okq (⟨"RuleChangeDeskModel", "isPacket", "(I)Z"⟩, 39) := ⟨⟨by decide +kernel, by decide +kernel⟩, List.mem_of_getElem? (i := 850) (by decide +kernel), List.mem_of_getElem? (i := 1176) (by decide +kernel), List.mem_of_getElem? (i := 1177) (by decide +kernel)⟩
theorem lw_p40 : lw_okq (⟨"RuleChangeDeskModel", "left", "()I"⟩, 39) := ⟨⟨by decide +kernel, by decide +kernel⟩, List.mem_of_getElem? (i := 850) (by decide +kernel), List.mem_of_getElem? (i := 1184) (by decide +kernel), List.mem_of_getElem? (i := 1185) (by decide +kernel)⟩
theorem lw_p41 : lw_okq (⟨"RuleChangeDeskModel", "underWay", "()I"⟩, 39) := ⟨⟨by decide +kernel, by decide +kernel⟩, List.mem_of_getElem? (i := 850) (by decide +kernel), List.mem_of_getElem? (i := 1192) (by decide +kernel), List.mem_of_getElem? (i := 1193) (by decide +kernel)⟩
def lw_privs_3 : List (MethodName × Nat) := [(⟨"RuleChangeDeskModel", "areAlike", "(II)Z"⟩, 39), (⟨"RuleChangeDeskModel", "unlike", "()I"⟩, 39), (⟨"RuleChangeDeskModel", "learn", "()V"⟩, 39), (⟨"RuleChangeDeskModel", "planned", "(I)I"⟩, 39), (⟨"RuleChangeDeskModel", "fewest", "(I)V"⟩, 39), (⟨"RuleChangeDeskModel", "against", "(II)I"⟩, 39), (⟨"RuleChangeDeskModel", "ways", "(I)V"⟩, 39), (⟨"RuleChangeDeskModel", "isPacket", "(I)Z"⟩, 39), (⟨"RuleChangeDeskModel", "left", "()I"⟩, 39), (⟨"RuleChangeDeskModel", "underWay", "()I"⟩, 39)]
theorem lw_r3 : ∀ q ∈ lw_privs_3, lw_okq q := List.forall_mem_cons.mpr ⟨lw_p32, List.forall_mem_cons.mpr ⟨lw_p33, List.forall_mem_cons.mpr ⟨lw_p34, List.forall_mem_cons.mpr ⟨lw_p35, List.forall_mem_cons.mpr ⟨lw_p36, List.forall_mem_cons.mpr ⟨lw_p37, List.forall_mem_cons.mpr ⟨lw_p38, List.forall_mem_cons.mpr ⟨lw_p39, List.forall_mem_cons.mpr ⟨lw_p40, List.forall_mem_cons.mpr ⟨lw_p41, fun _ h => absurd h List.not_mem_nil⟩⟩⟩⟩⟩⟩⟩⟩⟩⟩
def lw_privs : List (MethodName × Nat) := lw_privs_1 ++ (lw_privs_2 ++ (lw_privs_3))
def lw_tbl : List Cond := k2_sels lw_privs ++ tables_1
theorem lw_privs_ok : ∀ q ∈ lw_privs, lw_okq q := by
  show ∀ q ∈ lw_privs_1 ++ (lw_privs_2 ++ (lw_privs_3)), lw_okq q
  exact List.forall_mem_append.mpr ⟨lw_r1, List.forall_mem_append.mpr ⟨lw_r2, lw_r3⟩⟩
def RX0 : String := "RuleChangeDesk$Judge"
def TX0 : u_T := fun k => match k with
  | 0 => ("RuleChangeDesk$Judge", "net", "LRuleChangeDesk$Net;", true)
  | 1 => ("RuleChangeDesk$Judge", "wants", "[LRuleChangeDesk$Want;", true)
  | 2 => ("RuleChangeDesk$Judge", "kept", "[Z", true)
  | 3 => ("RuleChangeDesk$Judge", "good", "[Z", true)
  | 4 => ("RuleChangeDesk$Judge", "byOld", "LRuleChangeDesk$Way;", true)
  | 5 => ("RuleChangeDesk$Judge", "byNew", "LRuleChangeDesk$Way;", true)
  | 6 => ("RuleChangeDesk$Judge", "mixed", "LRuleChangeDesk$Way;", true)
  | 7 => ("RuleChangeDesk$Judge", "count", "I", false)
  | 8 => ("RuleChangeDesk$Judge", "keptIsKnown", "Z", false)
  | _ => ("RuleChangeDesk$Judge", "goodIsKnown", "Z", false)
def tyX0 : Nat → FieldType := fun k => match k with
  | 0 => .object "RuleChangeDesk$Net"
  | 1 => .array (.object "RuleChangeDesk$Want")
  | 2 => .array .boolean
  | 3 => .array .boolean
  | 4 => .object "RuleChangeDesk$Way"
  | 5 => .object "RuleChangeDesk$Way"
  | 6 => .object "RuleChangeDesk$Way"
  | 7 => .int
  | 8 => .boolean
  | _ => .boolean
theorem nmX0 : ∀ a, a < 10 → ∀ b, b < 10 → a ≠ b → (TX0 a).2.1 ≠ (TX0 b).2.1 := by decide +kernel
theorem tyX0_ok : ∀ k, k < 10 → parseFieldDescriptor (TX0 k).2.2.1 = some (tyX0 k) := by decide +kernel
abbrev cX0_init : ByteArray := prog_2_method_1_code
def yX0_init : MethodName := ⟨RX0, "<init>", "(LRuleChangeDesk$Net;)V"⟩
abbrev cX0_forget : ByteArray := prog_2_method_2_code
def yX0_forget : MethodName := ⟨RX0, "forget", "()V"⟩
abbrev cX0_dropWants : ByteArray := prog_2_method_3_code
def yX0_dropWants : MethodName := ⟨RX0, "dropWants", "()V"⟩
abbrev cX0_wantCount : ByteArray := prog_2_method_4_code
def yX0_wantCount : MethodName := ⟨RX0, "wantCount", "()I"⟩
abbrev cX0_hasWant : ByteArray := prog_2_method_5_code
def yX0_hasWant : MethodName := ⟨RX0, "hasWant", "(I)Z"⟩
abbrev cX0_addWant : ByteArray := prog_2_method_6_code
def yX0_addWant : MethodName := ⟨RX0, "addWant", "(LRuleChangeDesk$Want;)V"⟩
abbrev cX0_removeWant : ByteArray := prog_2_method_7_code
def yX0_removeWant : MethodName := ⟨RX0, "removeWant", "(I)V"⟩
abbrev cX0_needsHost : ByteArray := prog_2_method_8_code
def yX0_needsHost : MethodName := ⟨RX0, "needsHost", "(I)Z"⟩
abbrev cX0_leastBadMark : ByteArray := prog_2_method_9_code
def yX0_leastBadMark : MethodName := ⟨RX0, "leastBadMark", "(II)I"⟩
abbrev cX0_isKept : ByteArray := prog_2_method_10_code
def yX0_isKept : MethodName := ⟨RX0, "isKept", "(I)Z"⟩
abbrev cX0_firstBroken : ByteArray := prog_2_method_11_code
def yX0_firstBroken : MethodName := ⟨RX0, "firstBroken", "(I)I"⟩
abbrev cX0_countBroken : ByteArray := prog_2_method_12_code
def yX0_countBroken : MethodName := ⟨RX0, "countBroken", "(IILRuleChangeDesk$Way;)I"⟩
abbrev cX0_findGood : ByteArray := prog_2_method_13_code
def yX0_findGood : MethodName := ⟨RX0, "findGood", "()V"⟩
abbrev cX0_isGood : ByteArray := prog_2_method_14_code
def yX0_isGood : MethodName := ⟨RX0, "isGood", "(I)Z"⟩
abbrev cX0_findKept : ByteArray := prog_2_method_15_code
def yX0_findKept : MethodName := ⟨RX0, "findKept", "()V"⟩
abbrev cX0_strikeNotGood : ByteArray := prog_2_method_16_code
def yX0_strikeNotGood : MethodName := ⟨RX0, "strikeNotGood", "(LRuleChangeDesk$Want;I)V"⟩
abbrev cX0_traceByBooks : ByteArray := prog_2_method_17_code
def yX0_traceByBooks : MethodName := ⟨RX0, "traceByBooks", "(II)V"⟩
def RX1 : String := "RuleChangeDesk$Net"
def TX1 : u_T := fun k => match k with
  | 0 => ("RuleChangeDesk$Net", "ports", "[I", true)
  | 1 => ("RuleChangeDesk$Net", "hostSwitches", "[I", true)
  | 2 => ("RuleChangeDesk$Net", "rows", "[LRuleChangeDesk$Row;", true)
  | 3 => ("RuleChangeDesk$Net", "classes", "[I", true)
  | 4 => ("RuleChangeDesk$Net", "classesAreKnown", "Z", false)
  | 5 => ("RuleChangeDesk$Net", "classCount", "I", false)
  | 6 => ("RuleChangeDesk$Net", "switchCount", "I", false)
  | 7 => ("RuleChangeDesk$Net", "hostCount", "I", false)
  | _ => ("RuleChangeDesk$Net", "linkCount", "I", false)
def tyX1 : Nat → FieldType := fun k => match k with
  | 0 => .array .int
  | 1 => .array .int
  | 2 => .array (.object "RuleChangeDesk$Row")
  | 3 => .array .int
  | 4 => .boolean
  | 5 => .int
  | 6 => .int
  | 7 => .int
  | _ => .int
theorem nmX1 : ∀ a, a < 9 → ∀ b, b < 9 → a ≠ b → (TX1 a).2.1 ≠ (TX1 b).2.1 := by decide +kernel
theorem tyX1_ok : ∀ k, k < 9 → parseFieldDescriptor (TX1 k).2.2.1 = some (tyX1 k) := by decide +kernel
abbrev cX1_init : ByteArray := prog_3_method_1_code
def yX1_init : MethodName := ⟨RX1, "<init>", "()V"⟩
abbrev cX1_reset : ByteArray := prog_3_method_2_code
def yX1_reset : MethodName := ⟨RX1, "reset", "(I)V"⟩
abbrev cX1_forget : ByteArray := prog_3_method_3_code
def yX1_forget : MethodName := ⟨RX1, "forget", "()V"⟩
abbrev cX1_switchCount : ByteArray := prog_3_method_4_code
def yX1_switchCount : MethodName := ⟨RX1, "switchCount", "()I"⟩
abbrev cX1_hostCount : ByteArray := prog_3_method_5_code
def yX1_hostCount : MethodName := ⟨RX1, "hostCount", "()I"⟩
abbrev cX1_linkCount : ByteArray := prog_3_method_6_code
def yX1_linkCount : MethodName := ⟨RX1, "linkCount", "()I"⟩
abbrev cX1_hasSwitch : ByteArray := prog_3_method_7_code
def yX1_hasSwitch : MethodName := ⟨RX1, "hasSwitch", "(I)Z"⟩
abbrev cX1_hasPort : ByteArray := prog_3_method_8_code
def yX1_hasPort : MethodName := ⟨RX1, "hasPort", "(II)Z"⟩
abbrev cX1_hasHost : ByteArray := prog_3_method_9_code
def yX1_hasHost : MethodName := ⟨RX1, "hasHost", "(I)Z"⟩
abbrev cX1_hasMixture : ByteArray := prog_3_method_10_code
def yX1_hasMixture : MethodName := ⟨RX1, "hasMixture", "(I)Z"⟩
abbrev cX1_allNew : ByteArray := prog_3_method_11_code
def yX1_allNew : MethodName := ⟨RX1, "allNew", "()I"⟩
abbrev cX1_isFree : ByteArray := prog_3_method_12_code
def yX1_isFree : MethodName := ⟨RX1, "isFree", "(II)Z"⟩
abbrev cX1_join : ByteArray := prog_3_method_13_code
def yX1_join : MethodName := ⟨RX1, "join", "(IIII)V"⟩
abbrev cX1_addHost : ByteArray := prog_3_method_14_code
def yX1_addHost : MethodName := ⟨RX1, "addHost", "(II)I"⟩
abbrev cX1_switchOf : ByteArray := prog_3_method_15_code
def yX1_switchOf : MethodName := ⟨RX1, "switchOf", "(I)I"⟩
abbrev cX1_hostAt : ByteArray := prog_3_method_16_code
def yX1_hostAt : MethodName := ⟨RX1, "hostAt", "(II)I"⟩
abbrev cX1_clear : ByteArray := prog_3_method_17_code
def yX1_clear : MethodName := ⟨RX1, "clear", "(II)V"⟩
abbrev cX1_rowOf : ByteArray := prog_3_method_18_code
def yX1_rowOf : MethodName := ⟨RX1, "rowOf", "(II)LRuleChangeDesk$Row;"⟩
abbrev cX1_ruleCount : ByteArray := prog_3_method_19_code
def yX1_ruleCount : MethodName := ⟨RX1, "ruleCount", "()I"⟩
abbrev cX1_unlike : ByteArray := prog_3_method_20_code
def yX1_unlike : MethodName := ⟨RX1, "unlike", "()I"⟩
abbrev cX1_classOf : ByteArray := prog_3_method_21_code
def yX1_classOf : MethodName := ⟨RX1, "classOf", "(I)I"⟩
abbrev cX1_classCount : ByteArray := prog_3_method_22_code
def yX1_classCount : MethodName := ⟨RX1, "classCount", "()I"⟩
abbrev cX1_findClasses : ByteArray := prog_3_method_23_code
def yX1_findClasses : MethodName := ⟨RX1, "findClasses", "()V"⟩
abbrev cX1_leastAlike : ByteArray := prog_3_method_24_code
def yX1_leastAlike : MethodName := ⟨RX1, "leastAlike", "(I)I"⟩
abbrev cX1_isSeparated : ByteArray := prog_3_method_25_code
def yX1_isSeparated : MethodName := ⟨RX1, "isSeparated", "(II)Z"⟩
abbrev cX1_trace : ByteArray := prog_3_method_26_code
def yX1_trace : MethodName := ⟨RX1, "trace", "(LRuleChangeDesk$Way;III)V"⟩
abbrev cX1_whereTo : ByteArray := prog_3_method_27_code
def yX1_whereTo : MethodName := ⟨RX1, "whereTo", "(III)I"⟩
def RX2 : String := "RuleChangeDesk$Packet"
def TX2 : u_T := fun k => match k with
  | 0 => ("RuleChangeDesk$Packet", "way", "LRuleChangeDesk$Way;", true)
  | 1 => ("RuleChangeDesk$Packet", "host", "I", false)
  | _ => ("RuleChangeDesk$Packet", "mark", "I", false)
def tyX2 : Nat → FieldType := fun k => match k with
  | 0 => .object "RuleChangeDesk$Way"
  | 1 => .int
  | _ => .int
theorem nmX2 : ∀ a, a < 3 → ∀ b, b < 3 → a ≠ b → (TX2 a).2.1 ≠ (TX2 b).2.1 := by decide +kernel
theorem tyX2_ok : ∀ k, k < 3 → parseFieldDescriptor (TX2 k).2.2.1 = some (tyX2 k) := by decide +kernel
abbrev cX2_init : ByteArray := prog_4_method_1_code
def yX2_init : MethodName := ⟨RX2, "<init>", "()V"⟩
abbrev cX2_putInAt : ByteArray := prog_4_method_2_code
def yX2_putInAt : MethodName := ⟨RX2, "putInAt", "(III)V"⟩
abbrev cX2_isUnderWay : ByteArray := prog_4_method_3_code
def yX2_isUnderWay : MethodName := ⟨RX2, "isUnderWay", "()Z"⟩
abbrev cX2_place : ByteArray := prog_4_method_4_code
def yX2_place : MethodName := ⟨RX2, "place", "()I"⟩
abbrev cX2_end : ByteArray := prog_4_method_5_code
def yX2_end : MethodName := ⟨RX2, "end", "()I"⟩
abbrev cX2_tell : ByteArray := prog_4_method_6_code
def yX2_tell : MethodName := ⟨RX2, "tell", "(I)I"⟩
def RX3 : String := "RuleChangeDesk$Plan"
def TX3 : u_T := fun k => match k with
  | 0 => ("RuleChangeDesk$Plan", "sets", "[I", true)
  | _ => ("RuleChangeDesk$Plan", "size", "I", false)
def tyX3 : Nat → FieldType := fun k => match k with
  | 0 => .array .int
  | _ => .int
theorem nmX3 : ∀ a, a < 2 → ∀ b, b < 2 → a ≠ b → (TX3 a).2.1 ≠ (TX3 b).2.1 := by decide +kernel
theorem tyX3_ok : ∀ k, k < 2 → parseFieldDescriptor (TX3 k).2.2.1 = some (tyX3 k) := by decide +kernel
abbrev cX3_init : ByteArray := prog_5_method_1_code
def yX3_init : MethodName := ⟨RX3, "<init>", "()V"⟩
abbrev cX3_clear : ByteArray := prog_5_method_2_code
def yX3_clear : MethodName := ⟨RX3, "clear", "()V"⟩
abbrev cX3_add : ByteArray := prog_5_method_3_code
def yX3_add : MethodName := ⟨RX3, "add", "(I)V"⟩
abbrev cX3_size : ByteArray := prog_5_method_4_code
def yX3_size : MethodName := ⟨RX3, "size", "()I"⟩
abbrev cX3_has : ByteArray := prog_5_method_5_code
def yX3_has : MethodName := ⟨RX3, "has", "(I)Z"⟩
abbrev cX3_get : ByteArray := prog_5_method_6_code
def yX3_get : MethodName := ⟨RX3, "get", "(I)I"⟩
abbrev cX3_members : ByteArray := prog_5_method_7_code
def yX3_members : MethodName := ⟨RX3, "members", "()I"⟩
abbrev cX3_membersAhead : ByteArray := prog_5_method_8_code
def yX3_membersAhead : MethodName := ⟨RX3, "membersAhead", "(I)I"⟩
def RX4 : String := "RuleChangeDesk$Planner"
def TX4 : u_T := fun k => match k with
  | 0 => ("RuleChangeDesk$Planner", "net", "LRuleChangeDesk$Net;", true)
  | 1 => ("RuleChangeDesk$Planner", "judge", "LRuleChangeDesk$Judge;", true)
  | 2 => ("RuleChangeDesk$Planner", "fewest", "[I", true)
  | _ => ("RuleChangeDesk$Planner", "orderings", "[I", true)
def tyX4 : Nat → FieldType := fun k => match k with
  | 0 => .object "RuleChangeDesk$Net"
  | 1 => .object "RuleChangeDesk$Judge"
  | 2 => .array .int
  | _ => .array .int
theorem nmX4 : ∀ a, a < 4 → ∀ b, b < 4 → a ≠ b → (TX4 a).2.1 ≠ (TX4 b).2.1 := by decide +kernel
theorem tyX4_ok : ∀ k, k < 4 → parseFieldDescriptor (TX4 k).2.2.1 = some (tyX4 k) := by decide +kernel
abbrev cX4_init : ByteArray := prog_6_method_1_code
def yX4_init : MethodName := ⟨RX4, "<init>", "(LRuleChangeDesk$Net;LRuleChangeDesk$Judge;)V"⟩
abbrev cX4_countGood : ByteArray := prog_6_method_2_code
def yX4_countGood : MethodName := ⟨RX4, "countGood", "()I"⟩
abbrev cX4_whyNotTaken : ByteArray := prog_6_method_3_code
def yX4_whyNotTaken : MethodName := ⟨RX4, "whyNotTaken", "(II)I"⟩
abbrev cX4_makeLeast : ByteArray := prog_6_method_4_code
def yX4_makeLeast : MethodName := ⟨RX4, "makeLeast", "(LRuleChangeDesk$Plan;)Z"⟩
abbrev cX4_countOrders : ByteArray := prog_6_method_5_code
def yX4_countOrders : MethodName := ⟨RX4, "countOrders", "()I"⟩
abbrev cX4_makeOrder : ByteArray := prog_6_method_6_code
def yX4_makeOrder : MethodName := ⟨RX4, "makeOrder", "(LRuleChangeDesk$Plan;I)Z"⟩
abbrev cX4_findOrderings : ByteArray := prog_6_method_7_code
def yX4_findOrderings : MethodName := ⟨RX4, "findOrderings", "(I)I"⟩
abbrev cX4_leastNotGood : ByteArray := prog_6_method_8_code
def yX4_leastNotGood : MethodName := ⟨RX4, "leastNotGood", "(II)I"⟩
abbrev cX4_fewestFrom : ByteArray := prog_6_method_9_code
def yX4_fewestFrom : MethodName := ⟨RX4, "fewestFrom", "(II)I"⟩
abbrev cX4_leastRound : ByteArray := prog_6_method_10_code
def yX4_leastRound : MethodName := ⟨RX4, "leastRound", "(II)I"⟩
abbrev cX4_orderingsFrom : ByteArray := prog_6_method_11_code
def yX4_orderingsFrom : MethodName := ⟨RX4, "orderingsFrom", "(II)I"⟩
abbrev cX4_orderingsBy : ByteArray := prog_6_method_12_code
def yX4_orderingsBy : MethodName := ⟨RX4, "orderingsBy", "(III)I"⟩
def RX5 : String := "RuleChangeDesk$Row"
def TX5 : u_T := fun k => match k with
  | 0 => ("RuleChangeDesk$Row", "values", "[I", true)
  | 1 => ("RuleChangeDesk$Row", "masks", "[I", true)
  | 2 => ("RuleChangeDesk$Row", "ranks", "[I", true)
  | 3 => ("RuleChangeDesk$Row", "acts", "[I", true)
  | 4 => ("RuleChangeDesk$Row", "actOfMark", "[I", true)
  | _ => ("RuleChangeDesk$Row", "size", "I", false)
def tyX5 : Nat → FieldType := fun k => match k with
  | 0 => .array .int
  | 1 => .array .int
  | 2 => .array .int
  | 3 => .array .int
  | 4 => .array .int
  | _ => .int
theorem nmX5 : ∀ a, a < 6 → ∀ b, b < 6 → a ≠ b → (TX5 a).2.1 ≠ (TX5 b).2.1 := by decide +kernel
theorem tyX5_ok : ∀ k, k < 6 → parseFieldDescriptor (TX5 k).2.2.1 = some (tyX5 k) := by decide +kernel
abbrev cX5_init : ByteArray := prog_7_method_1_code
def yX5_init : MethodName := ⟨RX5, "<init>", "()V"⟩
abbrev cX5_size : ByteArray := prog_7_method_2_code
def yX5_size : MethodName := ⟨RX5, "size", "()I"⟩
abbrev cX5_clear : ByteArray := prog_7_method_3_code
def yX5_clear : MethodName := ⟨RX5, "clear", "()V"⟩
abbrev cX5_add : ByteArray := prog_7_method_4_code
def yX5_add : MethodName := ⟨RX5, "add", "(IIII)V"⟩
abbrev cX5_remove : ByteArray := prog_7_method_5_code
def yX5_remove : MethodName := ⟨RX5, "remove", "(I)V"⟩
abbrev cX5_becomeLike : ByteArray := prog_7_method_6_code
def yX5_becomeLike : MethodName := ⟨RX5, "becomeLike", "(LRuleChangeDesk$Row;)V"⟩
abbrev cX5_isLike : ByteArray := prog_7_method_7_code
def yX5_isLike : MethodName := ⟨RX5, "isLike", "(LRuleChangeDesk$Row;)Z"⟩
abbrev cX5_separates : ByteArray := prog_7_method_8_code
def yX5_separates : MethodName := ⟨RX5, "separates", "(II)Z"⟩
abbrev cX5_put : ByteArray := prog_7_method_9_code
def yX5_put : MethodName := ⟨RX5, "put", "(IIIII)V"⟩
abbrev cX5_findActs : ByteArray := prog_7_method_10_code
def yX5_findActs : MethodName := ⟨RX5, "findActs", "()V"⟩
def RX6 : String := "RuleChangeDesk$Run"
def TX6 : u_T := fun k => match k with
  | 0 => ("RuleChangeDesk$Run", "net", "LRuleChangeDesk$Net;", true)
  | 1 => ("RuleChangeDesk$Run", "judge", "LRuleChangeDesk$Judge;", true)
  | 2 => ("RuleChangeDesk$Run", "plan", "LRuleChangeDesk$Plan;", true)
  | 3 => ("RuleChangeDesk$Run", "packets", "[LRuleChangeDesk$Packet;", true)
  | 4 => ("RuleChangeDesk$Run", "live", "Z", false)
  | 5 => ("RuleChangeDesk$Run", "atHand", "I", false)
  | 6 => ("RuleChangeDesk$Run", "changed", "I", false)
  | 7 => ("RuleChangeDesk$Run", "count", "I", false)
  | 8 => ("RuleChangeDesk$Run", "underWay", "I", false)
  | _ => ("RuleChangeDesk$Run", "broken", "I", false)
def tyX6 : Nat → FieldType := fun k => match k with
  | 0 => .object "RuleChangeDesk$Net"
  | 1 => .object "RuleChangeDesk$Judge"
  | 2 => .object "RuleChangeDesk$Plan"
  | 3 => .array (.object "RuleChangeDesk$Packet")
  | 4 => .boolean
  | 5 => .int
  | 6 => .int
  | 7 => .int
  | 8 => .int
  | _ => .int
theorem nmX6 : ∀ a, a < 10 → ∀ b, b < 10 → a ≠ b → (TX6 a).2.1 ≠ (TX6 b).2.1 := by decide +kernel
theorem tyX6_ok : ∀ k, k < 10 → parseFieldDescriptor (TX6 k).2.2.1 = some (tyX6 k) := by decide +kernel
abbrev cX6_init : ByteArray := prog_8_method_1_code
def yX6_init : MethodName := ⟨RX6, "<init>", "(LRuleChangeDesk$Net;LRuleChangeDesk$Judge;LRuleChangeDesk$Plan;)V"⟩
abbrev cX6_start : ByteArray := prog_8_method_2_code
def yX6_start : MethodName := ⟨RX6, "start", "()V"⟩
abbrev cX6_stop : ByteArray := prog_8_method_3_code
def yX6_stop : MethodName := ⟨RX6, "stop", "()V"⟩
abbrev cX6_isLive : ByteArray := prog_8_method_4_code
def yX6_isLive : MethodName := ⟨RX6, "isLive", "()Z"⟩
abbrev cX6_packetCount : ByteArray := prog_8_method_5_code
def yX6_packetCount : MethodName := ⟨RX6, "packetCount", "()I"⟩
abbrev cX6_packetOf : ByteArray := prog_8_method_6_code
def yX6_packetOf : MethodName := ⟨RX6, "packetOf", "(I)LRuleChangeDesk$Packet;"⟩
abbrev cX6_putIn : ByteArray := prog_8_method_7_code
def yX6_putIn : MethodName := ⟨RX6, "putIn", "(II)I"⟩
abbrev cX6_moveOn : ByteArray := prog_8_method_8_code
def yX6_moveOn : MethodName := ⟨RX6, "moveOn", "(LRuleChangeDesk$Packet;)V"⟩
abbrev cX6_takeNew : ByteArray := prog_8_method_9_code
def yX6_takeNew : MethodName := ⟨RX6, "takeNew", "(I)I"⟩
abbrev cX6_nextRound : ByteArray := prog_8_method_10_code
def yX6_nextRound : MethodName := ⟨RX6, "nextRound", "()I"⟩
abbrev cX6_tell : ByteArray := prog_8_method_11_code
def yX6_tell : MethodName := ⟨RX6, "tell", "(I)I"⟩
abbrev cX6_left : ByteArray := prog_8_method_12_code
def yX6_left : MethodName := ⟨RX6, "left", "()I"⟩
def RX7 : String := "RuleChangeDesk$Want"
def TX7 : u_T := fun k => match k with
  | 0 => ("RuleChangeDesk$Want", "kind", "I", true)
  | 1 => ("RuleChangeDesk$Want", "value", "I", true)
  | 2 => ("RuleChangeDesk$Want", "bits", "I", true)
  | 3 => ("RuleChangeDesk$Want", "a", "I", true)
  | 4 => ("RuleChangeDesk$Want", "b", "I", true)
  | _ => ("RuleChangeDesk$Want", "s", "I", true)
def tyX7 : Nat → FieldType := fun k => match k with
  | 0 => .int
  | 1 => .int
  | 2 => .int
  | 3 => .int
  | 4 => .int
  | _ => .int
theorem nmX7 : ∀ a, a < 6 → ∀ b, b < 6 → a ≠ b → (TX7 a).2.1 ≠ (TX7 b).2.1 := by decide +kernel
theorem tyX7_ok : ∀ k, k < 6 → parseFieldDescriptor (TX7 k).2.2.1 = some (tyX7 k) := by decide +kernel
abbrev cX7_init : ByteArray := prog_9_method_1_code
def yX7_init : MethodName := ⟨RX7, "<init>", "(IIIIII)V"⟩
abbrev cX7_needsHost : ByteArray := prog_9_method_2_code
def yX7_needsHost : MethodName := ⟨RX7, "needsHost", "(I)Z"⟩
abbrev cX7_hasMark : ByteArray := prog_9_method_3_code
def yX7_hasMark : MethodName := ⟨RX7, "hasMark", "(I)Z"⟩
abbrev cX7_isMet : ByteArray := prog_9_method_4_code
def yX7_isMet : MethodName := ⟨RX7, "isMet", "(LRuleChangeDesk$Way;LRuleChangeDesk$Way;LRuleChangeDesk$Way;)Z"⟩
def RX8 : String := "RuleChangeDesk$Way"
def TX8 : u_T := fun k => match k with
  | 0 => ("RuleChangeDesk$Way", "stops", "[I", true)
  | 1 => ("RuleChangeDesk$Way", "length", "I", false)
  | 2 => ("RuleChangeDesk$Way", "passed", "I", false)
  | _ => ("RuleChangeDesk$Way", "end", "I", false)
def tyX8 : Nat → FieldType := fun k => match k with
  | 0 => .array .int
  | 1 => .int
  | 2 => .int
  | _ => .int
theorem nmX8 : ∀ a, a < 4 → ∀ b, b < 4 → a ≠ b → (TX8 a).2.1 ≠ (TX8 b).2.1 := by decide +kernel
theorem tyX8_ok : ∀ k, k < 4 → parseFieldDescriptor (TX8 k).2.2.1 = some (tyX8 k) := by decide +kernel
abbrev cX8_init : ByteArray := prog_10_method_1_code
def yX8_init : MethodName := ⟨RX8, "<init>", "()V"⟩
abbrev cX8_startAt : ByteArray := prog_10_method_2_code
def yX8_startAt : MethodName := ⟨RX8, "startAt", "(I)V"⟩
abbrev cX8_goOn : ByteArray := prog_10_method_3_code
def yX8_goOn : MethodName := ⟨RX8, "goOn", "(I)V"⟩
abbrev cX8_length : ByteArray := prog_10_method_4_code
def yX8_length : MethodName := ⟨RX8, "length", "()I"⟩
abbrev cX8_end : ByteArray := prog_10_method_5_code
def yX8_end : MethodName := ⟨RX8, "end", "()I"⟩
abbrev cX8_stop : ByteArray := prog_10_method_6_code
def yX8_stop : MethodName := ⟨RX8, "stop", "(I)I"⟩
abbrev cX8_last : ByteArray := prog_10_method_7_code
def yX8_last : MethodName := ⟨RX8, "last", "()I"⟩
abbrev cX8_passes : ByteArray := prog_10_method_8_code
def yX8_passes : MethodName := ⟨RX8, "passes", "(I)Z"⟩
abbrev cX8_isLike : ByteArray := prog_10_method_9_code
def yX8_isLike : MethodName := ⟨RX8, "isLike", "(LRuleChangeDesk$Way;)Z"⟩
def RX9 : String := "RuleChangeDesk"
def TX9 : u_T := fun k => match k with
  | 0 => ("RuleChangeDesk", "switches", "LRuleChangeDesk$Net;", true)
  | 1 => ("RuleChangeDesk", "judge", "LRuleChangeDesk$Judge;", true)
  | 2 => ("RuleChangeDesk", "rounds", "LRuleChangeDesk$Plan;", true)
  | 3 => ("RuleChangeDesk", "planner", "LRuleChangeDesk$Planner;", true)
  | 4 => ("RuleChangeDesk", "current", "LRuleChangeDesk$Run;", true)
  | _ => ("RuleChangeDesk", "latest", "LRuleChangeDesk$Way;", true)
def tyX9 : Nat → FieldType := fun k => match k with
  | 0 => .object "RuleChangeDesk$Net"
  | 1 => .object "RuleChangeDesk$Judge"
  | 2 => .object "RuleChangeDesk$Plan"
  | 3 => .object "RuleChangeDesk$Planner"
  | 4 => .object "RuleChangeDesk$Run"
  | _ => .object "RuleChangeDesk$Way"
theorem nmX9 : ∀ a, a < 6 → ∀ b, b < 6 → a ≠ b → (TX9 a).2.1 ≠ (TX9 b).2.1 := by decide +kernel
theorem tyX9_ok : ∀ k, k < 6 → parseFieldDescriptor (TX9 k).2.2.1 = some (tyX9 k) := by decide +kernel
abbrev cX9_init : ByteArray := prog_1_method_1_code
def yX9_init : MethodName := ⟨RX9, "<init>", "()V"⟩
abbrev cX9_net : ByteArray := prog_1_method_2_code
def yX9_net : MethodName := ⟨RX9, "net", "(I)Z"⟩
abbrev cX9_link : ByteArray := prog_1_method_3_code
def yX9_link : MethodName := ⟨RX9, "link", "(IIII)Z"⟩
abbrev cX9_host : ByteArray := prog_1_method_4_code
def yX9_host : MethodName := ⟨RX9, "host", "(II)I"⟩
abbrev cX9_unplug : ByteArray := prog_1_method_5_code
def yX9_unplug : MethodName := ⟨RX9, "unplug", "(II)Z"⟩
abbrev cX9_rule : ByteArray := prog_1_method_6_code
def yX9_rule : MethodName := ⟨RX9, "rule", "(IIIIII)I"⟩
abbrev cX9_strike : ByteArray := prog_1_method_7_code
def yX9_strike : MethodName := ⟨RX9, "strike", "(III)I"⟩
abbrev cX9_copy : ByteArray := prog_1_method_8_code
def yX9_copy : MethodName := ⟨RX9, "copy", "(IZ)I"⟩
abbrev cX9_want : ByteArray := prog_1_method_9_code
def yX9_want : MethodName := ⟨RX9, "want", "(IIIIII)I"⟩
abbrev cX9_unwant : ByteArray := prog_1_method_10_code
def yX9_unwant : MethodName := ⟨RX9, "unwant", "(I)I"⟩
abbrev cX9_look : ByteArray := prog_1_method_11_code
def yX9_look : MethodName := ⟨RX9, "look", "(I)I"⟩
abbrev cX9_ofClass : ByteArray := prog_1_method_12_code
def yX9_ofClass : MethodName := ⟨RX9, "ofClass", "(I)I"⟩
abbrev cX9_way : ByteArray := prog_1_method_13_code
def yX9_way : MethodName := ⟨RX9, "way", "(III)I"⟩
abbrev cX9_on : ByteArray := prog_1_method_14_code
def yX9_on : MethodName := ⟨RX9, "on", "(I)I"⟩
abbrev cX9_holds : ByteArray := prog_1_method_15_code
def yX9_holds : MethodName := ⟨RX9, "holds", "(II)I"⟩
abbrev cX9_kept : ByteArray := prog_1_method_16_code
def yX9_kept : MethodName := ⟨RX9, "kept", "(I)I"⟩
abbrev cX9_why : ByteArray := prog_1_method_17_code
def yX9_why : MethodName := ⟨RX9, "why", "(II)I"⟩
abbrev cX9_least : ByteArray := prog_1_method_18_code
def yX9_least : MethodName := ⟨RX9, "least", "()I"⟩
abbrev cX9_orders : ByteArray := prog_1_method_19_code
def yX9_orders : MethodName := ⟨RX9, "orders", "()I"⟩
abbrev cX9_order : ByteArray := prog_1_method_20_code
def yX9_order : MethodName := ⟨RX9, "order", "(I)Z"⟩
abbrev cX9_round : ByteArray := prog_1_method_21_code
def yX9_round : MethodName := ⟨RX9, "round", "(I)I"⟩
abbrev cX9_empty : ByteArray := prog_1_method_22_code
def yX9_empty : MethodName := ⟨RX9, "empty", "()V"⟩
abbrev cX9_plan : ByteArray := prog_1_method_23_code
def yX9_plan : MethodName := ⟨RX9, "plan", "(I)I"⟩
abbrev cX9_mid : ByteArray := prog_1_method_24_code
def yX9_mid : MethodName := ⟨RX9, "mid", "(I)I"⟩
abbrev cX9_begin : ByteArray := prog_1_method_25_code
def yX9_begin : MethodName := ⟨RX9, "begin", "()Z"⟩
abbrev cX9_send : ByteArray := prog_1_method_26_code
def yX9_send : MethodName := ⟨RX9, "send", "(II)I"⟩
abbrev cX9_hop : ByteArray := prog_1_method_27_code
def yX9_hop : MethodName := ⟨RX9, "hop", "(I)I"⟩
abbrev cX9_change : ByteArray := prog_1_method_28_code
def yX9_change : MethodName := ⟨RX9, "change", "(I)I"⟩
abbrev cX9_next : ByteArray := prog_1_method_29_code
def yX9_next : MethodName := ⟨RX9, "next", "()I"⟩
abbrev cX9_run : ByteArray := prog_1_method_30_code
def yX9_run : MethodName := ⟨RX9, "run", "(I)I"⟩
abbrev cX9_packet : ByteArray := prog_1_method_31_code
def yX9_packet : MethodName := ⟨RX9, "packet", "(II)I"⟩
abbrev cX9_startAfresh : ByteArray := prog_1_method_32_code
def yX9_startAfresh : MethodName := ⟨RX9, "startAfresh", "()V"⟩
abbrev cX9_isMark : ByteArray := prog_1_method_33_code
def yX9_isMark : MethodName := ⟨RX9, "isMark", "(I)Z"⟩
abbrev cX9_isSpan : ByteArray := prog_1_method_34_code
def yX9_isSpan : MethodName := ⟨RX9, "isSpan", "(II)Z"⟩
abbrev cX9_spanHas : ByteArray := prog_1_method_35_code
def yX9_spanHas : MethodName := ⟨RX9, "spanHas", "(III)Z"⟩
abbrev cX9_hasTarget : ByteArray := prog_1_method_36_code
def yX9_hasTarget : MethodName := ⟨RX9, "hasTarget", "(I)Z"⟩
abbrev cX9_isWithin : ByteArray := prog_1_method_37_code
def yX9_isWithin : MethodName := ⟨RX9, "isWithin", "(II)Z"⟩
def RX10 : String := "RuleChangeDeskModel"
def TX10 : u_T := fun k => match k with
  | 0 => ("RuleChangeDeskModel", "switches", "I", false)
  | 1 => ("RuleChangeDeskModel", "hosts", "I", false)
  | 2 => ("RuleChangeDeskModel", "wants", "I", false)
  | 3 => ("RuleChangeDeskModel", "there", "[I", true)
  | 4 => ("RuleChangeDeskModel", "other", "[I", true)
  | 5 => ("RuleChangeDeskModel", "hostAt", "[I", true)
  | 6 => ("RuleChangeDeskModel", "ruleMany", "[I", true)
  | 7 => ("RuleChangeDeskModel", "rules", "[I", true)
  | 8 => ("RuleChangeDeskModel", "want", "[I", true)
  | 9 => ("RuleChangeDeskModel", "path", "[I", true)
  | 10 => ("RuleChangeDeskModel", "pathOld", "[I", true)
  | 11 => ("RuleChangeDeskModel", "pathNew", "[I", true)
  | 12 => ("RuleChangeDeskModel", "told", "[I", true)
  | 13 => ("RuleChangeDeskModel", "long0", "I", false)
  | 14 => ("RuleChangeDeskModel", "end0", "I", false)
  | 15 => ("RuleChangeDeskModel", "longOld", "I", false)
  | 16 => ("RuleChangeDeskModel", "endOld", "I", false)
  | 17 => ("RuleChangeDeskModel", "longNew", "I", false)
  | 18 => ("RuleChangeDeskModel", "endNew", "I", false)
  | 19 => ("RuleChangeDeskModel", "toldLong", "I", false)
  | 20 => ("RuleChangeDeskModel", "toldEnd", "I", false)
  | 21 => ("RuleChangeDeskModel", "knows", "Z", false)
  | 22 => ("RuleChangeDeskModel", "good", "[Z", true)
  | 23 => ("RuleChangeDeskModel", "classes", "[I", true)
  | 24 => ("RuleChangeDeskModel", "rounds", "I", false)
  | 25 => ("RuleChangeDeskModel", "plan", "[I", true)
  | 26 => ("RuleChangeDeskModel", "fewest", "[I", true)
  | 27 => ("RuleChangeDeskModel", "ways", "[I", true)
  | 28 => ("RuleChangeDeskModel", "runs", "Z", false)
  | 29 => ("RuleChangeDeskModel", "atHand", "I", false)
  | 30 => ("RuleChangeDeskModel", "done", "I", false)
  | 31 => ("RuleChangeDeskModel", "packets", "I", false)
  | 32 => ("RuleChangeDeskModel", "broken", "I", false)
  | 33 => ("RuleChangeDeskModel", "pHost", "[I", true)
  | 34 => ("RuleChangeDeskModel", "pMark", "[I", true)
  | 35 => ("RuleChangeDeskModel", "pAt", "[I", true)
  | 36 => ("RuleChangeDeskModel", "pEnd", "[I", true)
  | 37 => ("RuleChangeDeskModel", "pLong", "[I", true)
  | _ => ("RuleChangeDeskModel", "pPath", "[I", true)
def tyX10 : Nat → FieldType := fun k => match k with
  | 0 => .int
  | 1 => .int
  | 2 => .int
  | 3 => .array .int
  | 4 => .array .int
  | 5 => .array .int
  | 6 => .array .int
  | 7 => .array .int
  | 8 => .array .int
  | 9 => .array .int
  | 10 => .array .int
  | 11 => .array .int
  | 12 => .array .int
  | 13 => .int
  | 14 => .int
  | 15 => .int
  | 16 => .int
  | 17 => .int
  | 18 => .int
  | 19 => .int
  | 20 => .int
  | 21 => .boolean
  | 22 => .array .boolean
  | 23 => .array .int
  | 24 => .int
  | 25 => .array .int
  | 26 => .array .int
  | 27 => .array .int
  | 28 => .boolean
  | 29 => .int
  | 30 => .int
  | 31 => .int
  | 32 => .int
  | 33 => .array .int
  | 34 => .array .int
  | 35 => .array .int
  | 36 => .array .int
  | 37 => .array .int
  | _ => .array .int
theorem nmX10 : ∀ a, a < 39 → ∀ b, b < 39 → a ≠ b → (TX10 a).2.1 ≠ (TX10 b).2.1 := by decide +kernel
theorem tyX10_ok : ∀ k, k < 39 → parseFieldDescriptor (TX10 k).2.2.1 = some (tyX10 k) := by decide +kernel
abbrev cX10_init : ByteArray := prog_12_method_1_code
def yX10_init : MethodName := ⟨RX10, "<init>", "()V"⟩
abbrev cX10_isIn : ByteArray := prog_12_method_2_code
def yX10_isIn : MethodName := ⟨RX10, "isIn", "(III)Z"⟩
abbrev cX10_clear : ByteArray := prog_12_method_3_code
def yX10_clear : MethodName := ⟨RX10, "clear", "(I)V"⟩
abbrev cX10_isPort : ByteArray := prog_12_method_4_code
def yX10_isPort : MethodName := ⟨RX10, "isPort", "(II)Z"⟩
abbrev cX10_isSpan : ByteArray := prog_12_method_5_code
def yX10_isSpan : MethodName := ⟨RX10, "isSpan", "(II)Z"⟩
abbrev cX10_net : ByteArray := prog_12_method_6_code
def yX10_net : MethodName := ⟨RX10, "net", "(I)Z"⟩
abbrev cX10_link : ByteArray := prog_12_method_7_code
def yX10_link : MethodName := ⟨RX10, "link", "(IIII)Z"⟩
abbrev cX10_host : ByteArray := prog_12_method_8_code
def yX10_host : MethodName := ⟨RX10, "host", "(II)I"⟩
abbrev cX10_isOf : ByteArray := prog_12_method_9_code
def yX10_isOf : MethodName := ⟨RX10, "isOf", "(II)Z"⟩
abbrev cX10_hasGoal : ByteArray := prog_12_method_10_code
def yX10_hasGoal : MethodName := ⟨RX10, "hasGoal", "(I)Z"⟩
abbrev cX10_unplug : ByteArray := prog_12_method_11_code
def yX10_unplug : MethodName := ⟨RX10, "unplug", "(II)Z"⟩
abbrev cX10_ruleAt : ByteArray := prog_12_method_12_code
def yX10_ruleAt : MethodName := ⟨RX10, "ruleAt", "(III)I"⟩
abbrev cX10_rule : ByteArray := prog_12_method_13_code
def yX10_rule : MethodName := ⟨RX10, "rule", "(IIIIII)I"⟩
abbrev cX10_strike : ByteArray := prog_12_method_14_code
def yX10_strike : MethodName := ⟨RX10, "strike", "(III)I"⟩
abbrev cX10_copy : ByteArray := prog_12_method_15_code
def yX10_copy : MethodName := ⟨RX10, "copy", "(IZ)I"⟩
abbrev cX10_want : ByteArray := prog_12_method_16_code
def yX10_want : MethodName := ⟨RX10, "want", "(IIIIII)I"⟩
abbrev cX10_unwant : ByteArray := prog_12_method_17_code
def yX10_unwant : MethodName := ⟨RX10, "unwant", "(I)I"⟩
abbrev cX10_isOfSpan : ByteArray := prog_12_method_18_code
def yX10_isOfSpan : MethodName := ⟨RX10, "isOfSpan", "(III)Z"⟩
abbrev cX10_actOf : ByteArray := prog_12_method_19_code
def yX10_actOf : MethodName := ⟨RX10, "actOf", "(III)I"⟩
abbrev cX10_goes : ByteArray := prog_12_method_20_code
def yX10_goes : MethodName := ⟨RX10, "goes", "(III)I"⟩
abbrev cX10_walks : ByteArray := prog_12_method_21_code
def yX10_walks : MethodName := ⟨RX10, "walks", "(III)V"⟩
abbrev cX10_all : ByteArray := prog_12_method_22_code
def yX10_all : MethodName := ⟨RX10, "all", "()I"⟩
abbrev cX10_isMixture : ByteArray := prog_12_method_23_code
def yX10_isMixture : MethodName := ⟨RX10, "isMixture", "(I)Z"⟩
abbrev cX10_way : ByteArray := prog_12_method_24_code
def yX10_way : MethodName := ⟨RX10, "way", "(III)I"⟩
abbrev cX10_on : ByteArray := prog_12_method_25_code
def yX10_on : MethodName := ⟨RX10, "on", "(I)I"⟩
abbrev cX10_isKept : ByteArray := prog_12_method_26_code
def yX10_isKept : MethodName := ⟨RX10, "isKept", "(II)Z"⟩
abbrev cX10_isWhole : ByteArray := prog_12_method_27_code
def yX10_isWhole : MethodName := ⟨RX10, "isWhole", "(II)Z"⟩
abbrev cX10_breaks : ByteArray := prog_12_method_28_code
def yX10_breaks : MethodName := ⟨RX10, "breaks", "(II)I"⟩
abbrev cX10_isKeptOne : ByteArray := prog_12_method_29_code
def yX10_isKeptOne : MethodName := ⟨RX10, "isKeptOne", "(I)Z"⟩
abbrev cX10_holds : ByteArray := prog_12_method_30_code
def yX10_holds : MethodName := ⟨RX10, "holds", "(II)I"⟩
abbrev cX10_kept : ByteArray := prog_12_method_31_code
def yX10_kept : MethodName := ⟨RX10, "kept", "(I)I"⟩
abbrev cX10_why : ByteArray := prog_12_method_32_code
def yX10_why : MethodName := ⟨RX10, "why", "(II)I"⟩
abbrev cX10_changed : ByteArray := prog_12_method_33_code
def yX10_changed : MethodName := ⟨RX10, "changed", "()V"⟩
abbrev cX10_learn : ByteArray := prog_12_method_34_code
def yX10_learn : MethodName := ⟨RX10, "learn", "()V"⟩
abbrev cX10_unlike : ByteArray := prog_12_method_35_code
def yX10_unlike : MethodName := ⟨RX10, "unlike", "()I"⟩
abbrev cX10_classMany : ByteArray := prog_12_method_36_code
def yX10_classMany : MethodName := ⟨RX10, "classMany", "()I"⟩
abbrev cX10_areAlike : ByteArray := prog_12_method_37_code
def yX10_areAlike : MethodName := ⟨RX10, "areAlike", "(II)Z"⟩
abbrev cX10_ofClass : ByteArray := prog_12_method_38_code
def yX10_ofClass : MethodName := ⟨RX10, "ofClass", "(I)I"⟩
abbrev cX10_look : ByteArray := prog_12_method_39_code
def yX10_look : MethodName := ⟨RX10, "look", "(I)I"⟩
abbrev cX10_planned : ByteArray := prog_12_method_40_code
def yX10_planned : MethodName := ⟨RX10, "planned", "(I)I"⟩
abbrev cX10_against : ByteArray := prog_12_method_41_code
def yX10_against : MethodName := ⟨RX10, "against", "(II)I"⟩
abbrev cX10_fewest : ByteArray := prog_12_method_42_code
def yX10_fewest : MethodName := ⟨RX10, "fewest", "(I)V"⟩
abbrev cX10_least : ByteArray := prog_12_method_43_code
def yX10_least : MethodName := ⟨RX10, "least", "()I"⟩
abbrev cX10_ways : ByteArray := prog_12_method_44_code
def yX10_ways : MethodName := ⟨RX10, "ways", "(I)V"⟩
abbrev cX10_orders : ByteArray := prog_12_method_45_code
def yX10_orders : MethodName := ⟨RX10, "orders", "()I"⟩
abbrev cX10_order : ByteArray := prog_12_method_46_code
def yX10_order : MethodName := ⟨RX10, "order", "(I)Z"⟩
abbrev cX10_round : ByteArray := prog_12_method_47_code
def yX10_round : MethodName := ⟨RX10, "round", "(I)I"⟩
abbrev cX10_empty : ByteArray := prog_12_method_48_code
def yX10_empty : MethodName := ⟨RX10, "empty", "()V"⟩
abbrev cX10_plan : ByteArray := prog_12_method_49_code
def yX10_plan : MethodName := ⟨RX10, "plan", "(I)I"⟩
abbrev cX10_mid : ByteArray := prog_12_method_50_code
def yX10_mid : MethodName := ⟨RX10, "mid", "(I)I"⟩
abbrev cX10_begin : ByteArray := prog_12_method_51_code
def yX10_begin : MethodName := ⟨RX10, "begin", "()Z"⟩
abbrev cX10_send : ByteArray := prog_12_method_52_code
def yX10_send : MethodName := ⟨RX10, "send", "(II)I"⟩
abbrev cX10_isPacket : ByteArray := prog_12_method_53_code
def yX10_isPacket : MethodName := ⟨RX10, "isPacket", "(I)Z"⟩
abbrev cX10_hop : ByteArray := prog_12_method_54_code
def yX10_hop : MethodName := ⟨RX10, "hop", "(I)I"⟩
abbrev cX10_left : ByteArray := prog_12_method_55_code
def yX10_left : MethodName := ⟨RX10, "left", "()I"⟩
abbrev cX10_change : ByteArray := prog_12_method_56_code
def yX10_change : MethodName := ⟨RX10, "change", "(I)I"⟩
abbrev cX10_underWay : ByteArray := prog_12_method_57_code
def yX10_underWay : MethodName := ⟨RX10, "underWay", "()I"⟩
abbrev cX10_next : ByteArray := prog_12_method_58_code
def yX10_next : MethodName := ⟨RX10, "next", "()I"⟩
abbrev cX10_run : ByteArray := prog_12_method_59_code
def yX10_run : MethodName := ⟨RX10, "run", "(I)I"⟩
abbrev cX10_packet : ByteArray := prog_12_method_60_code
def yX10_packet : MethodName := ⟨RX10, "packet", "(II)I"⟩
def RJ6 : String := "java/lang/Integer"
def TJ6 : u_T := fun k => match k with
  | _ => ("", "", "", false)
def tyJ6 : Nat → FieldType := fun k => match k with
  | _ => .int
theorem nmJ6 : ∀ a, a < 0 → ∀ b, b < 0 → a ≠ b → (TJ6 a).2.1 ≠ (TJ6 b).2.1 := by decide +kernel
theorem tyJ6_ok : ∀ k, k < 0 → parseFieldDescriptor (TJ6 k).2.2.1 = some (tyJ6 k) := by decide +kernel
abbrev cJ6_bitCount_0f7a4 : ByteArray := prog_13_method_49_code
def yJ6_bitCount_0f7a4 : MethodName := ⟨RJ6, "bitCount", "(I)I"⟩
def RJ7 : String := "java/util/Arrays"
def TJ7 : u_T := fun k => match k with
  | _ => ("", "", "", false)
def tyJ7 : Nat → FieldType := fun k => match k with
  | _ => .int
theorem nmJ7 : ∀ a, a < 0 → ∀ b, b < 0 → a ≠ b → (TJ7 a).2.1 ≠ (TJ7 b).2.1 := by decide +kernel
theorem tyJ7_ok : ∀ k, k < 0 → parseFieldDescriptor (TJ7 k).2.2.1 = some (tyJ7 k) := by decide +kernel
abbrev cJ7_fill_53178 : ByteArray := prog_14_method_103_code
def yJ7_fill_53178 : MethodName := ⟨RJ7, "fill", "([II)V"⟩
def RL : String := "RuleChangeDeskLaw"
abbrev cL_law : ByteArray := code
def yL_law : MethodName := ⟨RL, "law", "([I)Z"⟩
abbrev vwCl : List vw_C := [(RX0, TX0, 10), (RX1, TX1, 9), (RX2, TX2, 3), (RX3, TX3, 2), (RX4, TX4, 4), (RX5, TX5, 6), (RX6, TX6, 10), (RX7, TX7, 6), (RX8, TX8, 4), (RX9, TX9, 6), (RX10, TX10, 39)]
end
section
/-! ===== the small machine: words, classes, heaps, worlds ===== -/
def gtb : List Cond := lw_tbl.filter goodWord
theorem gt_mem {w : Cond} (h : w ∈ lw_tbl) (g : goodWord w = true) : w ∈ gtb := List.mem_filter.mpr ⟨h, g⟩
theorem gt_in {ws : List Cond} (h : ∀ w ∈ ws, w ∈ gtb) : GoodIn gtb ws := fun w hw => ⟨h w hw, good_of_word (List.mem_filter.mp (h w hw)).2⟩
theorem gt_all {ws : List Cond} (h : ws.all (fun w => decide (w ∈ lw_tbl) && goodWord w) = true) : ∀ w ∈ ws, w ∈ gtb := by
  intro w hw
  have h1 := List.all_eq_true.mp h w hw
  simp only [Bool.and_eq_true, decide_eq_true_eq] at h1
  exact gt_mem h1.1 h1.2
-- classes by their number
def mm_C : Nat → String | 0 => RX0 | 1 => RX1 | 2 => RX2 | 3 => RX3 | 4 => RX4 | 5 => RX5 | 6 => RX6 | 7 => RX7 | 8 => RX8 | 9 => RX9 | _ => RX10
def mm_T : Nat → u_T | 0 => TX0 | 1 => TX1 | 2 => TX2 | 3 => TX3 | 4 => TX4 | 5 => TX5 | 6 => TX6 | 7 => TX7 | 8 => TX8 | 9 => TX9 | _ => TX10
def mm_ty : Nat → Nat → FieldType | 0 => tyX0 | 1 => tyX1 | 2 => tyX2 | 3 => tyX3 | 4 => tyX4 | 5 => tyX5 | 6 => tyX6 | 7 => tyX7 | 8 => tyX8 | 9 => tyX9 | _ => tyX10
def mm_nf : Nat → Nat | 0 => 10 | 1 => 9 | 2 => 3 | 3 => 2 | 4 => 4 | 5 => 6 | 6 => 10 | 7 => 6 | 8 => 4 | 9 => 6 | _ => 39
def mm_isI : FieldType → Bool | .int => true | .boolean => true | _ => false
def mm_isR : FieldType → Bool | .object _ => true | .array _ => true | _ => false
def mm_ii (ci k : Nat) : Bool := mm_isI (mm_ty ci k)
theorem mm_lt {ci : Nat} (h : ci < 11) : ci = 0 ∨ ci = 1 ∨ ci = 2 ∨ ci = 3 ∨ ci = 4 ∨ ci = 5 ∨ ci = 6 ∨ ci = 7 ∨ ci = 8 ∨ ci = 9 ∨ ci = 10 := by omega
theorem mm_cl {ci : Nat} (h : ci < 11) : vwCl[ci]? = some (mm_C ci, mm_T ci, mm_nf ci) := by
  rcases mm_lt h with rfl | rfl | rfl | rfl | rfl | rfl | rfl | rfl | rfl | rfl | rfl <;> rfl
theorem mm_nm {ci : Nat} (h : ci < 11) : ∀ a, a < mm_nf ci → ∀ b, b < mm_nf ci → a ≠ b → (mm_T ci a).2.1 ≠ (mm_T ci b).2.1 := by
  rcases mm_lt h with rfl | rfl | rfl | rfl | rfl | rfl | rfl | rfl | rfl | rfl | rfl
  · exact nmX0
  · exact nmX1
  · exact nmX2
  · exact nmX3
  · exact nmX4
  · exact nmX5
  · exact nmX6
  · exact nmX7
  · exact nmX8
  · exact nmX9
  · exact nmX10
theorem mm_tyok {ci : Nat} (h : ci < 11) : ∀ k, k < mm_nf ci → parseFieldDescriptor (mm_T ci k).2.2.1 = some (mm_ty ci k) := by
  rcases mm_lt h with rfl | rfl | rfl | rfl | rfl | rfl | rfl | rfl | rfl | rfl | rfl
  · exact tyX0_ok
  · exact tyX1_ok
  · exact tyX2_ok
  · exact tyX3_ok
  · exact tyX4_ok
  · exact tyX5_ok
  · exact tyX6_ok
  · exact tyX7_ok
  · exact tyX8_ok
  · exact tyX9_ok
  · exact tyX10_ok
theorem mm_in0 : ∀ w ∈ u_ws RX0 TX0 10, w ∈ gtb := gt_all (by decide +kernel)
theorem mm_in1 : ∀ w ∈ u_ws RX1 TX1 9, w ∈ gtb := gt_all (by decide +kernel)
theorem mm_in2 : ∀ w ∈ u_ws RX2 TX2 3, w ∈ gtb := gt_all (by decide +kernel)
theorem mm_in3 : ∀ w ∈ u_ws RX3 TX3 2, w ∈ gtb := gt_all (by decide +kernel)
theorem mm_in4 : ∀ w ∈ u_ws RX4 TX4 4, w ∈ gtb := gt_all (by decide +kernel)
theorem mm_in5 : ∀ w ∈ u_ws RX5 TX5 6, w ∈ gtb := gt_all (by decide +kernel)
theorem mm_in6 : ∀ w ∈ u_ws RX6 TX6 10, w ∈ gtb := gt_all (by decide +kernel)
theorem mm_in7 : ∀ w ∈ u_ws RX7 TX7 6, w ∈ gtb := gt_all (by decide +kernel)
theorem mm_in8 : ∀ w ∈ u_ws RX8 TX8 4, w ∈ gtb := gt_all (by decide +kernel)
theorem mm_in9 : ∀ w ∈ u_ws RX9 TX9 6, w ∈ gtb := gt_all (by decide +kernel)
theorem mm_in10 : ∀ w ∈ u_ws RX10 TX10 39, w ∈ gtb := gt_all (by decide +kernel)
theorem mm_ws {ci : Nat} (h : ci < 11) : ∀ w ∈ u_ws (mm_C ci) (mm_T ci) (mm_nf ci), w ∈ gtb := by
  rcases mm_lt h with rfl | rfl | rfl | rfl | rfl | rfl | rfl | rfl | rfl | rfl | rfl
  · exact mm_in0
  · exact mm_in1
  · exact mm_in2
  · exact mm_in3
  · exact mm_in4
  · exact mm_in5
  · exact mm_in6
  · exact mm_in7
  · exact mm_in8
  · exact mm_in9
  · exact mm_in10
theorem mm_tyk {ci : Nat} (h : ci < 11) : ∀ k, k < mm_nf ci → mm_isI (mm_ty ci k) = true ∨ mm_isR (mm_ty ci k) = true := by
  rcases mm_lt h with rfl | rfl | rfl | rfl | rfl | rfl | rfl | rfl | rfl | rfl | rfl <;> decide +kernel
theorem mm_dv {ty : FieldType} (h : mm_isI ty = true ∨ mm_isR ty = true) : defaultValue ty = if mm_isI ty then .int 0 else .null := by
  cases ty <;> first | rfl | (simp [mm_isI, mm_isR] at h)
-- heaps: kind, length, ints, references, cells, slots
abbrev MH : Type := (Nat → Nat) × (Nat → Nat) × (Nat → Nat → Int32) × (Nat → Nat → Option Nat) × Nat × Nat
def mm_K (h : MH) : Nat → Nat := h.1
def mm_L (h : MH) : Nat → Nat := h.2.1
def mm_I (h : MH) : Nat → Nat → Int32 := h.2.2.1
def mm_R (h : MH) : Nat → Nat → Option Nat := h.2.2.2.1
def mm_N (h : MH) : Nat := h.2.2.2.2.1
def mm_S (h : MH) : Nat := h.2.2.2.2.2
def mm_si (h : MH) (a k : Nat) (x : Int32) : MH := (mm_K h, mm_L h, va_up (mm_I h) a (upd (mm_I h a) k x), mm_R h, mm_N h, mm_S h)
def mm_sr (h : MH) (a k : Nat) (x : Option Nat) : MH := (mm_K h, mm_L h, mm_I h, va_up (mm_R h) a (va_up (mm_R h a) k x), mm_N h, mm_S h)
def mm_no (h : MH) (ci : Nat) : MH := (va_up (mm_K h) (mm_N h) ci, mm_L h, va_up (mm_I h) (mm_N h) (fun _ => 0), va_up (mm_R h) (mm_N h) (fun _ => none), mm_N h + 1, mm_S h + mm_nf ci)
def mm_na (h : MH) (kd n : Nat) : MH := (va_up (mm_K h) (mm_N h) kd, va_up (mm_L h) (mm_N h) n, va_up (mm_I h) (mm_N h) (fun _ => 0), va_up (mm_R h) (mm_N h) (fun _ => none), mm_N h + 1, mm_S h + n)
def mm_v (bs : Nat) (h : MH) (a k : Nat) : Value := if mm_ii (mm_K h a) k then .int (mm_I h a k) else va_rf ((mm_R h a k).map (fun q => bs + q))
def mm_f (bs : Nat) (h : MH) (a : Nat) : List Value := (List.range (mm_nf (mm_K h a))).map (mm_v bs h a)
def mm_e (tc : Nat → ClassId) (bs : Nat) (h : MH) (a : Nat) : va_E :=
  if mm_K h a < 11 then .inr (mm_K h a, mm_f bs h a)
  else if mm_K h a < 13 then .inl (tc (mm_K h a), mm_L h a, .inl (mm_I h a))
  else .inl (tc (mm_K h a), mm_L h a, .inr (.inr (.inr (.inr (fun i => (mm_R h a i).map (fun q => bs + q))))))
def mm_w (tc : Nat → ClassId) (bs : Nat) (h : MH) : va_W := (List.range (mm_N h)).map (fun a => (bs + a, mm_e tc bs h a))
theorem mm_w_at {tc : Nat → ClassId} {bs : Nat} {h : MH} {a : Nat} (ha : a < mm_N h) : (mm_w tc bs h)[a]? = some (bs + a, mm_e tc bs h a) := by
  simp [mm_w, ha]
theorem mm_w_of {tc : Nat → ClassId} {bs : Nat} {h : MH} {a : Nat} {q : Nat × va_E} (hq : (mm_w tc bs h)[a]? = some q) : a < mm_N h ∧ q = (bs + a, mm_e tc bs h a) := by
  by_cases ha : a < mm_N h
  · exact ⟨ha, (Option.some.inj (hq.symm.trans (mm_w_at ha)))⟩
  · simp [mm_w, ha] at hq
theorem mm_w_D {tc : Nat → ClassId} {bs : Nat} {h : MH} : va_D (fun q => bs ≤ q) (mm_w tc bs h) := by
  refine ⟨fun i j p q hp hq hpq => ?_, fun k q hq => ?_⟩
  · obtain ⟨-, rfl⟩ := mm_w_of hp
    obtain ⟨-, rfl⟩ := mm_w_of hq
    have : bs + i = bs + j := hpq
    omega
  · obtain ⟨-, rfl⟩ := mm_w_of hq
    exact Nat.le_add_right bs k
theorem mm_w_set {tc : Nat → ClassId} {bs : Nat} {h h' : MH} {a : Nat} (hn : mm_N h' = mm_N h) (ho : ∀ b, b ≠ a → mm_e tc bs h' b = mm_e tc bs h b) (ha : a < mm_N h) : (mm_w tc bs h).set a (bs + a, mm_e tc bs h' a) = mm_w tc bs h' := by
  apply List.ext_getElem?
  intro i
  by_cases hi : i < mm_N h
  · by_cases e : i = a
    · subst e
      rw [List.getElem?_set_self (by simp [mm_w, hi]), mm_w_at (by omega)]
    · rw [List.getElem?_set_ne (Ne.symm e), mm_w_at hi, mm_w_at (by omega), ho i e]
  · rw [List.getElem?_eq_none (by simp [mm_w]; omega), List.getElem?_eq_none (by simp [mm_w]; omega)]
theorem mm_w_push {tc : Nat → ClassId} {bs : Nat} {h h' : MH} (hn : mm_N h' = mm_N h + 1) (ho : ∀ b, b < mm_N h → mm_e tc bs h' b = mm_e tc bs h b) : mm_w tc bs h ++ [(bs + mm_N h, mm_e tc bs h' (mm_N h))] = mm_w tc bs h' := by
  have e : mm_w tc bs h' = (List.range (mm_N h)).map (fun a => (bs + a, mm_e tc bs h' a)) ++ [(bs + mm_N h, mm_e tc bs h' (mm_N h))] := by
    simp [mm_w, hn, List.range_succ]
  rw [e]
  congr 1
  simp only [mm_w]
  apply List.map_congr_left
  intro a ha
  rw [ho a (List.mem_range.mp ha)]
theorem mm_e_obj {tc : Nat → ClassId} {bs : Nat} {h : MH} {a ci : Nat} (hk : mm_K h a = ci) (hc : ci < 11) : mm_e tc bs h a = .inr (ci, mm_f bs h a) := by
  subst hk; simp [mm_e, hc]
theorem mm_e_int {tc : Nat → ClassId} {bs : Nat} {h : MH} {a : Nat} (hk : mm_K h a = 11 ∨ mm_K h a = 12) : mm_e tc bs h a = .inl (tc (mm_K h a), mm_L h a, .inl (mm_I h a)) := by
  rcases hk with hk | hk <;> simp [mm_e, hk]
theorem mm_e_ref {tc : Nat → ClassId} {bs : Nat} {h : MH} {a : Nat} (hk : 13 ≤ mm_K h a) : mm_e tc bs h a = .inl (tc (mm_K h a), mm_L h a, .inr (.inr (.inr (.inr (fun i => (mm_R h a i).map (fun q => bs + q)))))) := by
  have h1 : ¬ mm_K h a < 11 := by omega
  have h2 : ¬ mm_K h a < 13 := by omega
  simp [mm_e, h1, h2]
theorem mm_e_cong {tc : Nat → ClassId} {bs : Nat} {h h' : MH} {a : Nat} (h1 : mm_K h' a = mm_K h a) (h2 : mm_L h' a = mm_L h a) (h3 : mm_I h' a = mm_I h a) (h4 : mm_R h' a = mm_R h a) : mm_e tc bs h' a = mm_e tc bs h a := by
  have hv : mm_v bs h' a = mm_v bs h a := by funext k; simp only [mm_v, h1, h3, h4]
  simp only [mm_e, mm_f, hv, h1, h2, h3, h4]
theorem mm_f_at {bs : Nat} {h : MH} {a k : Nat} (hk : k < mm_nf (mm_K h a)) : (mm_f bs h a)[k]? = some (mm_v bs h a k) := by simp [mm_f, hk]
theorem mm_f_len {bs : Nat} {h : MH} {a : Nat} : (mm_f bs h a).length = mm_nf (mm_K h a) := by simp [mm_f]
theorem mm_f_set {bs : Nat} {h h' : MH} {a k : Nat} {v : Value} (hK : mm_K h' a = mm_K h a) (hv : mm_v bs h' a k = v) (ho : ∀ j, j ≠ k → mm_v bs h' a j = mm_v bs h a j) : (mm_f bs h a).set k v = mm_f bs h' a := by
  apply List.ext_getElem?
  intro i
  by_cases hi : i < mm_nf (mm_K h a)
  · by_cases e : i = k
    · subst e
      rw [List.getElem?_set_self (by rw [mm_f_len]; exact hi), mm_f_at (by rw [hK]; exact hi), hv]
    · rw [List.getElem?_set_ne (Ne.symm e), mm_f_at hi, mm_f_at (by rw [hK]; exact hi), ho i e]
  · rw [List.getElem?_eq_none (by simp [mm_f]; omega), List.getElem?_eq_none (by simp [mm_f, hK]; omega)]
-- reads of written heaps
theorem si_K (h : MH) (a k : Nat) (x : Int32) : mm_K (mm_si h a k x) = mm_K h := rfl
theorem si_L (h : MH) (a k : Nat) (x : Int32) : mm_L (mm_si h a k x) = mm_L h := rfl
theorem si_R (h : MH) (a k : Nat) (x : Int32) : mm_R (mm_si h a k x) = mm_R h := rfl
theorem si_N (h : MH) (a k : Nat) (x : Int32) : mm_N (mm_si h a k x) = mm_N h := rfl
theorem si_S (h : MH) (a k : Nat) (x : Int32) : mm_S (mm_si h a k x) = mm_S h := rfl
theorem si_I (h : MH) (a k : Nat) (x : Int32) (b j : Nat) : mm_I (mm_si h a k x) b j = if b = a ∧ j = k then x else mm_I h b j := by
  show va_up (mm_I h) a (upd (mm_I h a) k x) b j = _
  by_cases e : b = a
  · subst e; by_cases e2 : j = k <;> simp [va_up, upd, e2]
  · simp [va_up, e]
theorem sr_K (h : MH) (a k : Nat) (x : Option Nat) : mm_K (mm_sr h a k x) = mm_K h := rfl
theorem sr_L (h : MH) (a k : Nat) (x : Option Nat) : mm_L (mm_sr h a k x) = mm_L h := rfl
theorem sr_I (h : MH) (a k : Nat) (x : Option Nat) : mm_I (mm_sr h a k x) = mm_I h := rfl
theorem sr_N (h : MH) (a k : Nat) (x : Option Nat) : mm_N (mm_sr h a k x) = mm_N h := rfl
theorem sr_S (h : MH) (a k : Nat) (x : Option Nat) : mm_S (mm_sr h a k x) = mm_S h := rfl
theorem sr_R (h : MH) (a k : Nat) (x : Option Nat) (b j : Nat) : mm_R (mm_sr h a k x) b j = if b = a ∧ j = k then x else mm_R h b j := by
  show va_up (mm_R h) a (va_up (mm_R h a) k x) b j = _
  by_cases e : b = a
  · subst e; by_cases e2 : j = k <;> simp [va_up, e2]
  · simp [va_up, e]
theorem mm_si_e {tc : Nat → ClassId} {bs : Nat} {h : MH} {a k : Nat} {x : Int32} {b : Nat} (hb : b ≠ a) : mm_e tc bs (mm_si h a k x) b = mm_e tc bs h b :=
  mm_e_cong rfl rfl (by show va_up (mm_I h) a _ b = _; simp [va_up, hb]) rfl
theorem mm_sr_e {tc : Nat → ClassId} {bs : Nat} {h : MH} {a k : Nat} {x : Option Nat} {b : Nat} (hb : b ≠ a) : mm_e tc bs (mm_sr h a k x) b = mm_e tc bs h b :=
  mm_e_cong rfl rfl rfl (by show va_up (mm_R h) a _ b = _; simp [va_up, hb])
theorem mm_no_e {tc : Nat → ClassId} {bs : Nat} {h : MH} {ci b : Nat} (hb : b < mm_N h) : mm_e tc bs (mm_no h ci) b = mm_e tc bs h b := by
  have hb : b ≠ mm_N h := by omega
  exact mm_e_cong (by show va_up (mm_K h) _ _ b = _; simp [va_up, hb]) rfl (by show va_up (mm_I h) _ _ b = _; simp [va_up, hb]) (by show va_up (mm_R h) _ _ b = _; simp [va_up, hb])
theorem mm_na_e {tc : Nat → ClassId} {bs : Nat} {h : MH} {kd n b : Nat} (hb : b < mm_N h) : mm_e tc bs (mm_na h kd n) b = mm_e tc bs h b := by
  have hb : b ≠ mm_N h := by omega
  exact mm_e_cong (by show va_up (mm_K h) _ _ b = _; simp [va_up, hb]) (by show va_up (mm_L h) _ _ b = _; simp [va_up, hb]) (by show va_up (mm_I h) _ _ b = _; simp [va_up, hb]) (by show va_up (mm_R h) _ _ b = _; simp [va_up, hb])
end
section
/-! ===== stores that also tell the heap's size ===== -/
section
variable {p : Program} {l : Launch} {e : Env} {R : Room} {s : State} {m : MethodId} {args : Array Value} {below : List Frame} {meth : Method} {c : Code} {H : Heap} {locs : List Loc} {cells slots : Nat} {Q : State → Prop}
variable {cc : ByteArray} {pc : Nat} {ls : Array Slot} {rest : List Value} {D : va_G} {cl : List vw_C} {A : Nat → Prop} {a : Nat} {tys : List (ClassId × FieldType)} {ws : va_W} {H0 : Heap}
theorem pu_put (hexec : p.tables.exec = Jvm.exec) (hb : c.code = cc) {own C : String} {T : u_T} {N ci index : Nat} {Ts : List Cond} (hts : ∀ w ∈ Ts, w.before args s = true) (hin : ∀ w ∈ u_ws C T N, w ∈ Ts) (ty0 : Nat → FieldType) (hty : ∀ k, k < N → parseFieldDescriptor (T k).2.2.1 = some (ty0 k)) (hnm : ∀ a, a < N → ∀ b, b < N → a ≠ b → (T a).2.1 ≠ (T b).2.1) (hown : s.vm.findClass own = some m.cls) (hK : va_K D cl tys s) (hP : va_P D cl ws H) (hD : va_D A ws) (hS0 : va_S A H0 H locs) (q0 : Nat) {fs : List Value} (he : ws[q0]? = some (a, .inr (ci, fs))) (hc : cl[ci]? = some (C, T, N)) (k : Nat) (hk : k < N) (hlink : (Cond.fieldLink own index (T k).1 (T k).2.1 (T k).2.2.1).before args s = true) (hfin : (T k).2.2.2 = false ∨ ((T k).2.2.2 = true ∧ meth.name = "<init>" ∧ (T k).1 = own)) {v : Value} (hn : narrow (ty0 k) v = v) (hfit : fits (ty0 k) v = true) (hl : k < fs.length)
    (hdg : decode cc pc = .ok (.putfield index, 3)) (kk : ∀ (H1 : Heap) (locs1 : List Loc), va_P D cl (ws.set q0 (a, .inr (ci, fs.set k v))) H1 → va_S A H0 H1 locs1 → H1.size = H.size → W p l e R s m args below meth c H1 locs1 cells slots Q (F0 m (pc + 3) ls rest)) : W p l e R s m args below meth c H locs cells slots Q (F0 m pc ls (v :: .ref a :: rest)) := by
  have hap := va_apart (own := own) hts hin ty0 hty hnm hK hc
  obtain ⟨r, h1, cell, q1, q2, q3, q4⟩ := hP q0 _ he
  have hr : r = (C, T, N) := Option.some.inj (h1.symm.trans hc)
  subst hr
  obtain ⟨hS, hfc, kC, hkC, hkind⟩ := hK.1 ci _ hc
  obtain ⟨cf, kf, fi, f, hi, hsl⟩ := hS k hk
  have hlay := hts _ (hin _ (u_in_lay hk))
  unfold u_lay at hlay
  have hst := (u_facts hfc hkC (u_lays hts hin hk) hi).1
  have fin : ∀ (H' : Heap), H'[a]? = some (cell.setSlot f.slot v) → H'.size = H.size → (∀ q, q ≠ a → H'[q]? = H[q]?) → W p l e R s m args below meth c H' (locs ++ [⟨a, f.slot⟩]) cells slots Q (F0 m (pc + 3) ls rest) := fun H' e1 e2 e3 => by
    rw [hsl] at e1 ⊢
    exact kk H' _ (hP.set hD he ⟨_, hc, t_OB.to (V := updV (vp_V fs) k v) ⟨_, e1, q2, q3, t_set q4 hap hk v⟩ (fun j _ => vp_updV_set hl v j)⟩ e3) (hS0.put e2 e3 (hD.2 q0 _ he)) e2
  rcases hfin with hfin | ⟨hfin, hin2, hdecl⟩
  · rw [if_neg (by rw [hfin]; decide)] at hlay
    have h6 := u_store hfc hkC hkind hlay hi (hty k hk) hn hfit
    exact W.putK hexec hb (f := f) ⟨hown, hlink, ⟨_, _, _, hi⟩, hst⟩ (by rw [q2]; exact h6) q1 q3 (by rw [hsl]; exact k2_hasslot (q4 k hk)) rfl rfl hdg fin
  · rw [if_pos hfin] at hlay
    have hcf : m.cls = cf := by
      obtain ⟨_, _, c', _, _, _, -, -, hf', -, -, -, hown2, -⟩ := Cond.laysFinal_spec hlay
      have e1 : c' = cf := by have := hi.symm.trans hf'; simp at this; exact this.1.symm
      rw [hdecl] at hown2
      rw [← e1]; exact Option.some.inj (hown.symm.trans hown2)
    have h6 := u_fits hfc hkC hkind (Or.inr hlay) hi (hty k hk) hn hfit
    exact W.putFinK hexec hb hown hlink hi hst hcf hin2 (by rw [q2]; exact h6) q1 q3 (by rw [hsl]; exact k2_hasslot (q4 k hk)) rfl rfl hdg fin
theorem pu_iast (hexec : p.tables.exec = Jvm.exec) (hb : c.code = cc) (hK : va_K D cl tys s) (hP : va_P D cl ws H) (hD : va_D A ws) (hS : va_S A H0 H locs) (q0 t0 : Nat) {cA : ClassId} {n : Nat} {f : Nat → Int32} (ha : ws[q0]? = some (a, .inl (cA, n, .inl f))) (ht : tys[t0]? = some (cA, .int)) {i : Int32} {x : Int32} (hin : vp_in i n) (hdg : decode cc pc = .ok (.iastore, 1))
    (kk : ∀ (H1 : Heap) (locs1 : List Loc), va_P D cl (ws.set q0 (a, .inl (cA, n, .inl (upd f i.toNatClampNeg x)))) H1 → va_S A H0 H1 locs1 → H1.size = H.size → W p l e R s m args below meth c H1 locs1 cells slots Q (F0 m (pc + 1) ls rest)) : W p l e R s m args below meth c H locs cells slots Q (F0 m pc ls (.int x :: .int i :: .ref a :: rest)) := by
  refine W.iast hexec hb (hP q0 _ ha) ((hK.2 t0 _ ht).1 n (fun j => .int (f j))) (fun q => by cases q) (by show ¬ (i < 0 ∨ (arrV _ _ _).slots.size ≤ _); rw [arrV_size]; exact hin) rfl rfl hdg fun H1 e z oq => ?_
  refine kk H1 _ (hP.set hD ha ?_ oq) (hS.put z oq (hD.2 q0 _ ha)) z
  show H1[a]? = some (vp_cell _ _)
  rw [e, vp_cell_i, vp_cell_i, arrV_store]
  congr 2
  funext q
  by_cases hq : q = i.toNatClampNeg
  · subst hq
    simp [updV, upd]
  · simp [updV, upd, hq]
theorem pu_zast (hexec : p.tables.exec = Jvm.exec) (hb : c.code = cc) (hK : va_K D cl tys s) (hP : va_P D cl ws H) (hD : va_D A ws) (hS : va_S A H0 H locs) (q0 t0 : Nat) {cA : ClassId} {n : Nat} {f : Nat → Int32} (ha : ws[q0]? = some (a, .inl (cA, n, .inl f))) (ht : tys[t0]? = some (cA, .boolean)) {i : Int32} {x : Int32} (hx1 : x &&& 1 = x) (hin : vp_in i n) (hdg : decode cc pc = .ok (.bastore, 1))
    (kk : ∀ (H1 : Heap) (locs1 : List Loc), va_P D cl (ws.set q0 (a, .inl (cA, n, .inl (upd f i.toNatClampNeg x)))) H1 → va_S A H0 H1 locs1 → H1.size = H.size → W p l e R s m args below meth c H1 locs1 cells slots Q (F0 m (pc + 1) ls rest)) : W p l e R s m args below meth c H locs cells slots Q (F0 m pc ls (.int x :: .int i :: .ref a :: rest)) := by
  refine W.zast hexec hb (hP q0 _ ha) ((hK.2 t0 _ ht).1 n (fun j => .int (f j))) (fun q => by cases q) (by show ¬ (i < 0 ∨ (arrV _ _ _).slots.size ≤ _); rw [arrV_size]; exact hin) rfl rfl hdg fun H1 e z oq => ?_
  refine kk H1 _ (hP.set hD ha ?_ oq) (hS.put z oq (hD.2 q0 _ ha)) z
  show H1[a]? = some (vp_cell _ _)
  rw [e, vp_cell_i, vp_cell_i, arrV_store]
  congr 2
  funext q
  by_cases hq : q = i.toNatClampNeg
  · subst hq
    simp [updV, upd, narrow, hx1]
  · simp [updV, upd, hq]
theorem pu_aast (hexec : p.tables.exec = Jvm.exec) (hb : c.code = cc) (hK : va_K D cl tys s) (hP : va_P D cl ws H) (hD : va_D A ws) (hS : va_S A H0 H locs) (q0 t0 qk ci : Nat) {cA : ClassId} {r : vw_C} {n v : Nat} {vs : List Value} {f : Nat → Option Nat} (ha : ws[q0]? = some (a, .inl (cA, n, .inr (.inr (.inr (.inr f)))))) (ht : tys[t0]? = some (cA, .object r.1)) (hv : ws[qk]? = some (v, .inr (ci, vs))) (hc : cl[ci]? = some r) {i : Int32} (hin : vp_in i n) (hdg : decode cc pc = .ok (.aastore, 1))
    (kk : ∀ (H1 : Heap) (locs1 : List Loc), va_P D cl (ws.set q0 (a, .inl (cA, n, .inr (.inr (.inr (.inr (va_up f i.toNatClampNeg (some v)))))))) H1 → va_S A H0 H1 locs1 → H1.size = H.size → W p l e R s m args below meth c H1 locs1 cells slots Q (F0 m (pc + 1) ls rest)) : W p l e R s m args below meth c H locs cells slots Q (F0 m pc ls (.ref v :: .int i :: .ref a :: rest)) := by
  have hlt : i.toNatClampNeg < n := Nat.not_le.mp fun q => hin (Or.inr q)
  have h0 : ¬ i < 0 := fun q => hin (Or.inl q)
  obtain ⟨r', hr', cellV, g1, g2, g3, -⟩ := hP qk _ hv
  have hcls := (hK.1 ci r hc).2
  obtain ⟨kA, comp, k1, k2, k3, -⟩ := (hK.2 t0 _ ht).2
  have hcomp : comp = D.1 ci := Option.some.inj (k3.symm.trans hcls.1)
  subst hcomp
  obtain ⟨kC, hkC, -⟩ := hcls.2
  refine W.aast hexec hb (hP q0 _ ha) (fun q h => by cases h) (fun h => by cases h) k1 k2 rfl hkC ⟨h0, by show _ < (arrV _ _ _).slots.size; rw [arrV_size]; exact hlt⟩ g1 (fun q h => by rw [g3] at h; cases h) (by rw [g2]; exact hkC) (by rw [g2]; exact va_assign hcls) rfl rfl hdg fun H1 e z oq => ?_
  refine kk H1 _ (hP.set hD ha ?_ oq) (hS.put z oq (hD.2 q0 _ ha)) z
  show H1[a]? = some (vp_cell _ _)
  rw [e, vp_cell_q, vp_cell_q, arrV_store]
  congr 2
  funext q
  by_cases hq : q = i.toNatClampNeg
  · subst hq
    simp [updV, va_up, va_rf]
  · simp [updV, va_up, hq]
/-- a new int or boolean array, at the heap's end -/
theorem pu_newa (hexec : p.tables.exec = Jvm.exec) (hb : c.code = cc) {atype : ArrayType} (harr : (Cond.arrayClass (newarray.typeOf atype)).before args s = true) {ty : FieldType} (hty : newarray.typeOf atype = ty) (hP : va_P D cl ws H) (hS : va_S A H0 H locs)
    {n : Int32} {N' : Nat} {a0 : vp_A} (ha : ∀ cA : ClassId, vp_cell cA a0 = arrV cA N' (fun _ => defaultValue ty)) (hn : ¬ n < 0) (hN : n.toNatClampNeg = N') (hbytes : N' * componentBytes ty ≤ 536870912) (hcells : cells + 1 ≤ R.cells) (hslots : slots + N' ≤ R.slots) {cA : ClassId} (hcA : s.vm.findClass ("[" ++ ty.toString) = some cA) (hdg : decode cc pc = .ok (.newarray atype, 2))
    (kk : ∀ (H1 : Heap), va_P D cl (ws ++ [(H.size, .inl (cA, a0))]) H1 → va_S A H0 H1 locs → H1.size = H.size + 1 →
      W p l e R s m args below meth c H1 locs (cells + 1) (slots + N') Q (F0 m (pc + 2) ls (.ref H.size :: rest))) : W p l e R s m args below meth c H locs cells slots Q (F0 m pc ls (.int n :: rest)) := by
  subst hty
  refine va_newaK hexec hb harr rfl hdg rfl hn hN hbytes hcells hslots rfl fun H1 cA' e1 z1 o1 hAr hNm => ?_
  have hce : cA' = cA := Option.some.inj (hNm.symm.trans hcA)
  subst hce
  have hk : ∀ (k : Nat) (x : Nat × va_E), ws[k]? = some x → H1[x.1]? = H[x.1]? := fun k x hx => o1 x.1 ((hP k x hx).lt)
  refine kk H1 ((hP.kept hk).app (fun k x hx => ?_)) ⟨Nat.le_trans hS.1 (by omega), fun x h1 h2 => (o1 x (Nat.lt_of_lt_of_le h1 hS.1)).trans (hS.2.1 x h1 h2), hS.2.2⟩ z1
  have hz : k < 1 := (List.getElem?_eq_some_iff.mp hx).1
  rw [show k = 0 by omega] at hx
  cases hx
  show H1[H.size]? = some (vp_cell _ _)
  rw [ha]
  exact e1
/-- a new array of references, at the heap's end -/
theorem pu_newr (hexec : p.tables.exec = Jvm.exec) (hb : c.code = cc) {own C : String} {index : Nat} (hown : s.vm.findClass own = some m.cls) (hclink : (Cond.classLink own index C).before args s = true) (hover : va_AO C s) (hP : va_P D cl ws H) (hS : va_S A H0 H locs)
    {n : Int32} {N' : Nat} (hn : ¬ n < 0) (hN : n.toNatClampNeg = N') (hbytes : N' * 4 ≤ 536870912) (hcells : cells + 1 ≤ R.cells) (hslots : slots + N' ≤ R.slots) {cA : ClassId} (hcA : s.vm.findClass ("[" ++ (FieldType.object C).toString) = some cA) (hdg : decode cc pc = .ok (.anewarray index, 3))
    (kk : ∀ (H1 : Heap), va_P D cl (ws ++ [(H.size, .inl (cA, N', .inr (.inr (.inr (.inr (fun _ => none))))))]) H1 → va_S A H0 H1 locs → H1.size = H.size + 1 →
      W p l e R s m args below meth c H1 locs (cells + 1) (slots + N') Q (F0 m (pc + 3) ls (.ref H.size :: rest))) : W p l e R s m args below meth c H locs cells slots Q (F0 m pc ls (.int n :: rest)) := by
  subst hN
  refine W.anew hexec hb hown hclink (va_AO.use hover) rfl hdg rfl hn hbytes hcells hslots fun cA' kA comp f1 f2 f3 f4 => ?_
  have hce : cA' = cA := Option.some.inj (f1.symm.trans hcA)
  subst hce
  generalize hH1 : H.push ({ cls := cA', slots := Array.replicate n.toNatClampNeg .null, vm := .none } : Cell) = H1
  have z1 : H1.size = H.size + 1 := by rw [← hH1, Array.size_push]
  have e1 : H1[H.size]? = some (arrV cA' n.toNatClampNeg (fun _ => .null)) := by rw [← hH1, Array.getElem?_push_size, ← arrV_new]
  have o1 : ∀ q : Nat, q < H.size → H1[q]? = H[q]? := fun q hq => by rw [← hH1, Array.getElem?_push, if_neg (Nat.ne_of_lt hq)]
  have hk : ∀ (k : Nat) (x : Nat × va_E), ws[k]? = some x → H1[x.1]? = H[x.1]? := fun k x hx => o1 x.1 ((hP k x hx).lt)
  refine kk H1 ((hP.kept hk).app (fun k x hx => ?_)) ⟨Nat.le_trans hS.1 (by omega), fun x h1 h2 => (o1 x (Nat.lt_of_lt_of_le h1 hS.1)).trans (hS.2.1 x h1 h2), hS.2.2⟩ z1
  have hz : k < 1 := (List.getElem?_eq_some_iff.mp hx).1
  rw [show k = 0 by omega] at hx
  cases hx
  show H1[H.size]? = some (vp_cell _ _)
  rw [vp_cell_q]
  exact e1
/-- a new object, at the heap's end -/
theorem pu_new (hexec : p.tables.exec = Jvm.exec) (hb : c.code = cc) {own C : String} {T : u_T} {N ci index : Nat} {Ts : List Cond} (hts : ∀ w ∈ Ts, w.before args s = true) (hin : ∀ w ∈ u_ws C T N, w ∈ Ts) (ty : Nat → FieldType) (hty : ∀ k, k < N → parseFieldDescriptor (T k).2.2.1 = some (ty k)) (hown : s.vm.findClass own = some m.cls) (hcl : (Cond.classLink own index C).before args s = true) (hinst : (Cond.instantiable C N).before args s = true) (hini : (Cond.initialized C).before args s = true)
    (hK : va_K D cl tys s) (hP : va_P D cl ws H) (hS : va_S A H0 H locs) (hc : cl[ci]? = some (C, T, N)) {fs : List Value} (hfs : ∀ j, j < N → defaultValue (ty j) = vp_V fs j) (hcells : cells + 1 ≤ R.cells) (hslots : slots + N ≤ R.slots) (hdg : decode cc pc = .ok (.new index, 3))
    (kk : ∀ (H1 : Heap), va_P D cl (ws ++ [(H.size, .inr (ci, fs))]) H1 → va_S A H0 H1 locs → H1.size = H.size + 1 →
      W p l e R s m args below meth c H1 locs (cells + 1) (slots + N) Q (F0 m (pc + 3) ls (.ref H.size :: rest))) : W p l e R s m args below meth c H locs cells slots Q (F0 m pc ls rest) := by
  have hKn := hK.1 ci _ hc
  refine W.newcK hexec hb hown hcl hinst hini rfl hdg hcells hslots hKn.2.1 rfl fun H1 kC hkC e1 z1 o1 => ?_
  have hk : ∀ (k : Nat) (x : Nat × va_E), ws[k]? = some x → H1[x.1]? = H[x.1]? := fun k x hx => o1 x.1 ((hP k x hx).lt)
  refine kk H1 ((hP.kept hk).app (fun k x hx => ?_)) ⟨Nat.le_trans hS.1 (by omega), fun x h1 h2 => (o1 x (Nat.lt_of_lt_of_le h1 hS.1)).trans (hS.2.1 x h1 h2), hS.2.2⟩ z1
  have hz : k < 1 := (List.getElem?_eq_some_iff.mp hx).1
  rw [show k = 0 by omega] at hx
  cases hx
  exact ⟨_, hc, (u_born ty hts hin hKn hkC e1 hty).to hfs⟩
end
end
section
/-! ===== the judgement: a method's frame, at pc with these locals and this stack over this small heap, returns v with that small heap ===== -/
def mm_nest : Cond → Bool | .fieldLinkNest _ _ _ _ _ _ => true | .methodLinkNest _ _ _ _ => true | .arrayOver (.object _) => true | _ => false
def NW (s : State) : Prop := ∀ w ∈ lw_tbl, mm_nest w = true → va_Nw w s
theorem NW.warm {s U : State} (hW : s.WarmedH U.vm) (h : NW s) : NW U := by
  intro w hw hn
  have h1 := h w hw hn
  cases w with
  | fieldLinkNest a i b n d x => exact va_Nw.warmF hW h1
  | methodLinkNest a i y x => exact va_Nw.warmM hW h1
  | arrayOver t =>
    cases t with
    | object C => exact va_AO.moved hW.alike h1
    | _ => simp [mm_nest] at hn
  | _ => simp [mm_nest] at hn
theorem NW.calling {U : State} {g : JFrame} {mk : MethodId} {a : Array Value} (h : NW U) : NW (U.calling g mk a) := by
  intro w hw hn
  have h1 := h w hw hn
  cases w with
  | fieldLinkNest a i b n d x => exact va_Nw.same (u := U) rfl rfl h1
  | methodLinkNest a i y x => exact va_Nw.same (u := U) rfl rfl h1
  | arrayOver t =>
    cases t with
    | object C => exact va_AO.moved (u := U) (Vm.Alike.refl U.vm) h1
    | _ => simp [mm_nest] at hn
  | _ => simp [mm_nest] at hn
abbrev GG : Type := Launch × va_G × (Nat → ClassId) × Nat × Nat × Nat × (Nat → Int32)
def gg_l (G : GG) : Launch := G.1
def gg_D (G : GG) : va_G := G.2.1
def gg_t (G : GG) : Nat → ClassId := G.2.2.1
def gg_b (G : GG) : Nat := G.2.2.2.1
def gg_s (G : GG) : Nat := G.2.2.2.2.1
def gg_L (G : GG) : Nat := G.2.2.2.2.2.1
def gg_x (G : GG) : Nat → Int32 := G.2.2.2.2.2.2
def cv (G : GG) : Value → Value
  | .int x => .int x
  | .ref k => .ref (gg_b G + k)
  | .long _ => .ref (gg_s G)
  | _ => .null
theorem cv_cat (G : GG) (v : Value) : (cv G v).category = 1 := by cases v <;> rfl
def gg_tys (G : GG) : List (ClassId × FieldType) := [(gg_t G 11, .int), (gg_t G 12, .boolean), (gg_t G 13, .object RX2), (gg_t G 14, .object RX5), (gg_t G 15, .object RX7)]
abbrev MD : Type := MethodName × ByteArray × Nat × Option FieldType × String × Bool
def md_y (M : MD) : MethodName := M.1
def md_c (M : MD) : ByteArray := M.2.1
def md_l (M : MD) : Nat := M.2.2.1
def md_r (M : MD) : Option FieldType := M.2.2.2.1
def md_o (M : MD) : String := M.2.2.2.2.1
def md_i (M : MD) : Bool := M.2.2.2.2.2
def IX (cc : ByteArray) (pc : Nat) (op : Instr) (len nx : Nat) : Prop := decode cc pc = .ok (op, len) ∧ pc + len = nx
def mm_l (G : GG) (nL : Nat) (ls : Array Slot) (lc : List (Option Value)) : Prop := ls.size = nL ∧ lv_wf ls ∧ lc.length = nL ∧ ∀ (i : Nat) (v : Value), lc[i]? = some (some v) → ls[i]? = some (.val (cv G v))
def Cx (G : GG) (d : Nat) (M : MD) (p : Program) (R : Room) (s : State) (m : MethodId) (args : Array Value) (meth : Method) (c : Code) : Prop :=
  p.tables.exec = Jvm.exec ∧ c.code = md_c M ∧ c.maxLocals = md_l M ∧ s.vm.findClass (md_o M) = some m.cls ∧ (∀ w ∈ gtb, w.before args s = true) ∧ NW s ∧ va_K (gg_D G) vwCl (gg_tys G) s ∧ gg_b G ≤ s.heap.size ∧ (md_i M = true → meth.name = "<init>") ∧ (d ≤ R.frames ∧ 40 * d ≤ R.locals) ∧ (md_o M = RL → va_X (gg_s G) (gg_L G) (gg_x G) s s.heap ∧ gg_s G < gg_b G)
def Wd (G : GG) (s : State) (H : Heap) (locs : List Loc) (h : MH) : Prop := va_P (gg_D G) vwCl (mm_w (gg_t G) (gg_b G) h) H ∧ va_S (fun q => gg_b G ≤ q) s.heap H locs ∧ H.size = gg_b G + mm_N h
def RetAt (M : MD) (pc : Nat) (v : Option Value) : Prop :=
  (v = none ∧ decode (md_c M) pc = .ok (.return_, 1) ∧ md_r M = none) ∨
  (∃ (x : Int32) (ty : FieldType), v = some (.int x) ∧ decode (md_c M) pc = .ok (.ireturn, 1) ∧ md_r M = some ty ∧ narrow ty (.int x) = .int x) ∨
  (∃ (u : Value) (n : String), v = some u ∧ (u = .null ∨ ∃ a, u = .ref a) ∧ decode (md_c M) pc = .ok (.areturn, 1) ∧ md_r M = some (.object n))
def Ev (G : GG) (d : Nat) (M : MD) (pc : Nat) (lc : List (Option Value)) (st : List Value) (h : MH) (v : Option Value) (h' : MH) : Prop :=
  (mm_N h ≤ mm_N h' ∧ mm_S h ≤ mm_S h') ∧
  ∀ (p : Program) (e : Env) (R : Room) (s : State) (m : MethodId) (args : Array Value) (below : List Frame) (meth : Method) (c : Code) (Q : State → Prop) (H : Heap) (locs : List Loc) (ls : Array Slot) (n0 z0 : Nat),
    Cx G d M p R s m args meth c → Wd G s H locs h → mm_l G (md_l M) ls lc → n0 ≤ mm_N h → z0 ≤ mm_S h → mm_N h' - n0 ≤ R.cells → mm_S h' - z0 ≤ R.slots →
    (∀ (H' : Heap) (locs' : List Loc) (ls' : Array Slot) (pc' : Nat), Wd G s H' locs' h' → RetAt M pc' v → W p (gg_l G) e R s m args below meth c H' locs' (mm_N h' - n0) (mm_S h' - z0) Q (F0 m pc' ls' (v.toList.map (cv G)))) →
    W p (gg_l G) e R s m args below meth c H locs (mm_N h - n0) (mm_S h - z0) Q (F0 m pc ls (st.map (cv G)))
theorem mm_l_at {G : GG} {nL : Nat} {ls : Array Slot} {lc : List (Option Value)} (h : mm_l G nL ls lc) {i : Nat} {v : Value} (hv : lc[i]? = some (some v)) : ls[i]? = some (.val (cv G v)) := h.2.2.2 i v hv
def mm_pl (G : GG) (lc : List (Option Value)) : List (Nat × Value) := (List.range lc.length).filterMap (fun i => (lc.getD i none).map (fun v => (i, cv G v)))
theorem mm_pl_in {G : GG} {lc : List (Option Value)} {i : Nat} {v : Value} (hv : lc[i]? = some (some v)) : (i, cv G v) ∈ mm_pl G lc := by
  have hi : i < lc.length := (List.getElem?_eq_some_iff.mp hv).1
  refine List.mem_filterMap.mpr ⟨i, List.mem_range.mpr hi, ?_⟩
  simp [List.getD, hv]
theorem mm_pl_of {G : GG} {lc : List (Option Value)} {q : Nat × Value} (hq : q ∈ mm_pl G lc) : ∃ v, lc[q.1]? = some (some v) ∧ q.2 = cv G v := by
  obtain ⟨i, hi, h⟩ := List.mem_filterMap.mp hq
  have hi := List.mem_range.mp hi
  cases hx : lc[i]? with
  | none => simp [List.getD, hx] at h
  | some o =>
    cases o with
    | none => simp [List.getD, hx] at h
    | some v =>
      simp [List.getD, hx] at h
      subst h
      exact ⟨v, hx, rfl⟩
theorem mm_l_has {G : GG} {nL : Nat} {ls : Array Slot} {lc : List (Option Value)} (h : mm_l G nL ls lc) : lv_has ls nL (mm_pl G lc) :=
  ⟨h.1, h.2.1, fun q hq => by obtain ⟨v, h1, h2⟩ := mm_pl_of hq; rw [h2]; exact h.2.2.2 q.1 v h1⟩
theorem mm_l_set {G : GG} {nL : Nat} {ls ls' : Array Slot} {lc : List (Option Value)} {i : Nat} {v : Value} (h : mm_l G nL ls lc) (h' : lv_has ls' nL ((i, cv G v) :: (mm_pl G lc).filter (fun q => !(q.1 == i) && !(q.1 + 1 == i && q.2.category == 2)))) : mm_l G nL ls' (lc.set i (some v)) := by
  refine ⟨h'.1, h'.2.1, by rw [List.length_set]; exact h.2.2.1, fun j w hj => ?_⟩
  by_cases e : j = i
  · subst e
    have hl : j < lc.length := by
      have := (List.getElem?_eq_some_iff.mp hj).1
      rwa [List.length_set] at this
    rw [List.getElem?_set_self hl] at hj
    cases hj
    exact h'.2.2 (j, cv G v) List.mem_cons_self
  · rw [List.getElem?_set_ne (Ne.symm e)] at hj
    refine h'.2.2 (j, cv G w) (List.mem_cons_of_mem _ (List.mem_filter.mpr ⟨mm_pl_in hj, ?_⟩))
    have hc := cv_cat G w
    simp [e, hc]
section
variable {G : GG} {d : Nat} {M : MD} {pc nx : Nat} {lc : List (Option Value)} {st : List Value} {h : MH} {v : Option Value} {h' : MH}

theorem ev_iadd {x y : Int32} (hd : IX (md_c M) pc .iadd 1 nx) (k : Ev G d M nx lc (.int (x + y) :: st) h v h') : Ev G d M pc lc (.int y :: .int x :: st) h v h' :=
  ⟨k.1, fun p e R s m args below meth c Q H locs ls n0 z0 C w hl h1 h2 h3 h4 kk => by
    have K := k.2 p e R s m args below meth c Q H locs ls n0 z0 C w hl h1 h2 h3 h4 kk
    rw [← hd.2] at K
    exact lv_iadd C.1 C.2.1 hd.1 K⟩
theorem ev_isub {x y : Int32} (hd : IX (md_c M) pc .isub 1 nx) (k : Ev G d M nx lc (.int (x - y) :: st) h v h') : Ev G d M pc lc (.int y :: .int x :: st) h v h' :=
  ⟨k.1, fun p e R s m args below meth c Q H locs ls n0 z0 C w hl h1 h2 h3 h4 kk => by
    have K := k.2 p e R s m args below meth c Q H locs ls n0 z0 C w hl h1 h2 h3 h4 kk
    rw [← hd.2] at K
    exact lv_isub C.1 C.2.1 hd.1 K⟩
theorem ev_imul {x y : Int32} (hd : IX (md_c M) pc .imul 1 nx) (k : Ev G d M nx lc (.int (x * y) :: st) h v h') : Ev G d M pc lc (.int y :: .int x :: st) h v h' :=
  ⟨k.1, fun p e R s m args below meth c Q H locs ls n0 z0 C w hl h1 h2 h3 h4 kk => by
    have K := k.2 p e R s m args below meth c Q H locs ls n0 z0 C w hl h1 h2 h3 h4 kk
    rw [← hd.2] at K
    exact lv_imul C.1 C.2.1 hd.1 K⟩
theorem ev_iand {x y : Int32} (hd : IX (md_c M) pc .iand 1 nx) (k : Ev G d M nx lc (.int (x &&& y) :: st) h v h') : Ev G d M pc lc (.int y :: .int x :: st) h v h' :=
  ⟨k.1, fun p e R s m args below meth c Q H locs ls n0 z0 C w hl h1 h2 h3 h4 kk => by
    have K := k.2 p e R s m args below meth c Q H locs ls n0 z0 C w hl h1 h2 h3 h4 kk
    rw [← hd.2] at K
    exact lv_iand C.1 C.2.1 hd.1 K⟩
theorem ev_ior {x y : Int32} (hd : IX (md_c M) pc .ior 1 nx) (k : Ev G d M nx lc (.int (x ||| y) :: st) h v h') : Ev G d M pc lc (.int y :: .int x :: st) h v h' :=
  ⟨k.1, fun p e R s m args below meth c Q H locs ls n0 z0 C w hl h1 h2 h3 h4 kk => by
    have K := k.2 p e R s m args below meth c Q H locs ls n0 z0 C w hl h1 h2 h3 h4 kk
    rw [← hd.2] at K
    exact lv_ior C.1 C.2.1 hd.1 K⟩
theorem ev_ixor {x y : Int32} (hd : IX (md_c M) pc .ixor 1 nx) (k : Ev G d M nx lc (.int (x ^^^ y) :: st) h v h') : Ev G d M pc lc (.int y :: .int x :: st) h v h' :=
  ⟨k.1, fun p e R s m args below meth c Q H locs ls n0 z0 C w hl h1 h2 h3 h4 kk => by
    have K := k.2 p e R s m args below meth c Q H locs ls n0 z0 C w hl h1 h2 h3 h4 kk
    rw [← hd.2] at K
    exact lv_ixor C.1 C.2.1 hd.1 K⟩
theorem ev_ishl {x y : Int32} (hd : IX (md_c M) pc .ishl 1 nx) (k : Ev G d M nx lc (.int (x <<< (y &&& 31)) :: st) h v h') : Ev G d M pc lc (.int y :: .int x :: st) h v h' :=
  ⟨k.1, fun p e R s m args below meth c Q H locs ls n0 z0 C w hl h1 h2 h3 h4 kk => by
    have K := k.2 p e R s m args below meth c Q H locs ls n0 z0 C w hl h1 h2 h3 h4 kk
    rw [← hd.2] at K
    exact lv_ishl C.1 C.2.1 hd.1 K⟩
theorem ev_ishr {x y : Int32} (hd : IX (md_c M) pc .ishr 1 nx) (k : Ev G d M nx lc (.int (x >>> (y &&& 31)) :: st) h v h') : Ev G d M pc lc (.int y :: .int x :: st) h v h' :=
  ⟨k.1, fun p e R s m args below meth c Q H locs ls n0 z0 C w hl h1 h2 h3 h4 kk => by
    have K := k.2 p e R s m args below meth c Q H locs ls n0 z0 C w hl h1 h2 h3 h4 kk
    rw [← hd.2] at K
    exact lv_ishr C.1 C.2.1 hd.1 K⟩
theorem ev_iushr {x y : Int32} (hd : IX (md_c M) pc .iushr 1 nx) (k : Ev G d M nx lc (.int (x.toUInt32 >>> (y.toUInt32 &&& Int32.toUInt32 31)).toInt32 :: st) h v h') : Ev G d M pc lc (.int y :: .int x :: st) h v h' :=
  ⟨k.1, fun p e R s m args below meth c Q H locs ls n0 z0 C w hl h1 h2 h3 h4 kk => by
    have K := k.2 p e R s m args below meth c Q H locs ls n0 z0 C w hl h1 h2 h3 h4 kk
    rw [← hd.2] at K
    exact lv_iushr C.1 C.2.1 hd.1 rfl K⟩
theorem ev_idiv {x y : Int32} (hd : IX (md_c M) pc .idiv 1 nx) (hne : ¬ y = 0) (k : Ev G d M nx lc (.int (x / y) :: st) h v h') : Ev G d M pc lc (.int y :: .int x :: st) h v h' :=
  ⟨k.1, fun p e R s m args below meth c Q H locs ls n0 z0 C w hl h1 h2 h3 h4 kk => by
    have K := k.2 p e R s m args below meth c Q H locs ls n0 z0 C w hl h1 h2 h3 h4 kk
    rw [← hd.2] at K
    exact lv_idiv C.1 C.2.1 hd.1 hne K⟩
theorem ev_iconst {n : Int} {x : Int32} (hd : IX (md_c M) pc (.iconst n) 1 nx) (hv : Int32.ofInt n = x) (k : Ev G d M nx lc (.int x :: st) h v h') : Ev G d M pc lc st h v h' :=
  ⟨k.1, fun p e R s m args below meth c Q H locs ls n0 z0 C w hl h1 h2 h3 h4 kk => by
    have K := k.2 p e R s m args below meth c Q H locs ls n0 z0 C w hl h1 h2 h3 h4 kk
    rw [← hd.2] at K
    exact lv_iconst C.1 C.2.1 hd.1 hv K⟩
theorem ev_bipush {n : Int} {x : Int32} (hd : IX (md_c M) pc (.bipush n) 2 nx) (hv : (Int8.ofInt n).toInt32 = x) (k : Ev G d M nx lc (.int x :: st) h v h') : Ev G d M pc lc st h v h' :=
  ⟨k.1, fun p e R s m args below meth c Q H locs ls n0 z0 C w hl h1 h2 h3 h4 kk => by
    have K := k.2 p e R s m args below meth c Q H locs ls n0 z0 C w hl h1 h2 h3 h4 kk
    rw [← hd.2] at K
    exact lv_bipush C.1 C.2.1 hd.1 hv K⟩
theorem ev_sipush {n : Int} {x : Int32} (hd : IX (md_c M) pc (.sipush n) 3 nx) (hv : (Int16.ofInt n).toInt32 = x) (k : Ev G d M nx lc (.int x :: st) h v h') : Ev G d M pc lc st h v h' :=
  ⟨k.1, fun p e R s m args below meth c Q H locs ls n0 z0 C w hl h1 h2 h3 h4 kk => by
    have K := k.2 p e R s m args below meth c Q H locs ls n0 z0 C w hl h1 h2 h3 h4 kk
    rw [← hd.2] at K
    exact lv_sipush C.1 C.2.1 hd.1 hv K⟩
theorem ev_ldcw {i : Nat} {x : Int32} (hd : IX (md_c M) pc (.ldc_w i) 3 nx) (hw : Cond.constant (md_o M) i x ∈ gtb) (k : Ev G d M nx lc (.int x :: st) h v h') : Ev G d M pc lc st h v h' :=
  ⟨k.1, fun p e R s m args below meth c Q H locs ls n0 z0 C w hl h1 h2 h3 h4 kk => by
    have K := k.2 p e R s m args below meth c Q H locs ls n0 z0 C w hl h1 h2 h3 h4 kk
    rw [← hd.2] at K
    exact lv_ldcw C.1 C.2.1 C.2.2.2.1 (C.2.2.2.2.1 _ hw) hd.1 K⟩
theorem ev_null  (hd : IX (md_c M) pc .aconst_null 1 nx) (k : Ev G d M nx lc (.null :: st) h v h') : Ev G d M pc lc st h v h' :=
  ⟨k.1, fun p e R s m args below meth c Q H locs ls n0 z0 C w hl h1 h2 h3 h4 kk => by
    have K := k.2 p e R s m args below meth c Q H locs ls n0 z0 C w hl h1 h2 h3 h4 kk
    rw [← hd.2] at K
    exact lv_null C.1 C.2.1 hd.1 K⟩
theorem ev_iload_n {k0 : Fin 4} {x : Int32} (hd : IX (md_c M) pc (.iload_n k0) 1 nx) (hv : lc[(k0 : Nat)]? = some (some (.int x))) (k : Ev G d M nx lc (.int x :: st) h v h') : Ev G d M pc lc st h v h' :=
  ⟨k.1, fun p e R s m args below meth c Q H locs ls n0 z0 C w hl h1 h2 h3 h4 kk => by
    have K := k.2 p e R s m args below meth c Q H locs ls n0 z0 C w hl h1 h2 h3 h4 kk
    rw [← hd.2] at K
    exact lv_iload_n C.1 C.2.1 hd.1 rfl (mm_l_at hl hv) K⟩
theorem ev_iload {i : Nat} {x : Int32} (hd : IX (md_c M) pc (.iload i) 2 nx) (hv : lc[i]? = some (some (.int x))) (k : Ev G d M nx lc (.int x :: st) h v h') : Ev G d M pc lc st h v h' :=
  ⟨k.1, fun p e R s m args below meth c Q H locs ls n0 z0 C w hl h1 h2 h3 h4 kk => by
    have K := k.2 p e R s m args below meth c Q H locs ls n0 z0 C w hl h1 h2 h3 h4 kk
    rw [← hd.2] at K
    exact lv_iload C.1 C.2.1 hd.1 (mm_l_at hl hv) K⟩
theorem ev_aload_n {k0 : Fin 4} {a : Nat} (hd : IX (md_c M) pc (.aload_n k0) 1 nx) (hv : lc[(k0 : Nat)]? = some (some (.ref a))) (k : Ev G d M nx lc (.ref a :: st) h v h') : Ev G d M pc lc st h v h' :=
  ⟨k.1, fun p e R s m args below meth c Q H locs ls n0 z0 C w hl h1 h2 h3 h4 kk => by
    have K := k.2 p e R s m args below meth c Q H locs ls n0 z0 C w hl h1 h2 h3 h4 kk
    rw [← hd.2] at K
    exact lv_aload_n C.1 C.2.1 hd.1 rfl (mm_l_at hl hv) K⟩
theorem ev_aload {i a : Nat} (hd : IX (md_c M) pc (.aload i) 2 nx) (hv : lc[i]? = some (some (.ref a))) (k : Ev G d M nx lc (.ref a :: st) h v h') : Ev G d M pc lc st h v h' :=
  ⟨k.1, fun p e R s m args below meth c Q H locs ls n0 z0 C w hl h1 h2 h3 h4 kk => by
    have K := k.2 p e R s m args below meth c Q H locs ls n0 z0 C w hl h1 h2 h3 h4 kk
    rw [← hd.2] at K
    exact lv_aload C.1 C.2.1 hd.1 (mm_l_at hl hv) K⟩
theorem ev_aload_nN {k0 : Fin 4} (hd : IX (md_c M) pc (.aload_n k0) 1 nx) (hv : lc[(k0 : Nat)]? = some (some .null)) (k : Ev G d M nx lc (.null :: st) h v h') : Ev G d M pc lc st h v h' :=
  ⟨k.1, fun p e R s m args below meth c Q H locs ls n0 z0 C w hl h1 h2 h3 h4 kk => by
    have K := k.2 p e R s m args below meth c Q H locs ls n0 z0 C w hl h1 h2 h3 h4 kk
    rw [← hd.2] at K
    exact lv_aload_nN C.1 C.2.1 hd.1 rfl (mm_l_at hl hv) K⟩
theorem ev_aloadN {i : Nat} (hd : IX (md_c M) pc (.aload i) 2 nx) (hv : lc[i]? = some (some .null)) (k : Ev G d M nx lc (.null :: st) h v h') : Ev G d M pc lc st h v h' :=
  ⟨k.1, fun p e R s m args below meth c Q H locs ls n0 z0 C w hl h1 h2 h3 h4 kk => by
    have K := k.2 p e R s m args below meth c Q H locs ls n0 z0 C w hl h1 h2 h3 h4 kk
    rw [← hd.2] at K
    exact lv_aloadN C.1 C.2.1 hd.1 (mm_l_at hl hv) K⟩
theorem ev_aload_nS {k0 : Fin 4} {z : Int64} (hd : IX (md_c M) pc (.aload_n k0) 1 nx) (hv : lc[(k0 : Nat)]? = some (some (.long z))) (k : Ev G d M nx lc (.long z :: st) h v h') : Ev G d M pc lc st h v h' :=
  ⟨k.1, fun p e R s m args below meth c Q H locs ls n0 z0 C w hl h1 h2 h3 h4 kk => by
    have K := k.2 p e R s m args below meth c Q H locs ls n0 z0 C w hl h1 h2 h3 h4 kk
    rw [← hd.2] at K
    exact lv_aload_n C.1 C.2.1 hd.1 rfl (mm_l_at hl hv) K⟩
theorem ev_dup {x : Value} (hd : IX (md_c M) pc .dup 1 nx) (k : Ev G d M nx lc (x :: x :: st) h v h') : Ev G d M pc lc (x :: st) h v h' :=
  ⟨k.1, fun p e R s m args below meth c Q H locs ls n0 z0 C w hl h1 h2 h3 h4 kk => by
    have K := k.2 p e R s m args below meth c Q H locs ls n0 z0 C w hl h1 h2 h3 h4 kk
    rw [← hd.2] at K
    exact lv_dup C.1 C.2.1 hd.1 (cv_cat G x) K⟩
theorem ev_dup2 {x y : Value} (hd : IX (md_c M) pc .dup2 1 nx) (k : Ev G d M nx lc (x :: y :: x :: y :: st) h v h') : Ev G d M pc lc (x :: y :: st) h v h' :=
  ⟨k.1, fun p e R s m args below meth c Q H locs ls n0 z0 C w hl h1 h2 h3 h4 kk => by
    have K := k.2 p e R s m args below meth c Q H locs ls n0 z0 C w hl h1 h2 h3 h4 kk
    rw [← hd.2] at K
    exact lv_dup2_11 C.1 C.2.1 hd.1 (cv_cat G x) (cv_cat G y) K⟩
theorem ev_istore_n {k0 : Fin 4} {x : Int32} (hd : IX (md_c M) pc (.istore_n k0) 1 nx) (hi : (k0 : Nat) < md_l M) (k : Ev G d M nx (lc.set (k0 : Nat) (some (.int x))) st h v h') : Ev G d M pc lc ((.int x) :: st) h v h' :=
  ⟨k.1, fun p e R s m args below meth c Q H locs ls n0 z0 C w hl h1 h2 h3 h4 kk => by
    refine lv_istore_n (lv' := _) C.1 C.2.1 hd.1 rfl (mm_l_has hl) hi rfl (fun ls' hl' => ?_)
    have K := k.2 p e R s m args below meth c Q H locs ls' n0 z0 C w (mm_l_set hl hl') h1 h2 h3 h4 kk
    rw [← hd.2] at K
    exact K⟩
theorem ev_istore {i : Nat} {x : Int32} (hd : IX (md_c M) pc (.istore i) 2 nx) (hi : i < md_l M) (k : Ev G d M nx (lc.set i (some (.int x))) st h v h') : Ev G d M pc lc ((.int x) :: st) h v h' :=
  ⟨k.1, fun p e R s m args below meth c Q H locs ls n0 z0 C w hl h1 h2 h3 h4 kk => by
    refine lv_istore (lv' := _) C.1 C.2.1 hd.1 (mm_l_has hl) hi rfl (fun ls' hl' => ?_)
    have K := k.2 p e R s m args below meth c Q H locs ls' n0 z0 C w (mm_l_set hl hl') h1 h2 h3 h4 kk
    rw [← hd.2] at K
    exact K⟩
theorem ev_astore_n {k0 : Fin 4} {a : Nat} (hd : IX (md_c M) pc (.astore_n k0) 1 nx) (hi : (k0 : Nat) < md_l M) (k : Ev G d M nx (lc.set (k0 : Nat) (some (.ref a))) st h v h') : Ev G d M pc lc ((.ref a) :: st) h v h' :=
  ⟨k.1, fun p e R s m args below meth c Q H locs ls n0 z0 C w hl h1 h2 h3 h4 kk => by
    refine lv_astore_n (lv' := _) C.1 C.2.1 hd.1 rfl (mm_l_has hl) hi rfl (fun ls' hl' => ?_)
    have K := k.2 p e R s m args below meth c Q H locs ls' n0 z0 C w (mm_l_set hl hl') h1 h2 h3 h4 kk
    rw [← hd.2] at K
    exact K⟩
theorem ev_astore {i a : Nat} (hd : IX (md_c M) pc (.astore i) 2 nx) (hi : i < md_l M) (k : Ev G d M nx (lc.set i (some (.ref a))) st h v h') : Ev G d M pc lc ((.ref a) :: st) h v h' :=
  ⟨k.1, fun p e R s m args below meth c Q H locs ls n0 z0 C w hl h1 h2 h3 h4 kk => by
    refine lv_astore (lv' := _) C.1 C.2.1 hd.1 (mm_l_has hl) hi rfl (fun ls' hl' => ?_)
    have K := k.2 p e R s m args below meth c Q H locs ls' n0 z0 C w (mm_l_set hl hl') h1 h2 h3 h4 kk
    rw [← hd.2] at K
    exact K⟩
theorem ev_astore_nN {k0 : Fin 4} (hd : IX (md_c M) pc (.astore_n k0) 1 nx) (hi : (k0 : Nat) < md_l M) (k : Ev G d M nx (lc.set (k0 : Nat) (some .null)) st h v h') : Ev G d M pc lc (.null :: st) h v h' :=
  ⟨k.1, fun p e R s m args below meth c Q H locs ls n0 z0 C w hl h1 h2 h3 h4 kk => by
    refine lv_astore_nN (lv' := _) C.1 C.2.1 hd.1 rfl (mm_l_has hl) hi rfl (fun ls' hl' => ?_)
    have K := k.2 p e R s m args below meth c Q H locs ls' n0 z0 C w (mm_l_set hl hl') h1 h2 h3 h4 kk
    rw [← hd.2] at K
    exact K⟩
theorem ev_astoreN {i : Nat} (hd : IX (md_c M) pc (.astore i) 2 nx) (hi : i < md_l M) (k : Ev G d M nx (lc.set i (some .null)) st h v h') : Ev G d M pc lc (.null :: st) h v h' :=
  ⟨k.1, fun p e R s m args below meth c Q H locs ls n0 z0 C w hl h1 h2 h3 h4 kk => by
    refine lv_astoreN (lv' := _) C.1 C.2.1 hd.1 (mm_l_has hl) hi rfl (fun ls' hl' => ?_)
    have K := k.2 p e R s m args below meth c Q H locs ls' n0 z0 C w (mm_l_set hl hl') h1 h2 h3 h4 kk
    rw [← hd.2] at K
    exact K⟩
theorem ev_iinc {i : Nat} {n : Int} {x y : Int32} (hd : IX (md_c M) pc (.iinc i n) 3 nx) (hv : lc[i]? = some (some (.int x))) (hy : x + Int32.ofInt n = y) (hi : i < md_l M) (k : Ev G d M nx (lc.set i (some (.int y))) st h v h') : Ev G d M pc lc st h v h' :=
  ⟨k.1, fun p e R s m args below meth c Q H locs ls n0 z0 C w hl h1 h2 h3 h4 kk => by
    obtain ⟨kq, hkq⟩ := List.getElem?_of_mem (mm_pl_in (G := G) hv)
    refine lv_iinc (lv' := _) C.1 C.2.1 hd.1 (mm_l_has hl) hkq hy hi rfl (fun ls' hl' => ?_)
    have K := k.2 p e R s m args below meth c Q H locs ls' n0 z0 C w (mm_l_set (v := .int y) hl hl') h1 h2 h3 h4 kk
    rw [← hd.2] at K
    exact K⟩
theorem ev_goto {off : Int} {tg : Nat} (hd : IX (md_c M) pc (.goto off) 3 nx) (ht : (pc : Int) + off = (tg : Int)) (k : Ev G d M tg lc st h v h') : Ev G d M pc lc st h v h' :=
  ⟨k.1, fun p e R s m args below meth c Q H locs ls n0 z0 C w hl h1 h2 h3 h4 kk => lv_goto C.1 C.2.1 hd.1 ht (k.2 p e R s m args below meth c Q H locs ls n0 z0 C w hl h1 h2 h3 h4 kk)⟩
theorem ev_if_eq {x : Int32} {off : Int} {tg : Nat} (hd : IX (md_c M) pc (.ifCond .eq off) 3 nx) (ht : (pc : Int) + off = (tg : Int)) (kt : x = 0 → Ev G d M tg lc st h v h') (kf : ¬ x = 0 → Ev G d M nx lc st h v h') : Ev G d M pc lc (.int x :: st) h v h' :=
  ⟨(Decidable.em (x = 0)).elim (fun q => (kt q).1) (fun q => (kf (by first | exact q | (simpa using q))).1), fun p e R s m args below meth c Q H locs ls n0 z0 C w hl h1 h2 h3 h4 kk => by
    refine lv_if_eq C.1 C.2.1 hd.1 ht (fun q => (kt q).2 p e R s m args below meth c Q H locs ls n0 z0 C w hl h1 h2 h3 h4 kk) (fun q => ?_)
    have K := (kf q).2 p e R s m args below meth c Q H locs ls n0 z0 C w hl h1 h2 h3 h4 kk
    rw [← hd.2] at K
    exact K⟩
theorem ev_icmp_eq {x y : Int32} {off : Int} {tg : Nat} (hd : IX (md_c M) pc (.if_icmp .eq off) 3 nx) (ht : (pc : Int) + off = (tg : Int)) (kt : x = y → Ev G d M tg lc st h v h') (kf : ¬ x = y → Ev G d M nx lc st h v h') : Ev G d M pc lc (.int y :: .int x :: st) h v h' :=
  ⟨(Decidable.em (x = y)).elim (fun q => (kt q).1) (fun q => (kf (by first | exact q | (simpa using q))).1), fun p e R s m args below meth c Q H locs ls n0 z0 C w hl h1 h2 h3 h4 kk => by
    refine lv_icmp_eq C.1 C.2.1 hd.1 ht (fun q => (kt q).2 p e R s m args below meth c Q H locs ls n0 z0 C w hl h1 h2 h3 h4 kk) (fun q => ?_)
    have K := (kf q).2 p e R s m args below meth c Q H locs ls n0 z0 C w hl h1 h2 h3 h4 kk
    rw [← hd.2] at K
    exact K⟩
theorem ev_if_ne {x : Int32} {off : Int} {tg : Nat} (hd : IX (md_c M) pc (.ifCond .ne off) 3 nx) (ht : (pc : Int) + off = (tg : Int)) (kt : ¬ x = 0 → Ev G d M tg lc st h v h') (kf : x = 0 → Ev G d M nx lc st h v h') : Ev G d M pc lc (.int x :: st) h v h' :=
  ⟨(Decidable.em (¬ x = 0)).elim (fun q => (kt q).1) (fun q => (kf (by first | exact q | (simpa using q))).1), fun p e R s m args below meth c Q H locs ls n0 z0 C w hl h1 h2 h3 h4 kk => by
    refine lv_if_ne C.1 C.2.1 hd.1 ht (fun q => (kt q).2 p e R s m args below meth c Q H locs ls n0 z0 C w hl h1 h2 h3 h4 kk) (fun q => ?_)
    have K := (kf q).2 p e R s m args below meth c Q H locs ls n0 z0 C w hl h1 h2 h3 h4 kk
    rw [← hd.2] at K
    exact K⟩
theorem ev_icmp_ne {x y : Int32} {off : Int} {tg : Nat} (hd : IX (md_c M) pc (.if_icmp .ne off) 3 nx) (ht : (pc : Int) + off = (tg : Int)) (kt : ¬ x = y → Ev G d M tg lc st h v h') (kf : x = y → Ev G d M nx lc st h v h') : Ev G d M pc lc (.int y :: .int x :: st) h v h' :=
  ⟨(Decidable.em (¬ x = y)).elim (fun q => (kt q).1) (fun q => (kf (by first | exact q | (simpa using q))).1), fun p e R s m args below meth c Q H locs ls n0 z0 C w hl h1 h2 h3 h4 kk => by
    refine lv_icmp_ne C.1 C.2.1 hd.1 ht (fun q => (kt q).2 p e R s m args below meth c Q H locs ls n0 z0 C w hl h1 h2 h3 h4 kk) (fun q => ?_)
    have K := (kf q).2 p e R s m args below meth c Q H locs ls n0 z0 C w hl h1 h2 h3 h4 kk
    rw [← hd.2] at K
    exact K⟩
theorem ev_if_lt {x : Int32} {off : Int} {tg : Nat} (hd : IX (md_c M) pc (.ifCond .lt off) 3 nx) (ht : (pc : Int) + off = (tg : Int)) (kt : x < 0 → Ev G d M tg lc st h v h') (kf : ¬ x < 0 → Ev G d M nx lc st h v h') : Ev G d M pc lc (.int x :: st) h v h' :=
  ⟨(Decidable.em (x < 0)).elim (fun q => (kt q).1) (fun q => (kf (by first | exact q | (simpa using q))).1), fun p e R s m args below meth c Q H locs ls n0 z0 C w hl h1 h2 h3 h4 kk => by
    refine lv_if_lt C.1 C.2.1 hd.1 ht (fun q => (kt q).2 p e R s m args below meth c Q H locs ls n0 z0 C w hl h1 h2 h3 h4 kk) (fun q => ?_)
    have K := (kf q).2 p e R s m args below meth c Q H locs ls n0 z0 C w hl h1 h2 h3 h4 kk
    rw [← hd.2] at K
    exact K⟩
theorem ev_icmp_lt {x y : Int32} {off : Int} {tg : Nat} (hd : IX (md_c M) pc (.if_icmp .lt off) 3 nx) (ht : (pc : Int) + off = (tg : Int)) (kt : x < y → Ev G d M tg lc st h v h') (kf : ¬ x < y → Ev G d M nx lc st h v h') : Ev G d M pc lc (.int y :: .int x :: st) h v h' :=
  ⟨(Decidable.em (x < y)).elim (fun q => (kt q).1) (fun q => (kf (by first | exact q | (simpa using q))).1), fun p e R s m args below meth c Q H locs ls n0 z0 C w hl h1 h2 h3 h4 kk => by
    refine lv_icmp_lt C.1 C.2.1 hd.1 ht (fun q => (kt q).2 p e R s m args below meth c Q H locs ls n0 z0 C w hl h1 h2 h3 h4 kk) (fun q => ?_)
    have K := (kf q).2 p e R s m args below meth c Q H locs ls n0 z0 C w hl h1 h2 h3 h4 kk
    rw [← hd.2] at K
    exact K⟩
theorem ev_if_ge {x : Int32} {off : Int} {tg : Nat} (hd : IX (md_c M) pc (.ifCond .ge off) 3 nx) (ht : (pc : Int) + off = (tg : Int)) (kt : 0 ≤ x → Ev G d M tg lc st h v h') (kf : ¬ 0 ≤ x → Ev G d M nx lc st h v h') : Ev G d M pc lc (.int x :: st) h v h' :=
  ⟨(Decidable.em (0 ≤ x)).elim (fun q => (kt q).1) (fun q => (kf (by first | exact q | (simpa using q))).1), fun p e R s m args below meth c Q H locs ls n0 z0 C w hl h1 h2 h3 h4 kk => by
    refine lv_if_ge C.1 C.2.1 hd.1 ht (fun q => (kt q).2 p e R s m args below meth c Q H locs ls n0 z0 C w hl h1 h2 h3 h4 kk) (fun q => ?_)
    have K := (kf q).2 p e R s m args below meth c Q H locs ls n0 z0 C w hl h1 h2 h3 h4 kk
    rw [← hd.2] at K
    exact K⟩
theorem ev_icmp_ge {x y : Int32} {off : Int} {tg : Nat} (hd : IX (md_c M) pc (.if_icmp .ge off) 3 nx) (ht : (pc : Int) + off = (tg : Int)) (kt : y ≤ x → Ev G d M tg lc st h v h') (kf : ¬ y ≤ x → Ev G d M nx lc st h v h') : Ev G d M pc lc (.int y :: .int x :: st) h v h' :=
  ⟨(Decidable.em (y ≤ x)).elim (fun q => (kt q).1) (fun q => (kf (by first | exact q | (simpa using q))).1), fun p e R s m args below meth c Q H locs ls n0 z0 C w hl h1 h2 h3 h4 kk => by
    refine lv_icmp_ge C.1 C.2.1 hd.1 ht (fun q => (kt q).2 p e R s m args below meth c Q H locs ls n0 z0 C w hl h1 h2 h3 h4 kk) (fun q => ?_)
    have K := (kf q).2 p e R s m args below meth c Q H locs ls n0 z0 C w hl h1 h2 h3 h4 kk
    rw [← hd.2] at K
    exact K⟩
theorem ev_if_gt {x : Int32} {off : Int} {tg : Nat} (hd : IX (md_c M) pc (.ifCond .gt off) 3 nx) (ht : (pc : Int) + off = (tg : Int)) (kt : 0 < x → Ev G d M tg lc st h v h') (kf : ¬ 0 < x → Ev G d M nx lc st h v h') : Ev G d M pc lc (.int x :: st) h v h' :=
  ⟨(Decidable.em (0 < x)).elim (fun q => (kt q).1) (fun q => (kf (by first | exact q | (simpa using q))).1), fun p e R s m args below meth c Q H locs ls n0 z0 C w hl h1 h2 h3 h4 kk => by
    refine lv_if_gt C.1 C.2.1 hd.1 ht (fun q => (kt q).2 p e R s m args below meth c Q H locs ls n0 z0 C w hl h1 h2 h3 h4 kk) (fun q => ?_)
    have K := (kf q).2 p e R s m args below meth c Q H locs ls n0 z0 C w hl h1 h2 h3 h4 kk
    rw [← hd.2] at K
    exact K⟩
theorem ev_icmp_gt {x y : Int32} {off : Int} {tg : Nat} (hd : IX (md_c M) pc (.if_icmp .gt off) 3 nx) (ht : (pc : Int) + off = (tg : Int)) (kt : y < x → Ev G d M tg lc st h v h') (kf : ¬ y < x → Ev G d M nx lc st h v h') : Ev G d M pc lc (.int y :: .int x :: st) h v h' :=
  ⟨(Decidable.em (y < x)).elim (fun q => (kt q).1) (fun q => (kf (by first | exact q | (simpa using q))).1), fun p e R s m args below meth c Q H locs ls n0 z0 C w hl h1 h2 h3 h4 kk => by
    refine lv_icmp_gt C.1 C.2.1 hd.1 ht (fun q => (kt q).2 p e R s m args below meth c Q H locs ls n0 z0 C w hl h1 h2 h3 h4 kk) (fun q => ?_)
    have K := (kf q).2 p e R s m args below meth c Q H locs ls n0 z0 C w hl h1 h2 h3 h4 kk
    rw [← hd.2] at K
    exact K⟩
theorem ev_if_le {x : Int32} {off : Int} {tg : Nat} (hd : IX (md_c M) pc (.ifCond .le off) 3 nx) (ht : (pc : Int) + off = (tg : Int)) (kt : x ≤ 0 → Ev G d M tg lc st h v h') (kf : ¬ x ≤ 0 → Ev G d M nx lc st h v h') : Ev G d M pc lc (.int x :: st) h v h' :=
  ⟨(Decidable.em (x ≤ 0)).elim (fun q => (kt q).1) (fun q => (kf (by first | exact q | (simpa using q))).1), fun p e R s m args below meth c Q H locs ls n0 z0 C w hl h1 h2 h3 h4 kk => by
    refine lv_if_le C.1 C.2.1 hd.1 ht (fun q => (kt q).2 p e R s m args below meth c Q H locs ls n0 z0 C w hl h1 h2 h3 h4 kk) (fun q => ?_)
    have K := (kf q).2 p e R s m args below meth c Q H locs ls n0 z0 C w hl h1 h2 h3 h4 kk
    rw [← hd.2] at K
    exact K⟩
theorem ev_icmp_le {x y : Int32} {off : Int} {tg : Nat} (hd : IX (md_c M) pc (.if_icmp .le off) 3 nx) (ht : (pc : Int) + off = (tg : Int)) (kt : x ≤ y → Ev G d M tg lc st h v h') (kf : ¬ x ≤ y → Ev G d M nx lc st h v h') : Ev G d M pc lc (.int y :: .int x :: st) h v h' :=
  ⟨(Decidable.em (x ≤ y)).elim (fun q => (kt q).1) (fun q => (kf (by first | exact q | (simpa using q))).1), fun p e R s m args below meth c Q H locs ls n0 z0 C w hl h1 h2 h3 h4 kk => by
    refine lv_icmp_le C.1 C.2.1 hd.1 ht (fun q => (kt q).2 p e R s m args below meth c Q H locs ls n0 z0 C w hl h1 h2 h3 h4 kk) (fun q => ?_)
    have K := (kf q).2 p e R s m args below meth c Q H locs ls n0 z0 C w hl h1 h2 h3 h4 kk
    rw [← hd.2] at K
    exact K⟩
theorem ev_tsIn {dflt lo hi : Int} {offs : Array Int} {len : Nat} {x : Int32} {off : Int} {tg : Nat} (hd : IX (md_c M) pc (.tableswitch dflt lo hi offs) len nx) (q1 : ¬ x.toInt < lo) (q2 : ¬ hi < x.toInt) (ho : offs[(x.toInt - lo).toNat]? = some off) (ht : (pc : Int) + off = (tg : Int)) (k : Ev G d M tg lc st h v h') : Ev G d M pc lc (.int x :: st) h v h' :=
  ⟨k.1, fun p e R s m args below meth c Q H locs ls n0 z0 C w hl h1 h2 h3 h4 kk => lv_tableIn C.1 C.2.1 hd.1 q1 q2 ho ht (k.2 p e R s m args below meth c Q H locs ls n0 z0 C w hl h1 h2 h3 h4 kk)⟩
theorem ev_tsOut {dflt lo hi : Int} {offs : Array Int} {len : Nat} {x : Int32} {tg : Nat} (hd : IX (md_c M) pc (.tableswitch dflt lo hi offs) len nx) (q1 : x.toInt < lo ∨ hi < x.toInt) (ht : (pc : Int) + dflt = (tg : Int)) (k : Ev G d M tg lc st h v h') : Ev G d M pc lc (.int x :: st) h v h' :=
  ⟨k.1, fun p e R s m args below meth c Q H locs ls n0 z0 C w hl h1 h2 h3 h4 kk => lv_tableOut C.1 C.2.1 hd.1 q1 ht (k.2 p e R s m args below meth c Q H locs ls n0 z0 C w hl h1 h2 h3 h4 kk)⟩
theorem ev_ifnull {a : Nat} {off : Int} (hd : IX (md_c M) pc (.ifnull off) 3 nx) (k : Ev G d M nx lc st h v h') : Ev G d M pc lc (.ref a :: st) h v h' :=
  ⟨k.1, fun p e R s m args below meth c Q H locs ls n0 z0 C w hl h1 h2 h3 h4 kk => by
    have K := k.2 p e R s m args below meth c Q H locs ls n0 z0 C w hl h1 h2 h3 h4 kk
    rw [← hd.2] at K
    exact lv_ifnull C.1 C.2.1 hd.1 K⟩
theorem ev_ifnonnullN {off : Int} (hd : IX (md_c M) pc (.ifnonnull off) 3 nx) (k : Ev G d M nx lc st h v h') : Ev G d M pc lc (.null :: st) h v h' :=
  ⟨k.1, fun p e R s m args below meth c Q H locs ls n0 z0 C w hl h1 h2 h3 h4 kk => by
    have K := k.2 p e R s m args below meth c Q H locs ls n0 z0 C w hl h1 h2 h3 h4 kk
    rw [← hd.2] at K
    exact lv_ifnonnullN C.1 C.2.1 hd.1 K⟩
theorem ev_ifnullN {off : Int} {tg : Nat} (hd : IX (md_c M) pc (.ifnull off) 3 nx) (ht : (pc : Int) + off = (tg : Int)) (k : Ev G d M tg lc st h v h') : Ev G d M pc lc (.null :: st) h v h' :=
  ⟨k.1, fun p e R s m args below meth c Q H locs ls n0 z0 C w hl h1 h2 h3 h4 kk => lv_ifnullN C.1 C.2.1 hd.1 ht (k.2 p e R s m args below meth c Q H locs ls n0 z0 C w hl h1 h2 h3 h4 kk)⟩
theorem ev_ifnonnull {a : Nat} {off : Int} {tg : Nat} (hd : IX (md_c M) pc (.ifnonnull off) 3 nx) (ht : (pc : Int) + off = (tg : Int)) (k : Ev G d M tg lc st h v h') : Ev G d M pc lc (.ref a :: st) h v h' :=
  ⟨k.1, fun p e R s m args below meth c Q H locs ls n0 z0 C w hl h1 h2 h3 h4 kk => lv_ifnonnull C.1 C.2.1 hd.1 ht (k.2 p e R s m args below meth c Q H locs ls n0 z0 C w hl h1 h2 h3 h4 kk)⟩
theorem ev_vret (hd : IX (md_c M) pc .return_ 1 nx) (hr : md_r M = none) : Ev G d M pc lc [] h none h :=
  ⟨⟨Nat.le_refl _, Nat.le_refl _⟩, fun p e R s m args below meth c Q H locs ls n0 z0 C w hl h1 h2 h3 h4 kk => kk H locs ls pc w (Or.inl ⟨rfl, hd.1, hr⟩)⟩
theorem ev_iret {x : Int32} {ty : FieldType} (hd : IX (md_c M) pc .ireturn 1 nx) (hr : md_r M = some ty) (hn : narrow ty (.int x) = .int x) : Ev G d M pc lc [.int x] h (some (.int x)) h :=
  ⟨⟨Nat.le_refl _, Nat.le_refl _⟩, fun p e R s m args below meth c Q H locs ls n0 z0 C w hl h1 h2 h3 h4 kk => kk H locs ls pc w (Or.inr (Or.inl ⟨x, ty, rfl, hd.1, hr, hn⟩))⟩
theorem ev_aret {u : Value} {n : String} (hd : IX (md_c M) pc .areturn 1 nx) (hr : md_r M = some (.object n)) (hu : u = .null ∨ ∃ a, u = .ref a) : Ev G d M pc lc [u] h (some u) h :=
  ⟨⟨Nat.le_refl _, Nat.le_refl _⟩, fun p e R s m args below meth c Q H locs ls n0 z0 C w hl h1 h2 h3 h4 kk => kk H locs ls pc w (Or.inr (Or.inr ⟨u, n, rfl, hu, hd.1, hr⟩))⟩
end
end
section
/-! ===== rows of the judgement that read and write the heap ===== -/
def FL (own : String) (idx ci k : Nat) : Prop := ci < 11 ∧ k < mm_nf ci ∧ (Cond.fieldLink own idx (mm_T ci k).1 (mm_T ci k).2.1 (mm_T ci k).2.2.1 ∈ gtb ∨ ∃ host, Cond.fieldLinkNest own idx (mm_T ci k).1 (mm_T ci k).2.1 (mm_T ci k).2.2.1 host ∈ lw_tbl)
def FP (M : MD) (idx ci k : Nat) : Prop := ci < 11 ∧ k < mm_nf ci ∧ Cond.fieldLink (md_o M) idx (mm_T ci k).1 (mm_T ci k).2.1 (mm_T ci k).2.2.1 ∈ gtb ∧ ((mm_T ci k).2.2.2 = false ∨ ((mm_T ci k).2.2.2 = true ∧ md_i M = true ∧ (mm_T ci k).1 = md_o M))
theorem mm_w_si {tc : Nat → ClassId} {bs : Nat} {h : MH} {a k : Nat} {x : Int32} (ha : a < mm_N h) : (mm_w tc bs h).set a (bs + a, mm_e tc bs (mm_si h a k x) a) = mm_w tc bs (mm_si h a k x) := mm_w_set (h' := mm_si h a k x) rfl (fun b hb => mm_si_e hb) ha
theorem mm_w_sr {tc : Nat → ClassId} {bs : Nat} {h : MH} {a k : Nat} {x : Option Nat} (ha : a < mm_N h) : (mm_w tc bs h).set a (bs + a, mm_e tc bs (mm_sr h a k x) a) = mm_w tc bs (mm_sr h a k x) := mm_w_set (h' := mm_sr h a k x) rfl (fun b hb => mm_sr_e hb) ha
theorem mm_w_no {tc : Nat → ClassId} {bs : Nat} {h : MH} {ci : Nat} : mm_w tc bs h ++ [(bs + mm_N h, mm_e tc bs (mm_no h ci) (mm_N h))] = mm_w tc bs (mm_no h ci) := mm_w_push (h' := mm_no h ci) rfl (fun b hb => mm_no_e hb)
theorem mm_w_na {tc : Nat → ClassId} {bs : Nat} {h : MH} {kd n : Nat} : mm_w tc bs h ++ [(bs + mm_N h, mm_e tc bs (mm_na h kd n) (mm_N h))] = mm_w tc bs (mm_na h kd n) := mm_w_push (h' := mm_na h kd n) rfl (fun b hb => mm_na_e hb)
theorem cv_rf (G : GG) (r : Option Nat) : cv G (va_rf r) = va_rf (r.map (fun q => gg_b G + q)) := by cases r <;> rfl
section
variable {G : GG} {d : Nat} {M : MD} {pc nx : Nat} {lc : List (Option Value)} {st : List Value} {h : MH} {v : Option Value} {h' : MH}
theorem ev_getI {ci k a idx : Nat} (hd : IX (md_c M) pc (.getfield idx) 3 nx) (hf : FL (md_o M) idx ci k) (hi : mm_ii ci k = true) (ha : a < mm_N h) (hk : mm_K h a = ci) (q : Ev G d M nx lc (.int (mm_I h a k) :: st) h v h') : Ev G d M pc lc (.ref a :: st) h v h' :=
  ⟨q.1, fun p e R s m args below meth c Q H locs ls n0 z0 C w hl h1 h2 h3 h4 kk => by
    have K := q.2 p e R s m args below meth c Q H locs ls n0 z0 C w hl h1 h2 h3 h4 kk
    rw [← hd.2] at K
    obtain ⟨hc, hkn, hf⟩ := hf
    have he : (mm_w (gg_t G) (gg_b G) h)[a]? = some (gg_b G + a, .inr (ci, mm_f (gg_b G) h a)) := by rw [mm_w_at ha, mm_e_obj hk hc]
    have hv : (mm_f (gg_b G) h a)[k]? = some (.int (mm_I h a k)) := by rw [mm_f_at (by rw [hk]; exact hkn)]; simp [mm_v, hk, hi]
    rcases hf with hf | ⟨host, hf⟩
    · exact va_get C.1 C.2.1 C.2.2.2.2.1 (mm_ws hc) C.2.2.2.1 C.2.2.2.2.2.2.1 w.1 a he (mm_cl hc) k hkn (C.2.2.2.2.1 _ hf) (fun _ h9 => h9) hv hd.1 K
    · exact va_getN C.1 C.2.1 C.2.2.2.2.1 (mm_ws hc) C.2.2.2.1 C.2.2.2.2.2.2.1 w.1 a he (mm_cl hc) k hkn (va_Nw.use rfl (C.2.2.2.2.2.1 _ hf rfl)) (fun _ h9 => h9) hv hd.1 K⟩
theorem ev_getR {ci k a b idx : Nat} (hd : IX (md_c M) pc (.getfield idx) 3 nx) (hf : FL (md_o M) idx ci k) (hi : mm_ii ci k = false) (ha : a < mm_N h) (hk : mm_K h a = ci) (hr : mm_R h a k = some b) (q : Ev G d M nx lc (.ref b :: st) h v h') : Ev G d M pc lc (.ref a :: st) h v h' :=
  ⟨q.1, fun p e R s m args below meth c Q H locs ls n0 z0 C w hl h1 h2 h3 h4 kk => by
    have K := q.2 p e R s m args below meth c Q H locs ls n0 z0 C w hl h1 h2 h3 h4 kk
    rw [← hd.2] at K
    obtain ⟨hc, hkn, hf⟩ := hf
    have he : (mm_w (gg_t G) (gg_b G) h)[a]? = some (gg_b G + a, .inr (ci, mm_f (gg_b G) h a)) := by rw [mm_w_at ha, mm_e_obj hk hc]
    have hv : (mm_f (gg_b G) h a)[k]? = some (cv G (.ref b)) := by rw [mm_f_at (by rw [hk]; exact hkn)]; simp [mm_v, hk, hi, hr, va_rf, cv]
    rcases hf with hf | ⟨host, hf⟩
    · exact va_get C.1 C.2.1 C.2.2.2.2.1 (mm_ws hc) C.2.2.2.1 C.2.2.2.2.2.2.1 w.1 a he (mm_cl hc) k hkn (C.2.2.2.2.1 _ hf) (fun _ h9 => h9) hv hd.1 K
    · exact va_getN C.1 C.2.1 C.2.2.2.2.1 (mm_ws hc) C.2.2.2.1 C.2.2.2.2.2.2.1 w.1 a he (mm_cl hc) k hkn (va_Nw.use rfl (C.2.2.2.2.2.1 _ hf rfl)) (fun _ h9 => h9) hv hd.1 K⟩
theorem ev_putI {ci k a idx : Nat} {x : Int32} (hd : IX (md_c M) pc (.putfield idx) 3 nx) (hf : FP M idx ci k) (hz : mm_ty ci k = .int ∨ (mm_ty ci k = .boolean ∧ (x = 0 ∨ x = 1))) (ha : a < mm_N h) (hk : mm_K h a = ci) (q : Ev G d M nx lc st (mm_si h a k x) v h') : Ev G d M pc lc (.int x :: .ref a :: st) h v h' :=
  ⟨q.1, fun p e R s m args below meth c Q H locs ls n0 z0 C w hl h1 h2 h3 h4 kk => by
    obtain ⟨hc, hkn, hf, hfin⟩ := hf
    have hi : mm_ii ci k = true := by rcases hz with hz | ⟨hz, -⟩ <;> simp [mm_ii, hz, mm_isI]
    have he : (mm_w (gg_t G) (gg_b G) h)[a]? = some (gg_b G + a, .inr (ci, mm_f (gg_b G) h a)) := by rw [mm_w_at ha, mm_e_obj hk hc]
    have hn : narrow (mm_ty ci k) (.int x) = .int x ∧ fits (mm_ty ci k) (.int x) = true := by
      rcases hz with hz | ⟨hz, hz2 | hz2⟩
      · rw [hz]; exact ⟨rfl, rfl⟩
      · rw [hz, hz2]; exact ⟨by decide, by decide⟩
      · rw [hz, hz2]; exact ⟨by decide, by decide⟩
    refine pu_put C.1 C.2.1 C.2.2.2.2.1 (mm_ws hc) (mm_ty ci) (mm_tyok hc) (mm_nm hc) C.2.2.2.1 C.2.2.2.2.2.2.1 w.1 mm_w_D w.2.1 a he (mm_cl hc) k hkn (C.2.2.2.2.1 _ hf) ?_ hn.1 hn.2 (by rw [mm_f_len, hk]; exact hkn) hd.1 (fun H1 locs1 hP1 hS1 hz1 => ?_)
    · rcases hfin with hfin | ⟨f1, f2, f3⟩
      · exact Or.inl hfin
      · exact Or.inr ⟨f1, C.2.2.2.2.2.2.2.2.1 f2, f3⟩
    · have e1 : (mm_f (gg_b G) h a).set k (cv G (.int x)) = mm_f (gg_b G) (mm_si h a k x) a := mm_f_set rfl (by simp [mm_v, si_K, hk, hi, si_I, cv]) (fun j hj => by simp [mm_v, si_K, si_R, si_I, hj])
      have e2 : mm_e (gg_t G) (gg_b G) (mm_si h a k x) a = .inr (ci, mm_f (gg_b G) (mm_si h a k x) a) := mm_e_obj (by rw [si_K]; exact hk) hc
      rw [e1, ← e2, mm_w_si ha] at hP1
      have K := q.2 p e R s m args below meth c Q H1 locs1 ls n0 z0 C ⟨hP1, hS1, hz1.trans w.2.2⟩ hl h1 h2 h3 h4 kk
      rw [← hd.2] at K
      exact K⟩
theorem ev_putR {ci k a b idx : Nat} (hd : IX (md_c M) pc (.putfield idx) 3 nx) (hf : FP M idx ci k) (hi : mm_ii ci k = false) (ha : a < mm_N h) (hk : mm_K h a = ci) (q : Ev G d M nx lc st (mm_sr h a k (some b)) v h') : Ev G d M pc lc (.ref b :: .ref a :: st) h v h' :=
  ⟨q.1, fun p e R s m args below meth c Q H locs ls n0 z0 C w hl h1 h2 h3 h4 kk => by
    obtain ⟨hc, hkn, hf, hfin⟩ := hf
    have he : (mm_w (gg_t G) (gg_b G) h)[a]? = some (gg_b G + a, .inr (ci, mm_f (gg_b G) h a)) := by rw [mm_w_at ha, mm_e_obj hk hc]
    have hn : narrow (mm_ty ci k) (cv G (.ref b)) = cv G (.ref b) ∧ fits (mm_ty ci k) (cv G (.ref b)) = true := by
      have hh := mm_tyk hc k hkn
      simp only [mm_ii] at hi
      rw [hi] at hh
      cases ht : mm_ty ci k <;> simp [ht, mm_isR] at hh <;> exact ⟨rfl, rfl⟩
    refine pu_put C.1 C.2.1 C.2.2.2.2.1 (mm_ws hc) (mm_ty ci) (mm_tyok hc) (mm_nm hc) C.2.2.2.1 C.2.2.2.2.2.2.1 w.1 mm_w_D w.2.1 a he (mm_cl hc) k hkn (C.2.2.2.2.1 _ hf) ?_ hn.1 hn.2 (by rw [mm_f_len, hk]; exact hkn) hd.1 (fun H1 locs1 hP1 hS1 hz1 => ?_)
    · rcases hfin with hfin | ⟨f1, f2, f3⟩
      · exact Or.inl hfin
      · exact Or.inr ⟨f1, C.2.2.2.2.2.2.2.2.1 f2, f3⟩
    · have e1 : (mm_f (gg_b G) h a).set k (cv G (.ref b)) = mm_f (gg_b G) (mm_sr h a k (some b)) a := mm_f_set rfl (by simp [mm_v, sr_K, hk, hi, sr_R, va_rf, cv]) (fun j hj => by simp [mm_v, sr_K, sr_R, sr_I, hj])
      have e2 : mm_e (gg_t G) (gg_b G) (mm_sr h a k (some b)) a = .inr (ci, mm_f (gg_b G) (mm_sr h a k (some b)) a) := mm_e_obj (by rw [sr_K]; exact hk) hc
      rw [e1, ← e2, mm_w_sr ha] at hP1
      have K := q.2 p e R s m args below meth c Q H1 locs1 ls n0 z0 C ⟨hP1, hS1, hz1.trans w.2.2⟩ hl h1 h2 h3 h4 kk
      rw [← hd.2] at K
      exact K⟩
theorem ev_iald {a : Nat} {i : Int32} (hd : IX (md_c M) pc .iaload 1 nx) (ha : a < mm_N h) (hk : mm_K h a = 11) (hin : vp_in i (mm_L h a)) (q : Ev G d M nx lc (.int (mm_I h a i.toNatClampNeg) :: st) h v h') : Ev G d M pc lc (.int i :: .ref a :: st) h v h' :=
  ⟨q.1, fun p e R s m args below meth c Q H locs ls n0 z0 C w hl h1 h2 h3 h4 kk => by
    have K := q.2 p e R s m args below meth c Q H locs ls n0 z0 C w hl h1 h2 h3 h4 kk
    rw [← hd.2] at K
    have he : (mm_w (gg_t G) (gg_b G) h)[a]? = some (gg_b G + a, .inl (gg_t G 11, mm_L h a, .inl (mm_I h a))) := by rw [mm_w_at ha, mm_e_int (Or.inl hk), hk]
    exact va_iald C.1 C.2.1 C.2.2.2.2.2.2.1 w.1 a 0 he rfl hin hd.1 K⟩
theorem ev_bald {a : Nat} {i : Int32} (hd : IX (md_c M) pc .baload 1 nx) (ha : a < mm_N h) (hk : mm_K h a = 12) (hin : vp_in i (mm_L h a)) (q : Ev G d M nx lc (.int (mm_I h a i.toNatClampNeg) :: st) h v h') : Ev G d M pc lc (.int i :: .ref a :: st) h v h' :=
  ⟨q.1, fun p e R s m args below meth c Q H locs ls n0 z0 C w hl h1 h2 h3 h4 kk => by
    have K := q.2 p e R s m args below meth c Q H locs ls n0 z0 C w hl h1 h2 h3 h4 kk
    rw [← hd.2] at K
    have he : (mm_w (gg_t G) (gg_b G) h)[a]? = some (gg_b G + a, .inl (gg_t G 12, mm_L h a, .inl (mm_I h a))) := by rw [mm_w_at ha, mm_e_int (Or.inr hk), hk]
    exact va_zald C.1 C.2.1 C.2.2.2.2.2.2.1 w.1 a 1 he rfl hin hd.1 K⟩
theorem ev_aald {a b : Nat} {i : Int32} (hd : IX (md_c M) pc .aaload 1 nx) (ha : a < mm_N h) (hk : mm_K h a = 13 ∨ mm_K h a = 14 ∨ mm_K h a = 15) (hin : vp_in i (mm_L h a)) (hr : mm_R h a i.toNatClampNeg = some b) (q : Ev G d M nx lc (.ref b :: st) h v h') : Ev G d M pc lc (.int i :: .ref a :: st) h v h' :=
  ⟨q.1, fun p e R s m args below meth c Q H locs ls n0 z0 C w hl h1 h2 h3 h4 kk => by
    have K := q.2 p e R s m args below meth c Q H locs ls n0 z0 C w hl h1 h2 h3 h4 kk
    rw [← hd.2] at K
    have he : (mm_w (gg_t G) (gg_b G) h)[a]? = some (gg_b G + a, .inl (gg_t G (mm_K h a), mm_L h a, .inr (.inr (.inr (.inr (fun i => (mm_R h a i).map (fun q => gg_b G + q))))))) := by rw [mm_w_at ha, mm_e_ref (by omega)]
    have hval : va_rf ((mm_R h a i.toNatClampNeg).map (fun q => gg_b G + q)) = cv G (.ref b) := by rw [hr]; rfl
    rcases hk with hk | hk | hk
    · rw [hk] at he
      refine va_aldq C.1 C.2.1 C.2.2.2.2.2.2.1 w.1 a 2 he rfl hin hd.1 ?_
      rw [hval]; exact K
    · rw [hk] at he
      refine va_aldq C.1 C.2.1 C.2.2.2.2.2.2.1 w.1 a 3 he rfl hin hd.1 ?_
      rw [hval]; exact K
    · rw [hk] at he
      refine va_aldq C.1 C.2.1 C.2.2.2.2.2.2.1 w.1 a 4 he rfl hin hd.1 ?_
      rw [hval]; exact K⟩
theorem ev_iast {a : Nat} {i x : Int32} (hd : IX (md_c M) pc .iastore 1 nx) (ha : a < mm_N h) (hk : mm_K h a = 11) (hin : vp_in i (mm_L h a)) (q : Ev G d M nx lc st (mm_si h a i.toNatClampNeg x) v h') : Ev G d M pc lc (.int x :: .int i :: .ref a :: st) h v h' :=
  ⟨q.1, fun p e R s m args below meth c Q H locs ls n0 z0 C w hl h1 h2 h3 h4 kk => by
    have he : (mm_w (gg_t G) (gg_b G) h)[a]? = some (gg_b G + a, .inl (gg_t G 11, mm_L h a, .inl (mm_I h a))) := by rw [mm_w_at ha, mm_e_int (Or.inl hk), hk]
    refine pu_iast C.1 C.2.1 C.2.2.2.2.2.2.1 w.1 mm_w_D w.2.1 a 0 he rfl hin hd.1 (fun H1 locs1 hP1 hS1 hz1 => ?_)
    have e2 : mm_e (gg_t G) (gg_b G) (mm_si h a i.toNatClampNeg x) a = .inl (gg_t G 11, mm_L h a, .inl (upd (mm_I h a) i.toNatClampNeg x)) := by
      rw [mm_e_int (by rw [si_K]; exact Or.inl hk), si_K, hk, si_L]
      simp [mm_si, mm_I, va_up]
    rw [← e2, mm_w_si ha] at hP1
    have K := q.2 p e R s m args below meth c Q H1 locs1 ls n0 z0 C ⟨hP1, hS1, hz1.trans w.2.2⟩ hl h1 h2 h3 h4 kk
    rw [← hd.2] at K
    exact K⟩
theorem ev_bast {a : Nat} {i x : Int32} (hd : IX (md_c M) pc .bastore 1 nx) (hx : x = 0 ∨ x = 1) (ha : a < mm_N h) (hk : mm_K h a = 12) (hin : vp_in i (mm_L h a)) (q : Ev G d M nx lc st (mm_si h a i.toNatClampNeg x) v h') : Ev G d M pc lc (.int x :: .int i :: .ref a :: st) h v h' :=
  ⟨q.1, fun p e R s m args below meth c Q H locs ls n0 z0 C w hl h1 h2 h3 h4 kk => by
    have he : (mm_w (gg_t G) (gg_b G) h)[a]? = some (gg_b G + a, .inl (gg_t G 12, mm_L h a, .inl (mm_I h a))) := by rw [mm_w_at ha, mm_e_int (Or.inr hk), hk]
    refine pu_zast C.1 C.2.1 C.2.2.2.2.2.2.1 w.1 mm_w_D w.2.1 a 1 he rfl (by rcases hx with rfl | rfl <;> decide) hin hd.1 (fun H1 locs1 hP1 hS1 hz1 => ?_)
    have e2 : mm_e (gg_t G) (gg_b G) (mm_si h a i.toNatClampNeg x) a = .inl (gg_t G 12, mm_L h a, .inl (upd (mm_I h a) i.toNatClampNeg x)) := by
      rw [mm_e_int (by rw [si_K]; exact Or.inr hk), si_K, hk, si_L]
      simp [mm_si, mm_I, va_up]
    rw [← e2, mm_w_si ha] at hP1
    have K := q.2 p e R s m args below meth c Q H1 locs1 ls n0 z0 C ⟨hP1, hS1, hz1.trans w.2.2⟩ hl h1 h2 h3 h4 kk
    rw [← hd.2] at K
    exact K⟩
theorem ev_aast {a b : Nat} {i : Int32} (hd : IX (md_c M) pc .aastore 1 nx) (ha : a < mm_N h) (hb : b < mm_N h) (hk : (mm_K h a = 13 ∧ mm_K h b = 2) ∨ (mm_K h a = 14 ∧ mm_K h b = 5) ∨ (mm_K h a = 15 ∧ mm_K h b = 7)) (hin : vp_in i (mm_L h a)) (q : Ev G d M nx lc st (mm_sr h a i.toNatClampNeg (some b)) v h') : Ev G d M pc lc (.ref b :: .int i :: .ref a :: st) h v h' :=
  ⟨q.1, fun p e R s m args below meth c Q H locs ls n0 z0 C w hl h1 h2 h3 h4 kk => by
    have he : (mm_w (gg_t G) (gg_b G) h)[a]? = some (gg_b G + a, .inl (gg_t G (mm_K h a), mm_L h a, .inr (.inr (.inr (.inr (fun i => (mm_R h a i).map (fun q => gg_b G + q))))))) := by rw [mm_w_at ha, mm_e_ref (by omega)]
    have hbe : (mm_w (gg_t G) (gg_b G) h)[b]? = some (gg_b G + b, .inr (mm_K h b, mm_f (gg_b G) h b)) := by rw [mm_w_at hb, mm_e_obj rfl (by omega)]
    have e2 : mm_e (gg_t G) (gg_b G) (mm_sr h a i.toNatClampNeg (some b)) a = .inl (gg_t G (mm_K h a), mm_L h a, .inr (.inr (.inr (.inr (va_up (fun i => (mm_R h a i).map (fun q => gg_b G + q)) i.toNatClampNeg (some (gg_b G + b))))))) := by
      rw [mm_e_ref (by rw [sr_K]; omega), sr_K, sr_L]
      congr 7
      funext j
      simp only [sr_R, true_and, va_up]
      by_cases e : j = i.toNatClampNeg <;> simp [e]
    have fin : ∀ (H1 : Heap) (locs1 : List Loc), va_P (gg_D G) vwCl ((mm_w (gg_t G) (gg_b G) h).set a (gg_b G + a, .inl (gg_t G (mm_K h a), mm_L h a, .inr (.inr (.inr (.inr (va_up (fun i => (mm_R h a i).map (fun q => gg_b G + q)) i.toNatClampNeg (some (gg_b G + b))))))))) H1 → va_S (fun q => gg_b G ≤ q) s.heap H1 locs1 → H1.size = H.size → W p (gg_l G) e R s m args below meth c H1 locs1 (mm_N h - n0) (mm_S h - z0) Q (F0 m (pc + 1) ls (st.map (cv G))) := fun H1 locs1 hP1 hS1 hz1 => by
      rw [← e2, mm_w_sr ha] at hP1
      have K := q.2 p e R s m args below meth c Q H1 locs1 ls n0 z0 C ⟨hP1, hS1, hz1.trans w.2.2⟩ hl h1 h2 h3 h4 kk
      rw [← hd.2] at K
      exact K
    rcases hk with ⟨k1, k2⟩ | ⟨k1, k2⟩ | ⟨k1, k2⟩
    · rw [k1] at he fin
      rw [k2] at hbe
      exact pu_aast C.1 C.2.1 C.2.2.2.2.2.2.1 w.1 mm_w_D w.2.1 a 2 b 2 (r := (RX2, TX2, 3)) he rfl hbe rfl hin hd.1 fin
    · rw [k1] at he fin
      rw [k2] at hbe
      exact pu_aast C.1 C.2.1 C.2.2.2.2.2.2.1 w.1 mm_w_D w.2.1 a 3 b 5 (r := (RX5, TX5, 6)) he rfl hbe rfl hin hd.1 fin
    · rw [k1] at he fin
      rw [k2] at hbe
      exact pu_aast C.1 C.2.1 C.2.2.2.2.2.2.1 w.1 mm_w_D w.2.1 a 4 b 7 (r := (RX7, TX7, 6)) he rfl hbe rfl hin hd.1 fin⟩
theorem ev_alen {a : Nat} (hd : IX (md_c M) pc .arraylength 1 nx) (ha : a < mm_N h) (hk : mm_K h a = 11) (q : Ev G d M nx lc (.int (Int32.ofNat (mm_L h a)) :: st) h v h') : Ev G d M pc lc (.ref a :: st) h v h' :=
  ⟨q.1, fun p e R s m args below meth c Q H locs ls n0 z0 C w hl h1 h2 h3 h4 kk => by
    have K := q.2 p e R s m args below meth c Q H locs ls n0 z0 C w hl h1 h2 h3 h4 kk
    rw [← hd.2] at K
    have he : (mm_w (gg_t G) (gg_b G) h)[a]? = some (gg_b G + a, .inl (gg_t G 11, mm_L h a, .inl (mm_I h a))) := by rw [mm_w_at ha, mm_e_int (Or.inl hk), hk]
    exact va_alen C.1 C.2.1 C.2.2.2.2.2.2.1 w.1 a 0 he rfl rfl hd.1 K⟩
/-- the script -/
theorem ev_sld {z : Int64} {i : Int32} (hM : md_o M = RL) (hd : IX (md_c M) pc .iaload 1 nx) (hin : vp_in i (gg_L G)) (q : Ev G d M nx lc (.int (gg_x G i.toNatClampNeg) :: st) h v h') : Ev G d M pc lc (.int i :: .long z :: st) h v h' :=
  ⟨q.1, fun p e R s m args below meth c Q H locs ls n0 z0 C w hl h1 h2 h3 h4 kk => by
    have K := q.2 p e R s m args below meth c Q H locs ls n0 z0 C w hl h1 h2 h3 h4 kk
    rw [← hd.2] at K
    obtain ⟨hX, hb⟩ := C.2.2.2.2.2.2.2.2.2.2 hM
    exact va_sld C.1 C.2.1 hX (Nat.lt_of_lt_of_le hb C.2.2.2.2.2.2.2.1) (Nat.not_le.mpr hb) w.2.1 hin hd.1 K⟩
theorem ev_slen {z : Int64} (hM : md_o M = RL) (hd : IX (md_c M) pc .arraylength 1 nx) (q : Ev G d M nx lc (.int (Int32.ofNat (gg_L G)) :: st) h v h') : Ev G d M pc lc (.long z :: st) h v h' :=
  ⟨q.1, fun p e R s m args below meth c Q H locs ls n0 z0 C w hl h1 h2 h3 h4 kk => by
    have K := q.2 p e R s m args below meth c Q H locs ls n0 z0 C w hl h1 h2 h3 h4 kk
    rw [← hd.2] at K
    obtain ⟨hX, hb⟩ := C.2.2.2.2.2.2.2.2.2.2 hM
    exact va_slen C.1 C.2.1 hX (Nat.lt_of_lt_of_le hb C.2.2.2.2.2.2.2.1) (Nat.not_le.mpr hb) w.2.1 hd.1 K⟩
/-- new objects and arrays -/
def NC (own : String) (idx ci : Nat) : Prop := ci < 11 ∧ Cond.classLink own idx (mm_C ci) ∈ gtb ∧ Cond.instantiable (mm_C ci) (mm_nf ci) ∈ gtb ∧ Cond.initialized (mm_C ci) ∈ gtb
theorem no_K (h : MH) (ci : Nat) : mm_K (mm_no h ci) (mm_N h) = ci := by show va_up _ _ _ _ = _; simp [va_up]
theorem na_K (h : MH) (kd n : Nat) : mm_K (mm_na h kd n) (mm_N h) = kd := by show va_up _ _ _ _ = _; simp [va_up]
theorem na_L (h : MH) (kd n : Nat) : mm_L (mm_na h kd n) (mm_N h) = n := by show va_up _ _ _ _ = _; simp [va_up]
theorem ev_new {ci idx : Nat} (hd : IX (md_c M) pc (.new idx) 3 nx) (hc : NC (md_o M) idx ci) (q : Ev G d M nx lc (.ref (mm_N h) :: st) (mm_no h ci) v h') : Ev G d M pc lc st h v h' := by
  have m1 : mm_N h + 1 ≤ mm_N h' := q.1.1
  have m2 : mm_S h + mm_nf ci ≤ mm_S h' := q.1.2
  refine ⟨⟨by omega, by omega⟩, fun p e R s m args below meth c Q H locs ls n0 z0 C w hl h1 h2 h3 h4 kk => ?_⟩
  obtain ⟨hc, w1, w2, w3⟩ := hc
  refine pu_new C.1 C.2.1 C.2.2.2.2.1 (mm_ws hc) (mm_ty ci) (mm_tyok hc) C.2.2.2.1 (C.2.2.2.2.1 _ w1) (C.2.2.2.2.1 _ w2) (C.2.2.2.2.1 _ w3) C.2.2.2.2.2.2.1 w.1 w.2.1 (mm_cl hc) (fs := mm_f (gg_b G) (mm_no h ci) (mm_N h)) (fun j hj => ?_) (by omega) (by omega) hd.1 (fun H1 hP1 hS1 hz1 => ?_)
  · have e1 : (mm_f (gg_b G) (mm_no h ci) (mm_N h))[j]? = some (mm_v (gg_b G) (mm_no h ci) (mm_N h) j) := mm_f_at (by rw [no_K]; exact hj)
    rw [mm_dv (mm_tyk hc j hj)]
    simp only [vp_V, List.getD, e1, Option.getD_some, mm_v, no_K, mm_ii]
    have e2 : mm_I (mm_no h ci) (mm_N h) j = 0 := by simp [mm_no, mm_I, mm_N, va_up]
    have e3 : mm_R (mm_no h ci) (mm_N h) j = none := by simp [mm_no, mm_R, mm_N, va_up]
    rw [e2, e3]; rfl
  · have e2 : mm_e (gg_t G) (gg_b G) (mm_no h ci) (mm_N h) = .inr (ci, mm_f (gg_b G) (mm_no h ci) (mm_N h)) := mm_e_obj (no_K h ci) hc
    rw [w.2.2, ← e2, mm_w_no] at hP1
    have K := q.2 p e R s m args below meth c Q H1 locs ls n0 z0 C ⟨hP1, hS1, by rw [hz1, w.2.2]; rfl⟩ hl (Nat.le_succ_of_le h1) (Nat.le_trans h2 (Nat.le_add_right _ _)) h3 h4 kk
    rw [← hd.2] at K
    have c1 : mm_N (mm_no h ci) - n0 = mm_N h - n0 + 1 := by show mm_N h + 1 - n0 = _; omega
    have c2 : mm_S (mm_no h ci) - z0 = mm_S h - z0 + mm_nf ci := by show mm_S h + mm_nf ci - z0 = _; omega
    rw [c1, c2] at K
    rw [w.2.2]
    exact K
theorem ev_newa {kd : Nat} {at_ : ArrayType} {n : Int32} (hd : IX (md_c M) pc (.newarray at_) 2 nx) (ht : (kd = 11 ∧ newarray.typeOf at_ = .int) ∨ (kd = 12 ∧ newarray.typeOf at_ = .boolean)) (hw : Cond.arrayClass (newarray.typeOf at_) ∈ gtb) (hn : ¬ n < 0) (hs : n.toNatClampNeg ≤ 100000) (q : Ev G d M nx lc (.ref (mm_N h) :: st) (mm_na h kd n.toNatClampNeg) v h') : Ev G d M pc lc (.int n :: st) h v h' := by
  have m1 : mm_N h + 1 ≤ mm_N h' := q.1.1
  have m2 : mm_S h + n.toNatClampNeg ≤ mm_S h' := q.1.2
  refine ⟨⟨by omega, by omega⟩, fun p e R s m args below meth c Q H locs ls n0 z0 C w hl h1 h2 h3 h4 kk => ?_⟩
  have hcb : n.toNatClampNeg * componentBytes (newarray.typeOf at_) ≤ 536870912 := by
    rcases ht with ⟨-, ht⟩ | ⟨-, ht⟩ <;> rw [ht] <;> simp [componentBytes] <;> omega
  have hdf : defaultValue (newarray.typeOf at_) = .int 0 := by rcases ht with ⟨-, ht⟩ | ⟨-, ht⟩ <;> rw [ht] <;> rfl
  have hfc : s.vm.findClass ("[" ++ (newarray.typeOf at_).toString) = some (gg_t G kd) := by
    rcases ht with ⟨rfl, ht⟩ | ⟨rfl, ht⟩
    · rw [ht]; exact (C.2.2.2.2.2.2.1.2 0 _ rfl).2
    · rw [ht]; exact (C.2.2.2.2.2.2.1.2 1 _ rfl).2
  refine pu_newa C.1 C.2.1 (C.2.2.2.2.1 _ hw) rfl w.1 w.2.1 (a0 := (n.toNatClampNeg, .inl (fun _ => 0))) (fun cA => by rw [vp_cell_i, hdf]) hn rfl hcb (by omega) (by omega) hfc hd.1 (fun H1 hP1 hS1 hz1 => ?_)
  have hkd : mm_K (mm_na h kd n.toNatClampNeg) (mm_N h) = 11 ∨ mm_K (mm_na h kd n.toNatClampNeg) (mm_N h) = 12 := by rw [na_K]; rcases ht with ⟨rfl, -⟩ | ⟨rfl, -⟩ <;> simp
  have e3 : mm_I (mm_na h kd n.toNatClampNeg) (mm_N h) = fun _ => 0 := by show va_up _ _ _ _ = _; simp [va_up]
  have e2 : mm_e (gg_t G) (gg_b G) (mm_na h kd n.toNatClampNeg) (mm_N h) = .inl (gg_t G kd, n.toNatClampNeg, .inl (fun _ => 0)) := by rw [mm_e_int hkd, na_K, na_L, e3]
  rw [w.2.2, ← e2, mm_w_na] at hP1
  have K := q.2 p e R s m args below meth c Q H1 locs ls n0 z0 C ⟨hP1, hS1, by rw [hz1, w.2.2]; rfl⟩ hl (Nat.le_succ_of_le h1) (Nat.le_trans h2 (Nat.le_add_right _ _)) h3 h4 kk
  rw [← hd.2] at K
  have c1 : mm_N (mm_na h kd n.toNatClampNeg) - n0 = mm_N h - n0 + 1 := by show mm_N h + 1 - n0 = _; omega
  have c2 : mm_S (mm_na h kd n.toNatClampNeg) - z0 = mm_S h - z0 + n.toNatClampNeg := by show mm_S h + n.toNatClampNeg - z0 = _; omega
  rw [c1, c2] at K
  rw [w.2.2]
  exact K
theorem ev_newr {kd idx : Nat} {C0 : String} {n : Int32} (hd : IX (md_c M) pc (.anewarray idx) 3 nx) (ht : (kd = 13 ∧ C0 = RX2) ∨ (kd = 14 ∧ C0 = RX5) ∨ (kd = 15 ∧ C0 = RX7)) (hw : Cond.classLink (md_o M) idx C0 ∈ gtb) (ho : Cond.arrayOver (.object C0) ∈ lw_tbl) (hn : ¬ n < 0) (hs : n.toNatClampNeg ≤ 100000) (q : Ev G d M nx lc (.ref (mm_N h) :: st) (mm_na h kd n.toNatClampNeg) v h') : Ev G d M pc lc (.int n :: st) h v h' := by
  have m1 : mm_N h + 1 ≤ mm_N h' := q.1.1
  have m2 : mm_S h + n.toNatClampNeg ≤ mm_S h' := q.1.2
  refine ⟨⟨by omega, by omega⟩, fun p e R s m args below meth c Q H locs ls n0 z0 C w hl h1 h2 h3 h4 kk => ?_⟩
  have hfc : s.vm.findClass ("[" ++ (FieldType.object C0).toString) = some (gg_t G kd) := by
    rcases ht with ⟨rfl, rfl⟩ | ⟨rfl, rfl⟩ | ⟨rfl, rfl⟩
    · obtain ⟨_, _, _, _, _, h9⟩ := (C.2.2.2.2.2.2.1.2 2 _ rfl).2; exact h9
    · obtain ⟨_, _, _, _, _, h9⟩ := (C.2.2.2.2.2.2.1.2 3 _ rfl).2; exact h9
    · obtain ⟨_, _, _, _, _, h9⟩ := (C.2.2.2.2.2.2.1.2 4 _ rfl).2; exact h9
  have hkd : 13 ≤ kd := by rcases ht with ⟨rfl, -⟩ | ⟨rfl, -⟩ | ⟨rfl, -⟩ <;> omega
  refine pu_newr C.1 C.2.1 C.2.2.2.1 (C.2.2.2.2.1 _ hw) (C.2.2.2.2.2.1 _ ho rfl) w.1 w.2.1 hn rfl (by omega) (by omega) (by omega) hfc hd.1 (fun H1 hP1 hS1 hz1 => ?_)
  have e3 : mm_R (mm_na h kd n.toNatClampNeg) (mm_N h) = fun _ => none := by show va_up _ _ _ _ = _; simp [va_up]
  have e2 : mm_e (gg_t G) (gg_b G) (mm_na h kd n.toNatClampNeg) (mm_N h) = .inl (gg_t G kd, n.toNatClampNeg, .inr (.inr (.inr (.inr (fun _ => none))))) := by rw [mm_e_ref (by rw [na_K]; exact hkd), na_K, na_L, e3]; rfl
  rw [w.2.2, ← e2, mm_w_na] at hP1
  have K := q.2 p e R s m args below meth c Q H1 locs ls n0 z0 C ⟨hP1, hS1, by rw [hz1, w.2.2]; rfl⟩ hl (Nat.le_succ_of_le h1) (Nat.le_trans h2 (Nat.le_add_right _ _)) h3 h4 kk
  rw [← hd.2] at K
  have c1 : mm_N (mm_na h kd n.toNatClampNeg) - n0 = mm_N h - n0 + 1 := by show mm_N h + 1 - n0 = _; omega
  have c2 : mm_S (mm_na h kd n.toNatClampNeg) - z0 = mm_S h - z0 + n.toNatClampNeg := by show mm_S h + n.toNatClampNeg - z0 = _; omega
  rw [c1, c2] at K
  rw [w.2.2]
  exact K
end
end
section
/-! ===== calls ===== -/
def md_ws (M : MD) : List Cond := .code (md_y M) (md_c M) (md_l M) (md_r M) :: gtb
def ent (M : MD) (vs : List Value) : List (Option Value) := vs.map some ++ List.replicate (md_l M - vs.length) none
/-- what the tables say of a method -/
def MOk (M : MD) : Prop := plainName (md_y M).cls = true ∧ Cond.code (md_y M) (md_c M) (md_l M) (md_r M) ∈ gtb ∧ Cond.initialized (md_y M).cls ∈ gtb ∧ (md_y M).cls = md_o M ∧ (md_i M = true → (md_y M).name = "<init>") ∧ md_l M ≤ 21 ∧ ((md_y M).cls ≠ "java/lang/invoke/MethodHandle" ∧ (md_y M).cls ≠ "java/lang/invoke/VarHandle") ∧ md_o M ≠ RL
def cc_P (G : GG) (vs : List Value) (h : MH) : Array Value → State → Prop := va_Pc (vs.map (cv G)) (fun U => U.heap.size = gg_b G + mm_N h ∧ va_P (gg_D G) vwCl (mm_w (gg_t G) (gg_b G) h) U.heap ∧ va_K (gg_D G) vwCl (gg_tys G) U ∧ NW U)
def cc_Q (G : GG) (v : Option Value) (h' : MH) : Array Value → State → Outcome → State → Prop := fun _ s0 oc t => oc = .returned (v.map (cv G)) ∧ va_P (gg_D G) vwCl (mm_w (gg_t G) (gg_b G) h') t.heap ∧ t.heap.size = gg_b G + mm_N h' ∧ va_F (fun q => gg_b G ≤ q) s0 t
def cc_R (d : Nat) (h h' : MH) : Room := { frames := d, cells := mm_N h' - mm_N h, slots := mm_S h' - mm_S h, locals := 40 * d }
theorem lg_sl_map (G : GG) (vs : List Value) : (lg_sl (vs.map (cv G))).length = vs.length := by
  induction vs with
  | nil => rfl
  | cons v t ih =>
    have hc := cv_cat G v
    have hc2 : ¬ (cv G v).category = 2 := by omega
    simp only [List.map_cons, List.length_cons]
    rw [← ih]
    simp [lg_sl, hc2]
theorem lv_args_in (G : GG) : ∀ (vs : List Value) (j i : Nat) (v : Value), vs[i]? = some v → (j + i, cv G v) ∈ lv_args j (vs.map (cv G)) := by
  intro vs
  induction vs with
  | nil => intro j i v h; simp at h
  | cons w t ih =>
    intro j i v h
    have hc2 : ¬ (cv G w).category = 2 := by have := cv_cat G w; omega
    simp only [List.map_cons, lv_args, if_neg hc2]
    cases i with
    | zero => simp at h; subst h; exact List.mem_cons_self
    | succ i =>
      have h2 : t[i]? = some v := by simpa using h
      have := ih (j + 1) i v h2
      rw [show j + (i + 1) = j + 1 + i by omega]
      exact List.mem_cons_of_mem _ this
theorem mm_l_ent {G : GG} {M : MD} {vs : List Value} (hn : vs.length ≤ md_l M) : mm_l G (md_l M) ((lg_sl (vs.map (cv G)) ++ List.replicate (md_l M - (lg_sl (vs.map (cv G))).length) Slot.unset).toArray) (ent M vs) := by
  have h := lv_entry (vs.map (cv G)) (n := md_l M) (by rw [lg_sl_map]; exact hn)
  refine ⟨h.1, h.2.1, by simp [ent]; omega, fun i v hv => ?_⟩
  have hi : vs[i]? = some v := by
    by_cases hlt : i < vs.length
    · rw [ent, List.getElem?_append_left (by simpa using hlt), List.getElem?_map] at hv
      cases hx : vs[i]? with
      | none => rw [hx] at hv; simp at hv
      | some u => rw [hx] at hv; simp at hv; rw [hv]
    · rw [ent, List.getElem?_append_right (by simpa using Nat.not_lt.mp hlt)] at hv
      have := List.getElem?_replicate (a := (none : Option Value)) (n := md_l M - vs.length) (i := i - (vs.map some).length)
      rw [this] at hv
      split at hv <;> simp at hv
  have := lv_args_in G vs 0 i v hi
  rw [Nat.zero_add] at this
  exact h.2.2 _ this
theorem ev_met {G : GG} {d : Nat} {M : MD} {vs : List Value} {h : MH} {v : Option Value} {h' : MH} (hM : MOk M) (hn : vs.length ≤ md_l M) (E : Ev G d M 0 (ent M vs) [] h v h') :
    Met (gg_l G) (md_y M) (md_ws M) (cc_R d h h') (cc_P G vs h) (cc_Q G v h') (mm_N h' - mm_N h) (mm_S h' - mm_S h) (fun q => gg_b G ≤ q) := by
  refine Met.ofW (cc := md_c M) (maxL := md_l M) (ret := md_r M) hM.1 rfl ?_
  intro p e s m args below meth c s₁ B hml hv
  obtain ⟨rfl, hsz, hP, hK, hN⟩ := hv
  have hts0 := atoms_spec (ws := md_ws M) B.pre
  have hown : s.vm.findClass (md_y M).cls = some m.cls := findClass_of_methodNamed B.named
  have hlocks := B.notSynchronized
  have hr := B.returns
  rw [lg_entry_eq]
  have C : Cx G d M p (headSpec (md_ws M) (cc_R d h h')).room s m ((vs.map (cv G)).toArray) meth c := by
    refine ⟨B.exec, B.bytes, hml, by rw [← hM.2.2.2.1]; exact hown, fun w hw => hts0 w (List.mem_cons_of_mem _ hw), hN, hK, by omega, fun hi => ?_, ⟨Nat.le_refl _, Nat.le_refl _⟩, fun hl => absurd hl hM.2.2.2.2.2.2.2⟩
    rw [← hM.2.2.2.2.1 hi]
    exact (name_of_methodNamed B.named B.method).1
  have K := E.2 p e (headSpec (md_ws M) (cc_R d h h')).room s m ((vs.map (cv G)).toArray) below meth c (MQ below (cc_Q G v h') ((vs.map (cv G)).toArray) s (mm_N h' - mm_N h) (mm_S h' - mm_S h) (fun q => gg_b G ≤ q)) s.heap [] _ (mm_N h) (mm_S h) C ⟨hP, va_S.rf, hsz⟩ (mm_l_ent hn) (Nat.le_refl _) (Nat.le_refl _) (Nat.le_refl _) (Nat.le_refl _) ?_
  · rw [Nat.sub_self, Nat.sub_self] at K
    exact K
  · intro H' locs' ls' pc' w' hret
    rcases hret with ⟨rfl, hdg, hrr⟩ | ⟨x, ty, rfl, hdg, hrr, hnr⟩ | ⟨u, nm, rfl, hu, hdg, hrr⟩
    · exact W.vret B.exec B.bytes (hr.trans hrr) (fun t ht hW => ⟨rfl, by rw [ht]; exact w'.1, by rw [ht]; exact w'.2.2, w'.2.1.F ht⟩) w'.2.1.2.2 hdg
    · exact W.zret B.exec B.bytes (hr.trans hrr) hnr (fun t ht hW => ⟨rfl, by rw [ht]; exact w'.1, by rw [ht]; exact w'.2.2, w'.2.1.F ht⟩) w'.2.1.2.2 hdg
    · exact W.aret B.exec B.bytes (hr.trans hrr) (Or.inl ⟨nm, rfl⟩) (by rcases hu with rfl | ⟨a, rfl⟩; exact Or.inl rfl; exact Or.inr ⟨_, rfl⟩) (fun t ht hW => ⟨rfl, by rw [ht]; exact w'.1, by rw [ht]; exact w'.2.2, w'.2.1.F ht⟩) w'.2.1.2.2 hdg
theorem cc_blind {G : GG} {vs : List Value} {h : MH} : FrameBlind (cc_P G vs h) := by
  intro a U g mk q
  obtain ⟨q0, q1, qP, qK, qN⟩ := q
  exact ⟨q0, q1, qP, va_K.moved (u := U) (U := U.calling g mk a) (Vm.Alike.refl U.vm) qK, qN.calling⟩
theorem md_good {M : MD} (hM : MOk M) : ∀ w ∈ md_ws M, w ∈ gtb := fun w hw => (List.mem_cons.mp hw).elim (fun e => e ▸ hM.2.1) id
theorem cv_sum (G : GG) (st : List Value) : ((st.map (cv G)).map fun v => v.category).sum = st.length := by
  induction st with
  | nil => rfl
  | cons v t ih => simp only [List.map_cons, List.sum_cons, List.length_cons, ih, cv_cat]; omega
section
variable {G : GG} {d : Nat} {M : MD} {pc nx : Nat} {lc : List (Option Value)} {rest : List Value} {h : MH} {v : Option Value} {h' : MH} {d2 : Nat} {N : MD} {vs : List Value} {v1 : Option Value} {h1 : MH}
/-- behind a call -/
theorem ev_after {p : Program} {e : Env} {R : Room} {s : State} {m : MethodId} {args : Array Value} {below : List Frame} {meth : Method} {c : Code} {Q : State → Prop} {H : Heap} {locs : List Loc} {ls : Array Slot} {n0 z0 : Nat} {a : Array Value} {st0 : List Value}
    (C : Cx G d M p R s m args meth c) (w : Wd G s H locs h) (hl : mm_l G (md_l M) ls lc) (g1 : n0 ≤ mm_N h) (g2 : z0 ≤ mm_S h) (g3 : mm_N h' - n0 ≤ R.cells) (g4 : mm_S h' - z0 ≤ R.slots)
    (kk : ∀ (H' : Heap) (locs' : List Loc) (ls' : Array Slot) (pc' : Nat), Wd G s H' locs' h' → RetAt M pc' v → W p (gg_l G) e R s m args below meth c H' locs' (mm_N h' - n0) (mm_S h' - z0) Q (F0 m pc' ls' (v.toList.map (cv G))))
    (m1 : mm_N h ≤ mm_N h1) (m2 : mm_S h ≤ mm_S h1) (hnx : pc + 3 = nx) (k : Ev G d M nx lc (v1.toList ++ rest) h1 v h')
    (hr : va_Run p (gg_l G) e R s m args below meth c H locs (mm_N h - n0) (mm_S h - z0) (mm_N h1 - mm_N h) (mm_S h1 - mm_S h) (F0 m pc ls st0) (rest.map (cv G)) (cc_Q G v1 h1 a) (fun q => gg_b G ≤ q)) :
    W p (gg_l G) e R s m args below meth c H locs (mm_N h - n0) (mm_S h - z0) Q (F0 m pc ls st0) := by
  intro T hT X
  obtain ⟨v0, s0, t, T', L, h0, X', hL, e1, e2, ⟨hv, hp, hz, hF⟩, stp⟩ := hr T hT X
  have hv0 : v0 = v1.map (cv G) := by injection hv
  subst hv0
  have hS1 : va_S (fun q => gg_b G ≤ q) s.heap T'.heap (locs ++ L) := by
    refine ⟨Nat.le_trans w.2.1.1 (by rw [e1, ← h0]; exact hF.1), fun q q1 q2 => ?_, fun q hq => ?_⟩
    · have q3 : q < H.size := Nat.lt_of_lt_of_le q1 w.2.1.1
      rw [e1, hF.2 q (by rw [h0]; exact q3) q2, h0]
      exact w.2.1.2.1 q q1 q2
    · rcases List.mem_append.mp hq with h9 | h9
      · exact w.2.1.2.2 q h9
      · exact hL q h9
  have K := k.2 p e R s m args below meth c Q T'.heap (locs ++ L) ls n0 z0 C ⟨by rw [e1]; exact hp, hS1, by rw [e1]; exact hz⟩ hl (Nat.le_trans g1 m1) (Nat.le_trans g2 m2) g3 g4 kk
  have c1 : mm_N h1 - n0 = mm_N h - n0 + (mm_N h1 - mm_N h) := by omega
  have c2 : mm_S h1 - z0 = mm_S h - z0 + (mm_S h1 - mm_S h) := by omega
  rw [c1, c2] at K
  obtain ⟨t2, a1, b1⟩ := K T' rfl X'
  refine ⟨t2, stp t2 ?_, b1⟩
  have es : (v1.map (cv G)).toList ++ rest.map (cv G) = (v1.toList ++ rest).map (cv G) := by cases v1 <;> rfl
  show Steps _ _ _ (T'.setTop { (F0 m pc ls st0) with pc := pc + 3, stack := (v1.map (cv G)).toList ++ rest.map (cv G) }) t2
  rw [es, hnx]
  exact a1
def CallOk (M N : MD) (np : Nat) : Prop := MOk N ∧ (parseMethodDescriptor (md_y N).desc).map (fun d => d.parameters.length) = some np
def LV (M : MD) (idx : Nat) (N : MD) (ci np : Nat) : Prop := CallOk M N np ∧ ci < 11 ∧ mm_C ci = (md_y N).cls ∧ Cond.methodLink (md_o M) idx (md_y N) ∈ gtb ∧ Cond.instanceMethod (md_y N) ∈ gtb ∧ Cond.selects (md_y N).cls (md_y N) (md_y N) ∈ gtb
def LS2 (M : MD) (idx : Nat) (N : MD) (np : Nat) : Prop := CallOk M N np ∧ Cond.static (md_y N) ∈ gtb ∧ (Cond.methodLink (md_o M) idx (md_y N) ∈ gtb ∨ ∃ host, Cond.methodLinkNest (md_o M) idx (md_y N) host ∈ lw_tbl)
def LI (M : MD) (idx : Nat) (N : MD) (np : Nat) : Prop := CallOk M N np ∧ md_r N = none ∧ (md_y N).name = "<init>" ∧ Cond.instanceMethod (md_y N) ∈ gtb ∧ (Cond.methodLink (md_o M) idx (md_y N) ∈ gtb ∨ ∃ host, Cond.methodLinkNest (md_o M) idx (md_y N) host ∈ lw_tbl)
theorem cc_room {R : Room} {hN : MOk N} (hd : d ≤ R.frames ∧ 40 * d ≤ R.locals) (h2 : d2 + 1 ≤ d) : (cc_R d2 h h1).frames + 1 ≤ R.frames ∧ 8 + (md_l N + 11) + (cc_R d2 h h1).locals ≤ R.locals := by
  have hml := hN.2.2.2.2.2.1
  refine ⟨Nat.le_trans h2 hd.1, ?_⟩
  have : (cc_R d2 h h1).locals = 40 * d2 := rfl
  omega
theorem ev_callV {idx ci np a : Nat} {st : List Value} (hd : IX (md_c M) pc (.invokevirtual idx) 3 nx) (L : LV M idx N ci np) (As : List Value) (hst : st = As.reverse ++ .ref a :: rest) (hnp : As.length = np) (hl2 : np + 1 ≤ md_l N) (ha : a < mm_N h) (hk : mm_K h a = ci) (hrest : rest.length ≤ 8) (hdd : d2 + 1 ≤ d)
    (E : Ev G d2 N 0 (ent N (.ref a :: As)) [] h v1 h1) (k : Ev G d M nx lc (v1.toList ++ rest) h1 v h') : Ev G d M pc lc st h v h' := by
  refine ⟨⟨Nat.le_trans E.1.1 k.1.1, Nat.le_trans E.1.2 k.1.2⟩, fun p e R s m args below meth c Q H locs ls n0 z0 C w hl g1 g2 g3 g4 kk => ?_⟩
  obtain ⟨⟨hN, hnd⟩, hc, hcn, w1, w2, w3⟩ := L
  have m1 := E.1.1
  have m2 := E.1.2
  have m3 := k.1.1
  have m4 := k.1.2
  have hM := ev_met (vs := .ref a :: As) hN (by simp; omega) E
  have he : (mm_w (gg_t G) (gg_b G) h)[a]? = some (gg_b G + a, .inr (ci, mm_f (gg_b G) h a)) := by rw [mm_w_at ha, mm_e_obj hk hc]
  have cb : CallB R s args (md_o M) idx (md_y N) (md_c N) (md_l N) (md_r N) (md_ws N) (cc_R d2 h h1) (mm_N h1 - mm_N h) (mm_S h1 - mm_S h) np :=
    callB_of np C.2.2.2.2.1 (gt_in (md_good hN)) rfl rfl rfl (C.2.2.2.2.1 _ hN.2.2.1) (C.2.2.2.2.1 _ w1) ⟨hN.2.2.2.2.2.2.1.1, hN.2.2.2.2.2.2.1.2, hnd⟩ (cc_room (hN := hN) C.2.2.2.2.2.2.2.2.2.1 hdd)
  have hrecv := va_recv C.2.2.2.2.2.2.1 w.1 (mm_cl hc) he
  refine ev_after C w hl g1 g2 g3 g4 kk m1 m2 hd.2 k (va_runV (C := (md_y N).cls) (b := gg_b G + a) (As := As.map (cv G)) (rest := rest.map (cv G)) ⟨C.1, C.2.1, C.2.2.1, C.2.2.2.1, C.2.2.2.2.1⟩ hM ⟨cb, C.2.2.2.2.1 _ w2, C.2.2.2.2.1 _ w3⟩ ⟨cc_blind, by rw [← hcn]; exact hrecv, fun U hU hW => ⟨rfl, by rw [hU]; exact w.2.2, by rw [hU]; exact w.1, va_K.moved hW.alike C.2.2.2.2.2.2.1, C.2.2.2.2.2.1.warm hW⟩⟩ rfl (by rw [List.length_map]; exact hnp) hl.1 ?_ (lv_room (by rw [cv_sum]; exact hrest)) hd.1 ⟨by omega, by omega⟩)
  rw [hst]
  simp [cv]
theorem ev_callS {idx np : Nat} {st : List Value} (hd : IX (md_c M) pc (.invokestatic idx) 3 nx) (L : LS2 M idx N np) (As : List Value) (hst : st = As.reverse ++ rest) (hnp : As.length = np) (hl2 : np ≤ md_l N) (hrest : rest.length ≤ 8) (hdd : d2 + 1 ≤ d)
    (E : Ev G d2 N 0 (ent N As) [] h v1 h1) (k : Ev G d M nx lc (v1.toList ++ rest) h1 v h') : Ev G d M pc lc st h v h' := by
  refine ⟨⟨Nat.le_trans E.1.1 k.1.1, Nat.le_trans E.1.2 k.1.2⟩, fun p e R s m args below meth c Q H locs ls n0 z0 C w hl g1 g2 g3 g4 kk => ?_⟩
  obtain ⟨⟨hN, hnd⟩, w2, w1⟩ := L
  have m1 := E.1.1
  have m2 := E.1.2
  have m3 := k.1.1
  have m4 := k.1.2
  have hM := ev_met (vs := As) hN (by omega) E
  have hpre : PreS s H (cc_P G As h) (As.map (cv G)) := ⟨cc_blind, fun U hU hW => ⟨rfl, by rw [hU]; exact w.2.2, by rw [hU]; exact w.1, va_K.moved hW.alike C.2.2.2.2.2.2.1, C.2.2.2.2.2.1.warm hW⟩⟩
  have hst2 : (st.map (cv G)) = (As.map (cv G)).reverse ++ rest.map (cv G) := by rw [hst]; simp
  rcases w1 with w1 | ⟨host, w1⟩
  · have cb : CallB R s args (md_o M) idx (md_y N) (md_c N) (md_l N) (md_r N) (md_ws N) (cc_R d2 h h1) (mm_N h1 - mm_N h) (mm_S h1 - mm_S h) np :=
      callB_of np C.2.2.2.2.1 (gt_in (md_good hN)) rfl rfl rfl (C.2.2.2.2.1 _ hN.2.2.1) (C.2.2.2.2.1 _ w1) ⟨hN.2.2.2.2.2.2.1.1, hN.2.2.2.2.2.2.1.2, hnd⟩ (cc_room (hN := hN) C.2.2.2.2.2.2.2.2.2.1 hdd)
    exact ev_after C w hl g1 g2 g3 g4 kk m1 m2 hd.2 k (va_runS (As := As.map (cv G)) (rest := rest.map (cv G)) ⟨C.1, C.2.1, C.2.2.1, C.2.2.2.1, C.2.2.2.2.1⟩ hM ⟨cb, C.2.2.2.2.1 _ w2⟩ hpre rfl (by rw [List.length_map]; exact hnp) hl.1 hst2 (lv_room (by rw [cv_sum]; exact hrest)) hd.1 ⟨by omega, by omega⟩)
  · have cb : va_CN R s args (md_o M) idx (md_y N) host (md_c N) (md_l N) (md_r N) (md_ws N) (cc_R d2 h h1) (mm_N h1 - mm_N h) (mm_S h1 - mm_S h) np :=
      va_cnB np C.2.2.2.2.1 (gt_in (md_good hN)) rfl rfl rfl (C.2.2.2.2.2.1 _ w1 rfl) (C.2.2.2.2.1 _ hN.2.2.1) ⟨hN.2.2.2.2.2.2.1.1, hN.2.2.2.2.2.2.1.2, hnd⟩ (cc_room (hN := hN) C.2.2.2.2.2.2.2.2.2.1 hdd)
    exact ev_after C w hl g1 g2 g3 g4 kk m1 m2 hd.2 k (va_runSN (As := As.map (cv G)) (rest := rest.map (cv G)) ⟨C.1, C.2.1, C.2.2.1, C.2.2.2.1, C.2.2.2.2.1⟩ hM ⟨cb, C.2.2.2.2.1 _ w2, trivial⟩ hpre rfl (by rw [List.length_map]; exact hnp) hl.1 hst2 (lv_room (by rw [cv_sum]; exact hrest)) hd.1 ⟨by omega, by omega⟩)
theorem ev_callI {idx np a : Nat} {st : List Value} (hd : IX (md_c M) pc (.invokespecial idx) 3 nx) (L : LI M idx N np) (As : List Value) (hst : st = As.reverse ++ .ref a :: rest) (hnp : As.length = np) (hl2 : np + 1 ≤ md_l N) (hrest : rest.length ≤ 8) (hdd : d2 + 1 ≤ d)
    (E : Ev G d2 N 0 (ent N (.ref a :: As)) [] h v1 h1) (k : Ev G d M nx lc (v1.toList ++ rest) h1 v h') : Ev G d M pc lc st h v h' := by
  refine ⟨⟨Nat.le_trans E.1.1 k.1.1, Nat.le_trans E.1.2 k.1.2⟩, fun p e R s m args below meth c Q H locs ls n0 z0 C w hl g1 g2 g3 g4 kk => ?_⟩
  obtain ⟨⟨hN, hnd⟩, hrn, hin, w2, w1⟩ := L
  have m1 := E.1.1
  have m2 := E.1.2
  have m3 := k.1.1
  have m4 := k.1.2
  have hM := ev_met (vs := .ref a :: As) hN (by simp; omega) E
  have hpre : PreS s H (cc_P G (.ref a :: As) h) (.ref (gg_b G + a) :: As.map (cv G)) := ⟨cc_blind, fun U hU hW => ⟨rfl, by rw [hU]; exact w.2.2, by rw [hU]; exact w.1, va_K.moved hW.alike C.2.2.2.2.2.2.1, C.2.2.2.2.2.1.warm hW⟩⟩
  have hst2 : (st.map (cv G)) = (As.map (cv G)).reverse ++ .ref (gg_b G + a) :: rest.map (cv G) := by rw [hst]; simp [cv]
  rcases w1 with w1 | ⟨host, w1⟩
  · have cb : CallB R s args (md_o M) idx (md_y N) (md_c N) (md_l N) (md_r N) (md_ws N) (cc_R d2 h h1) (mm_N h1 - mm_N h) (mm_S h1 - mm_S h) np :=
      callB_of np C.2.2.2.2.1 (gt_in (md_good hN)) rfl rfl rfl (C.2.2.2.2.1 _ hN.2.2.1) (C.2.2.2.2.1 _ w1) ⟨hN.2.2.2.2.2.2.1.1, hN.2.2.2.2.2.2.1.2, hnd⟩ (cc_room (hN := hN) C.2.2.2.2.2.2.2.2.2.1 hdd)
    rw [hrn] at cb
    exact ev_after C w hl g1 g2 g3 g4 kk m1 m2 hd.2 k (va_runI (b := gg_b G + a) (As := As.map (cv G)) (rest := rest.map (cv G)) ⟨C.1, C.2.1, C.2.2.1, C.2.2.2.1, C.2.2.2.2.1⟩ hM ⟨cb, hin, C.2.2.2.2.1 _ w2⟩ hpre rfl (by rw [List.length_map]; exact hnp) hl.1 hst2 (lv_room (by rw [cv_sum]; exact hrest)) hd.1 ⟨by omega, by omega⟩)
  · have cb : va_CN R s args (md_o M) idx (md_y N) host (md_c N) (md_l N) (md_r N) (md_ws N) (cc_R d2 h h1) (mm_N h1 - mm_N h) (mm_S h1 - mm_S h) np :=
      va_cnB np C.2.2.2.2.1 (gt_in (md_good hN)) rfl rfl rfl (C.2.2.2.2.2.1 _ w1 rfl) (C.2.2.2.2.1 _ hN.2.2.1) ⟨hN.2.2.2.2.2.2.1.1, hN.2.2.2.2.2.2.1.2, hnd⟩ (cc_room (hN := hN) C.2.2.2.2.2.2.2.2.2.1 hdd)
    rw [hrn] at cb
    exact ev_after C w hl g1 g2 g3 g4 kk m1 m2 hd.2 k (va_runIN (b := gg_b G + a) (As := As.map (cv G)) (rest := rest.map (cv G)) ⟨C.1, C.2.1, C.2.2.1, C.2.2.2.1, C.2.2.2.2.1⟩ hM ⟨cb, hin, C.2.2.2.2.1 _ w2⟩ hpre rfl (by rw [List.length_map]; exact hnp) hl.1 hst2 (lv_room (by rw [cv_sum]; exact hrest)) hd.1 ⟨by omega, by omega⟩)
/-- Object's own constructor -/
theorem ev_objI {idx a : Nat} (hd : IX (md_c M) pc (.invokespecial idx) 3 nx) (w1 : Cond.methodLink (md_o M) idx objectInit ∈ gtb) (w2 : Cond.instanceMethod objectInit ∈ gtb) (w3 : Cond.code objectInit ⟨#[0xb1]⟩ 1 none ∈ gtb) (hrest : rest.length ≤ 8) (hdd : 1 ≤ d) (k : Ev G d M nx lc rest h v h') : Ev G d M pc lc (.ref a :: rest) h v h' := by
  refine ⟨k.1, fun p e R s m args below meth c Q H locs ls n0 z0 C w hl g1 g2 g3 g4 kk => ?_⟩
  have K := k.2 p e R s m args below meth c Q H locs ls n0 z0 C w hl g1 g2 g3 g4 kk
  rw [← hd.2] at K
  have hR := C.2.2.2.2.2.2.2.2.2.1
  refine W.objInit C.1 C.2.1 C.2.2.2.1 (C.2.2.2.2.1 _ w1) (C.2.2.2.2.1 _ w2) (C.2.2.2.2.1 _ w3) rfl (by rw [C.2.2.1]; exact hl.1) rfl hd.1 (by omega) ?_ K
  have := lv_room (m := m) (pc := pc) (ls := ls) (rest := (.ref a :: rest).map (cv G)) (st := rest.map (cv G)) (by rw [cv_sum]; exact hrest)
  omega
end
end
section
/-! ===== the small machine's steps as functions that may fail, and their rows ===== -/
def gI (h : MH) (a ci k : Nat) : Option Int32 := if a < mm_N h ∧ mm_K h a = ci then some (mm_I h a k) else none
def gR (h : MH) (a ci k : Nat) : Option Nat := if a < mm_N h ∧ mm_K h a = ci then mm_R h a k else none
def pI (h : MH) (a ci k : Nat) (x : Int32) : Option MH := if a < mm_N h ∧ mm_K h a = ci then some (mm_si h a k x) else none
def pZ (h : MH) (a ci k : Nat) (x : Int32) : Option MH := if (x = 0 ∨ x = 1) ∧ a < mm_N h ∧ mm_K h a = ci then some (mm_si h a k x) else none
def pR (h : MH) (a ci k b : Nat) : Option MH := if a < mm_N h ∧ mm_K h a = ci then some (mm_sr h a k (some b)) else none
def inb (i : Int32) (n : Nat) : Prop := ¬ (i < 0 ∨ n ≤ i.toNatClampNeg)
def aI (h : MH) (a : Nat) (i : Int32) : Option Int32 := if (a < mm_N h ∧ mm_K h a = 11) ∧ ¬ (i < 0 ∨ mm_L h a ≤ i.toNatClampNeg) then some (mm_I h a i.toNatClampNeg) else none
def aZ (h : MH) (a : Nat) (i : Int32) : Option Int32 := if (a < mm_N h ∧ mm_K h a = 12) ∧ ¬ (i < 0 ∨ mm_L h a ≤ i.toNatClampNeg) then some (mm_I h a i.toNatClampNeg) else none
def aR (h : MH) (a : Nat) (i : Int32) : Option Nat := if (a < mm_N h ∧ (mm_K h a = 13 ∨ mm_K h a = 14 ∨ mm_K h a = 15)) ∧ ¬ (i < 0 ∨ mm_L h a ≤ i.toNatClampNeg) then mm_R h a i.toNatClampNeg else none
def sI (h : MH) (a : Nat) (i x : Int32) : Option MH := if (a < mm_N h ∧ mm_K h a = 11) ∧ ¬ (i < 0 ∨ mm_L h a ≤ i.toNatClampNeg) then some (mm_si h a i.toNatClampNeg x) else none
def sZ (h : MH) (a : Nat) (i x : Int32) : Option MH := if (x = 0 ∨ x = 1) ∧ (a < mm_N h ∧ mm_K h a = 12) ∧ ¬ (i < 0 ∨ mm_L h a ≤ i.toNatClampNeg) then some (mm_si h a i.toNatClampNeg x) else none
def sR (h : MH) (a : Nat) (i : Int32) (b : Nat) : Option MH := if (a < mm_N h ∧ b < mm_N h ∧ ((mm_K h a = 13 ∧ mm_K h b = 2) ∨ (mm_K h a = 14 ∧ mm_K h b = 5) ∨ (mm_K h a = 15 ∧ mm_K h b = 7))) ∧ ¬ (i < 0 ∨ mm_L h a ≤ i.toNatClampNeg) then some (mm_sr h a i.toNatClampNeg (some b)) else none
def aL (h : MH) (a : Nat) : Option Int32 := if a < mm_N h ∧ mm_K h a = 11 then some (Int32.ofNat (mm_L h a)) else none
def sX (L : Nat) (xs : Nat → Int32) (i : Int32) : Option Int32 := if ¬ (i < 0 ∨ L ≤ i.toNatClampNeg) then some (xs i.toNatClampNeg) else none
def zR (x : Int32) : Option Int32 := if x = 0 ∨ x = 1 then some x else none
def gK {α : Type} (h : MH) (a ci : Nat) (x : Option α) : Option α := if a < mm_N h ∧ mm_K h a = ci then x else none
theorem gK_of {α : Type} {h : MH} {a ci : Nat} {x : Option α} {r : α} (e : gK h a ci x = some r) : (a < mm_N h ∧ mm_K h a = ci) ∧ x = some r := by
  unfold gK at e
  split at e
  · rename_i q; exact ⟨q, e⟩
  · cases e
theorem ob {α β : Type} {x : Option α} {f : α → Option β} {r : β} (e : x.bind f = some r) : ∃ a, x = some a ∧ f a = some r := Option.bind_eq_some_iff.mp e
def fuel : Nat := 1000
theorem zR_of {x r : Int32} (e : zR x = some r) : (x = 0 ∨ x = 1) ∧ x = r := by
  unfold zR at e
  split at e
  · rename_i q; cases e; exact ⟨q, rfl⟩
  · cases e
theorem nr_z {x : Int32} (h : x = 0 ∨ x = 1) : narrow .boolean (.int x) = .int x := by rcases h with rfl | rfl <;> decide
section
variable {G : GG} {d : Nat} {M : MD} {pc nx : Nat} {lc : List (Option Value)} {st : List Value} {h : MH} {v : Option Value} {h' : MH}
theorem ev_gI {ci k a idx : Nat} {x : Int32} (hd : IX (md_c M) pc (.getfield idx) 3 nx) (hf : FL (md_o M) idx ci k) (hi : mm_ii ci k = true) (e : gI h a ci k = some x) (q : Ev G d M nx lc (.int x :: st) h v h') : Ev G d M pc lc (.ref a :: st) h v h' := by
  unfold gI at e
  split at e
  · rename_i c; cases e; exact ev_getI hd hf hi c.1 c.2 q
  · cases e
theorem ev_gR {ci k a b idx : Nat} (hd : IX (md_c M) pc (.getfield idx) 3 nx) (hf : FL (md_o M) idx ci k) (hi : mm_ii ci k = false) (e : gR h a ci k = some b) (q : Ev G d M nx lc (.ref b :: st) h v h') : Ev G d M pc lc (.ref a :: st) h v h' := by
  unfold gR at e
  split at e
  · rename_i c; exact ev_getR hd hf hi c.1 c.2 e q
  · cases e
theorem ev_pI {ci k a idx : Nat} {x : Int32} {h2 : MH} (hd : IX (md_c M) pc (.putfield idx) 3 nx) (hf : FP M idx ci k) (hi : mm_ty ci k = .int) (e : pI h a ci k x = some h2) (q : Ev G d M nx lc st h2 v h') : Ev G d M pc lc (.int x :: .ref a :: st) h v h' := by
  unfold pI at e
  split at e
  · rename_i c; cases e; exact ev_putI hd hf (Or.inl hi) c.1 c.2 q
  · cases e
theorem ev_pZ {ci k a idx : Nat} {x : Int32} {h2 : MH} (hd : IX (md_c M) pc (.putfield idx) 3 nx) (hf : FP M idx ci k) (hi : mm_ty ci k = .boolean) (e : pZ h a ci k x = some h2) (q : Ev G d M nx lc st h2 v h') : Ev G d M pc lc (.int x :: .ref a :: st) h v h' := by
  unfold pZ at e
  split at e
  · rename_i c; cases e; exact ev_putI hd hf (Or.inr ⟨hi, c.1⟩) c.2.1 c.2.2 q
  · cases e
theorem ev_pR {ci k a b idx : Nat} {h2 : MH} (hd : IX (md_c M) pc (.putfield idx) 3 nx) (hf : FP M idx ci k) (hi : mm_ii ci k = false) (e : pR h a ci k b = some h2) (q : Ev G d M nx lc st h2 v h') : Ev G d M pc lc (.ref b :: .ref a :: st) h v h' := by
  unfold pR at e
  split at e
  · rename_i c; cases e; exact ev_putR hd hf hi c.1 c.2 q
  · cases e
theorem ev_aI {a : Nat} {i x : Int32} (hd : IX (md_c M) pc .iaload 1 nx) (e : aI h a i = some x) (q : Ev G d M nx lc (.int x :: st) h v h') : Ev G d M pc lc (.int i :: .ref a :: st) h v h' := by
  unfold aI at e
  split at e
  · rename_i c; cases e; exact ev_iald hd c.1.1 c.1.2 c.2 q
  · cases e
theorem ev_aZ {a : Nat} {i x : Int32} (hd : IX (md_c M) pc .baload 1 nx) (e : aZ h a i = some x) (q : Ev G d M nx lc (.int x :: st) h v h') : Ev G d M pc lc (.int i :: .ref a :: st) h v h' := by
  unfold aZ at e
  split at e
  · rename_i c; cases e; exact ev_bald hd c.1.1 c.1.2 c.2 q
  · cases e
theorem ev_aR {a b : Nat} {i : Int32} (hd : IX (md_c M) pc .aaload 1 nx) (e : aR h a i = some b) (q : Ev G d M nx lc (.ref b :: st) h v h') : Ev G d M pc lc (.int i :: .ref a :: st) h v h' := by
  unfold aR at e
  split at e
  · rename_i c; exact ev_aald hd c.1.1 c.1.2 c.2 e q
  · cases e
theorem ev_sI {a : Nat} {i x : Int32} {h2 : MH} (hd : IX (md_c M) pc .iastore 1 nx) (e : sI h a i x = some h2) (q : Ev G d M nx lc st h2 v h') : Ev G d M pc lc (.int x :: .int i :: .ref a :: st) h v h' := by
  unfold sI at e
  split at e
  · rename_i c; cases e; exact ev_iast hd c.1.1 c.1.2 c.2 q
  · cases e
theorem ev_sZ {a : Nat} {i x : Int32} {h2 : MH} (hd : IX (md_c M) pc .bastore 1 nx) (e : sZ h a i x = some h2) (q : Ev G d M nx lc st h2 v h') : Ev G d M pc lc (.int x :: .int i :: .ref a :: st) h v h' := by
  unfold sZ at e
  split at e
  · rename_i c; cases e; exact ev_bast hd c.1 c.2.1.1 c.2.1.2 c.2.2 q
  · cases e
theorem ev_sR {a b : Nat} {i : Int32} {h2 : MH} (hd : IX (md_c M) pc .aastore 1 nx) (e : sR h a i b = some h2) (q : Ev G d M nx lc st h2 v h') : Ev G d M pc lc (.ref b :: .int i :: .ref a :: st) h v h' := by
  unfold sR at e
  split at e
  · rename_i c; cases e; exact ev_aast hd c.1.1 c.1.2.1 c.1.2.2 c.2 q
  · cases e
theorem ev_aL {a : Nat} {x : Int32} (hd : IX (md_c M) pc .arraylength 1 nx) (e : aL h a = some x) (q : Ev G d M nx lc (.int x :: st) h v h') : Ev G d M pc lc (.ref a :: st) h v h' := by
  unfold aL at e
  split at e
  · rename_i c; cases e; exact ev_alen hd c.1 c.2 q
  · cases e
theorem ev_sX {z : Int64} {i x : Int32} (hM : md_o M = RL) (hd : IX (md_c M) pc .iaload 1 nx) (e : sX (gg_L G) (gg_x G) i = some x) (q : Ev G d M nx lc (.int x :: st) h v h') : Ev G d M pc lc (.int i :: .long z :: st) h v h' := by
  unfold sX at e
  split at e
  · rename_i c; cases e; exact ev_sld hM hd c q
  · cases e
theorem ev_nA {kd : Nat} {at_ : ArrayType} {n : Int32} {N : Nat} (hd : IX (md_c M) pc (.newarray at_) 2 nx) (ht : (kd = 11 ∧ newarray.typeOf at_ = .int) ∨ (kd = 12 ∧ newarray.typeOf at_ = .boolean)) (hw : Cond.arrayClass (newarray.typeOf at_) ∈ gtb) (hn : ¬ n < 0) (hN : n.toNatClampNeg = N) (hs : N ≤ 100000) (q : Ev G d M nx lc (.ref (mm_N h) :: st) (mm_na h kd N) v h') : Ev G d M pc lc (.int n :: st) h v h' := by
  subst hN; exact ev_newa hd ht hw hn hs q
theorem ev_nAR {kd idx : Nat} {C0 : String} {n : Int32} {N : Nat} (hd : IX (md_c M) pc (.anewarray idx) 3 nx) (ht : (kd = 13 ∧ C0 = RX2) ∨ (kd = 14 ∧ C0 = RX5) ∨ (kd = 15 ∧ C0 = RX7)) (hw : Cond.classLink (md_o M) idx C0 ∈ gtb) (ho : Cond.arrayOver (.object C0) ∈ lw_tbl) (hn : ¬ n < 0) (hN : n.toNatClampNeg = N) (hs : N ≤ 100000) (q : Ev G d M nx lc (.ref (mm_N h) :: st) (mm_na h kd N) v h') : Ev G d M pc lc (.int n :: st) h v h' := by
  subst hN; exact ev_newr hd ht hw ho hn hs q
theorem ts_out {x : Int32} {n : Nat} (hn : n < 1000) (hc : ∀ k : Nat, k ≤ n → x ≠ Int32.ofNat k) : x.toInt < 0 ∨ (n : Int) < x.toInt := by
  by_cases h0 : x.toInt < 0
  · exact Or.inl h0
  · by_cases h1 : (n : Int) < x.toInt
    · exact Or.inr h1
    · exfalso
      have hk := hc x.toInt.toNat (by omega)
      apply hk
      apply Int32.toInt_inj.mp
      rw [Int32.toInt_ofNat_of_lt (by omega)]
      omega
theorem ev_ts {lo hi dflt : Int} {offs : Array Int} {len : Nat} {x : Int32} {tg : Nat} (kx : Int32) (off : Int) (hd : IX (md_c M) pc (.tableswitch dflt lo hi offs) len nx) (c : x = kx) (hq : ¬ kx.toInt < lo ∧ ¬ hi < kx.toInt ∧ offs[(kx.toInt - lo).toNat]? = some off ∧ (pc : Int) + off = (tg : Int)) (k : Ev G d M tg lc st h v h') : Ev G d M pc lc (.int x :: st) h v h' := by
  subst c
  exact ev_tsIn hd hq.1 hq.2.1 hq.2.2.1 hq.2.2.2 k
theorem ev_zret {x : Int32} (hd : IX (md_c M) pc .ireturn 1 nx) (hr : md_r M = some .boolean) (hz : x = 0 ∨ x = 1) : Ev G d M pc lc [.int x] h (some (.int x)) h := ev_iret hd hr (nr_z hz)
theorem ev_iiret {x : Int32} (hd : IX (md_c M) pc .ireturn 1 nx) (hr : md_r M = some .int) : Ev G d M pc lc [.int x] h (some (.int x)) h := ev_iret hd hr rfl
end
end
section
theorem tb (i : Nat) {w : Cond} (h : lw_tbl[i]? = some w) : w ∈ lw_tbl := List.mem_of_getElem? h
/-! ===== methods as data; the words of the tables that calls and fields need ===== -/
def M_X0_init : MD := (yX0_init, cX0_init, 4, none, RX0, true)
def M_X0_forget : MD := (yX0_forget, cX0_forget, 1, none, RX0, false)
def M_X0_dropWants : MD := (yX0_dropWants, cX0_dropWants, 1, none, RX0, false)
def M_X0_wantCount : MD := (yX0_wantCount, cX0_wantCount, 1, (some .int), RX0, false)
def M_X0_hasWant : MD := (yX0_hasWant, cX0_hasWant, 2, (some .boolean), RX0, false)
def M_X0_addWant : MD := (yX0_addWant, cX0_addWant, 2, none, RX0, false)
def M_X0_removeWant : MD := (yX0_removeWant, cX0_removeWant, 3, none, RX0, false)
def M_X0_needsHost : MD := (yX0_needsHost, cX0_needsHost, 3, (some .boolean), RX0, false)
def M_X0_leastBadMark : MD := (yX0_leastBadMark, cX0_leastBadMark, 5, (some .int), RX0, false)
def M_X0_isKept : MD := (yX0_isKept, cX0_isKept, 2, (some .boolean), RX0, false)
def M_X0_firstBroken : MD := (yX0_firstBroken, cX0_firstBroken, 3, (some .int), RX0, false)
def M_X0_countBroken : MD := (yX0_countBroken, cX0_countBroken, 7, (some .int), RX0, false)
def M_X0_findGood : MD := (yX0_findGood, cX0_findGood, 4, none, RX0, false)
def M_X0_isGood : MD := (yX0_isGood, cX0_isGood, 2, (some .boolean), RX0, false)
def M_X0_findKept : MD := (yX0_findKept, cX0_findKept, 2, none, RX0, false)
def M_X0_strikeNotGood : MD := (yX0_strikeNotGood, cX0_strikeNotGood, 4, none, RX0, false)
def M_X0_traceByBooks : MD := (yX0_traceByBooks, cX0_traceByBooks, 3, none, RX0, false)
def M_X1_init : MD := (yX1_init, cX1_init, 2, none, RX1, true)
def M_X1_reset : MD := (yX1_reset, cX1_reset, 3, none, RX1, false)
def M_X1_forget : MD := (yX1_forget, cX1_forget, 1, none, RX1, false)
def M_X1_switchCount : MD := (yX1_switchCount, cX1_switchCount, 1, (some .int), RX1, false)
def M_X1_hostCount : MD := (yX1_hostCount, cX1_hostCount, 1, (some .int), RX1, false)
def M_X1_linkCount : MD := (yX1_linkCount, cX1_linkCount, 1, (some .int), RX1, false)
def M_X1_hasSwitch : MD := (yX1_hasSwitch, cX1_hasSwitch, 2, (some .boolean), RX1, false)
def M_X1_hasPort : MD := (yX1_hasPort, cX1_hasPort, 3, (some .boolean), RX1, false)
def M_X1_hasHost : MD := (yX1_hasHost, cX1_hasHost, 2, (some .boolean), RX1, false)
def M_X1_hasMixture : MD := (yX1_hasMixture, cX1_hasMixture, 2, (some .boolean), RX1, false)
def M_X1_allNew : MD := (yX1_allNew, cX1_allNew, 1, (some .int), RX1, false)
def M_X1_isFree : MD := (yX1_isFree, cX1_isFree, 3, (some .boolean), RX1, false)
def M_X1_join : MD := (yX1_join, cX1_join, 5, none, RX1, false)
def M_X1_addHost : MD := (yX1_addHost, cX1_addHost, 3, (some .int), RX1, false)
def M_X1_switchOf : MD := (yX1_switchOf, cX1_switchOf, 2, (some .int), RX1, false)
def M_X1_hostAt : MD := (yX1_hostAt, cX1_hostAt, 3, (some .int), RX1, false)
def M_X1_clear : MD := (yX1_clear, cX1_clear, 4, none, RX1, false)
def M_X1_rowOf : MD := (yX1_rowOf, cX1_rowOf, 3, (some (.object "RuleChangeDesk$Row")), RX1, false)
def M_X1_ruleCount : MD := (yX1_ruleCount, cX1_ruleCount, 3, (some .int), RX1, false)
def M_X1_unlike : MD := (yX1_unlike, cX1_unlike, 3, (some .int), RX1, false)
def M_X1_classOf : MD := (yX1_classOf, cX1_classOf, 2, (some .int), RX1, false)
def M_X1_classCount : MD := (yX1_classCount, cX1_classCount, 1, (some .int), RX1, false)
def M_X1_findClasses : MD := (yX1_findClasses, cX1_findClasses, 3, none, RX1, false)
def M_X1_leastAlike : MD := (yX1_leastAlike, cX1_leastAlike, 3, (some .int), RX1, false)
def M_X1_isSeparated : MD := (yX1_isSeparated, cX1_isSeparated, 4, (some .boolean), RX1, false)
def M_X1_trace : MD := (yX1_trace, cX1_trace, 6, none, RX1, false)
def M_X1_whereTo : MD := (yX1_whereTo, cX1_whereTo, 7, (some .int), RX1, false)
def M_X2_init : MD := (yX2_init, cX2_init, 1, none, RX2, true)
def M_X2_putInAt : MD := (yX2_putInAt, cX2_putInAt, 4, none, RX2, false)
def M_X2_isUnderWay : MD := (yX2_isUnderWay, cX2_isUnderWay, 1, (some .boolean), RX2, false)
def M_X2_place : MD := (yX2_place, cX2_place, 1, (some .int), RX2, false)
def M_X2_end : MD := (yX2_end, cX2_end, 1, (some .int), RX2, false)
def M_X2_tell : MD := (yX2_tell, cX2_tell, 2, (some .int), RX2, false)
def M_X3_init : MD := (yX3_init, cX3_init, 1, none, RX3, true)
def M_X3_clear : MD := (yX3_clear, cX3_clear, 1, none, RX3, false)
def M_X3_add : MD := (yX3_add, cX3_add, 2, none, RX3, false)
def M_X3_size : MD := (yX3_size, cX3_size, 1, (some .int), RX3, false)
def M_X3_has : MD := (yX3_has, cX3_has, 2, (some .boolean), RX3, false)
def M_X3_get : MD := (yX3_get, cX3_get, 2, (some .int), RX3, false)
def M_X3_members : MD := (yX3_members, cX3_members, 1, (some .int), RX3, false)
def M_X3_membersAhead : MD := (yX3_membersAhead, cX3_membersAhead, 4, (some .int), RX3, false)
def M_X4_init : MD := (yX4_init, cX4_init, 3, none, RX4, true)
def M_X4_countGood : MD := (yX4_countGood, cX4_countGood, 3, (some .int), RX4, false)
def M_X4_whyNotTaken : MD := (yX4_whyNotTaken, cX4_whyNotTaken, 3, (some .int), RX4, false)
def M_X4_makeLeast : MD := (yX4_makeLeast, cX4_makeLeast, 6, (some .boolean), RX4, false)
def M_X4_countOrders : MD := (yX4_countOrders, cX4_countOrders, 1, (some .int), RX4, false)
def M_X4_makeOrder : MD := (yX4_makeOrder, cX4_makeOrder, 8, (some .boolean), RX4, false)
def M_X4_findOrderings : MD := (yX4_findOrderings, cX4_findOrderings, 3, (some .int), RX4, false)
def M_X4_leastNotGood : MD := (yX4_leastNotGood, cX4_leastNotGood, 4, (some .int), RX4, false)
def M_X4_fewestFrom : MD := (yX4_fewestFrom, cX4_fewestFrom, 5, (some .int), RX4, false)
def M_X4_leastRound : MD := (yX4_leastRound, cX4_leastRound, 4, (some .int), RX4, false)
def M_X4_orderingsFrom : MD := (yX4_orderingsFrom, cX4_orderingsFrom, 5, (some .int), RX4, false)
def M_X4_orderingsBy : MD := (yX4_orderingsBy, cX4_orderingsBy, 5, (some .int), RX4, false)
def M_X5_init : MD := (yX5_init, cX5_init, 1, none, RX5, true)
def M_X5_size : MD := (yX5_size, cX5_size, 1, (some .int), RX5, false)
def M_X5_clear : MD := (yX5_clear, cX5_clear, 1, none, RX5, false)
def M_X5_add : MD := (yX5_add, cX5_add, 5, none, RX5, false)
def M_X5_remove : MD := (yX5_remove, cX5_remove, 3, none, RX5, false)
def M_X5_becomeLike : MD := (yX5_becomeLike, cX5_becomeLike, 3, none, RX5, false)
def M_X5_isLike : MD := (yX5_isLike, cX5_isLike, 3, (some .boolean), RX5, false)
def M_X5_separates : MD := (yX5_separates, cX5_separates, 4, (some .boolean), RX5, false)
def M_X5_put : MD := (yX5_put, cX5_put, 6, none, RX5, false)
def M_X5_findActs : MD := (yX5_findActs, cX5_findActs, 5, none, RX5, false)
def M_X6_init : MD := (yX6_init, cX6_init, 5, none, RX6, true)
def M_X6_start : MD := (yX6_start, cX6_start, 1, none, RX6, false)
def M_X6_stop : MD := (yX6_stop, cX6_stop, 1, none, RX6, false)
def M_X6_isLive : MD := (yX6_isLive, cX6_isLive, 1, (some .boolean), RX6, false)
def M_X6_packetCount : MD := (yX6_packetCount, cX6_packetCount, 1, (some .int), RX6, false)
def M_X6_packetOf : MD := (yX6_packetOf, cX6_packetOf, 2, (some (.object "RuleChangeDesk$Packet")), RX6, false)
def M_X6_putIn : MD := (yX6_putIn, cX6_putIn, 3, (some .int), RX6, false)
def M_X6_moveOn : MD := (yX6_moveOn, cX6_moveOn, 2, none, RX6, false)
def M_X6_takeNew : MD := (yX6_takeNew, cX6_takeNew, 2, (some .int), RX6, false)
def M_X6_nextRound : MD := (yX6_nextRound, cX6_nextRound, 1, (some .int), RX6, false)
def M_X6_tell : MD := (yX6_tell, cX6_tell, 2, (some .int), RX6, false)
def M_X6_left : MD := (yX6_left, cX6_left, 1, (some .int), RX6, false)
def M_X7_init : MD := (yX7_init, cX7_init, 7, none, RX7, true)
def M_X7_needsHost : MD := (yX7_needsHost, cX7_needsHost, 2, (some .boolean), RX7, false)
def M_X7_hasMark : MD := (yX7_hasMark, cX7_hasMark, 2, (some .boolean), RX7, false)
def M_X7_isMet : MD := (yX7_isMet, cX7_isMet, 4, (some .boolean), RX7, false)
def M_X8_init : MD := (yX8_init, cX8_init, 1, none, RX8, true)
def M_X8_startAt : MD := (yX8_startAt, cX8_startAt, 2, none, RX8, false)
def M_X8_goOn : MD := (yX8_goOn, cX8_goOn, 2, none, RX8, false)
def M_X8_length : MD := (yX8_length, cX8_length, 1, (some .int), RX8, false)
def M_X8_end : MD := (yX8_end, cX8_end, 1, (some .int), RX8, false)
def M_X8_stop : MD := (yX8_stop, cX8_stop, 2, (some .int), RX8, false)
def M_X8_last : MD := (yX8_last, cX8_last, 1, (some .int), RX8, false)
def M_X8_passes : MD := (yX8_passes, cX8_passes, 2, (some .boolean), RX8, false)
def M_X8_isLike : MD := (yX8_isLike, cX8_isLike, 3, (some .boolean), RX8, false)
def M_X9_init : MD := (yX9_init, cX9_init, 1, none, RX9, true)
def M_X9_net : MD := (yX9_net, cX9_net, 2, (some .boolean), RX9, false)
def M_X9_link : MD := (yX9_link, cX9_link, 5, (some .boolean), RX9, false)
def M_X9_host : MD := (yX9_host, cX9_host, 4, (some .int), RX9, false)
def M_X9_unplug : MD := (yX9_unplug, cX9_unplug, 4, (some .boolean), RX9, false)
def M_X9_rule : MD := (yX9_rule, cX9_rule, 8, (some .int), RX9, false)
def M_X9_strike : MD := (yX9_strike, cX9_strike, 5, (some .int), RX9, false)
def M_X9_copy : MD := (yX9_copy, cX9_copy, 5, (some .int), RX9, false)
def M_X9_want : MD := (yX9_want, cX9_want, 7, (some .int), RX9, false)
def M_X9_unwant : MD := (yX9_unwant, cX9_unwant, 2, (some .int), RX9, false)
def M_X9_look : MD := (yX9_look, cX9_look, 2, (some .int), RX9, false)
def M_X9_ofClass : MD := (yX9_ofClass, cX9_ofClass, 2, (some .int), RX9, false)
def M_X9_way : MD := (yX9_way, cX9_way, 4, (some .int), RX9, false)
def M_X9_on : MD := (yX9_on, cX9_on, 2, (some .int), RX9, false)
def M_X9_holds : MD := (yX9_holds, cX9_holds, 3, (some .int), RX9, false)
def M_X9_kept : MD := (yX9_kept, cX9_kept, 2, (some .int), RX9, false)
def M_X9_why : MD := (yX9_why, cX9_why, 4, (some .int), RX9, false)
def M_X9_least : MD := (yX9_least, cX9_least, 1, (some .int), RX9, false)
def M_X9_orders : MD := (yX9_orders, cX9_orders, 1, (some .int), RX9, false)
def M_X9_order : MD := (yX9_order, cX9_order, 2, (some .boolean), RX9, false)
def M_X9_round : MD := (yX9_round, cX9_round, 3, (some .int), RX9, false)
def M_X9_empty : MD := (yX9_empty, cX9_empty, 1, none, RX9, false)
def M_X9_plan : MD := (yX9_plan, cX9_plan, 2, (some .int), RX9, false)
def M_X9_mid : MD := (yX9_mid, cX9_mid, 2, (some .int), RX9, false)
def M_X9_begin : MD := (yX9_begin, cX9_begin, 1, (some .boolean), RX9, false)
def M_X9_send : MD := (yX9_send, cX9_send, 3, (some .int), RX9, false)
def M_X9_hop : MD := (yX9_hop, cX9_hop, 3, (some .int), RX9, false)
def M_X9_change : MD := (yX9_change, cX9_change, 2, (some .int), RX9, false)
def M_X9_next : MD := (yX9_next, cX9_next, 1, (some .int), RX9, false)
def M_X9_run : MD := (yX9_run, cX9_run, 2, (some .int), RX9, false)
def M_X9_packet : MD := (yX9_packet, cX9_packet, 4, (some .int), RX9, false)
def M_X9_startAfresh : MD := (yX9_startAfresh, cX9_startAfresh, 1, none, RX9, false)
def M_X9_isMark : MD := (yX9_isMark, cX9_isMark, 1, (some .boolean), RX9, false)
def M_X9_isSpan : MD := (yX9_isSpan, cX9_isSpan, 2, (some .boolean), RX9, false)
def M_X9_spanHas : MD := (yX9_spanHas, cX9_spanHas, 3, (some .boolean), RX9, false)
def M_X9_hasTarget : MD := (yX9_hasTarget, cX9_hasTarget, 1, (some .boolean), RX9, false)
def M_X9_isWithin : MD := (yX9_isWithin, cX9_isWithin, 2, (some .boolean), RX9, false)
def M_X10_init : MD := (yX10_init, cX10_init, 1, none, RX10, true)
def M_X10_isIn : MD := (yX10_isIn, cX10_isIn, 3, (some .boolean), RX10, false)
def M_X10_clear : MD := (yX10_clear, cX10_clear, 3, none, RX10, false)
def M_X10_isPort : MD := (yX10_isPort, cX10_isPort, 3, (some .boolean), RX10, false)
def M_X10_isSpan : MD := (yX10_isSpan, cX10_isSpan, 3, (some .boolean), RX10, false)
def M_X10_net : MD := (yX10_net, cX10_net, 2, (some .boolean), RX10, false)
def M_X10_link : MD := (yX10_link, cX10_link, 5, (some .boolean), RX10, false)
def M_X10_host : MD := (yX10_host, cX10_host, 3, (some .int), RX10, false)
def M_X10_isOf : MD := (yX10_isOf, cX10_isOf, 3, (some .boolean), RX10, false)
def M_X10_hasGoal : MD := (yX10_hasGoal, cX10_hasGoal, 1, (some .boolean), RX10, false)
def M_X10_unplug : MD := (yX10_unplug, cX10_unplug, 5, (some .boolean), RX10, false)
def M_X10_ruleAt : MD := (yX10_ruleAt, cX10_ruleAt, 4, (some .int), RX10, false)
def M_X10_rule : MD := (yX10_rule, cX10_rule, 9, (some .int), RX10, false)
def M_X10_strike : MD := (yX10_strike, cX10_strike, 5, (some .int), RX10, false)
def M_X10_copy : MD := (yX10_copy, cX10_copy, 6, (some .int), RX10, false)
def M_X10_want : MD := (yX10_want, cX10_want, 8, (some .int), RX10, false)
def M_X10_unwant : MD := (yX10_unwant, cX10_unwant, 3, (some .int), RX10, false)
def M_X10_isOfSpan : MD := (yX10_isOfSpan, cX10_isOfSpan, 3, (some .boolean), RX10, false)
def M_X10_actOf : MD := (yX10_actOf, cX10_actOf, 8, (some .int), RX10, false)
def M_X10_goes : MD := (yX10_goes, cX10_goes, 6, (some .int), RX10, false)
def M_X10_walks : MD := (yX10_walks, cX10_walks, 7, none, RX10, false)
def M_X10_all : MD := (yX10_all, cX10_all, 1, (some .int), RX10, false)
def M_X10_isMixture : MD := (yX10_isMixture, cX10_isMixture, 2, (some .boolean), RX10, false)
def M_X10_way : MD := (yX10_way, cX10_way, 5, (some .int), RX10, false)
def M_X10_on : MD := (yX10_on, cX10_on, 2, (some .int), RX10, false)
def M_X10_isKept : MD := (yX10_isKept, cX10_isKept, 6, (some .boolean), RX10, false)
def M_X10_isWhole : MD := (yX10_isWhole, cX10_isWhole, 8, (some .boolean), RX10, false)
def M_X10_breaks : MD := (yX10_breaks, cX10_breaks, 4, (some .int), RX10, false)
def M_X10_isKeptOne : MD := (yX10_isKeptOne, cX10_isKeptOne, 2, (some .boolean), RX10, false)
def M_X10_holds : MD := (yX10_holds, cX10_holds, 3, (some .int), RX10, false)
def M_X10_kept : MD := (yX10_kept, cX10_kept, 2, (some .int), RX10, false)
def M_X10_why : MD := (yX10_why, cX10_why, 5, (some .int), RX10, false)
def M_X10_changed : MD := (yX10_changed, cX10_changed, 1, none, RX10, false)
def M_X10_learn : MD := (yX10_learn, cX10_learn, 2, none, RX10, false)
def M_X10_unlike : MD := (yX10_unlike, cX10_unlike, 5, (some .int), RX10, false)
def M_X10_classMany : MD := (yX10_classMany, cX10_classMany, 4, (some .int), RX10, false)
def M_X10_areAlike : MD := (yX10_areAlike, cX10_areAlike, 7, (some .boolean), RX10, false)
def M_X10_ofClass : MD := (yX10_ofClass, cX10_ofClass, 3, (some .int), RX10, false)
def M_X10_look : MD := (yX10_look, cX10_look, 4, (some .int), RX10, false)
def M_X10_planned : MD := (yX10_planned, cX10_planned, 4, (some .int), RX10, false)
def M_X10_against : MD := (yX10_against, cX10_against, 4, (some .int), RX10, false)
def M_X10_fewest : MD := (yX10_fewest, cX10_fewest, 4, none, RX10, false)
def M_X10_least : MD := (yX10_least, cX10_least, 4, (some .int), RX10, false)
def M_X10_ways : MD := (yX10_ways, cX10_ways, 5, none, RX10, false)
def M_X10_orders : MD := (yX10_orders, cX10_orders, 1, (some .int), RX10, false)
def M_X10_order : MD := (yX10_order, cX10_order, 8, (some .boolean), RX10, false)
def M_X10_round : MD := (yX10_round, cX10_round, 2, (some .int), RX10, false)
def M_X10_empty : MD := (yX10_empty, cX10_empty, 1, none, RX10, false)
def M_X10_plan : MD := (yX10_plan, cX10_plan, 2, (some .int), RX10, false)
def M_X10_mid : MD := (yX10_mid, cX10_mid, 2, (some .int), RX10, false)
def M_X10_begin : MD := (yX10_begin, cX10_begin, 1, (some .boolean), RX10, false)
def M_X10_send : MD := (yX10_send, cX10_send, 4, (some .int), RX10, false)
def M_X10_isPacket : MD := (yX10_isPacket, cX10_isPacket, 2, (some .boolean), RX10, false)
def M_X10_hop : MD := (yX10_hop, cX10_hop, 7, (some .int), RX10, false)
def M_X10_left : MD := (yX10_left, cX10_left, 1, (some .int), RX10, false)
def M_X10_change : MD := (yX10_change, cX10_change, 4, (some .int), RX10, false)
def M_X10_underWay : MD := (yX10_underWay, cX10_underWay, 3, (some .int), RX10, false)
def M_X10_next : MD := (yX10_next, cX10_next, 1, (some .int), RX10, false)
def M_X10_run : MD := (yX10_run, cX10_run, 2, (some .int), RX10, false)
def M_X10_packet : MD := (yX10_packet, cX10_packet, 3, (some .int), RX10, false)
def M_J6_bitCount_0f7a4 : MD := (yJ6_bitCount_0f7a4, cJ6_bitCount_0f7a4, 1, (some .int), RJ6, false)
def M_J7_fill_53178 : MD := (yJ7_fill_53178, cJ7_fill_53178, 4, none, RJ7, false)
def M_L_law : MD := (yL_law, cL_law, 4, (some .boolean), RL, false)
theorem gi_X0 : Cond.initialized RX0 ∈ gtb := gt_mem (tb 47 (by decide +kernel)) rfl
theorem gi_X1 : Cond.initialized RX1 ∈ gtb := gt_mem (tb 44 (by decide +kernel)) rfl
theorem gi_X2 : Cond.initialized RX2 ∈ gtb := gt_mem (tb 53 (by decide +kernel)) rfl
theorem gi_X3 : Cond.initialized RX3 ∈ gtb := gt_mem (tb 50 (by decide +kernel)) rfl
theorem gi_X4 : Cond.initialized RX4 ∈ gtb := gt_mem (tb 51 (by decide +kernel)) rfl
theorem gi_X5 : Cond.initialized RX5 ∈ gtb := gt_mem (tb 46 (by decide +kernel)) rfl
theorem gi_X6 : Cond.initialized RX6 ∈ gtb := gt_mem (tb 52 (by decide +kernel)) rfl
theorem gi_X7 : Cond.initialized RX7 ∈ gtb := gt_mem (tb 49 (by decide +kernel)) rfl
theorem gi_X8 : Cond.initialized RX8 ∈ gtb := gt_mem (tb 48 (by decide +kernel)) rfl
theorem gi_X9 : Cond.initialized RX9 ∈ gtb := gt_mem (tb 43 (by decide +kernel)) rfl
theorem gi_X10 : Cond.initialized RX10 ∈ gtb := gt_mem (tb 54 (by decide +kernel)) rfl
theorem gi_J6 : Cond.initialized RJ6 ∈ gtb := gt_mem (tb 55 (by decide +kernel)) rfl
theorem gi_J7 : Cond.initialized RJ7 ∈ gtb := gt_mem (tb 45 (by decide +kernel)) rfl
theorem gc_X0_init : Cond.code yX0_init cX0_init 4 none ∈ gtb := gt_mem (tb 134 (by decide +kernel)) rfl
theorem mo_X0_init : MOk M_X0_init := ⟨rfl, gc_X0_init, gi_X0, rfl, by decide +kernel, by decide +kernel, by decide +kernel, by decide +kernel⟩
theorem gn_X0_init : Cond.instanceMethod yX0_init ∈ gtb := gt_mem (tb 133 (by decide +kernel)) rfl
theorem gc_X0_forget : Cond.code yX0_forget cX0_forget 1 none ∈ gtb := gt_mem (tb 360 (by decide +kernel)) rfl
theorem mo_X0_forget : MOk M_X0_forget := ⟨rfl, gc_X0_forget, gi_X0, rfl, by decide +kernel, by decide +kernel, by decide +kernel, by decide +kernel⟩
theorem gn_X0_forget : Cond.instanceMethod yX0_forget ∈ gtb := gt_mem (tb 358 (by decide +kernel)) rfl
theorem ge_X0_forget : Cond.selects RX0 yX0_forget yX0_forget ∈ gtb := gt_mem (tb 359 (by decide +kernel)) rfl
theorem gc_X0_dropWants : Cond.code yX0_dropWants cX0_dropWants 1 none ∈ gtb := gt_mem (tb 348 (by decide +kernel)) rfl
theorem mo_X0_dropWants : MOk M_X0_dropWants := ⟨rfl, gc_X0_dropWants, gi_X0, rfl, by decide +kernel, by decide +kernel, by decide +kernel, by decide +kernel⟩
theorem gn_X0_dropWants : Cond.instanceMethod yX0_dropWants ∈ gtb := gt_mem (tb 346 (by decide +kernel)) rfl
theorem ge_X0_dropWants : Cond.selects RX0 yX0_dropWants yX0_dropWants ∈ gtb := gt_mem (tb 347 (by decide +kernel)) rfl
theorem gc_X0_wantCount : Cond.code yX0_wantCount cX0_wantCount 1 (some .int) ∈ gtb := gt_mem (tb 478 (by decide +kernel)) rfl
theorem mo_X0_wantCount : MOk M_X0_wantCount := ⟨rfl, gc_X0_wantCount, gi_X0, rfl, by decide +kernel, by decide +kernel, by decide +kernel, by decide +kernel⟩
theorem gn_X0_wantCount : Cond.instanceMethod yX0_wantCount ∈ gtb := gt_mem (tb 476 (by decide +kernel)) rfl
theorem ge_X0_wantCount : Cond.selects RX0 yX0_wantCount yX0_wantCount ∈ gtb := gt_mem (tb 477 (by decide +kernel)) rfl
theorem gc_X0_hasWant : Cond.code yX0_hasWant cX0_hasWant 2 (some .boolean) ∈ gtb := gt_mem (tb 498 (by decide +kernel)) rfl
theorem mo_X0_hasWant : MOk M_X0_hasWant := ⟨rfl, gc_X0_hasWant, gi_X0, rfl, by decide +kernel, by decide +kernel, by decide +kernel, by decide +kernel⟩
theorem gn_X0_hasWant : Cond.instanceMethod yX0_hasWant ∈ gtb := gt_mem (tb 496 (by decide +kernel)) rfl
theorem ge_X0_hasWant : Cond.selects RX0 yX0_hasWant yX0_hasWant ∈ gtb := gt_mem (tb 497 (by decide +kernel)) rfl
theorem gc_X0_addWant : Cond.code yX0_addWant cX0_addWant 2 none ∈ gtb := gt_mem (tb 486 (by decide +kernel)) rfl
theorem mo_X0_addWant : MOk M_X0_addWant := ⟨rfl, gc_X0_addWant, gi_X0, rfl, by decide +kernel, by decide +kernel, by decide +kernel, by decide +kernel⟩
theorem gn_X0_addWant : Cond.instanceMethod yX0_addWant ∈ gtb := gt_mem (tb 484 (by decide +kernel)) rfl
theorem ge_X0_addWant : Cond.selects RX0 yX0_addWant yX0_addWant ∈ gtb := gt_mem (tb 485 (by decide +kernel)) rfl
theorem gc_X0_removeWant : Cond.code yX0_removeWant cX0_removeWant 3 none ∈ gtb := gt_mem (tb 494 (by decide +kernel)) rfl
theorem mo_X0_removeWant : MOk M_X0_removeWant := ⟨rfl, gc_X0_removeWant, gi_X0, rfl, by decide +kernel, by decide +kernel, by decide +kernel, by decide +kernel⟩
theorem gn_X0_removeWant : Cond.instanceMethod yX0_removeWant ∈ gtb := gt_mem (tb 492 (by decide +kernel)) rfl
theorem ge_X0_removeWant : Cond.selects RX0 yX0_removeWant yX0_removeWant ∈ gtb := gt_mem (tb 493 (by decide +kernel)) rfl
theorem gc_X0_needsHost : Cond.code yX0_needsHost cX0_needsHost 3 (some .boolean) ∈ gtb := gt_mem (tb 413 (by decide +kernel)) rfl
theorem mo_X0_needsHost : MOk M_X0_needsHost := ⟨rfl, gc_X0_needsHost, gi_X0, rfl, by decide +kernel, by decide +kernel, by decide +kernel, by decide +kernel⟩
theorem gn_X0_needsHost : Cond.instanceMethod yX0_needsHost ∈ gtb := gt_mem (tb 411 (by decide +kernel)) rfl
theorem ge_X0_needsHost : Cond.selects RX0 yX0_needsHost yX0_needsHost ∈ gtb := gt_mem (tb 412 (by decide +kernel)) rfl
theorem gc_X0_leastBadMark : Cond.code yX0_leastBadMark cX0_leastBadMark 5 (some .int) ∈ gtb := gt_mem (tb 559 (by decide +kernel)) rfl
theorem mo_X0_leastBadMark : MOk M_X0_leastBadMark := ⟨rfl, gc_X0_leastBadMark, gi_X0, rfl, by decide +kernel, by decide +kernel, by decide +kernel, by decide +kernel⟩
theorem gn_X0_leastBadMark : Cond.instanceMethod yX0_leastBadMark ∈ gtb := gt_mem (tb 557 (by decide +kernel)) rfl
theorem ge_X0_leastBadMark : Cond.selects RX0 yX0_leastBadMark yX0_leastBadMark ∈ gtb := gt_mem (tb 558 (by decide +kernel)) rfl
theorem gc_X0_isKept : Cond.code yX0_isKept cX0_isKept 2 (some .boolean) ∈ gtb := gt_mem (tb 683 (by decide +kernel)) rfl
theorem mo_X0_isKept : MOk M_X0_isKept := ⟨rfl, gc_X0_isKept, gi_X0, rfl, by decide +kernel, by decide +kernel, by decide +kernel, by decide +kernel⟩
theorem gn_X0_isKept : Cond.instanceMethod yX0_isKept ∈ gtb := gt_mem (tb 681 (by decide +kernel)) rfl
theorem ge_X0_isKept : Cond.selects RX0 yX0_isKept yX0_isKept ∈ gtb := gt_mem (tb 682 (by decide +kernel)) rfl
theorem gc_X0_firstBroken : Cond.code yX0_firstBroken cX0_firstBroken 3 (some .int) ∈ gtb := gt_mem (tb 691 (by decide +kernel)) rfl
theorem mo_X0_firstBroken : MOk M_X0_firstBroken := ⟨rfl, gc_X0_firstBroken, gi_X0, rfl, by decide +kernel, by decide +kernel, by decide +kernel, by decide +kernel⟩
theorem gn_X0_firstBroken : Cond.instanceMethod yX0_firstBroken ∈ gtb := gt_mem (tb 689 (by decide +kernel)) rfl
theorem ge_X0_firstBroken : Cond.selects RX0 yX0_firstBroken yX0_firstBroken ∈ gtb := gt_mem (tb 690 (by decide +kernel)) rfl
theorem gc_X0_countBroken : Cond.code yX0_countBroken cX0_countBroken 7 (some .int) ∈ gtb := gt_mem (tb 836 (by decide +kernel)) rfl
theorem mo_X0_countBroken : MOk M_X0_countBroken := ⟨rfl, gc_X0_countBroken, gi_X0, rfl, by decide +kernel, by decide +kernel, by decide +kernel, by decide +kernel⟩
theorem gn_X0_countBroken : Cond.instanceMethod yX0_countBroken ∈ gtb := gt_mem (tb 834 (by decide +kernel)) rfl
theorem ge_X0_countBroken : Cond.selects RX0 yX0_countBroken yX0_countBroken ∈ gtb := gt_mem (tb 835 (by decide +kernel)) rfl
theorem gc_X0_findGood : Cond.code yX0_findGood cX0_findGood 4 none ∈ gtb := gt_mem (tb 551 (by decide +kernel)) rfl
theorem mo_X0_findGood : MOk M_X0_findGood := ⟨rfl, gc_X0_findGood, gi_X0, rfl, by decide +kernel, by decide +kernel, by decide +kernel, by decide +kernel⟩
theorem gn_X0_findGood : Cond.instanceMethod yX0_findGood ∈ gtb := gt_mem (tb 549 (by decide +kernel)) rfl
theorem ge_X0_findGood : Cond.selects RX0 yX0_findGood yX0_findGood ∈ gtb := gt_mem (tb 550 (by decide +kernel)) rfl
theorem gc_X0_isGood : Cond.code yX0_isGood cX0_isGood 2 (some .boolean) ∈ gtb := gt_mem (tb 625 (by decide +kernel)) rfl
theorem mo_X0_isGood : MOk M_X0_isGood := ⟨rfl, gc_X0_isGood, gi_X0, rfl, by decide +kernel, by decide +kernel, by decide +kernel, by decide +kernel⟩
theorem gn_X0_isGood : Cond.instanceMethod yX0_isGood ∈ gtb := gt_mem (tb 623 (by decide +kernel)) rfl
theorem ge_X0_isGood : Cond.selects RX0 yX0_isGood yX0_isGood ∈ gtb := gt_mem (tb 624 (by decide +kernel)) rfl
theorem gc_X0_findKept : Cond.code yX0_findKept cX0_findKept 2 none ∈ gtb := gt_mem (tb 555 (by decide +kernel)) rfl
theorem mo_X0_findKept : MOk M_X0_findKept := ⟨rfl, gc_X0_findKept, gi_X0, rfl, by decide +kernel, by decide +kernel, by decide +kernel, by decide +kernel⟩
theorem gn_X0_findKept : Cond.instanceMethod yX0_findKept ∈ gtb := gt_mem (tb 554 (by decide +kernel)) rfl
theorem ge_X0_findKept : Cond.selects RX0 yX0_findKept yX0_findKept ∈ gtb := gt_mem (tb 6 (by decide +kernel)) rfl
theorem gc_X0_strikeNotGood : Cond.code yX0_strikeNotGood cX0_strikeNotGood 4 none ∈ gtb := gt_mem (tb 621 (by decide +kernel)) rfl
theorem mo_X0_strikeNotGood : MOk M_X0_strikeNotGood := ⟨rfl, gc_X0_strikeNotGood, gi_X0, rfl, by decide +kernel, by decide +kernel, by decide +kernel, by decide +kernel⟩
theorem gn_X0_strikeNotGood : Cond.instanceMethod yX0_strikeNotGood ∈ gtb := gt_mem (tb 620 (by decide +kernel)) rfl
theorem ge_X0_strikeNotGood : Cond.selects RX0 yX0_strikeNotGood yX0_strikeNotGood ∈ gtb := gt_mem (tb 8 (by decide +kernel)) rfl
theorem gc_X0_traceByBooks : Cond.code yX0_traceByBooks cX0_traceByBooks 3 none ∈ gtb := gt_mem (tb 568 (by decide +kernel)) rfl
theorem mo_X0_traceByBooks : MOk M_X0_traceByBooks := ⟨rfl, gc_X0_traceByBooks, gi_X0, rfl, by decide +kernel, by decide +kernel, by decide +kernel, by decide +kernel⟩
theorem gn_X0_traceByBooks : Cond.instanceMethod yX0_traceByBooks ∈ gtb := gt_mem (tb 567 (by decide +kernel)) rfl
theorem ge_X0_traceByBooks : Cond.selects RX0 yX0_traceByBooks yX0_traceByBooks ∈ gtb := gt_mem (tb 7 (by decide +kernel)) rfl
theorem gc_X1_init : Cond.code yX1_init cX1_init 2 none ∈ gtb := gt_mem (tb 68 (by decide +kernel)) rfl
theorem mo_X1_init : MOk M_X1_init := ⟨rfl, gc_X1_init, gi_X1, rfl, by decide +kernel, by decide +kernel, by decide +kernel, by decide +kernel⟩
theorem gn_X1_init : Cond.instanceMethod yX1_init ∈ gtb := gt_mem (tb 67 (by decide +kernel)) rfl
theorem gc_X1_reset : Cond.code yX1_reset cX1_reset 3 none ∈ gtb := gt_mem (tb 333 (by decide +kernel)) rfl
theorem mo_X1_reset : MOk M_X1_reset := ⟨rfl, gc_X1_reset, gi_X1, rfl, by decide +kernel, by decide +kernel, by decide +kernel, by decide +kernel⟩
theorem gn_X1_reset : Cond.instanceMethod yX1_reset ∈ gtb := gt_mem (tb 331 (by decide +kernel)) rfl
theorem ge_X1_reset : Cond.selects RX1 yX1_reset yX1_reset ∈ gtb := gt_mem (tb 332 (by decide +kernel)) rfl
theorem gc_X1_forget : Cond.code yX1_forget cX1_forget 1 none ∈ gtb := gt_mem (tb 356 (by decide +kernel)) rfl
theorem mo_X1_forget : MOk M_X1_forget := ⟨rfl, gc_X1_forget, gi_X1, rfl, by decide +kernel, by decide +kernel, by decide +kernel, by decide +kernel⟩
theorem gn_X1_forget : Cond.instanceMethod yX1_forget ∈ gtb := gt_mem (tb 354 (by decide +kernel)) rfl
theorem ge_X1_forget : Cond.selects RX1 yX1_forget yX1_forget ∈ gtb := gt_mem (tb 355 (by decide +kernel)) rfl
theorem gc_X1_switchCount : Cond.code yX1_switchCount cX1_switchCount 1 (some .int) ∈ gtb := gt_mem (tb 506 (by decide +kernel)) rfl
theorem mo_X1_switchCount : MOk M_X1_switchCount := ⟨rfl, gc_X1_switchCount, gi_X1, rfl, by decide +kernel, by decide +kernel, by decide +kernel, by decide +kernel⟩
theorem gn_X1_switchCount : Cond.instanceMethod yX1_switchCount ∈ gtb := gt_mem (tb 504 (by decide +kernel)) rfl
theorem ge_X1_switchCount : Cond.selects RX1 yX1_switchCount yX1_switchCount ∈ gtb := gt_mem (tb 505 (by decide +kernel)) rfl
theorem gc_X1_hostCount : Cond.code yX1_hostCount cX1_hostCount 1 (some .int) ∈ gtb := gt_mem (tb 396 (by decide +kernel)) rfl
theorem mo_X1_hostCount : MOk M_X1_hostCount := ⟨rfl, gc_X1_hostCount, gi_X1, rfl, by decide +kernel, by decide +kernel, by decide +kernel, by decide +kernel⟩
theorem gn_X1_hostCount : Cond.instanceMethod yX1_hostCount ∈ gtb := gt_mem (tb 394 (by decide +kernel)) rfl
theorem ge_X1_hostCount : Cond.selects RX1 yX1_hostCount yX1_hostCount ∈ gtb := gt_mem (tb 395 (by decide +kernel)) rfl
theorem gc_X1_linkCount : Cond.code yX1_linkCount cX1_linkCount 1 (some .int) ∈ gtb := gt_mem (tb 510 (by decide +kernel)) rfl
theorem mo_X1_linkCount : MOk M_X1_linkCount := ⟨rfl, gc_X1_linkCount, gi_X1, rfl, by decide +kernel, by decide +kernel, by decide +kernel, by decide +kernel⟩
theorem gn_X1_linkCount : Cond.instanceMethod yX1_linkCount ∈ gtb := gt_mem (tb 508 (by decide +kernel)) rfl
theorem ge_X1_linkCount : Cond.selects RX1 yX1_linkCount yX1_linkCount ∈ gtb := gt_mem (tb 509 (by decide +kernel)) rfl
theorem gc_X1_hasSwitch : Cond.code yX1_hasSwitch cX1_hasSwitch 2 (some .boolean) ∈ gtb := gt_mem (tb 384 (by decide +kernel)) rfl
theorem mo_X1_hasSwitch : MOk M_X1_hasSwitch := ⟨rfl, gc_X1_hasSwitch, gi_X1, rfl, by decide +kernel, by decide +kernel, by decide +kernel, by decide +kernel⟩
theorem gn_X1_hasSwitch : Cond.instanceMethod yX1_hasSwitch ∈ gtb := gt_mem (tb 382 (by decide +kernel)) rfl
theorem ge_X1_hasSwitch : Cond.selects RX1 yX1_hasSwitch yX1_hasSwitch ∈ gtb := gt_mem (tb 383 (by decide +kernel)) rfl
theorem gc_X1_hasPort : Cond.code yX1_hasPort cX1_hasPort 3 (some .boolean) ∈ gtb := gt_mem (tb 380 (by decide +kernel)) rfl
theorem mo_X1_hasPort : MOk M_X1_hasPort := ⟨rfl, gc_X1_hasPort, gi_X1, rfl, by decide +kernel, by decide +kernel, by decide +kernel, by decide +kernel⟩
theorem gn_X1_hasPort : Cond.instanceMethod yX1_hasPort ∈ gtb := gt_mem (tb 378 (by decide +kernel)) rfl
theorem ge_X1_hasPort : Cond.selects RX1 yX1_hasPort yX1_hasPort ∈ gtb := gt_mem (tb 379 (by decide +kernel)) rfl
theorem gc_X1_hasHost : Cond.code yX1_hasHost cX1_hasHost 2 (some .boolean) ∈ gtb := gt_mem (tb 474 (by decide +kernel)) rfl
theorem mo_X1_hasHost : MOk M_X1_hasHost := ⟨rfl, gc_X1_hasHost, gi_X1, rfl, by decide +kernel, by decide +kernel, by decide +kernel, by decide +kernel⟩
theorem gn_X1_hasHost : Cond.instanceMethod yX1_hasHost ∈ gtb := gt_mem (tb 472 (by decide +kernel)) rfl
theorem ge_X1_hasHost : Cond.selects RX1 yX1_hasHost yX1_hasHost ∈ gtb := gt_mem (tb 473 (by decide +kernel)) rfl
theorem gc_X1_hasMixture : Cond.code yX1_hasMixture cX1_hasMixture 2 (some .boolean) ∈ gtb := gt_mem (tb 654 (by decide +kernel)) rfl
theorem mo_X1_hasMixture : MOk M_X1_hasMixture := ⟨rfl, gc_X1_hasMixture, gi_X1, rfl, by decide +kernel, by decide +kernel, by decide +kernel, by decide +kernel⟩
theorem gn_X1_hasMixture : Cond.instanceMethod yX1_hasMixture ∈ gtb := gt_mem (tb 652 (by decide +kernel)) rfl
theorem ge_X1_hasMixture : Cond.selects RX1 yX1_hasMixture yX1_hasMixture ∈ gtb := gt_mem (tb 653 (by decide +kernel)) rfl
theorem gc_X1_allNew : Cond.code yX1_allNew cX1_allNew 1 (some .int) ∈ gtb := gt_mem (tb 600 (by decide +kernel)) rfl
theorem mo_X1_allNew : MOk M_X1_allNew := ⟨rfl, gc_X1_allNew, gi_X1, rfl, by decide +kernel, by decide +kernel, by decide +kernel, by decide +kernel⟩
theorem gn_X1_allNew : Cond.instanceMethod yX1_allNew ∈ gtb := gt_mem (tb 598 (by decide +kernel)) rfl
theorem ge_X1_allNew : Cond.selects RX1 yX1_allNew yX1_allNew ∈ gtb := gt_mem (tb 599 (by decide +kernel)) rfl
theorem gc_X1_isFree : Cond.code yX1_isFree cX1_isFree 3 (some .boolean) ∈ gtb := gt_mem (tb 376 (by decide +kernel)) rfl
theorem mo_X1_isFree : MOk M_X1_isFree := ⟨rfl, gc_X1_isFree, gi_X1, rfl, by decide +kernel, by decide +kernel, by decide +kernel, by decide +kernel⟩
theorem gn_X1_isFree : Cond.instanceMethod yX1_isFree ∈ gtb := gt_mem (tb 374 (by decide +kernel)) rfl
theorem ge_X1_isFree : Cond.selects RX1 yX1_isFree yX1_isFree ∈ gtb := gt_mem (tb 375 (by decide +kernel)) rfl
theorem gc_X1_join : Cond.code yX1_join cX1_join 5 none ∈ gtb := gt_mem (tb 388 (by decide +kernel)) rfl
theorem mo_X1_join : MOk M_X1_join := ⟨rfl, gc_X1_join, gi_X1, rfl, by decide +kernel, by decide +kernel, by decide +kernel, by decide +kernel⟩
theorem gn_X1_join : Cond.instanceMethod yX1_join ∈ gtb := gt_mem (tb 386 (by decide +kernel)) rfl
theorem ge_X1_join : Cond.selects RX1 yX1_join yX1_join ∈ gtb := gt_mem (tb 387 (by decide +kernel)) rfl
theorem gc_X1_addHost : Cond.code yX1_addHost cX1_addHost 3 (some .int) ∈ gtb := gt_mem (tb 400 (by decide +kernel)) rfl
theorem mo_X1_addHost : MOk M_X1_addHost := ⟨rfl, gc_X1_addHost, gi_X1, rfl, by decide +kernel, by decide +kernel, by decide +kernel, by decide +kernel⟩
theorem gn_X1_addHost : Cond.instanceMethod yX1_addHost ∈ gtb := gt_mem (tb 398 (by decide +kernel)) rfl
theorem ge_X1_addHost : Cond.selects RX1 yX1_addHost yX1_addHost ∈ gtb := gt_mem (tb 399 (by decide +kernel)) rfl
theorem gc_X1_switchOf : Cond.code yX1_switchOf cX1_switchOf 2 (some .int) ∈ gtb := gt_mem (tb 576 (by decide +kernel)) rfl
theorem mo_X1_switchOf : MOk M_X1_switchOf := ⟨rfl, gc_X1_switchOf, gi_X1, rfl, by decide +kernel, by decide +kernel, by decide +kernel, by decide +kernel⟩
theorem gn_X1_switchOf : Cond.instanceMethod yX1_switchOf ∈ gtb := gt_mem (tb 574 (by decide +kernel)) rfl
theorem ge_X1_switchOf : Cond.selects RX1 yX1_switchOf yX1_switchOf ∈ gtb := gt_mem (tb 575 (by decide +kernel)) rfl
theorem gc_X1_hostAt : Cond.code yX1_hostAt cX1_hostAt 3 (some .int) ∈ gtb := gt_mem (tb 409 (by decide +kernel)) rfl
theorem mo_X1_hostAt : MOk M_X1_hostAt := ⟨rfl, gc_X1_hostAt, gi_X1, rfl, by decide +kernel, by decide +kernel, by decide +kernel, by decide +kernel⟩
theorem gn_X1_hostAt : Cond.instanceMethod yX1_hostAt ∈ gtb := gt_mem (tb 407 (by decide +kernel)) rfl
theorem ge_X1_hostAt : Cond.selects RX1 yX1_hostAt yX1_hostAt ∈ gtb := gt_mem (tb 408 (by decide +kernel)) rfl
theorem gc_X1_clear : Cond.code yX1_clear cX1_clear 4 none ∈ gtb := gt_mem (tb 424 (by decide +kernel)) rfl
theorem mo_X1_clear : MOk M_X1_clear := ⟨rfl, gc_X1_clear, gi_X1, rfl, by decide +kernel, by decide +kernel, by decide +kernel, by decide +kernel⟩
theorem gn_X1_clear : Cond.instanceMethod yX1_clear ∈ gtb := gt_mem (tb 422 (by decide +kernel)) rfl
theorem ge_X1_clear : Cond.selects RX1 yX1_clear yX1_clear ∈ gtb := gt_mem (tb 423 (by decide +kernel)) rfl
theorem gc_X1_rowOf : Cond.code yX1_rowOf cX1_rowOf 3 (some (.object "RuleChangeDesk$Row")) ∈ gtb := gt_mem (tb 432 (by decide +kernel)) rfl
theorem mo_X1_rowOf : MOk M_X1_rowOf := ⟨rfl, gc_X1_rowOf, gi_X1, rfl, by decide +kernel, by decide +kernel, by decide +kernel, by decide +kernel⟩
theorem gn_X1_rowOf : Cond.instanceMethod yX1_rowOf ∈ gtb := gt_mem (tb 430 (by decide +kernel)) rfl
theorem ge_X1_rowOf : Cond.selects RX1 yX1_rowOf yX1_rowOf ∈ gtb := gt_mem (tb 431 (by decide +kernel)) rfl
theorem gc_X1_ruleCount : Cond.code yX1_ruleCount cX1_ruleCount 3 (some .int) ∈ gtb := gt_mem (tb 514 (by decide +kernel)) rfl
theorem mo_X1_ruleCount : MOk M_X1_ruleCount := ⟨rfl, gc_X1_ruleCount, gi_X1, rfl, by decide +kernel, by decide +kernel, by decide +kernel, by decide +kernel⟩
theorem gn_X1_ruleCount : Cond.instanceMethod yX1_ruleCount ∈ gtb := gt_mem (tb 512 (by decide +kernel)) rfl
theorem ge_X1_ruleCount : Cond.selects RX1 yX1_ruleCount yX1_ruleCount ∈ gtb := gt_mem (tb 513 (by decide +kernel)) rfl
theorem gc_X1_unlike : Cond.code yX1_unlike cX1_unlike 3 (some .int) ∈ gtb := gt_mem (tb 519 (by decide +kernel)) rfl
theorem mo_X1_unlike : MOk M_X1_unlike := ⟨rfl, gc_X1_unlike, gi_X1, rfl, by decide +kernel, by decide +kernel, by decide +kernel, by decide +kernel⟩
theorem gn_X1_unlike : Cond.instanceMethod yX1_unlike ∈ gtb := gt_mem (tb 517 (by decide +kernel)) rfl
theorem ge_X1_unlike : Cond.selects RX1 yX1_unlike yX1_unlike ∈ gtb := gt_mem (tb 518 (by decide +kernel)) rfl
theorem gc_X1_classOf : Cond.code yX1_classOf cX1_classOf 2 (some .int) ∈ gtb := gt_mem (tb 645 (by decide +kernel)) rfl
theorem mo_X1_classOf : MOk M_X1_classOf := ⟨rfl, gc_X1_classOf, gi_X1, rfl, by decide +kernel, by decide +kernel, by decide +kernel, by decide +kernel⟩
theorem gn_X1_classOf : Cond.instanceMethod yX1_classOf ∈ gtb := gt_mem (tb 643 (by decide +kernel)) rfl
theorem ge_X1_classOf : Cond.selects RX1 yX1_classOf yX1_classOf ∈ gtb := gt_mem (tb 644 (by decide +kernel)) rfl
theorem gc_X1_classCount : Cond.code yX1_classCount cX1_classCount 1 (some .int) ∈ gtb := gt_mem (tb 527 (by decide +kernel)) rfl
theorem mo_X1_classCount : MOk M_X1_classCount := ⟨rfl, gc_X1_classCount, gi_X1, rfl, by decide +kernel, by decide +kernel, by decide +kernel, by decide +kernel⟩
theorem gn_X1_classCount : Cond.instanceMethod yX1_classCount ∈ gtb := gt_mem (tb 525 (by decide +kernel)) rfl
theorem ge_X1_classCount : Cond.selects RX1 yX1_classCount yX1_classCount ∈ gtb := gt_mem (tb 526 (by decide +kernel)) rfl
theorem gc_X1_findClasses : Cond.code yX1_findClasses cX1_findClasses 3 none ∈ gtb := gt_mem (tb 531 (by decide +kernel)) rfl
theorem mo_X1_findClasses : MOk M_X1_findClasses := ⟨rfl, gc_X1_findClasses, gi_X1, rfl, by decide +kernel, by decide +kernel, by decide +kernel, by decide +kernel⟩
theorem gn_X1_findClasses : Cond.instanceMethod yX1_findClasses ∈ gtb := gt_mem (tb 530 (by decide +kernel)) rfl
theorem ge_X1_findClasses : Cond.selects RX1 yX1_findClasses yX1_findClasses ∈ gtb := gt_mem (tb 3 (by decide +kernel)) rfl
theorem gc_X1_leastAlike : Cond.code yX1_leastAlike cX1_leastAlike 3 (some .int) ∈ gtb := gt_mem (tb 535 (by decide +kernel)) rfl
theorem mo_X1_leastAlike : MOk M_X1_leastAlike := ⟨rfl, gc_X1_leastAlike, gi_X1, rfl, by decide +kernel, by decide +kernel, by decide +kernel, by decide +kernel⟩
theorem gn_X1_leastAlike : Cond.instanceMethod yX1_leastAlike ∈ gtb := gt_mem (tb 534 (by decide +kernel)) rfl
theorem ge_X1_leastAlike : Cond.selects RX1 yX1_leastAlike yX1_leastAlike ∈ gtb := gt_mem (tb 4 (by decide +kernel)) rfl
theorem gc_X1_isSeparated : Cond.code yX1_isSeparated cX1_isSeparated 4 (some .boolean) ∈ gtb := gt_mem (tb 539 (by decide +kernel)) rfl
theorem mo_X1_isSeparated : MOk M_X1_isSeparated := ⟨rfl, gc_X1_isSeparated, gi_X1, rfl, by decide +kernel, by decide +kernel, by decide +kernel, by decide +kernel⟩
theorem gn_X1_isSeparated : Cond.instanceMethod yX1_isSeparated ∈ gtb := gt_mem (tb 538 (by decide +kernel)) rfl
theorem ge_X1_isSeparated : Cond.selects RX1 yX1_isSeparated yX1_isSeparated ∈ gtb := gt_mem (tb 5 (by decide +kernel)) rfl
theorem gc_X1_trace : Cond.code yX1_trace cX1_trace 6 none ∈ gtb := gt_mem (tb 572 (by decide +kernel)) rfl
theorem mo_X1_trace : MOk M_X1_trace := ⟨rfl, gc_X1_trace, gi_X1, rfl, by decide +kernel, by decide +kernel, by decide +kernel, by decide +kernel⟩
theorem gn_X1_trace : Cond.instanceMethod yX1_trace ∈ gtb := gt_mem (tb 570 (by decide +kernel)) rfl
theorem ge_X1_trace : Cond.selects RX1 yX1_trace yX1_trace ∈ gtb := gt_mem (tb 571 (by decide +kernel)) rfl
theorem gc_X1_whereTo : Cond.code yX1_whereTo cX1_whereTo 7 (some .int) ∈ gtb := gt_mem (tb 592 (by decide +kernel)) rfl
theorem mo_X1_whereTo : MOk M_X1_whereTo := ⟨rfl, gc_X1_whereTo, gi_X1, rfl, by decide +kernel, by decide +kernel, by decide +kernel, by decide +kernel⟩
theorem gn_X1_whereTo : Cond.instanceMethod yX1_whereTo ∈ gtb := gt_mem (tb 590 (by decide +kernel)) rfl
theorem ge_X1_whereTo : Cond.selects RX1 yX1_whereTo yX1_whereTo ∈ gtb := gt_mem (tb 591 (by decide +kernel)) rfl
theorem gc_X2_init : Cond.code yX2_init cX2_init 1 none ∈ gtb := gt_mem (tb 257 (by decide +kernel)) rfl
theorem mo_X2_init : MOk M_X2_init := ⟨rfl, gc_X2_init, gi_X2, rfl, by decide +kernel, by decide +kernel, by decide +kernel, by decide +kernel⟩
theorem gn_X2_init : Cond.instanceMethod yX2_init ∈ gtb := gt_mem (tb 256 (by decide +kernel)) rfl
theorem gc_X2_putInAt : Cond.code yX2_putInAt cX2_putInAt 4 none ∈ gtb := gt_mem (tb 806 (by decide +kernel)) rfl
theorem mo_X2_putInAt : MOk M_X2_putInAt := ⟨rfl, gc_X2_putInAt, gi_X2, rfl, by decide +kernel, by decide +kernel, by decide +kernel, by decide +kernel⟩
theorem gn_X2_putInAt : Cond.instanceMethod yX2_putInAt ∈ gtb := gt_mem (tb 804 (by decide +kernel)) rfl
theorem ge_X2_putInAt : Cond.selects RX2 yX2_putInAt yX2_putInAt ∈ gtb := gt_mem (tb 805 (by decide +kernel)) rfl
theorem gc_X2_isUnderWay : Cond.code yX2_isUnderWay cX2_isUnderWay 1 (some .boolean) ∈ gtb := gt_mem (tb 819 (by decide +kernel)) rfl
theorem mo_X2_isUnderWay : MOk M_X2_isUnderWay := ⟨rfl, gc_X2_isUnderWay, gi_X2, rfl, by decide +kernel, by decide +kernel, by decide +kernel, by decide +kernel⟩
theorem gn_X2_isUnderWay : Cond.instanceMethod yX2_isUnderWay ∈ gtb := gt_mem (tb 817 (by decide +kernel)) rfl
theorem ge_X2_isUnderWay : Cond.selects RX2 yX2_isUnderWay yX2_isUnderWay ∈ gtb := gt_mem (tb 818 (by decide +kernel)) rfl
theorem gc_X2_place : Cond.code yX2_place cX2_place 1 (some .int) ∈ gtb := gt_mem (tb 828 (by decide +kernel)) rfl
theorem mo_X2_place : MOk M_X2_place := ⟨rfl, gc_X2_place, gi_X2, rfl, by decide +kernel, by decide +kernel, by decide +kernel, by decide +kernel⟩
theorem gn_X2_place : Cond.instanceMethod yX2_place ∈ gtb := gt_mem (tb 826 (by decide +kernel)) rfl
theorem ge_X2_place : Cond.selects RX2 yX2_place yX2_place ∈ gtb := gt_mem (tb 827 (by decide +kernel)) rfl
theorem gc_X2_end : Cond.code yX2_end cX2_end 1 (some .int) ∈ gtb := gt_mem (tb 841 (by decide +kernel)) rfl
theorem mo_X2_end : MOk M_X2_end := ⟨rfl, gc_X2_end, gi_X2, rfl, by decide +kernel, by decide +kernel, by decide +kernel, by decide +kernel⟩
theorem gn_X2_end : Cond.instanceMethod yX2_end ∈ gtb := gt_mem (tb 839 (by decide +kernel)) rfl
theorem ge_X2_end : Cond.selects RX2 yX2_end yX2_end ∈ gtb := gt_mem (tb 840 (by decide +kernel)) rfl
theorem gc_X2_tell : Cond.code yX2_tell cX2_tell 2 (some .int) ∈ gtb := gt_mem (tb 886 (by decide +kernel)) rfl
theorem mo_X2_tell : MOk M_X2_tell := ⟨rfl, gc_X2_tell, gi_X2, rfl, by decide +kernel, by decide +kernel, by decide +kernel, by decide +kernel⟩
theorem gn_X2_tell : Cond.instanceMethod yX2_tell ∈ gtb := gt_mem (tb 884 (by decide +kernel)) rfl
theorem ge_X2_tell : Cond.selects RX2 yX2_tell yX2_tell ∈ gtb := gt_mem (tb 885 (by decide +kernel)) rfl
theorem gc_X3_init : Cond.code yX3_init cX3_init 1 none ∈ gtb := gt_mem (tb 218 (by decide +kernel)) rfl
theorem mo_X3_init : MOk M_X3_init := ⟨rfl, gc_X3_init, gi_X3, rfl, by decide +kernel, by decide +kernel, by decide +kernel, by decide +kernel⟩
theorem gn_X3_init : Cond.instanceMethod yX3_init ∈ gtb := gt_mem (tb 217 (by decide +kernel)) rfl
theorem gc_X3_clear : Cond.code yX3_clear cX3_clear 1 none ∈ gtb := gt_mem (tb 364 (by decide +kernel)) rfl
theorem mo_X3_clear : MOk M_X3_clear := ⟨rfl, gc_X3_clear, gi_X3, rfl, by decide +kernel, by decide +kernel, by decide +kernel, by decide +kernel⟩
theorem gn_X3_clear : Cond.instanceMethod yX3_clear ∈ gtb := gt_mem (tb 362 (by decide +kernel)) rfl
theorem ge_X3_clear : Cond.selects RX3 yX3_clear yX3_clear ∈ gtb := gt_mem (tb 363 (by decide +kernel)) rfl
theorem gc_X3_add : Cond.code yX3_add cX3_add 2 none ∈ gtb := gt_mem (tb 718 (by decide +kernel)) rfl
theorem mo_X3_add : MOk M_X3_add := ⟨rfl, gc_X3_add, gi_X3, rfl, by decide +kernel, by decide +kernel, by decide +kernel, by decide +kernel⟩
theorem gn_X3_add : Cond.instanceMethod yX3_add ∈ gtb := gt_mem (tb 716 (by decide +kernel)) rfl
theorem ge_X3_add : Cond.selects RX3 yX3_add yX3_add ∈ gtb := gt_mem (tb 717 (by decide +kernel)) rfl
theorem gc_X3_size : Cond.code yX3_size cX3_size 1 (some .int) ∈ gtb := gt_mem (tb 629 (by decide +kernel)) rfl
theorem mo_X3_size : MOk M_X3_size := ⟨rfl, gc_X3_size, gi_X3, rfl, by decide +kernel, by decide +kernel, by decide +kernel, by decide +kernel⟩
theorem gn_X3_size : Cond.instanceMethod yX3_size ∈ gtb := gt_mem (tb 627 (by decide +kernel)) rfl
theorem ge_X3_size : Cond.selects RX3 yX3_size yX3_size ∈ gtb := gt_mem (tb 628 (by decide +kernel)) rfl
theorem gc_X3_has : Cond.code yX3_has cX3_has 2 (some .boolean) ∈ gtb := gt_mem (tb 763 (by decide +kernel)) rfl
theorem mo_X3_has : MOk M_X3_has := ⟨rfl, gc_X3_has, gi_X3, rfl, by decide +kernel, by decide +kernel, by decide +kernel, by decide +kernel⟩
theorem gn_X3_has : Cond.instanceMethod yX3_has ∈ gtb := gt_mem (tb 761 (by decide +kernel)) rfl
theorem ge_X3_has : Cond.selects RX3 yX3_has yX3_has ∈ gtb := gt_mem (tb 762 (by decide +kernel)) rfl
theorem gc_X3_get : Cond.code yX3_get cX3_get 2 (some .int) ∈ gtb := gt_mem (tb 767 (by decide +kernel)) rfl
theorem mo_X3_get : MOk M_X3_get := ⟨rfl, gc_X3_get, gi_X3, rfl, by decide +kernel, by decide +kernel, by decide +kernel, by decide +kernel⟩
theorem gn_X3_get : Cond.instanceMethod yX3_get ∈ gtb := gt_mem (tb 765 (by decide +kernel)) rfl
theorem ge_X3_get : Cond.selects RX3 yX3_get yX3_get ∈ gtb := gt_mem (tb 766 (by decide +kernel)) rfl
theorem gc_X3_members : Cond.code yX3_members cX3_members 1 (some .int) ∈ gtb := gt_mem (tb 633 (by decide +kernel)) rfl
theorem mo_X3_members : MOk M_X3_members := ⟨rfl, gc_X3_members, gi_X3, rfl, by decide +kernel, by decide +kernel, by decide +kernel, by decide +kernel⟩
theorem gn_X3_members : Cond.instanceMethod yX3_members ∈ gtb := gt_mem (tb 631 (by decide +kernel)) rfl
theorem ge_X3_members : Cond.selects RX3 yX3_members yX3_members ∈ gtb := gt_mem (tb 632 (by decide +kernel)) rfl
theorem gc_X3_membersAhead : Cond.code yX3_membersAhead cX3_membersAhead 4 (some .int) ∈ gtb := gt_mem (tb 637 (by decide +kernel)) rfl
theorem mo_X3_membersAhead : MOk M_X3_membersAhead := ⟨rfl, gc_X3_membersAhead, gi_X3, rfl, by decide +kernel, by decide +kernel, by decide +kernel, by decide +kernel⟩
theorem gn_X3_membersAhead : Cond.instanceMethod yX3_membersAhead ∈ gtb := gt_mem (tb 635 (by decide +kernel)) rfl
theorem ge_X3_membersAhead : Cond.selects RX3 yX3_membersAhead yX3_membersAhead ∈ gtb := gt_mem (tb 636 (by decide +kernel)) rfl
theorem gc_X4_init : Cond.code yX4_init cX4_init 3 none ∈ gtb := gt_mem (tb 231 (by decide +kernel)) rfl
theorem mo_X4_init : MOk M_X4_init := ⟨rfl, gc_X4_init, gi_X4, rfl, by decide +kernel, by decide +kernel, by decide +kernel, by decide +kernel⟩
theorem gn_X4_init : Cond.instanceMethod yX4_init ∈ gtb := gt_mem (tb 230 (by decide +kernel)) rfl
theorem gc_X4_countGood : Cond.code yX4_countGood cX4_countGood 3 (some .int) ∈ gtb := gt_mem (tb 547 (by decide +kernel)) rfl
theorem mo_X4_countGood : MOk M_X4_countGood := ⟨rfl, gc_X4_countGood, gi_X4, rfl, by decide +kernel, by decide +kernel, by decide +kernel, by decide +kernel⟩
theorem gn_X4_countGood : Cond.instanceMethod yX4_countGood ∈ gtb := gt_mem (tb 545 (by decide +kernel)) rfl
theorem ge_X4_countGood : Cond.selects RX4 yX4_countGood yX4_countGood ∈ gtb := gt_mem (tb 546 (by decide +kernel)) rfl
theorem gc_X4_whyNotTaken : Cond.code yX4_whyNotTaken cX4_whyNotTaken 3 (some .int) ∈ gtb := gt_mem (tb 777 (by decide +kernel)) rfl
theorem mo_X4_whyNotTaken : MOk M_X4_whyNotTaken := ⟨rfl, gc_X4_whyNotTaken, gi_X4, rfl, by decide +kernel, by decide +kernel, by decide +kernel, by decide +kernel⟩
theorem gn_X4_whyNotTaken : Cond.instanceMethod yX4_whyNotTaken ∈ gtb := gt_mem (tb 775 (by decide +kernel)) rfl
theorem ge_X4_whyNotTaken : Cond.selects RX4 yX4_whyNotTaken yX4_whyNotTaken ∈ gtb := gt_mem (tb 776 (by decide +kernel)) rfl
theorem gc_X4_makeLeast : Cond.code yX4_makeLeast cX4_makeLeast 6 (some .boolean) ∈ gtb := gt_mem (tb 699 (by decide +kernel)) rfl
theorem mo_X4_makeLeast : MOk M_X4_makeLeast := ⟨rfl, gc_X4_makeLeast, gi_X4, rfl, by decide +kernel, by decide +kernel, by decide +kernel, by decide +kernel⟩
theorem gn_X4_makeLeast : Cond.instanceMethod yX4_makeLeast ∈ gtb := gt_mem (tb 697 (by decide +kernel)) rfl
theorem ge_X4_makeLeast : Cond.selects RX4 yX4_makeLeast yX4_makeLeast ∈ gtb := gt_mem (tb 698 (by decide +kernel)) rfl
theorem gc_X4_countOrders : Cond.code yX4_countOrders cX4_countOrders 1 (some .int) ∈ gtb := gt_mem (tb 726 (by decide +kernel)) rfl
theorem mo_X4_countOrders : MOk M_X4_countOrders := ⟨rfl, gc_X4_countOrders, gi_X4, rfl, by decide +kernel, by decide +kernel, by decide +kernel, by decide +kernel⟩
theorem gn_X4_countOrders : Cond.instanceMethod yX4_countOrders ∈ gtb := gt_mem (tb 724 (by decide +kernel)) rfl
theorem ge_X4_countOrders : Cond.selects RX4 yX4_countOrders yX4_countOrders ∈ gtb := gt_mem (tb 725 (by decide +kernel)) rfl
theorem gc_X4_makeOrder : Cond.code yX4_makeOrder cX4_makeOrder 8 (some .boolean) ∈ gtb := gt_mem (tb 746 (by decide +kernel)) rfl
theorem mo_X4_makeOrder : MOk M_X4_makeOrder := ⟨rfl, gc_X4_makeOrder, gi_X4, rfl, by decide +kernel, by decide +kernel, by decide +kernel, by decide +kernel⟩
theorem gn_X4_makeOrder : Cond.instanceMethod yX4_makeOrder ∈ gtb := gt_mem (tb 744 (by decide +kernel)) rfl
theorem ge_X4_makeOrder : Cond.selects RX4 yX4_makeOrder yX4_makeOrder ∈ gtb := gt_mem (tb 745 (by decide +kernel)) rfl
theorem gc_X4_findOrderings : Cond.code yX4_findOrderings cX4_findOrderings 3 (some .int) ∈ gtb := gt_mem (tb 730 (by decide +kernel)) rfl
theorem mo_X4_findOrderings : MOk M_X4_findOrderings := ⟨rfl, gc_X4_findOrderings, gi_X4, rfl, by decide +kernel, by decide +kernel, by decide +kernel, by decide +kernel⟩
theorem gn_X4_findOrderings : Cond.instanceMethod yX4_findOrderings ∈ gtb := gt_mem (tb 729 (by decide +kernel)) rfl
theorem ge_X4_findOrderings : Cond.selects RX4 yX4_findOrderings yX4_findOrderings ∈ gtb := gt_mem (tb 12 (by decide +kernel)) rfl
theorem gc_X4_leastNotGood : Cond.code yX4_leastNotGood cX4_leastNotGood 4 (some .int) ∈ gtb := gt_mem (tb 709 (by decide +kernel)) rfl
theorem mo_X4_leastNotGood : MOk M_X4_leastNotGood := ⟨rfl, gc_X4_leastNotGood, gi_X4, rfl, by decide +kernel, by decide +kernel, by decide +kernel, by decide +kernel⟩
theorem gn_X4_leastNotGood : Cond.instanceMethod yX4_leastNotGood ∈ gtb := gt_mem (tb 708 (by decide +kernel)) rfl
theorem ge_X4_leastNotGood : Cond.selects RX4 yX4_leastNotGood yX4_leastNotGood ∈ gtb := gt_mem (tb 10 (by decide +kernel)) rfl
theorem gc_X4_fewestFrom : Cond.code yX4_fewestFrom cX4_fewestFrom 5 (some .int) ∈ gtb := gt_mem (tb 705 (by decide +kernel)) rfl
theorem mo_X4_fewestFrom : MOk M_X4_fewestFrom := ⟨rfl, gc_X4_fewestFrom, gi_X4, rfl, by decide +kernel, by decide +kernel, by decide +kernel, by decide +kernel⟩
theorem gn_X4_fewestFrom : Cond.instanceMethod yX4_fewestFrom ∈ gtb := gt_mem (tb 704 (by decide +kernel)) rfl
theorem ge_X4_fewestFrom : Cond.selects RX4 yX4_fewestFrom yX4_fewestFrom ∈ gtb := gt_mem (tb 9 (by decide +kernel)) rfl
theorem gc_X4_leastRound : Cond.code yX4_leastRound cX4_leastRound 4 (some .int) ∈ gtb := gt_mem (tb 714 (by decide +kernel)) rfl
theorem mo_X4_leastRound : MOk M_X4_leastRound := ⟨rfl, gc_X4_leastRound, gi_X4, rfl, by decide +kernel, by decide +kernel, by decide +kernel, by decide +kernel⟩
theorem gn_X4_leastRound : Cond.instanceMethod yX4_leastRound ∈ gtb := gt_mem (tb 713 (by decide +kernel)) rfl
theorem ge_X4_leastRound : Cond.selects RX4 yX4_leastRound yX4_leastRound ∈ gtb := gt_mem (tb 11 (by decide +kernel)) rfl
theorem gc_X4_orderingsFrom : Cond.code yX4_orderingsFrom cX4_orderingsFrom 5 (some .int) ∈ gtb := gt_mem (tb 734 (by decide +kernel)) rfl
theorem mo_X4_orderingsFrom : MOk M_X4_orderingsFrom := ⟨rfl, gc_X4_orderingsFrom, gi_X4, rfl, by decide +kernel, by decide +kernel, by decide +kernel, by decide +kernel⟩
theorem gn_X4_orderingsFrom : Cond.instanceMethod yX4_orderingsFrom ∈ gtb := gt_mem (tb 733 (by decide +kernel)) rfl
theorem ge_X4_orderingsFrom : Cond.selects RX4 yX4_orderingsFrom yX4_orderingsFrom ∈ gtb := gt_mem (tb 13 (by decide +kernel)) rfl
theorem gc_X4_orderingsBy : Cond.code yX4_orderingsBy cX4_orderingsBy 5 (some .int) ∈ gtb := gt_mem (tb 738 (by decide +kernel)) rfl
theorem mo_X4_orderingsBy : MOk M_X4_orderingsBy := ⟨rfl, gc_X4_orderingsBy, gi_X4, rfl, by decide +kernel, by decide +kernel, by decide +kernel, by decide +kernel⟩
theorem gn_X4_orderingsBy : Cond.instanceMethod yX4_orderingsBy ∈ gtb := gt_mem (tb 737 (by decide +kernel)) rfl
theorem ge_X4_orderingsBy : Cond.selects RX4 yX4_orderingsBy yX4_orderingsBy ∈ gtb := gt_mem (tb 14 (by decide +kernel)) rfl
theorem gc_X5_init : Cond.code yX5_init cX5_init 1 none ∈ gtb := gt_mem (tb 78 (by decide +kernel)) rfl
theorem mo_X5_init : MOk M_X5_init := ⟨rfl, gc_X5_init, gi_X5, rfl, by decide +kernel, by decide +kernel, by decide +kernel, by decide +kernel⟩
theorem gn_X5_init : Cond.instanceMethod yX5_init ∈ gtb := gt_mem (tb 77 (by decide +kernel)) rfl
theorem gc_X5_size : Cond.code yX5_size cX5_size 1 (some .int) ∈ gtb := gt_mem (tb 436 (by decide +kernel)) rfl
theorem mo_X5_size : MOk M_X5_size := ⟨rfl, gc_X5_size, gi_X5, rfl, by decide +kernel, by decide +kernel, by decide +kernel, by decide +kernel⟩
theorem gn_X5_size : Cond.instanceMethod yX5_size ∈ gtb := gt_mem (tb 434 (by decide +kernel)) rfl
theorem ge_X5_size : Cond.selects RX5 yX5_size yX5_size ∈ gtb := gt_mem (tb 435 (by decide +kernel)) rfl
theorem gc_X5_clear : Cond.code yX5_clear cX5_clear 1 none ∈ gtb := gt_mem (tb 337 (by decide +kernel)) rfl
theorem mo_X5_clear : MOk M_X5_clear := ⟨rfl, gc_X5_clear, gi_X5, rfl, by decide +kernel, by decide +kernel, by decide +kernel, by decide +kernel⟩
theorem gn_X5_clear : Cond.instanceMethod yX5_clear ∈ gtb := gt_mem (tb 335 (by decide +kernel)) rfl
theorem ge_X5_clear : Cond.selects RX5 yX5_clear yX5_clear ∈ gtb := gt_mem (tb 336 (by decide +kernel)) rfl
theorem gc_X5_add : Cond.code yX5_add cX5_add 5 none ∈ gtb := gt_mem (tb 446 (by decide +kernel)) rfl
theorem mo_X5_add : MOk M_X5_add := ⟨rfl, gc_X5_add, gi_X5, rfl, by decide +kernel, by decide +kernel, by decide +kernel, by decide +kernel⟩
theorem gn_X5_add : Cond.instanceMethod yX5_add ∈ gtb := gt_mem (tb 444 (by decide +kernel)) rfl
theorem ge_X5_add : Cond.selects RX5 yX5_add yX5_add ∈ gtb := gt_mem (tb 445 (by decide +kernel)) rfl
theorem gc_X5_remove : Cond.code yX5_remove cX5_remove 3 none ∈ gtb := gt_mem (tb 458 (by decide +kernel)) rfl
theorem mo_X5_remove : MOk M_X5_remove := ⟨rfl, gc_X5_remove, gi_X5, rfl, by decide +kernel, by decide +kernel, by decide +kernel, by decide +kernel⟩
theorem gn_X5_remove : Cond.instanceMethod yX5_remove ∈ gtb := gt_mem (tb 456 (by decide +kernel)) rfl
theorem ge_X5_remove : Cond.selects RX5 yX5_remove yX5_remove ∈ gtb := gt_mem (tb 457 (by decide +kernel)) rfl
theorem gc_X5_becomeLike : Cond.code yX5_becomeLike cX5_becomeLike 3 none ∈ gtb := gt_mem (tb 466 (by decide +kernel)) rfl
theorem mo_X5_becomeLike : MOk M_X5_becomeLike := ⟨rfl, gc_X5_becomeLike, gi_X5, rfl, by decide +kernel, by decide +kernel, by decide +kernel, by decide +kernel⟩
theorem gn_X5_becomeLike : Cond.instanceMethod yX5_becomeLike ∈ gtb := gt_mem (tb 464 (by decide +kernel)) rfl
theorem ge_X5_becomeLike : Cond.selects RX5 yX5_becomeLike yX5_becomeLike ∈ gtb := gt_mem (tb 465 (by decide +kernel)) rfl
theorem gc_X5_isLike : Cond.code yX5_isLike cX5_isLike 3 (some .boolean) ∈ gtb := gt_mem (tb 523 (by decide +kernel)) rfl
theorem mo_X5_isLike : MOk M_X5_isLike := ⟨rfl, gc_X5_isLike, gi_X5, rfl, by decide +kernel, by decide +kernel, by decide +kernel, by decide +kernel⟩
theorem gn_X5_isLike : Cond.instanceMethod yX5_isLike ∈ gtb := gt_mem (tb 521 (by decide +kernel)) rfl
theorem ge_X5_isLike : Cond.selects RX5 yX5_isLike yX5_isLike ∈ gtb := gt_mem (tb 522 (by decide +kernel)) rfl
theorem gc_X5_separates : Cond.code yX5_separates cX5_separates 4 (some .boolean) ∈ gtb := gt_mem (tb 543 (by decide +kernel)) rfl
theorem mo_X5_separates : MOk M_X5_separates := ⟨rfl, gc_X5_separates, gi_X5, rfl, by decide +kernel, by decide +kernel, by decide +kernel, by decide +kernel⟩
theorem gn_X5_separates : Cond.instanceMethod yX5_separates ∈ gtb := gt_mem (tb 541 (by decide +kernel)) rfl
theorem ge_X5_separates : Cond.selects RX5 yX5_separates yX5_separates ∈ gtb := gt_mem (tb 542 (by decide +kernel)) rfl
theorem gc_X5_put : Cond.code yX5_put cX5_put 6 none ∈ gtb := gt_mem (tb 450 (by decide +kernel)) rfl
theorem mo_X5_put : MOk M_X5_put := ⟨rfl, gc_X5_put, gi_X5, rfl, by decide +kernel, by decide +kernel, by decide +kernel, by decide +kernel⟩
theorem gn_X5_put : Cond.instanceMethod yX5_put ∈ gtb := gt_mem (tb 449 (by decide +kernel)) rfl
theorem ge_X5_put : Cond.selects RX5 yX5_put yX5_put ∈ gtb := gt_mem (tb 2 (by decide +kernel)) rfl
theorem gc_X5_findActs : Cond.code yX5_findActs cX5_findActs 5 none ∈ gtb := gt_mem (tb 341 (by decide +kernel)) rfl
theorem mo_X5_findActs : MOk M_X5_findActs := ⟨rfl, gc_X5_findActs, gi_X5, rfl, by decide +kernel, by decide +kernel, by decide +kernel, by decide +kernel⟩
theorem gn_X5_findActs : Cond.instanceMethod yX5_findActs ∈ gtb := gt_mem (tb 340 (by decide +kernel)) rfl
theorem ge_X5_findActs : Cond.selects RX5 yX5_findActs yX5_findActs ∈ gtb := gt_mem (tb 0 (by decide +kernel)) rfl
theorem gc_X6_init : Cond.code yX6_init cX6_init 5 none ∈ gtb := gt_mem (tb 250 (by decide +kernel)) rfl
theorem mo_X6_init : MOk M_X6_init := ⟨rfl, gc_X6_init, gi_X6, rfl, by decide +kernel, by decide +kernel, by decide +kernel, by decide +kernel⟩
theorem gn_X6_init : Cond.instanceMethod yX6_init ∈ gtb := gt_mem (tb 249 (by decide +kernel)) rfl
theorem gc_X6_start : Cond.code yX6_start cX6_start 1 none ∈ gtb := gt_mem (tb 785 (by decide +kernel)) rfl
theorem mo_X6_start : MOk M_X6_start := ⟨rfl, gc_X6_start, gi_X6, rfl, by decide +kernel, by decide +kernel, by decide +kernel, by decide +kernel⟩
theorem gn_X6_start : Cond.instanceMethod yX6_start ∈ gtb := gt_mem (tb 783 (by decide +kernel)) rfl
theorem ge_X6_start : Cond.selects RX6 yX6_start yX6_start ∈ gtb := gt_mem (tb 784 (by decide +kernel)) rfl
theorem gc_X6_stop : Cond.code yX6_stop cX6_stop 1 none ∈ gtb := gt_mem (tb 368 (by decide +kernel)) rfl
theorem mo_X6_stop : MOk M_X6_stop := ⟨rfl, gc_X6_stop, gi_X6, rfl, by decide +kernel, by decide +kernel, by decide +kernel, by decide +kernel⟩
theorem gn_X6_stop : Cond.instanceMethod yX6_stop ∈ gtb := gt_mem (tb 366 (by decide +kernel)) rfl
theorem ge_X6_stop : Cond.selects RX6 yX6_stop yX6_stop ∈ gtb := gt_mem (tb 367 (by decide +kernel)) rfl
theorem gc_X6_isLive : Cond.code yX6_isLive cX6_isLive 1 (some .boolean) ∈ gtb := gt_mem (tb 793 (by decide +kernel)) rfl
theorem mo_X6_isLive : MOk M_X6_isLive := ⟨rfl, gc_X6_isLive, gi_X6, rfl, by decide +kernel, by decide +kernel, by decide +kernel, by decide +kernel⟩
theorem gn_X6_isLive : Cond.instanceMethod yX6_isLive ∈ gtb := gt_mem (tb 791 (by decide +kernel)) rfl
theorem ge_X6_isLive : Cond.selects RX6 yX6_isLive yX6_isLive ∈ gtb := gt_mem (tb 792 (by decide +kernel)) rfl
theorem gc_X6_packetCount : Cond.code yX6_packetCount cX6_packetCount 1 (some .int) ∈ gtb := gt_mem (tb 797 (by decide +kernel)) rfl
theorem mo_X6_packetCount : MOk M_X6_packetCount := ⟨rfl, gc_X6_packetCount, gi_X6, rfl, by decide +kernel, by decide +kernel, by decide +kernel, by decide +kernel⟩
theorem gn_X6_packetCount : Cond.instanceMethod yX6_packetCount ∈ gtb := gt_mem (tb 795 (by decide +kernel)) rfl
theorem ge_X6_packetCount : Cond.selects RX6 yX6_packetCount yX6_packetCount ∈ gtb := gt_mem (tb 796 (by decide +kernel)) rfl
theorem gc_X6_packetOf : Cond.code yX6_packetOf cX6_packetOf 2 (some (.object "RuleChangeDesk$Packet")) ∈ gtb := gt_mem (tb 815 (by decide +kernel)) rfl
theorem mo_X6_packetOf : MOk M_X6_packetOf := ⟨rfl, gc_X6_packetOf, gi_X6, rfl, by decide +kernel, by decide +kernel, by decide +kernel, by decide +kernel⟩
theorem gn_X6_packetOf : Cond.instanceMethod yX6_packetOf ∈ gtb := gt_mem (tb 813 (by decide +kernel)) rfl
theorem ge_X6_packetOf : Cond.selects RX6 yX6_packetOf yX6_packetOf ∈ gtb := gt_mem (tb 814 (by decide +kernel)) rfl
theorem gc_X6_putIn : Cond.code yX6_putIn cX6_putIn 3 (some .int) ∈ gtb := gt_mem (tb 801 (by decide +kernel)) rfl
theorem mo_X6_putIn : MOk M_X6_putIn := ⟨rfl, gc_X6_putIn, gi_X6, rfl, by decide +kernel, by decide +kernel, by decide +kernel, by decide +kernel⟩
theorem gn_X6_putIn : Cond.instanceMethod yX6_putIn ∈ gtb := gt_mem (tb 799 (by decide +kernel)) rfl
theorem ge_X6_putIn : Cond.selects RX6 yX6_putIn yX6_putIn ∈ gtb := gt_mem (tb 800 (by decide +kernel)) rfl
theorem gc_X6_moveOn : Cond.code yX6_moveOn cX6_moveOn 2 none ∈ gtb := gt_mem (tb 824 (by decide +kernel)) rfl
theorem mo_X6_moveOn : MOk M_X6_moveOn := ⟨rfl, gc_X6_moveOn, gi_X6, rfl, by decide +kernel, by decide +kernel, by decide +kernel, by decide +kernel⟩
theorem gn_X6_moveOn : Cond.instanceMethod yX6_moveOn ∈ gtb := gt_mem (tb 822 (by decide +kernel)) rfl
theorem ge_X6_moveOn : Cond.selects RX6 yX6_moveOn yX6_moveOn ∈ gtb := gt_mem (tb 823 (by decide +kernel)) rfl
theorem gc_X6_takeNew : Cond.code yX6_takeNew cX6_takeNew 2 (some .int) ∈ gtb := gt_mem (tb 849 (by decide +kernel)) rfl
theorem mo_X6_takeNew : MOk M_X6_takeNew := ⟨rfl, gc_X6_takeNew, gi_X6, rfl, by decide +kernel, by decide +kernel, by decide +kernel, by decide +kernel⟩
theorem gn_X6_takeNew : Cond.instanceMethod yX6_takeNew ∈ gtb := gt_mem (tb 847 (by decide +kernel)) rfl
theorem ge_X6_takeNew : Cond.selects RX6 yX6_takeNew yX6_takeNew ∈ gtb := gt_mem (tb 848 (by decide +kernel)) rfl
theorem gc_X6_nextRound : Cond.code yX6_nextRound cX6_nextRound 1 (some .int) ∈ gtb := gt_mem (tb 869 (by decide +kernel)) rfl
theorem mo_X6_nextRound : MOk M_X6_nextRound := ⟨rfl, gc_X6_nextRound, gi_X6, rfl, by decide +kernel, by decide +kernel, by decide +kernel, by decide +kernel⟩
theorem gn_X6_nextRound : Cond.instanceMethod yX6_nextRound ∈ gtb := gt_mem (tb 867 (by decide +kernel)) rfl
theorem ge_X6_nextRound : Cond.selects RX6 yX6_nextRound yX6_nextRound ∈ gtb := gt_mem (tb 868 (by decide +kernel)) rfl
theorem gc_X6_tell : Cond.code yX6_tell cX6_tell 2 (some .int) ∈ gtb := gt_mem (tb 878 (by decide +kernel)) rfl
theorem mo_X6_tell : MOk M_X6_tell := ⟨rfl, gc_X6_tell, gi_X6, rfl, by decide +kernel, by decide +kernel, by decide +kernel, by decide +kernel⟩
theorem gn_X6_tell : Cond.instanceMethod yX6_tell ∈ gtb := gt_mem (tb 876 (by decide +kernel)) rfl
theorem ge_X6_tell : Cond.selects RX6 yX6_tell yX6_tell ∈ gtb := gt_mem (tb 877 (by decide +kernel)) rfl
theorem gc_X6_left : Cond.code yX6_left cX6_left 1 (some .int) ∈ gtb := gt_mem (tb 854 (by decide +kernel)) rfl
theorem mo_X6_left : MOk M_X6_left := ⟨rfl, gc_X6_left, gi_X6, rfl, by decide +kernel, by decide +kernel, by decide +kernel, by decide +kernel⟩
theorem gn_X6_left : Cond.instanceMethod yX6_left ∈ gtb := gt_mem (tb 853 (by decide +kernel)) rfl
theorem ge_X6_left : Cond.selects RX6 yX6_left yX6_left ∈ gtb := gt_mem (tb 15 (by decide +kernel)) rfl
theorem gc_X7_init : Cond.code yX7_init cX7_init 7 none ∈ gtb := gt_mem (tb 161 (by decide +kernel)) rfl
theorem mo_X7_init : MOk M_X7_init := ⟨rfl, gc_X7_init, gi_X7, rfl, by decide +kernel, by decide +kernel, by decide +kernel, by decide +kernel⟩
theorem gn_X7_init : Cond.instanceMethod yX7_init ∈ gtb := gt_mem (tb 160 (by decide +kernel)) rfl
theorem gc_X7_needsHost : Cond.code yX7_needsHost cX7_needsHost 2 (some .boolean) ∈ gtb := gt_mem (tb 417 (by decide +kernel)) rfl
theorem mo_X7_needsHost : MOk M_X7_needsHost := ⟨rfl, gc_X7_needsHost, gi_X7, rfl, by decide +kernel, by decide +kernel, by decide +kernel, by decide +kernel⟩
theorem gn_X7_needsHost : Cond.instanceMethod yX7_needsHost ∈ gtb := gt_mem (tb 415 (by decide +kernel)) rfl
theorem ge_X7_needsHost : Cond.selects RX7 yX7_needsHost yX7_needsHost ∈ gtb := gt_mem (tb 416 (by decide +kernel)) rfl
theorem gc_X7_hasMark : Cond.code yX7_hasMark cX7_hasMark 2 (some .boolean) ∈ gtb := gt_mem (tb 563 (by decide +kernel)) rfl
theorem mo_X7_hasMark : MOk M_X7_hasMark := ⟨rfl, gc_X7_hasMark, gi_X7, rfl, by decide +kernel, by decide +kernel, by decide +kernel, by decide +kernel⟩
theorem gn_X7_hasMark : Cond.instanceMethod yX7_hasMark ∈ gtb := gt_mem (tb 561 (by decide +kernel)) rfl
theorem ge_X7_hasMark : Cond.selects RX7 yX7_hasMark yX7_hasMark ∈ gtb := gt_mem (tb 562 (by decide +kernel)) rfl
theorem gc_X7_isMet : Cond.code yX7_isMet cX7_isMet 4 (some .boolean) ∈ gtb := gt_mem (tb 604 (by decide +kernel)) rfl
theorem mo_X7_isMet : MOk M_X7_isMet := ⟨rfl, gc_X7_isMet, gi_X7, rfl, by decide +kernel, by decide +kernel, by decide +kernel, by decide +kernel⟩
theorem gn_X7_isMet : Cond.instanceMethod yX7_isMet ∈ gtb := gt_mem (tb 602 (by decide +kernel)) rfl
theorem ge_X7_isMet : Cond.selects RX7 yX7_isMet yX7_isMet ∈ gtb := gt_mem (tb 603 (by decide +kernel)) rfl
theorem gc_X8_init : Cond.code yX8_init cX8_init 1 none ∈ gtb := gt_mem (tb 142 (by decide +kernel)) rfl
theorem mo_X8_init : MOk M_X8_init := ⟨rfl, gc_X8_init, gi_X8, rfl, by decide +kernel, by decide +kernel, by decide +kernel, by decide +kernel⟩
theorem gn_X8_init : Cond.instanceMethod yX8_init ∈ gtb := gt_mem (tb 141 (by decide +kernel)) rfl
theorem gc_X8_startAt : Cond.code yX8_startAt cX8_startAt 2 none ∈ gtb := gt_mem (tb 580 (by decide +kernel)) rfl
theorem mo_X8_startAt : MOk M_X8_startAt := ⟨rfl, gc_X8_startAt, gi_X8, rfl, by decide +kernel, by decide +kernel, by decide +kernel, by decide +kernel⟩
theorem gn_X8_startAt : Cond.instanceMethod yX8_startAt ∈ gtb := gt_mem (tb 578 (by decide +kernel)) rfl
theorem ge_X8_startAt : Cond.selects RX8 yX8_startAt yX8_startAt ∈ gtb := gt_mem (tb 579 (by decide +kernel)) rfl
theorem gc_X8_goOn : Cond.code yX8_goOn cX8_goOn 2 none ∈ gtb := gt_mem (tb 596 (by decide +kernel)) rfl
theorem mo_X8_goOn : MOk M_X8_goOn := ⟨rfl, gc_X8_goOn, gi_X8, rfl, by decide +kernel, by decide +kernel, by decide +kernel, by decide +kernel⟩
theorem gn_X8_goOn : Cond.instanceMethod yX8_goOn ∈ gtb := gt_mem (tb 594 (by decide +kernel)) rfl
theorem ge_X8_goOn : Cond.selects RX8 yX8_goOn yX8_goOn ∈ gtb := gt_mem (tb 595 (by decide +kernel)) rfl
theorem gc_X8_length : Cond.code yX8_length cX8_length 1 (some .int) ∈ gtb := gt_mem (tb 660 (by decide +kernel)) rfl
theorem mo_X8_length : MOk M_X8_length := ⟨rfl, gc_X8_length, gi_X8, rfl, by decide +kernel, by decide +kernel, by decide +kernel, by decide +kernel⟩
theorem gn_X8_length : Cond.instanceMethod yX8_length ∈ gtb := gt_mem (tb 658 (by decide +kernel)) rfl
theorem ge_X8_length : Cond.selects RX8 yX8_length yX8_length ∈ gtb := gt_mem (tb 659 (by decide +kernel)) rfl
theorem gc_X8_end : Cond.code yX8_end cX8_end 1 (some .int) ∈ gtb := gt_mem (tb 584 (by decide +kernel)) rfl
theorem mo_X8_end : MOk M_X8_end := ⟨rfl, gc_X8_end, gi_X8, rfl, by decide +kernel, by decide +kernel, by decide +kernel, by decide +kernel⟩
theorem gn_X8_end : Cond.instanceMethod yX8_end ∈ gtb := gt_mem (tb 582 (by decide +kernel)) rfl
theorem ge_X8_end : Cond.selects RX8 yX8_end yX8_end ∈ gtb := gt_mem (tb 583 (by decide +kernel)) rfl
theorem gc_X8_stop : Cond.code yX8_stop cX8_stop 2 (some .int) ∈ gtb := gt_mem (tb 669 (by decide +kernel)) rfl
theorem mo_X8_stop : MOk M_X8_stop := ⟨rfl, gc_X8_stop, gi_X8, rfl, by decide +kernel, by decide +kernel, by decide +kernel, by decide +kernel⟩
theorem gn_X8_stop : Cond.instanceMethod yX8_stop ∈ gtb := gt_mem (tb 667 (by decide +kernel)) rfl
theorem ge_X8_stop : Cond.selects RX8 yX8_stop yX8_stop ∈ gtb := gt_mem (tb 668 (by decide +kernel)) rfl
theorem gc_X8_last : Cond.code yX8_last cX8_last 1 (some .int) ∈ gtb := gt_mem (tb 588 (by decide +kernel)) rfl
theorem mo_X8_last : MOk M_X8_last := ⟨rfl, gc_X8_last, gi_X8, rfl, by decide +kernel, by decide +kernel, by decide +kernel, by decide +kernel⟩
theorem gn_X8_last : Cond.instanceMethod yX8_last ∈ gtb := gt_mem (tb 586 (by decide +kernel)) rfl
theorem ge_X8_last : Cond.selects RX8 yX8_last yX8_last ∈ gtb := gt_mem (tb 587 (by decide +kernel)) rfl
theorem gc_X8_passes : Cond.code yX8_passes cX8_passes 2 (some .boolean) ∈ gtb := gt_mem (tb 609 (by decide +kernel)) rfl
theorem mo_X8_passes : MOk M_X8_passes := ⟨rfl, gc_X8_passes, gi_X8, rfl, by decide +kernel, by decide +kernel, by decide +kernel, by decide +kernel⟩
theorem gn_X8_passes : Cond.instanceMethod yX8_passes ∈ gtb := gt_mem (tb 607 (by decide +kernel)) rfl
theorem ge_X8_passes : Cond.selects RX8 yX8_passes yX8_passes ∈ gtb := gt_mem (tb 608 (by decide +kernel)) rfl
theorem gc_X8_isLike : Cond.code yX8_isLike cX8_isLike 3 (some .boolean) ∈ gtb := gt_mem (tb 613 (by decide +kernel)) rfl
theorem mo_X8_isLike : MOk M_X8_isLike := ⟨rfl, gc_X8_isLike, gi_X8, rfl, by decide +kernel, by decide +kernel, by decide +kernel, by decide +kernel⟩
theorem gn_X8_isLike : Cond.instanceMethod yX8_isLike ∈ gtb := gt_mem (tb 611 (by decide +kernel)) rfl
theorem ge_X8_isLike : Cond.selects RX8 yX8_isLike yX8_isLike ∈ gtb := gt_mem (tb 612 (by decide +kernel)) rfl
theorem gc_X9_init : Cond.code yX9_init cX9_init 1 none ∈ gtb := gt_mem (tb 60 (by decide +kernel)) rfl
theorem mo_X9_init : MOk M_X9_init := ⟨rfl, gc_X9_init, gi_X9, rfl, by decide +kernel, by decide +kernel, by decide +kernel, by decide +kernel⟩
theorem gn_X9_init : Cond.instanceMethod yX9_init ∈ gtb := gt_mem (tb 59 (by decide +kernel)) rfl
theorem gc_X9_net : Cond.code yX9_net cX9_net 2 (some .boolean) ∈ gtb := gt_mem (tb 329 (by decide +kernel)) rfl
theorem mo_X9_net : MOk M_X9_net := ⟨rfl, gc_X9_net, gi_X9, rfl, by decide +kernel, by decide +kernel, by decide +kernel, by decide +kernel⟩
theorem gn_X9_net : Cond.instanceMethod yX9_net ∈ gtb := gt_mem (tb 327 (by decide +kernel)) rfl
theorem ge_X9_net : Cond.selects RX9 yX9_net yX9_net ∈ gtb := gt_mem (tb 328 (by decide +kernel)) rfl
theorem gc_X9_link : Cond.code yX9_link cX9_link 5 (some .boolean) ∈ gtb := gt_mem (tb 372 (by decide +kernel)) rfl
theorem mo_X9_link : MOk M_X9_link := ⟨rfl, gc_X9_link, gi_X9, rfl, by decide +kernel, by decide +kernel, by decide +kernel, by decide +kernel⟩
theorem gn_X9_link : Cond.instanceMethod yX9_link ∈ gtb := gt_mem (tb 370 (by decide +kernel)) rfl
theorem ge_X9_link : Cond.selects RX9 yX9_link yX9_link ∈ gtb := gt_mem (tb 371 (by decide +kernel)) rfl
theorem gc_X9_host : Cond.code yX9_host cX9_host 4 (some .int) ∈ gtb := gt_mem (tb 392 (by decide +kernel)) rfl
theorem mo_X9_host : MOk M_X9_host := ⟨rfl, gc_X9_host, gi_X9, rfl, by decide +kernel, by decide +kernel, by decide +kernel, by decide +kernel⟩
theorem gn_X9_host : Cond.instanceMethod yX9_host ∈ gtb := gt_mem (tb 390 (by decide +kernel)) rfl
theorem ge_X9_host : Cond.selects RX9 yX9_host yX9_host ∈ gtb := gt_mem (tb 391 (by decide +kernel)) rfl
theorem gc_X9_unplug : Cond.code yX9_unplug cX9_unplug 4 (some .boolean) ∈ gtb := gt_mem (tb 404 (by decide +kernel)) rfl
theorem mo_X9_unplug : MOk M_X9_unplug := ⟨rfl, gc_X9_unplug, gi_X9, rfl, by decide +kernel, by decide +kernel, by decide +kernel, by decide +kernel⟩
theorem gn_X9_unplug : Cond.instanceMethod yX9_unplug ∈ gtb := gt_mem (tb 402 (by decide +kernel)) rfl
theorem ge_X9_unplug : Cond.selects RX9 yX9_unplug yX9_unplug ∈ gtb := gt_mem (tb 403 (by decide +kernel)) rfl
theorem gc_X9_rule : Cond.code yX9_rule cX9_rule 8 (some .int) ∈ gtb := gt_mem (tb 428 (by decide +kernel)) rfl
theorem mo_X9_rule : MOk M_X9_rule := ⟨rfl, gc_X9_rule, gi_X9, rfl, by decide +kernel, by decide +kernel, by decide +kernel, by decide +kernel⟩
theorem gn_X9_rule : Cond.instanceMethod yX9_rule ∈ gtb := gt_mem (tb 426 (by decide +kernel)) rfl
theorem ge_X9_rule : Cond.selects RX9 yX9_rule yX9_rule ∈ gtb := gt_mem (tb 427 (by decide +kernel)) rfl
theorem gc_X9_strike : Cond.code yX9_strike cX9_strike 5 (some .int) ∈ gtb := gt_mem (tb 454 (by decide +kernel)) rfl
theorem mo_X9_strike : MOk M_X9_strike := ⟨rfl, gc_X9_strike, gi_X9, rfl, by decide +kernel, by decide +kernel, by decide +kernel, by decide +kernel⟩
theorem gn_X9_strike : Cond.instanceMethod yX9_strike ∈ gtb := gt_mem (tb 452 (by decide +kernel)) rfl
theorem ge_X9_strike : Cond.selects RX9 yX9_strike yX9_strike ∈ gtb := gt_mem (tb 453 (by decide +kernel)) rfl
theorem gc_X9_copy : Cond.code yX9_copy cX9_copy 5 (some .int) ∈ gtb := gt_mem (tb 462 (by decide +kernel)) rfl
theorem mo_X9_copy : MOk M_X9_copy := ⟨rfl, gc_X9_copy, gi_X9, rfl, by decide +kernel, by decide +kernel, by decide +kernel, by decide +kernel⟩
theorem gn_X9_copy : Cond.instanceMethod yX9_copy ∈ gtb := gt_mem (tb 460 (by decide +kernel)) rfl
theorem ge_X9_copy : Cond.selects RX9 yX9_copy yX9_copy ∈ gtb := gt_mem (tb 461 (by decide +kernel)) rfl
theorem gc_X9_want : Cond.code yX9_want cX9_want 7 (some .int) ∈ gtb := gt_mem (tb 470 (by decide +kernel)) rfl
theorem mo_X9_want : MOk M_X9_want := ⟨rfl, gc_X9_want, gi_X9, rfl, by decide +kernel, by decide +kernel, by decide +kernel, by decide +kernel⟩
theorem gn_X9_want : Cond.instanceMethod yX9_want ∈ gtb := gt_mem (tb 468 (by decide +kernel)) rfl
theorem ge_X9_want : Cond.selects RX9 yX9_want yX9_want ∈ gtb := gt_mem (tb 469 (by decide +kernel)) rfl
theorem gc_X9_unwant : Cond.code yX9_unwant cX9_unwant 2 (some .int) ∈ gtb := gt_mem (tb 490 (by decide +kernel)) rfl
theorem mo_X9_unwant : MOk M_X9_unwant := ⟨rfl, gc_X9_unwant, gi_X9, rfl, by decide +kernel, by decide +kernel, by decide +kernel, by decide +kernel⟩
theorem gn_X9_unwant : Cond.instanceMethod yX9_unwant ∈ gtb := gt_mem (tb 488 (by decide +kernel)) rfl
theorem ge_X9_unwant : Cond.selects RX9 yX9_unwant yX9_unwant ∈ gtb := gt_mem (tb 489 (by decide +kernel)) rfl
theorem gc_X9_look : Cond.code yX9_look cX9_look 2 (some .int) ∈ gtb := gt_mem (tb 502 (by decide +kernel)) rfl
theorem mo_X9_look : MOk M_X9_look := ⟨rfl, gc_X9_look, gi_X9, rfl, by decide +kernel, by decide +kernel, by decide +kernel, by decide +kernel⟩
theorem gn_X9_look : Cond.instanceMethod yX9_look ∈ gtb := gt_mem (tb 500 (by decide +kernel)) rfl
theorem ge_X9_look : Cond.selects RX9 yX9_look yX9_look ∈ gtb := gt_mem (tb 501 (by decide +kernel)) rfl
theorem gc_X9_ofClass : Cond.code yX9_ofClass cX9_ofClass 2 (some .int) ∈ gtb := gt_mem (tb 641 (by decide +kernel)) rfl
theorem mo_X9_ofClass : MOk M_X9_ofClass := ⟨rfl, gc_X9_ofClass, gi_X9, rfl, by decide +kernel, by decide +kernel, by decide +kernel, by decide +kernel⟩
theorem gn_X9_ofClass : Cond.instanceMethod yX9_ofClass ∈ gtb := gt_mem (tb 639 (by decide +kernel)) rfl
theorem ge_X9_ofClass : Cond.selects RX9 yX9_ofClass yX9_ofClass ∈ gtb := gt_mem (tb 640 (by decide +kernel)) rfl
theorem gc_X9_way : Cond.code yX9_way cX9_way 4 (some .int) ∈ gtb := gt_mem (tb 650 (by decide +kernel)) rfl
theorem mo_X9_way : MOk M_X9_way := ⟨rfl, gc_X9_way, gi_X9, rfl, by decide +kernel, by decide +kernel, by decide +kernel, by decide +kernel⟩
theorem gn_X9_way : Cond.instanceMethod yX9_way ∈ gtb := gt_mem (tb 648 (by decide +kernel)) rfl
theorem ge_X9_way : Cond.selects RX9 yX9_way yX9_way ∈ gtb := gt_mem (tb 649 (by decide +kernel)) rfl
theorem gc_X9_on : Cond.code yX9_on cX9_on 2 (some .int) ∈ gtb := gt_mem (tb 664 (by decide +kernel)) rfl
theorem mo_X9_on : MOk M_X9_on := ⟨rfl, gc_X9_on, gi_X9, rfl, by decide +kernel, by decide +kernel, by decide +kernel, by decide +kernel⟩
theorem gn_X9_on : Cond.instanceMethod yX9_on ∈ gtb := gt_mem (tb 662 (by decide +kernel)) rfl
theorem ge_X9_on : Cond.selects RX9 yX9_on yX9_on ∈ gtb := gt_mem (tb 663 (by decide +kernel)) rfl
theorem gc_X9_holds : Cond.code yX9_holds cX9_holds 3 (some .int) ∈ gtb := gt_mem (tb 673 (by decide +kernel)) rfl
theorem mo_X9_holds : MOk M_X9_holds := ⟨rfl, gc_X9_holds, gi_X9, rfl, by decide +kernel, by decide +kernel, by decide +kernel, by decide +kernel⟩
theorem gn_X9_holds : Cond.instanceMethod yX9_holds ∈ gtb := gt_mem (tb 671 (by decide +kernel)) rfl
theorem ge_X9_holds : Cond.selects RX9 yX9_holds yX9_holds ∈ gtb := gt_mem (tb 672 (by decide +kernel)) rfl
theorem gc_X9_kept : Cond.code yX9_kept cX9_kept 2 (some .int) ∈ gtb := gt_mem (tb 679 (by decide +kernel)) rfl
theorem mo_X9_kept : MOk M_X9_kept := ⟨rfl, gc_X9_kept, gi_X9, rfl, by decide +kernel, by decide +kernel, by decide +kernel, by decide +kernel⟩
theorem gn_X9_kept : Cond.instanceMethod yX9_kept ∈ gtb := gt_mem (tb 677 (by decide +kernel)) rfl
theorem ge_X9_kept : Cond.selects RX9 yX9_kept yX9_kept ∈ gtb := gt_mem (tb 678 (by decide +kernel)) rfl
theorem gc_X9_why : Cond.code yX9_why cX9_why 4 (some .int) ∈ gtb := gt_mem (tb 687 (by decide +kernel)) rfl
theorem mo_X9_why : MOk M_X9_why := ⟨rfl, gc_X9_why, gi_X9, rfl, by decide +kernel, by decide +kernel, by decide +kernel, by decide +kernel⟩
theorem gn_X9_why : Cond.instanceMethod yX9_why ∈ gtb := gt_mem (tb 685 (by decide +kernel)) rfl
theorem ge_X9_why : Cond.selects RX9 yX9_why yX9_why ∈ gtb := gt_mem (tb 686 (by decide +kernel)) rfl
theorem gc_X9_least : Cond.code yX9_least cX9_least 1 (some .int) ∈ gtb := gt_mem (tb 695 (by decide +kernel)) rfl
theorem mo_X9_least : MOk M_X9_least := ⟨rfl, gc_X9_least, gi_X9, rfl, by decide +kernel, by decide +kernel, by decide +kernel, by decide +kernel⟩
theorem gn_X9_least : Cond.instanceMethod yX9_least ∈ gtb := gt_mem (tb 693 (by decide +kernel)) rfl
theorem ge_X9_least : Cond.selects RX9 yX9_least yX9_least ∈ gtb := gt_mem (tb 694 (by decide +kernel)) rfl
theorem gc_X9_orders : Cond.code yX9_orders cX9_orders 1 (some .int) ∈ gtb := gt_mem (tb 722 (by decide +kernel)) rfl
theorem mo_X9_orders : MOk M_X9_orders := ⟨rfl, gc_X9_orders, gi_X9, rfl, by decide +kernel, by decide +kernel, by decide +kernel, by decide +kernel⟩
theorem gn_X9_orders : Cond.instanceMethod yX9_orders ∈ gtb := gt_mem (tb 720 (by decide +kernel)) rfl
theorem ge_X9_orders : Cond.selects RX9 yX9_orders yX9_orders ∈ gtb := gt_mem (tb 721 (by decide +kernel)) rfl
theorem gc_X9_order : Cond.code yX9_order cX9_order 2 (some .boolean) ∈ gtb := gt_mem (tb 742 (by decide +kernel)) rfl
theorem mo_X9_order : MOk M_X9_order := ⟨rfl, gc_X9_order, gi_X9, rfl, by decide +kernel, by decide +kernel, by decide +kernel, by decide +kernel⟩
theorem gn_X9_order : Cond.instanceMethod yX9_order ∈ gtb := gt_mem (tb 740 (by decide +kernel)) rfl
theorem ge_X9_order : Cond.selects RX9 yX9_order yX9_order ∈ gtb := gt_mem (tb 741 (by decide +kernel)) rfl
theorem gc_X9_round : Cond.code yX9_round cX9_round 3 (some .int) ∈ gtb := gt_mem (tb 750 (by decide +kernel)) rfl
theorem mo_X9_round : MOk M_X9_round := ⟨rfl, gc_X9_round, gi_X9, rfl, by decide +kernel, by decide +kernel, by decide +kernel, by decide +kernel⟩
theorem gn_X9_round : Cond.instanceMethod yX9_round ∈ gtb := gt_mem (tb 748 (by decide +kernel)) rfl
theorem ge_X9_round : Cond.selects RX9 yX9_round yX9_round ∈ gtb := gt_mem (tb 749 (by decide +kernel)) rfl
theorem gc_X9_empty : Cond.code yX9_empty cX9_empty 1 none ∈ gtb := gt_mem (tb 755 (by decide +kernel)) rfl
theorem mo_X9_empty : MOk M_X9_empty := ⟨rfl, gc_X9_empty, gi_X9, rfl, by decide +kernel, by decide +kernel, by decide +kernel, by decide +kernel⟩
theorem gn_X9_empty : Cond.instanceMethod yX9_empty ∈ gtb := gt_mem (tb 753 (by decide +kernel)) rfl
theorem ge_X9_empty : Cond.selects RX9 yX9_empty yX9_empty ∈ gtb := gt_mem (tb 754 (by decide +kernel)) rfl
theorem gc_X9_plan : Cond.code yX9_plan cX9_plan 2 (some .int) ∈ gtb := gt_mem (tb 759 (by decide +kernel)) rfl
theorem mo_X9_plan : MOk M_X9_plan := ⟨rfl, gc_X9_plan, gi_X9, rfl, by decide +kernel, by decide +kernel, by decide +kernel, by decide +kernel⟩
theorem gn_X9_plan : Cond.instanceMethod yX9_plan ∈ gtb := gt_mem (tb 757 (by decide +kernel)) rfl
theorem ge_X9_plan : Cond.selects RX9 yX9_plan yX9_plan ∈ gtb := gt_mem (tb 758 (by decide +kernel)) rfl
theorem gc_X9_mid : Cond.code yX9_mid cX9_mid 2 (some .int) ∈ gtb := gt_mem (tb 772 (by decide +kernel)) rfl
theorem mo_X9_mid : MOk M_X9_mid := ⟨rfl, gc_X9_mid, gi_X9, rfl, by decide +kernel, by decide +kernel, by decide +kernel, by decide +kernel⟩
theorem gn_X9_mid : Cond.instanceMethod yX9_mid ∈ gtb := gt_mem (tb 770 (by decide +kernel)) rfl
theorem ge_X9_mid : Cond.selects RX9 yX9_mid yX9_mid ∈ gtb := gt_mem (tb 771 (by decide +kernel)) rfl
theorem gc_X9_begin : Cond.code yX9_begin cX9_begin 1 (some .boolean) ∈ gtb := gt_mem (tb 781 (by decide +kernel)) rfl
theorem mo_X9_begin : MOk M_X9_begin := ⟨rfl, gc_X9_begin, gi_X9, rfl, by decide +kernel, by decide +kernel, by decide +kernel, by decide +kernel⟩
theorem gn_X9_begin : Cond.instanceMethod yX9_begin ∈ gtb := gt_mem (tb 779 (by decide +kernel)) rfl
theorem ge_X9_begin : Cond.selects RX9 yX9_begin yX9_begin ∈ gtb := gt_mem (tb 780 (by decide +kernel)) rfl
theorem gc_X9_send : Cond.code yX9_send cX9_send 3 (some .int) ∈ gtb := gt_mem (tb 789 (by decide +kernel)) rfl
theorem mo_X9_send : MOk M_X9_send := ⟨rfl, gc_X9_send, gi_X9, rfl, by decide +kernel, by decide +kernel, by decide +kernel, by decide +kernel⟩
theorem gn_X9_send : Cond.instanceMethod yX9_send ∈ gtb := gt_mem (tb 787 (by decide +kernel)) rfl
theorem ge_X9_send : Cond.selects RX9 yX9_send yX9_send ∈ gtb := gt_mem (tb 788 (by decide +kernel)) rfl
theorem gc_X9_hop : Cond.code yX9_hop cX9_hop 3 (some .int) ∈ gtb := gt_mem (tb 811 (by decide +kernel)) rfl
theorem mo_X9_hop : MOk M_X9_hop := ⟨rfl, gc_X9_hop, gi_X9, rfl, by decide +kernel, by decide +kernel, by decide +kernel, by decide +kernel⟩
theorem gn_X9_hop : Cond.instanceMethod yX9_hop ∈ gtb := gt_mem (tb 809 (by decide +kernel)) rfl
theorem ge_X9_hop : Cond.selects RX9 yX9_hop yX9_hop ∈ gtb := gt_mem (tb 810 (by decide +kernel)) rfl
theorem gc_X9_change : Cond.code yX9_change cX9_change 2 (some .int) ∈ gtb := gt_mem (tb 845 (by decide +kernel)) rfl
theorem mo_X9_change : MOk M_X9_change := ⟨rfl, gc_X9_change, gi_X9, rfl, by decide +kernel, by decide +kernel, by decide +kernel, by decide +kernel⟩
theorem gn_X9_change : Cond.instanceMethod yX9_change ∈ gtb := gt_mem (tb 843 (by decide +kernel)) rfl
theorem ge_X9_change : Cond.selects RX9 yX9_change yX9_change ∈ gtb := gt_mem (tb 844 (by decide +kernel)) rfl
theorem gc_X9_next : Cond.code yX9_next cX9_next 1 (some .int) ∈ gtb := gt_mem (tb 865 (by decide +kernel)) rfl
theorem mo_X9_next : MOk M_X9_next := ⟨rfl, gc_X9_next, gi_X9, rfl, by decide +kernel, by decide +kernel, by decide +kernel, by decide +kernel⟩
theorem gn_X9_next : Cond.instanceMethod yX9_next ∈ gtb := gt_mem (tb 863 (by decide +kernel)) rfl
theorem ge_X9_next : Cond.selects RX9 yX9_next yX9_next ∈ gtb := gt_mem (tb 864 (by decide +kernel)) rfl
theorem gc_X9_run : Cond.code yX9_run cX9_run 2 (some .int) ∈ gtb := gt_mem (tb 874 (by decide +kernel)) rfl
theorem mo_X9_run : MOk M_X9_run := ⟨rfl, gc_X9_run, gi_X9, rfl, by decide +kernel, by decide +kernel, by decide +kernel, by decide +kernel⟩
theorem gn_X9_run : Cond.instanceMethod yX9_run ∈ gtb := gt_mem (tb 872 (by decide +kernel)) rfl
theorem ge_X9_run : Cond.selects RX9 yX9_run yX9_run ∈ gtb := gt_mem (tb 873 (by decide +kernel)) rfl
theorem gc_X9_packet : Cond.code yX9_packet cX9_packet 4 (some .int) ∈ gtb := gt_mem (tb 882 (by decide +kernel)) rfl
theorem mo_X9_packet : MOk M_X9_packet := ⟨rfl, gc_X9_packet, gi_X9, rfl, by decide +kernel, by decide +kernel, by decide +kernel, by decide +kernel⟩
theorem gn_X9_packet : Cond.instanceMethod yX9_packet ∈ gtb := gt_mem (tb 880 (by decide +kernel)) rfl
theorem ge_X9_packet : Cond.selects RX9 yX9_packet yX9_packet ∈ gtb := gt_mem (tb 881 (by decide +kernel)) rfl
theorem gc_X9_startAfresh : Cond.code yX9_startAfresh cX9_startAfresh 1 none ∈ gtb := gt_mem (tb 352 (by decide +kernel)) rfl
theorem mo_X9_startAfresh : MOk M_X9_startAfresh := ⟨rfl, gc_X9_startAfresh, gi_X9, rfl, by decide +kernel, by decide +kernel, by decide +kernel, by decide +kernel⟩
theorem gn_X9_startAfresh : Cond.instanceMethod yX9_startAfresh ∈ gtb := gt_mem (tb 351 (by decide +kernel)) rfl
theorem ge_X9_startAfresh : Cond.selects RX9 yX9_startAfresh yX9_startAfresh ∈ gtb := gt_mem (tb 1 (by decide +kernel)) rfl
theorem gc_X9_isMark : Cond.code yX9_isMark cX9_isMark 1 (some .boolean) ∈ gtb := gt_mem (tb 442 (by decide +kernel)) rfl
theorem mo_X9_isMark : MOk M_X9_isMark := ⟨rfl, gc_X9_isMark, gi_X9, rfl, by decide +kernel, by decide +kernel, by decide +kernel, by decide +kernel⟩
theorem gs_X9_isMark : Cond.static yX9_isMark ∈ gtb := gt_mem (tb 441 (by decide +kernel)) rfl
theorem gc_X9_isSpan : Cond.code yX9_isSpan cX9_isSpan 2 (some .boolean) ∈ gtb := gt_mem (tb 439 (by decide +kernel)) rfl
theorem mo_X9_isSpan : MOk M_X9_isSpan := ⟨rfl, gc_X9_isSpan, gi_X9, rfl, by decide +kernel, by decide +kernel, by decide +kernel, by decide +kernel⟩
theorem gs_X9_isSpan : Cond.static yX9_isSpan ∈ gtb := gt_mem (tb 438 (by decide +kernel)) rfl
theorem gc_X9_spanHas : Cond.code yX9_spanHas cX9_spanHas 3 (some .boolean) ∈ gtb := gt_mem (tb 344 (by decide +kernel)) rfl
theorem mo_X9_spanHas : MOk M_X9_spanHas := ⟨rfl, gc_X9_spanHas, gi_X9, rfl, by decide +kernel, by decide +kernel, by decide +kernel, by decide +kernel⟩
theorem gs_X9_spanHas : Cond.static yX9_spanHas ∈ gtb := gt_mem (tb 343 (by decide +kernel)) rfl
theorem gc_X9_hasTarget : Cond.code yX9_hasTarget cX9_hasTarget 1 (some .boolean) ∈ gtb := gt_mem (tb 420 (by decide +kernel)) rfl
theorem mo_X9_hasTarget : MOk M_X9_hasTarget := ⟨rfl, gc_X9_hasTarget, gi_X9, rfl, by decide +kernel, by decide +kernel, by decide +kernel, by decide +kernel⟩
theorem gs_X9_hasTarget : Cond.static yX9_hasTarget ∈ gtb := gt_mem (tb 419 (by decide +kernel)) rfl
theorem gc_X9_isWithin : Cond.code yX9_isWithin cX9_isWithin 2 (some .boolean) ∈ gtb := gt_mem (tb 617 (by decide +kernel)) rfl
theorem mo_X9_isWithin : MOk M_X9_isWithin := ⟨rfl, gc_X9_isWithin, gi_X9, rfl, by decide +kernel, by decide +kernel, by decide +kernel, by decide +kernel⟩
theorem gs_X9_isWithin : Cond.static yX9_isWithin ∈ gtb := gt_mem (tb 616 (by decide +kernel)) rfl
theorem gc_X10_init : Cond.code yX10_init cX10_init 1 none ∈ gtb := gt_mem (tb 895 (by decide +kernel)) rfl
theorem mo_X10_init : MOk M_X10_init := ⟨rfl, gc_X10_init, gi_X10, rfl, by decide +kernel, by decide +kernel, by decide +kernel, by decide +kernel⟩
theorem gn_X10_init : Cond.instanceMethod yX10_init ∈ gtb := gt_mem (tb 894 (by decide +kernel)) rfl
theorem gc_X10_isIn : Cond.code yX10_isIn cX10_isIn 3 (some .boolean) ∈ gtb := gt_mem (tb 1025 (by decide +kernel)) rfl
theorem mo_X10_isIn : MOk M_X10_isIn := ⟨rfl, gc_X10_isIn, gi_X10, rfl, by decide +kernel, by decide +kernel, by decide +kernel, by decide +kernel⟩
theorem gs_X10_isIn : Cond.static yX10_isIn ∈ gtb := gt_mem (tb 1024 (by decide +kernel)) rfl
theorem gc_X10_clear : Cond.code yX10_clear cX10_clear 3 none ∈ gtb := gt_mem (tb 900 (by decide +kernel)) rfl
theorem mo_X10_clear : MOk M_X10_clear := ⟨rfl, gc_X10_clear, gi_X10, rfl, by decide +kernel, by decide +kernel, by decide +kernel, by decide +kernel⟩
theorem gn_X10_clear : Cond.instanceMethod yX10_clear ∈ gtb := gt_mem (tb 899 (by decide +kernel)) rfl
theorem ge_X10_clear : Cond.selects RX10 yX10_clear yX10_clear ∈ gtb := gt_mem (tb 16 (by decide +kernel)) rfl
theorem gc_X10_isPort : Cond.code yX10_isPort cX10_isPort 3 (some .boolean) ∈ gtb := gt_mem (tb 1033 (by decide +kernel)) rfl
theorem mo_X10_isPort : MOk M_X10_isPort := ⟨rfl, gc_X10_isPort, gi_X10, rfl, by decide +kernel, by decide +kernel, by decide +kernel, by decide +kernel⟩
theorem gn_X10_isPort : Cond.instanceMethod yX10_isPort ∈ gtb := gt_mem (tb 1032 (by decide +kernel)) rfl
theorem ge_X10_isPort : Cond.selects RX10 yX10_isPort yX10_isPort ∈ gtb := gt_mem (tb 18 (by decide +kernel)) rfl
theorem gc_X10_isSpan : Cond.code yX10_isSpan cX10_isSpan 3 (some .boolean) ∈ gtb := gt_mem (tb 1056 (by decide +kernel)) rfl
theorem mo_X10_isSpan : MOk M_X10_isSpan := ⟨rfl, gc_X10_isSpan, gi_X10, rfl, by decide +kernel, by decide +kernel, by decide +kernel, by decide +kernel⟩
theorem gn_X10_isSpan : Cond.instanceMethod yX10_isSpan ∈ gtb := gt_mem (tb 1055 (by decide +kernel)) rfl
theorem ge_X10_isSpan : Cond.selects RX10 yX10_isSpan yX10_isSpan ∈ gtb := gt_mem (tb 20 (by decide +kernel)) rfl
theorem gc_X10_net : Cond.code yX10_net cX10_net 2 (some .boolean) ∈ gtb := gt_mem (tb 1022 (by decide +kernel)) rfl
theorem mo_X10_net : MOk M_X10_net := ⟨rfl, gc_X10_net, gi_X10, rfl, by decide +kernel, by decide +kernel, by decide +kernel, by decide +kernel⟩
theorem gn_X10_net : Cond.instanceMethod yX10_net ∈ gtb := gt_mem (tb 1020 (by decide +kernel)) rfl
theorem ge_X10_net : Cond.selects RX10 yX10_net yX10_net ∈ gtb := gt_mem (tb 1021 (by decide +kernel)) rfl
theorem gc_X10_link : Cond.code yX10_link cX10_link 5 (some .boolean) ∈ gtb := gt_mem (tb 1029 (by decide +kernel)) rfl
theorem mo_X10_link : MOk M_X10_link := ⟨rfl, gc_X10_link, gi_X10, rfl, by decide +kernel, by decide +kernel, by decide +kernel, by decide +kernel⟩
theorem gn_X10_link : Cond.instanceMethod yX10_link ∈ gtb := gt_mem (tb 1027 (by decide +kernel)) rfl
theorem ge_X10_link : Cond.selects RX10 yX10_link yX10_link ∈ gtb := gt_mem (tb 1028 (by decide +kernel)) rfl
theorem gc_X10_host : Cond.code yX10_host cX10_host 3 (some .int) ∈ gtb := gt_mem (tb 1037 (by decide +kernel)) rfl
theorem mo_X10_host : MOk M_X10_host := ⟨rfl, gc_X10_host, gi_X10, rfl, by decide +kernel, by decide +kernel, by decide +kernel, by decide +kernel⟩
theorem gn_X10_host : Cond.instanceMethod yX10_host ∈ gtb := gt_mem (tb 1035 (by decide +kernel)) rfl
theorem ge_X10_host : Cond.selects RX10 yX10_host yX10_host ∈ gtb := gt_mem (tb 1036 (by decide +kernel)) rfl
theorem gc_X10_isOf : Cond.code yX10_isOf cX10_isOf 3 (some .boolean) ∈ gtb := gt_mem (tb 1045 (by decide +kernel)) rfl
theorem mo_X10_isOf : MOk M_X10_isOf := ⟨rfl, gc_X10_isOf, gi_X10, rfl, by decide +kernel, by decide +kernel, by decide +kernel, by decide +kernel⟩
theorem gn_X10_isOf : Cond.instanceMethod yX10_isOf ∈ gtb := gt_mem (tb 1044 (by decide +kernel)) rfl
theorem ge_X10_isOf : Cond.selects RX10 yX10_isOf yX10_isOf ∈ gtb := gt_mem (tb 19 (by decide +kernel)) rfl
theorem gc_X10_hasGoal : Cond.code yX10_hasGoal cX10_hasGoal 1 (some .boolean) ∈ gtb := gt_mem (tb 1048 (by decide +kernel)) rfl
theorem mo_X10_hasGoal : MOk M_X10_hasGoal := ⟨rfl, gc_X10_hasGoal, gi_X10, rfl, by decide +kernel, by decide +kernel, by decide +kernel, by decide +kernel⟩
theorem gs_X10_hasGoal : Cond.static yX10_hasGoal ∈ gtb := gt_mem (tb 1047 (by decide +kernel)) rfl
theorem gc_X10_unplug : Cond.code yX10_unplug cX10_unplug 5 (some .boolean) ∈ gtb := gt_mem (tb 1041 (by decide +kernel)) rfl
theorem mo_X10_unplug : MOk M_X10_unplug := ⟨rfl, gc_X10_unplug, gi_X10, rfl, by decide +kernel, by decide +kernel, by decide +kernel, by decide +kernel⟩
theorem gn_X10_unplug : Cond.instanceMethod yX10_unplug ∈ gtb := gt_mem (tb 1039 (by decide +kernel)) rfl
theorem ge_X10_unplug : Cond.selects RX10 yX10_unplug yX10_unplug ∈ gtb := gt_mem (tb 1040 (by decide +kernel)) rfl
theorem gc_X10_ruleAt : Cond.code yX10_ruleAt cX10_ruleAt 4 (some .int) ∈ gtb := gt_mem (tb 1060 (by decide +kernel)) rfl
theorem mo_X10_ruleAt : MOk M_X10_ruleAt := ⟨rfl, gc_X10_ruleAt, gi_X10, rfl, by decide +kernel, by decide +kernel, by decide +kernel, by decide +kernel⟩
theorem gn_X10_ruleAt : Cond.instanceMethod yX10_ruleAt ∈ gtb := gt_mem (tb 1059 (by decide +kernel)) rfl
theorem ge_X10_ruleAt : Cond.selects RX10 yX10_ruleAt yX10_ruleAt ∈ gtb := gt_mem (tb 21 (by decide +kernel)) rfl
theorem gc_X10_rule : Cond.code yX10_rule cX10_rule 9 (some .int) ∈ gtb := gt_mem (tb 1052 (by decide +kernel)) rfl
theorem mo_X10_rule : MOk M_X10_rule := ⟨rfl, gc_X10_rule, gi_X10, rfl, by decide +kernel, by decide +kernel, by decide +kernel, by decide +kernel⟩
theorem gn_X10_rule : Cond.instanceMethod yX10_rule ∈ gtb := gt_mem (tb 1050 (by decide +kernel)) rfl
theorem ge_X10_rule : Cond.selects RX10 yX10_rule yX10_rule ∈ gtb := gt_mem (tb 1051 (by decide +kernel)) rfl
theorem gc_X10_strike : Cond.code yX10_strike cX10_strike 5 (some .int) ∈ gtb := gt_mem (tb 1064 (by decide +kernel)) rfl
theorem mo_X10_strike : MOk M_X10_strike := ⟨rfl, gc_X10_strike, gi_X10, rfl, by decide +kernel, by decide +kernel, by decide +kernel, by decide +kernel⟩
theorem gn_X10_strike : Cond.instanceMethod yX10_strike ∈ gtb := gt_mem (tb 1062 (by decide +kernel)) rfl
theorem ge_X10_strike : Cond.selects RX10 yX10_strike yX10_strike ∈ gtb := gt_mem (tb 1063 (by decide +kernel)) rfl
theorem gc_X10_copy : Cond.code yX10_copy cX10_copy 6 (some .int) ∈ gtb := gt_mem (tb 1068 (by decide +kernel)) rfl
theorem mo_X10_copy : MOk M_X10_copy := ⟨rfl, gc_X10_copy, gi_X10, rfl, by decide +kernel, by decide +kernel, by decide +kernel, by decide +kernel⟩
theorem gn_X10_copy : Cond.instanceMethod yX10_copy ∈ gtb := gt_mem (tb 1066 (by decide +kernel)) rfl
theorem ge_X10_copy : Cond.selects RX10 yX10_copy yX10_copy ∈ gtb := gt_mem (tb 1067 (by decide +kernel)) rfl
theorem gc_X10_want : Cond.code yX10_want cX10_want 8 (some .int) ∈ gtb := gt_mem (tb 1072 (by decide +kernel)) rfl
theorem mo_X10_want : MOk M_X10_want := ⟨rfl, gc_X10_want, gi_X10, rfl, by decide +kernel, by decide +kernel, by decide +kernel, by decide +kernel⟩
theorem gn_X10_want : Cond.instanceMethod yX10_want ∈ gtb := gt_mem (tb 1070 (by decide +kernel)) rfl
theorem ge_X10_want : Cond.selects RX10 yX10_want yX10_want ∈ gtb := gt_mem (tb 1071 (by decide +kernel)) rfl
theorem gc_X10_unwant : Cond.code yX10_unwant cX10_unwant 3 (some .int) ∈ gtb := gt_mem (tb 1076 (by decide +kernel)) rfl
theorem mo_X10_unwant : MOk M_X10_unwant := ⟨rfl, gc_X10_unwant, gi_X10, rfl, by decide +kernel, by decide +kernel, by decide +kernel, by decide +kernel⟩
theorem gn_X10_unwant : Cond.instanceMethod yX10_unwant ∈ gtb := gt_mem (tb 1074 (by decide +kernel)) rfl
theorem ge_X10_unwant : Cond.selects RX10 yX10_unwant yX10_unwant ∈ gtb := gt_mem (tb 1075 (by decide +kernel)) rfl
theorem gc_X10_isOfSpan : Cond.code yX10_isOfSpan cX10_isOfSpan 3 (some .boolean) ∈ gtb := gt_mem (tb 1103 (by decide +kernel)) rfl
theorem mo_X10_isOfSpan : MOk M_X10_isOfSpan := ⟨rfl, gc_X10_isOfSpan, gi_X10, rfl, by decide +kernel, by decide +kernel, by decide +kernel, by decide +kernel⟩
theorem gs_X10_isOfSpan : Cond.static yX10_isOfSpan ∈ gtb := gt_mem (tb 1102 (by decide +kernel)) rfl
theorem gc_X10_actOf : Cond.code yX10_actOf cX10_actOf 8 (some .int) ∈ gtb := gt_mem (tb 1100 (by decide +kernel)) rfl
theorem mo_X10_actOf : MOk M_X10_actOf := ⟨rfl, gc_X10_actOf, gi_X10, rfl, by decide +kernel, by decide +kernel, by decide +kernel, by decide +kernel⟩
theorem gn_X10_actOf : Cond.instanceMethod yX10_actOf ∈ gtb := gt_mem (tb 1099 (by decide +kernel)) rfl
theorem ge_X10_actOf : Cond.selects RX10 yX10_actOf yX10_actOf ∈ gtb := gt_mem (tb 26 (by decide +kernel)) rfl
theorem gc_X10_goes : Cond.code yX10_goes cX10_goes 6 (some .int) ∈ gtb := gt_mem (tb 1096 (by decide +kernel)) rfl
theorem mo_X10_goes : MOk M_X10_goes := ⟨rfl, gc_X10_goes, gi_X10, rfl, by decide +kernel, by decide +kernel, by decide +kernel, by decide +kernel⟩
theorem gn_X10_goes : Cond.instanceMethod yX10_goes ∈ gtb := gt_mem (tb 1095 (by decide +kernel)) rfl
theorem ge_X10_goes : Cond.selects RX10 yX10_goes yX10_goes ∈ gtb := gt_mem (tb 25 (by decide +kernel)) rfl
theorem gc_X10_walks : Cond.code yX10_walks cX10_walks 7 none ∈ gtb := gt_mem (tb 1092 (by decide +kernel)) rfl
theorem mo_X10_walks : MOk M_X10_walks := ⟨rfl, gc_X10_walks, gi_X10, rfl, by decide +kernel, by decide +kernel, by decide +kernel, by decide +kernel⟩
theorem gn_X10_walks : Cond.instanceMethod yX10_walks ∈ gtb := gt_mem (tb 1091 (by decide +kernel)) rfl
theorem ge_X10_walks : Cond.selects RX10 yX10_walks yX10_walks ∈ gtb := gt_mem (tb 24 (by decide +kernel)) rfl
theorem gc_X10_all : Cond.code yX10_all cX10_all 1 (some .int) ∈ gtb := gt_mem (tb 1088 (by decide +kernel)) rfl
theorem mo_X10_all : MOk M_X10_all := ⟨rfl, gc_X10_all, gi_X10, rfl, by decide +kernel, by decide +kernel, by decide +kernel, by decide +kernel⟩
theorem gn_X10_all : Cond.instanceMethod yX10_all ∈ gtb := gt_mem (tb 1087 (by decide +kernel)) rfl
theorem ge_X10_all : Cond.selects RX10 yX10_all yX10_all ∈ gtb := gt_mem (tb 23 (by decide +kernel)) rfl
theorem gc_X10_isMixture : Cond.code yX10_isMixture cX10_isMixture 2 (some .boolean) ∈ gtb := gt_mem (tb 1084 (by decide +kernel)) rfl
theorem mo_X10_isMixture : MOk M_X10_isMixture := ⟨rfl, gc_X10_isMixture, gi_X10, rfl, by decide +kernel, by decide +kernel, by decide +kernel, by decide +kernel⟩
theorem gn_X10_isMixture : Cond.instanceMethod yX10_isMixture ∈ gtb := gt_mem (tb 1083 (by decide +kernel)) rfl
theorem ge_X10_isMixture : Cond.selects RX10 yX10_isMixture yX10_isMixture ∈ gtb := gt_mem (tb 22 (by decide +kernel)) rfl
theorem gc_X10_way : Cond.code yX10_way cX10_way 5 (some .int) ∈ gtb := gt_mem (tb 1080 (by decide +kernel)) rfl
theorem mo_X10_way : MOk M_X10_way := ⟨rfl, gc_X10_way, gi_X10, rfl, by decide +kernel, by decide +kernel, by decide +kernel, by decide +kernel⟩
theorem gn_X10_way : Cond.instanceMethod yX10_way ∈ gtb := gt_mem (tb 1078 (by decide +kernel)) rfl
theorem ge_X10_way : Cond.selects RX10 yX10_way yX10_way ∈ gtb := gt_mem (tb 1079 (by decide +kernel)) rfl
theorem gc_X10_on : Cond.code yX10_on cX10_on 2 (some .int) ∈ gtb := gt_mem (tb 1107 (by decide +kernel)) rfl
theorem mo_X10_on : MOk M_X10_on := ⟨rfl, gc_X10_on, gi_X10, rfl, by decide +kernel, by decide +kernel, by decide +kernel, by decide +kernel⟩
theorem gn_X10_on : Cond.instanceMethod yX10_on ∈ gtb := gt_mem (tb 1105 (by decide +kernel)) rfl
theorem ge_X10_on : Cond.selects RX10 yX10_on yX10_on ∈ gtb := gt_mem (tb 1106 (by decide +kernel)) rfl
theorem gc_X10_isKept : Cond.code yX10_isKept cX10_isKept 6 (some .boolean) ∈ gtb := gt_mem (tb 1119 (by decide +kernel)) rfl
theorem mo_X10_isKept : MOk M_X10_isKept := ⟨rfl, gc_X10_isKept, gi_X10, rfl, by decide +kernel, by decide +kernel, by decide +kernel, by decide +kernel⟩
theorem gn_X10_isKept : Cond.instanceMethod yX10_isKept ∈ gtb := gt_mem (tb 1118 (by decide +kernel)) rfl
theorem ge_X10_isKept : Cond.selects RX10 yX10_isKept yX10_isKept ∈ gtb := gt_mem (tb 28 (by decide +kernel)) rfl
theorem gc_X10_isWhole : Cond.code yX10_isWhole cX10_isWhole 8 (some .boolean) ∈ gtb := gt_mem (tb 1123 (by decide +kernel)) rfl
theorem mo_X10_isWhole : MOk M_X10_isWhole := ⟨rfl, gc_X10_isWhole, gi_X10, rfl, by decide +kernel, by decide +kernel, by decide +kernel, by decide +kernel⟩
theorem gn_X10_isWhole : Cond.instanceMethod yX10_isWhole ∈ gtb := gt_mem (tb 1122 (by decide +kernel)) rfl
theorem ge_X10_isWhole : Cond.selects RX10 yX10_isWhole yX10_isWhole ∈ gtb := gt_mem (tb 29 (by decide +kernel)) rfl
theorem gc_X10_breaks : Cond.code yX10_breaks cX10_breaks 4 (some .int) ∈ gtb := gt_mem (tb 1115 (by decide +kernel)) rfl
theorem mo_X10_breaks : MOk M_X10_breaks := ⟨rfl, gc_X10_breaks, gi_X10, rfl, by decide +kernel, by decide +kernel, by decide +kernel, by decide +kernel⟩
theorem gn_X10_breaks : Cond.instanceMethod yX10_breaks ∈ gtb := gt_mem (tb 1114 (by decide +kernel)) rfl
theorem ge_X10_breaks : Cond.selects RX10 yX10_breaks yX10_breaks ∈ gtb := gt_mem (tb 27 (by decide +kernel)) rfl
theorem gc_X10_isKeptOne : Cond.code yX10_isKeptOne cX10_isKeptOne 2 (some .boolean) ∈ gtb := gt_mem (tb 1131 (by decide +kernel)) rfl
theorem mo_X10_isKeptOne : MOk M_X10_isKeptOne := ⟨rfl, gc_X10_isKeptOne, gi_X10, rfl, by decide +kernel, by decide +kernel, by decide +kernel, by decide +kernel⟩
theorem gn_X10_isKeptOne : Cond.instanceMethod yX10_isKeptOne ∈ gtb := gt_mem (tb 1130 (by decide +kernel)) rfl
theorem ge_X10_isKeptOne : Cond.selects RX10 yX10_isKeptOne yX10_isKeptOne ∈ gtb := gt_mem (tb 30 (by decide +kernel)) rfl
theorem gc_X10_holds : Cond.code yX10_holds cX10_holds 3 (some .int) ∈ gtb := gt_mem (tb 1111 (by decide +kernel)) rfl
theorem mo_X10_holds : MOk M_X10_holds := ⟨rfl, gc_X10_holds, gi_X10, rfl, by decide +kernel, by decide +kernel, by decide +kernel, by decide +kernel⟩
theorem gn_X10_holds : Cond.instanceMethod yX10_holds ∈ gtb := gt_mem (tb 1109 (by decide +kernel)) rfl
theorem ge_X10_holds : Cond.selects RX10 yX10_holds yX10_holds ∈ gtb := gt_mem (tb 1110 (by decide +kernel)) rfl
theorem gc_X10_kept : Cond.code yX10_kept cX10_kept 2 (some .int) ∈ gtb := gt_mem (tb 1127 (by decide +kernel)) rfl
theorem mo_X10_kept : MOk M_X10_kept := ⟨rfl, gc_X10_kept, gi_X10, rfl, by decide +kernel, by decide +kernel, by decide +kernel, by decide +kernel⟩
theorem gn_X10_kept : Cond.instanceMethod yX10_kept ∈ gtb := gt_mem (tb 1125 (by decide +kernel)) rfl
theorem ge_X10_kept : Cond.selects RX10 yX10_kept yX10_kept ∈ gtb := gt_mem (tb 1126 (by decide +kernel)) rfl
theorem gc_X10_why : Cond.code yX10_why cX10_why 5 (some .int) ∈ gtb := gt_mem (tb 1135 (by decide +kernel)) rfl
theorem mo_X10_why : MOk M_X10_why := ⟨rfl, gc_X10_why, gi_X10, rfl, by decide +kernel, by decide +kernel, by decide +kernel, by decide +kernel⟩
theorem gn_X10_why : Cond.instanceMethod yX10_why ∈ gtb := gt_mem (tb 1133 (by decide +kernel)) rfl
theorem ge_X10_why : Cond.selects RX10 yX10_why yX10_why ∈ gtb := gt_mem (tb 1134 (by decide +kernel)) rfl
theorem gc_X10_changed : Cond.code yX10_changed cX10_changed 1 none ∈ gtb := gt_mem (tb 904 (by decide +kernel)) rfl
theorem mo_X10_changed : MOk M_X10_changed := ⟨rfl, gc_X10_changed, gi_X10, rfl, by decide +kernel, by decide +kernel, by decide +kernel, by decide +kernel⟩
theorem gn_X10_changed : Cond.instanceMethod yX10_changed ∈ gtb := gt_mem (tb 903 (by decide +kernel)) rfl
theorem ge_X10_changed : Cond.selects RX10 yX10_changed yX10_changed ∈ gtb := gt_mem (tb 17 (by decide +kernel)) rfl
theorem gc_X10_learn : Cond.code yX10_learn cX10_learn 2 none ∈ gtb := gt_mem (tb 1159 (by decide +kernel)) rfl
theorem mo_X10_learn : MOk M_X10_learn := ⟨rfl, gc_X10_learn, gi_X10, rfl, by decide +kernel, by decide +kernel, by decide +kernel, by decide +kernel⟩
theorem gn_X10_learn : Cond.instanceMethod yX10_learn ∈ gtb := gt_mem (tb 1158 (by decide +kernel)) rfl
theorem ge_X10_learn : Cond.selects RX10 yX10_learn yX10_learn ∈ gtb := gt_mem (tb 34 (by decide +kernel)) rfl
theorem gc_X10_unlike : Cond.code yX10_unlike cX10_unlike 5 (some .int) ∈ gtb := gt_mem (tb 1155 (by decide +kernel)) rfl
theorem mo_X10_unlike : MOk M_X10_unlike := ⟨rfl, gc_X10_unlike, gi_X10, rfl, by decide +kernel, by decide +kernel, by decide +kernel, by decide +kernel⟩
theorem gn_X10_unlike : Cond.instanceMethod yX10_unlike ∈ gtb := gt_mem (tb 1154 (by decide +kernel)) rfl
theorem ge_X10_unlike : Cond.selects RX10 yX10_unlike yX10_unlike ∈ gtb := gt_mem (tb 33 (by decide +kernel)) rfl
theorem gc_X10_classMany : Cond.code yX10_classMany cX10_classMany 4 (some .int) ∈ gtb := gt_mem (tb 1143 (by decide +kernel)) rfl
theorem mo_X10_classMany : MOk M_X10_classMany := ⟨rfl, gc_X10_classMany, gi_X10, rfl, by decide +kernel, by decide +kernel, by decide +kernel, by decide +kernel⟩
theorem gn_X10_classMany : Cond.instanceMethod yX10_classMany ∈ gtb := gt_mem (tb 1142 (by decide +kernel)) rfl
theorem ge_X10_classMany : Cond.selects RX10 yX10_classMany yX10_classMany ∈ gtb := gt_mem (tb 31 (by decide +kernel)) rfl
theorem gc_X10_areAlike : Cond.code yX10_areAlike cX10_areAlike 7 (some .boolean) ∈ gtb := gt_mem (tb 1147 (by decide +kernel)) rfl
theorem mo_X10_areAlike : MOk M_X10_areAlike := ⟨rfl, gc_X10_areAlike, gi_X10, rfl, by decide +kernel, by decide +kernel, by decide +kernel, by decide +kernel⟩
theorem gn_X10_areAlike : Cond.instanceMethod yX10_areAlike ∈ gtb := gt_mem (tb 1146 (by decide +kernel)) rfl
theorem ge_X10_areAlike : Cond.selects RX10 yX10_areAlike yX10_areAlike ∈ gtb := gt_mem (tb 32 (by decide +kernel)) rfl
theorem gc_X10_ofClass : Cond.code yX10_ofClass cX10_ofClass 3 (some .int) ∈ gtb := gt_mem (tb 1139 (by decide +kernel)) rfl
theorem mo_X10_ofClass : MOk M_X10_ofClass := ⟨rfl, gc_X10_ofClass, gi_X10, rfl, by decide +kernel, by decide +kernel, by decide +kernel, by decide +kernel⟩
theorem gn_X10_ofClass : Cond.instanceMethod yX10_ofClass ∈ gtb := gt_mem (tb 1137 (by decide +kernel)) rfl
theorem ge_X10_ofClass : Cond.selects RX10 yX10_ofClass yX10_ofClass ∈ gtb := gt_mem (tb 1138 (by decide +kernel)) rfl
theorem gc_X10_look : Cond.code yX10_look cX10_look 4 (some .int) ∈ gtb := gt_mem (tb 1151 (by decide +kernel)) rfl
theorem mo_X10_look : MOk M_X10_look := ⟨rfl, gc_X10_look, gi_X10, rfl, by decide +kernel, by decide +kernel, by decide +kernel, by decide +kernel⟩
theorem gn_X10_look : Cond.instanceMethod yX10_look ∈ gtb := gt_mem (tb 1149 (by decide +kernel)) rfl
theorem ge_X10_look : Cond.selects RX10 yX10_look yX10_look ∈ gtb := gt_mem (tb 1150 (by decide +kernel)) rfl
theorem gc_X10_planned : Cond.code yX10_planned cX10_planned 4 (some .int) ∈ gtb := gt_mem (tb 1164 (by decide +kernel)) rfl
theorem mo_X10_planned : MOk M_X10_planned := ⟨rfl, gc_X10_planned, gi_X10, rfl, by decide +kernel, by decide +kernel, by decide +kernel, by decide +kernel⟩
theorem gn_X10_planned : Cond.instanceMethod yX10_planned ∈ gtb := gt_mem (tb 1163 (by decide +kernel)) rfl
theorem ge_X10_planned : Cond.selects RX10 yX10_planned yX10_planned ∈ gtb := gt_mem (tb 35 (by decide +kernel)) rfl
theorem gc_X10_against : Cond.code yX10_against cX10_against 4 (some .int) ∈ gtb := gt_mem (tb 1176 (by decide +kernel)) rfl
theorem mo_X10_against : MOk M_X10_against := ⟨rfl, gc_X10_against, gi_X10, rfl, by decide +kernel, by decide +kernel, by decide +kernel, by decide +kernel⟩
theorem gn_X10_against : Cond.instanceMethod yX10_against ∈ gtb := gt_mem (tb 1175 (by decide +kernel)) rfl
theorem ge_X10_against : Cond.selects RX10 yX10_against yX10_against ∈ gtb := gt_mem (tb 37 (by decide +kernel)) rfl
theorem gc_X10_fewest : Cond.code yX10_fewest cX10_fewest 4 none ∈ gtb := gt_mem (tb 1172 (by decide +kernel)) rfl
theorem mo_X10_fewest : MOk M_X10_fewest := ⟨rfl, gc_X10_fewest, gi_X10, rfl, by decide +kernel, by decide +kernel, by decide +kernel, by decide +kernel⟩
theorem gn_X10_fewest : Cond.instanceMethod yX10_fewest ∈ gtb := gt_mem (tb 1171 (by decide +kernel)) rfl
theorem ge_X10_fewest : Cond.selects RX10 yX10_fewest yX10_fewest ∈ gtb := gt_mem (tb 36 (by decide +kernel)) rfl
theorem gc_X10_least : Cond.code yX10_least cX10_least 4 (some .int) ∈ gtb := gt_mem (tb 1168 (by decide +kernel)) rfl
theorem mo_X10_least : MOk M_X10_least := ⟨rfl, gc_X10_least, gi_X10, rfl, by decide +kernel, by decide +kernel, by decide +kernel, by decide +kernel⟩
theorem gn_X10_least : Cond.instanceMethod yX10_least ∈ gtb := gt_mem (tb 1166 (by decide +kernel)) rfl
theorem ge_X10_least : Cond.selects RX10 yX10_least yX10_least ∈ gtb := gt_mem (tb 1167 (by decide +kernel)) rfl
theorem gc_X10_ways : Cond.code yX10_ways cX10_ways 5 none ∈ gtb := gt_mem (tb 1184 (by decide +kernel)) rfl
theorem mo_X10_ways : MOk M_X10_ways := ⟨rfl, gc_X10_ways, gi_X10, rfl, by decide +kernel, by decide +kernel, by decide +kernel, by decide +kernel⟩
theorem gn_X10_ways : Cond.instanceMethod yX10_ways ∈ gtb := gt_mem (tb 1183 (by decide +kernel)) rfl
theorem ge_X10_ways : Cond.selects RX10 yX10_ways yX10_ways ∈ gtb := gt_mem (tb 38 (by decide +kernel)) rfl
theorem gc_X10_orders : Cond.code yX10_orders cX10_orders 1 (some .int) ∈ gtb := gt_mem (tb 1180 (by decide +kernel)) rfl
theorem mo_X10_orders : MOk M_X10_orders := ⟨rfl, gc_X10_orders, gi_X10, rfl, by decide +kernel, by decide +kernel, by decide +kernel, by decide +kernel⟩
theorem gn_X10_orders : Cond.instanceMethod yX10_orders ∈ gtb := gt_mem (tb 1178 (by decide +kernel)) rfl
theorem ge_X10_orders : Cond.selects RX10 yX10_orders yX10_orders ∈ gtb := gt_mem (tb 1179 (by decide +kernel)) rfl
theorem gc_X10_order : Cond.code yX10_order cX10_order 8 (some .boolean) ∈ gtb := gt_mem (tb 1188 (by decide +kernel)) rfl
theorem mo_X10_order : MOk M_X10_order := ⟨rfl, gc_X10_order, gi_X10, rfl, by decide +kernel, by decide +kernel, by decide +kernel, by decide +kernel⟩
theorem gn_X10_order : Cond.instanceMethod yX10_order ∈ gtb := gt_mem (tb 1186 (by decide +kernel)) rfl
theorem ge_X10_order : Cond.selects RX10 yX10_order yX10_order ∈ gtb := gt_mem (tb 1187 (by decide +kernel)) rfl
theorem gc_X10_round : Cond.code yX10_round cX10_round 2 (some .int) ∈ gtb := gt_mem (tb 1192 (by decide +kernel)) rfl
theorem mo_X10_round : MOk M_X10_round := ⟨rfl, gc_X10_round, gi_X10, rfl, by decide +kernel, by decide +kernel, by decide +kernel, by decide +kernel⟩
theorem gn_X10_round : Cond.instanceMethod yX10_round ∈ gtb := gt_mem (tb 1190 (by decide +kernel)) rfl
theorem ge_X10_round : Cond.selects RX10 yX10_round yX10_round ∈ gtb := gt_mem (tb 1191 (by decide +kernel)) rfl
theorem gc_X10_empty : Cond.code yX10_empty cX10_empty 1 none ∈ gtb := gt_mem (tb 1196 (by decide +kernel)) rfl
theorem mo_X10_empty : MOk M_X10_empty := ⟨rfl, gc_X10_empty, gi_X10, rfl, by decide +kernel, by decide +kernel, by decide +kernel, by decide +kernel⟩
theorem gn_X10_empty : Cond.instanceMethod yX10_empty ∈ gtb := gt_mem (tb 1194 (by decide +kernel)) rfl
theorem ge_X10_empty : Cond.selects RX10 yX10_empty yX10_empty ∈ gtb := gt_mem (tb 1195 (by decide +kernel)) rfl
theorem gc_X10_plan : Cond.code yX10_plan cX10_plan 2 (some .int) ∈ gtb := gt_mem (tb 1200 (by decide +kernel)) rfl
theorem mo_X10_plan : MOk M_X10_plan := ⟨rfl, gc_X10_plan, gi_X10, rfl, by decide +kernel, by decide +kernel, by decide +kernel, by decide +kernel⟩
theorem gn_X10_plan : Cond.instanceMethod yX10_plan ∈ gtb := gt_mem (tb 1198 (by decide +kernel)) rfl
theorem ge_X10_plan : Cond.selects RX10 yX10_plan yX10_plan ∈ gtb := gt_mem (tb 1199 (by decide +kernel)) rfl
theorem gc_X10_mid : Cond.code yX10_mid cX10_mid 2 (some .int) ∈ gtb := gt_mem (tb 1204 (by decide +kernel)) rfl
theorem mo_X10_mid : MOk M_X10_mid := ⟨rfl, gc_X10_mid, gi_X10, rfl, by decide +kernel, by decide +kernel, by decide +kernel, by decide +kernel⟩
theorem gn_X10_mid : Cond.instanceMethod yX10_mid ∈ gtb := gt_mem (tb 1202 (by decide +kernel)) rfl
theorem ge_X10_mid : Cond.selects RX10 yX10_mid yX10_mid ∈ gtb := gt_mem (tb 1203 (by decide +kernel)) rfl
theorem gc_X10_begin : Cond.code yX10_begin cX10_begin 1 (some .boolean) ∈ gtb := gt_mem (tb 1208 (by decide +kernel)) rfl
theorem mo_X10_begin : MOk M_X10_begin := ⟨rfl, gc_X10_begin, gi_X10, rfl, by decide +kernel, by decide +kernel, by decide +kernel, by decide +kernel⟩
theorem gn_X10_begin : Cond.instanceMethod yX10_begin ∈ gtb := gt_mem (tb 1206 (by decide +kernel)) rfl
theorem ge_X10_begin : Cond.selects RX10 yX10_begin yX10_begin ∈ gtb := gt_mem (tb 1207 (by decide +kernel)) rfl
theorem gc_X10_send : Cond.code yX10_send cX10_send 4 (some .int) ∈ gtb := gt_mem (tb 1212 (by decide +kernel)) rfl
theorem mo_X10_send : MOk M_X10_send := ⟨rfl, gc_X10_send, gi_X10, rfl, by decide +kernel, by decide +kernel, by decide +kernel, by decide +kernel⟩
theorem gn_X10_send : Cond.instanceMethod yX10_send ∈ gtb := gt_mem (tb 1210 (by decide +kernel)) rfl
theorem ge_X10_send : Cond.selects RX10 yX10_send yX10_send ∈ gtb := gt_mem (tb 1211 (by decide +kernel)) rfl
theorem gc_X10_isPacket : Cond.code yX10_isPacket cX10_isPacket 2 (some .boolean) ∈ gtb := gt_mem (tb 1220 (by decide +kernel)) rfl
theorem mo_X10_isPacket : MOk M_X10_isPacket := ⟨rfl, gc_X10_isPacket, gi_X10, rfl, by decide +kernel, by decide +kernel, by decide +kernel, by decide +kernel⟩
theorem gn_X10_isPacket : Cond.instanceMethod yX10_isPacket ∈ gtb := gt_mem (tb 1219 (by decide +kernel)) rfl
theorem ge_X10_isPacket : Cond.selects RX10 yX10_isPacket yX10_isPacket ∈ gtb := gt_mem (tb 39 (by decide +kernel)) rfl
theorem gc_X10_hop : Cond.code yX10_hop cX10_hop 7 (some .int) ∈ gtb := gt_mem (tb 1216 (by decide +kernel)) rfl
theorem mo_X10_hop : MOk M_X10_hop := ⟨rfl, gc_X10_hop, gi_X10, rfl, by decide +kernel, by decide +kernel, by decide +kernel, by decide +kernel⟩
theorem gn_X10_hop : Cond.instanceMethod yX10_hop ∈ gtb := gt_mem (tb 1214 (by decide +kernel)) rfl
theorem ge_X10_hop : Cond.selects RX10 yX10_hop yX10_hop ∈ gtb := gt_mem (tb 1215 (by decide +kernel)) rfl
theorem gc_X10_left : Cond.code yX10_left cX10_left 1 (some .int) ∈ gtb := gt_mem (tb 1228 (by decide +kernel)) rfl
theorem mo_X10_left : MOk M_X10_left := ⟨rfl, gc_X10_left, gi_X10, rfl, by decide +kernel, by decide +kernel, by decide +kernel, by decide +kernel⟩
theorem gn_X10_left : Cond.instanceMethod yX10_left ∈ gtb := gt_mem (tb 1227 (by decide +kernel)) rfl
theorem ge_X10_left : Cond.selects RX10 yX10_left yX10_left ∈ gtb := gt_mem (tb 40 (by decide +kernel)) rfl
theorem gc_X10_change : Cond.code yX10_change cX10_change 4 (some .int) ∈ gtb := gt_mem (tb 1224 (by decide +kernel)) rfl
theorem mo_X10_change : MOk M_X10_change := ⟨rfl, gc_X10_change, gi_X10, rfl, by decide +kernel, by decide +kernel, by decide +kernel, by decide +kernel⟩
theorem gn_X10_change : Cond.instanceMethod yX10_change ∈ gtb := gt_mem (tb 1222 (by decide +kernel)) rfl
theorem ge_X10_change : Cond.selects RX10 yX10_change yX10_change ∈ gtb := gt_mem (tb 1223 (by decide +kernel)) rfl
theorem gc_X10_underWay : Cond.code yX10_underWay cX10_underWay 3 (some .int) ∈ gtb := gt_mem (tb 1236 (by decide +kernel)) rfl
theorem mo_X10_underWay : MOk M_X10_underWay := ⟨rfl, gc_X10_underWay, gi_X10, rfl, by decide +kernel, by decide +kernel, by decide +kernel, by decide +kernel⟩
theorem gn_X10_underWay : Cond.instanceMethod yX10_underWay ∈ gtb := gt_mem (tb 1235 (by decide +kernel)) rfl
theorem ge_X10_underWay : Cond.selects RX10 yX10_underWay yX10_underWay ∈ gtb := gt_mem (tb 41 (by decide +kernel)) rfl
theorem gc_X10_next : Cond.code yX10_next cX10_next 1 (some .int) ∈ gtb := gt_mem (tb 1232 (by decide +kernel)) rfl
theorem mo_X10_next : MOk M_X10_next := ⟨rfl, gc_X10_next, gi_X10, rfl, by decide +kernel, by decide +kernel, by decide +kernel, by decide +kernel⟩
theorem gn_X10_next : Cond.instanceMethod yX10_next ∈ gtb := gt_mem (tb 1230 (by decide +kernel)) rfl
theorem ge_X10_next : Cond.selects RX10 yX10_next yX10_next ∈ gtb := gt_mem (tb 1231 (by decide +kernel)) rfl
theorem gc_X10_run : Cond.code yX10_run cX10_run 2 (some .int) ∈ gtb := gt_mem (tb 1240 (by decide +kernel)) rfl
theorem mo_X10_run : MOk M_X10_run := ⟨rfl, gc_X10_run, gi_X10, rfl, by decide +kernel, by decide +kernel, by decide +kernel, by decide +kernel⟩
theorem gn_X10_run : Cond.instanceMethod yX10_run ∈ gtb := gt_mem (tb 1238 (by decide +kernel)) rfl
theorem ge_X10_run : Cond.selects RX10 yX10_run yX10_run ∈ gtb := gt_mem (tb 1239 (by decide +kernel)) rfl
theorem gc_X10_packet : Cond.code yX10_packet cX10_packet 3 (some .int) ∈ gtb := gt_mem (tb 1244 (by decide +kernel)) rfl
theorem mo_X10_packet : MOk M_X10_packet := ⟨rfl, gc_X10_packet, gi_X10, rfl, by decide +kernel, by decide +kernel, by decide +kernel, by decide +kernel⟩
theorem gn_X10_packet : Cond.instanceMethod yX10_packet ∈ gtb := gt_mem (tb 1242 (by decide +kernel)) rfl
theorem ge_X10_packet : Cond.selects RX10 yX10_packet yX10_packet ∈ gtb := gt_mem (tb 1243 (by decide +kernel)) rfl
theorem gc_J6_bitCount_0f7a4 : Cond.code yJ6_bitCount_0f7a4 cJ6_bitCount_0f7a4 1 (some .int) ∈ gtb := gt_mem (tb 858 (by decide +kernel)) rfl
theorem mo_J6_bitCount_0f7a4 : MOk M_J6_bitCount_0f7a4 := ⟨rfl, gc_J6_bitCount_0f7a4, gi_J6, rfl, by decide +kernel, by decide +kernel, by decide +kernel, by decide +kernel⟩
theorem gs_J6_bitCount_0f7a4 : Cond.static yJ6_bitCount_0f7a4 ∈ gtb := gt_mem (tb 857 (by decide +kernel)) rfl
theorem gc_J7_fill_53178 : Cond.code yJ7_fill_53178 cJ7_fill_53178 4 none ∈ gtb := gt_mem (tb 74 (by decide +kernel)) rfl
theorem mo_J7_fill_53178 : MOk M_J7_fill_53178 := ⟨rfl, gc_J7_fill_53178, gi_J7, rfl, by decide +kernel, by decide +kernel, by decide +kernel, by decide +kernel⟩
theorem gs_J7_fill_53178 : Cond.static yJ7_fill_53178 ∈ gtb := gt_mem (tb 73 (by decide +kernel)) rfl
theorem go_1 : Cond.instanceMethod objectInit ∈ gtb := gt_mem (tb 62 (by decide +kernel)) rfl
theorem go_2 : Cond.code objectInit ⟨#[0xb1]⟩ 1 none ∈ gtb := gt_mem (tb 63 (by decide +kernel)) rfl
theorem ga_i : Cond.arrayClass .int ∈ gtb := gt_mem (tb 101 (by decide +kernel)) rfl
theorem ga_z : Cond.arrayClass .boolean ∈ gtb := gt_mem (tb 157 (by decide +kernel)) rfl
theorem gao_X2 : Cond.arrayOver (.object RX2) ∈ lw_tbl := tb 253 (by decide +kernel)
theorem gao_X5 : Cond.arrayOver (.object RX5) ∈ lw_tbl := tb 71 (by decide +kernel)
theorem gao_X7 : Cond.arrayOver (.object RX7) ∈ lw_tbl := tb 137 (by decide +kernel)
theorem fw_X9_10 : Cond.fieldLink RX9 10 (mm_T 9 0).1 (mm_T 9 0).2.1 (mm_T 9 0).2.2.1 ∈ gtb := gt_mem (tb 307 (by decide +kernel)) rfl
theorem fl_X9_10 : FL RX9 10 9 0 := ⟨by decide +kernel, by decide +kernel, Or.inl fw_X9_10⟩
theorem fw_X9_21 : Cond.fieldLink RX9 21 (mm_T 9 1).1 (mm_T 9 1).2.1 (mm_T 9 1).2.2.1 ∈ gtb := gt_mem (tb 308 (by decide +kernel)) rfl
theorem fl_X9_21 : FL RX9 21 9 1 := ⟨by decide +kernel, by decide +kernel, Or.inl fw_X9_21⟩
theorem fw_X9_28 : Cond.fieldLink RX9 28 (mm_T 9 2).1 (mm_T 9 2).2.1 (mm_T 9 2).2.2.1 ∈ gtb := gt_mem (tb 309 (by decide +kernel)) rfl
theorem fl_X9_28 : FL RX9 28 9 2 := ⟨by decide +kernel, by decide +kernel, Or.inl fw_X9_28⟩
theorem fw_X9_37 : Cond.fieldLink RX9 37 (mm_T 9 3).1 (mm_T 9 3).2.1 (mm_T 9 3).2.2.1 ∈ gtb := gt_mem (tb 310 (by decide +kernel)) rfl
theorem fl_X9_37 : FL RX9 37 9 3 := ⟨by decide +kernel, by decide +kernel, Or.inl fw_X9_37⟩
theorem fw_X9_46 : Cond.fieldLink RX9 46 (mm_T 9 4).1 (mm_T 9 4).2.1 (mm_T 9 4).2.2.1 ∈ gtb := gt_mem (tb 311 (by decide +kernel)) rfl
theorem fl_X9_46 : FL RX9 46 9 4 := ⟨by decide +kernel, by decide +kernel, Or.inl fw_X9_46⟩
theorem fw_X9_53 : Cond.fieldLink RX9 53 (mm_T 9 5).1 (mm_T 9 5).2.1 (mm_T 9 5).2.2.1 ∈ gtb := gt_mem (tb 312 (by decide +kernel)) rfl
theorem fl_X9_53 : FL RX9 53 9 5 := ⟨by decide +kernel, by decide +kernel, Or.inl fw_X9_53⟩
theorem fw_X0_11 : Cond.fieldLink RX0 11 (mm_T 0 1).1 (mm_T 0 1).2.1 (mm_T 0 1).2.2.1 ∈ gtb := gt_mem (tb 184 (by decide +kernel)) rfl
theorem fl_X0_11 : FL RX0 11 0 1 := ⟨by decide +kernel, by decide +kernel, Or.inl fw_X0_11⟩
theorem fw_X0_17 : Cond.fieldLink RX0 17 (mm_T 0 2).1 (mm_T 0 2).2.1 (mm_T 0 2).2.2.1 ∈ gtb := gt_mem (tb 185 (by decide +kernel)) rfl
theorem fl_X0_17 : FL RX0 17 0 2 := ⟨by decide +kernel, by decide +kernel, Or.inl fw_X0_17⟩
theorem fw_X0_21 : Cond.fieldLink RX0 21 (mm_T 0 3).1 (mm_T 0 3).2.1 (mm_T 0 3).2.2.1 ∈ gtb := gt_mem (tb 186 (by decide +kernel)) rfl
theorem fl_X0_21 : FL RX0 21 0 3 := ⟨by decide +kernel, by decide +kernel, Or.inl fw_X0_21⟩
theorem fw_X0_27 : Cond.fieldLink RX0 27 (mm_T 0 4).1 (mm_T 0 4).2.1 (mm_T 0 4).2.2.1 ∈ gtb := gt_mem (tb 187 (by decide +kernel)) rfl
theorem fl_X0_27 : FL RX0 27 0 4 := ⟨by decide +kernel, by decide +kernel, Or.inl fw_X0_27⟩
theorem fw_X0_31 : Cond.fieldLink RX0 31 (mm_T 0 5).1 (mm_T 0 5).2.1 (mm_T 0 5).2.2.1 ∈ gtb := gt_mem (tb 188 (by decide +kernel)) rfl
theorem fl_X0_31 : FL RX0 31 0 5 := ⟨by decide +kernel, by decide +kernel, Or.inl fw_X0_31⟩
theorem fw_X0_34 : Cond.fieldLink RX0 34 (mm_T 0 6).1 (mm_T 0 6).2.1 (mm_T 0 6).2.2.1 ∈ gtb := gt_mem (tb 189 (by decide +kernel)) rfl
theorem fl_X0_34 : FL RX0 34 0 6 := ⟨by decide +kernel, by decide +kernel, Or.inl fw_X0_34⟩
theorem fw_X0_37 : Cond.fieldLink RX0 37 (mm_T 0 0).1 (mm_T 0 0).2.1 (mm_T 0 0).2.2.1 ∈ gtb := gt_mem (tb 183 (by decide +kernel)) rfl
theorem fl_X0_37 : FL RX0 37 0 0 := ⟨by decide +kernel, by decide +kernel, Or.inl fw_X0_37⟩
theorem fw_X0_44 : Cond.fieldLink RX0 44 (mm_T 0 8).1 (mm_T 0 8).2.1 (mm_T 0 8).2.2.1 ∈ gtb := gt_mem (tb 191 (by decide +kernel)) rfl
theorem fl_X0_44 : FL RX0 44 0 8 := ⟨by decide +kernel, by decide +kernel, Or.inl fw_X0_44⟩
theorem fw_X0_48 : Cond.fieldLink RX0 48 (mm_T 0 9).1 (mm_T 0 9).2.1 (mm_T 0 9).2.2.1 ∈ gtb := gt_mem (tb 192 (by decide +kernel)) rfl
theorem fl_X0_48 : FL RX0 48 0 9 := ⟨by decide +kernel, by decide +kernel, Or.inl fw_X0_48⟩
theorem fw_X0_51 : Cond.fieldLink RX0 51 (mm_T 0 7).1 (mm_T 0 7).2.1 (mm_T 0 7).2.2.1 ∈ gtb := gt_mem (tb 190 (by decide +kernel)) rfl
theorem fl_X0_51 : FL RX0 51 0 7 := ⟨by decide +kernel, by decide +kernel, Or.inl fw_X0_51⟩
theorem fl_X0_65 : FL RX0 65 7 3 := ⟨by decide +kernel, by decide +kernel, Or.inr ⟨"RuleChangeDesk", tb 167 (by decide +kernel)⟩⟩
theorem fw_X1_9 : Cond.fieldLink RX1 9 (mm_T 1 0).1 (mm_T 1 0).2.1 (mm_T 1 0).2.2.1 ∈ gtb := gt_mem (tb 102 (by decide +kernel)) rfl
theorem fl_X1_9 : FL RX1 9 1 0 := ⟨by decide +kernel, by decide +kernel, Or.inl fw_X1_9⟩
theorem fw_X1_15 : Cond.fieldLink RX1 15 (mm_T 1 1).1 (mm_T 1 1).2.1 (mm_T 1 1).2.2.1 ∈ gtb := gt_mem (tb 103 (by decide +kernel)) rfl
theorem fl_X1_15 : FL RX1 15 1 1 := ⟨by decide +kernel, by decide +kernel, Or.inl fw_X1_15⟩
theorem fw_X1_20 : Cond.fieldLink RX1 20 (mm_T 1 2).1 (mm_T 1 2).2.1 (mm_T 1 2).2.2.1 ∈ gtb := gt_mem (tb 104 (by decide +kernel)) rfl
theorem fl_X1_20 : FL RX1 20 1 2 := ⟨by decide +kernel, by decide +kernel, Or.inl fw_X1_20⟩
theorem fw_X1_24 : Cond.fieldLink RX1 24 (mm_T 1 3).1 (mm_T 1 3).2.1 (mm_T 1 3).2.2.1 ∈ gtb := gt_mem (tb 105 (by decide +kernel)) rfl
theorem fl_X1_24 : FL RX1 24 1 3 := ⟨by decide +kernel, by decide +kernel, Or.inl fw_X1_24⟩
theorem fw_X1_27 : Cond.fieldLink RX1 27 (mm_T 1 6).1 (mm_T 1 6).2.1 (mm_T 1 6).2.2.1 ∈ gtb := gt_mem (tb 108 (by decide +kernel)) rfl
theorem fl_X1_27 : FL RX1 27 1 6 := ⟨by decide +kernel, by decide +kernel, Or.inl fw_X1_27⟩
theorem fw_X1_38 : Cond.fieldLink RX1 38 (mm_T 1 7).1 (mm_T 1 7).2.1 (mm_T 1 7).2.2.1 ∈ gtb := gt_mem (tb 109 (by decide +kernel)) rfl
theorem fl_X1_38 : FL RX1 38 1 7 := ⟨by decide +kernel, by decide +kernel, Or.inl fw_X1_38⟩
theorem fw_X1_41 : Cond.fieldLink RX1 41 (mm_T 1 8).1 (mm_T 1 8).2.1 (mm_T 1 8).2.2.1 ∈ gtb := gt_mem (tb 110 (by decide +kernel)) rfl
theorem fl_X1_41 : FL RX1 41 1 8 := ⟨by decide +kernel, by decide +kernel, Or.inl fw_X1_41⟩
theorem fw_X1_47 : Cond.fieldLink RX1 47 (mm_T 1 4).1 (mm_T 1 4).2.1 (mm_T 1 4).2.2.1 ∈ gtb := gt_mem (tb 106 (by decide +kernel)) rfl
theorem fl_X1_47 : FL RX1 47 1 4 := ⟨by decide +kernel, by decide +kernel, Or.inl fw_X1_47⟩
theorem fw_X1_76 : Cond.fieldLink RX1 76 (mm_T 1 5).1 (mm_T 1 5).2.1 (mm_T 1 5).2.2.1 ∈ gtb := gt_mem (tb 107 (by decide +kernel)) rfl
theorem fl_X1_76 : FL RX1 76 1 5 := ⟨by decide +kernel, by decide +kernel, Or.inl fw_X1_76⟩
theorem fl_X1_111 : FL RX1 111 5 4 := ⟨by decide +kernel, by decide +kernel, Or.inr ⟨"RuleChangeDesk", tb 86 (by decide +kernel)⟩⟩
theorem fw_X2_12 : Cond.fieldLink RX2 12 (mm_T 2 0).1 (mm_T 2 0).2.1 (mm_T 2 0).2.2.1 ∈ gtb := gt_mem (tb 261 (by decide +kernel)) rfl
theorem fl_X2_12 : FL RX2 12 2 0 := ⟨by decide +kernel, by decide +kernel, Or.inl fw_X2_12⟩
theorem fw_X2_18 : Cond.fieldLink RX2 18 (mm_T 2 1).1 (mm_T 2 1).2.1 (mm_T 2 1).2.2.1 ∈ gtb := gt_mem (tb 263 (by decide +kernel)) rfl
theorem fl_X2_18 : FL RX2 18 2 1 := ⟨by decide +kernel, by decide +kernel, Or.inl fw_X2_18⟩
theorem fw_X2_22 : Cond.fieldLink RX2 22 (mm_T 2 2).1 (mm_T 2 2).2.1 (mm_T 2 2).2.2.1 ∈ gtb := gt_mem (tb 265 (by decide +kernel)) rfl
theorem fl_X2_22 : FL RX2 22 2 2 := ⟨by decide +kernel, by decide +kernel, Or.inl fw_X2_22⟩
theorem fw_X3_9 : Cond.fieldLink RX3 9 (mm_T 3 0).1 (mm_T 3 0).2.1 (mm_T 3 0).2.2.1 ∈ gtb := gt_mem (tb 220 (by decide +kernel)) rfl
theorem fl_X3_9 : FL RX3 9 3 0 := ⟨by decide +kernel, by decide +kernel, Or.inl fw_X3_9⟩
theorem fw_X3_15 : Cond.fieldLink RX3 15 (mm_T 3 1).1 (mm_T 3 1).2.1 (mm_T 3 1).2.2.1 ∈ gtb := gt_mem (tb 221 (by decide +kernel)) rfl
theorem fl_X3_15 : FL RX3 15 3 1 := ⟨by decide +kernel, by decide +kernel, Or.inl fw_X3_15⟩
theorem fw_X4_9 : Cond.fieldLink RX4 9 (mm_T 4 2).1 (mm_T 4 2).2.1 (mm_T 4 2).2.2.1 ∈ gtb := gt_mem (tb 235 (by decide +kernel)) rfl
theorem fl_X4_9 : FL RX4 9 4 2 := ⟨by decide +kernel, by decide +kernel, Or.inl fw_X4_9⟩
theorem fw_X4_15 : Cond.fieldLink RX4 15 (mm_T 4 3).1 (mm_T 4 3).2.1 (mm_T 4 3).2.2.1 ∈ gtb := gt_mem (tb 236 (by decide +kernel)) rfl
theorem fl_X4_15 : FL RX4 15 4 3 := ⟨by decide +kernel, by decide +kernel, Or.inl fw_X4_15⟩
theorem fw_X4_18 : Cond.fieldLink RX4 18 (mm_T 4 0).1 (mm_T 4 0).2.1 (mm_T 4 0).2.2.1 ∈ gtb := gt_mem (tb 233 (by decide +kernel)) rfl
theorem fl_X4_18 : FL RX4 18 4 0 := ⟨by decide +kernel, by decide +kernel, Or.inl fw_X4_18⟩
theorem fw_X4_22 : Cond.fieldLink RX4 22 (mm_T 4 1).1 (mm_T 4 1).2.1 (mm_T 4 1).2.2.1 ∈ gtb := gt_mem (tb 234 (by decide +kernel)) rfl
theorem fl_X4_22 : FL RX4 22 4 1 := ⟨by decide +kernel, by decide +kernel, Or.inl fw_X4_22⟩
theorem fw_X5_9 : Cond.fieldLink RX5 9 (mm_T 5 0).1 (mm_T 5 0).2.1 (mm_T 5 0).2.2.1 ∈ gtb := gt_mem (tb 81 (by decide +kernel)) rfl
theorem fl_X5_9 : FL RX5 9 5 0 := ⟨by decide +kernel, by decide +kernel, Or.inl fw_X5_9⟩
theorem fw_X5_15 : Cond.fieldLink RX5 15 (mm_T 5 1).1 (mm_T 5 1).2.1 (mm_T 5 1).2.2.1 ∈ gtb := gt_mem (tb 82 (by decide +kernel)) rfl
theorem fl_X5_15 : FL RX5 15 5 1 := ⟨by decide +kernel, by decide +kernel, Or.inl fw_X5_15⟩
theorem fw_X5_18 : Cond.fieldLink RX5 18 (mm_T 5 2).1 (mm_T 5 2).2.1 (mm_T 5 2).2.2.1 ∈ gtb := gt_mem (tb 83 (by decide +kernel)) rfl
theorem fl_X5_18 : FL RX5 18 5 2 := ⟨by decide +kernel, by decide +kernel, Or.inl fw_X5_18⟩
theorem fw_X5_21 : Cond.fieldLink RX5 21 (mm_T 5 3).1 (mm_T 5 3).2.1 (mm_T 5 3).2.2.1 ∈ gtb := gt_mem (tb 84 (by decide +kernel)) rfl
theorem fl_X5_21 : FL RX5 21 5 3 := ⟨by decide +kernel, by decide +kernel, Or.inl fw_X5_21⟩
theorem fw_X5_24 : Cond.fieldLink RX5 24 (mm_T 5 4).1 (mm_T 5 4).2.1 (mm_T 5 4).2.2.1 ∈ gtb := gt_mem (tb 85 (by decide +kernel)) rfl
theorem fl_X5_24 : FL RX5 24 5 4 := ⟨by decide +kernel, by decide +kernel, Or.inl fw_X5_24⟩
theorem fw_X5_33 : Cond.fieldLink RX5 33 (mm_T 5 5).1 (mm_T 5 5).2.1 (mm_T 5 5).2.2.1 ∈ gtb := gt_mem (tb 87 (by decide +kernel)) rfl
theorem fl_X5_33 : FL RX5 33 5 5 := ⟨by decide +kernel, by decide +kernel, Or.inl fw_X5_33⟩
theorem fw_X6_11 : Cond.fieldLink RX6 11 (mm_T 6 3).1 (mm_T 6 3).2.1 (mm_T 6 3).2.2.1 ∈ gtb := gt_mem (tb 277 (by decide +kernel)) rfl
theorem fl_X6_11 : FL RX6 11 6 3 := ⟨by decide +kernel, by decide +kernel, Or.inl fw_X6_11⟩
theorem fw_X6_17 : Cond.fieldLink RX6 17 (mm_T 6 0).1 (mm_T 6 0).2.1 (mm_T 6 0).2.2.1 ∈ gtb := gt_mem (tb 274 (by decide +kernel)) rfl
theorem fl_X6_17 : FL RX6 17 6 0 := ⟨by decide +kernel, by decide +kernel, Or.inl fw_X6_17⟩
theorem fw_X6_21 : Cond.fieldLink RX6 21 (mm_T 6 1).1 (mm_T 6 1).2.1 (mm_T 6 1).2.2.1 ∈ gtb := gt_mem (tb 275 (by decide +kernel)) rfl
theorem fl_X6_21 : FL RX6 21 6 1 := ⟨by decide +kernel, by decide +kernel, Or.inl fw_X6_21⟩
theorem fw_X6_25 : Cond.fieldLink RX6 25 (mm_T 6 2).1 (mm_T 6 2).2.1 (mm_T 6 2).2.2.1 ∈ gtb := gt_mem (tb 276 (by decide +kernel)) rfl
theorem fl_X6_25 : FL RX6 25 6 2 := ⟨by decide +kernel, by decide +kernel, Or.inl fw_X6_25⟩
theorem fw_X6_30 : Cond.fieldLink RX6 30 (mm_T 6 4).1 (mm_T 6 4).2.1 (mm_T 6 4).2.2.1 ∈ gtb := gt_mem (tb 278 (by decide +kernel)) rfl
theorem fl_X6_30 : FL RX6 30 6 4 := ⟨by decide +kernel, by decide +kernel, Or.inl fw_X6_30⟩
theorem fw_X6_34 : Cond.fieldLink RX6 34 (mm_T 6 5).1 (mm_T 6 5).2.1 (mm_T 6 5).2.2.1 ∈ gtb := gt_mem (tb 279 (by decide +kernel)) rfl
theorem fl_X6_34 : FL RX6 34 6 5 := ⟨by decide +kernel, by decide +kernel, Or.inl fw_X6_34⟩
theorem fw_X6_38 : Cond.fieldLink RX6 38 (mm_T 6 6).1 (mm_T 6 6).2.1 (mm_T 6 6).2.2.1 ∈ gtb := gt_mem (tb 280 (by decide +kernel)) rfl
theorem fl_X6_38 : FL RX6 38 6 6 := ⟨by decide +kernel, by decide +kernel, Or.inl fw_X6_38⟩
theorem fw_X6_41 : Cond.fieldLink RX6 41 (mm_T 6 7).1 (mm_T 6 7).2.1 (mm_T 6 7).2.2.1 ∈ gtb := gt_mem (tb 281 (by decide +kernel)) rfl
theorem fl_X6_41 : FL RX6 41 6 7 := ⟨by decide +kernel, by decide +kernel, Or.inl fw_X6_41⟩
theorem fw_X6_44 : Cond.fieldLink RX6 44 (mm_T 6 8).1 (mm_T 6 8).2.1 (mm_T 6 8).2.2.1 ∈ gtb := gt_mem (tb 282 (by decide +kernel)) rfl
theorem fl_X6_44 : FL RX6 44 6 8 := ⟨by decide +kernel, by decide +kernel, Or.inl fw_X6_44⟩
theorem fw_X6_47 : Cond.fieldLink RX6 47 (mm_T 6 9).1 (mm_T 6 9).2.1 (mm_T 6 9).2.2.1 ∈ gtb := gt_mem (tb 283 (by decide +kernel)) rfl
theorem fl_X6_47 : FL RX6 47 6 9 := ⟨by decide +kernel, by decide +kernel, Or.inl fw_X6_47⟩
theorem fl_X6_60 : FL RX6 60 2 0 := ⟨by decide +kernel, by decide +kernel, Or.inr ⟨"RuleChangeDesk", tb 262 (by decide +kernel)⟩⟩
theorem fl_X6_68 : FL RX6 68 2 2 := ⟨by decide +kernel, by decide +kernel, Or.inr ⟨"RuleChangeDesk", tb 266 (by decide +kernel)⟩⟩
theorem fl_X6_85 : FL RX6 85 2 1 := ⟨by decide +kernel, by decide +kernel, Or.inr ⟨"RuleChangeDesk", tb 264 (by decide +kernel)⟩⟩
theorem fw_X7_9 : Cond.fieldLink RX7 9 (mm_T 7 0).1 (mm_T 7 0).2.1 (mm_T 7 0).2.2.1 ∈ gtb := gt_mem (tb 163 (by decide +kernel)) rfl
theorem fl_X7_9 : FL RX7 9 7 0 := ⟨by decide +kernel, by decide +kernel, Or.inl fw_X7_9⟩
theorem fw_X7_15 : Cond.fieldLink RX7 15 (mm_T 7 1).1 (mm_T 7 1).2.1 (mm_T 7 1).2.2.1 ∈ gtb := gt_mem (tb 164 (by decide +kernel)) rfl
theorem fl_X7_15 : FL RX7 15 7 1 := ⟨by decide +kernel, by decide +kernel, Or.inl fw_X7_15⟩
theorem fw_X7_18 : Cond.fieldLink RX7 18 (mm_T 7 2).1 (mm_T 7 2).2.1 (mm_T 7 2).2.2.1 ∈ gtb := gt_mem (tb 165 (by decide +kernel)) rfl
theorem fl_X7_18 : FL RX7 18 7 2 := ⟨by decide +kernel, by decide +kernel, Or.inl fw_X7_18⟩
theorem fw_X7_21 : Cond.fieldLink RX7 21 (mm_T 7 3).1 (mm_T 7 3).2.1 (mm_T 7 3).2.2.1 ∈ gtb := gt_mem (tb 166 (by decide +kernel)) rfl
theorem fl_X7_21 : FL RX7 21 7 3 := ⟨by decide +kernel, by decide +kernel, Or.inl fw_X7_21⟩
theorem fw_X7_24 : Cond.fieldLink RX7 24 (mm_T 7 4).1 (mm_T 7 4).2.1 (mm_T 7 4).2.2.1 ∈ gtb := gt_mem (tb 168 (by decide +kernel)) rfl
theorem fl_X7_24 : FL RX7 24 7 4 := ⟨by decide +kernel, by decide +kernel, Or.inl fw_X7_24⟩
theorem fw_X7_27 : Cond.fieldLink RX7 27 (mm_T 7 5).1 (mm_T 7 5).2.1 (mm_T 7 5).2.2.1 ∈ gtb := gt_mem (tb 169 (by decide +kernel)) rfl
theorem fl_X7_27 : FL RX7 27 7 5 := ⟨by decide +kernel, by decide +kernel, Or.inl fw_X7_27⟩
theorem fw_X8_9 : Cond.fieldLink RX8 9 (mm_T 8 0).1 (mm_T 8 0).2.1 (mm_T 8 0).2.2.1 ∈ gtb := gt_mem (tb 144 (by decide +kernel)) rfl
theorem fl_X8_9 : FL RX8 9 8 0 := ⟨by decide +kernel, by decide +kernel, Or.inl fw_X8_9⟩
theorem fw_X8_15 : Cond.fieldLink RX8 15 (mm_T 8 3).1 (mm_T 8 3).2.1 (mm_T 8 3).2.2.1 ∈ gtb := gt_mem (tb 147 (by decide +kernel)) rfl
theorem fl_X8_15 : FL RX8 15 8 3 := ⟨by decide +kernel, by decide +kernel, Or.inl fw_X8_15⟩
theorem fw_X8_19 : Cond.fieldLink RX8 19 (mm_T 8 1).1 (mm_T 8 1).2.1 (mm_T 8 1).2.2.1 ∈ gtb := gt_mem (tb 145 (by decide +kernel)) rfl
theorem fl_X8_19 : FL RX8 19 8 1 := ⟨by decide +kernel, by decide +kernel, Or.inl fw_X8_19⟩
theorem fw_X8_22 : Cond.fieldLink RX8 22 (mm_T 8 2).1 (mm_T 8 2).2.1 (mm_T 8 2).2.2.1 ∈ gtb := gt_mem (tb 146 (by decide +kernel)) rfl
theorem fl_X8_22 : FL RX8 22 8 2 := ⟨by decide +kernel, by decide +kernel, Or.inl fw_X8_22⟩
theorem fw_X10_7 : Cond.fieldLink RX10 7 (mm_T 10 3).1 (mm_T 10 3).2.1 (mm_T 10 3).2.2.1 ∈ gtb := gt_mem (tb 908 (by decide +kernel)) rfl
theorem fl_X10_7 : FL RX10 7 10 3 := ⟨by decide +kernel, by decide +kernel, Or.inl fw_X10_7⟩
theorem fw_X10_13 : Cond.fieldLink RX10 13 (mm_T 10 4).1 (mm_T 10 4).2.1 (mm_T 10 4).2.2.1 ∈ gtb := gt_mem (tb 909 (by decide +kernel)) rfl
theorem fl_X10_13 : FL RX10 13 10 4 := ⟨by decide +kernel, by decide +kernel, Or.inl fw_X10_13⟩
theorem fw_X10_16 : Cond.fieldLink RX10 16 (mm_T 10 5).1 (mm_T 10 5).2.1 (mm_T 10 5).2.2.1 ∈ gtb := gt_mem (tb 910 (by decide +kernel)) rfl
theorem fl_X10_16 : FL RX10 16 10 5 := ⟨by decide +kernel, by decide +kernel, Or.inl fw_X10_16⟩
theorem fw_X10_19 : Cond.fieldLink RX10 19 (mm_T 10 6).1 (mm_T 10 6).2.1 (mm_T 10 6).2.2.1 ∈ gtb := gt_mem (tb 911 (by decide +kernel)) rfl
theorem fl_X10_19 : FL RX10 19 10 6 := ⟨by decide +kernel, by decide +kernel, Or.inl fw_X10_19⟩
theorem fw_X10_22 : Cond.fieldLink RX10 22 (mm_T 10 7).1 (mm_T 10 7).2.1 (mm_T 10 7).2.2.1 ∈ gtb := gt_mem (tb 912 (by decide +kernel)) rfl
theorem fl_X10_22 : FL RX10 22 10 7 := ⟨by decide +kernel, by decide +kernel, Or.inl fw_X10_22⟩
theorem fw_X10_25 : Cond.fieldLink RX10 25 (mm_T 10 8).1 (mm_T 10 8).2.1 (mm_T 10 8).2.2.1 ∈ gtb := gt_mem (tb 913 (by decide +kernel)) rfl
theorem fl_X10_25 : FL RX10 25 10 8 := ⟨by decide +kernel, by decide +kernel, Or.inl fw_X10_25⟩
theorem fw_X10_28 : Cond.fieldLink RX10 28 (mm_T 10 9).1 (mm_T 10 9).2.1 (mm_T 10 9).2.2.1 ∈ gtb := gt_mem (tb 914 (by decide +kernel)) rfl
theorem fl_X10_28 : FL RX10 28 10 9 := ⟨by decide +kernel, by decide +kernel, Or.inl fw_X10_28⟩
theorem fw_X10_31 : Cond.fieldLink RX10 31 (mm_T 10 10).1 (mm_T 10 10).2.1 (mm_T 10 10).2.2.1 ∈ gtb := gt_mem (tb 915 (by decide +kernel)) rfl
theorem fl_X10_31 : FL RX10 31 10 10 := ⟨by decide +kernel, by decide +kernel, Or.inl fw_X10_31⟩
theorem fw_X10_34 : Cond.fieldLink RX10 34 (mm_T 10 11).1 (mm_T 10 11).2.1 (mm_T 10 11).2.2.1 ∈ gtb := gt_mem (tb 916 (by decide +kernel)) rfl
theorem fl_X10_34 : FL RX10 34 10 11 := ⟨by decide +kernel, by decide +kernel, Or.inl fw_X10_34⟩
theorem fw_X10_37 : Cond.fieldLink RX10 37 (mm_T 10 12).1 (mm_T 10 12).2.1 (mm_T 10 12).2.2.1 ∈ gtb := gt_mem (tb 917 (by decide +kernel)) rfl
theorem fl_X10_37 : FL RX10 37 10 12 := ⟨by decide +kernel, by decide +kernel, Or.inl fw_X10_37⟩
theorem fw_X10_40 : Cond.fieldLink RX10 40 (mm_T 10 20).1 (mm_T 10 20).2.1 (mm_T 10 20).2.2.1 ∈ gtb := gt_mem (tb 921 (by decide +kernel)) rfl
theorem fl_X10_40 : FL RX10 40 10 20 := ⟨by decide +kernel, by decide +kernel, Or.inl fw_X10_40⟩
theorem fw_X10_44 : Cond.fieldLink RX10 44 (mm_T 10 22).1 (mm_T 10 22).2.1 (mm_T 10 22).2.2.1 ∈ gtb := gt_mem (tb 923 (by decide +kernel)) rfl
theorem fl_X10_44 : FL RX10 44 10 22 := ⟨by decide +kernel, by decide +kernel, Or.inl fw_X10_44⟩
theorem fw_X10_48 : Cond.fieldLink RX10 48 (mm_T 10 23).1 (mm_T 10 23).2.1 (mm_T 10 23).2.2.1 ∈ gtb := gt_mem (tb 924 (by decide +kernel)) rfl
theorem fl_X10_48 : FL RX10 48 10 23 := ⟨by decide +kernel, by decide +kernel, Or.inl fw_X10_48⟩
theorem fw_X10_51 : Cond.fieldLink RX10 51 (mm_T 10 25).1 (mm_T 10 25).2.1 (mm_T 10 25).2.2.1 ∈ gtb := gt_mem (tb 926 (by decide +kernel)) rfl
theorem fl_X10_51 : FL RX10 51 10 25 := ⟨by decide +kernel, by decide +kernel, Or.inl fw_X10_51⟩
theorem fw_X10_54 : Cond.fieldLink RX10 54 (mm_T 10 26).1 (mm_T 10 26).2.1 (mm_T 10 26).2.2.1 ∈ gtb := gt_mem (tb 927 (by decide +kernel)) rfl
theorem fl_X10_54 : FL RX10 54 10 26 := ⟨by decide +kernel, by decide +kernel, Or.inl fw_X10_54⟩
theorem fw_X10_57 : Cond.fieldLink RX10 57 (mm_T 10 27).1 (mm_T 10 27).2.1 (mm_T 10 27).2.2.1 ∈ gtb := gt_mem (tb 928 (by decide +kernel)) rfl
theorem fl_X10_57 : FL RX10 57 10 27 := ⟨by decide +kernel, by decide +kernel, Or.inl fw_X10_57⟩
theorem fw_X10_60 : Cond.fieldLink RX10 60 (mm_T 10 33).1 (mm_T 10 33).2.1 (mm_T 10 33).2.2.1 ∈ gtb := gt_mem (tb 934 (by decide +kernel)) rfl
theorem fl_X10_60 : FL RX10 60 10 33 := ⟨by decide +kernel, by decide +kernel, Or.inl fw_X10_60⟩
theorem fw_X10_63 : Cond.fieldLink RX10 63 (mm_T 10 34).1 (mm_T 10 34).2.1 (mm_T 10 34).2.2.1 ∈ gtb := gt_mem (tb 935 (by decide +kernel)) rfl
theorem fl_X10_63 : FL RX10 63 10 34 := ⟨by decide +kernel, by decide +kernel, Or.inl fw_X10_63⟩
theorem fw_X10_66 : Cond.fieldLink RX10 66 (mm_T 10 35).1 (mm_T 10 35).2.1 (mm_T 10 35).2.2.1 ∈ gtb := gt_mem (tb 936 (by decide +kernel)) rfl
theorem fl_X10_66 : FL RX10 66 10 35 := ⟨by decide +kernel, by decide +kernel, Or.inl fw_X10_66⟩
theorem fw_X10_69 : Cond.fieldLink RX10 69 (mm_T 10 36).1 (mm_T 10 36).2.1 (mm_T 10 36).2.2.1 ∈ gtb := gt_mem (tb 937 (by decide +kernel)) rfl
theorem fl_X10_69 : FL RX10 69 10 36 := ⟨by decide +kernel, by decide +kernel, Or.inl fw_X10_69⟩
theorem fw_X10_72 : Cond.fieldLink RX10 72 (mm_T 10 37).1 (mm_T 10 37).2.1 (mm_T 10 37).2.2.1 ∈ gtb := gt_mem (tb 938 (by decide +kernel)) rfl
theorem fl_X10_72 : FL RX10 72 10 37 := ⟨by decide +kernel, by decide +kernel, Or.inl fw_X10_72⟩
theorem fw_X10_75 : Cond.fieldLink RX10 75 (mm_T 10 38).1 (mm_T 10 38).2.1 (mm_T 10 38).2.2.1 ∈ gtb := gt_mem (tb 939 (by decide +kernel)) rfl
theorem fl_X10_75 : FL RX10 75 10 38 := ⟨by decide +kernel, by decide +kernel, Or.inl fw_X10_75⟩
theorem fw_X10_82 : Cond.fieldLink RX10 82 (mm_T 10 0).1 (mm_T 10 0).2.1 (mm_T 10 0).2.2.1 ∈ gtb := gt_mem (tb 905 (by decide +kernel)) rfl
theorem fl_X10_82 : FL RX10 82 10 0 := ⟨by decide +kernel, by decide +kernel, Or.inl fw_X10_82⟩
theorem fw_X10_85 : Cond.fieldLink RX10 85 (mm_T 10 1).1 (mm_T 10 1).2.1 (mm_T 10 1).2.2.1 ∈ gtb := gt_mem (tb 906 (by decide +kernel)) rfl
theorem fl_X10_85 : FL RX10 85 10 1 := ⟨by decide +kernel, by decide +kernel, Or.inl fw_X10_85⟩
theorem fw_X10_88 : Cond.fieldLink RX10 88 (mm_T 10 2).1 (mm_T 10 2).2.1 (mm_T 10 2).2.2.1 ∈ gtb := gt_mem (tb 907 (by decide +kernel)) rfl
theorem fl_X10_88 : FL RX10 88 10 2 := ⟨by decide +kernel, by decide +kernel, Or.inl fw_X10_88⟩
theorem fw_X10_122 : Cond.fieldLink RX10 122 (mm_T 10 13).1 (mm_T 10 13).2.1 (mm_T 10 13).2.2.1 ∈ gtb := gt_mem (tb 918 (by decide +kernel)) rfl
theorem fl_X10_122 : FL RX10 122 10 13 := ⟨by decide +kernel, by decide +kernel, Or.inl fw_X10_122⟩
theorem fw_X10_125 : Cond.fieldLink RX10 125 (mm_T 10 14).1 (mm_T 10 14).2.1 (mm_T 10 14).2.2.1 ∈ gtb := gt_mem (tb 919 (by decide +kernel)) rfl
theorem fl_X10_125 : FL RX10 125 10 14 := ⟨by decide +kernel, by decide +kernel, Or.inl fw_X10_125⟩
theorem fw_X10_142 : Cond.fieldLink RX10 142 (mm_T 10 19).1 (mm_T 10 19).2.1 (mm_T 10 19).2.2.1 ∈ gtb := gt_mem (tb 920 (by decide +kernel)) rfl
theorem fl_X10_142 : FL RX10 142 10 19 := ⟨by decide +kernel, by decide +kernel, Or.inl fw_X10_142⟩
theorem fw_X10_158 : Cond.fieldLink RX10 158 (mm_T 10 21).1 (mm_T 10 21).2.1 (mm_T 10 21).2.2.1 ∈ gtb := gt_mem (tb 922 (by decide +kernel)) rfl
theorem fl_X10_158 : FL RX10 158 10 21 := ⟨by decide +kernel, by decide +kernel, Or.inl fw_X10_158⟩
theorem fw_X10_162 : Cond.fieldLink RX10 162 (mm_T 10 24).1 (mm_T 10 24).2.1 (mm_T 10 24).2.2.1 ∈ gtb := gt_mem (tb 925 (by decide +kernel)) rfl
theorem fl_X10_162 : FL RX10 162 10 24 := ⟨by decide +kernel, by decide +kernel, Or.inl fw_X10_162⟩
theorem fw_X10_165 : Cond.fieldLink RX10 165 (mm_T 10 28).1 (mm_T 10 28).2.1 (mm_T 10 28).2.2.1 ∈ gtb := gt_mem (tb 929 (by decide +kernel)) rfl
theorem fl_X10_165 : FL RX10 165 10 28 := ⟨by decide +kernel, by decide +kernel, Or.inl fw_X10_165⟩
theorem fw_X10_194 : Cond.fieldLink RX10 194 (mm_T 10 29).1 (mm_T 10 29).2.1 (mm_T 10 29).2.2.1 ∈ gtb := gt_mem (tb 930 (by decide +kernel)) rfl
theorem fl_X10_194 : FL RX10 194 10 29 := ⟨by decide +kernel, by decide +kernel, Or.inl fw_X10_194⟩
theorem fw_X10_197 : Cond.fieldLink RX10 197 (mm_T 10 30).1 (mm_T 10 30).2.1 (mm_T 10 30).2.2.1 ∈ gtb := gt_mem (tb 931 (by decide +kernel)) rfl
theorem fl_X10_197 : FL RX10 197 10 30 := ⟨by decide +kernel, by decide +kernel, Or.inl fw_X10_197⟩
theorem fw_X10_200 : Cond.fieldLink RX10 200 (mm_T 10 31).1 (mm_T 10 31).2.1 (mm_T 10 31).2.2.1 ∈ gtb := gt_mem (tb 932 (by decide +kernel)) rfl
theorem fl_X10_200 : FL RX10 200 10 31 := ⟨by decide +kernel, by decide +kernel, Or.inl fw_X10_200⟩
theorem fw_X10_203 : Cond.fieldLink RX10 203 (mm_T 10 32).1 (mm_T 10 32).2.1 (mm_T 10 32).2.2.1 ∈ gtb := gt_mem (tb 933 (by decide +kernel)) rfl
theorem fl_X10_203 : FL RX10 203 10 32 := ⟨by decide +kernel, by decide +kernel, Or.inl fw_X10_203⟩
theorem cw_X9_7 : Cond.classLink RX9 7 RX1 ∈ gtb := gt_mem (tb 64 (by decide +kernel)) rfl
theorem nc_X9_7 : NC RX9 7 1 := ⟨by decide +kernel, cw_X9_7, gt_mem (tb 65 (by decide +kernel)) rfl, gi_X1⟩
theorem cw_X9_16 : Cond.classLink RX9 16 RX0 ∈ gtb := gt_mem (tb 130 (by decide +kernel)) rfl
theorem nc_X9_16 : NC RX9 16 0 := ⟨by decide +kernel, cw_X9_16, gt_mem (tb 131 (by decide +kernel)) rfl, gi_X0⟩
theorem cw_X9_25 : Cond.classLink RX9 25 RX3 ∈ gtb := gt_mem (tb 214 (by decide +kernel)) rfl
theorem nc_X9_25 : NC RX9 25 3 := ⟨by decide +kernel, cw_X9_25, gt_mem (tb 215 (by decide +kernel)) rfl, gi_X3⟩
theorem cw_X9_32 : Cond.classLink RX9 32 RX4 ∈ gtb := gt_mem (tb 227 (by decide +kernel)) rfl
theorem nc_X9_32 : NC RX9 32 4 := ⟨by decide +kernel, cw_X9_32, gt_mem (tb 228 (by decide +kernel)) rfl, gi_X4⟩
theorem cw_X9_41 : Cond.classLink RX9 41 RX6 ∈ gtb := gt_mem (tb 246 (by decide +kernel)) rfl
theorem nc_X9_41 : NC RX9 41 6 := ⟨by decide +kernel, cw_X9_41, gt_mem (tb 247 (by decide +kernel)) rfl, gi_X6⟩
theorem cw_X9_50 : Cond.classLink RX9 50 RX8 ∈ gtb := gt_mem (tb 305 (by decide +kernel)) rfl
theorem nc_X9_50 : NC RX9 50 8 := ⟨by decide +kernel, cw_X9_50, gt_mem (tb 139 (by decide +kernel)) rfl, gi_X8⟩
theorem cw_X9_131 : Cond.classLink RX9 131 RX7 ∈ gtb := gt_mem (tb 481 (by decide +kernel)) rfl
theorem nc_X9_131 : NC RX9 131 7 := ⟨by decide +kernel, cw_X9_131, gt_mem (tb 158 (by decide +kernel)) rfl, gi_X7⟩
theorem cw_X0_9 : Cond.classLink RX0 9 RX7 ∈ gtb := gt_mem (tb 136 (by decide +kernel)) rfl
theorem nc_X0_9 : NC RX0 9 7 := ⟨by decide +kernel, cw_X0_9, gt_mem (tb 158 (by decide +kernel)) rfl, gi_X7⟩
theorem cw_X0_24 : Cond.classLink RX0 24 RX8 ∈ gtb := gt_mem (tb 138 (by decide +kernel)) rfl
theorem nc_X0_24 : NC RX0 24 8 := ⟨by decide +kernel, cw_X0_24, gt_mem (tb 139 (by decide +kernel)) rfl, gi_X8⟩
theorem cw_X1_18 : Cond.classLink RX1 18 RX5 ∈ gtb := gt_mem (tb 70 (by decide +kernel)) rfl
theorem nc_X1_18 : NC RX1 18 5 := ⟨by decide +kernel, cw_X1_18, gt_mem (tb 75 (by decide +kernel)) rfl, gi_X5⟩
theorem cw_X2_9 : Cond.classLink RX2 9 RX8 ∈ gtb := gt_mem (tb 259 (by decide +kernel)) rfl
theorem nc_X2_9 : NC RX2 9 8 := ⟨by decide +kernel, cw_X2_9, gt_mem (tb 139 (by decide +kernel)) rfl, gi_X8⟩
theorem cw_X6_9 : Cond.classLink RX6 9 RX2 ∈ gtb := gt_mem (tb 252 (by decide +kernel)) rfl
theorem nc_X6_9 : NC RX6 9 2 := ⟨by decide +kernel, cw_X6_9, gt_mem (tb 254 (by decide +kernel)) rfl, gi_X2⟩
theorem cw_L_7 : Cond.classLink RL 7 RX9 ∈ gtb := gt_mem (tb 56 (by decide +kernel)) rfl
theorem nc_L_7 : NC RL 7 9 := ⟨by decide +kernel, cw_L_7, gt_mem (tb 57 (by decide +kernel)) rfl, gi_X9⟩
theorem cw_L_10 : Cond.classLink RL 10 RX10 ∈ gtb := gt_mem (tb 891 (by decide +kernel)) rfl
theorem nc_L_10 : NC RL 10 10 := ⟨by decide +kernel, cw_L_10, gt_mem (tb 892 (by decide +kernel)) rfl, gi_X10⟩
theorem ml_X9_1 : Cond.methodLink RX9 1 objectInit ∈ gtb := gt_mem (tb 61 (by decide +kernel)) rfl
theorem ml_X9_9 : Cond.methodLink RX9 9 yX1_init ∈ gtb := gt_mem (tb 66 (by decide +kernel)) rfl
theorem ml_X9_18 : Cond.methodLink RX9 18 yX0_init ∈ gtb := gt_mem (tb 132 (by decide +kernel)) rfl
theorem ml_X9_27 : Cond.methodLinkNest RX9 27 yX3_init "RuleChangeDesk" ∈ lw_tbl := tb 216 (by decide +kernel)
theorem ml_X9_34 : Cond.methodLink RX9 34 yX4_init ∈ gtb := gt_mem (tb 229 (by decide +kernel)) rfl
theorem ml_X9_43 : Cond.methodLink RX9 43 yX6_init ∈ gtb := gt_mem (tb 248 (by decide +kernel)) rfl
theorem ml_X9_52 : Cond.methodLinkNest RX9 52 yX8_init "RuleChangeDesk" ∈ lw_tbl := tb 306 (by decide +kernel)
theorem ml_X9_57 : Cond.methodLink RX9 57 yX1_reset ∈ gtb := gt_mem (tb 330 (by decide +kernel)) rfl
theorem ml_X9_61 : Cond.methodLink RX9 61 yX0_dropWants ∈ gtb := gt_mem (tb 345 (by decide +kernel)) rfl
theorem ml_X9_64 : Cond.methodLink RX9 64 yX9_startAfresh ∈ gtb := gt_mem (tb 349 (by decide +kernel)) rfl
theorem ml_X9_67 : Cond.methodLink RX9 67 yX1_isFree ∈ gtb := gt_mem (tb 373 (by decide +kernel)) rfl
theorem ml_X9_71 : Cond.methodLink RX9 71 yX1_join ∈ gtb := gt_mem (tb 385 (by decide +kernel)) rfl
theorem ml_X9_75 : Cond.methodLink RX9 75 yX1_hostCount ∈ gtb := gt_mem (tb 393 (by decide +kernel)) rfl
theorem ml_X9_79 : Cond.methodLink RX9 79 yX1_addHost ∈ gtb := gt_mem (tb 397 (by decide +kernel)) rfl
theorem ml_X9_83 : Cond.methodLink RX9 83 yX1_hasPort ∈ gtb := gt_mem (tb 405 (by decide +kernel)) rfl
theorem ml_X9_86 : Cond.methodLink RX9 86 yX1_hostAt ∈ gtb := gt_mem (tb 406 (by decide +kernel)) rfl
theorem ml_X9_89 : Cond.methodLink RX9 89 yX0_needsHost ∈ gtb := gt_mem (tb 410 (by decide +kernel)) rfl
theorem ml_X9_93 : Cond.methodLink RX9 93 yX1_clear ∈ gtb := gt_mem (tb 421 (by decide +kernel)) rfl
theorem ml_X9_97 : Cond.methodLink RX9 97 yX1_rowOf ∈ gtb := gt_mem (tb 429 (by decide +kernel)) rfl
theorem ml_X9_101 : Cond.methodLink RX9 101 yX5_size ∈ gtb := gt_mem (tb 433 (by decide +kernel)) rfl
theorem ml_X9_106 : Cond.methodLink RX9 106 yX9_isSpan ∈ gtb := gt_mem (tb 437 (by decide +kernel)) rfl
theorem ml_X9_109 : Cond.methodLink RX9 109 yX5_add ∈ gtb := gt_mem (tb 443 (by decide +kernel)) rfl
theorem ml_X9_112 : Cond.methodLink RX9 112 yX5_remove ∈ gtb := gt_mem (tb 455 (by decide +kernel)) rfl
theorem ml_X9_115 : Cond.methodLink RX9 115 yX5_becomeLike ∈ gtb := gt_mem (tb 463 (by decide +kernel)) rfl
theorem ml_X9_119 : Cond.methodLink RX9 119 yX1_hasHost ∈ gtb := gt_mem (tb 471 (by decide +kernel)) rfl
theorem ml_X9_122 : Cond.methodLink RX9 122 yX0_wantCount ∈ gtb := gt_mem (tb 475 (by decide +kernel)) rfl
theorem ml_X9_125 : Cond.methodLink RX9 125 yX9_hasTarget ∈ gtb := gt_mem (tb 479 (by decide +kernel)) rfl
theorem ml_X9_128 : Cond.methodLink RX9 128 yX1_hasSwitch ∈ gtb := gt_mem (tb 480 (by decide +kernel)) rfl
theorem ml_X9_133 : Cond.methodLink RX9 133 yX7_init ∈ gtb := gt_mem (tb 482 (by decide +kernel)) rfl
theorem ml_X9_136 : Cond.methodLink RX9 136 yX0_addWant ∈ gtb := gt_mem (tb 483 (by decide +kernel)) rfl
theorem ml_X9_140 : Cond.methodLink RX9 140 yX0_removeWant ∈ gtb := gt_mem (tb 491 (by decide +kernel)) rfl
theorem ml_X9_143 : Cond.methodLink RX9 143 yX1_switchCount ∈ gtb := gt_mem (tb 503 (by decide +kernel)) rfl
theorem ml_X9_146 : Cond.methodLink RX9 146 yX1_linkCount ∈ gtb := gt_mem (tb 507 (by decide +kernel)) rfl
theorem ml_X9_149 : Cond.methodLink RX9 149 yX1_ruleCount ∈ gtb := gt_mem (tb 511 (by decide +kernel)) rfl
theorem ml_X9_152 : Cond.methodLink RX9 152 yX1_unlike ∈ gtb := gt_mem (tb 516 (by decide +kernel)) rfl
theorem ml_X9_155 : Cond.methodLink RX9 155 yX1_classCount ∈ gtb := gt_mem (tb 524 (by decide +kernel)) rfl
theorem ml_X9_158 : Cond.methodLink RX9 158 yX4_countGood ∈ gtb := gt_mem (tb 544 (by decide +kernel)) rfl
theorem ml_X9_161 : Cond.methodLink RX9 161 yX3_size ∈ gtb := gt_mem (tb 626 (by decide +kernel)) rfl
theorem ml_X9_162 : Cond.methodLink RX9 162 yX3_members ∈ gtb := gt_mem (tb 630 (by decide +kernel)) rfl
theorem ml_X9_165 : Cond.methodLink RX9 165 yX1_classOf ∈ gtb := gt_mem (tb 642 (by decide +kernel)) rfl
theorem ml_X9_169 : Cond.methodLink RX9 169 yX1_hasMixture ∈ gtb := gt_mem (tb 651 (by decide +kernel)) rfl
theorem ml_X9_172 : Cond.methodLink RX9 172 yX9_isMark ∈ gtb := gt_mem (tb 440 (by decide +kernel)) rfl
theorem ml_X9_175 : Cond.methodLink RX9 175 yX1_trace ∈ gtb := gt_mem (tb 656 (by decide +kernel)) rfl
theorem ml_X9_179 : Cond.methodLink RX9 179 yX8_length ∈ gtb := gt_mem (tb 657 (by decide +kernel)) rfl
theorem ml_X9_182 : Cond.methodLink RX9 182 yX8_end ∈ gtb := gt_mem (tb 665 (by decide +kernel)) rfl
theorem ml_X9_185 : Cond.methodLink RX9 185 yX8_stop ∈ gtb := gt_mem (tb 666 (by decide +kernel)) rfl
theorem ml_X9_188 : Cond.methodLink RX9 188 yX0_hasWant ∈ gtb := gt_mem (tb 674 (by decide +kernel)) rfl
theorem ml_X9_191 : Cond.methodLink RX9 191 yX0_leastBadMark ∈ gtb := gt_mem (tb 675 (by decide +kernel)) rfl
theorem ml_X9_194 : Cond.methodLink RX9 194 yX0_isKept ∈ gtb := gt_mem (tb 680 (by decide +kernel)) rfl
theorem ml_X9_197 : Cond.methodLink RX9 197 yX0_firstBroken ∈ gtb := gt_mem (tb 688 (by decide +kernel)) rfl
theorem ml_X9_200 : Cond.methodLink RX9 200 yX4_makeLeast ∈ gtb := gt_mem (tb 696 (by decide +kernel)) rfl
theorem ml_X9_204 : Cond.methodLink RX9 204 yX6_stop ∈ gtb := gt_mem (tb 365 (by decide +kernel)) rfl
theorem ml_X9_206 : Cond.methodLink RX9 206 yX4_countOrders ∈ gtb := gt_mem (tb 723 (by decide +kernel)) rfl
theorem ml_X9_209 : Cond.methodLink RX9 209 yX4_makeOrder ∈ gtb := gt_mem (tb 743 (by decide +kernel)) rfl
theorem ml_X9_213 : Cond.methodLink RX9 213 yX3_add ∈ gtb := gt_mem (tb 751 (by decide +kernel)) rfl
theorem ml_X9_215 : Cond.methodLink RX9 215 yX3_clear ∈ gtb := gt_mem (tb 361 (by decide +kernel)) rfl
theorem ml_X9_217 : Cond.methodLink RX9 217 yX3_has ∈ gtb := gt_mem (tb 760 (by decide +kernel)) rfl
theorem ml_X9_220 : Cond.methodLink RX9 220 yX3_get ∈ gtb := gt_mem (tb 764 (by decide +kernel)) rfl
theorem ml_X9_223 : Cond.methodLink RX9 223 yX3_membersAhead ∈ gtb := gt_mem (tb 773 (by decide +kernel)) rfl
theorem ml_X9_226 : Cond.methodLink RX9 226 yX4_whyNotTaken ∈ gtb := gt_mem (tb 774 (by decide +kernel)) rfl
theorem ml_X9_229 : Cond.methodLink RX9 229 yX6_start ∈ gtb := gt_mem (tb 782 (by decide +kernel)) rfl
theorem ml_X9_232 : Cond.methodLink RX9 232 yX6_isLive ∈ gtb := gt_mem (tb 790 (by decide +kernel)) rfl
theorem ml_X9_236 : Cond.methodLink RX9 236 yX6_packetCount ∈ gtb := gt_mem (tb 794 (by decide +kernel)) rfl
theorem ml_X9_239 : Cond.methodLink RX9 239 yX6_putIn ∈ gtb := gt_mem (tb 798 (by decide +kernel)) rfl
theorem ml_X9_242 : Cond.methodLink RX9 242 yX6_packetOf ∈ gtb := gt_mem (tb 812 (by decide +kernel)) rfl
theorem ml_X9_246 : Cond.methodLink RX9 246 yX2_isUnderWay ∈ gtb := gt_mem (tb 816 (by decide +kernel)) rfl
theorem ml_X9_251 : Cond.methodLink RX9 251 yX6_moveOn ∈ gtb := gt_mem (tb 821 (by decide +kernel)) rfl
theorem ml_X9_255 : Cond.methodLink RX9 255 yX2_place ∈ gtb := gt_mem (tb 837 (by decide +kernel)) rfl
theorem ml_X9_258 : Cond.methodLink RX9 258 yX2_end ∈ gtb := gt_mem (tb 838 (by decide +kernel)) rfl
theorem ml_X9_259 : Cond.methodLink RX9 259 yX6_takeNew ∈ gtb := gt_mem (tb 846 (by decide +kernel)) rfl
theorem ml_X9_262 : Cond.methodLink RX9 262 yX6_nextRound ∈ gtb := gt_mem (tb 866 (by decide +kernel)) rfl
theorem ml_X9_265 : Cond.methodLink RX9 265 yX6_tell ∈ gtb := gt_mem (tb 875 (by decide +kernel)) rfl
theorem ml_X9_268 : Cond.methodLink RX9 268 yX2_tell ∈ gtb := gt_mem (tb 883 (by decide +kernel)) rfl
theorem ml_X9_269 : Cond.methodLink RX9 269 yX1_forget ∈ gtb := gt_mem (tb 353 (by decide +kernel)) rfl
theorem ml_X9_272 : Cond.methodLink RX9 272 yX0_forget ∈ gtb := gt_mem (tb 357 (by decide +kernel)) rfl
theorem ml_X0_3 : Cond.methodLink RX0 3 objectInit ∈ gtb := gt_mem (tb 135 (by decide +kernel)) rfl
theorem ml_X0_26 : Cond.methodLinkNest RX0 26 yX8_init "RuleChangeDesk" ∈ lw_tbl := tb 140 (by decide +kernel)
theorem ml_X0_41 : Cond.methodLink RX0 41 yX7_init ∈ gtb := gt_mem (tb 159 (by decide +kernel)) rfl
theorem ml_X0_55 : Cond.methodLink RX0 55 yX0_hasWant ∈ gtb := gt_mem (tb 495 (by decide +kernel)) rfl
theorem ml_X0_59 : Cond.methodLink RX0 59 yX7_needsHost ∈ gtb := gt_mem (tb 414 (by decide +kernel)) rfl
theorem ml_X0_62 : Cond.methodLink RX0 62 yX7_hasMark ∈ gtb := gt_mem (tb 560 (by decide +kernel)) rfl
theorem ml_X0_68 : Cond.methodLink RX0 68 yX0_traceByBooks ∈ gtb := gt_mem (tb 565 (by decide +kernel)) rfl
theorem ml_X0_72 : Cond.methodLink RX0 72 yX1_trace ∈ gtb := gt_mem (tb 569 (by decide +kernel)) rfl
theorem ml_X0_78 : Cond.methodLink RX0 78 yX7_isMet ∈ gtb := gt_mem (tb 601 (by decide +kernel)) rfl
theorem ml_X0_82 : Cond.methodLink RX0 82 yX0_findKept ∈ gtb := gt_mem (tb 552 (by decide +kernel)) rfl
theorem ml_X0_85 : Cond.methodLink RX0 85 yX0_leastBadMark ∈ gtb := gt_mem (tb 556 (by decide +kernel)) rfl
theorem ml_X0_89 : Cond.methodLink RX0 89 yX1_unlike ∈ gtb := gt_mem (tb 614 (by decide +kernel)) rfl
theorem ml_X0_93 : Cond.methodLinkNest RX0 93 yX9_isWithin "RuleChangeDesk" ∈ lw_tbl := tb 615 (by decide +kernel)
theorem ml_X0_97 : Cond.methodLink RX0 97 yX0_strikeNotGood ∈ gtb := gt_mem (tb 618 (by decide +kernel)) rfl
theorem ml_X0_101 : Cond.methodLink RX0 101 yX1_allNew ∈ gtb := gt_mem (tb 597 (by decide +kernel)) rfl
theorem ml_X1_3 : Cond.methodLink RX1 3 objectInit ∈ gtb := gt_mem (tb 69 (by decide +kernel)) rfl
theorem ml_X1_31 : Cond.methodLink RX1 31 yJ7_fill_53178 ∈ gtb := gt_mem (tb 72 (by decide +kernel)) rfl
theorem ml_X1_37 : Cond.methodLink RX1 37 yX5_init ∈ gtb := gt_mem (tb 76 (by decide +kernel)) rfl
theorem ml_X1_44 : Cond.methodLink RX1 44 yX5_clear ∈ gtb := gt_mem (tb 334 (by decide +kernel)) rfl
theorem ml_X1_51 : Cond.methodLink RX1 51 yX1_hasSwitch ∈ gtb := gt_mem (tb 381 (by decide +kernel)) rfl
theorem ml_X1_55 : Cond.methodLink RX1 55 yX1_allNew ∈ gtb := gt_mem (tb 655 (by decide +kernel)) rfl
theorem ml_X1_59 : Cond.methodLink RX1 59 yX1_hasPort ∈ gtb := gt_mem (tb 377 (by decide +kernel)) rfl
theorem ml_X1_63 : Cond.methodLink RX1 63 yX5_size ∈ gtb := gt_mem (tb 515 (by decide +kernel)) rfl
theorem ml_X1_66 : Cond.methodLink RX1 66 yX5_isLike ∈ gtb := gt_mem (tb 520 (by decide +kernel)) rfl
theorem ml_X1_70 : Cond.methodLinkNest RX1 70 yX9_isMark "RuleChangeDesk" ∈ lw_tbl := tb 646 (by decide +kernel)
theorem ml_X1_73 : Cond.methodLink RX1 73 yX1_findClasses ∈ gtb := gt_mem (tb 528 (by decide +kernel)) rfl
theorem ml_X1_79 : Cond.methodLink RX1 79 yX1_leastAlike ∈ gtb := gt_mem (tb 532 (by decide +kernel)) rfl
theorem ml_X1_83 : Cond.methodLink RX1 83 yX1_isSeparated ∈ gtb := gt_mem (tb 536 (by decide +kernel)) rfl
theorem ml_X1_86 : Cond.methodLink RX1 86 yX5_separates ∈ gtb := gt_mem (tb 540 (by decide +kernel)) rfl
theorem ml_X1_89 : Cond.methodLink RX1 89 yX1_switchOf ∈ gtb := gt_mem (tb 573 (by decide +kernel)) rfl
theorem ml_X1_92 : Cond.methodLink RX1 92 yX8_startAt ∈ gtb := gt_mem (tb 577 (by decide +kernel)) rfl
theorem ml_X1_98 : Cond.methodLink RX1 98 yX8_end ∈ gtb := gt_mem (tb 581 (by decide +kernel)) rfl
theorem ml_X1_101 : Cond.methodLink RX1 101 yX8_last ∈ gtb := gt_mem (tb 585 (by decide +kernel)) rfl
theorem ml_X1_104 : Cond.methodLink RX1 104 yX1_whereTo ∈ gtb := gt_mem (tb 589 (by decide +kernel)) rfl
theorem ml_X1_108 : Cond.methodLink RX1 108 yX8_goOn ∈ gtb := gt_mem (tb 593 (by decide +kernel)) rfl
theorem ml_X2_3 : Cond.methodLink RX2 3 objectInit ∈ gtb := gt_mem (tb 258 (by decide +kernel)) rfl
theorem ml_X2_11 : Cond.methodLinkNest RX2 11 yX8_init "RuleChangeDesk" ∈ lw_tbl := tb 260 (by decide +kernel)
theorem ml_X2_25 : Cond.methodLink RX2 25 yX8_startAt ∈ gtb := gt_mem (tb 807 (by decide +kernel)) rfl
theorem ml_X2_29 : Cond.methodLink RX2 29 yX8_end ∈ gtb := gt_mem (tb 820 (by decide +kernel)) rfl
theorem ml_X2_33 : Cond.methodLink RX2 33 yX8_last ∈ gtb := gt_mem (tb 829 (by decide +kernel)) rfl
theorem ml_X2_36 : Cond.methodLink RX2 36 yX2_isUnderWay ∈ gtb := gt_mem (tb 887 (by decide +kernel)) rfl
theorem ml_X2_40 : Cond.methodLink RX2 40 yX2_place ∈ gtb := gt_mem (tb 888 (by decide +kernel)) rfl
theorem ml_X2_43 : Cond.methodLink RX2 43 yX8_length ∈ gtb := gt_mem (tb 889 (by decide +kernel)) rfl
theorem ml_X2_46 : Cond.methodLink RX2 46 yX8_stop ∈ gtb := gt_mem (tb 890 (by decide +kernel)) rfl
theorem ml_X3_3 : Cond.methodLink RX3 3 objectInit ∈ gtb := gt_mem (tb 219 (by decide +kernel)) rfl
theorem ml_X3_19 : Cond.methodLink RX3 19 yX3_has ∈ gtb := gt_mem (tb 768 (by decide +kernel)) rfl
theorem ml_X3_23 : Cond.methodLink RX3 23 yX3_membersAhead ∈ gtb := gt_mem (tb 634 (by decide +kernel)) rfl
theorem ml_X4_3 : Cond.methodLink RX4 3 objectInit ∈ gtb := gt_mem (tb 232 (by decide +kernel)) rfl
theorem ml_X4_26 : Cond.methodLink RX4 26 yX0_findGood ∈ gtb := gt_mem (tb 548 (by decide +kernel)) rfl
theorem ml_X4_31 : Cond.methodLink RX4 31 yX0_isGood ∈ gtb := gt_mem (tb 622 (by decide +kernel)) rfl
theorem ml_X4_35 : Cond.methodLink RX4 35 yX4_leastNotGood ∈ gtb := gt_mem (tb 706 (by decide +kernel)) rfl
theorem ml_X4_39 : Cond.methodLink RX4 39 yX1_unlike ∈ gtb := gt_mem (tb 700 (by decide +kernel)) rfl
theorem ml_X4_45 : Cond.methodLinkNest RX4 45 yX9_isWithin "RuleChangeDesk" ∈ lw_tbl := tb 701 (by decide +kernel)
theorem ml_X4_49 : Cond.methodLink RX4 49 yX4_fewestFrom ∈ gtb := gt_mem (tb 702 (by decide +kernel)) rfl
theorem ml_X4_52 : Cond.methodLink RX4 52 yX3_clear ∈ gtb := gt_mem (tb 710 (by decide +kernel)) rfl
theorem ml_X4_57 : Cond.methodLink RX4 57 yX4_leastRound ∈ gtb := gt_mem (tb 711 (by decide +kernel)) rfl
theorem ml_X4_60 : Cond.methodLink RX4 60 yX3_add ∈ gtb := gt_mem (tb 715 (by decide +kernel)) rfl
theorem ml_X4_64 : Cond.methodLink RX4 64 yX4_findOrderings ∈ gtb := gt_mem (tb 727 (by decide +kernel)) rfl
theorem ml_X4_68 : Cond.methodLink RX4 68 yX4_orderingsBy ∈ gtb := gt_mem (tb 735 (by decide +kernel)) rfl
theorem ml_X4_72 : Cond.methodLink RX4 72 yX4_orderingsFrom ∈ gtb := gt_mem (tb 731 (by decide +kernel)) rfl
theorem ml_X5_3 : Cond.methodLink RX5 3 objectInit ∈ gtb := gt_mem (tb 79 (by decide +kernel)) rfl
theorem ml_X5_27 : Cond.methodLink RX5 27 yJ7_fill_53178 ∈ gtb := gt_mem (tb 80 (by decide +kernel)) rfl
theorem ml_X5_37 : Cond.methodLink RX5 37 yX5_findActs ∈ gtb := gt_mem (tb 338 (by decide +kernel)) rfl
theorem ml_X5_40 : Cond.methodLink RX5 40 yX5_put ∈ gtb := gt_mem (tb 447 (by decide +kernel)) rfl
theorem ml_X5_44 : Cond.methodLinkNest RX5 44 yX9_spanHas "RuleChangeDesk" ∈ lw_tbl := tb 342 (by decide +kernel)
theorem ml_X6_3 : Cond.methodLink RX6 3 objectInit ∈ gtb := gt_mem (tb 251 (by decide +kernel)) rfl
theorem ml_X6_29 : Cond.methodLinkNest RX6 29 yX2_init "RuleChangeDesk" ∈ lw_tbl := tb 255 (by decide +kernel)
theorem ml_X6_50 : Cond.methodLink RX6 50 yX1_switchOf ∈ gtb := gt_mem (tb 802 (by decide +kernel)) rfl
theorem ml_X6_56 : Cond.methodLink RX6 56 yX2_putInAt ∈ gtb := gt_mem (tb 803 (by decide +kernel)) rfl
theorem ml_X6_64 : Cond.methodLink RX6 64 yX2_place ∈ gtb := gt_mem (tb 825 (by decide +kernel)) rfl
theorem ml_X6_71 : Cond.methodLink RX6 71 yX1_whereTo ∈ gtb := gt_mem (tb 830 (by decide +kernel)) rfl
theorem ml_X6_75 : Cond.methodLink RX6 75 yX8_goOn ∈ gtb := gt_mem (tb 831 (by decide +kernel)) rfl
theorem ml_X6_81 : Cond.methodLink RX6 81 yX2_isUnderWay ∈ gtb := gt_mem (tb 832 (by decide +kernel)) rfl
theorem ml_X6_88 : Cond.methodLink RX6 88 yX0_countBroken ∈ gtb := gt_mem (tb 833 (by decide +kernel)) rfl
theorem ml_X6_94 : Cond.methodLink RX6 94 yX1_hasSwitch ∈ gtb := gt_mem (tb 850 (by decide +kernel)) rfl
theorem ml_X6_98 : Cond.methodLink RX6 98 yX6_left ∈ gtb := gt_mem (tb 851 (by decide +kernel)) rfl
theorem ml_X6_101 : Cond.methodLink RX6 101 yJ6_bitCount_0f7a4 ∈ gtb := gt_mem (tb 856 (by decide +kernel)) rfl
theorem ml_X6_106 : Cond.methodLink RX6 106 yX3_has ∈ gtb := gt_mem (tb 870 (by decide +kernel)) rfl
theorem ml_X6_111 : Cond.methodLink RX6 111 yX3_get ∈ gtb := gt_mem (tb 855 (by decide +kernel)) rfl
theorem ml_X7_3 : Cond.methodLink RX7 3 objectInit ∈ gtb := gt_mem (tb 162 (by decide +kernel)) rfl
theorem ml_X7_30 : Cond.methodLinkNest RX7 30 yX9_hasTarget "RuleChangeDesk" ∈ lw_tbl := tb 418 (by decide +kernel)
theorem ml_X7_34 : Cond.methodLinkNest RX7 34 yX9_spanHas "RuleChangeDesk" ∈ lw_tbl := tb 564 (by decide +kernel)
theorem ml_X7_38 : Cond.methodLink RX7 38 yX8_end ∈ gtb := gt_mem (tb 605 (by decide +kernel)) rfl
theorem ml_X7_44 : Cond.methodLink RX7 44 yX8_passes ∈ gtb := gt_mem (tb 606 (by decide +kernel)) rfl
theorem ml_X7_47 : Cond.methodLink RX7 47 yX8_isLike ∈ gtb := gt_mem (tb 610 (by decide +kernel)) rfl
theorem ml_X8_3 : Cond.methodLink RX8 3 objectInit ∈ gtb := gt_mem (tb 143 (by decide +kernel)) rfl
theorem ml_L_9 : Cond.methodLink RL 9 yX9_init ∈ gtb := gt_mem (tb 58 (by decide +kernel)) rfl
theorem ml_L_12 : Cond.methodLink RL 12 yX10_init ∈ gtb := gt_mem (tb 893 (by decide +kernel)) rfl
theorem ml_L_13 : Cond.methodLink RL 13 yX9_net ∈ gtb := gt_mem (tb 326 (by decide +kernel)) rfl
theorem ml_L_17 : Cond.methodLink RL 17 yX10_net ∈ gtb := gt_mem (tb 1019 (by decide +kernel)) rfl
theorem ml_L_18 : Cond.methodLink RL 18 yX9_link ∈ gtb := gt_mem (tb 369 (by decide +kernel)) rfl
theorem ml_L_22 : Cond.methodLink RL 22 yX10_link ∈ gtb := gt_mem (tb 1026 (by decide +kernel)) rfl
theorem ml_L_23 : Cond.methodLink RL 23 yX9_host ∈ gtb := gt_mem (tb 389 (by decide +kernel)) rfl
theorem ml_L_27 : Cond.methodLink RL 27 yX10_host ∈ gtb := gt_mem (tb 1034 (by decide +kernel)) rfl
theorem ml_L_28 : Cond.methodLink RL 28 yX9_unplug ∈ gtb := gt_mem (tb 401 (by decide +kernel)) rfl
theorem ml_L_32 : Cond.methodLink RL 32 yX10_unplug ∈ gtb := gt_mem (tb 1038 (by decide +kernel)) rfl
theorem ml_L_33 : Cond.methodLink RL 33 yX9_rule ∈ gtb := gt_mem (tb 425 (by decide +kernel)) rfl
theorem ml_L_37 : Cond.methodLink RL 37 yX10_rule ∈ gtb := gt_mem (tb 1049 (by decide +kernel)) rfl
theorem ml_L_38 : Cond.methodLink RL 38 yX9_strike ∈ gtb := gt_mem (tb 451 (by decide +kernel)) rfl
theorem ml_L_42 : Cond.methodLink RL 42 yX10_strike ∈ gtb := gt_mem (tb 1061 (by decide +kernel)) rfl
theorem ml_L_43 : Cond.methodLink RL 43 yX9_copy ∈ gtb := gt_mem (tb 459 (by decide +kernel)) rfl
theorem ml_L_47 : Cond.methodLink RL 47 yX10_copy ∈ gtb := gt_mem (tb 1065 (by decide +kernel)) rfl
theorem ml_L_48 : Cond.methodLink RL 48 yX9_want ∈ gtb := gt_mem (tb 467 (by decide +kernel)) rfl
theorem ml_L_51 : Cond.methodLink RL 51 yX10_want ∈ gtb := gt_mem (tb 1069 (by decide +kernel)) rfl
theorem ml_L_52 : Cond.methodLink RL 52 yX9_unwant ∈ gtb := gt_mem (tb 487 (by decide +kernel)) rfl
theorem ml_L_56 : Cond.methodLink RL 56 yX10_unwant ∈ gtb := gt_mem (tb 1073 (by decide +kernel)) rfl
theorem ml_L_57 : Cond.methodLink RL 57 yX9_look ∈ gtb := gt_mem (tb 499 (by decide +kernel)) rfl
theorem ml_L_60 : Cond.methodLink RL 60 yX10_look ∈ gtb := gt_mem (tb 1148 (by decide +kernel)) rfl
theorem ml_L_61 : Cond.methodLink RL 61 yX9_ofClass ∈ gtb := gt_mem (tb 638 (by decide +kernel)) rfl
theorem ml_L_64 : Cond.methodLink RL 64 yX10_ofClass ∈ gtb := gt_mem (tb 1136 (by decide +kernel)) rfl
theorem ml_L_65 : Cond.methodLink RL 65 yX9_way ∈ gtb := gt_mem (tb 647 (by decide +kernel)) rfl
theorem ml_L_68 : Cond.methodLink RL 68 yX10_way ∈ gtb := gt_mem (tb 1077 (by decide +kernel)) rfl
theorem ml_L_69 : Cond.methodLink RL 69 yX9_on ∈ gtb := gt_mem (tb 661 (by decide +kernel)) rfl
theorem ml_L_72 : Cond.methodLink RL 72 yX10_on ∈ gtb := gt_mem (tb 1104 (by decide +kernel)) rfl
theorem ml_L_73 : Cond.methodLink RL 73 yX9_holds ∈ gtb := gt_mem (tb 670 (by decide +kernel)) rfl
theorem ml_L_76 : Cond.methodLink RL 76 yX10_holds ∈ gtb := gt_mem (tb 1108 (by decide +kernel)) rfl
theorem ml_L_77 : Cond.methodLink RL 77 yX9_kept ∈ gtb := gt_mem (tb 676 (by decide +kernel)) rfl
theorem ml_L_80 : Cond.methodLink RL 80 yX10_kept ∈ gtb := gt_mem (tb 1124 (by decide +kernel)) rfl
theorem ml_L_81 : Cond.methodLink RL 81 yX9_why ∈ gtb := gt_mem (tb 684 (by decide +kernel)) rfl
theorem ml_L_84 : Cond.methodLink RL 84 yX10_why ∈ gtb := gt_mem (tb 1132 (by decide +kernel)) rfl
theorem ml_L_85 : Cond.methodLink RL 85 yX9_least ∈ gtb := gt_mem (tb 692 (by decide +kernel)) rfl
theorem ml_L_89 : Cond.methodLink RL 89 yX10_least ∈ gtb := gt_mem (tb 1165 (by decide +kernel)) rfl
theorem ml_L_90 : Cond.methodLink RL 90 yX9_orders ∈ gtb := gt_mem (tb 719 (by decide +kernel)) rfl
theorem ml_L_93 : Cond.methodLink RL 93 yX10_orders ∈ gtb := gt_mem (tb 1177 (by decide +kernel)) rfl
theorem ml_L_94 : Cond.methodLink RL 94 yX9_order ∈ gtb := gt_mem (tb 739 (by decide +kernel)) rfl
theorem ml_L_97 : Cond.methodLink RL 97 yX10_order ∈ gtb := gt_mem (tb 1185 (by decide +kernel)) rfl
theorem ml_L_98 : Cond.methodLink RL 98 yX9_round ∈ gtb := gt_mem (tb 747 (by decide +kernel)) rfl
theorem ml_L_101 : Cond.methodLink RL 101 yX10_round ∈ gtb := gt_mem (tb 1189 (by decide +kernel)) rfl
theorem ml_L_102 : Cond.methodLink RL 102 yX9_empty ∈ gtb := gt_mem (tb 752 (by decide +kernel)) rfl
theorem ml_L_105 : Cond.methodLink RL 105 yX10_empty ∈ gtb := gt_mem (tb 1193 (by decide +kernel)) rfl
theorem ml_L_106 : Cond.methodLink RL 106 yX9_plan ∈ gtb := gt_mem (tb 756 (by decide +kernel)) rfl
theorem ml_L_109 : Cond.methodLink RL 109 yX10_plan ∈ gtb := gt_mem (tb 1197 (by decide +kernel)) rfl
theorem ml_L_110 : Cond.methodLink RL 110 yX9_mid ∈ gtb := gt_mem (tb 769 (by decide +kernel)) rfl
theorem ml_L_113 : Cond.methodLink RL 113 yX10_mid ∈ gtb := gt_mem (tb 1201 (by decide +kernel)) rfl
theorem ml_L_114 : Cond.methodLink RL 114 yX9_begin ∈ gtb := gt_mem (tb 778 (by decide +kernel)) rfl
theorem ml_L_118 : Cond.methodLink RL 118 yX10_begin ∈ gtb := gt_mem (tb 1205 (by decide +kernel)) rfl
theorem ml_L_119 : Cond.methodLink RL 119 yX9_send ∈ gtb := gt_mem (tb 786 (by decide +kernel)) rfl
theorem ml_L_122 : Cond.methodLink RL 122 yX10_send ∈ gtb := gt_mem (tb 1209 (by decide +kernel)) rfl
theorem ml_L_123 : Cond.methodLink RL 123 yX9_hop ∈ gtb := gt_mem (tb 808 (by decide +kernel)) rfl
theorem ml_L_126 : Cond.methodLink RL 126 yX10_hop ∈ gtb := gt_mem (tb 1213 (by decide +kernel)) rfl
theorem ml_L_127 : Cond.methodLink RL 127 yX9_change ∈ gtb := gt_mem (tb 842 (by decide +kernel)) rfl
theorem ml_L_130 : Cond.methodLink RL 130 yX10_change ∈ gtb := gt_mem (tb 1221 (by decide +kernel)) rfl
theorem ml_L_131 : Cond.methodLink RL 131 yX9_next ∈ gtb := gt_mem (tb 862 (by decide +kernel)) rfl
theorem ml_L_134 : Cond.methodLink RL 134 yX10_next ∈ gtb := gt_mem (tb 1229 (by decide +kernel)) rfl
theorem ml_L_135 : Cond.methodLink RL 135 yX9_run ∈ gtb := gt_mem (tb 871 (by decide +kernel)) rfl
theorem ml_L_138 : Cond.methodLink RL 138 yX10_run ∈ gtb := gt_mem (tb 1237 (by decide +kernel)) rfl
theorem ml_L_139 : Cond.methodLink RL 139 yX9_packet ∈ gtb := gt_mem (tb 879 (by decide +kernel)) rfl
theorem ml_L_142 : Cond.methodLink RL 142 yX10_packet ∈ gtb := gt_mem (tb 1241 (by decide +kernel)) rfl
theorem ml_X10_1 : Cond.methodLink RX10 1 objectInit ∈ gtb := gt_mem (tb 896 (by decide +kernel)) rfl
theorem ml_X10_78 : Cond.methodLink RX10 78 yX10_clear ∈ gtb := gt_mem (tb 897 (by decide +kernel)) rfl
theorem ml_X10_91 : Cond.methodLink RX10 91 yX10_changed ∈ gtb := gt_mem (tb 901 (by decide +kernel)) rfl
theorem ml_X10_94 : Cond.methodLink RX10 94 yX10_isIn ∈ gtb := gt_mem (tb 1023 (by decide +kernel)) rfl
theorem ml_X10_98 : Cond.methodLink RX10 98 yX10_isPort ∈ gtb := gt_mem (tb 1030 (by decide +kernel)) rfl
theorem ml_X10_102 : Cond.methodLink RX10 102 yX10_hasGoal ∈ gtb := gt_mem (tb 1046 (by decide +kernel)) rfl
theorem ml_X10_106 : Cond.methodLink RX10 106 yX10_isOf ∈ gtb := gt_mem (tb 1042 (by decide +kernel)) rfl
theorem ml_X10_109 : Cond.methodLink RX10 109 yX10_isSpan ∈ gtb := gt_mem (tb 1053 (by decide +kernel)) rfl
theorem ml_X10_112 : Cond.methodLink RX10 112 yX10_ruleAt ∈ gtb := gt_mem (tb 1057 (by decide +kernel)) rfl
theorem ml_X10_116 : Cond.methodLink RX10 116 yX10_isOfSpan ∈ gtb := gt_mem (tb 1101 (by decide +kernel)) rfl
theorem ml_X10_119 : Cond.methodLink RX10 119 yX10_actOf ∈ gtb := gt_mem (tb 1097 (by decide +kernel)) rfl
theorem ml_X10_128 : Cond.methodLink RX10 128 yX10_goes ∈ gtb := gt_mem (tb 1093 (by decide +kernel)) rfl
theorem ml_X10_131 : Cond.methodLink RX10 131 yX10_all ∈ gtb := gt_mem (tb 1085 (by decide +kernel)) rfl
theorem ml_X10_135 : Cond.methodLink RX10 135 yX10_isMixture ∈ gtb := gt_mem (tb 1081 (by decide +kernel)) rfl
theorem ml_X10_138 : Cond.methodLink RX10 138 yX10_walks ∈ gtb := gt_mem (tb 1089 (by decide +kernel)) rfl
theorem ml_X10_145 : Cond.methodLink RX10 145 yX10_isWhole ∈ gtb := gt_mem (tb 1120 (by decide +kernel)) rfl
theorem ml_X10_148 : Cond.methodLink RX10 148 yX10_isKept ∈ gtb := gt_mem (tb 1116 (by decide +kernel)) rfl
theorem ml_X10_151 : Cond.methodLink RX10 151 yX10_breaks ∈ gtb := gt_mem (tb 1112 (by decide +kernel)) rfl
theorem ml_X10_155 : Cond.methodLink RX10 155 yX10_isKeptOne ∈ gtb := gt_mem (tb 1128 (by decide +kernel)) rfl
theorem ml_X10_168 : Cond.methodLink RX10 168 yX10_why ∈ gtb := gt_mem (tb 1160 (by decide +kernel)) rfl
theorem ml_X10_171 : Cond.methodLink RX10 171 yX10_areAlike ∈ gtb := gt_mem (tb 1144 (by decide +kernel)) rfl
theorem ml_X10_174 : Cond.methodLink RX10 174 yX10_classMany ∈ gtb := gt_mem (tb 1140 (by decide +kernel)) rfl
theorem ml_X10_177 : Cond.methodLink RX10 177 yX10_unlike ∈ gtb := gt_mem (tb 1152 (by decide +kernel)) rfl
theorem ml_X10_180 : Cond.methodLink RX10 180 yX10_learn ∈ gtb := gt_mem (tb 1156 (by decide +kernel)) rfl
theorem ml_X10_183 : Cond.methodLink RX10 183 yX10_planned ∈ gtb := gt_mem (tb 1161 (by decide +kernel)) rfl
theorem ml_X10_187 : Cond.methodLink RX10 187 yX10_against ∈ gtb := gt_mem (tb 1173 (by decide +kernel)) rfl
theorem ml_X10_190 : Cond.methodLink RX10 190 yX10_fewest ∈ gtb := gt_mem (tb 1169 (by decide +kernel)) rfl
theorem ml_X10_192 : Cond.methodLink RX10 192 yX10_ways ∈ gtb := gt_mem (tb 1181 (by decide +kernel)) rfl
theorem ml_X10_206 : Cond.methodLink RX10 206 yX10_isPacket ∈ gtb := gt_mem (tb 1217 (by decide +kernel)) rfl
theorem ml_X10_209 : Cond.methodLink RX10 209 yX10_left ∈ gtb := gt_mem (tb 1225 (by decide +kernel)) rfl
theorem ml_X10_212 : Cond.methodLink RX10 212 yX10_underWay ∈ gtb := gt_mem (tb 1233 (by decide +kernel)) rfl
theorem cn_J6_265 : Cond.constant RJ6 265 1431655765 ∈ gtb := gt_mem (tb 859 (by decide +kernel)) rfl
theorem cn_J6_266 : Cond.constant RJ6 266 858993459 ∈ gtb := gt_mem (tb 860 (by decide +kernel)) rfl
theorem cn_J6_267 : Cond.constant RJ6 267 252645135 ∈ gtb := gt_mem (tb 861 (by decide +kernel)) rfl
theorem fp_X0_init_11 : FP M_X0_init 11 0 1 := ⟨by decide +kernel, by decide +kernel, fw_X0_11, Or.inr ⟨rfl, rfl, rfl⟩⟩
theorem fp_X0_init_17 : FP M_X0_init 17 0 2 := ⟨by decide +kernel, by decide +kernel, fw_X0_17, Or.inr ⟨rfl, rfl, rfl⟩⟩
theorem fp_X0_init_21 : FP M_X0_init 21 0 3 := ⟨by decide +kernel, by decide +kernel, fw_X0_21, Or.inr ⟨rfl, rfl, rfl⟩⟩
theorem lk_X0_init_26 : LI M_X0_init 26 M_X8_init 0 := ⟨⟨mo_X8_init, by decide +kernel⟩, rfl, rfl, gn_X8_init, Or.inr ⟨"RuleChangeDesk", ml_X0_26⟩⟩
theorem fp_X0_init_27 : FP M_X0_init 27 0 4 := ⟨by decide +kernel, by decide +kernel, fw_X0_27, Or.inr ⟨rfl, rfl, rfl⟩⟩
theorem fp_X0_init_31 : FP M_X0_init 31 0 5 := ⟨by decide +kernel, by decide +kernel, fw_X0_31, Or.inr ⟨rfl, rfl, rfl⟩⟩
theorem fp_X0_init_34 : FP M_X0_init 34 0 6 := ⟨by decide +kernel, by decide +kernel, fw_X0_34, Or.inr ⟨rfl, rfl, rfl⟩⟩
theorem fp_X0_init_37 : FP M_X0_init 37 0 0 := ⟨by decide +kernel, by decide +kernel, fw_X0_37, Or.inr ⟨rfl, rfl, rfl⟩⟩
theorem lk_X0_init_41 : LI M_X0_init 41 M_X7_init 6 := ⟨⟨mo_X7_init, by decide +kernel⟩, rfl, rfl, gn_X7_init, Or.inl ml_X0_41⟩
theorem fp_X0_forget_44 : FP M_X0_forget 44 0 8 := ⟨by decide +kernel, by decide +kernel, fw_X0_44, Or.inl rfl⟩
theorem fp_X0_forget_48 : FP M_X0_forget 48 0 9 := ⟨by decide +kernel, by decide +kernel, fw_X0_48, Or.inl rfl⟩
theorem fp_X0_dropWants_51 : FP M_X0_dropWants 51 0 7 := ⟨by decide +kernel, by decide +kernel, fw_X0_51, Or.inl rfl⟩
theorem fp_X0_addWant_51 : FP M_X0_addWant 51 0 7 := ⟨by decide +kernel, by decide +kernel, fw_X0_51, Or.inl rfl⟩
theorem lk_X0_removeWant_55 : LV M_X0_removeWant 55 M_X0_hasWant 0 1 := ⟨⟨mo_X0_hasWant, by decide +kernel⟩, by decide +kernel, rfl, ml_X0_55, gn_X0_hasWant, ge_X0_hasWant⟩
theorem fp_X0_removeWant_51 : FP M_X0_removeWant 51 0 7 := ⟨by decide +kernel, by decide +kernel, fw_X0_51, Or.inl rfl⟩
theorem lk_X0_needsHost_59 : LV M_X0_needsHost 59 M_X7_needsHost 7 1 := ⟨⟨mo_X7_needsHost, by decide +kernel⟩, by decide +kernel, rfl, ml_X0_59, gn_X7_needsHost, ge_X7_needsHost⟩
theorem lk_X0_leastBadMark_55 : LV M_X0_leastBadMark 55 M_X0_hasWant 0 1 := ⟨⟨mo_X0_hasWant, by decide +kernel⟩, by decide +kernel, rfl, ml_X0_55, gn_X0_hasWant, ge_X0_hasWant⟩
theorem lk_X0_leastBadMark_62 : LV M_X0_leastBadMark 62 M_X7_hasMark 7 1 := ⟨⟨mo_X7_hasMark, by decide +kernel⟩, by decide +kernel, rfl, ml_X0_62, gn_X7_hasMark, ge_X7_hasMark⟩
theorem lk_X0_leastBadMark_68 : LV M_X0_leastBadMark 68 M_X0_traceByBooks 0 2 := ⟨⟨mo_X0_traceByBooks, by decide +kernel⟩, by decide +kernel, rfl, ml_X0_68, gn_X0_traceByBooks, ge_X0_traceByBooks⟩
theorem lk_X0_leastBadMark_72 : LV M_X0_leastBadMark 72 M_X1_trace 1 4 := ⟨⟨mo_X1_trace, by decide +kernel⟩, by decide +kernel, rfl, ml_X0_72, gn_X1_trace, ge_X1_trace⟩
theorem lk_X0_leastBadMark_78 : LV M_X0_leastBadMark 78 M_X7_isMet 7 3 := ⟨⟨mo_X7_isMet, by decide +kernel⟩, by decide +kernel, rfl, ml_X0_78, gn_X7_isMet, ge_X7_isMet⟩
theorem lk_X0_isKept_82 : LV M_X0_isKept 82 M_X0_findKept 0 0 := ⟨⟨mo_X0_findKept, by decide +kernel⟩, by decide +kernel, rfl, ml_X0_82, gn_X0_findKept, ge_X0_findKept⟩
theorem lk_X0_isKept_55 : LV M_X0_isKept 55 M_X0_hasWant 0 1 := ⟨⟨mo_X0_hasWant, by decide +kernel⟩, by decide +kernel, rfl, ml_X0_55, gn_X0_hasWant, ge_X0_hasWant⟩
theorem lk_X0_firstBroken_82 : LV M_X0_firstBroken 82 M_X0_findKept 0 0 := ⟨⟨mo_X0_findKept, by decide +kernel⟩, by decide +kernel, rfl, ml_X0_82, gn_X0_findKept, ge_X0_findKept⟩
theorem lk_X0_firstBroken_85 : LV M_X0_firstBroken 85 M_X0_leastBadMark 0 2 := ⟨⟨mo_X0_leastBadMark, by decide +kernel⟩, by decide +kernel, rfl, ml_X0_85, gn_X0_leastBadMark, ge_X0_leastBadMark⟩
theorem lk_X0_countBroken_82 : LV M_X0_countBroken 82 M_X0_findKept 0 0 := ⟨⟨mo_X0_findKept, by decide +kernel⟩, by decide +kernel, rfl, ml_X0_82, gn_X0_findKept, ge_X0_findKept⟩
theorem lk_X0_countBroken_68 : LV M_X0_countBroken 68 M_X0_traceByBooks 0 2 := ⟨⟨mo_X0_traceByBooks, by decide +kernel⟩, by decide +kernel, rfl, ml_X0_68, gn_X0_traceByBooks, ge_X0_traceByBooks⟩
theorem lk_X0_countBroken_62 : LV M_X0_countBroken 62 M_X7_hasMark 7 1 := ⟨⟨mo_X7_hasMark, by decide +kernel⟩, by decide +kernel, rfl, ml_X0_62, gn_X7_hasMark, ge_X7_hasMark⟩
theorem lk_X0_countBroken_78 : LV M_X0_countBroken 78 M_X7_isMet 7 3 := ⟨⟨mo_X7_isMet, by decide +kernel⟩, by decide +kernel, rfl, ml_X0_78, gn_X7_isMet, ge_X7_isMet⟩
theorem lk_X0_findGood_82 : LV M_X0_findGood 82 M_X0_findKept 0 0 := ⟨⟨mo_X0_findKept, by decide +kernel⟩, by decide +kernel, rfl, ml_X0_82, gn_X0_findKept, ge_X0_findKept⟩
theorem lk_X0_findGood_89 : LV M_X0_findGood 89 M_X1_unlike 1 0 := ⟨⟨mo_X1_unlike, by decide +kernel⟩, by decide +kernel, rfl, ml_X0_89, gn_X1_unlike, ge_X1_unlike⟩
theorem lk_X0_findGood_93 : LS2 M_X0_findGood 93 M_X9_isWithin 2 := ⟨⟨mo_X9_isWithin, by decide +kernel⟩, gs_X9_isWithin, Or.inr ⟨"RuleChangeDesk", ml_X0_93⟩⟩
theorem lk_X0_findGood_62 : LV M_X0_findGood 62 M_X7_hasMark 7 1 := ⟨⟨mo_X7_hasMark, by decide +kernel⟩, by decide +kernel, rfl, ml_X0_62, gn_X7_hasMark, ge_X7_hasMark⟩
theorem lk_X0_findGood_97 : LV M_X0_findGood 97 M_X0_strikeNotGood 0 2 := ⟨⟨mo_X0_strikeNotGood, by decide +kernel⟩, by decide +kernel, rfl, ml_X0_97, gn_X0_strikeNotGood, ge_X0_strikeNotGood⟩
theorem fp_X0_findGood_48 : FP M_X0_findGood 48 0 9 := ⟨by decide +kernel, by decide +kernel, fw_X0_48, Or.inl rfl⟩
theorem lk_X0_findKept_85 : LV M_X0_findKept 85 M_X0_leastBadMark 0 2 := ⟨⟨mo_X0_leastBadMark, by decide +kernel⟩, by decide +kernel, rfl, ml_X0_85, gn_X0_leastBadMark, ge_X0_leastBadMark⟩
theorem lk_X0_findKept_101 : LV M_X0_findKept 101 M_X1_allNew 1 0 := ⟨⟨mo_X1_allNew, by decide +kernel⟩, by decide +kernel, rfl, ml_X0_101, gn_X1_allNew, ge_X1_allNew⟩
theorem fp_X0_findKept_44 : FP M_X0_findKept 44 0 8 := ⟨by decide +kernel, by decide +kernel, fw_X0_44, Or.inl rfl⟩
theorem lk_X0_strikeNotGood_68 : LV M_X0_strikeNotGood 68 M_X0_traceByBooks 0 2 := ⟨⟨mo_X0_traceByBooks, by decide +kernel⟩, by decide +kernel, rfl, ml_X0_68, gn_X0_traceByBooks, ge_X0_traceByBooks⟩
theorem lk_X0_strikeNotGood_72 : LV M_X0_strikeNotGood 72 M_X1_trace 1 4 := ⟨⟨mo_X1_trace, by decide +kernel⟩, by decide +kernel, rfl, ml_X0_72, gn_X1_trace, ge_X1_trace⟩
theorem lk_X0_strikeNotGood_78 : LV M_X0_strikeNotGood 78 M_X7_isMet 7 3 := ⟨⟨mo_X7_isMet, by decide +kernel⟩, by decide +kernel, rfl, ml_X0_78, gn_X7_isMet, ge_X7_isMet⟩
theorem lk_X0_traceByBooks_72 : LV M_X0_traceByBooks 72 M_X1_trace 1 4 := ⟨⟨mo_X1_trace, by decide +kernel⟩, by decide +kernel, rfl, ml_X0_72, gn_X1_trace, ge_X1_trace⟩
theorem lk_X0_traceByBooks_101 : LV M_X0_traceByBooks 101 M_X1_allNew 1 0 := ⟨⟨mo_X1_allNew, by decide +kernel⟩, by decide +kernel, rfl, ml_X0_101, gn_X1_allNew, ge_X1_allNew⟩
theorem fp_X1_init_9 : FP M_X1_init 9 1 0 := ⟨by decide +kernel, by decide +kernel, fw_X1_9, Or.inr ⟨rfl, rfl, rfl⟩⟩
theorem fp_X1_init_15 : FP M_X1_init 15 1 1 := ⟨by decide +kernel, by decide +kernel, fw_X1_15, Or.inr ⟨rfl, rfl, rfl⟩⟩
theorem fp_X1_init_20 : FP M_X1_init 20 1 2 := ⟨by decide +kernel, by decide +kernel, fw_X1_20, Or.inr ⟨rfl, rfl, rfl⟩⟩
theorem fp_X1_init_24 : FP M_X1_init 24 1 3 := ⟨by decide +kernel, by decide +kernel, fw_X1_24, Or.inr ⟨rfl, rfl, rfl⟩⟩
theorem fp_X1_init_27 : FP M_X1_init 27 1 6 := ⟨by decide +kernel, by decide +kernel, fw_X1_27, Or.inl rfl⟩
theorem lk_X1_init_31 : LS2 M_X1_init 31 M_J7_fill_53178 2 := ⟨⟨mo_J7_fill_53178, by decide +kernel⟩, gs_J7_fill_53178, Or.inl ml_X1_31⟩
theorem lk_X1_init_37 : LI M_X1_init 37 M_X5_init 0 := ⟨⟨mo_X5_init, by decide +kernel⟩, rfl, rfl, gn_X5_init, Or.inl ml_X1_37⟩
theorem fp_X1_reset_27 : FP M_X1_reset 27 1 6 := ⟨by decide +kernel, by decide +kernel, fw_X1_27, Or.inl rfl⟩
theorem fp_X1_reset_38 : FP M_X1_reset 38 1 7 := ⟨by decide +kernel, by decide +kernel, fw_X1_38, Or.inl rfl⟩
theorem fp_X1_reset_41 : FP M_X1_reset 41 1 8 := ⟨by decide +kernel, by decide +kernel, fw_X1_41, Or.inl rfl⟩
theorem lk_X1_reset_31 : LS2 M_X1_reset 31 M_J7_fill_53178 2 := ⟨⟨mo_J7_fill_53178, by decide +kernel⟩, gs_J7_fill_53178, Or.inl ml_X1_31⟩
theorem lk_X1_reset_44 : LV M_X1_reset 44 M_X5_clear 5 0 := ⟨⟨mo_X5_clear, by decide +kernel⟩, by decide +kernel, rfl, ml_X1_44, gn_X5_clear, ge_X5_clear⟩
theorem fp_X1_forget_47 : FP M_X1_forget 47 1 4 := ⟨by decide +kernel, by decide +kernel, fw_X1_47, Or.inl rfl⟩
theorem lk_X1_hasPort_51 : LV M_X1_hasPort 51 M_X1_hasSwitch 1 1 := ⟨⟨mo_X1_hasSwitch, by decide +kernel⟩, by decide +kernel, rfl, ml_X1_51, gn_X1_hasSwitch, ge_X1_hasSwitch⟩
theorem lk_X1_hasMixture_55 : LV M_X1_hasMixture 55 M_X1_allNew 1 0 := ⟨⟨mo_X1_allNew, by decide +kernel⟩, by decide +kernel, rfl, ml_X1_55, gn_X1_allNew, ge_X1_allNew⟩
theorem lk_X1_isFree_59 : LV M_X1_isFree 59 M_X1_hasPort 1 2 := ⟨⟨mo_X1_hasPort, by decide +kernel⟩, by decide +kernel, rfl, ml_X1_59, gn_X1_hasPort, ge_X1_hasPort⟩
theorem lk_X1_join_59 : LV M_X1_join 59 M_X1_hasPort 1 2 := ⟨⟨mo_X1_hasPort, by decide +kernel⟩, by decide +kernel, rfl, ml_X1_59, gn_X1_hasPort, ge_X1_hasPort⟩
theorem fp_X1_join_41 : FP M_X1_join 41 1 8 := ⟨by decide +kernel, by decide +kernel, fw_X1_41, Or.inl rfl⟩
theorem lk_X1_addHost_59 : LV M_X1_addHost 59 M_X1_hasPort 1 2 := ⟨⟨mo_X1_hasPort, by decide +kernel⟩, by decide +kernel, rfl, ml_X1_59, gn_X1_hasPort, ge_X1_hasPort⟩
theorem fp_X1_addHost_38 : FP M_X1_addHost 38 1 7 := ⟨by decide +kernel, by decide +kernel, fw_X1_38, Or.inl rfl⟩
theorem lk_X1_hostAt_59 : LV M_X1_hostAt 59 M_X1_hasPort 1 2 := ⟨⟨mo_X1_hasPort, by decide +kernel⟩, by decide +kernel, rfl, ml_X1_59, gn_X1_hasPort, ge_X1_hasPort⟩
theorem lk_X1_clear_59 : LV M_X1_clear 59 M_X1_hasPort 1 2 := ⟨⟨mo_X1_hasPort, by decide +kernel⟩, by decide +kernel, rfl, ml_X1_59, gn_X1_hasPort, ge_X1_hasPort⟩
theorem fp_X1_clear_38 : FP M_X1_clear 38 1 7 := ⟨by decide +kernel, by decide +kernel, fw_X1_38, Or.inl rfl⟩
theorem fp_X1_clear_41 : FP M_X1_clear 41 1 8 := ⟨by decide +kernel, by decide +kernel, fw_X1_41, Or.inl rfl⟩
theorem lk_X1_rowOf_51 : LV M_X1_rowOf 51 M_X1_hasSwitch 1 1 := ⟨⟨mo_X1_hasSwitch, by decide +kernel⟩, by decide +kernel, rfl, ml_X1_51, gn_X1_hasSwitch, ge_X1_hasSwitch⟩
theorem lk_X1_ruleCount_63 : LV M_X1_ruleCount 63 M_X5_size 5 0 := ⟨⟨mo_X5_size, by decide +kernel⟩, by decide +kernel, rfl, ml_X1_63, gn_X5_size, ge_X5_size⟩
theorem lk_X1_unlike_66 : LV M_X1_unlike 66 M_X5_isLike 5 1 := ⟨⟨mo_X5_isLike, by decide +kernel⟩, by decide +kernel, rfl, ml_X1_66, gn_X5_isLike, ge_X5_isLike⟩
theorem lk_X1_classOf_70 : LS2 M_X1_classOf 70 M_X9_isMark 1 := ⟨⟨mo_X9_isMark, by decide +kernel⟩, gs_X9_isMark, Or.inr ⟨"RuleChangeDesk", ml_X1_70⟩⟩
theorem lk_X1_classOf_73 : LV M_X1_classOf 73 M_X1_findClasses 1 0 := ⟨⟨mo_X1_findClasses, by decide +kernel⟩, by decide +kernel, rfl, ml_X1_73, gn_X1_findClasses, ge_X1_findClasses⟩
theorem lk_X1_classCount_73 : LV M_X1_classCount 73 M_X1_findClasses 1 0 := ⟨⟨mo_X1_findClasses, by decide +kernel⟩, by decide +kernel, rfl, ml_X1_73, gn_X1_findClasses, ge_X1_findClasses⟩
theorem fp_X1_findClasses_76 : FP M_X1_findClasses 76 1 5 := ⟨by decide +kernel, by decide +kernel, fw_X1_76, Or.inl rfl⟩
theorem lk_X1_findClasses_79 : LV M_X1_findClasses 79 M_X1_leastAlike 1 1 := ⟨⟨mo_X1_leastAlike, by decide +kernel⟩, by decide +kernel, rfl, ml_X1_79, gn_X1_leastAlike, ge_X1_leastAlike⟩
theorem fp_X1_findClasses_47 : FP M_X1_findClasses 47 1 4 := ⟨by decide +kernel, by decide +kernel, fw_X1_47, Or.inl rfl⟩
theorem lk_X1_leastAlike_83 : LV M_X1_leastAlike 83 M_X1_isSeparated 1 2 := ⟨⟨mo_X1_isSeparated, by decide +kernel⟩, by decide +kernel, rfl, ml_X1_83, gn_X1_isSeparated, ge_X1_isSeparated⟩
theorem lk_X1_isSeparated_86 : LV M_X1_isSeparated 86 M_X5_separates 5 2 := ⟨⟨mo_X5_separates, by decide +kernel⟩, by decide +kernel, rfl, ml_X1_86, gn_X5_separates, ge_X5_separates⟩
theorem lk_X1_trace_89 : LV M_X1_trace 89 M_X1_switchOf 1 1 := ⟨⟨mo_X1_switchOf, by decide +kernel⟩, by decide +kernel, rfl, ml_X1_89, gn_X1_switchOf, ge_X1_switchOf⟩
theorem lk_X1_trace_92 : LV M_X1_trace 92 M_X8_startAt 8 1 := ⟨⟨mo_X8_startAt, by decide +kernel⟩, by decide +kernel, rfl, ml_X1_92, gn_X8_startAt, ge_X8_startAt⟩
theorem lk_X1_trace_98 : LV M_X1_trace 98 M_X8_end 8 0 := ⟨⟨mo_X8_end, by decide +kernel⟩, by decide +kernel, rfl, ml_X1_98, gn_X8_end, ge_X8_end⟩
theorem lk_X1_trace_101 : LV M_X1_trace 101 M_X8_last 8 0 := ⟨⟨mo_X8_last, by decide +kernel⟩, by decide +kernel, rfl, ml_X1_101, gn_X8_last, ge_X8_last⟩
theorem lk_X1_trace_104 : LV M_X1_trace 104 M_X1_whereTo 1 3 := ⟨⟨mo_X1_whereTo, by decide +kernel⟩, by decide +kernel, rfl, ml_X1_104, gn_X1_whereTo, ge_X1_whereTo⟩
theorem lk_X1_trace_108 : LV M_X1_trace 108 M_X8_goOn 8 1 := ⟨⟨mo_X8_goOn, by decide +kernel⟩, by decide +kernel, rfl, ml_X1_108, gn_X8_goOn, ge_X8_goOn⟩
theorem lk_X2_init_11 : LI M_X2_init 11 M_X8_init 0 := ⟨⟨mo_X8_init, by decide +kernel⟩, rfl, rfl, gn_X8_init, Or.inr ⟨"RuleChangeDesk", ml_X2_11⟩⟩
theorem fp_X2_init_12 : FP M_X2_init 12 2 0 := ⟨by decide +kernel, by decide +kernel, fw_X2_12, Or.inr ⟨rfl, rfl, rfl⟩⟩
theorem fp_X2_putInAt_18 : FP M_X2_putInAt 18 2 1 := ⟨by decide +kernel, by decide +kernel, fw_X2_18, Or.inl rfl⟩
theorem fp_X2_putInAt_22 : FP M_X2_putInAt 22 2 2 := ⟨by decide +kernel, by decide +kernel, fw_X2_22, Or.inl rfl⟩
theorem lk_X2_putInAt_25 : LV M_X2_putInAt 25 M_X8_startAt 8 1 := ⟨⟨mo_X8_startAt, by decide +kernel⟩, by decide +kernel, rfl, ml_X2_25, gn_X8_startAt, ge_X8_startAt⟩
theorem lk_X2_isUnderWay_29 : LV M_X2_isUnderWay 29 M_X8_end 8 0 := ⟨⟨mo_X8_end, by decide +kernel⟩, by decide +kernel, rfl, ml_X2_29, gn_X8_end, ge_X8_end⟩
theorem lk_X2_place_33 : LV M_X2_place 33 M_X8_last 8 0 := ⟨⟨mo_X8_last, by decide +kernel⟩, by decide +kernel, rfl, ml_X2_33, gn_X8_last, ge_X8_last⟩
theorem lk_X2_end_29 : LV M_X2_end 29 M_X8_end 8 0 := ⟨⟨mo_X8_end, by decide +kernel⟩, by decide +kernel, rfl, ml_X2_29, gn_X8_end, ge_X8_end⟩
theorem lk_X2_tell_36 : LV M_X2_tell 36 M_X2_isUnderWay 2 0 := ⟨⟨mo_X2_isUnderWay, by decide +kernel⟩, by decide +kernel, rfl, ml_X2_36, gn_X2_isUnderWay, ge_X2_isUnderWay⟩
theorem lk_X2_tell_40 : LV M_X2_tell 40 M_X2_place 2 0 := ⟨⟨mo_X2_place, by decide +kernel⟩, by decide +kernel, rfl, ml_X2_40, gn_X2_place, ge_X2_place⟩
theorem lk_X2_tell_29 : LV M_X2_tell 29 M_X8_end 8 0 := ⟨⟨mo_X8_end, by decide +kernel⟩, by decide +kernel, rfl, ml_X2_29, gn_X8_end, ge_X8_end⟩
theorem lk_X2_tell_43 : LV M_X2_tell 43 M_X8_length 8 0 := ⟨⟨mo_X8_length, by decide +kernel⟩, by decide +kernel, rfl, ml_X2_43, gn_X8_length, ge_X8_length⟩
theorem lk_X2_tell_46 : LV M_X2_tell 46 M_X8_stop 8 1 := ⟨⟨mo_X8_stop, by decide +kernel⟩, by decide +kernel, rfl, ml_X2_46, gn_X8_stop, ge_X8_stop⟩
theorem fp_X3_init_9 : FP M_X3_init 9 3 0 := ⟨by decide +kernel, by decide +kernel, fw_X3_9, Or.inr ⟨rfl, rfl, rfl⟩⟩
theorem fp_X3_clear_15 : FP M_X3_clear 15 3 1 := ⟨by decide +kernel, by decide +kernel, fw_X3_15, Or.inl rfl⟩
theorem fp_X3_add_15 : FP M_X3_add 15 3 1 := ⟨by decide +kernel, by decide +kernel, fw_X3_15, Or.inl rfl⟩
theorem lk_X3_get_19 : LV M_X3_get 19 M_X3_has 3 1 := ⟨⟨mo_X3_has, by decide +kernel⟩, by decide +kernel, rfl, ml_X3_19, gn_X3_has, ge_X3_has⟩
theorem lk_X3_members_23 : LV M_X3_members 23 M_X3_membersAhead 3 1 := ⟨⟨mo_X3_membersAhead, by decide +kernel⟩, by decide +kernel, rfl, ml_X3_23, gn_X3_membersAhead, ge_X3_membersAhead⟩
theorem fp_X4_init_9 : FP M_X4_init 9 4 2 := ⟨by decide +kernel, by decide +kernel, fw_X4_9, Or.inr ⟨rfl, rfl, rfl⟩⟩
theorem fp_X4_init_15 : FP M_X4_init 15 4 3 := ⟨by decide +kernel, by decide +kernel, fw_X4_15, Or.inr ⟨rfl, rfl, rfl⟩⟩
theorem fp_X4_init_18 : FP M_X4_init 18 4 0 := ⟨by decide +kernel, by decide +kernel, fw_X4_18, Or.inr ⟨rfl, rfl, rfl⟩⟩
theorem fp_X4_init_22 : FP M_X4_init 22 4 1 := ⟨by decide +kernel, by decide +kernel, fw_X4_22, Or.inr ⟨rfl, rfl, rfl⟩⟩
theorem lk_X4_countGood_26 : LV M_X4_countGood 26 M_X0_findGood 0 0 := ⟨⟨mo_X0_findGood, by decide +kernel⟩, by decide +kernel, rfl, ml_X4_26, gn_X0_findGood, ge_X0_findGood⟩
theorem lk_X4_countGood_31 : LV M_X4_countGood 31 M_X0_isGood 0 1 := ⟨⟨mo_X0_isGood, by decide +kernel⟩, by decide +kernel, rfl, ml_X4_31, gn_X0_isGood, ge_X0_isGood⟩
theorem lk_X4_whyNotTaken_26 : LV M_X4_whyNotTaken 26 M_X0_findGood 0 0 := ⟨⟨mo_X0_findGood, by decide +kernel⟩, by decide +kernel, rfl, ml_X4_26, gn_X0_findGood, ge_X0_findGood⟩
theorem lk_X4_whyNotTaken_35 : LV M_X4_whyNotTaken 35 M_X4_leastNotGood 4 2 := ⟨⟨mo_X4_leastNotGood, by decide +kernel⟩, by decide +kernel, rfl, ml_X4_35, gn_X4_leastNotGood, ge_X4_leastNotGood⟩
theorem lk_X4_makeLeast_26 : LV M_X4_makeLeast 26 M_X0_findGood 0 0 := ⟨⟨mo_X0_findGood, by decide +kernel⟩, by decide +kernel, rfl, ml_X4_26, gn_X0_findGood, ge_X0_findGood⟩
theorem lk_X4_makeLeast_39 : LV M_X4_makeLeast 39 M_X1_unlike 1 0 := ⟨⟨mo_X1_unlike, by decide +kernel⟩, by decide +kernel, rfl, ml_X4_39, gn_X1_unlike, ge_X1_unlike⟩
theorem lk_X4_makeLeast_45 : LS2 M_X4_makeLeast 45 M_X9_isWithin 2 := ⟨⟨mo_X9_isWithin, by decide +kernel⟩, gs_X9_isWithin, Or.inr ⟨"RuleChangeDesk", ml_X4_45⟩⟩
theorem lk_X4_makeLeast_49 : LV M_X4_makeLeast 49 M_X4_fewestFrom 4 2 := ⟨⟨mo_X4_fewestFrom, by decide +kernel⟩, by decide +kernel, rfl, ml_X4_49, gn_X4_fewestFrom, ge_X4_fewestFrom⟩
theorem lk_X4_makeLeast_52 : LV M_X4_makeLeast 52 M_X3_clear 3 0 := ⟨⟨mo_X3_clear, by decide +kernel⟩, by decide +kernel, rfl, ml_X4_52, gn_X3_clear, ge_X3_clear⟩
theorem lk_X4_makeLeast_57 : LV M_X4_makeLeast 57 M_X4_leastRound 4 2 := ⟨⟨mo_X4_leastRound, by decide +kernel⟩, by decide +kernel, rfl, ml_X4_57, gn_X4_leastRound, ge_X4_leastRound⟩
theorem lk_X4_makeLeast_60 : LV M_X4_makeLeast 60 M_X3_add 3 1 := ⟨⟨mo_X3_add, by decide +kernel⟩, by decide +kernel, rfl, ml_X4_60, gn_X3_add, ge_X3_add⟩
theorem lk_X4_countOrders_26 : LV M_X4_countOrders 26 M_X0_findGood 0 0 := ⟨⟨mo_X0_findGood, by decide +kernel⟩, by decide +kernel, rfl, ml_X4_26, gn_X0_findGood, ge_X0_findGood⟩
theorem lk_X4_countOrders_39 : LV M_X4_countOrders 39 M_X1_unlike 1 0 := ⟨⟨mo_X1_unlike, by decide +kernel⟩, by decide +kernel, rfl, ml_X4_39, gn_X1_unlike, ge_X1_unlike⟩
theorem lk_X4_countOrders_64 : LV M_X4_countOrders 64 M_X4_findOrderings 4 1 := ⟨⟨mo_X4_findOrderings, by decide +kernel⟩, by decide +kernel, rfl, ml_X4_64, gn_X4_findOrderings, ge_X4_findOrderings⟩
theorem lk_X4_makeOrder_26 : LV M_X4_makeOrder 26 M_X0_findGood 0 0 := ⟨⟨mo_X0_findGood, by decide +kernel⟩, by decide +kernel, rfl, ml_X4_26, gn_X0_findGood, ge_X0_findGood⟩
theorem lk_X4_makeOrder_39 : LV M_X4_makeOrder 39 M_X1_unlike 1 0 := ⟨⟨mo_X1_unlike, by decide +kernel⟩, by decide +kernel, rfl, ml_X4_39, gn_X1_unlike, ge_X1_unlike⟩
theorem lk_X4_makeOrder_64 : LV M_X4_makeOrder 64 M_X4_findOrderings 4 1 := ⟨⟨mo_X4_findOrderings, by decide +kernel⟩, by decide +kernel, rfl, ml_X4_64, gn_X4_findOrderings, ge_X4_findOrderings⟩
theorem lk_X4_makeOrder_52 : LV M_X4_makeOrder 52 M_X3_clear 3 0 := ⟨⟨mo_X3_clear, by decide +kernel⟩, by decide +kernel, rfl, ml_X4_52, gn_X3_clear, ge_X3_clear⟩
theorem lk_X4_makeOrder_68 : LV M_X4_makeOrder 68 M_X4_orderingsBy 4 3 := ⟨⟨mo_X4_orderingsBy, by decide +kernel⟩, by decide +kernel, rfl, ml_X4_68, gn_X4_orderingsBy, ge_X4_orderingsBy⟩
theorem lk_X4_makeOrder_60 : LV M_X4_makeOrder 60 M_X3_add 3 1 := ⟨⟨mo_X3_add, by decide +kernel⟩, by decide +kernel, rfl, ml_X4_60, gn_X3_add, ge_X3_add⟩
theorem lk_X4_findOrderings_45 : LS2 M_X4_findOrderings 45 M_X9_isWithin 2 := ⟨⟨mo_X9_isWithin, by decide +kernel⟩, gs_X9_isWithin, Or.inr ⟨"RuleChangeDesk", ml_X4_45⟩⟩
theorem lk_X4_findOrderings_72 : LV M_X4_findOrderings 72 M_X4_orderingsFrom 4 2 := ⟨⟨mo_X4_orderingsFrom, by decide +kernel⟩, by decide +kernel, rfl, ml_X4_72, gn_X4_orderingsFrom, ge_X4_orderingsFrom⟩
theorem lk_X4_leastNotGood_45 : LS2 M_X4_leastNotGood 45 M_X9_isWithin 2 := ⟨⟨mo_X9_isWithin, by decide +kernel⟩, gs_X9_isWithin, Or.inr ⟨"RuleChangeDesk", ml_X4_45⟩⟩
theorem lk_X4_leastNotGood_31 : LV M_X4_leastNotGood 31 M_X0_isGood 0 1 := ⟨⟨mo_X0_isGood, by decide +kernel⟩, by decide +kernel, rfl, ml_X4_31, gn_X0_isGood, ge_X0_isGood⟩
theorem lk_X4_fewestFrom_45 : LS2 M_X4_fewestFrom 45 M_X9_isWithin 2 := ⟨⟨mo_X9_isWithin, by decide +kernel⟩, gs_X9_isWithin, Or.inr ⟨"RuleChangeDesk", ml_X4_45⟩⟩
theorem lk_X4_fewestFrom_35 : LV M_X4_fewestFrom 35 M_X4_leastNotGood 4 2 := ⟨⟨mo_X4_leastNotGood, by decide +kernel⟩, by decide +kernel, rfl, ml_X4_35, gn_X4_leastNotGood, ge_X4_leastNotGood⟩
theorem lk_X4_leastRound_45 : LS2 M_X4_leastRound 45 M_X9_isWithin 2 := ⟨⟨mo_X9_isWithin, by decide +kernel⟩, gs_X9_isWithin, Or.inr ⟨"RuleChangeDesk", ml_X4_45⟩⟩
theorem lk_X4_leastRound_35 : LV M_X4_leastRound 35 M_X4_leastNotGood 4 2 := ⟨⟨mo_X4_leastNotGood, by decide +kernel⟩, by decide +kernel, rfl, ml_X4_35, gn_X4_leastNotGood, ge_X4_leastNotGood⟩
theorem lk_X4_orderingsFrom_31 : LV M_X4_orderingsFrom 31 M_X0_isGood 0 1 := ⟨⟨mo_X0_isGood, by decide +kernel⟩, by decide +kernel, rfl, ml_X4_31, gn_X0_isGood, ge_X0_isGood⟩
theorem lk_X4_orderingsFrom_68 : LV M_X4_orderingsFrom 68 M_X4_orderingsBy 4 3 := ⟨⟨mo_X4_orderingsBy, by decide +kernel⟩, by decide +kernel, rfl, ml_X4_68, gn_X4_orderingsBy, ge_X4_orderingsBy⟩
theorem lk_X4_orderingsBy_45 : LS2 M_X4_orderingsBy 45 M_X9_isWithin 2 := ⟨⟨mo_X9_isWithin, by decide +kernel⟩, gs_X9_isWithin, Or.inr ⟨"RuleChangeDesk", ml_X4_45⟩⟩
theorem fp_X5_init_9 : FP M_X5_init 9 5 0 := ⟨by decide +kernel, by decide +kernel, fw_X5_9, Or.inr ⟨rfl, rfl, rfl⟩⟩
theorem fp_X5_init_15 : FP M_X5_init 15 5 1 := ⟨by decide +kernel, by decide +kernel, fw_X5_15, Or.inr ⟨rfl, rfl, rfl⟩⟩
theorem fp_X5_init_18 : FP M_X5_init 18 5 2 := ⟨by decide +kernel, by decide +kernel, fw_X5_18, Or.inr ⟨rfl, rfl, rfl⟩⟩
theorem fp_X5_init_21 : FP M_X5_init 21 5 3 := ⟨by decide +kernel, by decide +kernel, fw_X5_21, Or.inr ⟨rfl, rfl, rfl⟩⟩
theorem fp_X5_init_24 : FP M_X5_init 24 5 4 := ⟨by decide +kernel, by decide +kernel, fw_X5_24, Or.inr ⟨rfl, rfl, rfl⟩⟩
theorem lk_X5_init_27 : LS2 M_X5_init 27 M_J7_fill_53178 2 := ⟨⟨mo_J7_fill_53178, by decide +kernel⟩, gs_J7_fill_53178, Or.inl ml_X5_27⟩
theorem fp_X5_clear_33 : FP M_X5_clear 33 5 5 := ⟨by decide +kernel, by decide +kernel, fw_X5_33, Or.inl rfl⟩
theorem lk_X5_clear_37 : LV M_X5_clear 37 M_X5_findActs 5 0 := ⟨⟨mo_X5_findActs, by decide +kernel⟩, by decide +kernel, rfl, ml_X5_37, gn_X5_findActs, ge_X5_findActs⟩
theorem lk_X5_add_40 : LV M_X5_add 40 M_X5_put 5 5 := ⟨⟨mo_X5_put, by decide +kernel⟩, by decide +kernel, rfl, ml_X5_40, gn_X5_put, ge_X5_put⟩
theorem fp_X5_add_33 : FP M_X5_add 33 5 5 := ⟨by decide +kernel, by decide +kernel, fw_X5_33, Or.inl rfl⟩
theorem lk_X5_add_37 : LV M_X5_add 37 M_X5_findActs 5 0 := ⟨⟨mo_X5_findActs, by decide +kernel⟩, by decide +kernel, rfl, ml_X5_37, gn_X5_findActs, ge_X5_findActs⟩
theorem lk_X5_remove_40 : LV M_X5_remove 40 M_X5_put 5 5 := ⟨⟨mo_X5_put, by decide +kernel⟩, by decide +kernel, rfl, ml_X5_40, gn_X5_put, ge_X5_put⟩
theorem fp_X5_remove_33 : FP M_X5_remove 33 5 5 := ⟨by decide +kernel, by decide +kernel, fw_X5_33, Or.inl rfl⟩
theorem lk_X5_remove_37 : LV M_X5_remove 37 M_X5_findActs 5 0 := ⟨⟨mo_X5_findActs, by decide +kernel⟩, by decide +kernel, rfl, ml_X5_37, gn_X5_findActs, ge_X5_findActs⟩
theorem lk_X5_becomeLike_40 : LV M_X5_becomeLike 40 M_X5_put 5 5 := ⟨⟨mo_X5_put, by decide +kernel⟩, by decide +kernel, rfl, ml_X5_40, gn_X5_put, ge_X5_put⟩
theorem fp_X5_becomeLike_33 : FP M_X5_becomeLike 33 5 5 := ⟨by decide +kernel, by decide +kernel, fw_X5_33, Or.inl rfl⟩
theorem lk_X5_becomeLike_37 : LV M_X5_becomeLike 37 M_X5_findActs 5 0 := ⟨⟨mo_X5_findActs, by decide +kernel⟩, by decide +kernel, rfl, ml_X5_37, gn_X5_findActs, ge_X5_findActs⟩
theorem lk_X5_separates_44 : LS2 M_X5_separates 44 M_X9_spanHas 3 := ⟨⟨mo_X9_spanHas, by decide +kernel⟩, gs_X9_spanHas, Or.inr ⟨"RuleChangeDesk", ml_X5_44⟩⟩
theorem lk_X5_findActs_44 : LS2 M_X5_findActs 44 M_X9_spanHas 3 := ⟨⟨mo_X9_spanHas, by decide +kernel⟩, gs_X9_spanHas, Or.inr ⟨"RuleChangeDesk", ml_X5_44⟩⟩
theorem fp_X6_init_11 : FP M_X6_init 11 6 3 := ⟨by decide +kernel, by decide +kernel, fw_X6_11, Or.inr ⟨rfl, rfl, rfl⟩⟩
theorem fp_X6_init_17 : FP M_X6_init 17 6 0 := ⟨by decide +kernel, by decide +kernel, fw_X6_17, Or.inr ⟨rfl, rfl, rfl⟩⟩
theorem fp_X6_init_21 : FP M_X6_init 21 6 1 := ⟨by decide +kernel, by decide +kernel, fw_X6_21, Or.inr ⟨rfl, rfl, rfl⟩⟩
theorem fp_X6_init_25 : FP M_X6_init 25 6 2 := ⟨by decide +kernel, by decide +kernel, fw_X6_25, Or.inr ⟨rfl, rfl, rfl⟩⟩
theorem lk_X6_init_29 : LI M_X6_init 29 M_X2_init 0 := ⟨⟨mo_X2_init, by decide +kernel⟩, rfl, rfl, gn_X2_init, Or.inr ⟨"RuleChangeDesk", ml_X6_29⟩⟩
theorem fp_X6_start_30 : FP M_X6_start 30 6 4 := ⟨by decide +kernel, by decide +kernel, fw_X6_30, Or.inl rfl⟩
theorem fp_X6_start_34 : FP M_X6_start 34 6 5 := ⟨by decide +kernel, by decide +kernel, fw_X6_34, Or.inl rfl⟩
theorem fp_X6_start_38 : FP M_X6_start 38 6 6 := ⟨by decide +kernel, by decide +kernel, fw_X6_38, Or.inl rfl⟩
theorem fp_X6_start_41 : FP M_X6_start 41 6 7 := ⟨by decide +kernel, by decide +kernel, fw_X6_41, Or.inl rfl⟩
theorem fp_X6_start_44 : FP M_X6_start 44 6 8 := ⟨by decide +kernel, by decide +kernel, fw_X6_44, Or.inl rfl⟩
theorem fp_X6_start_47 : FP M_X6_start 47 6 9 := ⟨by decide +kernel, by decide +kernel, fw_X6_47, Or.inl rfl⟩
theorem fp_X6_stop_30 : FP M_X6_stop 30 6 4 := ⟨by decide +kernel, by decide +kernel, fw_X6_30, Or.inl rfl⟩
theorem lk_X6_putIn_50 : LV M_X6_putIn 50 M_X1_switchOf 1 1 := ⟨⟨mo_X1_switchOf, by decide +kernel⟩, by decide +kernel, rfl, ml_X6_50, gn_X1_switchOf, ge_X1_switchOf⟩
theorem lk_X6_putIn_56 : LV M_X6_putIn 56 M_X2_putInAt 2 3 := ⟨⟨mo_X2_putInAt, by decide +kernel⟩, by decide +kernel, rfl, ml_X6_56, gn_X2_putInAt, ge_X2_putInAt⟩
theorem fp_X6_putIn_41 : FP M_X6_putIn 41 6 7 := ⟨by decide +kernel, by decide +kernel, fw_X6_41, Or.inl rfl⟩
theorem fp_X6_putIn_44 : FP M_X6_putIn 44 6 8 := ⟨by decide +kernel, by decide +kernel, fw_X6_44, Or.inl rfl⟩
theorem lk_X6_moveOn_64 : LV M_X6_moveOn 64 M_X2_place 2 0 := ⟨⟨mo_X2_place, by decide +kernel⟩, by decide +kernel, rfl, ml_X6_64, gn_X2_place, ge_X2_place⟩
theorem lk_X6_moveOn_71 : LV M_X6_moveOn 71 M_X1_whereTo 1 3 := ⟨⟨mo_X1_whereTo, by decide +kernel⟩, by decide +kernel, rfl, ml_X6_71, gn_X1_whereTo, ge_X1_whereTo⟩
theorem lk_X6_moveOn_75 : LV M_X6_moveOn 75 M_X8_goOn 8 1 := ⟨⟨mo_X8_goOn, by decide +kernel⟩, by decide +kernel, rfl, ml_X6_75, gn_X8_goOn, ge_X8_goOn⟩
theorem lk_X6_moveOn_81 : LV M_X6_moveOn 81 M_X2_isUnderWay 2 0 := ⟨⟨mo_X2_isUnderWay, by decide +kernel⟩, by decide +kernel, rfl, ml_X6_81, gn_X2_isUnderWay, ge_X2_isUnderWay⟩
theorem fp_X6_moveOn_44 : FP M_X6_moveOn 44 6 8 := ⟨by decide +kernel, by decide +kernel, fw_X6_44, Or.inl rfl⟩
theorem lk_X6_moveOn_88 : LV M_X6_moveOn 88 M_X0_countBroken 0 3 := ⟨⟨mo_X0_countBroken, by decide +kernel⟩, by decide +kernel, rfl, ml_X6_88, gn_X0_countBroken, ge_X0_countBroken⟩
theorem fp_X6_moveOn_47 : FP M_X6_moveOn 47 6 9 := ⟨by decide +kernel, by decide +kernel, fw_X6_47, Or.inl rfl⟩
theorem lk_X6_takeNew_94 : LV M_X6_takeNew 94 M_X1_hasSwitch 1 1 := ⟨⟨mo_X1_hasSwitch, by decide +kernel⟩, by decide +kernel, rfl, ml_X6_94, gn_X1_hasSwitch, ge_X1_hasSwitch⟩
theorem lk_X6_takeNew_98 : LV M_X6_takeNew 98 M_X6_left 6 0 := ⟨⟨mo_X6_left, by decide +kernel⟩, by decide +kernel, rfl, ml_X6_98, gn_X6_left, ge_X6_left⟩
theorem fp_X6_takeNew_38 : FP M_X6_takeNew 38 6 6 := ⟨by decide +kernel, by decide +kernel, fw_X6_38, Or.inl rfl⟩
theorem lk_X6_takeNew_101 : LS2 M_X6_takeNew 101 M_J6_bitCount_0f7a4 1 := ⟨⟨mo_J6_bitCount_0f7a4, by decide +kernel⟩, gs_J6_bitCount_0f7a4, Or.inl ml_X6_101⟩
theorem lk_X6_nextRound_106 : LV M_X6_nextRound 106 M_X3_has 3 1 := ⟨⟨mo_X3_has, by decide +kernel⟩, by decide +kernel, rfl, ml_X6_106, gn_X3_has, ge_X3_has⟩
theorem lk_X6_nextRound_98 : LV M_X6_nextRound 98 M_X6_left 6 0 := ⟨⟨mo_X6_left, by decide +kernel⟩, by decide +kernel, rfl, ml_X6_98, gn_X6_left, ge_X6_left⟩
theorem fp_X6_nextRound_34 : FP M_X6_nextRound 34 6 5 := ⟨by decide +kernel, by decide +kernel, fw_X6_34, Or.inl rfl⟩
theorem lk_X6_left_111 : LV M_X6_left 111 M_X3_get 3 1 := ⟨⟨mo_X3_get, by decide +kernel⟩, by decide +kernel, rfl, ml_X6_111, gn_X3_get, ge_X3_get⟩
theorem fp_X7_init_9 : FP M_X7_init 9 7 0 := ⟨by decide +kernel, by decide +kernel, fw_X7_9, Or.inr ⟨rfl, rfl, rfl⟩⟩
theorem fp_X7_init_15 : FP M_X7_init 15 7 1 := ⟨by decide +kernel, by decide +kernel, fw_X7_15, Or.inr ⟨rfl, rfl, rfl⟩⟩
theorem fp_X7_init_18 : FP M_X7_init 18 7 2 := ⟨by decide +kernel, by decide +kernel, fw_X7_18, Or.inr ⟨rfl, rfl, rfl⟩⟩
theorem fp_X7_init_21 : FP M_X7_init 21 7 3 := ⟨by decide +kernel, by decide +kernel, fw_X7_21, Or.inr ⟨rfl, rfl, rfl⟩⟩
theorem fp_X7_init_24 : FP M_X7_init 24 7 4 := ⟨by decide +kernel, by decide +kernel, fw_X7_24, Or.inr ⟨rfl, rfl, rfl⟩⟩
theorem fp_X7_init_27 : FP M_X7_init 27 7 5 := ⟨by decide +kernel, by decide +kernel, fw_X7_27, Or.inr ⟨rfl, rfl, rfl⟩⟩
theorem lk_X7_needsHost_30 : LS2 M_X7_needsHost 30 M_X9_hasTarget 1 := ⟨⟨mo_X9_hasTarget, by decide +kernel⟩, gs_X9_hasTarget, Or.inr ⟨"RuleChangeDesk", ml_X7_30⟩⟩
theorem lk_X7_hasMark_34 : LS2 M_X7_hasMark 34 M_X9_spanHas 3 := ⟨⟨mo_X9_spanHas, by decide +kernel⟩, gs_X9_spanHas, Or.inr ⟨"RuleChangeDesk", ml_X7_34⟩⟩
theorem lk_X7_isMet_38 : LV M_X7_isMet 38 M_X8_end 8 0 := ⟨⟨mo_X8_end, by decide +kernel⟩, by decide +kernel, rfl, ml_X7_38, gn_X8_end, ge_X8_end⟩
theorem lk_X7_isMet_44 : LV M_X7_isMet 44 M_X8_passes 8 1 := ⟨⟨mo_X8_passes, by decide +kernel⟩, by decide +kernel, rfl, ml_X7_44, gn_X8_passes, ge_X8_passes⟩
theorem lk_X7_isMet_47 : LV M_X7_isMet 47 M_X8_isLike 8 1 := ⟨⟨mo_X8_isLike, by decide +kernel⟩, by decide +kernel, rfl, ml_X7_47, gn_X8_isLike, ge_X8_isLike⟩
theorem fp_X8_init_9 : FP M_X8_init 9 8 0 := ⟨by decide +kernel, by decide +kernel, fw_X8_9, Or.inr ⟨rfl, rfl, rfl⟩⟩
theorem fp_X8_init_15 : FP M_X8_init 15 8 3 := ⟨by decide +kernel, by decide +kernel, fw_X8_15, Or.inl rfl⟩
theorem fp_X8_startAt_19 : FP M_X8_startAt 19 8 1 := ⟨by decide +kernel, by decide +kernel, fw_X8_19, Or.inl rfl⟩
theorem fp_X8_startAt_22 : FP M_X8_startAt 22 8 2 := ⟨by decide +kernel, by decide +kernel, fw_X8_22, Or.inl rfl⟩
theorem fp_X8_startAt_15 : FP M_X8_startAt 15 8 3 := ⟨by decide +kernel, by decide +kernel, fw_X8_15, Or.inl rfl⟩
theorem fp_X8_goOn_15 : FP M_X8_goOn 15 8 3 := ⟨by decide +kernel, by decide +kernel, fw_X8_15, Or.inl rfl⟩
theorem fp_X8_goOn_19 : FP M_X8_goOn 19 8 1 := ⟨by decide +kernel, by decide +kernel, fw_X8_19, Or.inl rfl⟩
theorem fp_X8_goOn_22 : FP M_X8_goOn 22 8 2 := ⟨by decide +kernel, by decide +kernel, fw_X8_22, Or.inl rfl⟩
theorem lk_X9_init_9 : LI M_X9_init 9 M_X1_init 0 := ⟨⟨mo_X1_init, by decide +kernel⟩, rfl, rfl, gn_X1_init, Or.inl ml_X9_9⟩
theorem fp_X9_init_10 : FP M_X9_init 10 9 0 := ⟨by decide +kernel, by decide +kernel, fw_X9_10, Or.inr ⟨rfl, rfl, rfl⟩⟩
theorem lk_X9_init_18 : LI M_X9_init 18 M_X0_init 1 := ⟨⟨mo_X0_init, by decide +kernel⟩, rfl, rfl, gn_X0_init, Or.inl ml_X9_18⟩
theorem fp_X9_init_21 : FP M_X9_init 21 9 1 := ⟨by decide +kernel, by decide +kernel, fw_X9_21, Or.inr ⟨rfl, rfl, rfl⟩⟩
theorem lk_X9_init_27 : LI M_X9_init 27 M_X3_init 0 := ⟨⟨mo_X3_init, by decide +kernel⟩, rfl, rfl, gn_X3_init, Or.inr ⟨"RuleChangeDesk", ml_X9_27⟩⟩
theorem fp_X9_init_28 : FP M_X9_init 28 9 2 := ⟨by decide +kernel, by decide +kernel, fw_X9_28, Or.inr ⟨rfl, rfl, rfl⟩⟩
theorem lk_X9_init_34 : LI M_X9_init 34 M_X4_init 2 := ⟨⟨mo_X4_init, by decide +kernel⟩, rfl, rfl, gn_X4_init, Or.inl ml_X9_34⟩
theorem fp_X9_init_37 : FP M_X9_init 37 9 3 := ⟨by decide +kernel, by decide +kernel, fw_X9_37, Or.inr ⟨rfl, rfl, rfl⟩⟩
theorem lk_X9_init_43 : LI M_X9_init 43 M_X6_init 3 := ⟨⟨mo_X6_init, by decide +kernel⟩, rfl, rfl, gn_X6_init, Or.inl ml_X9_43⟩
theorem fp_X9_init_46 : FP M_X9_init 46 9 4 := ⟨by decide +kernel, by decide +kernel, fw_X9_46, Or.inr ⟨rfl, rfl, rfl⟩⟩
theorem lk_X9_init_52 : LI M_X9_init 52 M_X8_init 0 := ⟨⟨mo_X8_init, by decide +kernel⟩, rfl, rfl, gn_X8_init, Or.inr ⟨"RuleChangeDesk", ml_X9_52⟩⟩
theorem fp_X9_init_53 : FP M_X9_init 53 9 5 := ⟨by decide +kernel, by decide +kernel, fw_X9_53, Or.inr ⟨rfl, rfl, rfl⟩⟩
theorem lk_X9_net_57 : LV M_X9_net 57 M_X1_reset 1 1 := ⟨⟨mo_X1_reset, by decide +kernel⟩, by decide +kernel, rfl, ml_X9_57, gn_X1_reset, ge_X1_reset⟩
theorem lk_X9_net_61 : LV M_X9_net 61 M_X0_dropWants 0 0 := ⟨⟨mo_X0_dropWants, by decide +kernel⟩, by decide +kernel, rfl, ml_X9_61, gn_X0_dropWants, ge_X0_dropWants⟩
theorem lk_X9_net_64 : LV M_X9_net 64 M_X9_startAfresh 9 0 := ⟨⟨mo_X9_startAfresh, by decide +kernel⟩, by decide +kernel, rfl, ml_X9_64, gn_X9_startAfresh, ge_X9_startAfresh⟩
theorem lk_X9_link_67 : LV M_X9_link 67 M_X1_isFree 1 2 := ⟨⟨mo_X1_isFree, by decide +kernel⟩, by decide +kernel, rfl, ml_X9_67, gn_X1_isFree, ge_X1_isFree⟩
theorem lk_X9_link_71 : LV M_X9_link 71 M_X1_join 1 4 := ⟨⟨mo_X1_join, by decide +kernel⟩, by decide +kernel, rfl, ml_X9_71, gn_X1_join, ge_X1_join⟩
theorem lk_X9_link_64 : LV M_X9_link 64 M_X9_startAfresh 9 0 := ⟨⟨mo_X9_startAfresh, by decide +kernel⟩, by decide +kernel, rfl, ml_X9_64, gn_X9_startAfresh, ge_X9_startAfresh⟩
theorem lk_X9_host_67 : LV M_X9_host 67 M_X1_isFree 1 2 := ⟨⟨mo_X1_isFree, by decide +kernel⟩, by decide +kernel, rfl, ml_X9_67, gn_X1_isFree, ge_X1_isFree⟩
theorem lk_X9_host_75 : LV M_X9_host 75 M_X1_hostCount 1 0 := ⟨⟨mo_X1_hostCount, by decide +kernel⟩, by decide +kernel, rfl, ml_X9_75, gn_X1_hostCount, ge_X1_hostCount⟩
theorem lk_X9_host_79 : LV M_X9_host 79 M_X1_addHost 1 2 := ⟨⟨mo_X1_addHost, by decide +kernel⟩, by decide +kernel, rfl, ml_X9_79, gn_X1_addHost, ge_X1_addHost⟩
theorem lk_X9_host_64 : LV M_X9_host 64 M_X9_startAfresh 9 0 := ⟨⟨mo_X9_startAfresh, by decide +kernel⟩, by decide +kernel, rfl, ml_X9_64, gn_X9_startAfresh, ge_X9_startAfresh⟩
theorem lk_X9_unplug_83 : LV M_X9_unplug 83 M_X1_hasPort 1 2 := ⟨⟨mo_X1_hasPort, by decide +kernel⟩, by decide +kernel, rfl, ml_X9_83, gn_X1_hasPort, ge_X1_hasPort⟩
theorem lk_X9_unplug_67 : LV M_X9_unplug 67 M_X1_isFree 1 2 := ⟨⟨mo_X1_isFree, by decide +kernel⟩, by decide +kernel, rfl, ml_X9_67, gn_X1_isFree, ge_X1_isFree⟩
theorem lk_X9_unplug_86 : LV M_X9_unplug 86 M_X1_hostAt 1 2 := ⟨⟨mo_X1_hostAt, by decide +kernel⟩, by decide +kernel, rfl, ml_X9_86, gn_X1_hostAt, ge_X1_hostAt⟩
theorem lk_X9_unplug_75 : LV M_X9_unplug 75 M_X1_hostCount 1 0 := ⟨⟨mo_X1_hostCount, by decide +kernel⟩, by decide +kernel, rfl, ml_X9_75, gn_X1_hostCount, ge_X1_hostCount⟩
theorem lk_X9_unplug_89 : LV M_X9_unplug 89 M_X0_needsHost 0 1 := ⟨⟨mo_X0_needsHost, by decide +kernel⟩, by decide +kernel, rfl, ml_X9_89, gn_X0_needsHost, ge_X0_needsHost⟩
theorem lk_X9_unplug_93 : LV M_X9_unplug 93 M_X1_clear 1 2 := ⟨⟨mo_X1_clear, by decide +kernel⟩, by decide +kernel, rfl, ml_X9_93, gn_X1_clear, ge_X1_clear⟩
theorem lk_X9_unplug_64 : LV M_X9_unplug 64 M_X9_startAfresh 9 0 := ⟨⟨mo_X9_startAfresh, by decide +kernel⟩, by decide +kernel, rfl, ml_X9_64, gn_X9_startAfresh, ge_X9_startAfresh⟩
theorem lk_X9_rule_97 : LV M_X9_rule 97 M_X1_rowOf 1 2 := ⟨⟨mo_X1_rowOf, by decide +kernel⟩, by decide +kernel, rfl, ml_X9_97, gn_X1_rowOf, ge_X1_rowOf⟩
theorem lk_X9_rule_101 : LV M_X9_rule 101 M_X5_size 5 0 := ⟨⟨mo_X5_size, by decide +kernel⟩, by decide +kernel, rfl, ml_X9_101, gn_X5_size, ge_X5_size⟩
theorem lk_X9_rule_106 : LS2 M_X9_rule 106 M_X9_isSpan 2 := ⟨⟨mo_X9_isSpan, by decide +kernel⟩, gs_X9_isSpan, Or.inl ml_X9_106⟩
theorem lk_X9_rule_109 : LV M_X9_rule 109 M_X5_add 5 4 := ⟨⟨mo_X5_add, by decide +kernel⟩, by decide +kernel, rfl, ml_X9_109, gn_X5_add, ge_X5_add⟩
theorem lk_X9_rule_64 : LV M_X9_rule 64 M_X9_startAfresh 9 0 := ⟨⟨mo_X9_startAfresh, by decide +kernel⟩, by decide +kernel, rfl, ml_X9_64, gn_X9_startAfresh, ge_X9_startAfresh⟩
theorem lk_X9_strike_97 : LV M_X9_strike 97 M_X1_rowOf 1 2 := ⟨⟨mo_X1_rowOf, by decide +kernel⟩, by decide +kernel, rfl, ml_X9_97, gn_X1_rowOf, ge_X1_rowOf⟩
theorem lk_X9_strike_101 : LV M_X9_strike 101 M_X5_size 5 0 := ⟨⟨mo_X5_size, by decide +kernel⟩, by decide +kernel, rfl, ml_X9_101, gn_X5_size, ge_X5_size⟩
theorem lk_X9_strike_112 : LV M_X9_strike 112 M_X5_remove 5 1 := ⟨⟨mo_X5_remove, by decide +kernel⟩, by decide +kernel, rfl, ml_X9_112, gn_X5_remove, ge_X5_remove⟩
theorem lk_X9_strike_64 : LV M_X9_strike 64 M_X9_startAfresh 9 0 := ⟨⟨mo_X9_startAfresh, by decide +kernel⟩, by decide +kernel, rfl, ml_X9_64, gn_X9_startAfresh, ge_X9_startAfresh⟩
theorem lk_X9_copy_97 : LV M_X9_copy 97 M_X1_rowOf 1 2 := ⟨⟨mo_X1_rowOf, by decide +kernel⟩, by decide +kernel, rfl, ml_X9_97, gn_X1_rowOf, ge_X1_rowOf⟩
theorem lk_X9_copy_115 : LV M_X9_copy 115 M_X5_becomeLike 5 1 := ⟨⟨mo_X5_becomeLike, by decide +kernel⟩, by decide +kernel, rfl, ml_X9_115, gn_X5_becomeLike, ge_X5_becomeLike⟩
theorem lk_X9_copy_64 : LV M_X9_copy 64 M_X9_startAfresh 9 0 := ⟨⟨mo_X9_startAfresh, by decide +kernel⟩, by decide +kernel, rfl, ml_X9_64, gn_X9_startAfresh, ge_X9_startAfresh⟩
theorem lk_X9_copy_101 : LV M_X9_copy 101 M_X5_size 5 0 := ⟨⟨mo_X5_size, by decide +kernel⟩, by decide +kernel, rfl, ml_X9_101, gn_X5_size, ge_X5_size⟩
theorem lk_X9_want_106 : LS2 M_X9_want 106 M_X9_isSpan 2 := ⟨⟨mo_X9_isSpan, by decide +kernel⟩, gs_X9_isSpan, Or.inl ml_X9_106⟩
theorem lk_X9_want_119 : LV M_X9_want 119 M_X1_hasHost 1 1 := ⟨⟨mo_X1_hasHost, by decide +kernel⟩, by decide +kernel, rfl, ml_X9_119, gn_X1_hasHost, ge_X1_hasHost⟩
theorem lk_X9_want_122 : LV M_X9_want 122 M_X0_wantCount 0 0 := ⟨⟨mo_X0_wantCount, by decide +kernel⟩, by decide +kernel, rfl, ml_X9_122, gn_X0_wantCount, ge_X0_wantCount⟩
theorem lk_X9_want_125 : LS2 M_X9_want 125 M_X9_hasTarget 1 := ⟨⟨mo_X9_hasTarget, by decide +kernel⟩, gs_X9_hasTarget, Or.inl ml_X9_125⟩
theorem lk_X9_want_128 : LV M_X9_want 128 M_X1_hasSwitch 1 1 := ⟨⟨mo_X1_hasSwitch, by decide +kernel⟩, by decide +kernel, rfl, ml_X9_128, gn_X1_hasSwitch, ge_X1_hasSwitch⟩
theorem lk_X9_want_133 : LI M_X9_want 133 M_X7_init 6 := ⟨⟨mo_X7_init, by decide +kernel⟩, rfl, rfl, gn_X7_init, Or.inl ml_X9_133⟩
theorem lk_X9_want_136 : LV M_X9_want 136 M_X0_addWant 0 1 := ⟨⟨mo_X0_addWant, by decide +kernel⟩, by decide +kernel, rfl, ml_X9_136, gn_X0_addWant, ge_X0_addWant⟩
theorem lk_X9_want_64 : LV M_X9_want 64 M_X9_startAfresh 9 0 := ⟨⟨mo_X9_startAfresh, by decide +kernel⟩, by decide +kernel, rfl, ml_X9_64, gn_X9_startAfresh, ge_X9_startAfresh⟩
theorem lk_X9_unwant_122 : LV M_X9_unwant 122 M_X0_wantCount 0 0 := ⟨⟨mo_X0_wantCount, by decide +kernel⟩, by decide +kernel, rfl, ml_X9_122, gn_X0_wantCount, ge_X0_wantCount⟩
theorem lk_X9_unwant_140 : LV M_X9_unwant 140 M_X0_removeWant 0 1 := ⟨⟨mo_X0_removeWant, by decide +kernel⟩, by decide +kernel, rfl, ml_X9_140, gn_X0_removeWant, ge_X0_removeWant⟩
theorem lk_X9_unwant_64 : LV M_X9_unwant 64 M_X9_startAfresh 9 0 := ⟨⟨mo_X9_startAfresh, by decide +kernel⟩, by decide +kernel, rfl, ml_X9_64, gn_X9_startAfresh, ge_X9_startAfresh⟩
theorem lk_X9_look_143 : LV M_X9_look 143 M_X1_switchCount 1 0 := ⟨⟨mo_X1_switchCount, by decide +kernel⟩, by decide +kernel, rfl, ml_X9_143, gn_X1_switchCount, ge_X1_switchCount⟩
theorem lk_X9_look_75 : LV M_X9_look 75 M_X1_hostCount 1 0 := ⟨⟨mo_X1_hostCount, by decide +kernel⟩, by decide +kernel, rfl, ml_X9_75, gn_X1_hostCount, ge_X1_hostCount⟩
theorem lk_X9_look_146 : LV M_X9_look 146 M_X1_linkCount 1 0 := ⟨⟨mo_X1_linkCount, by decide +kernel⟩, by decide +kernel, rfl, ml_X9_146, gn_X1_linkCount, ge_X1_linkCount⟩
theorem lk_X9_look_149 : LV M_X9_look 149 M_X1_ruleCount 1 0 := ⟨⟨mo_X1_ruleCount, by decide +kernel⟩, by decide +kernel, rfl, ml_X9_149, gn_X1_ruleCount, ge_X1_ruleCount⟩
theorem lk_X9_look_122 : LV M_X9_look 122 M_X0_wantCount 0 0 := ⟨⟨mo_X0_wantCount, by decide +kernel⟩, by decide +kernel, rfl, ml_X9_122, gn_X0_wantCount, ge_X0_wantCount⟩
theorem lk_X9_look_152 : LV M_X9_look 152 M_X1_unlike 1 0 := ⟨⟨mo_X1_unlike, by decide +kernel⟩, by decide +kernel, rfl, ml_X9_152, gn_X1_unlike, ge_X1_unlike⟩
theorem lk_X9_look_155 : LV M_X9_look 155 M_X1_classCount 1 0 := ⟨⟨mo_X1_classCount, by decide +kernel⟩, by decide +kernel, rfl, ml_X9_155, gn_X1_classCount, ge_X1_classCount⟩
theorem lk_X9_look_158 : LV M_X9_look 158 M_X4_countGood 4 0 := ⟨⟨mo_X4_countGood, by decide +kernel⟩, by decide +kernel, rfl, ml_X9_158, gn_X4_countGood, ge_X4_countGood⟩
theorem lk_X9_look_161 : LV M_X9_look 161 M_X3_size 3 0 := ⟨⟨mo_X3_size, by decide +kernel⟩, by decide +kernel, rfl, ml_X9_161, gn_X3_size, ge_X3_size⟩
theorem lk_X9_look_162 : LV M_X9_look 162 M_X3_members 3 0 := ⟨⟨mo_X3_members, by decide +kernel⟩, by decide +kernel, rfl, ml_X9_162, gn_X3_members, ge_X3_members⟩
theorem lk_X9_ofClass_165 : LV M_X9_ofClass 165 M_X1_classOf 1 1 := ⟨⟨mo_X1_classOf, by decide +kernel⟩, by decide +kernel, rfl, ml_X9_165, gn_X1_classOf, ge_X1_classOf⟩
theorem lk_X9_way_169 : LV M_X9_way 169 M_X1_hasMixture 1 1 := ⟨⟨mo_X1_hasMixture, by decide +kernel⟩, by decide +kernel, rfl, ml_X9_169, gn_X1_hasMixture, ge_X1_hasMixture⟩
theorem lk_X9_way_119 : LV M_X9_way 119 M_X1_hasHost 1 1 := ⟨⟨mo_X1_hasHost, by decide +kernel⟩, by decide +kernel, rfl, ml_X9_119, gn_X1_hasHost, ge_X1_hasHost⟩
theorem lk_X9_way_172 : LS2 M_X9_way 172 M_X9_isMark 1 := ⟨⟨mo_X9_isMark, by decide +kernel⟩, gs_X9_isMark, Or.inl ml_X9_172⟩
theorem lk_X9_way_175 : LV M_X9_way 175 M_X1_trace 1 4 := ⟨⟨mo_X1_trace, by decide +kernel⟩, by decide +kernel, rfl, ml_X9_175, gn_X1_trace, ge_X1_trace⟩
theorem lk_X9_way_179 : LV M_X9_way 179 M_X8_length 8 0 := ⟨⟨mo_X8_length, by decide +kernel⟩, by decide +kernel, rfl, ml_X9_179, gn_X8_length, ge_X8_length⟩
theorem lk_X9_on_182 : LV M_X9_on 182 M_X8_end 8 0 := ⟨⟨mo_X8_end, by decide +kernel⟩, by decide +kernel, rfl, ml_X9_182, gn_X8_end, ge_X8_end⟩
theorem lk_X9_on_185 : LV M_X9_on 185 M_X8_stop 8 1 := ⟨⟨mo_X8_stop, by decide +kernel⟩, by decide +kernel, rfl, ml_X9_185, gn_X8_stop, ge_X8_stop⟩
theorem lk_X9_holds_188 : LV M_X9_holds 188 M_X0_hasWant 0 1 := ⟨⟨mo_X0_hasWant, by decide +kernel⟩, by decide +kernel, rfl, ml_X9_188, gn_X0_hasWant, ge_X0_hasWant⟩
theorem lk_X9_holds_169 : LV M_X9_holds 169 M_X1_hasMixture 1 1 := ⟨⟨mo_X1_hasMixture, by decide +kernel⟩, by decide +kernel, rfl, ml_X9_169, gn_X1_hasMixture, ge_X1_hasMixture⟩
theorem lk_X9_holds_191 : LV M_X9_holds 191 M_X0_leastBadMark 0 2 := ⟨⟨mo_X0_leastBadMark, by decide +kernel⟩, by decide +kernel, rfl, ml_X9_191, gn_X0_leastBadMark, ge_X0_leastBadMark⟩
theorem lk_X9_kept_188 : LV M_X9_kept 188 M_X0_hasWant 0 1 := ⟨⟨mo_X0_hasWant, by decide +kernel⟩, by decide +kernel, rfl, ml_X9_188, gn_X0_hasWant, ge_X0_hasWant⟩
theorem lk_X9_kept_194 : LV M_X9_kept 194 M_X0_isKept 0 1 := ⟨⟨mo_X0_isKept, by decide +kernel⟩, by decide +kernel, rfl, ml_X9_194, gn_X0_isKept, ge_X0_isKept⟩
theorem lk_X9_why_169 : LV M_X9_why 169 M_X1_hasMixture 1 1 := ⟨⟨mo_X1_hasMixture, by decide +kernel⟩, by decide +kernel, rfl, ml_X9_169, gn_X1_hasMixture, ge_X1_hasMixture⟩
theorem lk_X9_why_197 : LV M_X9_why 197 M_X0_firstBroken 0 1 := ⟨⟨mo_X0_firstBroken, by decide +kernel⟩, by decide +kernel, rfl, ml_X9_197, gn_X0_firstBroken, ge_X0_firstBroken⟩
theorem lk_X9_why_191 : LV M_X9_why 191 M_X0_leastBadMark 0 2 := ⟨⟨mo_X0_leastBadMark, by decide +kernel⟩, by decide +kernel, rfl, ml_X9_191, gn_X0_leastBadMark, ge_X0_leastBadMark⟩
theorem lk_X9_least_200 : LV M_X9_least 200 M_X4_makeLeast 4 1 := ⟨⟨mo_X4_makeLeast, by decide +kernel⟩, by decide +kernel, rfl, ml_X9_200, gn_X4_makeLeast, ge_X4_makeLeast⟩
theorem lk_X9_least_204 : LV M_X9_least 204 M_X6_stop 6 0 := ⟨⟨mo_X6_stop, by decide +kernel⟩, by decide +kernel, rfl, ml_X9_204, gn_X6_stop, ge_X6_stop⟩
theorem lk_X9_least_161 : LV M_X9_least 161 M_X3_size 3 0 := ⟨⟨mo_X3_size, by decide +kernel⟩, by decide +kernel, rfl, ml_X9_161, gn_X3_size, ge_X3_size⟩
theorem lk_X9_orders_206 : LV M_X9_orders 206 M_X4_countOrders 4 0 := ⟨⟨mo_X4_countOrders, by decide +kernel⟩, by decide +kernel, rfl, ml_X9_206, gn_X4_countOrders, ge_X4_countOrders⟩
theorem lk_X9_order_209 : LV M_X9_order 209 M_X4_makeOrder 4 2 := ⟨⟨mo_X4_makeOrder, by decide +kernel⟩, by decide +kernel, rfl, ml_X9_209, gn_X4_makeOrder, ge_X4_makeOrder⟩
theorem lk_X9_order_204 : LV M_X9_order 204 M_X6_stop 6 0 := ⟨⟨mo_X6_stop, by decide +kernel⟩, by decide +kernel, rfl, ml_X9_204, gn_X6_stop, ge_X6_stop⟩
theorem lk_X9_round_152 : LV M_X9_round 152 M_X1_unlike 1 0 := ⟨⟨mo_X1_unlike, by decide +kernel⟩, by decide +kernel, rfl, ml_X9_152, gn_X1_unlike, ge_X1_unlike⟩
theorem lk_X9_round_162 : LV M_X9_round 162 M_X3_members 3 0 := ⟨⟨mo_X3_members, by decide +kernel⟩, by decide +kernel, rfl, ml_X9_162, gn_X3_members, ge_X3_members⟩
theorem lk_X9_round_213 : LV M_X9_round 213 M_X3_add 3 1 := ⟨⟨mo_X3_add, by decide +kernel⟩, by decide +kernel, rfl, ml_X9_213, gn_X3_add, ge_X3_add⟩
theorem lk_X9_round_204 : LV M_X9_round 204 M_X6_stop 6 0 := ⟨⟨mo_X6_stop, by decide +kernel⟩, by decide +kernel, rfl, ml_X9_204, gn_X6_stop, ge_X6_stop⟩
theorem lk_X9_round_161 : LV M_X9_round 161 M_X3_size 3 0 := ⟨⟨mo_X3_size, by decide +kernel⟩, by decide +kernel, rfl, ml_X9_161, gn_X3_size, ge_X3_size⟩
theorem lk_X9_empty_215 : LV M_X9_empty 215 M_X3_clear 3 0 := ⟨⟨mo_X3_clear, by decide +kernel⟩, by decide +kernel, rfl, ml_X9_215, gn_X3_clear, ge_X3_clear⟩
theorem lk_X9_empty_204 : LV M_X9_empty 204 M_X6_stop 6 0 := ⟨⟨mo_X6_stop, by decide +kernel⟩, by decide +kernel, rfl, ml_X9_204, gn_X6_stop, ge_X6_stop⟩
theorem lk_X9_plan_217 : LV M_X9_plan 217 M_X3_has 3 1 := ⟨⟨mo_X3_has, by decide +kernel⟩, by decide +kernel, rfl, ml_X9_217, gn_X3_has, ge_X3_has⟩
theorem lk_X9_plan_220 : LV M_X9_plan 220 M_X3_get 3 1 := ⟨⟨mo_X3_get, by decide +kernel⟩, by decide +kernel, rfl, ml_X9_220, gn_X3_get, ge_X3_get⟩
theorem lk_X9_mid_217 : LV M_X9_mid 217 M_X3_has 3 1 := ⟨⟨mo_X3_has, by decide +kernel⟩, by decide +kernel, rfl, ml_X9_217, gn_X3_has, ge_X3_has⟩
theorem lk_X9_mid_223 : LV M_X9_mid 223 M_X3_membersAhead 3 1 := ⟨⟨mo_X3_membersAhead, by decide +kernel⟩, by decide +kernel, rfl, ml_X9_223, gn_X3_membersAhead, ge_X3_membersAhead⟩
theorem lk_X9_mid_220 : LV M_X9_mid 220 M_X3_get 3 1 := ⟨⟨mo_X3_get, by decide +kernel⟩, by decide +kernel, rfl, ml_X9_220, gn_X3_get, ge_X3_get⟩
theorem lk_X9_mid_226 : LV M_X9_mid 226 M_X4_whyNotTaken 4 2 := ⟨⟨mo_X4_whyNotTaken, by decide +kernel⟩, by decide +kernel, rfl, ml_X9_226, gn_X4_whyNotTaken, ge_X4_whyNotTaken⟩
theorem lk_X9_begin_161 : LV M_X9_begin 161 M_X3_size 3 0 := ⟨⟨mo_X3_size, by decide +kernel⟩, by decide +kernel, rfl, ml_X9_161, gn_X3_size, ge_X3_size⟩
theorem lk_X9_begin_229 : LV M_X9_begin 229 M_X6_start 6 0 := ⟨⟨mo_X6_start, by decide +kernel⟩, by decide +kernel, rfl, ml_X9_229, gn_X6_start, ge_X6_start⟩
theorem lk_X9_send_232 : LV M_X9_send 232 M_X6_isLive 6 0 := ⟨⟨mo_X6_isLive, by decide +kernel⟩, by decide +kernel, rfl, ml_X9_232, gn_X6_isLive, ge_X6_isLive⟩
theorem lk_X9_send_119 : LV M_X9_send 119 M_X1_hasHost 1 1 := ⟨⟨mo_X1_hasHost, by decide +kernel⟩, by decide +kernel, rfl, ml_X9_119, gn_X1_hasHost, ge_X1_hasHost⟩
theorem lk_X9_send_172 : LS2 M_X9_send 172 M_X9_isMark 1 := ⟨⟨mo_X9_isMark, by decide +kernel⟩, gs_X9_isMark, Or.inl ml_X9_172⟩
theorem lk_X9_send_236 : LV M_X9_send 236 M_X6_packetCount 6 0 := ⟨⟨mo_X6_packetCount, by decide +kernel⟩, by decide +kernel, rfl, ml_X9_236, gn_X6_packetCount, ge_X6_packetCount⟩
theorem lk_X9_send_239 : LV M_X9_send 239 M_X6_putIn 6 2 := ⟨⟨mo_X6_putIn, by decide +kernel⟩, by decide +kernel, rfl, ml_X9_239, gn_X6_putIn, ge_X6_putIn⟩
theorem lk_X9_hop_242 : LV M_X9_hop 242 M_X6_packetOf 6 1 := ⟨⟨mo_X6_packetOf, by decide +kernel⟩, by decide +kernel, rfl, ml_X9_242, gn_X6_packetOf, ge_X6_packetOf⟩
theorem lk_X9_hop_246 : LV M_X9_hop 246 M_X2_isUnderWay 2 0 := ⟨⟨mo_X2_isUnderWay, by decide +kernel⟩, by decide +kernel, rfl, ml_X9_246, gn_X2_isUnderWay, ge_X2_isUnderWay⟩
theorem lk_X9_hop_251 : LV M_X9_hop 251 M_X6_moveOn 6 1 := ⟨⟨mo_X6_moveOn, by decide +kernel⟩, by decide +kernel, rfl, ml_X9_251, gn_X6_moveOn, ge_X6_moveOn⟩
theorem lk_X9_hop_255 : LV M_X9_hop 255 M_X2_place 2 0 := ⟨⟨mo_X2_place, by decide +kernel⟩, by decide +kernel, rfl, ml_X9_255, gn_X2_place, ge_X2_place⟩
theorem lk_X9_hop_258 : LV M_X9_hop 258 M_X2_end 2 0 := ⟨⟨mo_X2_end, by decide +kernel⟩, by decide +kernel, rfl, ml_X9_258, gn_X2_end, ge_X2_end⟩
theorem lk_X9_change_259 : LV M_X9_change 259 M_X6_takeNew 6 1 := ⟨⟨mo_X6_takeNew, by decide +kernel⟩, by decide +kernel, rfl, ml_X9_259, gn_X6_takeNew, ge_X6_takeNew⟩
theorem lk_X9_next_262 : LV M_X9_next 262 M_X6_nextRound 6 0 := ⟨⟨mo_X6_nextRound, by decide +kernel⟩, by decide +kernel, rfl, ml_X9_262, gn_X6_nextRound, ge_X6_nextRound⟩
theorem lk_X9_run_265 : LV M_X9_run 265 M_X6_tell 6 1 := ⟨⟨mo_X6_tell, by decide +kernel⟩, by decide +kernel, rfl, ml_X9_265, gn_X6_tell, ge_X6_tell⟩
theorem lk_X9_packet_242 : LV M_X9_packet 242 M_X6_packetOf 6 1 := ⟨⟨mo_X6_packetOf, by decide +kernel⟩, by decide +kernel, rfl, ml_X9_242, gn_X6_packetOf, ge_X6_packetOf⟩
theorem lk_X9_packet_268 : LV M_X9_packet 268 M_X2_tell 2 1 := ⟨⟨mo_X2_tell, by decide +kernel⟩, by decide +kernel, rfl, ml_X9_268, gn_X2_tell, ge_X2_tell⟩
theorem lk_X9_startAfresh_269 : LV M_X9_startAfresh 269 M_X1_forget 1 0 := ⟨⟨mo_X1_forget, by decide +kernel⟩, by decide +kernel, rfl, ml_X9_269, gn_X1_forget, ge_X1_forget⟩
theorem lk_X9_startAfresh_272 : LV M_X9_startAfresh 272 M_X0_forget 0 0 := ⟨⟨mo_X0_forget, by decide +kernel⟩, by decide +kernel, rfl, ml_X9_272, gn_X0_forget, ge_X0_forget⟩
theorem lk_X9_startAfresh_215 : LV M_X9_startAfresh 215 M_X3_clear 3 0 := ⟨⟨mo_X3_clear, by decide +kernel⟩, by decide +kernel, rfl, ml_X9_215, gn_X3_clear, ge_X3_clear⟩
theorem lk_X9_startAfresh_204 : LV M_X9_startAfresh 204 M_X6_stop 6 0 := ⟨⟨mo_X6_stop, by decide +kernel⟩, by decide +kernel, rfl, ml_X9_204, gn_X6_stop, ge_X6_stop⟩
theorem lk_X9_isSpan_172 : LS2 M_X9_isSpan 172 M_X9_isMark 1 := ⟨⟨mo_X9_isMark, by decide +kernel⟩, gs_X9_isMark, Or.inl ml_X9_172⟩
theorem fp_X10_init_7 : FP M_X10_init 7 10 3 := ⟨by decide +kernel, by decide +kernel, fw_X10_7, Or.inr ⟨rfl, rfl, rfl⟩⟩
theorem fp_X10_init_13 : FP M_X10_init 13 10 4 := ⟨by decide +kernel, by decide +kernel, fw_X10_13, Or.inr ⟨rfl, rfl, rfl⟩⟩
theorem fp_X10_init_16 : FP M_X10_init 16 10 5 := ⟨by decide +kernel, by decide +kernel, fw_X10_16, Or.inr ⟨rfl, rfl, rfl⟩⟩
theorem fp_X10_init_19 : FP M_X10_init 19 10 6 := ⟨by decide +kernel, by decide +kernel, fw_X10_19, Or.inr ⟨rfl, rfl, rfl⟩⟩
theorem fp_X10_init_22 : FP M_X10_init 22 10 7 := ⟨by decide +kernel, by decide +kernel, fw_X10_22, Or.inr ⟨rfl, rfl, rfl⟩⟩
theorem fp_X10_init_25 : FP M_X10_init 25 10 8 := ⟨by decide +kernel, by decide +kernel, fw_X10_25, Or.inr ⟨rfl, rfl, rfl⟩⟩
theorem fp_X10_init_28 : FP M_X10_init 28 10 9 := ⟨by decide +kernel, by decide +kernel, fw_X10_28, Or.inr ⟨rfl, rfl, rfl⟩⟩
theorem fp_X10_init_31 : FP M_X10_init 31 10 10 := ⟨by decide +kernel, by decide +kernel, fw_X10_31, Or.inr ⟨rfl, rfl, rfl⟩⟩
theorem fp_X10_init_34 : FP M_X10_init 34 10 11 := ⟨by decide +kernel, by decide +kernel, fw_X10_34, Or.inr ⟨rfl, rfl, rfl⟩⟩
theorem fp_X10_init_37 : FP M_X10_init 37 10 12 := ⟨by decide +kernel, by decide +kernel, fw_X10_37, Or.inr ⟨rfl, rfl, rfl⟩⟩
theorem fp_X10_init_40 : FP M_X10_init 40 10 20 := ⟨by decide +kernel, by decide +kernel, fw_X10_40, Or.inl rfl⟩
theorem fp_X10_init_44 : FP M_X10_init 44 10 22 := ⟨by decide +kernel, by decide +kernel, fw_X10_44, Or.inr ⟨rfl, rfl, rfl⟩⟩
theorem fp_X10_init_48 : FP M_X10_init 48 10 23 := ⟨by decide +kernel, by decide +kernel, fw_X10_48, Or.inr ⟨rfl, rfl, rfl⟩⟩
theorem fp_X10_init_51 : FP M_X10_init 51 10 25 := ⟨by decide +kernel, by decide +kernel, fw_X10_51, Or.inr ⟨rfl, rfl, rfl⟩⟩
theorem fp_X10_init_54 : FP M_X10_init 54 10 26 := ⟨by decide +kernel, by decide +kernel, fw_X10_54, Or.inr ⟨rfl, rfl, rfl⟩⟩
theorem fp_X10_init_57 : FP M_X10_init 57 10 27 := ⟨by decide +kernel, by decide +kernel, fw_X10_57, Or.inr ⟨rfl, rfl, rfl⟩⟩
theorem fp_X10_init_60 : FP M_X10_init 60 10 33 := ⟨by decide +kernel, by decide +kernel, fw_X10_60, Or.inr ⟨rfl, rfl, rfl⟩⟩
theorem fp_X10_init_63 : FP M_X10_init 63 10 34 := ⟨by decide +kernel, by decide +kernel, fw_X10_63, Or.inr ⟨rfl, rfl, rfl⟩⟩
theorem fp_X10_init_66 : FP M_X10_init 66 10 35 := ⟨by decide +kernel, by decide +kernel, fw_X10_66, Or.inr ⟨rfl, rfl, rfl⟩⟩
theorem fp_X10_init_69 : FP M_X10_init 69 10 36 := ⟨by decide +kernel, by decide +kernel, fw_X10_69, Or.inr ⟨rfl, rfl, rfl⟩⟩
theorem fp_X10_init_72 : FP M_X10_init 72 10 37 := ⟨by decide +kernel, by decide +kernel, fw_X10_72, Or.inr ⟨rfl, rfl, rfl⟩⟩
theorem fp_X10_init_75 : FP M_X10_init 75 10 38 := ⟨by decide +kernel, by decide +kernel, fw_X10_75, Or.inr ⟨rfl, rfl, rfl⟩⟩
theorem lk_X10_init_78 : LV M_X10_init 78 M_X10_clear 10 1 := ⟨⟨mo_X10_clear, by decide +kernel⟩, by decide +kernel, rfl, ml_X10_78, gn_X10_clear, ge_X10_clear⟩
theorem fp_X10_clear_82 : FP M_X10_clear 82 10 0 := ⟨by decide +kernel, by decide +kernel, fw_X10_82, Or.inl rfl⟩
theorem fp_X10_clear_85 : FP M_X10_clear 85 10 1 := ⟨by decide +kernel, by decide +kernel, fw_X10_85, Or.inl rfl⟩
theorem fp_X10_clear_88 : FP M_X10_clear 88 10 2 := ⟨by decide +kernel, by decide +kernel, fw_X10_88, Or.inl rfl⟩
theorem lk_X10_clear_91 : LV M_X10_clear 91 M_X10_changed 10 0 := ⟨⟨mo_X10_changed, by decide +kernel⟩, by decide +kernel, rfl, ml_X10_91, gn_X10_changed, ge_X10_changed⟩
theorem lk_X10_isPort_94 : LS2 M_X10_isPort 94 M_X10_isIn 3 := ⟨⟨mo_X10_isIn, by decide +kernel⟩, gs_X10_isIn, Or.inl ml_X10_94⟩
theorem lk_X10_isSpan_94 : LS2 M_X10_isSpan 94 M_X10_isIn 3 := ⟨⟨mo_X10_isIn, by decide +kernel⟩, gs_X10_isIn, Or.inl ml_X10_94⟩
theorem lk_X10_net_94 : LS2 M_X10_net 94 M_X10_isIn 3 := ⟨⟨mo_X10_isIn, by decide +kernel⟩, gs_X10_isIn, Or.inl ml_X10_94⟩
theorem lk_X10_net_78 : LV M_X10_net 78 M_X10_clear 10 1 := ⟨⟨mo_X10_clear, by decide +kernel⟩, by decide +kernel, rfl, ml_X10_78, gn_X10_clear, ge_X10_clear⟩
theorem lk_X10_link_98 : LV M_X10_link 98 M_X10_isPort 10 2 := ⟨⟨mo_X10_isPort, by decide +kernel⟩, by decide +kernel, rfl, ml_X10_98, gn_X10_isPort, ge_X10_isPort⟩
theorem lk_X10_link_91 : LV M_X10_link 91 M_X10_changed 10 0 := ⟨⟨mo_X10_changed, by decide +kernel⟩, by decide +kernel, rfl, ml_X10_91, gn_X10_changed, ge_X10_changed⟩
theorem lk_X10_host_98 : LV M_X10_host 98 M_X10_isPort 10 2 := ⟨⟨mo_X10_isPort, by decide +kernel⟩, by decide +kernel, rfl, ml_X10_98, gn_X10_isPort, ge_X10_isPort⟩
theorem fp_X10_host_85 : FP M_X10_host 85 10 1 := ⟨by decide +kernel, by decide +kernel, fw_X10_85, Or.inl rfl⟩
theorem lk_X10_host_91 : LV M_X10_host 91 M_X10_changed 10 0 := ⟨⟨mo_X10_changed, by decide +kernel⟩, by decide +kernel, rfl, ml_X10_91, gn_X10_changed, ge_X10_changed⟩
theorem lk_X10_isOf_102 : LS2 M_X10_isOf 102 M_X10_hasGoal 1 := ⟨⟨mo_X10_hasGoal, by decide +kernel⟩, gs_X10_hasGoal, Or.inl ml_X10_102⟩
theorem lk_X10_unplug_98 : LV M_X10_unplug 98 M_X10_isPort 10 2 := ⟨⟨mo_X10_isPort, by decide +kernel⟩, by decide +kernel, rfl, ml_X10_98, gn_X10_isPort, ge_X10_isPort⟩
theorem lk_X10_unplug_106 : LV M_X10_unplug 106 M_X10_isOf 10 2 := ⟨⟨mo_X10_isOf, by decide +kernel⟩, by decide +kernel, rfl, ml_X10_106, gn_X10_isOf, ge_X10_isOf⟩
theorem fp_X10_unplug_85 : FP M_X10_unplug 85 10 1 := ⟨by decide +kernel, by decide +kernel, fw_X10_85, Or.inl rfl⟩
theorem lk_X10_unplug_91 : LV M_X10_unplug 91 M_X10_changed 10 0 := ⟨⟨mo_X10_changed, by decide +kernel⟩, by decide +kernel, rfl, ml_X10_91, gn_X10_changed, ge_X10_changed⟩
theorem lk_X10_rule_94 : LS2 M_X10_rule 94 M_X10_isIn 3 := ⟨⟨mo_X10_isIn, by decide +kernel⟩, gs_X10_isIn, Or.inl ml_X10_94⟩
theorem lk_X10_rule_109 : LV M_X10_rule 109 M_X10_isSpan 10 2 := ⟨⟨mo_X10_isSpan, by decide +kernel⟩, by decide +kernel, rfl, ml_X10_109, gn_X10_isSpan, ge_X10_isSpan⟩
theorem lk_X10_rule_112 : LV M_X10_rule 112 M_X10_ruleAt 10 3 := ⟨⟨mo_X10_ruleAt, by decide +kernel⟩, by decide +kernel, rfl, ml_X10_112, gn_X10_ruleAt, ge_X10_ruleAt⟩
theorem lk_X10_rule_91 : LV M_X10_rule 91 M_X10_changed 10 0 := ⟨⟨mo_X10_changed, by decide +kernel⟩, by decide +kernel, rfl, ml_X10_91, gn_X10_changed, ge_X10_changed⟩
theorem lk_X10_strike_94 : LS2 M_X10_strike 94 M_X10_isIn 3 := ⟨⟨mo_X10_isIn, by decide +kernel⟩, gs_X10_isIn, Or.inl ml_X10_94⟩
theorem lk_X10_strike_112 : LV M_X10_strike 112 M_X10_ruleAt 10 3 := ⟨⟨mo_X10_ruleAt, by decide +kernel⟩, by decide +kernel, rfl, ml_X10_112, gn_X10_ruleAt, ge_X10_ruleAt⟩
theorem lk_X10_strike_91 : LV M_X10_strike 91 M_X10_changed 10 0 := ⟨⟨mo_X10_changed, by decide +kernel⟩, by decide +kernel, rfl, ml_X10_91, gn_X10_changed, ge_X10_changed⟩
theorem lk_X10_copy_94 : LS2 M_X10_copy 94 M_X10_isIn 3 := ⟨⟨mo_X10_isIn, by decide +kernel⟩, gs_X10_isIn, Or.inl ml_X10_94⟩
theorem lk_X10_copy_112 : LV M_X10_copy 112 M_X10_ruleAt 10 3 := ⟨⟨mo_X10_ruleAt, by decide +kernel⟩, by decide +kernel, rfl, ml_X10_112, gn_X10_ruleAt, ge_X10_ruleAt⟩
theorem lk_X10_copy_91 : LV M_X10_copy 91 M_X10_changed 10 0 := ⟨⟨mo_X10_changed, by decide +kernel⟩, by decide +kernel, rfl, ml_X10_91, gn_X10_changed, ge_X10_changed⟩
theorem lk_X10_want_94 : LS2 M_X10_want 94 M_X10_isIn 3 := ⟨⟨mo_X10_isIn, by decide +kernel⟩, gs_X10_isIn, Or.inl ml_X10_94⟩
theorem lk_X10_want_109 : LV M_X10_want 109 M_X10_isSpan 10 2 := ⟨⟨mo_X10_isSpan, by decide +kernel⟩, by decide +kernel, rfl, ml_X10_109, gn_X10_isSpan, ge_X10_isSpan⟩
theorem lk_X10_want_102 : LS2 M_X10_want 102 M_X10_hasGoal 1 := ⟨⟨mo_X10_hasGoal, by decide +kernel⟩, gs_X10_hasGoal, Or.inl ml_X10_102⟩
theorem fp_X10_want_88 : FP M_X10_want 88 10 2 := ⟨by decide +kernel, by decide +kernel, fw_X10_88, Or.inl rfl⟩
theorem lk_X10_want_91 : LV M_X10_want 91 M_X10_changed 10 0 := ⟨⟨mo_X10_changed, by decide +kernel⟩, by decide +kernel, rfl, ml_X10_91, gn_X10_changed, ge_X10_changed⟩
theorem lk_X10_unwant_94 : LS2 M_X10_unwant 94 M_X10_isIn 3 := ⟨⟨mo_X10_isIn, by decide +kernel⟩, gs_X10_isIn, Or.inl ml_X10_94⟩
theorem fp_X10_unwant_88 : FP M_X10_unwant 88 10 2 := ⟨by decide +kernel, by decide +kernel, fw_X10_88, Or.inl rfl⟩
theorem lk_X10_unwant_91 : LV M_X10_unwant 91 M_X10_changed 10 0 := ⟨⟨mo_X10_changed, by decide +kernel⟩, by decide +kernel, rfl, ml_X10_91, gn_X10_changed, ge_X10_changed⟩
theorem lk_X10_actOf_112 : LV M_X10_actOf 112 M_X10_ruleAt 10 3 := ⟨⟨mo_X10_ruleAt, by decide +kernel⟩, by decide +kernel, rfl, ml_X10_112, gn_X10_ruleAt, ge_X10_ruleAt⟩
theorem lk_X10_actOf_116 : LS2 M_X10_actOf 116 M_X10_isOfSpan 3 := ⟨⟨mo_X10_isOfSpan, by decide +kernel⟩, gs_X10_isOfSpan, Or.inl ml_X10_116⟩
theorem lk_X10_goes_119 : LV M_X10_goes 119 M_X10_actOf 10 3 := ⟨⟨mo_X10_actOf, by decide +kernel⟩, by decide +kernel, rfl, ml_X10_119, gn_X10_actOf, ge_X10_actOf⟩
theorem fp_X10_walks_122 : FP M_X10_walks 122 10 13 := ⟨by decide +kernel, by decide +kernel, fw_X10_122, Or.inl rfl⟩
theorem fp_X10_walks_125 : FP M_X10_walks 125 10 14 := ⟨by decide +kernel, by decide +kernel, fw_X10_125, Or.inl rfl⟩
theorem lk_X10_walks_128 : LV M_X10_walks 128 M_X10_goes 10 3 := ⟨⟨mo_X10_goes, by decide +kernel⟩, by decide +kernel, rfl, ml_X10_128, gn_X10_goes, ge_X10_goes⟩
theorem lk_X10_isMixture_131 : LV M_X10_isMixture 131 M_X10_all 10 0 := ⟨⟨mo_X10_all, by decide +kernel⟩, by decide +kernel, rfl, ml_X10_131, gn_X10_all, ge_X10_all⟩
theorem lk_X10_isMixture_94 : LS2 M_X10_isMixture 94 M_X10_isIn 3 := ⟨⟨mo_X10_isIn, by decide +kernel⟩, gs_X10_isIn, Or.inl ml_X10_94⟩
theorem lk_X10_way_135 : LV M_X10_way 135 M_X10_isMixture 10 1 := ⟨⟨mo_X10_isMixture, by decide +kernel⟩, by decide +kernel, rfl, ml_X10_135, gn_X10_isMixture, ge_X10_isMixture⟩
theorem lk_X10_way_94 : LS2 M_X10_way 94 M_X10_isIn 3 := ⟨⟨mo_X10_isIn, by decide +kernel⟩, gs_X10_isIn, Or.inl ml_X10_94⟩
theorem lk_X10_way_138 : LV M_X10_way 138 M_X10_walks 10 3 := ⟨⟨mo_X10_walks, by decide +kernel⟩, by decide +kernel, rfl, ml_X10_138, gn_X10_walks, ge_X10_walks⟩
theorem fp_X10_way_142 : FP M_X10_way 142 10 19 := ⟨by decide +kernel, by decide +kernel, fw_X10_142, Or.inl rfl⟩
theorem fp_X10_way_40 : FP M_X10_way 40 10 20 := ⟨by decide +kernel, by decide +kernel, fw_X10_40, Or.inl rfl⟩
theorem lk_X10_on_94 : LS2 M_X10_on 94 M_X10_isIn 3 := ⟨⟨mo_X10_isIn, by decide +kernel⟩, gs_X10_isIn, Or.inl ml_X10_94⟩
theorem lk_X10_isKept_145 : LV M_X10_isKept 145 M_X10_isWhole 10 2 := ⟨⟨mo_X10_isWhole, by decide +kernel⟩, by decide +kernel, rfl, ml_X10_145, gn_X10_isWhole, ge_X10_isWhole⟩
theorem lk_X10_isWhole_138 : LV M_X10_isWhole 138 M_X10_walks 10 3 := ⟨⟨mo_X10_walks, by decide +kernel⟩, by decide +kernel, rfl, ml_X10_138, gn_X10_walks, ge_X10_walks⟩
theorem lk_X10_isWhole_131 : LV M_X10_isWhole 131 M_X10_all 10 0 := ⟨⟨mo_X10_all, by decide +kernel⟩, by decide +kernel, rfl, ml_X10_131, gn_X10_all, ge_X10_all⟩
theorem lk_X10_breaks_116 : LS2 M_X10_breaks 116 M_X10_isOfSpan 3 := ⟨⟨mo_X10_isOfSpan, by decide +kernel⟩, gs_X10_isOfSpan, Or.inl ml_X10_116⟩
theorem lk_X10_breaks_138 : LV M_X10_breaks 138 M_X10_walks 10 3 := ⟨⟨mo_X10_walks, by decide +kernel⟩, by decide +kernel, rfl, ml_X10_138, gn_X10_walks, ge_X10_walks⟩
theorem lk_X10_breaks_148 : LV M_X10_breaks 148 M_X10_isKept 10 2 := ⟨⟨mo_X10_isKept, by decide +kernel⟩, by decide +kernel, rfl, ml_X10_148, gn_X10_isKept, ge_X10_isKept⟩
theorem lk_X10_isKeptOne_151 : LV M_X10_isKeptOne 151 M_X10_breaks 10 2 := ⟨⟨mo_X10_breaks, by decide +kernel⟩, by decide +kernel, rfl, ml_X10_151, gn_X10_breaks, ge_X10_breaks⟩
theorem lk_X10_isKeptOne_131 : LV M_X10_isKeptOne 131 M_X10_all 10 0 := ⟨⟨mo_X10_all, by decide +kernel⟩, by decide +kernel, rfl, ml_X10_131, gn_X10_all, ge_X10_all⟩
theorem lk_X10_holds_94 : LS2 M_X10_holds 94 M_X10_isIn 3 := ⟨⟨mo_X10_isIn, by decide +kernel⟩, gs_X10_isIn, Or.inl ml_X10_94⟩
theorem lk_X10_holds_135 : LV M_X10_holds 135 M_X10_isMixture 10 1 := ⟨⟨mo_X10_isMixture, by decide +kernel⟩, by decide +kernel, rfl, ml_X10_135, gn_X10_isMixture, ge_X10_isMixture⟩
theorem lk_X10_holds_151 : LV M_X10_holds 151 M_X10_breaks 10 2 := ⟨⟨mo_X10_breaks, by decide +kernel⟩, by decide +kernel, rfl, ml_X10_151, gn_X10_breaks, ge_X10_breaks⟩
theorem lk_X10_kept_94 : LS2 M_X10_kept 94 M_X10_isIn 3 := ⟨⟨mo_X10_isIn, by decide +kernel⟩, gs_X10_isIn, Or.inl ml_X10_94⟩
theorem lk_X10_kept_155 : LV M_X10_kept 155 M_X10_isKeptOne 10 1 := ⟨⟨mo_X10_isKeptOne, by decide +kernel⟩, by decide +kernel, rfl, ml_X10_155, gn_X10_isKeptOne, ge_X10_isKeptOne⟩
theorem lk_X10_why_135 : LV M_X10_why 135 M_X10_isMixture 10 1 := ⟨⟨mo_X10_isMixture, by decide +kernel⟩, by decide +kernel, rfl, ml_X10_135, gn_X10_isMixture, ge_X10_isMixture⟩
theorem lk_X10_why_94 : LS2 M_X10_why 94 M_X10_isIn 3 := ⟨⟨mo_X10_isIn, by decide +kernel⟩, gs_X10_isIn, Or.inl ml_X10_94⟩
theorem lk_X10_why_155 : LV M_X10_why 155 M_X10_isKeptOne 10 1 := ⟨⟨mo_X10_isKeptOne, by decide +kernel⟩, by decide +kernel, rfl, ml_X10_155, gn_X10_isKeptOne, ge_X10_isKeptOne⟩
theorem lk_X10_why_151 : LV M_X10_why 151 M_X10_breaks 10 2 := ⟨⟨mo_X10_breaks, by decide +kernel⟩, by decide +kernel, rfl, ml_X10_151, gn_X10_breaks, ge_X10_breaks⟩
theorem fp_X10_changed_158 : FP M_X10_changed 158 10 21 := ⟨by decide +kernel, by decide +kernel, fw_X10_158, Or.inl rfl⟩
theorem fp_X10_changed_162 : FP M_X10_changed 162 10 24 := ⟨by decide +kernel, by decide +kernel, fw_X10_162, Or.inl rfl⟩
theorem fp_X10_changed_165 : FP M_X10_changed 165 10 28 := ⟨by decide +kernel, by decide +kernel, fw_X10_165, Or.inl rfl⟩
theorem fp_X10_learn_158 : FP M_X10_learn 158 10 21 := ⟨by decide +kernel, by decide +kernel, fw_X10_158, Or.inl rfl⟩
theorem lk_X10_learn_131 : LV M_X10_learn 131 M_X10_all 10 0 := ⟨⟨mo_X10_all, by decide +kernel⟩, by decide +kernel, rfl, ml_X10_131, gn_X10_all, ge_X10_all⟩
theorem lk_X10_learn_168 : LV M_X10_learn 168 M_X10_why 10 2 := ⟨⟨mo_X10_why, by decide +kernel⟩, by decide +kernel, rfl, ml_X10_168, gn_X10_why, ge_X10_why⟩
theorem lk_X10_unlike_112 : LV M_X10_unlike 112 M_X10_ruleAt 10 3 := ⟨⟨mo_X10_ruleAt, by decide +kernel⟩, by decide +kernel, rfl, ml_X10_112, gn_X10_ruleAt, ge_X10_ruleAt⟩
theorem lk_X10_classMany_171 : LV M_X10_classMany 171 M_X10_areAlike 10 2 := ⟨⟨mo_X10_areAlike, by decide +kernel⟩, by decide +kernel, rfl, ml_X10_171, gn_X10_areAlike, ge_X10_areAlike⟩
theorem lk_X10_areAlike_116 : LS2 M_X10_areAlike 116 M_X10_isOfSpan 3 := ⟨⟨mo_X10_isOfSpan, by decide +kernel⟩, gs_X10_isOfSpan, Or.inl ml_X10_116⟩
theorem lk_X10_ofClass_94 : LS2 M_X10_ofClass 94 M_X10_isIn 3 := ⟨⟨mo_X10_isIn, by decide +kernel⟩, gs_X10_isIn, Or.inl ml_X10_94⟩
theorem lk_X10_ofClass_174 : LV M_X10_ofClass 174 M_X10_classMany 10 0 := ⟨⟨mo_X10_classMany, by decide +kernel⟩, by decide +kernel, rfl, ml_X10_174, gn_X10_classMany, ge_X10_classMany⟩
theorem lk_X10_look_177 : LV M_X10_look 177 M_X10_unlike 10 0 := ⟨⟨mo_X10_unlike, by decide +kernel⟩, by decide +kernel, rfl, ml_X10_177, gn_X10_unlike, ge_X10_unlike⟩
theorem lk_X10_look_174 : LV M_X10_look 174 M_X10_classMany 10 0 := ⟨⟨mo_X10_classMany, by decide +kernel⟩, by decide +kernel, rfl, ml_X10_174, gn_X10_classMany, ge_X10_classMany⟩
theorem lk_X10_look_180 : LV M_X10_look 180 M_X10_learn 10 0 := ⟨⟨mo_X10_learn, by decide +kernel⟩, by decide +kernel, rfl, ml_X10_180, gn_X10_learn, ge_X10_learn⟩
theorem lk_X10_look_131 : LV M_X10_look 131 M_X10_all 10 0 := ⟨⟨mo_X10_all, by decide +kernel⟩, by decide +kernel, rfl, ml_X10_131, gn_X10_all, ge_X10_all⟩
theorem lk_X10_look_183 : LV M_X10_look 183 M_X10_planned 10 1 := ⟨⟨mo_X10_planned, by decide +kernel⟩, by decide +kernel, rfl, ml_X10_183, gn_X10_planned, ge_X10_planned⟩
theorem lk_X10_against_180 : LV M_X10_against 180 M_X10_learn 10 0 := ⟨⟨mo_X10_learn, by decide +kernel⟩, by decide +kernel, rfl, ml_X10_180, gn_X10_learn, ge_X10_learn⟩
theorem lk_X10_against_131 : LV M_X10_against 131 M_X10_all 10 0 := ⟨⟨mo_X10_all, by decide +kernel⟩, by decide +kernel, rfl, ml_X10_131, gn_X10_all, ge_X10_all⟩
theorem lk_X10_fewest_131 : LV M_X10_fewest 131 M_X10_all 10 0 := ⟨⟨mo_X10_all, by decide +kernel⟩, by decide +kernel, rfl, ml_X10_131, gn_X10_all, ge_X10_all⟩
theorem lk_X10_fewest_187 : LV M_X10_fewest 187 M_X10_against 10 2 := ⟨⟨mo_X10_against, by decide +kernel⟩, by decide +kernel, rfl, ml_X10_187, gn_X10_against, ge_X10_against⟩
theorem lk_X10_least_177 : LV M_X10_least 177 M_X10_unlike 10 0 := ⟨⟨mo_X10_unlike, by decide +kernel⟩, by decide +kernel, rfl, ml_X10_177, gn_X10_unlike, ge_X10_unlike⟩
theorem lk_X10_least_190 : LV M_X10_least 190 M_X10_fewest 10 1 := ⟨⟨mo_X10_fewest, by decide +kernel⟩, by decide +kernel, rfl, ml_X10_190, gn_X10_fewest, ge_X10_fewest⟩
theorem fp_X10_least_165 : FP M_X10_least 165 10 28 := ⟨by decide +kernel, by decide +kernel, fw_X10_165, Or.inl rfl⟩
theorem fp_X10_least_162 : FP M_X10_least 162 10 24 := ⟨by decide +kernel, by decide +kernel, fw_X10_162, Or.inl rfl⟩
theorem lk_X10_least_187 : LV M_X10_least 187 M_X10_against 10 2 := ⟨⟨mo_X10_against, by decide +kernel⟩, by decide +kernel, rfl, ml_X10_187, gn_X10_against, ge_X10_against⟩
theorem lk_X10_ways_180 : LV M_X10_ways 180 M_X10_learn 10 0 := ⟨⟨mo_X10_learn, by decide +kernel⟩, by decide +kernel, rfl, ml_X10_180, gn_X10_learn, ge_X10_learn⟩
theorem lk_X10_ways_131 : LV M_X10_ways 131 M_X10_all 10 0 := ⟨⟨mo_X10_all, by decide +kernel⟩, by decide +kernel, rfl, ml_X10_131, gn_X10_all, ge_X10_all⟩
theorem lk_X10_orders_177 : LV M_X10_orders 177 M_X10_unlike 10 0 := ⟨⟨mo_X10_unlike, by decide +kernel⟩, by decide +kernel, rfl, ml_X10_177, gn_X10_unlike, ge_X10_unlike⟩
theorem lk_X10_orders_192 : LV M_X10_orders 192 M_X10_ways 10 1 := ⟨⟨mo_X10_ways, by decide +kernel⟩, by decide +kernel, rfl, ml_X10_192, gn_X10_ways, ge_X10_ways⟩
theorem lk_X10_order_177 : LV M_X10_order 177 M_X10_unlike 10 0 := ⟨⟨mo_X10_unlike, by decide +kernel⟩, by decide +kernel, rfl, ml_X10_177, gn_X10_unlike, ge_X10_unlike⟩
theorem lk_X10_order_192 : LV M_X10_order 192 M_X10_ways 10 1 := ⟨⟨mo_X10_ways, by decide +kernel⟩, by decide +kernel, rfl, ml_X10_192, gn_X10_ways, ge_X10_ways⟩
theorem lk_X10_order_94 : LS2 M_X10_order 94 M_X10_isIn 3 := ⟨⟨mo_X10_isIn, by decide +kernel⟩, gs_X10_isIn, Or.inl ml_X10_94⟩
theorem fp_X10_order_165 : FP M_X10_order 165 10 28 := ⟨by decide +kernel, by decide +kernel, fw_X10_165, Or.inl rfl⟩
theorem fp_X10_order_162 : FP M_X10_order 162 10 24 := ⟨by decide +kernel, by decide +kernel, fw_X10_162, Or.inl rfl⟩
theorem lk_X10_round_177 : LV M_X10_round 177 M_X10_unlike 10 0 := ⟨⟨mo_X10_unlike, by decide +kernel⟩, by decide +kernel, rfl, ml_X10_177, gn_X10_unlike, ge_X10_unlike⟩
theorem lk_X10_round_183 : LV M_X10_round 183 M_X10_planned 10 1 := ⟨⟨mo_X10_planned, by decide +kernel⟩, by decide +kernel, rfl, ml_X10_183, gn_X10_planned, ge_X10_planned⟩
theorem fp_X10_round_165 : FP M_X10_round 165 10 28 := ⟨by decide +kernel, by decide +kernel, fw_X10_165, Or.inl rfl⟩
theorem fp_X10_round_162 : FP M_X10_round 162 10 24 := ⟨by decide +kernel, by decide +kernel, fw_X10_162, Or.inl rfl⟩
theorem fp_X10_empty_162 : FP M_X10_empty 162 10 24 := ⟨by decide +kernel, by decide +kernel, fw_X10_162, Or.inl rfl⟩
theorem fp_X10_empty_165 : FP M_X10_empty 165 10 28 := ⟨by decide +kernel, by decide +kernel, fw_X10_165, Or.inl rfl⟩
theorem lk_X10_plan_94 : LS2 M_X10_plan 94 M_X10_isIn 3 := ⟨⟨mo_X10_isIn, by decide +kernel⟩, gs_X10_isIn, Or.inl ml_X10_94⟩
theorem lk_X10_mid_94 : LS2 M_X10_mid 94 M_X10_isIn 3 := ⟨⟨mo_X10_isIn, by decide +kernel⟩, gs_X10_isIn, Or.inl ml_X10_94⟩
theorem lk_X10_mid_183 : LV M_X10_mid 183 M_X10_planned 10 1 := ⟨⟨mo_X10_planned, by decide +kernel⟩, by decide +kernel, rfl, ml_X10_183, gn_X10_planned, ge_X10_planned⟩
theorem lk_X10_mid_187 : LV M_X10_mid 187 M_X10_against 10 2 := ⟨⟨mo_X10_against, by decide +kernel⟩, by decide +kernel, rfl, ml_X10_187, gn_X10_against, ge_X10_against⟩
theorem fp_X10_begin_165 : FP M_X10_begin 165 10 28 := ⟨by decide +kernel, by decide +kernel, fw_X10_165, Or.inl rfl⟩
theorem fp_X10_begin_194 : FP M_X10_begin 194 10 29 := ⟨by decide +kernel, by decide +kernel, fw_X10_194, Or.inl rfl⟩
theorem fp_X10_begin_197 : FP M_X10_begin 197 10 30 := ⟨by decide +kernel, by decide +kernel, fw_X10_197, Or.inl rfl⟩
theorem fp_X10_begin_200 : FP M_X10_begin 200 10 31 := ⟨by decide +kernel, by decide +kernel, fw_X10_200, Or.inl rfl⟩
theorem fp_X10_begin_203 : FP M_X10_begin 203 10 32 := ⟨by decide +kernel, by decide +kernel, fw_X10_203, Or.inl rfl⟩
theorem lk_X10_send_94 : LS2 M_X10_send 94 M_X10_isIn 3 := ⟨⟨mo_X10_isIn, by decide +kernel⟩, gs_X10_isIn, Or.inl ml_X10_94⟩
theorem fp_X10_send_200 : FP M_X10_send 200 10 31 := ⟨by decide +kernel, by decide +kernel, fw_X10_200, Or.inl rfl⟩
theorem lk_X10_isPacket_94 : LS2 M_X10_isPacket 94 M_X10_isIn 3 := ⟨⟨mo_X10_isIn, by decide +kernel⟩, gs_X10_isIn, Or.inl ml_X10_94⟩
theorem lk_X10_hop_206 : LV M_X10_hop 206 M_X10_isPacket 10 1 := ⟨⟨mo_X10_isPacket, by decide +kernel⟩, by decide +kernel, rfl, ml_X10_206, gn_X10_isPacket, ge_X10_isPacket⟩
theorem lk_X10_hop_128 : LV M_X10_hop 128 M_X10_goes 10 3 := ⟨⟨mo_X10_goes, by decide +kernel⟩, by decide +kernel, rfl, ml_X10_128, gn_X10_goes, ge_X10_goes⟩
theorem lk_X10_hop_116 : LS2 M_X10_hop 116 M_X10_isOfSpan 3 := ⟨⟨mo_X10_isOfSpan, by decide +kernel⟩, gs_X10_isOfSpan, Or.inl ml_X10_116⟩
theorem lk_X10_hop_155 : LV M_X10_hop 155 M_X10_isKeptOne 10 1 := ⟨⟨mo_X10_isKeptOne, by decide +kernel⟩, by decide +kernel, rfl, ml_X10_155, gn_X10_isKeptOne, ge_X10_isKeptOne⟩
theorem fp_X10_hop_122 : FP M_X10_hop 122 10 13 := ⟨by decide +kernel, by decide +kernel, fw_X10_122, Or.inl rfl⟩
theorem fp_X10_hop_125 : FP M_X10_hop 125 10 14 := ⟨by decide +kernel, by decide +kernel, fw_X10_125, Or.inl rfl⟩
theorem lk_X10_hop_148 : LV M_X10_hop 148 M_X10_isKept 10 2 := ⟨⟨mo_X10_isKept, by decide +kernel⟩, by decide +kernel, rfl, ml_X10_148, gn_X10_isKept, ge_X10_isKept⟩
theorem fp_X10_hop_203 : FP M_X10_hop 203 10 32 := ⟨by decide +kernel, by decide +kernel, fw_X10_203, Or.inl rfl⟩
theorem lk_X10_change_94 : LS2 M_X10_change 94 M_X10_isIn 3 := ⟨⟨mo_X10_isIn, by decide +kernel⟩, gs_X10_isIn, Or.inl ml_X10_94⟩
theorem lk_X10_change_209 : LV M_X10_change 209 M_X10_left 10 0 := ⟨⟨mo_X10_left, by decide +kernel⟩, by decide +kernel, rfl, ml_X10_209, gn_X10_left, ge_X10_left⟩
theorem fp_X10_change_197 : FP M_X10_change 197 10 30 := ⟨by decide +kernel, by decide +kernel, fw_X10_197, Or.inl rfl⟩
theorem lk_X10_next_209 : LV M_X10_next 209 M_X10_left 10 0 := ⟨⟨mo_X10_left, by decide +kernel⟩, by decide +kernel, rfl, ml_X10_209, gn_X10_left, ge_X10_left⟩
theorem lk_X10_next_212 : LV M_X10_next 212 M_X10_underWay 10 0 := ⟨⟨mo_X10_underWay, by decide +kernel⟩, by decide +kernel, rfl, ml_X10_212, gn_X10_underWay, ge_X10_underWay⟩
theorem fp_X10_next_194 : FP M_X10_next 194 10 29 := ⟨by decide +kernel, by decide +kernel, fw_X10_194, Or.inl rfl⟩
theorem lk_X10_run_212 : LV M_X10_run 212 M_X10_underWay 10 0 := ⟨⟨mo_X10_underWay, by decide +kernel⟩, by decide +kernel, rfl, ml_X10_212, gn_X10_underWay, ge_X10_underWay⟩
theorem lk_X10_packet_206 : LV M_X10_packet 206 M_X10_isPacket 10 1 := ⟨⟨mo_X10_isPacket, by decide +kernel⟩, by decide +kernel, rfl, ml_X10_206, gn_X10_isPacket, ge_X10_isPacket⟩
theorem lk_X10_packet_94 : LS2 M_X10_packet 94 M_X10_isIn 3 := ⟨⟨mo_X10_isIn, by decide +kernel⟩, gs_X10_isIn, Or.inl ml_X10_94⟩
theorem lk_L_law_9 : LI M_L_law 9 M_X9_init 0 := ⟨⟨mo_X9_init, by decide +kernel⟩, rfl, rfl, gn_X9_init, Or.inl ml_L_9⟩
theorem lk_L_law_12 : LI M_L_law 12 M_X10_init 0 := ⟨⟨mo_X10_init, by decide +kernel⟩, rfl, rfl, gn_X10_init, Or.inl ml_L_12⟩
theorem lk_L_law_13 : LV M_L_law 13 M_X9_net 9 1 := ⟨⟨mo_X9_net, by decide +kernel⟩, by decide +kernel, rfl, ml_L_13, gn_X9_net, ge_X9_net⟩
theorem lk_L_law_17 : LV M_L_law 17 M_X10_net 10 1 := ⟨⟨mo_X10_net, by decide +kernel⟩, by decide +kernel, rfl, ml_L_17, gn_X10_net, ge_X10_net⟩
theorem lk_L_law_18 : LV M_L_law 18 M_X9_link 9 4 := ⟨⟨mo_X9_link, by decide +kernel⟩, by decide +kernel, rfl, ml_L_18, gn_X9_link, ge_X9_link⟩
theorem lk_L_law_22 : LV M_L_law 22 M_X10_link 10 4 := ⟨⟨mo_X10_link, by decide +kernel⟩, by decide +kernel, rfl, ml_L_22, gn_X10_link, ge_X10_link⟩
theorem lk_L_law_23 : LV M_L_law 23 M_X9_host 9 2 := ⟨⟨mo_X9_host, by decide +kernel⟩, by decide +kernel, rfl, ml_L_23, gn_X9_host, ge_X9_host⟩
theorem lk_L_law_27 : LV M_L_law 27 M_X10_host 10 2 := ⟨⟨mo_X10_host, by decide +kernel⟩, by decide +kernel, rfl, ml_L_27, gn_X10_host, ge_X10_host⟩
theorem lk_L_law_28 : LV M_L_law 28 M_X9_unplug 9 2 := ⟨⟨mo_X9_unplug, by decide +kernel⟩, by decide +kernel, rfl, ml_L_28, gn_X9_unplug, ge_X9_unplug⟩
theorem lk_L_law_32 : LV M_L_law 32 M_X10_unplug 10 2 := ⟨⟨mo_X10_unplug, by decide +kernel⟩, by decide +kernel, rfl, ml_L_32, gn_X10_unplug, ge_X10_unplug⟩
theorem lk_L_law_33 : LV M_L_law 33 M_X9_rule 9 6 := ⟨⟨mo_X9_rule, by decide +kernel⟩, by decide +kernel, rfl, ml_L_33, gn_X9_rule, ge_X9_rule⟩
theorem lk_L_law_37 : LV M_L_law 37 M_X10_rule 10 6 := ⟨⟨mo_X10_rule, by decide +kernel⟩, by decide +kernel, rfl, ml_L_37, gn_X10_rule, ge_X10_rule⟩
theorem lk_L_law_38 : LV M_L_law 38 M_X9_strike 9 3 := ⟨⟨mo_X9_strike, by decide +kernel⟩, by decide +kernel, rfl, ml_L_38, gn_X9_strike, ge_X9_strike⟩
theorem lk_L_law_42 : LV M_L_law 42 M_X10_strike 10 3 := ⟨⟨mo_X10_strike, by decide +kernel⟩, by decide +kernel, rfl, ml_L_42, gn_X10_strike, ge_X10_strike⟩
theorem lk_L_law_43 : LV M_L_law 43 M_X9_copy 9 2 := ⟨⟨mo_X9_copy, by decide +kernel⟩, by decide +kernel, rfl, ml_L_43, gn_X9_copy, ge_X9_copy⟩
theorem lk_L_law_47 : LV M_L_law 47 M_X10_copy 10 2 := ⟨⟨mo_X10_copy, by decide +kernel⟩, by decide +kernel, rfl, ml_L_47, gn_X10_copy, ge_X10_copy⟩
theorem lk_L_law_48 : LV M_L_law 48 M_X9_want 9 6 := ⟨⟨mo_X9_want, by decide +kernel⟩, by decide +kernel, rfl, ml_L_48, gn_X9_want, ge_X9_want⟩
theorem lk_L_law_51 : LV M_L_law 51 M_X10_want 10 6 := ⟨⟨mo_X10_want, by decide +kernel⟩, by decide +kernel, rfl, ml_L_51, gn_X10_want, ge_X10_want⟩
theorem lk_L_law_52 : LV M_L_law 52 M_X9_unwant 9 1 := ⟨⟨mo_X9_unwant, by decide +kernel⟩, by decide +kernel, rfl, ml_L_52, gn_X9_unwant, ge_X9_unwant⟩
theorem lk_L_law_56 : LV M_L_law 56 M_X10_unwant 10 1 := ⟨⟨mo_X10_unwant, by decide +kernel⟩, by decide +kernel, rfl, ml_L_56, gn_X10_unwant, ge_X10_unwant⟩
theorem lk_L_law_57 : LV M_L_law 57 M_X9_look 9 1 := ⟨⟨mo_X9_look, by decide +kernel⟩, by decide +kernel, rfl, ml_L_57, gn_X9_look, ge_X9_look⟩
theorem lk_L_law_60 : LV M_L_law 60 M_X10_look 10 1 := ⟨⟨mo_X10_look, by decide +kernel⟩, by decide +kernel, rfl, ml_L_60, gn_X10_look, ge_X10_look⟩
theorem lk_L_law_61 : LV M_L_law 61 M_X9_ofClass 9 1 := ⟨⟨mo_X9_ofClass, by decide +kernel⟩, by decide +kernel, rfl, ml_L_61, gn_X9_ofClass, ge_X9_ofClass⟩
theorem lk_L_law_64 : LV M_L_law 64 M_X10_ofClass 10 1 := ⟨⟨mo_X10_ofClass, by decide +kernel⟩, by decide +kernel, rfl, ml_L_64, gn_X10_ofClass, ge_X10_ofClass⟩
theorem lk_L_law_65 : LV M_L_law 65 M_X9_way 9 3 := ⟨⟨mo_X9_way, by decide +kernel⟩, by decide +kernel, rfl, ml_L_65, gn_X9_way, ge_X9_way⟩
theorem lk_L_law_68 : LV M_L_law 68 M_X10_way 10 3 := ⟨⟨mo_X10_way, by decide +kernel⟩, by decide +kernel, rfl, ml_L_68, gn_X10_way, ge_X10_way⟩
theorem lk_L_law_69 : LV M_L_law 69 M_X9_on 9 1 := ⟨⟨mo_X9_on, by decide +kernel⟩, by decide +kernel, rfl, ml_L_69, gn_X9_on, ge_X9_on⟩
theorem lk_L_law_72 : LV M_L_law 72 M_X10_on 10 1 := ⟨⟨mo_X10_on, by decide +kernel⟩, by decide +kernel, rfl, ml_L_72, gn_X10_on, ge_X10_on⟩
theorem lk_L_law_73 : LV M_L_law 73 M_X9_holds 9 2 := ⟨⟨mo_X9_holds, by decide +kernel⟩, by decide +kernel, rfl, ml_L_73, gn_X9_holds, ge_X9_holds⟩
theorem lk_L_law_76 : LV M_L_law 76 M_X10_holds 10 2 := ⟨⟨mo_X10_holds, by decide +kernel⟩, by decide +kernel, rfl, ml_L_76, gn_X10_holds, ge_X10_holds⟩
theorem lk_L_law_77 : LV M_L_law 77 M_X9_kept 9 1 := ⟨⟨mo_X9_kept, by decide +kernel⟩, by decide +kernel, rfl, ml_L_77, gn_X9_kept, ge_X9_kept⟩
theorem lk_L_law_80 : LV M_L_law 80 M_X10_kept 10 1 := ⟨⟨mo_X10_kept, by decide +kernel⟩, by decide +kernel, rfl, ml_L_80, gn_X10_kept, ge_X10_kept⟩
theorem lk_L_law_81 : LV M_L_law 81 M_X9_why 9 2 := ⟨⟨mo_X9_why, by decide +kernel⟩, by decide +kernel, rfl, ml_L_81, gn_X9_why, ge_X9_why⟩
theorem lk_L_law_84 : LV M_L_law 84 M_X10_why 10 2 := ⟨⟨mo_X10_why, by decide +kernel⟩, by decide +kernel, rfl, ml_L_84, gn_X10_why, ge_X10_why⟩
theorem lk_L_law_85 : LV M_L_law 85 M_X9_least 9 0 := ⟨⟨mo_X9_least, by decide +kernel⟩, by decide +kernel, rfl, ml_L_85, gn_X9_least, ge_X9_least⟩
theorem lk_L_law_89 : LV M_L_law 89 M_X10_least 10 0 := ⟨⟨mo_X10_least, by decide +kernel⟩, by decide +kernel, rfl, ml_L_89, gn_X10_least, ge_X10_least⟩
theorem lk_L_law_90 : LV M_L_law 90 M_X9_orders 9 0 := ⟨⟨mo_X9_orders, by decide +kernel⟩, by decide +kernel, rfl, ml_L_90, gn_X9_orders, ge_X9_orders⟩
theorem lk_L_law_93 : LV M_L_law 93 M_X10_orders 10 0 := ⟨⟨mo_X10_orders, by decide +kernel⟩, by decide +kernel, rfl, ml_L_93, gn_X10_orders, ge_X10_orders⟩
theorem lk_L_law_94 : LV M_L_law 94 M_X9_order 9 1 := ⟨⟨mo_X9_order, by decide +kernel⟩, by decide +kernel, rfl, ml_L_94, gn_X9_order, ge_X9_order⟩
theorem lk_L_law_97 : LV M_L_law 97 M_X10_order 10 1 := ⟨⟨mo_X10_order, by decide +kernel⟩, by decide +kernel, rfl, ml_L_97, gn_X10_order, ge_X10_order⟩
theorem lk_L_law_98 : LV M_L_law 98 M_X9_round 9 1 := ⟨⟨mo_X9_round, by decide +kernel⟩, by decide +kernel, rfl, ml_L_98, gn_X9_round, ge_X9_round⟩
theorem lk_L_law_101 : LV M_L_law 101 M_X10_round 10 1 := ⟨⟨mo_X10_round, by decide +kernel⟩, by decide +kernel, rfl, ml_L_101, gn_X10_round, ge_X10_round⟩
theorem lk_L_law_102 : LV M_L_law 102 M_X9_empty 9 0 := ⟨⟨mo_X9_empty, by decide +kernel⟩, by decide +kernel, rfl, ml_L_102, gn_X9_empty, ge_X9_empty⟩
theorem lk_L_law_105 : LV M_L_law 105 M_X10_empty 10 0 := ⟨⟨mo_X10_empty, by decide +kernel⟩, by decide +kernel, rfl, ml_L_105, gn_X10_empty, ge_X10_empty⟩
theorem lk_L_law_106 : LV M_L_law 106 M_X9_plan 9 1 := ⟨⟨mo_X9_plan, by decide +kernel⟩, by decide +kernel, rfl, ml_L_106, gn_X9_plan, ge_X9_plan⟩
theorem lk_L_law_109 : LV M_L_law 109 M_X10_plan 10 1 := ⟨⟨mo_X10_plan, by decide +kernel⟩, by decide +kernel, rfl, ml_L_109, gn_X10_plan, ge_X10_plan⟩
theorem lk_L_law_110 : LV M_L_law 110 M_X9_mid 9 1 := ⟨⟨mo_X9_mid, by decide +kernel⟩, by decide +kernel, rfl, ml_L_110, gn_X9_mid, ge_X9_mid⟩
theorem lk_L_law_113 : LV M_L_law 113 M_X10_mid 10 1 := ⟨⟨mo_X10_mid, by decide +kernel⟩, by decide +kernel, rfl, ml_L_113, gn_X10_mid, ge_X10_mid⟩
theorem lk_L_law_114 : LV M_L_law 114 M_X9_begin 9 0 := ⟨⟨mo_X9_begin, by decide +kernel⟩, by decide +kernel, rfl, ml_L_114, gn_X9_begin, ge_X9_begin⟩
theorem lk_L_law_118 : LV M_L_law 118 M_X10_begin 10 0 := ⟨⟨mo_X10_begin, by decide +kernel⟩, by decide +kernel, rfl, ml_L_118, gn_X10_begin, ge_X10_begin⟩
theorem lk_L_law_119 : LV M_L_law 119 M_X9_send 9 2 := ⟨⟨mo_X9_send, by decide +kernel⟩, by decide +kernel, rfl, ml_L_119, gn_X9_send, ge_X9_send⟩
theorem lk_L_law_122 : LV M_L_law 122 M_X10_send 10 2 := ⟨⟨mo_X10_send, by decide +kernel⟩, by decide +kernel, rfl, ml_L_122, gn_X10_send, ge_X10_send⟩
theorem lk_L_law_123 : LV M_L_law 123 M_X9_hop 9 1 := ⟨⟨mo_X9_hop, by decide +kernel⟩, by decide +kernel, rfl, ml_L_123, gn_X9_hop, ge_X9_hop⟩
theorem lk_L_law_126 : LV M_L_law 126 M_X10_hop 10 1 := ⟨⟨mo_X10_hop, by decide +kernel⟩, by decide +kernel, rfl, ml_L_126, gn_X10_hop, ge_X10_hop⟩
theorem lk_L_law_127 : LV M_L_law 127 M_X9_change 9 1 := ⟨⟨mo_X9_change, by decide +kernel⟩, by decide +kernel, rfl, ml_L_127, gn_X9_change, ge_X9_change⟩
theorem lk_L_law_130 : LV M_L_law 130 M_X10_change 10 1 := ⟨⟨mo_X10_change, by decide +kernel⟩, by decide +kernel, rfl, ml_L_130, gn_X10_change, ge_X10_change⟩
theorem lk_L_law_131 : LV M_L_law 131 M_X9_next 9 0 := ⟨⟨mo_X9_next, by decide +kernel⟩, by decide +kernel, rfl, ml_L_131, gn_X9_next, ge_X9_next⟩
theorem lk_L_law_134 : LV M_L_law 134 M_X10_next 10 0 := ⟨⟨mo_X10_next, by decide +kernel⟩, by decide +kernel, rfl, ml_L_134, gn_X10_next, ge_X10_next⟩
theorem lk_L_law_135 : LV M_L_law 135 M_X9_run 9 1 := ⟨⟨mo_X9_run, by decide +kernel⟩, by decide +kernel, rfl, ml_L_135, gn_X9_run, ge_X9_run⟩
theorem lk_L_law_138 : LV M_L_law 138 M_X10_run 10 1 := ⟨⟨mo_X10_run, by decide +kernel⟩, by decide +kernel, rfl, ml_L_138, gn_X10_run, ge_X10_run⟩
theorem lk_L_law_139 : LV M_L_law 139 M_X9_packet 9 2 := ⟨⟨mo_X9_packet, by decide +kernel⟩, by decide +kernel, rfl, ml_L_139, gn_X9_packet, ge_X9_packet⟩
theorem lk_L_law_142 : LV M_L_law 142 M_X10_packet 10 2 := ⟨⟨mo_X10_packet, by decide +kernel⟩, by decide +kernel, rfl, ml_L_142, gn_X10_packet, ge_X10_packet⟩
theorem lt_b_6 : (Int8.ofInt 6).toInt32 = (6 : Int32) := by decide
theorem lt_b_7 : (Int8.ofInt 7).toInt32 = (7 : Int32) := by decide
theorem lt_b_8 : (Int8.ofInt 8).toInt32 = (8 : Int32) := by decide
theorem lt_b_9 : (Int8.ofInt 9).toInt32 = (9 : Int32) := by decide
theorem lt_b_10 : (Int8.ofInt 10).toInt32 = (10 : Int32) := by decide
theorem lt_b_12 : (Int8.ofInt 12).toInt32 = (12 : Int32) := by decide
theorem lt_b_14 : (Int8.ofInt 14).toInt32 = (14 : Int32) := by decide
theorem lt_b_15 : (Int8.ofInt 15).toInt32 = (15 : Int32) := by decide
theorem lt_b_16 : (Int8.ofInt 16).toInt32 = (16 : Int32) := by decide
theorem lt_b_24 : (Int8.ofInt 24).toInt32 = (24 : Int32) := by decide
theorem lt_b_28 : (Int8.ofInt 28).toInt32 = (28 : Int32) := by decide
theorem lt_b_31 : (Int8.ofInt 31).toInt32 = (31 : Int32) := by decide
theorem lt_b_40 : (Int8.ofInt 40).toInt32 = (40 : Int32) := by decide
theorem lt_b_60 : (Int8.ofInt 60).toInt32 = (60 : Int32) := by decide
theorem lt_b_63 : (Int8.ofInt 63).toInt32 = (63 : Int32) := by decide
theorem lt_b_99 : (Int8.ofInt 99).toInt32 = (99 : Int32) := by decide
theorem lt_b_100 : (Int8.ofInt 100).toInt32 = (100 : Int32) := by decide
theorem lt_b_110 : (Int8.ofInt 110).toInt32 = (110 : Int32) := by decide
theorem lt_b_111 : (Int8.ofInt 111).toInt32 = (111 : Int32) := by decide
theorem lt_b_112 : (Int8.ofInt 112).toInt32 = (112 : Int32) := by decide
theorem lt_i_m1 : Int32.ofInt (-1) = (-1 : Int32) := by decide
theorem lt_i_0 : Int32.ofInt 0 = (0 : Int32) := by decide
theorem lt_i_1 : Int32.ofInt 1 = (1 : Int32) := by decide
theorem lt_i_2 : Int32.ofInt 2 = (2 : Int32) := by decide
theorem lt_i_3 : Int32.ofInt 3 = (3 : Int32) := by decide
theorem lt_i_4 : Int32.ofInt 4 = (4 : Int32) := by decide
theorem lt_i_5 : Int32.ofInt 5 = (5 : Int32) := by decide
theorem lt_s_128 : (Int16.ofInt 128).toInt32 = (128 : Int32) := by decide
theorem lt_s_320 : (Int16.ofInt 320).toInt32 = (320 : Int32) := by decide
theorem lt_s_336 : (Int16.ofInt 336).toInt32 = (336 : Int32) := by decide
theorem lt_s_1000 : (Int16.ofInt 1000).toInt32 = (1000 : Int32) := by decide
end
