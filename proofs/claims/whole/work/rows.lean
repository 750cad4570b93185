section
-- ===== PART A: goes FIRST, ahead of the names: the tables' words, and 'selects' of the private methods out of them =====
/-- a private method of a class that the tables say can be made, by its rows of tables_1 -/
def lw_okq (q : MethodName × Nat) : Prop := (q.1.cls ≠ "java/lang/invoke/MethodHandle" ∧ q.1.cls ≠ "java/lang/invoke/VarHandle") ∧ Cond.instantiable q.1.cls q.2 ∈ tables_1 ∧ Cond.privateMethod q.1 ∈ tables_1 ∧ Cond.instanceMethod q.1 ∈ tables_1
theorem lw_p0 : lw_okq (⟨"TenantCensus$Planner", "begin", "(LTenantCensus$House;)V"⟩, 7) := ⟨⟨by decide +kernel, by decide +kernel⟩, List.mem_of_getElem? (i := 136) (by decide +kernel), List.mem_of_getElem? (i := 288) (by decide +kernel), List.mem_of_getElem? (i := 289) (by decide +kernel)⟩
theorem lw_p1 : lw_okq (⟨"TenantCensus$Planner", "refusedAfterAsking", "(LTenantCensus$House;I)I"⟩, 7) := ⟨⟨by decide +kernel, by decide +kernel⟩, List.mem_of_getElem? (i := 136) (by decide +kernel), List.mem_of_getElem? (i := 307) (by decide +kernel), List.mem_of_getElem? (i := 308) (by decide +kernel)⟩
theorem lw_p2 : lw_okq (⟨"TenantCensus$Spreader", "measure", "(LTenantCensus$House;)V"⟩, 3) := ⟨⟨by decide +kernel, by decide +kernel⟩, List.mem_of_getElem? (i := 166) (by decide +kernel), List.mem_of_getElem? (i := 355) (by decide +kernel), List.mem_of_getElem? (i := 356) (by decide +kernel)⟩
theorem lw_p3 : lw_okq (⟨"TenantCensus$Spreader", "weighSets", "(LTenantCensus$House;)V"⟩, 3) := ⟨⟨by decide +kernel, by decide +kernel⟩, List.mem_of_getElem? (i := 166) (by decide +kernel), List.mem_of_getElem? (i := 374) (by decide +kernel), List.mem_of_getElem? (i := 375) (by decide +kernel)⟩
theorem lw_p4 : lw_okq (⟨"TenantCensus$Spreader", "improve", "(II)V"⟩, 3) := ⟨⟨by decide +kernel, by decide +kernel⟩, List.mem_of_getElem? (i := 166) (by decide +kernel), List.mem_of_getElem? (i := 382) (by decide +kernel), List.mem_of_getElem? (i := 383) (by decide +kernel)⟩
theorem lw_p5 : lw_okq (⟨"TenantCensus$Planner", "tryAll", "(LTenantCensus$House;)V"⟩, 7) := ⟨⟨by decide +kernel, by decide +kernel⟩, List.mem_of_getElem? (i := 136) (by decide +kernel), List.mem_of_getElem? (i := 394) (by decide +kernel), List.mem_of_getElem? (i := 395) (by decide +kernel)⟩
theorem lw_p6 : lw_okq (⟨"TenantCensus$Planner", "tryFlats", "(LTenantCensus$House;I)V"⟩, 7) := ⟨⟨by decide +kernel, by decide +kernel⟩, List.mem_of_getElem? (i := 136) (by decide +kernel), List.mem_of_getElem? (i := 398) (by decide +kernel), List.mem_of_getElem? (i := 399) (by decide +kernel)⟩
theorem lw_p7 : lw_okq (⟨"TenantCensus$Planner", "isFreeFlatWanted", "(LTenantCensus$House;)Z"⟩, 7) := ⟨⟨by decide +kernel, by decide +kernel⟩, List.mem_of_getElem? (i := 136) (by decide +kernel), List.mem_of_getElem? (i := 402) (by decide +kernel), List.mem_of_getElem? (i := 403) (by decide +kernel)⟩
theorem lw_p8 : lw_okq (⟨"TenantCensus$Planner", "wants", "(LTenantCensus$House;II)Z"⟩, 7) := ⟨⟨by decide +kernel, by decide +kernel⟩, List.mem_of_getElem? (i := 136) (by decide +kernel), List.mem_of_getElem? (i := 406) (by decide +kernel), List.mem_of_getElem? (i := 407) (by decide +kernel)⟩
theorem lw_p9 : lw_okq (⟨"TenantCensus$Planner", "rankOf", "(II)I"⟩, 7) := ⟨⟨by decide +kernel, by decide +kernel⟩, List.mem_of_getElem? (i := 136) (by decide +kernel), List.mem_of_getElem? (i := 410) (by decide +kernel), List.mem_of_getElem? (i := 411) (by decide +kernel)⟩
theorem lw_p10 : lw_okq (⟨"TenantCensus$Planner", "keepStable", "(LTenantCensus$House;)V"⟩, 7) := ⟨⟨by decide +kernel, by decide +kernel⟩, List.mem_of_getElem? (i := 136) (by decide +kernel), List.mem_of_getElem? (i := 414) (by decide +kernel), List.mem_of_getElem? (i := 415) (by decide +kernel)⟩
theorem lw_p11 : lw_okq (⟨"TenantCensus$Planner", "isBetterForAll", "(LTenantCensus$House;)Z"⟩, 7) := ⟨⟨by decide +kernel, by decide +kernel⟩, List.mem_of_getElem? (i := 136) (by decide +kernel), List.mem_of_getElem? (i := 418) (by decide +kernel), List.mem_of_getElem? (i := 419) (by decide +kernel)⟩
theorem lw_p12 : lw_okq (⟨"TenantCensus$Planner", "tryRest", "(LTenantCensus$House;II)V"⟩, 7) := ⟨⟨by decide +kernel, by decide +kernel⟩, List.mem_of_getElem? (i := 136) (by decide +kernel), List.mem_of_getElem? (i := 423) (by decide +kernel), List.mem_of_getElem? (i := 424) (by decide +kernel)⟩
theorem lw_p13 : lw_okq (⟨"TenantCensus$Planner", "clashes", "(LTenantCensus$House;I)Z"⟩, 7) := ⟨⟨by decide +kernel, by decide +kernel⟩, List.mem_of_getElem? (i := 136) (by decide +kernel), List.mem_of_getElem? (i := 427) (by decide +kernel), List.mem_of_getElem? (i := 428) (by decide +kernel)⟩
theorem lw_p14 : lw_okq (⟨"TenantCensus$House", "isTenantSound", "(I)Z"⟩, 17) := ⟨⟨by decide +kernel, by decide +kernel⟩, List.mem_of_getElem? (i := 38) (by decide +kernel), List.mem_of_getElem? (i := 474) (by decide +kernel), List.mem_of_getElem? (i := 475) (by decide +kernel)⟩
theorem lw_p15 : lw_okq (⟨"TenantCensus$House", "isHomeSound", "(I)Z"⟩, 17) := ⟨⟨by decide +kernel, by decide +kernel⟩, List.mem_of_getElem? (i := 38) (by decide +kernel), List.mem_of_getElem? (i := 478) (by decide +kernel), List.mem_of_getElem? (i := 479) (by decide +kernel)⟩
def lw_privs_1 : List (MethodName × Nat) := [(⟨"TenantCensus$Planner", "begin", "(LTenantCensus$House;)V"⟩, 7), (⟨"TenantCensus$Planner", "refusedAfterAsking", "(LTenantCensus$House;I)I"⟩, 7), (⟨"TenantCensus$Spreader", "measure", "(LTenantCensus$House;)V"⟩, 3), (⟨"TenantCensus$Spreader", "weighSets", "(LTenantCensus$House;)V"⟩, 3), (⟨"TenantCensus$Spreader", "improve", "(II)V"⟩, 3), (⟨"TenantCensus$Planner", "tryAll", "(LTenantCensus$House;)V"⟩, 7), (⟨"TenantCensus$Planner", "tryFlats", "(LTenantCensus$House;I)V"⟩, 7), (⟨"TenantCensus$Planner", "isFreeFlatWanted", "(LTenantCensus$House;)Z"⟩, 7), (⟨"TenantCensus$Planner", "wants", "(LTenantCensus$House;II)Z"⟩, 7), (⟨"TenantCensus$Planner", "rankOf", "(II)I"⟩, 7), (⟨"TenantCensus$Planner", "keepStable", "(LTenantCensus$House;)V"⟩, 7), (⟨"TenantCensus$Planner", "isBetterForAll", "(LTenantCensus$House;)Z"⟩, 7), (⟨"TenantCensus$Planner", "tryRest", "(LTenantCensus$House;II)V"⟩, 7), (⟨"TenantCensus$Planner", "clashes", "(LTenantCensus$House;I)Z"⟩, 7), (⟨"TenantCensus$House", "isTenantSound", "(I)Z"⟩, 17), (⟨"TenantCensus$House", "isHomeSound", "(I)Z"⟩, 17)]
theorem lw_r1 : ∀ q ∈ lw_privs_1, lw_okq q := List.forall_mem_cons.mpr ⟨lw_p0, List.forall_mem_cons.mpr ⟨lw_p1, List.forall_mem_cons.mpr ⟨lw_p2, List.forall_mem_cons.mpr ⟨lw_p3, List.forall_mem_cons.mpr ⟨lw_p4, List.forall_mem_cons.mpr ⟨lw_p5, List.forall_mem_cons.mpr ⟨lw_p6, List.forall_mem_cons.mpr ⟨lw_p7, List.forall_mem_cons.mpr ⟨lw_p8, List.forall_mem_cons.mpr ⟨lw_p9, List.forall_mem_cons.mpr ⟨lw_p10, List.forall_mem_cons.mpr ⟨lw_p11, List.forall_mem_cons.mpr ⟨lw_p12, List.forall_mem_cons.mpr ⟨lw_p13, List.forall_mem_cons.mpr ⟨lw_p14, List.forall_mem_cons.mpr ⟨lw_p15, fun _ h => absurd h List.not_mem_nil⟩⟩⟩⟩⟩⟩⟩⟩⟩⟩⟩⟩⟩⟩⟩⟩
theorem lw_p16 : lw_okq (⟨"java/lang/Throwable", "fillInStackTrace", "(I)Ljava/lang/Throwable;"⟩, 6) := ⟨⟨by decide +kernel, by decide +kernel⟩, List.mem_of_getElem? (i := 590) (by decide +kernel), List.mem_of_getElem? (i := 588) (by decide +kernel), List.mem_of_getElem? (i := 589) (by decide +kernel)⟩
theorem lw_p17 : lw_okq (⟨"TenantCensus$House", "candidateFor", "(II)I"⟩, 17) := ⟨⟨by decide +kernel, by decide +kernel⟩, List.mem_of_getElem? (i := 38) (by decide +kernel), List.mem_of_getElem? (i := 782) (by decide +kernel), List.mem_of_getElem? (i := 783) (by decide +kernel)⟩
theorem lw_p18 : lw_okq (⟨"TenantCensus$House", "takeTurn", "(I)V"⟩, 17) := ⟨⟨by decide +kernel, by decide +kernel⟩, List.mem_of_getElem? (i := 38) (by decide +kernel), List.mem_of_getElem? (i := 832) (by decide +kernel), List.mem_of_getElem? (i := 833) (by decide +kernel)⟩
theorem lw_p19 : lw_okq (⟨"TenantCensus", "requireFlat", "(I)V"⟩, 12) := ⟨⟨by decide +kernel, by decide +kernel⟩, List.mem_of_getElem? (i := 30) (by decide +kernel), List.mem_of_getElem? (i := 845) (by decide +kernel), List.mem_of_getElem? (i := 846) (by decide +kernel)⟩
theorem lw_p20 : lw_okq (⟨"TenantCensus", "presentSlot", "(I)I"⟩, 12) := ⟨⟨by decide +kernel, by decide +kernel⟩, List.mem_of_getElem? (i := 30) (by decide +kernel), List.mem_of_getElem? (i := 873) (by decide +kernel), List.mem_of_getElem? (i := 874) (by decide +kernel)⟩
theorem lw_p21 : lw_okq (⟨"TenantCensus", "housedSlot", "(I)I"⟩, 12) := ⟨⟨by decide +kernel, by decide +kernel⟩, List.mem_of_getElem? (i := 30) (by decide +kernel), List.mem_of_getElem? (i := 898) (by decide +kernel), List.mem_of_getElem? (i := 899) (by decide +kernel)⟩
theorem lw_p22 : lw_okq (⟨"TenantCensus", "appendFlat", "(I)V"⟩, 12) := ⟨⟨by decide +kernel, by decide +kernel⟩, List.mem_of_getElem? (i := 30) (by decide +kernel), List.mem_of_getElem? (i := 1035) (by decide +kernel), List.mem_of_getElem? (i := 1036) (by decide +kernel)⟩
theorem lw_p23 : lw_okq (⟨"TenantCensus$Parser", "readSign", "(LTenantCensus$Text;C)V"⟩, 5) := ⟨⟨by decide +kernel, by decide +kernel⟩, List.mem_of_getElem? (i := 182) (by decide +kernel), List.mem_of_getElem? (i := 1074) (by decide +kernel), List.mem_of_getElem? (i := 1075) (by decide +kernel)⟩
theorem lw_p24 : lw_okq (⟨"TenantCensus$Parser", "chooseKind", "(LTenantCensus$Text;)V"⟩, 5) := ⟨⟨by decide +kernel, by decide +kernel⟩, List.mem_of_getElem? (i := 182) (by decide +kernel), List.mem_of_getElem? (i := 1082) (by decide +kernel), List.mem_of_getElem? (i := 1083) (by decide +kernel)⟩
theorem lw_p25 : lw_okq (⟨"TenantCensus$Parser", "readPart", "(LTenantCensus$Text;C)V"⟩, 5) := ⟨⟨by decide +kernel, by decide +kernel⟩, List.mem_of_getElem? (i := 182) (by decide +kernel), List.mem_of_getElem? (i := 1136) (by decide +kernel), List.mem_of_getElem? (i := 1137) (by decide +kernel)⟩
theorem lw_p26 : lw_okq (⟨"TenantCensus$Parser", "readDigit", "(LTenantCensus$Text;)V"⟩, 5) := ⟨⟨by decide +kernel, by decide +kernel⟩, List.mem_of_getElem? (i := 182) (by decide +kernel), List.mem_of_getElem? (i := 1140) (by decide +kernel), List.mem_of_getElem? (i := 1141) (by decide +kernel)⟩
theorem lw_p27 : lw_okq (⟨"TenantCensus$Parser", "keepValue", "(I)V"⟩, 5) := ⟨⟨by decide +kernel, by decide +kernel⟩, List.mem_of_getElem? (i := 182) (by decide +kernel), List.mem_of_getElem? (i := 1148) (by decide +kernel), List.mem_of_getElem? (i := 1149) (by decide +kernel)⟩
theorem lw_p28 : lw_okq (⟨"TenantCensus$Parser", "readNumber", "(LTenantCensus$Text;)V"⟩, 5) := ⟨⟨by decide +kernel, by decide +kernel⟩, List.mem_of_getElem? (i := 182) (by decide +kernel), List.mem_of_getElem? (i := 1152) (by decide +kernel), List.mem_of_getElem? (i := 1153) (by decide +kernel)⟩
theorem lw_p29 : lw_okq (⟨"TenantCensus$Parser", "readMonths", "(LTenantCensus$Text;)V"⟩, 5) := ⟨⟨by decide +kernel, by decide +kernel⟩, List.mem_of_getElem? (i := 182) (by decide +kernel), List.mem_of_getElem? (i := 1158) (by decide +kernel), List.mem_of_getElem? (i := 1159) (by decide +kernel)⟩
theorem lw_p30 : lw_okq (⟨"TenantCensus", "isNextAllowed", "(I)Z"⟩, 12) := ⟨⟨by decide +kernel, by decide +kernel⟩, List.mem_of_getElem? (i := 30) (by decide +kernel), List.mem_of_getElem? (i := 1164) (by decide +kernel), List.mem_of_getElem? (i := 1165) (by decide +kernel)⟩
theorem lw_p31 : lw_okq (⟨"TenantCensus", "refusalOfCommand", "([I)LTenantCensus$Refusal;"⟩, 12) := ⟨⟨by decide +kernel, by decide +kernel⟩, List.mem_of_getElem? (i := 30) (by decide +kernel), List.mem_of_getElem? (i := 1169) (by decide +kernel), List.mem_of_getElem? (i := 1170) (by decide +kernel)⟩
def lw_privs_2 : List (MethodName × Nat) := [(⟨"java/lang/Throwable", "fillInStackTrace", "(I)Ljava/lang/Throwable;"⟩, 6), (⟨"TenantCensus$House", "candidateFor", "(II)I"⟩, 17), (⟨"TenantCensus$House", "takeTurn", "(I)V"⟩, 17), (⟨"TenantCensus", "requireFlat", "(I)V"⟩, 12), (⟨"TenantCensus", "presentSlot", "(I)I"⟩, 12), (⟨"TenantCensus", "housedSlot", "(I)I"⟩, 12), (⟨"TenantCensus", "appendFlat", "(I)V"⟩, 12), (⟨"TenantCensus$Parser", "readSign", "(LTenantCensus$Text;C)V"⟩, 5), (⟨"TenantCensus$Parser", "chooseKind", "(LTenantCensus$Text;)V"⟩, 5), (⟨"TenantCensus$Parser", "readPart", "(LTenantCensus$Text;C)V"⟩, 5), (⟨"TenantCensus$Parser", "readDigit", "(LTenantCensus$Text;)V"⟩, 5), (⟨"TenantCensus$Parser", "keepValue", "(I)V"⟩, 5), (⟨"TenantCensus$Parser", "readNumber", "(LTenantCensus$Text;)V"⟩, 5), (⟨"TenantCensus$Parser", "readMonths", "(LTenantCensus$Text;)V"⟩, 5), (⟨"TenantCensus", "isNextAllowed", "(I)Z"⟩, 12), (⟨"TenantCensus", "refusalOfCommand", "([I)LTenantCensus$Refusal;"⟩, 12)]
theorem lw_r2 : ∀ q ∈ lw_privs_2, lw_okq q := List.forall_mem_cons.mpr ⟨lw_p16, List.forall_mem_cons.mpr ⟨lw_p17, List.forall_mem_cons.mpr ⟨lw_p18, List.forall_mem_cons.mpr ⟨lw_p19, List.forall_mem_cons.mpr ⟨lw_p20, List.forall_mem_cons.mpr ⟨lw_p21, List.forall_mem_cons.mpr ⟨lw_p22, List.forall_mem_cons.mpr ⟨lw_p23, List.forall_mem_cons.mpr ⟨lw_p24, List.forall_mem_cons.mpr ⟨lw_p25, List.forall_mem_cons.mpr ⟨lw_p26, List.forall_mem_cons.mpr ⟨lw_p27, List.forall_mem_cons.mpr ⟨lw_p28, List.forall_mem_cons.mpr ⟨lw_p29, List.forall_mem_cons.mpr ⟨lw_p30, List.forall_mem_cons.mpr ⟨lw_p31, fun _ h => absurd h List.not_mem_nil⟩⟩⟩⟩⟩⟩⟩⟩⟩⟩⟩⟩⟩⟩⟩⟩
theorem lw_p32 : lw_okq (⟨"TenantCensus", "perform", "()V"⟩, 12) := ⟨⟨by decide +kernel, by decide +kernel⟩, List.mem_of_getElem? (i := 30) (by decide +kernel), List.mem_of_getElem? (i := 1179) (by decide +kernel), List.mem_of_getElem? (i := 1180) (by decide +kernel)⟩
theorem lw_p33 : lw_okq (⟨"TenantCensusModel", "notFlat", "(II)I"⟩, 24) := ⟨⟨by decide +kernel, by decide +kernel⟩, List.mem_of_getElem? (i := 1224) (by decide +kernel), List.mem_of_getElem? (i := 1311) (by decide +kernel), List.mem_of_getElem? (i := 1312) (by decide +kernel)⟩
theorem lw_p34 : lw_okq (⟨"TenantCensusModel", "fails", "(I)I"⟩, 24) := ⟨⟨by decide +kernel, by decide +kernel⟩, List.mem_of_getElem? (i := 1224) (by decide +kernel), List.mem_of_getElem? (i := 1318) (by decide +kernel), List.mem_of_getElem? (i := 1319) (by decide +kernel)⟩
theorem lw_p35 : lw_okq (⟨"TenantCensusModel", "remembers", "()V"⟩, 24) := ⟨⟨by decide +kernel, by decide +kernel⟩, List.mem_of_getElem? (i := 1224) (by decide +kernel), List.mem_of_getElem? (i := 1322) (by decide +kernel), List.mem_of_getElem? (i := 1323) (by decide +kernel)⟩
theorem lw_p36 : lw_okq (⟨"TenantCensusModel", "copies", "()V"⟩, 24) := ⟨⟨by decide +kernel, by decide +kernel⟩, List.mem_of_getElem? (i := 1224) (by decide +kernel), List.mem_of_getElem? (i := 1326) (by decide +kernel), List.mem_of_getElem? (i := 1327) (by decide +kernel)⟩
theorem lw_p37 : lw_okq (⟨"TenantCensusModel", "keeps", "()V"⟩, 24) := ⟨⟨by decide +kernel, by decide +kernel⟩, List.mem_of_getElem? (i := 1224) (by decide +kernel), List.mem_of_getElem? (i := 1330) (by decide +kernel), List.mem_of_getElem? (i := 1331) (by decide +kernel)⟩
theorem lw_p38 : lw_okq (⟨"TenantCensusModel", "addsFlat", "(II)I"⟩, 24) := ⟨⟨by decide +kernel, by decide +kernel⟩, List.mem_of_getElem? (i := 1224) (by decide +kernel), List.mem_of_getElem? (i := 1334) (by decide +kernel), List.mem_of_getElem? (i := 1335) (by decide +kernel)⟩
theorem lw_p39 : lw_okq (⟨"TenantCensusModel", "notTenant", "(IIII)I"⟩, 24) := ⟨⟨by decide +kernel, by decide +kernel⟩, List.mem_of_getElem? (i := 1224) (by decide +kernel), List.mem_of_getElem? (i := 1342) (by decide +kernel), List.mem_of_getElem? (i := 1343) (by decide +kernel)⟩
theorem lw_p40 : lw_okq (⟨"TenantCensusModel", "addsTenant", "(IIII)I"⟩, 24) := ⟨⟨by decide +kernel, by decide +kernel⟩, List.mem_of_getElem? (i := 1224) (by decide +kernel), List.mem_of_getElem? (i := 1346) (by decide +kernel), List.mem_of_getElem? (i := 1347) (by decide +kernel)⟩
theorem lw_p41 : lw_okq (⟨"TenantCensusModel", "puts", "(III)V"⟩, 24) := ⟨⟨by decide +kernel, by decide +kernel⟩, List.mem_of_getElem? (i := 1224) (by decide +kernel), List.mem_of_getElem? (i := 1350) (by decide +kernel), List.mem_of_getElem? (i := 1351) (by decide +kernel)⟩
theorem lw_p42 : lw_okq (⟨"TenantCensusModel", "place", "(I)I"⟩, 24) := ⟨⟨by decide +kernel, by decide +kernel⟩, List.mem_of_getElem? (i := 1224) (by decide +kernel), List.mem_of_getElem? (i := 1358) (by decide +kernel), List.mem_of_getElem? (i := 1359) (by decide +kernel)⟩
theorem lw_p43 : lw_okq (⟨"TenantCensusModel", "of", "(II)I"⟩, 24) := ⟨⟨by decide +kernel, by decide +kernel⟩, List.mem_of_getElem? (i := 1224) (by decide +kernel), List.mem_of_getElem? (i := 1362) (by decide +kernel), List.mem_of_getElem? (i := 1363) (by decide +kernel)⟩
theorem lw_p44 : lw_okq (⟨"TenantCensusModel", "notIn", "(II)I"⟩, 24) := ⟨⟨by decide +kernel, by decide +kernel⟩, List.mem_of_getElem? (i := 1224) (by decide +kernel), List.mem_of_getElem? (i := 1370) (by decide +kernel), List.mem_of_getElem? (i := 1371) (by decide +kernel)⟩
theorem lw_p45 : lw_okq (⟨"TenantCensusModel", "isFlat", "(I)Z"⟩, 24) := ⟨⟨by decide +kernel, by decide +kernel⟩, List.mem_of_getElem? (i := 1224) (by decide +kernel), List.mem_of_getElem? (i := 1374) (by decide +kernel), List.mem_of_getElem? (i := 1375) (by decide +kernel)⟩
theorem lw_p46 : lw_okq (⟨"TenantCensusModel", "occupant", "(I)I"⟩, 24) := ⟨⟨by decide +kernel, by decide +kernel⟩, List.mem_of_getElem? (i := 1224) (by decide +kernel), List.mem_of_getElem? (i := 1378) (by decide +kernel), List.mem_of_getElem? (i := 1379) (by decide +kernel)⟩
theorem lw_p47 : lw_okq (⟨"TenantCensusModel", "affords", "(II)Z"⟩, 24) := ⟨⟨by decide +kernel, by decide +kernel⟩, List.mem_of_getElem? (i := 1224) (by decide +kernel), List.mem_of_getElem? (i := 1382) (by decide +kernel), List.mem_of_getElem? (i := 1383) (by decide +kernel)⟩
def lw_privs_3 : List (MethodName × Nat) := [(⟨"TenantCensus", "perform", "()V"⟩, 12), (⟨"TenantCensusModel", "notFlat", "(II)I"⟩, 24), (⟨"TenantCensusModel", "fails", "(I)I"⟩, 24), (⟨"TenantCensusModel", "remembers", "()V"⟩, 24), (⟨"TenantCensusModel", "copies", "()V"⟩, 24), (⟨"TenantCensusModel", "keeps", "()V"⟩, 24), (⟨"TenantCensusModel", "addsFlat", "(II)I"⟩, 24), (⟨"TenantCensusModel", "notTenant", "(IIII)I"⟩, 24), (⟨"TenantCensusModel", "addsTenant", "(IIII)I"⟩, 24), (⟨"TenantCensusModel", "puts", "(III)V"⟩, 24), (⟨"TenantCensusModel", "place", "(I)I"⟩, 24), (⟨"TenantCensusModel", "of", "(II)I"⟩, 24), (⟨"TenantCensusModel", "notIn", "(II)I"⟩, 24), (⟨"TenantCensusModel", "isFlat", "(I)Z"⟩, 24), (⟨"TenantCensusModel", "occupant", "(I)I"⟩, 24), (⟨"TenantCensusModel", "affords", "(II)Z"⟩, 24)]
theorem lw_r3 : ∀ q ∈ lw_privs_3, lw_okq q := List.forall_mem_cons.mpr ⟨lw_p32, List.forall_mem_cons.mpr ⟨lw_p33, List.forall_mem_cons.mpr ⟨lw_p34, List.forall_mem_cons.mpr ⟨lw_p35, List.forall_mem_cons.mpr ⟨lw_p36, List.forall_mem_cons.mpr ⟨lw_p37, List.forall_mem_cons.mpr ⟨lw_p38, List.forall_mem_cons.mpr ⟨lw_p39, List.forall_mem_cons.mpr ⟨lw_p40, List.forall_mem_cons.mpr ⟨lw_p41, List.forall_mem_cons.mpr ⟨lw_p42, List.forall_mem_cons.mpr ⟨lw_p43, List.forall_mem_cons.mpr ⟨lw_p44, List.forall_mem_cons.mpr ⟨lw_p45, List.forall_mem_cons.mpr ⟨lw_p46, List.forall_mem_cons.mpr ⟨lw_p47, fun _ h => absurd h List.not_mem_nil⟩⟩⟩⟩⟩⟩⟩⟩⟩⟩⟩⟩⟩⟩⟩⟩
theorem lw_p48 : lw_okq (⟨"TenantCensusModel", "flat", "(II)I"⟩, 24) := ⟨⟨by decide +kernel, by decide +kernel⟩, List.mem_of_getElem? (i := 1224) (by decide +kernel), List.mem_of_getElem? (i := 1386) (by decide +kernel), List.mem_of_getElem? (i := 1387) (by decide +kernel)⟩
theorem lw_p49 : lw_okq (⟨"TenantCensusModel", "movesIn", "(II)I"⟩, 24) := ⟨⟨by decide +kernel, by decide +kernel⟩, List.mem_of_getElem? (i := 1224) (by decide +kernel), List.mem_of_getElem? (i := 1390) (by decide +kernel), List.mem_of_getElem? (i := 1391) (by decide +kernel)⟩
theorem lw_p50 : lw_okq (⟨"TenantCensusModel", "burdenOf", "(II)I"⟩, 24) := ⟨⟨by decide +kernel, by decide +kernel⟩, List.mem_of_getElem? (i := 1224) (by decide +kernel), List.mem_of_getElem? (i := 1394) (by decide +kernel), List.mem_of_getElem? (i := 1395) (by decide +kernel)⟩
theorem lw_p51 : lw_okq (⟨"TenantCensusModel", "notOut", "(I)I"⟩, 24) := ⟨⟨by decide +kernel, by decide +kernel⟩, List.mem_of_getElem? (i := 1224) (by decide +kernel), List.mem_of_getElem? (i := 1402) (by decide +kernel), List.mem_of_getElem? (i := 1403) (by decide +kernel)⟩
theorem lw_p52 : lw_okq (⟨"TenantCensusModel", "leaves", "(I)I"⟩, 24) := ⟨⟨by decide +kernel, by decide +kernel⟩, List.mem_of_getElem? (i := 1224) (by decide +kernel), List.mem_of_getElem? (i := 1406) (by decide +kernel), List.mem_of_getElem? (i := 1407) (by decide +kernel)⟩
theorem lw_p53 : lw_okq (⟨"TenantCensusModel", "candidate", "(II)I"⟩, 24) := ⟨⟨by decide +kernel, by decide +kernel⟩, List.mem_of_getElem? (i := 1224) (by decide +kernel), List.mem_of_getElem? (i := 1410) (by decide +kernel), List.mem_of_getElem? (i := 1411) (by decide +kernel)⟩
theorem lw_p54 : lw_okq (⟨"TenantCensusModel", "prefers", "(III)Z"⟩, 24) := ⟨⟨by decide +kernel, by decide +kernel⟩, List.mem_of_getElem? (i := 1224) (by decide +kernel), List.mem_of_getElem? (i := 1414) (by decide +kernel), List.mem_of_getElem? (i := 1415) (by decide +kernel)⟩
theorem lw_p55 : lw_okq (⟨"TenantCensusModel", "isPreferred", "(II)Z"⟩, 24) := ⟨⟨by decide +kernel, by decide +kernel⟩, List.mem_of_getElem? (i := 1224) (by decide +kernel), List.mem_of_getElem? (i := 1418) (by decide +kernel), List.mem_of_getElem? (i := 1419) (by decide +kernel)⟩
theorem lw_p56 : lw_okq (⟨"TenantCensusModel", "notRent", "(II)I"⟩, 24) := ⟨⟨by decide +kernel, by decide +kernel⟩, List.mem_of_getElem? (i := 1224) (by decide +kernel), List.mem_of_getElem? (i := 1426) (by decide +kernel), List.mem_of_getElem? (i := 1427) (by decide +kernel)⟩
theorem lw_p57 : lw_okq (⟨"TenantCensusModel", "setsRent", "(II)I"⟩, 24) := ⟨⟨by decide +kernel, by decide +kernel⟩, List.mem_of_getElem? (i := 1224) (by decide +kernel), List.mem_of_getElem? (i := 1430) (by decide +kernel), List.mem_of_getElem? (i := 1431) (by decide +kernel)⟩
theorem lw_p58 : lw_okq (⟨"TenantCensusModel", "notGive", "(II)I"⟩, 24) := ⟨⟨by decide +kernel, by decide +kernel⟩, List.mem_of_getElem? (i := 1224) (by decide +kernel), List.mem_of_getElem? (i := 1438) (by decide +kernel), List.mem_of_getElem? (i := 1439) (by decide +kernel)⟩
theorem lw_p59 : lw_okq (⟨"TenantCensusModel", "gives", "(II)I"⟩, 24) := ⟨⟨by decide +kernel, by decide +kernel⟩, List.mem_of_getElem? (i := 1224) (by decide +kernel), List.mem_of_getElem? (i := 1442) (by decide +kernel), List.mem_of_getElem? (i := 1443) (by decide +kernel)⟩
theorem lw_p60 : lw_okq (⟨"TenantCensusModel", "settles", "()I"⟩, 24) := ⟨⟨by decide +kernel, by decide +kernel⟩, List.mem_of_getElem? (i := 1224) (by decide +kernel), List.mem_of_getElem? (i := 1450) (by decide +kernel), List.mem_of_getElem? (i := 1451) (by decide +kernel)⟩
theorem lw_p61 : lw_okq (⟨"TenantCensusModel", "findsPlan", "()V"⟩, 24) := ⟨⟨by decide +kernel, by decide +kernel⟩, List.mem_of_getElem? (i := 1224) (by decide +kernel), List.mem_of_getElem? (i := 1454) (by decide +kernel), List.mem_of_getElem? (i := 1455) (by decide +kernel)⟩
theorem lw_p62 : lw_okq (⟨"TenantCensusModel", "asks", "(I)Z"⟩, 24) := ⟨⟨by decide +kernel, by decide +kernel⟩, List.mem_of_getElem? (i := 1224) (by decide +kernel), List.mem_of_getElem? (i := 1458) (by decide +kernel), List.mem_of_getElem? (i := 1459) (by decide +kernel)⟩
theorem lw_p63 : lw_okq (⟨"TenantCensusModel", "flatAt", "(II)I"⟩, 24) := ⟨⟨by decide +kernel, by decide +kernel⟩, List.mem_of_getElem? (i := 1224) (by decide +kernel), List.mem_of_getElem? (i := 1462) (by decide +kernel), List.mem_of_getElem? (i := 1463) (by decide +kernel)⟩
def lw_privs_4 : List (MethodName × Nat) := [(⟨"TenantCensusModel", "flat", "(II)I"⟩, 24), (⟨"TenantCensusModel", "movesIn", "(II)I"⟩, 24), (⟨"TenantCensusModel", "burdenOf", "(II)I"⟩, 24), (⟨"TenantCensusModel", "notOut", "(I)I"⟩, 24), (⟨"TenantCensusModel", "leaves", "(I)I"⟩, 24), (⟨"TenantCensusModel", "candidate", "(II)I"⟩, 24), (⟨"TenantCensusModel", "prefers", "(III)Z"⟩, 24), (⟨"TenantCensusModel", "isPreferred", "(II)Z"⟩, 24), (⟨"TenantCensusModel", "notRent", "(II)I"⟩, 24), (⟨"TenantCensusModel", "setsRent", "(II)I"⟩, 24), (⟨"TenantCensusModel", "notGive", "(II)I"⟩, 24), (⟨"TenantCensusModel", "gives", "(II)I"⟩, 24), (⟨"TenantCensusModel", "settles", "()I"⟩, 24), (⟨"TenantCensusModel", "findsPlan", "()V"⟩, 24), (⟨"TenantCensusModel", "asks", "(I)Z"⟩, 24), (⟨"TenantCensusModel", "flatAt", "(II)I"⟩, 24)]
theorem lw_r4 : ∀ q ∈ lw_privs_4, lw_okq q := List.forall_mem_cons.mpr ⟨lw_p48, List.forall_mem_cons.mpr ⟨lw_p49, List.forall_mem_cons.mpr ⟨lw_p50, List.forall_mem_cons.mpr ⟨lw_p51, List.forall_mem_cons.mpr ⟨lw_p52, List.forall_mem_cons.mpr ⟨lw_p53, List.forall_mem_cons.mpr ⟨lw_p54, List.forall_mem_cons.mpr ⟨lw_p55, List.forall_mem_cons.mpr ⟨lw_p56, List.forall_mem_cons.mpr ⟨lw_p57, List.forall_mem_cons.mpr ⟨lw_p58, List.forall_mem_cons.mpr ⟨lw_p59, List.forall_mem_cons.mpr ⟨lw_p60, List.forall_mem_cons.mpr ⟨lw_p61, List.forall_mem_cons.mpr ⟨lw_p62, List.forall_mem_cons.mpr ⟨lw_p63, fun _ h => absurd h List.not_mem_nil⟩⟩⟩⟩⟩⟩⟩⟩⟩⟩⟩⟩⟩⟩⟩⟩
theorem lw_p64 : lw_okq (⟨"TenantCensusModel", "plannedIn", "(I)I"⟩, 24) := ⟨⟨by decide +kernel, by decide +kernel⟩, List.mem_of_getElem? (i := 1224) (by decide +kernel), List.mem_of_getElem? (i := 1466) (by decide +kernel), List.mem_of_getElem? (i := 1467) (by decide +kernel)⟩
theorem lw_p65 : lw_okq (⟨"TenantCensusModel", "passes", "(I)I"⟩, 24) := ⟨⟨by decide +kernel, by decide +kernel⟩, List.mem_of_getElem? (i := 1224) (by decide +kernel), List.mem_of_getElem? (i := 1477) (by decide +kernel), List.mem_of_getElem? (i := 1478) (by decide +kernel)⟩
theorem lw_p66 : lw_okq (⟨"TenantCensusModel", "goes", "(I)Z"⟩, 24) := ⟨⟨by decide +kernel, by decide +kernel⟩, List.mem_of_getElem? (i := 1224) (by decide +kernel), List.mem_of_getElem? (i := 1481) (by decide +kernel), List.mem_of_getElem? (i := 1482) (by decide +kernel)⟩
theorem lw_p67 : lw_okq (⟨"TenantCensusModel", "told", "(I)I"⟩, 24) := ⟨⟨by decide +kernel, by decide +kernel⟩, List.mem_of_getElem? (i := 1224) (by decide +kernel), List.mem_of_getElem? (i := 1489) (by decide +kernel), List.mem_of_getElem? (i := 1490) (by decide +kernel)⟩
theorem lw_p68 : lw_okq (⟨"TenantCensusModel", "tells", "(II)I"⟩, 24) := ⟨⟨by decide +kernel, by decide +kernel⟩, List.mem_of_getElem? (i := 1224) (by decide +kernel), List.mem_of_getElem? (i := 1521) (by decide +kernel), List.mem_of_getElem? (i := 1522) (by decide +kernel)⟩
theorem lw_p69 : lw_okq (⟨"TenantCensusModel", "findsCreaks", "()V"⟩, 24) := ⟨⟨by decide +kernel, by decide +kernel⟩, List.mem_of_getElem? (i := 1224) (by decide +kernel), List.mem_of_getElem? (i := 1553) (by decide +kernel), List.mem_of_getElem? (i := 1554) (by decide +kernel)⟩
theorem lw_p70 : lw_okq (⟨"TenantCensusModel", "numbers", "()I"⟩, 24) := ⟨⟨by decide +kernel, by decide +kernel⟩, List.mem_of_getElem? (i := 1224) (by decide +kernel), List.mem_of_getElem? (i := 1561) (by decide +kernel), List.mem_of_getElem? (i := 1562) (by decide +kernel)⟩
theorem lw_p71 : lw_okq (⟨"TenantCensusModel", "isCensus", "(I)Z"⟩, 24) := ⟨⟨by decide +kernel, by decide +kernel⟩, List.mem_of_getElem? (i := 1224) (by decide +kernel), List.mem_of_getElem? (i := 1565) (by decide +kernel), List.mem_of_getElem? (i := 1566) (by decide +kernel)⟩
theorem lw_p72 : lw_okq (⟨"TenantCensusModel", "isStablePlan", "()Z"⟩, 24) := ⟨⟨by decide +kernel, by decide +kernel⟩, List.mem_of_getElem? (i := 1224) (by decide +kernel), List.mem_of_getElem? (i := 1591) (by decide +kernel), List.mem_of_getElem? (i := 1592) (by decide +kernel)⟩
theorem lw_p73 : lw_okq (⟨"TenantCensusModel", "isPlan", "()Z"⟩, 24) := ⟨⟨by decide +kernel, by decide +kernel⟩, List.mem_of_getElem? (i := 1224) (by decide +kernel), List.mem_of_getElem? (i := 1595) (by decide +kernel), List.mem_of_getElem? (i := 1596) (by decide +kernel)⟩
theorem lw_p74 : lw_okq (⟨"TenantCensusModel", "looksAhead", "()V"⟩, 24) := ⟨⟨by decide +kernel, by decide +kernel⟩, List.mem_of_getElem? (i := 1224) (by decide +kernel), List.mem_of_getElem? (i := 1607) (by decide +kernel), List.mem_of_getElem? (i := 1608) (by decide +kernel)⟩
theorem lw_p75 : lw_okq (⟨"TenantCensusModel", "comesBack", "()V"⟩, 24) := ⟨⟨by decide +kernel, by decide +kernel⟩, List.mem_of_getElem? (i := 1224) (by decide +kernel), List.mem_of_getElem? (i := 1611) (by decide +kernel), List.mem_of_getElem? (i := 1612) (by decide +kernel)⟩
theorem lw_p76 : lw_okq (⟨"TenantCensusModel", "purses", "()I"⟩, 24) := ⟨⟨by decide +kernel, by decide +kernel⟩, List.mem_of_getElem? (i := 1224) (by decide +kernel), List.mem_of_getElem? (i := 1631) (by decide +kernel), List.mem_of_getElem? (i := 1632) (by decide +kernel)⟩
theorem lw_p77 : lw_okq (⟨"TenantCensusModel", "writesNumber", "(I)V"⟩, 24) := ⟨⟨by decide +kernel, by decide +kernel⟩, List.mem_of_getElem? (i := 1224) (by decide +kernel), List.mem_of_getElem? (i := 1659) (by decide +kernel), List.mem_of_getElem? (i := 1660) (by decide +kernel)⟩
theorem lw_p78 : lw_okq (⟨"TenantCensusModel", "writes", "(I)V"⟩, 24) := ⟨⟨by decide +kernel, by decide +kernel⟩, List.mem_of_getElem? (i := 1224) (by decide +kernel), List.mem_of_getElem? (i := 1663) (by decide +kernel), List.mem_of_getElem? (i := 1664) (by decide +kernel)⟩
theorem lw_p79 : lw_okq (⟨"TenantCensusModel", "readsAll", "()Z"⟩, 24) := ⟨⟨by decide +kernel, by decide +kernel⟩, List.mem_of_getElem? (i := 1224) (by decide +kernel), List.mem_of_getElem? (i := 1683) (by decide +kernel), List.mem_of_getElem? (i := 1684) (by decide +kernel)⟩
def lw_privs_5 : List (MethodName × Nat) := [(⟨"TenantCensusModel", "plannedIn", "(I)I"⟩, 24), (⟨"TenantCensusModel", "passes", "(I)I"⟩, 24), (⟨"TenantCensusModel", "goes", "(I)Z"⟩, 24), (⟨"TenantCensusModel", "told", "(I)I"⟩, 24), (⟨"TenantCensusModel", "tells", "(II)I"⟩, 24), (⟨"TenantCensusModel", "findsCreaks", "()V"⟩, 24), (⟨"TenantCensusModel", "numbers", "()I"⟩, 24), (⟨"TenantCensusModel", "isCensus", "(I)Z"⟩, 24), (⟨"TenantCensusModel", "isStablePlan", "()Z"⟩, 24), (⟨"TenantCensusModel", "isPlan", "()Z"⟩, 24), (⟨"TenantCensusModel", "looksAhead", "()V"⟩, 24), (⟨"TenantCensusModel", "comesBack", "()V"⟩, 24), (⟨"TenantCensusModel", "purses", "()I"⟩, 24), (⟨"TenantCensusModel", "writesNumber", "(I)V"⟩, 24), (⟨"TenantCensusModel", "writes", "(I)V"⟩, 24), (⟨"TenantCensusModel", "readsAll", "()Z"⟩, 24)]
theorem lw_r5 : ∀ q ∈ lw_privs_5, lw_okq q := List.forall_mem_cons.mpr ⟨lw_p64, List.forall_mem_cons.mpr ⟨lw_p65, List.forall_mem_cons.mpr ⟨lw_p66, List.forall_mem_cons.mpr ⟨lw_p67, List.forall_mem_cons.mpr ⟨lw_p68, List.forall_mem_cons.mpr ⟨lw_p69, List.forall_mem_cons.mpr ⟨lw_p70, List.forall_mem_cons.mpr ⟨lw_p71, List.forall_mem_cons.mpr ⟨lw_p72, List.forall_mem_cons.mpr ⟨lw_p73, List.forall_mem_cons.mpr ⟨lw_p74, List.forall_mem_cons.mpr ⟨lw_p75, List.forall_mem_cons.mpr ⟨lw_p76, List.forall_mem_cons.mpr ⟨lw_p77, List.forall_mem_cons.mpr ⟨lw_p78, List.forall_mem_cons.mpr ⟨lw_p79, fun _ h => absurd h List.not_mem_nil⟩⟩⟩⟩⟩⟩⟩⟩⟩⟩⟩⟩⟩⟩⟩⟩
theorem lw_p80 : lw_okq (⟨"TenantCensusModel", "readsCommand", "()Z"⟩, 24) := ⟨⟨by decide +kernel, by decide +kernel⟩, List.mem_of_getElem? (i := 1224) (by decide +kernel), List.mem_of_getElem? (i := 1687) (by decide +kernel), List.mem_of_getElem? (i := 1688) (by decide +kernel)⟩
theorem lw_p81 : lw_okq (⟨"TenantCensusModel", "nextChar", "()I"⟩, 24) := ⟨⟨by decide +kernel, by decide +kernel⟩, List.mem_of_getElem? (i := 1224) (by decide +kernel), List.mem_of_getElem? (i := 1691) (by decide +kernel), List.mem_of_getElem? (i := 1692) (by decide +kernel)⟩
theorem lw_p82 : lw_okq (⟨"TenantCensusModel", "reads", "(I)Z"⟩, 24) := ⟨⟨by decide +kernel, by decide +kernel⟩, List.mem_of_getElem? (i := 1224) (by decide +kernel), List.mem_of_getElem? (i := 1695) (by decide +kernel), List.mem_of_getElem? (i := 1696) (by decide +kernel)⟩
theorem lw_p83 : lw_okq (⟨"TenantCensusModel", "readsDigit", "(I)Z"⟩, 24) := ⟨⟨by decide +kernel, by decide +kernel⟩, List.mem_of_getElem? (i := 1224) (by decide +kernel), List.mem_of_getElem? (i := 1699) (by decide +kernel), List.mem_of_getElem? (i := 1700) (by decide +kernel)⟩
theorem lw_p84 : lw_okq (⟨"TenantCensusModel", "readsNumber", "(I)Z"⟩, 24) := ⟨⟨by decide +kernel, by decide +kernel⟩, List.mem_of_getElem? (i := 1224) (by decide +kernel), List.mem_of_getElem? (i := 1703) (by decide +kernel), List.mem_of_getElem? (i := 1704) (by decide +kernel)⟩
theorem lw_p85 : lw_okq (⟨"TenantCensusModel", "readsTenant", "()Z"⟩, 24) := ⟨⟨by decide +kernel, by decide +kernel⟩, List.mem_of_getElem? (i := 1224) (by decide +kernel), List.mem_of_getElem? (i := 1707) (by decide +kernel), List.mem_of_getElem? (i := 1708) (by decide +kernel)⟩
theorem lw_p86 : lw_okq (⟨"TenantCensusModel", "readsMonth", "()Z"⟩, 24) := ⟨⟨by decide +kernel, by decide +kernel⟩, List.mem_of_getElem? (i := 1224) (by decide +kernel), List.mem_of_getElem? (i := 1711) (by decide +kernel), List.mem_of_getElem? (i := 1712) (by decide +kernel)⟩
theorem lw_p87 : lw_okq (⟨"TenantCensusModel", "doesAll", "()Z"⟩, 24) := ⟨⟨by decide +kernel, by decide +kernel⟩, List.mem_of_getElem? (i := 1224) (by decide +kernel), List.mem_of_getElem? (i := 1715) (by decide +kernel), List.mem_of_getElem? (i := 1716) (by decide +kernel)⟩
theorem lw_p88 : lw_okq (⟨"TenantCensusModel", "notNow", "()I"⟩, 24) := ⟨⟨by decide +kernel, by decide +kernel⟩, List.mem_of_getElem? (i := 1224) (by decide +kernel), List.mem_of_getElem? (i := 1719) (by decide +kernel), List.mem_of_getElem? (i := 1720) (by decide +kernel)⟩
theorem lw_p89 : lw_okq (⟨"TenantCensusModel", "doesNow", "()I"⟩, 24) := ⟨⟨by decide +kernel, by decide +kernel⟩, List.mem_of_getElem? (i := 1224) (by decide +kernel), List.mem_of_getElem? (i := 1723) (by decide +kernel), List.mem_of_getElem? (i := 1724) (by decide +kernel)⟩
theorem lw_p90 : lw_okq (⟨"TenantCensusModel", "goesBack", "()V"⟩, 24) := ⟨⟨by decide +kernel, by decide +kernel⟩, List.mem_of_getElem? (i := 1224) (by decide +kernel), List.mem_of_getElem? (i := 1727) (by decide +kernel), List.mem_of_getElem? (i := 1728) (by decide +kernel)⟩
def lw_privs_6 : List (MethodName × Nat) := [(⟨"TenantCensusModel", "readsCommand", "()Z"⟩, 24), (⟨"TenantCensusModel", "nextChar", "()I"⟩, 24), (⟨"TenantCensusModel", "reads", "(I)Z"⟩, 24), (⟨"TenantCensusModel", "readsDigit", "(I)Z"⟩, 24), (⟨"TenantCensusModel", "readsNumber", "(I)Z"⟩, 24), (⟨"TenantCensusModel", "readsTenant", "()Z"⟩, 24), (⟨"TenantCensusModel", "readsMonth", "()Z"⟩, 24), (⟨"TenantCensusModel", "doesAll", "()Z"⟩, 24), (⟨"TenantCensusModel", "notNow", "()I"⟩, 24), (⟨"TenantCensusModel", "doesNow", "()I"⟩, 24), (⟨"TenantCensusModel", "goesBack", "()V"⟩, 24)]
theorem lw_r6 : ∀ q ∈ lw_privs_6, lw_okq q := List.forall_mem_cons.mpr ⟨lw_p80, List.forall_mem_cons.mpr ⟨lw_p81, List.forall_mem_cons.mpr ⟨lw_p82, List.forall_mem_cons.mpr ⟨lw_p83, List.forall_mem_cons.mpr ⟨lw_p84, List.forall_mem_cons.mpr ⟨lw_p85, List.forall_mem_cons.mpr ⟨lw_p86, List.forall_mem_cons.mpr ⟨lw_p87, List.forall_mem_cons.mpr ⟨lw_p88, List.forall_mem_cons.mpr ⟨lw_p89, List.forall_mem_cons.mpr ⟨lw_p90, fun _ h => absurd h List.not_mem_nil⟩⟩⟩⟩⟩⟩⟩⟩⟩⟩⟩
def lw_privs : List (MethodName × Nat) := lw_privs_1 ++ (lw_privs_2 ++ (lw_privs_3 ++ (lw_privs_4 ++ (lw_privs_5 ++ (lw_privs_6)))))
def lw_tbl : List Cond := k2_sels lw_privs ++ tables_1
theorem lw_privs_ok : ∀ q ∈ lw_privs, lw_okq q := by
  show ∀ q ∈ lw_privs_1 ++ (lw_privs_2 ++ (lw_privs_3 ++ (lw_privs_4 ++ (lw_privs_5 ++ (lw_privs_6))))), lw_okq q
  exact List.forall_mem_append.mpr ⟨lw_r1, List.forall_mem_append.mpr ⟨lw_r2, List.forall_mem_append.mpr ⟨lw_r3, List.forall_mem_append.mpr ⟨lw_r4, List.forall_mem_append.mpr ⟨lw_r5, lw_r6⟩⟩⟩⟩⟩
/-- the streams that the claim lets the run draw from -/
abbrev lw_cs : List Choice := [Jvm.Choice.named "NaN.bits"]
theorem lw_bits : nanBits ∈ lw_cs := by first | decide | exact List.mem_cons_self | simp [lw_cs, nanBits]
-- ===== end of PART A; then your names; then what follows =====
end
section
/-! ===== BEGIN words of one list among another's, by their places ===== -/
theorem goodIn_r {big : List Cond} (ws : List Cond) (ps : List Nat) (hp : ws = ps.filterMap (fun i => big[i]?)) (h : ws.all goodWord = true) : GoodIn big ws := by
  intro w hw
  have h1 := List.all_eq_true.mp h w hw
  rw [hp] at hw
  obtain ⟨i, -, hi⟩ := List.mem_filterMap.mp hw
  have hm : w ∈ big := by first | exact List.mem_of_getElem? hi | exact List.getElem?_mem hi
  exact ⟨hm, good_of_word h1⟩
theorem goodIn_app {big a b : List Cond} (ha : GoodIn big a) (hb : GoodIn big b) : GoodIn big (a ++ b) := fun w h => (List.mem_append.mp h).elim (ha w) (hb w)
theorem goodIn_ca {big a b : List Cond} {c : Cond} (ha : GoodIn big (c :: a)) (hb : GoodIn big b) : GoodIn big (c :: (a ++ b)) := fun w h => (List.mem_cons.mp h).elim (fun e => ha w (List.mem_cons.mpr (Or.inl e))) (fun h => (List.mem_append.mp h).elim (fun h => ha w (List.mem_cons.mpr (Or.inr h))) (hb w))
theorem goodIn_sub {big ws : List Cond} (hm : ∀ w ∈ ws, w ∈ big) (h : ws.all goodWord = true) : GoodIn big ws := fun w hw => ⟨hm w hw, good_of_word (List.all_eq_true.mp h w hw)⟩
/-! ===== END ===== -/

/-! ===== BEGIN new T[n][m]: the outer array a place, the inner ones among the pooled ===== -/
/-- f, but v at every address of l -/
def vr_up {α : Type} (f : Nat → α) (l : List Nat) (v : α) : Nat → α := fun a => if a ∈ l then v else f a
theorem vr_up_in {α : Type} {f : Nat → α} {l : List Nat} {v : α} {a : Nat} (h : a ∈ l) : vr_up f l v a = v := if_pos h
theorem vr_up_ne {α : Type} {f : Nat → α} {l : List Nat} {v : α} {a : Nat} (h : a ∉ l) : vr_up f l v a = f a := if_neg h
theorem vr_rows {L l : List Nat} {f : Nat → va_E} {e : va_E} (h : ∀ a, a ∈ l → a ∉ L) : va_pl L f ++ l.map (fun a => (a, e)) = va_pl (L ++ l) (vr_up f l e) := by
  unfold va_pl
  rw [List.map_append]
  congr 1
  · apply List.map_congr_left
    intro a ha
    rw [vr_up_ne (fun q => h a q ha)]
  · apply List.map_congr_left
    intro a ha
    rw [vr_up_in ha]
theorem vr_lay {X rows : va_W} {x : Nat × va_E} {pl : va_W} {D : va_G} {cl : List vw_C} {H : Heap} (hP : va_P D cl (((X ++ pl) ++ [x]) ++ rows) H) : va_P D cl ((X ++ [x]) ++ (pl ++ rows)) H := by
  rw [List.append_assoc (X ++ pl)] at hP
  have h := va_P.swap hP
  rw [← List.append_assoc X] at h
  have h2 := va_P.swap h
  rw [List.append_assoc (X ++ [x])] at h2
  exact h2
theorem vr_layD {X rows : va_W} {x : Nat × va_E} {pl : va_W} {A : Nat → Prop} (hD : va_D A (((X ++ pl) ++ [x]) ++ rows)) : va_D A ((X ++ [x]) ++ (pl ++ rows)) := by
  rw [List.append_assoc (X ++ pl)] at hD
  have h := va_D.swap hD
  rw [← List.append_assoc X] at h
  have h2 := va_D.swap h
  rw [List.append_assoc (X ++ [x])] at h2
  exact h2
theorem vr_outer (c : ClassId) (N h0 : Nat) : ∀ i : Nat, Jvm.Free.Multi.outerC c N h0 i = arrV c N (fun j => va_rf (if j < i then some (h0 + 1 + j) else none))
  | 0 => by
    show ({ cls := c, slots := Array.replicate N .null, vm := .none } : Cell) = _
    rw [arrV_new]
    refine congrArg (arrV c N) (funext fun j => ?_)
    simp [va_rf]
  | i + 1 => by
    show (Jvm.Free.Multi.outerC c N h0 i).setSlot i (.ref (h0 + 1 + i)) = _
    rw [vr_outer c N h0 i, arrV_store]
    refine congrArg (arrV c N) (funext fun j => ?_)
    by_cases e : j = i
    · subst e
      simp [updV, va_rf]
    · by_cases h : j < i
      · simp [updV, e, h, Nat.lt_succ_of_lt h]
      · simp [updV, e, h, show ¬ j < i + 1 by omega]
def va_AOA (t : FieldType) (U : State) : Prop := ∀ A : Array Value, (Cond.arrayOver (.array t)).before A U = true
theorem va_AOA.use {t : FieldType} {A : Array Value} {U : State} (h : va_AOA t U) : (Cond.arrayOver (.array t)).before A U = true := h A
section VGM
variable {p : Program} {l : Launch} {e : Env} {R : Room} {s : State} {m : MethodId} {args : Array Value} {below : List Frame} {meth : Method} {c : Code} {H : Heap} {locs : List Loc} {cells slots : Nat} {Q : State → Prop}
variable {cc : ByteArray} {pc : Nat} {ls : Array Slot} {rest : List Value} {D : va_G} {cl : List vw_C} {A : Nat → Prop} {a : Nat} {tys : List (ClassId × FieldType)} {ws : va_W} {H0 : Heap}
theorem va_mna {X : va_W} {L : List Nat} {f : Nat → va_E} {cc : ByteArray} (hexec : p.tables.exec = Jvm.exec) (hb : c.code = cc) {own : String} {index : Nat} {ty : FieldType} {cy : ClassId} (hown : s.vm.findClass own = some m.cls) (hclink : (Cond.classLink own index ("[" ++ (FieldType.array ty).toString)).before args s = true) (hover : va_AOA ty s) (harr : (Cond.arrayClass ty).before args s = true) (hcy : s.vm.findClass (FieldType.array ty).toString = some cy)
    (hK : va_K D cl tys s) (hP : va_P D cl (X ++ va_pl L f) H) (hD : va_D A (X ++ va_pl L f)) (hS : va_S A H0 H locs) (hA : ∀ q, H0.size ≤ q → A q) {n k : Int32} {N' K' : Nat} {z : vp_A} (hn : ¬ n < 0) (hk : ¬ k < 0) (hN : n.toNatClampNeg = N') (hM : k.toNatClampNeg = K')
    (hb1 : N' * 4 ≤ 536870912) (hb2 : K' * componentBytes ty ≤ 536870912) (hb3 : K' ≤ 536870912) (hdf : fits ty (defaultValue ty) = true) (hdd : (defaultValue ty).isDefault = true) (hcells : cells + (1 + N') ≤ R.cells) (hslots : slots + (N' + N' * K') ≤ R.slots) (hz : ∀ c : ClassId, Jvm.Free.Multi.innerC c K' (defaultValue ty) = vp_cell c z) (hdg : decode cc pc = .ok (.multianewarray index 2, 4))
    (kk : ∀ (q : Nat) (r : Nat → Nat) (cA : ClassId) (H1 : Heap), (∀ i j : Nat, i < N' → j < N' → r i = r j → i = j) → (∀ i : Nat, i < N' → r i ∉ L) → va_K D cl (tys ++ [(cA, .array ty)]) s →
      va_P D cl ((X ++ [(q, .inl (cA, N', .inr (.inr (.inr (.inr (fun i => if i < N' then some (r i) else none))))))]) ++ va_pl (L ++ (List.range N').map r) (vr_up f ((List.range N').map r) (.inl (cy, z)))) H1 → va_D A ((X ++ [(q, .inl (cA, N', .inr (.inr (.inr (.inr (fun i => if i < N' then some (r i) else none))))))]) ++ va_pl (L ++ (List.range N').map r) (vr_up f ((List.range N').map r) (.inl (cy, z)))) → va_S A H0 H1 locs →
      W p l e R s m args below meth c H1 locs (cells + 1 + N') (slots + N' + N' * K') Q (F0 m (pc + 4) ls (.ref q :: rest))) : W p l e R s m args below meth c H locs cells slots Q (F0 m pc ls (.int k :: .int n :: rest)) := by
  subst hN
  subst hM
  intro T hT Xs
  obtain ⟨vm₁, cA, comp, -, fA, fC, hO, -, X', step⟩ := Xs.multianewarray2F hexec hown hclink (va_AOA.use hover) harr (g := F0 m pc ls (.int k :: .int n :: rest)) rfl (by rw [hb]; exact hdg) rfl hn hk hb1 hb2 hb3 hdf hdd hcells hslots
  have ec : some cy = some comp := hcy.symm.trans fC
  cases ec
  generalize hF : Jvm.Free.Multi.fill (T.setVm vm₁) cA cy n.toNatClampNeg k.toNatClampNeg (defaultValue ty) n.toNatClampNeg = F at X' step
  have hTh : (T.setVm vm₁).heap = H := hT
  obtain ⟨f1, f2, -, -⟩ := Jvm.Free.Multi.fill_facts (T.setVm vm₁) cA cy n.toNatClampNeg k.toNatClampNeg (defaultValue ty) n.toNatClampNeg
  rw [hF, hTh] at f1 f2
  have hold : ∀ x : Nat, x < H.size → F.heap[x]? = H[x]? := fun x hx => by
    have := Jvm.Free.Multi.fill_old (T.setVm vm₁) cA cy n.toNatClampNeg k.toNatClampNeg (defaultValue ty) (a := x) (by rw [hTh]; exact hx) n.toNatClampNeg
    rw [hF, hTh] at this
    exact this
  have hrow : ∀ j : Nat, j < n.toNatClampNeg → F.heap[H.size + 1 + j]? = some (vp_cell cy z) := fun j hj => by
    have := Jvm.Free.Multi.fill_inner (T.setVm vm₁) cA cy n.toNatClampNeg k.toNatClampNeg (defaultValue ty) n.toNatClampNeg j hj
    rw [hF, hTh, hz] at this
    exact this
  have hout : Jvm.Free.Multi.outerC cA n.toNatClampNeg H.size n.toNatClampNeg = vp_cell cA (n.toNatClampNeg, .inr (.inr (.inr (.inr (fun i => if i < n.toNatClampNeg then some (H.size + 1 + i) else none))))) := by
    rw [vp_cell_q]
    exact vr_outer cA n.toNatClampNeg H.size n.toNatClampNeg
  rw [hout] at f2
  have hlt : ∀ a, a ∈ L → a < H.size := fun a ha => by
    obtain ⟨k9, hk9⟩ := va_pl_get (X := X) (f := f) ha
    exact (hP k9 _ hk9).lt
  have hnl : ∀ i : Nat, i < n.toNatClampNeg → H.size + 1 + i ∉ L := fun i _ h => by
    have := hlt _ h
    omega
  have hnm : ∀ a, a ∈ (List.range n.toNatClampNeg).map (fun i => H.size + 1 + i) → a ∉ L := fun a ha h => by
    obtain ⟨i, -, rfl⟩ := List.mem_map.mp ha
    have := hlt _ h
    omega
  have hP0 : va_P D cl (X ++ va_pl L f) F.heap := hP.kept (fun k9 x hx => hold x.1 ((hP k9 x hx).lt))
  have hP1 : va_P D cl ((X ++ va_pl L f) ++ [(H.size, .inl (cA, n.toNatClampNeg, .inr (.inr (.inr (.inr (fun i => if i < n.toNatClampNeg then some (H.size + 1 + i) else none))))))]) F.heap := hP0.app (fun k9 x hx => by
    have h0 : k9 < 1 := (List.getElem?_eq_some_iff.mp hx).1
    rw [show k9 = 0 by omega] at hx
    cases hx
    exact f2)
  have hP2 : va_P D cl (((X ++ va_pl L f) ++ [(H.size, .inl (cA, n.toNatClampNeg, .inr (.inr (.inr (.inr (fun i => if i < n.toNatClampNeg then some (H.size + 1 + i) else none))))))]) ++ ((List.range n.toNatClampNeg).map (fun i => H.size + 1 + i)).map (fun a => (a, .inl (cy, z)))) F.heap := hP1.app (fun k9 x hx => by
    obtain ⟨a, ha, rfl⟩ := List.mem_map.mp (List.mem_of_getElem? hx)
    obtain ⟨i, hi, rfl⟩ := List.mem_map.mp ha
    exact hrow i (List.mem_range.mp hi))
  have hD2 : va_D A (((X ++ va_pl L f) ++ [(H.size, .inl (cA, n.toNatClampNeg, .inr (.inr (.inr (.inr (fun i => if i < n.toNatClampNeg then some (H.size + 1 + i) else none))))))]) ++ ((List.range n.toNatClampNeg).map (fun i => H.size + 1 + i)).map (fun a => (a, .inl (cy, z)))) := by
    have hD1 := hD.push (e := .inl (cA, n.toNatClampNeg, .inr (.inr (.inr (.inr (fun i => if i < n.toNatClampNeg then some (H.size + 1 + i) else none)))))) hP rfl (hA _ hS.1)
    generalize hW1 : (X ++ va_pl L f) ++ [(H.size, .inl (cA, n.toNatClampNeg, .inr (.inr (.inr (.inr (fun i => if i < n.toNatClampNeg then some (H.size + 1 + i) else none))))))] = W1 at hD1 hP1 ⊢
    have hle : ∀ (k9 : Nat) (x : Nat × va_E), W1[k9]? = some x → x.1 ≤ H.size := fun k9 x hx => by
      rw [← hW1] at hx
      by_cases hl : k9 < (X ++ va_pl L f).length
      · rw [List.getElem?_append_left hl] at hx
        exact Nat.le_of_lt ((hP k9 x hx).lt)
      · rw [List.getElem?_append_right (by omega)] at hx
        have h0 : k9 - (X ++ va_pl L f).length < 1 := (List.getElem?_eq_some_iff.mp hx).1
        rw [show k9 - (X ++ va_pl L f).length = 0 by omega] at hx
        cases hx
        exact Nat.le_refl _
    have hr : ∀ (k9 : Nat) (x : Nat × va_E), (((List.range n.toNatClampNeg).map (fun i => H.size + 1 + i)).map (fun a => ((a, .inl (cy, z)) : Nat × va_E)))[k9]? = some x → x.1 = H.size + 1 + k9 := fun k9 x hx => by
      rw [List.getElem?_map, List.getElem?_map] at hx
      by_cases h9 : k9 < n.toNatClampNeg
      · rw [List.getElem?_range h9] at hx
        cases hx
        rfl
      · have hn0 : (List.range n.toNatClampNeg)[k9]? = none := List.getElem?_eq_none (by rw [List.length_range]; omega)
        rw [hn0] at hx
        cases hx
    refine ⟨fun i j x y hi hj hxy => ?_, fun k9 x hx => ?_⟩
    · by_cases h1 : i < W1.length <;> by_cases h2 : j < W1.length
      · rw [List.getElem?_append_left h1] at hi
        rw [List.getElem?_append_left h2] at hj
        exact hD1.1 i j x y hi hj hxy
      · rw [List.getElem?_append_left h1] at hi
        rw [List.getElem?_append_right (by omega)] at hj
        have := hle _ _ hi
        have := hr _ _ hj
        omega
      · rw [List.getElem?_append_right (by omega)] at hi
        rw [List.getElem?_append_left h2] at hj
        have := hle _ _ hj
        have := hr _ _ hi
        omega
      · rw [List.getElem?_append_right (by omega)] at hi hj
        have := hr _ _ hi
        have := hr _ _ hj
        omega
    · by_cases h1 : k9 < W1.length
      · rw [List.getElem?_append_left h1] at hx
        exact hD1.2 k9 x hx
      · rw [List.getElem?_append_right (by omega)] at hx
        have := hr _ _ hx
        exact hA _ (by have := hS.1; omega)
  have hAr : ArrOfT s cA (.array ty) := fun N9 z9 => by
    obtain ⟨-, k9, hk9, cm9, hkk9⟩ := (hO 0 0 0).1
    exact ⟨(fun q hq => by cases hq), k9, hk9, cm9, hkk9⟩
  have hK2 : va_K D cl (tys ++ [(cA, .array ty)]) s := ⟨hK.1, fun k9 x hx => by
    by_cases hl : k9 < tys.length
    · rw [List.getElem?_append_left hl] at hx
      exact hK.2 k9 x hx
    · rw [List.getElem?_append_right (by omega)] at hx
      have h0 : k9 - tys.length < 1 := (List.getElem?_eq_some_iff.mp hx).1
      rw [show k9 - tys.length = 0 by omega] at hx
      cases hx
      exact ⟨hAr, fA⟩⟩
  obtain ⟨t, a1, b1⟩ := kk H.size (fun i => H.size + 1 + i) cA F.heap (fun i j _ _ h => by have h9 : H.size + 1 + i = H.size + 1 + j := h; omega) hnl hK2 (by rw [← vr_rows hnm]; exact vr_lay hP2) (by rw [← vr_rows hnm]; exact vr_layD hD2) ⟨by rw [f1]; have := hS.1; omega, fun x h1 h2 => (hold x (Nat.lt_of_lt_of_le h1 hS.1)).trans (hS.2.1 x h1 h2), hS.2.2⟩ F rfl X'
  refine ⟨t, step t ?_, b1⟩
  have e : T.heap.size = H.size := by rw [hT]
  rw [e]
  exact a1
end VGM
/-! ===== END ===== -/

/-! ===== BEGIN exceptions that leave a method, and their catching by the caller (launches without stack traces) ===== -/
section VXA
/-! The laws vx_back, vx_callV, vx_callS, vx_callSW, vx_throw0, vx_throwS follow proofs of the library, with one case more: JvmDerived/Free/Laws.lean (Back.of_free), Shelf42/LK1.lean (callV, callS), Shelf/KitTraced.lean (throwNew0V, throwNewS). -/
/-- where a method has thrown q: the class by its name, the cell, what was written, the world -/
def vx_T (XC : String → State → State → Prop) (st : State) (q : Addr) (t : State) (mc ms : Nat) (free : Addr → Prop) : Prop :=
  ∃ (E : String) (ce : Cell) (L : List Loc), XC E st t ∧ t.heap[q]? = some ce ∧ ce.vm = .none ∧ st.vm.findClass E = some ce.cls ∧ st.WarmedH t.vm ∧ st.sameButNew ({ t with vm := st.vm } : State) L mc ms ∧ ∀ z ∈ L, free z.base
def vx_Q (Qc : Array Value → State → Outcome → State → Prop) (XC : String → State → State → Prop) (mc ms : Nat) (free : Addr → Prop) : Array Value → State → Outcome → State → Prop := fun a st o t =>
  (Qc a st o t ∧ ∃ L, FrameEnd st o t L mc ms ∧ ∀ q ∈ L, free q.base) ∨ ∃ q, o = .threw q ∧ vx_T XC st q t mc ms free
/-- a callee that returns or throws -/
def vx_Met (l : Launch) (y : MethodName) (ws : List Cond) (rm : Room) (Pc : Array Value → State → Prop) (Qc : Array Value → State → Outcome → State → Prop) (XC : String → State → State → Prop) (mc ms : Nat) (free : Addr → Prop) : Prop :=
  MetFree l y (headSpec ws rm) Pc (fun _ _ _ _ _ => True) (vx_Q Qc XC mc ms free)
def vx_Post (XC : String → State → State → Prop) (mc ms : Nat) (free : Addr → Prop) : Pt → Array Value → Addr → Pt → Prop := fun A a q B =>
  ∃ (g : JFrame) (mk : MethodId) (t : State) (L : List Loc) (E : String) (ce : Cell), B.U.heap = t.heap ∧ B.U.vm = t.vm ∧ XC E (A.U.calling g mk a) t ∧ t.heap[q]? = some ce ∧ ce.vm = .none ∧ A.U.vm.findClass E = some ce.cls ∧ B.locs = A.locs ++ L ∧ (∀ z ∈ L, free z.base) ∧ B.cells = A.cells + mc ∧ B.slots = A.slots + ms
def vx_Back (l : Launch) (R : Room) (p : Program) (e : Env) (below : List Frame) (s : State) (sargs : Array Value) (y : MethodName) (len W9 : Nat)
    (Pre : Pt → Array Value → Prop) (Post : Pt → Array Value → Option Value → Pt → Prop) (PostX : Pt → Array Value → Addr → Pt → Prop) : Prop :=
  ∀ (m : MethodId) (meth : Method) (c : Code) (A : Pt) (g : JFrame) (ig : Instr) (mk : MethodId) (a : Array Value),
    Stand p l e R s m sargs below meth c A.U A.locs A.cells A.slots → g.method = m → g.locals.size = c.maxLocals → decode c.code g.pc = .ok (ig, len) →
    2 * g.monitorRoom + (g.stack.map fun v => v.category).sum ≤ W9 → A.U.methodNamed? y = some mk → Pre A a →
    (∃ (v : Option Value) (B : Pt), Stand p l e R s m sargs below meth c B.U B.locs B.cells B.slots ∧ Post A a v B ∧
      Steps p.tables e below (doInvoke e (A.U.setTop g) [] mk a).1 (B.U.setTop { g with pc := g.pc + len, stack := v.toList ++ g.stack })) ∨
    (∃ (q : Addr) (B : Pt), Stand p l e R s m sargs below meth c B.U B.locs B.cells B.slots ∧ PostX A a q B ∧
      Steps p.tables e below (doInvoke e (A.U.setTop g) [] mk a).1 ((B.U.setTop g).pushFrame (.throwing q)))
section Payer
variable {l : Launch} {R : Room} {p : Program} {e : Env} {below : List Frame} {s : State} {sargs : Array Value} {y : MethodName} {len W9 : Nat}
theorem vx_back {ws : List Cond} {rm : Room} {Pc : Array Value → State → Prop} {Qc : Array Value → State → Outcome → State → Prop} {XC : String → State → State → Prop} {mc ms : Nat} {free : Addr → Prop} {bytes : ByteArray} {maxL : Nat} {ret : Option FieldType}
    (hM : vx_Met l y ws rm Pc Qc XC mc ms free) (hblind : FrameBlind Pc) (hrc : rm.cells = mc) (hrs : rm.slots = ms)
    (hframes : rm.frames + 1 ≤ R.frames) (hlocals : W9 + (maxL + 11) + rm.locals ≤ R.locals)
    (hws : ∀ w ∈ ws, ∀ a' U, s.WarmedH U.vm → w.before a' U = true) (hcode : Cond.code y bytes maxL ret ∈ ws) (hinit : ∀ a' U, s.WarmedH U.vm → (Cond.initialized y.cls).before a' U = true) :
    vx_Back l R p e below s sargs y len W9 (PreOf R mc ms Pc) (PostOf Qc mc ms free) (vx_Post XC mc ms free) := by
  intro m meth c A g ig mk a X hg hsize hdg hW hn hp
  have h1 : (headSpec ws rm).pre.before a A.U = true := atoms_intro fun w hw => hws w hw _ _ X.warmed
  have h2 : (Cond.code y bytes maxL ret).before a A.U = true := hws _ hcode _ _ X.warmed
  have h3 : (Cond.initialized y.cls).before a A.U = true := hinit _ _ X.warmed
  have h4 : A.cells + (headSpec ws rm).room.cells ≤ R.cells := by rw [show (headSpec ws rm).room.cells = mc from hrc]; exact hp.1
  have h5 : A.slots + (headSpec ws rm).room.slots ≤ R.slots := by rw [show (headSpec ws rm).room.slots = ms from hrs]; exact hp.2.1
  have hPc : Pc a (A.U.calling g mk a) := hblind _ _ _ _ hp.2.2
  obtain ⟨U, Ls, c0, s0⟩ := A
  dsimp only [Pt.U, Pt.locs, Pt.cells, Pt.slots] at h1 h2 h3 h4 h5 X hn hPc ⊢
  obtain ⟨methY, cY, hmY, hcY, -, hlY, -, -, -, -⟩ := Cond.code_spec hn h2
  obtain ⟨kY, hkY, -⟩ := className_of_methodNamed hn
  have hinitY : kY.init = .initialized := Cond.initialized_spec (findClass_of_methodNamed hn) hkY h3
  have h : At U g.method c below := by rw [hg]; exact X.here
  have hlocals9 : W9 + (maxL + 11) + (headSpec ws rm).room.locals ≤ R.locals := hlocals
  have happ : (headSpec ws rm).appliesLoose y e.platform (U.calling g mk a) = true :=
    Spec.appliesLoose_calling (g := g) h hdg hn hkY hinitY
      (X.room_calling (g := g) (R' := (headSpec ws rm).room) hsize hmY hcY hframes (by rw [hlY]; omega) h4 h5) h1
  obtain ⟨mid, hmid⟩ := h.above
  have hfr : (U.setTop g).frames = (.java g :: mid) ++ below := by rw [State.frames_setTop' g h.top, hmid]; rfl
  obtain ⟨o, s₂, hsteps, -, hend, hq⟩ := Steps.callFree hM p X.admits X.cas X.clock (acts := []) hfr happ hPc trivial
  have hq' : vx_Q Qc XC mc ms free a (U.calling g mk a) o s₂ := hq
  rw [State.frames_setTop' g h.top] at hend
  obtain ⟨g₀, hg0⟩ := Option.isSome_iff_exists.mp h.top
  obtain ⟨r, hr⟩ := State.topJava?_eq_some.mp hg0
  have hr' : (({ U with heap := s₂.heap, slotsUsed := s₂.slotsUsed } : State).setVm s₂.vm).frames = .java g₀ :: r := hr
  rcases hq' with ⟨hqc, L, hfe, hL⟩ | ⟨q, rfl, E, ce, L, hx, hce, hcv, hcl, hW₂, hsm, hL⟩
  · obtain ⟨⟨v, rfl⟩, hW₂, e2, q2, q3, q4, q5, q6⟩ := id hfe
    have e3 : s₂ = ({ (U.calling g mk a).setFrames s₂.frames with heap := s₂.heap, slotsUsed := s₂.slotsUsed } : State).setVm s₂.vm := by
      have : s₂ = ({ s₂ with vm := (U.calling g mk a).vm } : State).setVm s₂.vm := rfl
      rw [e2] at this
      exact this
    obtain ⟨c₂, i₂, len₂, hc₂, hd₂, hf₂⟩ := hend
    have hW' : U.WarmedH s₂.vm := hW₂
    have hcc : c₂ = c := by
      have h1 : s₂.code? g.method = U.code? g.method := by
        rw [State.code?_eq, State.code?_eq, hW'.alike.method?]
      exact Option.some.inj (hc₂.symm.trans (h1.trans h.code))
    subst hcc
    have hlen : len₂ = len := by rw [hdg] at hd₂; cases hd₂; rfl
    subst hlen
    have hs₂ : s₂ = (({ U with heap := s₂.heap, slotsUsed := s₂.slotsUsed } : State).setVm s₂.vm).setTop { g with pc := g.pc + len₂, stack := v.toList ++ g.stack } := by
      refine e3.trans ?_
      rw [hf₂, State.calling_eq h.top, State.setFrames_setFrames, State.setTop_of_frames _ hr', hr]
      rfl
    have hsame : U.sameButNew ({ U with heap := s₂.heap, slotsUsed := s₂.slotsUsed } : State) L mc ms := by
      refine ⟨?_, q2, q3, q4, q5, q6⟩
      obtain ⟨t, ht, -⟩ := State.frames_cons hr
      show ({ U with heap := s₂.heap, slotsUsed := s₂.slotsUsed } : State) = { U.setFrames U.frames with heap := s₂.heap, slotsUsed := s₂.slotsUsed }
      rw [State.setFrames_self ht]
    subst hg
    refine Or.inl ⟨v, ⟨(({ U with heap := s₂.heap, slotsUsed := s₂.slotsUsed } : State).setVm s₂.vm), Ls ++ L, c0 + mc, s0 + ms⟩,
      ⟨X.admits, X.cas, X.clock, X.frames, X.room, X.hears, X.method, X.code, (X.here.setHeapUsed s₂.heap s₂.slotsUsed).setVm hW'.alike, X.tail, State.WarmedH.trans X.warmed hW', X.limits, X.bytes, X.same.trans (hsame.setVm s.vm)⟩,
      ⟨g, mk, s₂, L, rfl, rfl, hqc, rfl, hL, rfl, rfl⟩, ?_⟩
    show Steps p.tables e below _ ((({ U with heap := s₂.heap, slotsUsed := s₂.slotsUsed } : State).setVm s₂.vm).setTop { g with pc := g.pc + len₂, stack := v.toList ++ g.stack })
    rw [← hs₂]
    exact hsteps
  · obtain ⟨e2, q2, q3, q4, q5, q6⟩ := id hsm
    have e3 : s₂ = ({ (U.calling g mk a).setFrames s₂.frames with heap := s₂.heap, slotsUsed := s₂.slotsUsed } : State).setVm s₂.vm := by
      have : s₂ = ({ s₂ with vm := (U.calling g mk a).vm } : State).setVm s₂.vm := rfl
      rw [e2] at this
      exact this
    have hf₂ : s₂.frames = .throwing q :: .java g :: U.frames.tail := hend
    have hW' : U.WarmedH s₂.vm := hW₂
    have hs₂ : s₂ = ((({ U with heap := s₂.heap, slotsUsed := s₂.slotsUsed } : State).setVm s₂.vm).setTop g).pushFrame (.throwing q) := by
      refine e3.trans ?_
      rw [hf₂, State.calling_eq h.top, State.setFrames_setFrames, State.pushFrame, State.frames_setTop _ hr', State.setTop_of_frames _ hr', State.setFrames_setFrames, hr]
      rfl
    have hsame : U.sameButNew ({ U with heap := s₂.heap, slotsUsed := s₂.slotsUsed } : State) L mc ms := by
      refine ⟨?_, q2, q3, q4, q5, q6⟩
      obtain ⟨t, ht, -⟩ := State.frames_cons hr
      show ({ U with heap := s₂.heap, slotsUsed := s₂.slotsUsed } : State) = { U.setFrames U.frames with heap := s₂.heap, slotsUsed := s₂.slotsUsed }
      rw [State.setFrames_self ht]
    subst hg
    refine Or.inr ⟨q, ⟨(({ U with heap := s₂.heap, slotsUsed := s₂.slotsUsed } : State).setVm s₂.vm), Ls ++ L, c0 + mc, s0 + ms⟩,
      ⟨X.admits, X.cas, X.clock, X.frames, X.room, X.hears, X.method, X.code, (X.here.setHeapUsed s₂.heap s₂.slotsUsed).setVm hW'.alike, X.tail, State.WarmedH.trans X.warmed hW', X.limits, X.bytes, X.same.trans (hsame.setVm s.vm)⟩,
      ⟨g, mk, s₂, L, E, ce, rfl, rfl, hx, hce, hcv, hcl, rfl, hL, rfl, rfl⟩, ?_⟩
    show Steps p.tables e below _ (((({ U with heap := s₂.heap, slotsUsed := s₂.slotsUsed } : State).setVm s₂.vm).setTop g).pushFrame (.throwing q))
    rw [← hs₂]
    exact hsteps
end Payer
section Calls
variable {p : Program} {l : Launch} {e : Env} {R : Room} {s : State} {m : MethodId} {args : Array Value} {below : List Frame} {meth : Method} {c : Code} {T : State} {locs : List Loc} {cells slots : Nat}
theorem vx_callV (X : Stand p l e R s m args below meth c T locs cells slots) (hexec : p.tables.exec = Jvm.exec) {own C : String} {index : Nat} {y : MethodName} {bytes : ByteArray} {maxL : Nat} {ret : Option FieldType}
    (hown : s.vm.findClass own = some m.cls) (hlink : (Cond.methodLink own index y).before args s = true) (hinst : (Cond.instanceMethod y).before args s = true) (hsel : (Cond.selects C y y).before args s = true)
    (hcode : (Cond.code y bytes maxL ret).before args s = true) (hy : y.cls ≠ "java/lang/invoke/MethodHandle" ∧ y.cls ≠ "java/lang/invoke/VarHandle")
    {W9 : Nat} {Pre : Pt → Array Value → Prop} {Post : Pt → Array Value → Option Value → Pt → Prop} {PostX : Pt → Array Value → Addr → Pt → Prop} (hK : vx_Back l R p e below s args y 3 W9 Pre Post PostX)
    {b : Addr} {cellB : Cell} (hcell : T.heap[b]? = some cellB) (hobj : cellB.vm.isStatics = false) (hcls : s.vm.findClass C = some cellB.cls)
    {g : JFrame} (hg : g.method = m) (hsize : g.locals.size = c.maxLocals) {argsL rest : List Value} (hlen : ∀ sig, parseMethodDescriptor y.desc = some sig → argsL.length = sig.parameters.length)
    (hstack : g.stack = argsL.reverse ++ .ref b :: rest) (hW : 2 * g.monitorRoom + (rest.map fun v => v.category).sum ≤ W9) (hdg : decode c.code g.pc = .ok (.invokevirtual index, 3))
    (hpre : ∀ vm₁, s.WarmedH vm₁ → Pre ⟨T.setVm vm₁, locs, cells, slots⟩ (Value.ref b :: argsL).toArray) :
    (∃ (v : Option Value) (vm₁ : Vm) (B : Pt), s.WarmedH vm₁ ∧ Stand p l e R s m args below meth c B.U B.locs B.cells B.slots ∧ Post ⟨T.setVm vm₁, locs, cells, slots⟩ (Value.ref b :: argsL).toArray v B ∧
      ∀ target, Steps p.tables e below (B.U.setTop { g with pc := g.pc + 3, stack := v.toList ++ rest }) target → Steps p.tables e below (T.setTop g) target) ∨
    (∃ (q : Addr) (vm₁ : Vm) (B : Pt), s.WarmedH vm₁ ∧ Stand p l e R s m args below meth c B.U B.locs B.cells B.slots ∧ PostX ⟨T.setVm vm₁, locs, cells, slots⟩ (Value.ref b :: argsL).toArray q B ∧
      Steps p.tables e below (T.setTop g) ((B.U.setTop { g with stack := rest }).pushFrame (.throwing q))) := by
  obtain ⟨mk, methM, hnamed, hmethM, hstM, habM⟩ := Cond.instanceMethod_spec hinst
  obtain ⟨methM', cM, hmethM', -, -, -, -, -, -, hsigM⟩ := Cond.code_spec hnamed hcode
  cases hmethM.symm.trans hmethM'
  obtain ⟨c2, r2, m2, q1, q2, q3, q4, kP, hkP, hkPi⟩ := Cond.selects_spec hsel
  cases hcls.symm.trans q1
  cases (State.methodFound?_of_named hnamed hy).symm.trans q2
  cases hnamed.symm.trans q3
  have hselP : selectMethod e.platform s.vm cellB.cls mk = .method mk := by rw [Launch.admits_selectMethod X.admits]; exact q4
  obtain ⟨vm₁, X₁, hstep₁⟩ := X.invokevirtual hexec hown hlink hnamed hmethM hstM hkP hkPi hy (a := b) (cell := cellB) hcell
    (fun z h => by rw [h] at hobj; cases hobj) hselP hmethM habM hkP hkPi (g := g) hg (argsL := argsL) (rest := rest) (hlen _ hsigM) hstack hdg
  rcases hK m meth c ⟨T.setVm vm₁, locs, cells, slots⟩ { g with stack := rest } (.invokevirtual index) mk (Value.ref b :: argsL).toArray X₁ hg hsize hdg hW (X₁.named hnamed) (hpre vm₁ X₁.warmed) with ⟨v, B, X', hpost, hsteps⟩ | ⟨q, B, X', hpost, hsteps⟩
  · exact Or.inl ⟨v, vm₁, B, X₁.warmed, X', hpost, fun target h => hstep₁ _ fun acts => by rw [doInvoke_state]; exact hsteps.trans h⟩
  · exact Or.inr ⟨q, vm₁, B, X₁.warmed, X', hpost, hstep₁ _ fun acts => by rw [doInvoke_state]; exact hsteps⟩
theorem vx_callS (X : Stand p l e R s m args below meth c T locs cells slots) (hexec : p.tables.exec = Jvm.exec) {own : String} {index : Nat} {y : MethodName} {bytes : ByteArray} {maxL : Nat} {ret : Option FieldType}
    (hown : s.vm.findClass own = some m.cls) (hlink : (Cond.methodLink own index y).before args s = true) (hstat : (Cond.static y).before args s = true) (hinit : (Cond.initialized y.cls).before args s = true)
    (hcode : (Cond.code y bytes maxL ret).before args s = true) (hy : y.cls ≠ "java/lang/invoke/MethodHandle" ∧ y.cls ≠ "java/lang/invoke/VarHandle")
    {W9 : Nat} {Pre : Pt → Array Value → Prop} {Post : Pt → Array Value → Option Value → Pt → Prop} {PostX : Pt → Array Value → Addr → Pt → Prop} (hK : vx_Back l R p e below s args y 3 W9 Pre Post PostX)
    {g : JFrame} (hg : g.method = m) (hsize : g.locals.size = c.maxLocals) {argsL rest : List Value} (hlen : ∀ sig, parseMethodDescriptor y.desc = some sig → argsL.length = sig.parameters.length)
    (hstack : g.stack = argsL.reverse ++ rest) (hW : 2 * g.monitorRoom + (rest.map fun v => v.category).sum ≤ W9) (hdg : decode c.code g.pc = .ok (.invokestatic index, 3))
    (hpre : ∀ vm₁, s.WarmedH vm₁ → Pre ⟨T.setVm vm₁, locs, cells, slots⟩ argsL.toArray) :
    (∃ (v : Option Value) (vm₁ : Vm) (B : Pt), s.WarmedH vm₁ ∧ Stand p l e R s m args below meth c B.U B.locs B.cells B.slots ∧ Post ⟨T.setVm vm₁, locs, cells, slots⟩ argsL.toArray v B ∧
      ∀ target, Steps p.tables e below (B.U.setTop { g with pc := g.pc + 3, stack := v.toList ++ rest }) target → Steps p.tables e below (T.setTop g) target) ∨
    (∃ (q : Addr) (vm₁ : Vm) (B : Pt), s.WarmedH vm₁ ∧ Stand p l e R s m args below meth c B.U B.locs B.cells B.slots ∧ PostX ⟨T.setVm vm₁, locs, cells, slots⟩ argsL.toArray q B ∧
      Steps p.tables e below (T.setTop g) ((B.U.setTop { g with stack := rest }).pushFrame (.throwing q))) := by
  obtain ⟨mk, hnamed⟩ := Cond.code_named hcode
  obtain ⟨methM, cM, hmethM, -, -, -, -, -, -, hsigM⟩ := Cond.code_spec hnamed hcode
  have hstatic : methM.isStatic = true := Cond.static_spec hnamed hmethM hstat
  obtain ⟨kP, hkP, -⟩ := className_of_methodNamed hnamed
  have hinitP : kP.init = .initialized := Cond.initialized_spec (findClass_of_methodNamed hnamed) hkP hinit
  obtain ⟨vm₁, X₁, hstep₁⟩ := X.invokestatic hexec hown hlink hnamed hmethM hstatic hkP hinitP hy (g := g) hg (argsL := argsL) (rest := rest) (hlen _ hsigM) hstack hdg
  rcases hK m meth c ⟨T.setVm vm₁, locs, cells, slots⟩ { g with stack := rest } (.invokestatic index) mk argsL.toArray X₁ hg hsize hdg hW (X₁.named hnamed) (hpre vm₁ X₁.warmed) with ⟨v, B, X', hpost, hsteps⟩ | ⟨q, B, X', hpost, hsteps⟩
  · exact Or.inl ⟨v, vm₁, B, X₁.warmed, X', hpost, fun target h => hstep₁ _ fun acts => by rw [doInvoke_state]; exact hsteps.trans h⟩
  · exact Or.inr ⟨q, vm₁, B, X₁.warmed, X', hpost, hstep₁ _ fun acts => by rw [doInvoke_state]; exact hsteps⟩
end Calls
theorem vx_cls {s : State} {T : State} {vm₁ : Vm} {E : String} {k : ClassId} (hW : s.WarmedH vm₁) (h : (T.setVm vm₁).vm.findClass E = some k) : s.vm.findClass E = some k := by
  have h1 : vm₁.findClass E = some k := h
  rw [hW.alike.findClass] at h1
  exact h1
/-- the method's frame g, with q thrown over it -/
def vx_W (p : Program) (l : Launch) (e : Env) (R : Room) (s : State) (m : MethodId) (args : Array Value) (below : List Frame) (meth : Method) (c : Code) (H : Heap) (locs : List Loc) (cells slots : Nat) (Q : State → Prop) (g : JFrame) (q : Addr) : Prop :=
  ∀ T : State, T.heap = H → Stand p l e R s m args below meth c T locs cells slots → ∃ t, Steps p.tables e below ((T.setTop g).pushFrame (.throwing q)) t ∧ Q t
def vx_Run (p : Program) (l : Launch) (e : Env) (R : Room) (s : State) (m : MethodId) (args : Array Value) (below : List Frame) (meth : Method) (c : Code) (H : Heap) (locs : List Loc) (cells slots mc ms : Nat) (g : JFrame) (rest : List Value) (Qa : State → Outcome → State → Prop) (XC : String → State → State → Prop) (free : Addr → Prop) : Prop :=
  ∀ T : State, T.heap = H → Stand p l e R s m args below meth c T locs cells slots →
    (∃ (v : Option Value) (st₀ t T' : State) (L : List Loc), st₀.heap = H ∧ Stand p l e R s m args below meth c T' (locs ++ L) (cells + mc) (slots + ms) ∧ (∀ q ∈ L, free q.base) ∧ T'.heap = t.heap ∧ T'.vm = t.vm ∧ Qa st₀ (.returned v) t ∧
      Goes p e below T g T' { g with pc := g.pc + 3, stack := v.toList ++ rest }) ∨
    (∃ (q : Addr) (st₀ t T' : State) (L : List Loc) (E : String) (ce : Cell), st₀.heap = H ∧ Stand p l e R s m args below meth c T' (locs ++ L) (cells + mc) (slots + ms) ∧ (∀ z ∈ L, free z.base) ∧ T'.heap = t.heap ∧ T'.vm = t.vm ∧ XC E st₀ t ∧ t.heap[q]? = some ce ∧ ce.vm = .none ∧ s.vm.findClass E = some ce.cls ∧
      Steps p.tables e below (T.setTop g) ((T'.setTop { g with stack := rest }).pushFrame (.throwing q)))
def vx_X {S : Type} (px : S → Prop) (B : String → S → State → Prop) (A : Nat → Prop) : String → State → State → Prop := fun E st t => ∃ u : S, px u ∧ B E u t ∧ va_F A st t
section Runs
variable {p : Program} {l : Launch} {e : Env} {R : Room} {s : State} {m : MethodId} {args : Array Value} {below : List Frame} {meth : Method} {c : Code} {H : Heap} {locs : List Loc} {cells slots : Nat}
variable {y : MethodName} {bytes cc : ByteArray} {maxL nL mc ms n index : Nat} {ret : Option FieldType} {ws : List Cond} {rm : Room} {Pc : Array Value → State → Prop} {Qc : Array Value → State → Outcome → State → Prop} {XC : String → State → State → Prop} {free : Addr → Prop} {Ts : List Cond} {own C : String} {b : Addr} {As rest : List Value} {g : JFrame}
theorem vx_callBack (cb : CallB R s args own index y bytes maxL ret ws rm mc ms n) (hM : vx_Met l y ws rm Pc Qc XC mc ms free) (hbl : FrameBlind Pc) : vx_Back l R p e below s args y 3 8 (PreOf R mc ms Pc) (PostOf Qc mc ms free) (vx_Post XC mc ms free) := by
  obtain ⟨hrc, hrs, hfr, hlo, hws, hcw, -, hini, -⟩ := cb
  exact vx_back (bytes := bytes) (maxL := maxL) (ret := ret) hM hbl hrc hrs hfr hlo hws hcw (fun a' U hW => word_at hW (Or.inl (by first | rfl | simp [Cond.onTables, Cond.keeps, Cond.steady])) hini)
theorem vx_runV (S : CallFix p m c cc nL s args Ts own) (hM : vx_Met l y ws rm Pc Qc XC mc ms free) (cw : CallW R s args own C index y bytes maxL ret ws rm mc ms n) (hp : PreV s H C b Pc As)
    (hg : g.method = m) (hn : As.length = n) (hsize : g.locals.size = nL) (hstack : g.stack = As.reverse ++ .ref b :: rest) (hW : 2 * g.monitorRoom + (rest.map fun v => v.category).sum ≤ 8) (hdg : decode cc g.pc = .ok (.invokevirtual index, 3)) (hf : cells + mc ≤ R.cells ∧ slots + ms ≤ R.slots) :
    vx_Run p l e R s m args below meth c H locs cells slots mc ms g rest (Qc (Value.ref b :: As).toArray) XC free := by
  have hK : vx_Back l R p e below s args y 3 8 (PreOf R mc ms Pc) (PostOf Qc mc ms free) (vx_Post XC mc ms free) := vx_callBack cw.1 hM hp.1
  obtain ⟨⟨-, -, -, -, -, -, hcode, -, hy, hlen, hl⟩, hin, hse⟩ := cw
  obtain ⟨hx, hb, hml, ho, -⟩ := S
  obtain ⟨-, ⟨cellB, hcB, hoB, hclB⟩, hPc⟩ := hp
  intro T hT X
  rcases vx_callV X hx (C := C) (bytes := bytes) (maxL := maxL) (ret := ret) ho hl hin hse hcode hy hK (by rw [hT]; exact hcB) hoB hclB hg (hsize.trans hml.symm) (argsL := As) (rest := rest) (fun sig h => hn.trans (hlen sig h)) hstack hW (by rw [hb]; exact hdg)
    (fun vm₁ hW₁ => ⟨hf.1, hf.2, hPc (T.setVm vm₁) hT hW₁⟩) with ⟨v, vm₁, ⟨U', l2, c2, s2⟩, hW₁, X', ⟨g', mk, t, L, e1, e2, hq, h1, hL, h2, h3⟩, st⟩ | ⟨q, vm₁, ⟨U', l2, c2, s2⟩, hW₁, X', ⟨g', mk, t, L, E, ce, e1, e2, hq, hce, hcv, hcl, h1, hL, h2, h3⟩, st⟩
  · dsimp only [Pt.U, Pt.locs, Pt.cells, Pt.slots] at X' e1 e2 h1 h2 h3 st
    subst h1; subst h2; subst h3
    exact Or.inl ⟨v, (T.setVm vm₁).calling g' mk (Value.ref b :: As).toArray, t, U', L, hT, X', hL, e1, e2, hq, st⟩
  · dsimp only [Pt.U, Pt.locs, Pt.cells, Pt.slots] at X' e1 e2 h1 h2 h3 st hcl
    subst h1; subst h2; subst h3
    exact Or.inr ⟨q, (T.setVm vm₁).calling g' mk (Value.ref b :: As).toArray, t, U', L, E, ce, hT, X', hL, e1, e2, hq, hce, hcv, vx_cls hW₁ hcl, st⟩
theorem vx_runS (S : CallFix p m c cc nL s args Ts own) (hM : vx_Met l y ws rm Pc Qc XC mc ms free) (cw : CallB R s args own index y bytes maxL ret ws rm mc ms n ∧ (Cond.static y).before args s = true) (hp : PreS s H Pc As)
    (hg : g.method = m) (hn : As.length = n) (hsize : g.locals.size = nL) (hstack : g.stack = As.reverse ++ rest) (hW : 2 * g.monitorRoom + (rest.map fun v => v.category).sum ≤ 8) (hdg : decode cc g.pc = .ok (.invokestatic index, 3)) (hf : cells + mc ≤ R.cells ∧ slots + ms ≤ R.slots) :
    vx_Run p l e R s m args below meth c H locs cells slots mc ms g rest (Qc As.toArray) XC free := by
  have hK : vx_Back l R p e below s args y 3 8 (PreOf R mc ms Pc) (PostOf Qc mc ms free) (vx_Post XC mc ms free) := vx_callBack cw.1 hM hp.1
  obtain ⟨⟨-, -, -, -, -, -, hcode, hini, hy, hlen, hl⟩, hstt⟩ := cw
  obtain ⟨hx, hb, hml, ho, -⟩ := S
  intro T hT X
  rcases vx_callS X hx (bytes := bytes) (maxL := maxL) (ret := ret) ho hl hstt hini hcode hy hK hg (hsize.trans hml.symm) (argsL := As) (rest := rest) (fun sig h => hn.trans (hlen sig h)) hstack hW (by rw [hb]; exact hdg)
    (fun vm₁ hW₁ => ⟨hf.1, hf.2, hp.2 (T.setVm vm₁) hT hW₁⟩) with ⟨v, vm₁, ⟨U', l2, c2, s2⟩, hW₁, X', ⟨g', mk, t, L, e1, e2, hq, h1, hL, h2, h3⟩, st⟩ | ⟨q, vm₁, ⟨U', l2, c2, s2⟩, hW₁, X', ⟨g', mk, t, L, E, ce, e1, e2, hq, hce, hcv, hcl, h1, hL, h2, h3⟩, st⟩
  · dsimp only [Pt.U, Pt.locs, Pt.cells, Pt.slots] at X' e1 e2 h1 h2 h3 st
    subst h1; subst h2; subst h3
    exact Or.inl ⟨v, (T.setVm vm₁).calling g' mk As.toArray, t, U', L, hT, X', hL, e1, e2, hq, st⟩
  · dsimp only [Pt.U, Pt.locs, Pt.cells, Pt.slots] at X' e1 e2 h1 h2 h3 st hcl
    subst h1; subst h2; subst h3
    exact Or.inr ⟨q, (T.setVm vm₁).calling g' mk As.toArray, t, U', L, E, ce, hT, X', hL, e1, e2, hq, hce, hcv, vx_cls hW₁ hcl, st⟩
end Runs
section Rows
variable {p : Program} {l : Launch} {e : Env} {R : Room} {s : State} {m : MethodId} {args : Array Value} {below : List Frame} {meth : Method} {c : Code} {H : Heap} {locs : List Loc} {cells slots : Nat} {Q : State → Prop}
variable {mc ms : Nat} {free : Addr → Prop} {A0 A1 : Nat → Prop} {H0 : Heap} {a : Array Value} {pc : Nat} {ls : Array Slot} {st0 rest : List Value}
theorem vx_keep {st₀ t T' : State} {L : List Loc} (h0 : st₀.heap = H) (e1 : T'.heap = t.heap) (hS : va_S A0 H0 H locs) (hA : ∀ q, q < H.size → A1 q → A0 q) (hf : ∀ q, free q → A0 q) (hL : ∀ q ∈ L, free q.base) (hF : va_F A1 st₀ t) :
    H.size ≤ T'.heap.size ∧ (∀ q : Nat, q < H.size → ¬ A1 q → T'.heap[q]? = H[q]?) ∧ va_S A0 H0 T'.heap (locs ++ L) := by
  obtain ⟨hz, hk⟩ := hF
  rw [h0] at hz hk
  exact ⟨by rw [e1]; exact hz, fun q h1 h2 => by rw [e1]; exact hk q h1 h2,
    ⟨Nat.le_trans hS.1 (by rw [e1]; exact hz), fun q h1 h2 => by rw [e1, hk q (Nat.lt_of_lt_of_le h1 hS.1) (fun z => h2 (hA q (Nat.lt_of_lt_of_le h1 hS.1) z))]; exact hS.2.1 q h1 h2, fun q hq => by
      rcases List.mem_append.mp hq with h | h
      · exact hS.2.2 q h
      · exact hf _ (hL q h)⟩⟩
theorem vx_calli {S SX : Type} {post : Int32 → S → Prop} {px : SX → Prop} {B : S → State → Prop} {BX : String → SX → State → Prop} {AX : Nat → Prop} (hr : vx_Run p l e R s m args below meth c H locs cells slots mc ms (F0 m pc ls st0) rest (va_Qi post B A1 a) (vx_X px BX AX) free) (hS : va_S A0 H0 H locs) (hA : ∀ q, q < H.size → A1 q → A0 q) (hf : ∀ q, free q → A0 q) (hAX : ∀ q, q < H.size → AX q → A0 q)
    (kx : ∀ (E : String) (ce : Cell) (q9 : Addr) (u : SX) (t : State) (H1 : Heap) (locs1 : List Loc), t.heap = H1 → s.vm.Alike t.vm → px u → BX E u t → H.size ≤ H1.size → (∀ q : Nat, q < H.size → ¬ AX q → H1[q]? = H[q]?) → va_S A0 H0 H1 locs1 → H1[q9]? = some ce → ce.vm = .none → s.vm.findClass E = some ce.cls → vx_W p l e R s m args below meth c H1 locs1 (cells + mc) (slots + ms) Q (F0 m pc ls rest) q9)
    (kk : ∀ (r : Int32) (u : S) (t : State) (H1 : Heap) (locs1 : List Loc), t.heap = H1 → s.vm.Alike t.vm → post r u → B u t → H.size ≤ H1.size → (∀ q : Nat, q < H.size → ¬ A1 q → H1[q]? = H[q]?) → va_S A0 H0 H1 locs1 → W p l e R s m args below meth c H1 locs1 (cells + mc) (slots + ms) Q (F0 m (pc + 3) ls (.int r :: rest))) : W p l e R s m args below meth c H locs cells slots Q (F0 m pc ls st0) := by
  intro T hT X
  rcases hr T hT X with ⟨v, st₀, t, T', L, h0, X', hL, e1, e2, ⟨⟨r, u, hv, hp, hb⟩, hF⟩, st⟩ | ⟨q, st₀, t, T', L, E, ce, h0, X', hL, e1, e2, ⟨u, hp, hb, hF⟩, hce, hcv, hcl, st⟩
  · cases hv
    obtain ⟨k1, k2, k3⟩ := vx_keep h0 e1 hS hA hf hL hF
    obtain ⟨t2, a1, b1⟩ := kk r u t T'.heap (locs ++ L) e1.symm (by rw [← e2]; exact X'.warmed.alike) hp hb k1 k2 k3 T' rfl X'
    exact ⟨t2, st t2 a1, b1⟩
  · obtain ⟨k1, k2, k3⟩ := vx_keep h0 e1 hS hAX hf hL hF
    obtain ⟨t2, a1, b1⟩ := kx E ce q u t T'.heap (locs ++ L) e1.symm (by rw [← e2]; exact X'.warmed.alike) hp hb k1 k2 k3 (by rw [e1]; exact hce) hcv hcl T' rfl X'
    exact ⟨t2, st.trans a1, b1⟩
theorem vx_calll {S SX : Type} {post : Int64 → S → Prop} {px : SX → Prop} {B : S → State → Prop} {BX : String → SX → State → Prop} {AX : Nat → Prop} (hr : vx_Run p l e R s m args below meth c H locs cells slots mc ms (F0 m pc ls st0) rest (va_Ql post B A1 a) (vx_X px BX AX) free) (hS : va_S A0 H0 H locs) (hA : ∀ q, q < H.size → A1 q → A0 q) (hf : ∀ q, free q → A0 q) (hAX : ∀ q, q < H.size → AX q → A0 q)
    (kx : ∀ (E : String) (ce : Cell) (q9 : Addr) (u : SX) (t : State) (H1 : Heap) (locs1 : List Loc), t.heap = H1 → s.vm.Alike t.vm → px u → BX E u t → H.size ≤ H1.size → (∀ q : Nat, q < H.size → ¬ AX q → H1[q]? = H[q]?) → va_S A0 H0 H1 locs1 → H1[q9]? = some ce → ce.vm = .none → s.vm.findClass E = some ce.cls → vx_W p l e R s m args below meth c H1 locs1 (cells + mc) (slots + ms) Q (F0 m pc ls rest) q9)
    (kk : ∀ (r : Int64) (u : S) (t : State) (H1 : Heap) (locs1 : List Loc), t.heap = H1 → s.vm.Alike t.vm → post r u → B u t → H.size ≤ H1.size → (∀ q : Nat, q < H.size → ¬ A1 q → H1[q]? = H[q]?) → va_S A0 H0 H1 locs1 → W p l e R s m args below meth c H1 locs1 (cells + mc) (slots + ms) Q (F0 m (pc + 3) ls (.long r :: rest))) : W p l e R s m args below meth c H locs cells slots Q (F0 m pc ls st0) := by
  intro T hT X
  rcases hr T hT X with ⟨v, st₀, t, T', L, h0, X', hL, e1, e2, ⟨⟨r, u, hv, hp, hb⟩, hF⟩, st⟩ | ⟨q, st₀, t, T', L, E, ce, h0, X', hL, e1, e2, ⟨u, hp, hb, hF⟩, hce, hcv, hcl, st⟩
  · cases hv
    obtain ⟨k1, k2, k3⟩ := vx_keep h0 e1 hS hA hf hL hF
    obtain ⟨t2, a1, b1⟩ := kk r u t T'.heap (locs ++ L) e1.symm (by rw [← e2]; exact X'.warmed.alike) hp hb k1 k2 k3 T' rfl X'
    exact ⟨t2, st t2 a1, b1⟩
  · obtain ⟨k1, k2, k3⟩ := vx_keep h0 e1 hS hAX hf hL hF
    obtain ⟨t2, a1, b1⟩ := kx E ce q u t T'.heap (locs ++ L) e1.symm (by rw [← e2]; exact X'.warmed.alike) hp hb k1 k2 k3 (by rw [e1]; exact hce) hcv hcl T' rfl X'
    exact ⟨t2, st.trans a1, b1⟩
theorem vx_callf {S SX : Type} {post : UInt32 → S → Prop} {px : SX → Prop} {B : S → State → Prop} {BX : String → SX → State → Prop} {AX : Nat → Prop} (hr : vx_Run p l e R s m args below meth c H locs cells slots mc ms (F0 m pc ls st0) rest (va_Qf post B A1 a) (vx_X px BX AX) free) (hS : va_S A0 H0 H locs) (hA : ∀ q, q < H.size → A1 q → A0 q) (hf : ∀ q, free q → A0 q) (hAX : ∀ q, q < H.size → AX q → A0 q)
    (kx : ∀ (E : String) (ce : Cell) (q9 : Addr) (u : SX) (t : State) (H1 : Heap) (locs1 : List Loc), t.heap = H1 → s.vm.Alike t.vm → px u → BX E u t → H.size ≤ H1.size → (∀ q : Nat, q < H.size → ¬ AX q → H1[q]? = H[q]?) → va_S A0 H0 H1 locs1 → H1[q9]? = some ce → ce.vm = .none → s.vm.findClass E = some ce.cls → vx_W p l e R s m args below meth c H1 locs1 (cells + mc) (slots + ms) Q (F0 m pc ls rest) q9)
    (kk : ∀ (r : UInt32) (u : S) (t : State) (H1 : Heap) (locs1 : List Loc), t.heap = H1 → s.vm.Alike t.vm → post r u → B u t → H.size ≤ H1.size → (∀ q : Nat, q < H.size → ¬ A1 q → H1[q]? = H[q]?) → va_S A0 H0 H1 locs1 → W p l e R s m args below meth c H1 locs1 (cells + mc) (slots + ms) Q (F0 m (pc + 3) ls (.float r :: rest))) : W p l e R s m args below meth c H locs cells slots Q (F0 m pc ls st0) := by
  intro T hT X
  rcases hr T hT X with ⟨v, st₀, t, T', L, h0, X', hL, e1, e2, ⟨⟨r, u, hv, hp, hb⟩, hF⟩, st⟩ | ⟨q, st₀, t, T', L, E, ce, h0, X', hL, e1, e2, ⟨u, hp, hb, hF⟩, hce, hcv, hcl, st⟩
  · cases hv
    obtain ⟨k1, k2, k3⟩ := vx_keep h0 e1 hS hA hf hL hF
    obtain ⟨t2, a1, b1⟩ := kk r u t T'.heap (locs ++ L) e1.symm (by rw [← e2]; exact X'.warmed.alike) hp hb k1 k2 k3 T' rfl X'
    exact ⟨t2, st t2 a1, b1⟩
  · obtain ⟨k1, k2, k3⟩ := vx_keep h0 e1 hS hAX hf hL hF
    obtain ⟨t2, a1, b1⟩ := kx E ce q u t T'.heap (locs ++ L) e1.symm (by rw [← e2]; exact X'.warmed.alike) hp hb k1 k2 k3 (by rw [e1]; exact hce) hcv hcl T' rfl X'
    exact ⟨t2, st.trans a1, b1⟩
theorem vx_calld {S SX : Type} {post : UInt64 → S → Prop} {px : SX → Prop} {B : S → State → Prop} {BX : String → SX → State → Prop} {AX : Nat → Prop} (hr : vx_Run p l e R s m args below meth c H locs cells slots mc ms (F0 m pc ls st0) rest (va_Qd post B A1 a) (vx_X px BX AX) free) (hS : va_S A0 H0 H locs) (hA : ∀ q, q < H.size → A1 q → A0 q) (hf : ∀ q, free q → A0 q) (hAX : ∀ q, q < H.size → AX q → A0 q)
    (kx : ∀ (E : String) (ce : Cell) (q9 : Addr) (u : SX) (t : State) (H1 : Heap) (locs1 : List Loc), t.heap = H1 → s.vm.Alike t.vm → px u → BX E u t → H.size ≤ H1.size → (∀ q : Nat, q < H.size → ¬ AX q → H1[q]? = H[q]?) → va_S A0 H0 H1 locs1 → H1[q9]? = some ce → ce.vm = .none → s.vm.findClass E = some ce.cls → vx_W p l e R s m args below meth c H1 locs1 (cells + mc) (slots + ms) Q (F0 m pc ls rest) q9)
    (kk : ∀ (r : UInt64) (u : S) (t : State) (H1 : Heap) (locs1 : List Loc), t.heap = H1 → s.vm.Alike t.vm → post r u → B u t → H.size ≤ H1.size → (∀ q : Nat, q < H.size → ¬ A1 q → H1[q]? = H[q]?) → va_S A0 H0 H1 locs1 → W p l e R s m args below meth c H1 locs1 (cells + mc) (slots + ms) Q (F0 m (pc + 3) ls (.double r :: rest))) : W p l e R s m args below meth c H locs cells slots Q (F0 m pc ls st0) := by
  intro T hT X
  rcases hr T hT X with ⟨v, st₀, t, T', L, h0, X', hL, e1, e2, ⟨⟨r, u, hv, hp, hb⟩, hF⟩, st⟩ | ⟨q, st₀, t, T', L, E, ce, h0, X', hL, e1, e2, ⟨u, hp, hb, hF⟩, hce, hcv, hcl, st⟩
  · cases hv
    obtain ⟨k1, k2, k3⟩ := vx_keep h0 e1 hS hA hf hL hF
    obtain ⟨t2, a1, b1⟩ := kk r u t T'.heap (locs ++ L) e1.symm (by rw [← e2]; exact X'.warmed.alike) hp hb k1 k2 k3 T' rfl X'
    exact ⟨t2, st t2 a1, b1⟩
  · obtain ⟨k1, k2, k3⟩ := vx_keep h0 e1 hS hAX hf hL hF
    obtain ⟨t2, a1, b1⟩ := kx E ce q u t T'.heap (locs ++ L) e1.symm (by rw [← e2]; exact X'.warmed.alike) hp hb k1 k2 k3 (by rw [e1]; exact hce) hcv hcl T' rfl X'
    exact ⟨t2, st.trans a1, b1⟩
theorem vx_callv {S SX : Type} {post : S → Prop} {px : SX → Prop} {B : S → State → Prop} {BX : String → SX → State → Prop} {AX : Nat → Prop} (hr : vx_Run p l e R s m args below meth c H locs cells slots mc ms (F0 m pc ls st0) rest (va_Qv post B A1 a) (vx_X px BX AX) free) (hS : va_S A0 H0 H locs) (hA : ∀ q, q < H.size → A1 q → A0 q) (hf : ∀ q, free q → A0 q) (hAX : ∀ q, q < H.size → AX q → A0 q)
    (kx : ∀ (E : String) (ce : Cell) (q9 : Addr) (u : SX) (t : State) (H1 : Heap) (locs1 : List Loc), t.heap = H1 → s.vm.Alike t.vm → px u → BX E u t → H.size ≤ H1.size → (∀ q : Nat, q < H.size → ¬ AX q → H1[q]? = H[q]?) → va_S A0 H0 H1 locs1 → H1[q9]? = some ce → ce.vm = .none → s.vm.findClass E = some ce.cls → vx_W p l e R s m args below meth c H1 locs1 (cells + mc) (slots + ms) Q (F0 m pc ls rest) q9)
    (kk : ∀ (u : S) (t : State) (H1 : Heap) (locs1 : List Loc), t.heap = H1 → s.vm.Alike t.vm → post u → B u t → H.size ≤ H1.size → (∀ q : Nat, q < H.size → ¬ A1 q → H1[q]? = H[q]?) → va_S A0 H0 H1 locs1 → W p l e R s m args below meth c H1 locs1 (cells + mc) (slots + ms) Q (F0 m (pc + 3) ls (rest))) : W p l e R s m args below meth c H locs cells slots Q (F0 m pc ls st0) := by
  intro T hT X
  rcases hr T hT X with ⟨v, st₀, t, T', L, h0, X', hL, e1, e2, ⟨⟨u, hv, hp, hb⟩, hF⟩, st⟩ | ⟨q, st₀, t, T', L, E, ce, h0, X', hL, e1, e2, ⟨u, hp, hb, hF⟩, hce, hcv, hcl, st⟩
  · cases hv
    obtain ⟨k1, k2, k3⟩ := vx_keep h0 e1 hS hA hf hL hF
    obtain ⟨t2, a1, b1⟩ := kk u t T'.heap (locs ++ L) e1.symm (by rw [← e2]; exact X'.warmed.alike) hp hb k1 k2 k3 T' rfl X'
    exact ⟨t2, st t2 a1, b1⟩
  · obtain ⟨k1, k2, k3⟩ := vx_keep h0 e1 hS hAX hf hL hF
    obtain ⟨t2, a1, b1⟩ := kx E ce q u t T'.heap (locs ++ L) e1.symm (by rw [← e2]; exact X'.warmed.alike) hp hb k1 k2 k3 (by rw [e1]; exact hce) hcv hcl T' rfl X'
    exact ⟨t2, st.trans a1, b1⟩
/-- caught by the row x of this method's table; the rows ahead don't take it -/
theorem vx_catch {own name : String} {E : String} {ce : Cell} {q : Addr} (hown : s.vm.findClass own = some m.cls) (pre : List ExceptionTableEntry) (x : ExceptionTableEntry) (suf : List ExceptionTableEntry) (hsplit : c.exceptionTable.toList = pre ++ x :: suf)
    (hpass : ∀ z ∈ pre, covers z pc = false ∨ (z.catchType ≠ 0 ∧ ∃ nm : String, (Cond.classLink own z.catchType nm).before args s = true ∧ va_Nc E nm s)) (hx : covers x pc = true) (h0 : x.catchType ≠ 0)
    (hlink : (Cond.classLink own x.catchType name).before args s = true) (hcast : (Cond.castable E name).before args s = true) (hcell : H[q]? = some ce) (hv : ce.vm = .none) (hcl : s.vm.findClass E = some ce.cls)
    (kk : W p l e R s m args below meth c H locs cells slots Q (F0 m x.handlerPc ls [.ref q])) : vx_W p l e R s m args below meth c H locs cells slots Q (F0 m pc ls rest) q := by
  intro T hT X
  have hpl : e.platform.magicAccessors = ({} : Platform).magicAccessors := by rw [X.admits.platform]
  obtain ⟨c3, c4, hc3, hc4, hasg⟩ := Cond.castable_spec hcast
  cases Option.some.inj (hc3.symm.trans hcl)
  obtain ⟨c5, hc5, hcl5⟩ := Cond.classLink_spec hown hlink e.platform hpl
  cases Option.some.inj (hc4.symm.trans hc5)
  obtain ⟨vm', X', st⟩ := X.thenCaughtThrough q (g := F0 m pc ls rest) rfl (Steps.refl _) (by rw [hT]; exact hcell) (by rw [hv]; rfl) (by obtain ⟨k9, h9, -⟩ := Vm.findClass_spec hcl; exact ⟨k9, h9⟩) pre x suf hsplit
    (fun z hz => by
      rcases hpass z hz with h | ⟨hz0, nm, hl1, hn1⟩
      · exact Or.inl h
      · obtain ⟨c6, hc6, hcl6⟩ := Cond.classLink_spec hown hl1 e.platform hpl
        obtain ⟨a8, b8, h1, h2, h3⟩ := hn1
        cases Option.some.inj (h1.symm.trans hcl)
        cases Option.some.inj (h2.symm.trans hc6)
        exact Or.inr ⟨hz0, _, hcl6, h3⟩) hx (Or.inr ⟨h0, c4, hcl5, hasg⟩)
  obtain ⟨t, a1, b1⟩ := kk (T.setVm vm') hT X'
  exact ⟨t, st.trans a1, b1⟩
end Rows
section Ends
variable {p : Program} {l : Launch} {e : Env} {R : Room} {s : State} {m : MethodId} {args : Array Value} {below : List Frame} {meth : Method} {c : Code} {H : Heap} {locs : List Loc} {cells slots : Nat} {Q : State → Prop}
variable {mc ms : Nat} {free : Addr → Prop} {A0 A1 : Nat → Prop} {H0 : Heap} {a : Array Value} {ls : Array Slot} {st0 rest : List Value}
variable {Qc : Array Value → State → Outcome → State → Prop} {XC : String → State → State → Prop}
/-- what a body that may throw owes at its end -/
def vx_MQ (below : List Frame) (Qc : Array Value → State → Outcome → State → Prop) (XC : String → State → State → Prop) (a : Array Value) (s : State) (mc ms : Nat) (free : Addr → Prop) : State → Prop := fun t =>
  ∃ o, t.status = .running ∧ Ended t below o ∧ vx_Q Qc XC mc ms free a s o t
theorem vx_ret {g : JFrame} {mc ms : Nat} (k : W p l e R s m args below meth c H locs cells slots (MQ below Qc args s mc ms free) g) : W p l e R s m args below meth c H locs cells slots (vx_MQ below Qc XC args s mc ms free) g := by
  intro T hT X
  obtain ⟨t, a1, o, b1, b2, b3, b4⟩ := k T hT X
  exact ⟨t, a1, o, b1, b2, Or.inl ⟨b3, b4⟩⟩
/-- not caught here: it goes on to the caller -/
theorem vx_widen {g : JFrame} {q : Addr} {k n : Nat} (h1 : cells ≤ k) (h2 : slots ≤ n) (kk : vx_W p l e R s m args below meth c H locs k n Q g q) : vx_W p l e R s m args below meth c H locs cells slots Q g q := fun T hT X => kk T hT (stand_widen X h1 h2)
theorem vx_out {pc : Nat} {E : String} {ce : Cell} {q : Addr} {mc ms : Nat} (hout : ∀ x ∈ c.exceptionTable.toList, covers x pc = false) (hlocks : meth.locks = false) (hcell : H[q]? = some ce) (hv : ce.vm = .none) (hcl : s.vm.findClass E = some ce.cls)
    (hx : ∀ t : State, t.heap = H → s.vm.Alike t.vm → XC E s t) (hf : ∀ z ∈ locs, free z.base) (hc : cells ≤ mc) (hs : slots ≤ ms) :
    vx_W p l e R s m args below meth c H locs cells slots (vx_MQ below Qc XC args s mc ms free) (F0 m pc ls rest) q := by
  intro T hT X
  obtain ⟨st1, hrun, hend, hW, hsm⟩ := X.leaveThrown q (g := F0 m pc ls rest) rfl rfl rfl hout hlocks
  have hcell9 : (T.setFrames (.throwing q :: below)).heap[q]? = some ce := by
    show T.heap[q]? = some ce
    rw [hT]; exact hcell
  exact ⟨_, st1, .threw q, hrun, hend, Or.inr ⟨q, rfl, E, ce, locs, hx _ hT hW.alike, hcell9, hv, hcl, hW, hsm.mono hc hs, hf⟩⟩
theorem vx_frame {U : State} {k n : Nat} (h : s.sameButNew ({ U with vm := s.vm } : State) locs k n) : s.heap.size ≤ U.heap.size ∧ ∀ q : Nat, q < s.heap.size → (∀ z ∈ locs, z.base ≠ q) → U.heap[q]? = s.heap[q]? := by
  obtain ⟨-, h2, -, -, -, h6⟩ := h
  refine ⟨h2, fun q hq hz => ?_⟩
  obtain ⟨c9, e1, e2, e3, e4⟩ := h6 q _ (Array.getElem?_eq_getElem hq)
  have hs : c9.slots = (s.heap[q]).slots := Array.ext_getElem? fun i => e4 i fun hm => hz _ hm rfl
  have h9 : c9 = s.heap[q] := by
    rw [hs] at e2
    exact e2
  have e5 : U.heap[q]? = some c9 := e1
  rw [e5, h9, Array.getElem?_eq_getElem hq]
/-- the words of a throw but the four that speak of the heap -/
def vx_no (w : Cond) : Bool := decide (w ≠ .isRef (.static Bundle.tN "UNASSIGNED_STACK" Bundle.steD)) && decide (w ≠ .isRef (.static Bundle.tN "SUPPRESSED_SENTINEL" Bundle.listD)) && decide (w ≠ .laysStatic Bundle.tN "UNASSIGNED_STACK" Bundle.steD) && decide (w ≠ .laysStatic Bundle.tN "SUPPRESSED_SENTINEL" Bundle.listD)
def vx_at0 (own : String) (ic : Nat) (X : String) (names : List String) : List Cond := (Bundle.ownAtoms0 own ic X names).filter vx_no
def vx_atS (own : String) (ic : Nat) (X : String) (names : List String) : List Cond := (Bundle.ownAtoms own ic X names).filter vx_no
/-- a word that the tables alone decide, or a good one -/
def vx_ot (w : Cond) : Bool := w.onTables || goodWord w
theorem vx_ot_at {args a' : Array Value} {s U : State} {w : Cond} (hW : s.WarmedH U.vm) (hvm : s.vm = U.vm) (hg : vx_ot w = true) (h : w.before args s = true) : w.before a' U = true := by
  simp only [vx_ot, Bool.or_eq_true] at hg
  rcases hg with hg | hg
  · exact va_tabs hg hvm h
  · exact word_at hW (good_of_word hg) h
/-- a list's words: the good ones out of the method's own list, the others by premises of their own -/
theorem vx_hat {args : Array Value} {s : State} {L B : List Cond} (h1 : ∀ w ∈ L.filter goodWord, w.before args s = true) (h2 : ∀ w ∈ L.filter (fun w => !goodWord w), w ∈ B) (h3 : ∀ w ∈ B, w.before args s = true) : ∀ w ∈ L, w.before args s = true := by
  intro w hw
  by_cases g : goodWord w = true
  · exact h1 w (List.mem_filter.mpr ⟨hw, g⟩)
  · refine h3 w (h2 w (List.mem_filter.mpr ⟨hw, ?_⟩))
    show (!goodWord w) = true
    cases hgw : goodWord w
    · rfl
    · exact absurd hgw g
theorem vx_c {args : Array Value} {s : State} {w : Cond} {B : List Cond} (h : w.before args s = true) (t : ∀ w ∈ B, w.before args s = true) : ∀ w' ∈ w :: B, w'.before args s = true := fun w' h' => (List.mem_cons.mp h').elim (fun e => by rw [e]; exact h) (t w')
theorem vx_n {args : Array Value} {s : State} : ∀ w ∈ ([] : List Cond), w.before args s = true := fun _ h => nomatch h
theorem vx_own {args : Array Value} {s : State} {L : List Cond} (h1 : ∀ w ∈ L.filter vx_no, w.before args s = true)
    (hU : (Cond.isRef (.static Bundle.tN "UNASSIGNED_STACK" Bundle.steD)).before args s = true) (hN : (Cond.isRef (.static Bundle.tN "SUPPRESSED_SENTINEL" Bundle.listD)).before args s = true)
    (lU : (Cond.laysStatic Bundle.tN "UNASSIGNED_STACK" Bundle.steD).before args s = true) (lN : (Cond.laysStatic Bundle.tN "SUPPRESSED_SENTINEL" Bundle.listD).before args s = true) : ∀ w ∈ L, w.before args s = true := by
  intro w hw
  by_cases e1 : w = .isRef (.static Bundle.tN "UNASSIGNED_STACK" Bundle.steD)
  · rw [e1]; exact hU
  · by_cases e2 : w = .isRef (.static Bundle.tN "SUPPRESSED_SENTINEL" Bundle.listD)
    · rw [e2]; exact hN
    · by_cases e3 : w = .laysStatic Bundle.tN "UNASSIGNED_STACK" Bundle.steD
      · rw [e3]; exact lU
      · by_cases e4 : w = .laysStatic Bundle.tN "SUPPRESSED_SENTINEL" Bundle.listD
        · rw [e4]; exact lN
        · exact h1 w (List.mem_filter.mpr ⟨hw, by unfold vx_no; rw [decide_eq_true e1, decide_eq_true e2, decide_eq_true e3, decide_eq_true e4]; rfl⟩)
/-- where a static field lies, its class's statics cell in H -/
def vx_L (C n d : String) (A : Nat → Prop) (U : State) (H : Heap) : Prop := ∃ (c : ClassId) (k : Class) (i : Nat) (f : Field) (a : Nat) (cell : Cell), U.vm.findClass C = some c ∧ U.fieldFound? C n d = some (c, k, i, f) ∧ f.isStatic = true ∧ k.statics = some a ∧ H[a]? = some cell ∧ cell.vm.isStatics = true ∧ cell.cls = c ∧ f.slot < cell.slots.size ∧ k.staticTypes[f.slot]? = some f.type ∧ ¬ A a
theorem vx_L.moved {C n d : String} {A : Nat → Prop} {u U : State} {H : Heap} (hvm : u.vm.Alike U.vm) (h : vx_L C n d A u H) : vx_L C n d A U H := by
  obtain ⟨c, k, i, f, a, cell, h1, h2, h3, h4, h5, h6, h7, h8, h9, h10⟩ := h
  obtain ⟨k', hi', he⟩ := State.fieldFound?_setVm hvm h2
  exact ⟨c, k', i, f, a, cell, by rw [hvm.findClass]; exact h1, hi', h3, by rw [he]; exact h4, h5, h6, h7, h8, by rw [he]; exact h9, h10⟩
theorem vx_L.kept {C n d : String} {A : Nat → Prop} {U : State} {H H1 : Heap} (h : vx_L C n d A U H) (hq : ∀ a : Nat, a < H.size → ¬ A a → H1[a]? = H[a]?) : vx_L C n d A U H1 := by
  obtain ⟨c, k, i, f, a, cell, h1, h2, h3, h4, h5, h6, h7, h8, h9, h10⟩ := h
  exact ⟨c, k, i, f, a, cell, h1, h2, h3, h4, by rw [hq a (Array.getElem?_eq_some_iff.mp h5).1 h10]; exact h5, h6, h7, h8, h9, h10⟩
theorem vx_L.narrow {C n d : String} {A B : Nat → Prop} {U : State} {H : Heap} (h : vx_L C n d A U H) (hAB : ∀ q, B q → A q) : vx_L C n d B U H := by
  obtain ⟨c, k, i, f, a, cell, h1, h2, h3, h4, h5, h6, h7, h8, h9, h10⟩ := h
  exact ⟨c, k, i, f, a, cell, h1, h2, h3, h4, h5, h6, h7, h8, h9, fun z => h10 (hAB _ z)⟩
theorem vx_L.word {C n d : String} {A : Nat → Prop} {s : State} {args : Array Value} (h : vx_L C n d A s s.heap) : (Cond.laysStatic C n d).before args s = true := by
  obtain ⟨c, k, i, f, a, cell, h1, h2, h3, h4, h5, h6, h7, h8, h9, -⟩ := h
  show (Cond.laysStatic C n d).holds args s none s [] = true
  exact Cond.laysStatic_of h1 h2 h3 h4 h5 h6 h7 h8 h9
/-- .. and what it holds: null or some reference -/
def vx_Zq (C n d : String) (A : Nat → Prop) (U : State) (H : Heap) : Prop := va_Zq C n d A U H ∧ vx_L C n d A U H
theorem vx_Zq.moved {C n d : String} {A : Nat → Prop} {u U : State} {H : Heap} (hvm : u.vm.Alike U.vm) (h : vx_Zq C n d A u H) : vx_Zq C n d A U H := ⟨va_Zq.moved hvm h.1, vx_L.moved hvm h.2⟩
theorem vx_Zq.kept {C n d : String} {A : Nat → Prop} {U : State} {H H1 : Heap} (h : vx_Zq C n d A U H) (hq : ∀ a : Nat, a < H.size → ¬ A a → H1[a]? = H[a]?) : vx_Zq C n d A U H1 := ⟨va_Zq.kept h.1 hq, vx_L.kept h.2 hq⟩
theorem vx_Zq.narrow {C n d : String} {A B : Nat → Prop} {U : State} {H : Heap} (h : vx_Zq C n d A U H) (hAB : ∀ q, B q → A q) : vx_Zq C n d B U H := ⟨va_Zq.narrow h.1 hAB, vx_L.narrow h.2 hAB⟩
theorem vx_Zqof {args : Array Value} {s : State} {C n d : String} {A : Nat → Prop} (hl : (Cond.laysStatic C n d).before args s = true) (hini : (Cond.initialized C).before args s = true) (h : (Cond.isRef (.static C n d)).before args s = true) (hA : ∀ a : Nat, a < s.heap.size → ¬ A a) : vx_Zq C n d A s s.heap := by
  refine ⟨va_Zqof hl hini h hA, ?_⟩
  obtain ⟨c, k, i, f, a, cell, h1, h2, h3, h4, h5, h6, h7, h8, h9⟩ := Cond.laysStatic_spec hl
  exact ⟨c, k, i, f, a, cell, h1, h2, h3, h4, h5, h6, h7, h8, h9, hA a (Array.getElem?_eq_some_iff.mp h5).1⟩
theorem vx_isRef {C n d : String} {v : Value} {A : Nat → Prop} {s : State} {args : Array Value} (h : va_Z C n d v A s s.heap) (hv : v.isRef = true) : (Cond.isRef (.static C n d)).before args s = true := by
  obtain ⟨cf, kf, fi, f, a, cell, h1, h2, h3, h4, h5, h6, h7, -⟩ := h
  have he : (Term.static C n d).eval args s none [] s = some v := by
    simp [Term.eval, State.fieldNamed?, h1, h2, h4, h5, h6, h7]
  simp only [Cond.before, Cond.holds, Cond.value, he]
  cases v <;> simp_all [Value.isRef]
theorem vx_isRefq {C n d : String} {A : Nat → Prop} {s : State} {args : Array Value} (h : va_Zq C n d A s s.heap) : (Cond.isRef (.static C n d)).before args s = true := by
  rcases h with h | ⟨t, h⟩
  · exact vx_isRef h rfl
  · exact vx_isRef h rfl
/-- the same frame, seen from here: as if the method were called anew in this heap -/
theorem vx_rebase {T : State} (X : Stand p l e R s m args below meth c T locs cells slots) {R' : Room} (hf : R'.frames ≤ R.frames) (hl : R'.locals ≤ R.locals) (hc : cells + R'.cells ≤ R.cells) (hs : slots + R'.slots ≤ R.slots) :
    Stand p l e R' ((T.setVm s.vm).setFrames (.invoking m args :: below)) m args below meth c T [] 0 0 := by
  have htop : (T.setVm s.vm).topJava?.isSome := X.here.top
  have hF : ((T.setVm s.vm).setFrames (.invoking m args :: below)).frames = .invoking m args :: below := State.frames_setFrames _ (State.cur_lt_of_top htop)
  obtain ⟨g₀, hg0⟩ := Option.isSome_iff_exists.mp htop
  obtain ⟨r, hr⟩ := State.topJava?_eq_some.mp hg0
  have hl9 : e.platform.stackLimits (T.setVm s.vm).me = e.platform.stackLimits s.me := X.limits
  have hb9 : (T.setVm s.vm).me.stackBytes = s.me.stackBytes := X.bytes
  refine ⟨X.admits, X.cas, X.clock, hF, ?_, X.hears, X.method, X.code, X.here, X.tail, X.warmed, ?_, ?_, ?_⟩
  · have h := X.room
    have hU : ((T.setVm s.vm).setFrames (.invoking m args :: below)).localsInUse = s.localsInUse := by
      rw [State.localsInUse_invoking hF (meth := meth) (c := c) X.method X.code, State.localsInUse_invoking X.frames X.method X.code]
    simp only [State.hasRoom, Bool.and_eq_true, decide_eq_true_eq] at h ⊢
    obtain ⟨⟨⟨⟨h1, h2, h3, h4, h5, h6⟩, h7⟩, h8⟩, h9⟩ := h
    rw [X.frames, List.length_cons] at h2 h3
    have q1 := X.heapSize
    have q2 := X.used
    simp only [hF, hU, List.length_cons, State.stackLimits_setFrames, State.stackBytes_setFrames, hl9, hb9]
    refine ⟨⟨⟨⟨by omega, by omega, by omega, by omega, by omega, h6⟩, ?_⟩, ?_⟩, X.book⟩
    · show T.heap.size + R'.cells ≤ e.platform.maxCells
      omega
    · show T.slotsUsed + R'.slots ≤ e.platform.maxSlots
      omega
  · rw [State.stackLimits_setFrames]; rfl
  · rw [State.stackBytes_setFrames]; rfl
  · refine ⟨?_, Nat.le_refl _, Nat.le_refl _, ?_, ?_, fun a c9 h9 => ⟨c9, h9, rfl, rfl, fun _ _ => rfl⟩⟩
    · obtain ⟨t, ht, -⟩ := State.frames_cons hr
      show T.setVm s.vm = { ((T.setVm s.vm).setFrames (.invoking m args :: below)).setFrames (T.setVm s.vm).frames with heap := T.heap, slotsUsed := T.slotsUsed }
      rw [State.setFrames_setFrames, State.setFrames_self ht]
      rfl
    · show T.slotsUsed = T.slotsUsed + ((T.heap.toList.drop T.heap.size).map (·.slots.size)).sum
      rw [List.drop_eq_nil_of_le (Nat.le_of_eq Array.length_toList)]
      rfl
    · show ((T.heap.toList.drop T.heap.size).map (·.slots.size)).sum ≤ 0
      rw [List.drop_eq_nil_of_le (Nat.le_of_eq Array.length_toList)]
      exact Nat.le_refl _
/-- 'throw new E()': new; dup; invokespecial; athrow -/
theorem vx_throw0 {cc : ByteArray} {pc : Nat} (hexec : p.tables.exec = Jvm.exec) (hb : c.code = cc) (hl : l.stackTraces = false) {own cls : String} {names : List String} {ik ic mc ms : Nat} {A : Nat → Prop}
    (hown : s.vm.findClass own = some m.cls) (hcls : Bundle.fit cls = true) (hnames : ∀ n ∈ names, Bundle.fit n = true)
    (hk : (Cond.classLink own ik cls).before args s = true) (hini : (Cond.initialized cls).before args s = true) (hat : ∀ w ∈ vx_at0 own ic cls names, w.before args s = true)
    (hgood : ∀ w ∈ Cond.classLink own ik cls :: Cond.initialized cls :: vx_at0 own ic cls names, vx_ot w = true)
    (hU : vx_Zq Bundle.tN "UNASSIGNED_STACK" Bundle.steD A s s.heap) (hN : vx_Zq Bundle.tN "SUPPRESSED_SENTINEL" Bundle.listD A s s.heap) (hS : va_S A s.heap H locs) (hsize : ls.size = c.maxLocals)
    (d0 : decode cc pc = .ok (.new ik, 3)) (d3 : decode cc (pc + 3) = .ok (.dup, 1)) (d4 : decode cc (pc + 4) = .ok (.invokespecial ic, 3)) (d7 : decode cc (pc + 7) = .ok (.athrow, 1))
    (hout : ∀ x ∈ c.exceptionTable.toList, covers x (pc + 7) = false)
    (hRframes : names.length + 3 < R.frames) (hRlocals : (rest.map fun v => v.category).sum + (13 * (names.length + 1) + 42) ≤ R.locals) (hRcells : cells + 1 ≤ R.cells) (hRslots : slots + 6 ≤ R.slots) (hlocks : meth.locks = false)
    (hx : ∀ t : State, s.vm.Alike t.vm → H.size ≤ t.heap.size → (∀ q : Nat, q < H.size → t.heap[q]? = H[q]?) → XC cls s t)
    (hf : ∀ z ∈ locs, free z.base) (hc : cells + 1 ≤ mc) (hs : slots + 6 ≤ ms) :
    W p l e R s m args below meth c H locs cells slots (vx_MQ below Qc XC args s mc ms free) (F0 m pc ls rest) := by
  intro T hT X
  have htr : e.platform.stackTraces = false := (show e.platform.stackTraces = l.stackTraces by rw [X.admits.platform]).trans hl
  have Y := vx_rebase X (R' := { frames := R.frames, locals := R.locals, cells := 1, slots := 6 }) (Nat.le_refl _) (Nat.le_refl _) hRcells hRslots
  obtain ⟨s', hA⟩ : ∃ z, z = (T.setVm s.vm).setFrames (.invoking m args :: below) := ⟨_, rfl⟩
  rw [← hA] at Y
  have hvm : s'.vm = s.vm := by rw [hA]; rfl
  have hhp : s'.heap = H := by rw [hA]; exact hT
  have hW0 : s.WarmedH s'.vm := by rw [hvm]; exact State.WarmedH.refl s
  have hat' : ∀ w ∈ vx_at0 own ic cls names, w.before args s' = true := fun w hw => vx_ot_at hW0 hvm.symm (hgood w (List.mem_cons_of_mem _ (List.mem_cons_of_mem _ hw))) (hat w hw)
  have hk' : (Cond.classLink own ik cls).before args s' = true := vx_ot_at hW0 hvm.symm (hgood _ List.mem_cons_self) hk
  have hini' : (Cond.initialized cls).before args s' = true := vx_ot_at hW0 hvm.symm (hgood _ (List.mem_cons_of_mem _ List.mem_cons_self)) hini
  have hU' : vx_Zq Bundle.tN "UNASSIGNED_STACK" Bundle.steD A s' s'.heap := by rw [hhp]; exact vx_Zq.moved hW0.alike (hU.kept hS.2.1)
  have hN' : vx_Zq Bundle.tN "SUPPRESSED_SENTINEL" Bundle.listD A s' s'.heap := by rw [hhp]; exact vx_Zq.moved hW0.alike (hN.kept hS.2.1)
  have h : ∀ w ∈ Bundle.ownAtoms0 own ic cls names, w.before args s' = true := vx_own hat' (vx_isRefq hU'.1) (vx_isRefq hN'.1) hU'.2.word hN'.2.word
  have hown' : s'.vm.findClass own = some m.cls := by rw [hvm]; exact hown
  have hins : (Cond.instantiable cls 6).before args s' = true := h _ (by simp [Bundle.ownAtoms0])
  obtain ⟨vm₁, cX, kX, hfX, hkX, -, -, X₁, st1⟩ := Y.newCold hexec (own := own) (C := cls) (index := ik) (n := 6) hown' hk' hins hini'
    (g := F0 m pc ls rest) rfl (by rw [hb]; exact d0) (Nat.le_refl _) (Nat.le_refl _)
  generalize hT1 : (T.setVm vm₁).pushCell { cls := cX, slots := kX.instanceTypes.map defaultValue, vm := .none } = T1 at X₁ st1
  have hcat : (Value.ref T.heap.size).category = 1 := rfl
  have hcellA : T1.heap[T.heap.size]? = some (freshCell cX kX) := by rw [← hT1]; exact State.heap_pushCell_size _ _
  have d3' : decode c.code (pc + 3) = .ok (.dup, 1) := by rw [hb]; exact d3
  obtain ⟨U, hsteps, hrun, hend, hW, hsame, ce, hce, hO⟩ := X₁.ctorThrow0 hexec htr (own := own) (cls := cls) (names := names) (ic := ic) hown' hcls hnames h (fun x hx => nomatch hx) hfX hkX hcellA (by rw [hhp, hT]; exact Nat.le_refl _)
    (g := { method := m, pc := pc + 4, locals := ls, stack := .ref T.heap.size :: .ref T.heap.size :: rest, locked := none }) rfl hsize rfl rfl (rest := rest) rfl
    (by rw [hb]; exact d4) (by rw [hb]; exact d7) hout hRframes (by simp only [List.map_cons, List.sum_cons, hcat]; omega) hlocks
  obtain ⟨f1, f2⟩ := vx_frame hsame
  rw [hhp] at f1 f2
  have hWs : s.WarmedH U.vm := State.WarmedH.trans hW0 hW
  have hcl : s.vm.findClass cls = some ce.cls := by
    have h9 := hO.cls
    rw [hvm] at h9
    exact h9
  have hall : s.sameButNew ({ U with vm := s.vm } : State) locs mc ms := by
    subst hA
    obtain ⟨e1, e2⟩ := hsame
    rw [State.setFrames_setFrames] at e1
    have h2 : (T.setVm s.vm).sameButNew ({ U with vm := s.vm } : State) [] (0 + 1) (0 + 6) := ⟨e1, e2⟩
    have h3 := X.same.trans h2
    rw [List.append_nil] at h3
    exact h3.mono hc hs
  refine ⟨U, ?_, .threw T.heap.size, hrun, hend, Or.inr ⟨T.heap.size, rfl, cls, ce, locs, hx U hWs.alike f1 (fun q hq => f2 q hq (fun z hz => nomatch hz)), hce, hO.vm, hcl, hWs, hall, hf⟩⟩
  refine st1 _ ?_
  show Steps p.tables e below (T1.setTop { method := m, pc := pc + 3, locals := ls, stack := .ref T.heap.size :: rest, locked := none }) _
  jvm_step X₁.here [X₁.here.top, hexec, d3', Value.category]
  exact hsteps
/-- 'throw new E("text")': new; dup; ldc; invokespecial; athrow -/
theorem vx_throwS {cc : ByteArray} {pc : Nat} (hexec : p.tables.exec = Jvm.exec) (hb : c.code = cc) (hl : l.stackTraces = false) {own cls text : String} {names : List String} {ik is ic mc ms sa : Nat} {A : Nat → Prop}
    (hown : s.vm.findClass own = some m.cls) (hcls : Bundle.fit cls = true) (hnames : ∀ n ∈ names, Bundle.fit n = true)
    (hk : (Cond.classLink own ik cls).before args s = true) (hini : (Cond.initialized cls).before args s = true) (hstr : vk_R own is text sa s) (hat : ∀ w ∈ vx_atS own ic cls names, w.before args s = true)
    (hgood : ∀ w ∈ Cond.classLink own ik cls :: Cond.initialized cls :: vx_atS own ic cls names, vx_ot w = true)
    (hU : vx_Zq Bundle.tN "UNASSIGNED_STACK" Bundle.steD A s s.heap) (hN : vx_Zq Bundle.tN "SUPPRESSED_SENTINEL" Bundle.listD A s s.heap) (hS : va_S A s.heap H locs) (hsize : ls.size = c.maxLocals)
    (d0 : decode cc pc = .ok (.new ik, 3)) (d3 : decode cc (pc + 3) = .ok (.dup, 1)) (d4 : decode cc (pc + 4) = .ok (.ldc is, 2)) (d6 : decode cc (pc + 6) = .ok (.invokespecial ic, 3)) (d9 : decode cc (pc + 9) = .ok (.athrow, 1))
    (hout : ∀ x ∈ c.exceptionTable.toList, covers x (pc + 9) = false)
    (hRframes : names.length + 3 < R.frames) (hRlocals : (rest.map fun v => v.category).sum + (13 * (names.length + 1) + 43) ≤ R.locals) (hRcells : cells + 1 ≤ R.cells) (hRslots : slots + 6 ≤ R.slots) (hlocks : meth.locks = false)
    (hx : ∀ t : State, s.vm.Alike t.vm → H.size ≤ t.heap.size → (∀ q : Nat, q < H.size → t.heap[q]? = H[q]?) → XC cls s t)
    (hf : ∀ z ∈ locs, free z.base) (hc : cells + 1 ≤ mc) (hs : slots + 6 ≤ ms) :
    W p l e R s m args below meth c H locs cells slots (vx_MQ below Qc XC args s mc ms free) (F0 m pc ls rest) := by
  intro T hT X
  have htr : e.platform.stackTraces = false := (show e.platform.stackTraces = l.stackTraces by rw [X.admits.platform]).trans hl
  have Y := vx_rebase X (R' := { frames := R.frames, locals := R.locals, cells := 1, slots := 6 }) (Nat.le_refl _) (Nat.le_refl _) hRcells hRslots
  obtain ⟨s', hA⟩ : ∃ z, z = (T.setVm s.vm).setFrames (.invoking m args :: below) := ⟨_, rfl⟩
  rw [← hA] at Y
  have hvm : s'.vm = s.vm := by rw [hA]; rfl
  have hhp : s'.heap = H := by rw [hA]; exact hT
  have hW0 : s.WarmedH s'.vm := by rw [hvm]; exact State.WarmedH.refl s
  have hat' : ∀ w ∈ vx_atS own ic cls names, w.before args s' = true := fun w hw => vx_ot_at hW0 hvm.symm (hgood w (List.mem_cons_of_mem _ (List.mem_cons_of_mem _ hw))) (hat w hw)
  have hk' : (Cond.classLink own ik cls).before args s' = true := vx_ot_at hW0 hvm.symm (hgood _ List.mem_cons_self) hk
  have hini' : (Cond.initialized cls).before args s' = true := vx_ot_at hW0 hvm.symm (hgood _ (List.mem_cons_of_mem _ List.mem_cons_self)) hini
  have hU' : vx_Zq Bundle.tN "UNASSIGNED_STACK" Bundle.steD A s' s'.heap := by rw [hhp]; exact vx_Zq.moved hW0.alike (hU.kept hS.2.1)
  have hN' : vx_Zq Bundle.tN "SUPPRESSED_SENTINEL" Bundle.listD A s' s'.heap := by rw [hhp]; exact vx_Zq.moved hW0.alike (hN.kept hS.2.1)
  have h : ∀ w ∈ Bundle.ownAtoms own ic cls names, w.before args s' = true := vx_own hat' (vx_isRefq hU'.1) (vx_isRefq hN'.1) hU'.2.word hN'.2.word
  have hown' : s'.vm.findClass own = some m.cls := by rw [hvm]; exact hown
  have hins : (Cond.instantiable cls 6).before args s' = true := h _ (by simp [Bundle.ownAtoms])
  obtain ⟨vm₁, cX, kX, hfX, hkX, -, -, X₁, st1⟩ := Y.newCold hexec (own := own) (C := cls) (index := ik) (n := 6) hown' hk' hins hini'
    (g := F0 m pc ls rest) rfl (by rw [hb]; exact d0) (Nat.le_refl _) (Nat.le_refl _)
  generalize hT1 : (T.setVm vm₁).pushCell { cls := cX, slots := kX.instanceTypes.map defaultValue, vm := .none } = T1 at X₁ st1
  have hcat : (Value.ref T.heap.size).category = 1 := rfl
  have hcellA : T1.heap[T.heap.size]? = some (freshCell cX kX) := by rw [← hT1]; exact State.heap_pushCell_size _ _
  have d3' : decode c.code (pc + 3) = .ok (.dup, 1) := by rw [hb]; exact d3
  have d4' : decode c.code (pc + 4) = .ok (.ldc is, 2) := by rw [hb]; exact d4
  have hstr' : vk_R own is text sa s' := vk_R.warm hW0 hstr
  obtain ⟨U, hsteps, hrun, hend, hW, hsame, ce, hce, hO⟩ := X₁.ctorThrowS hexec htr (own := own) (cls := cls) (names := names) (ic := ic) hown' hcls hnames h (fun x hx => nomatch hx) hfX hkX hcellA (by rw [hhp, hT]; exact Nat.le_refl _) (msg := .ref sa) rfl
    (g := { method := m, pc := pc + 6, locals := ls, stack := .ref sa :: .ref T.heap.size :: .ref T.heap.size :: rest, locked := none }) rfl hsize rfl rfl (rest := rest) rfl
    (by rw [hb]; exact d6) (by rw [hb]; exact d9) hout hRframes (by simp only [List.map_cons, List.sum_cons, hcat]; omega) hlocks
  obtain ⟨f1, f2⟩ := vx_frame hsame
  rw [hhp] at f1 f2
  have hWs : s.WarmedH U.vm := State.WarmedH.trans hW0 hW
  have hcl : s.vm.findClass cls = some ce.cls := by
    have h9 := hO.cls
    rw [hvm] at h9
    exact h9
  have hall : s.sameButNew ({ U with vm := s.vm } : State) locs mc ms := by
    subst hA
    obtain ⟨e1, e2⟩ := hsame
    rw [State.setFrames_setFrames] at e1
    have h2 : (T.setVm s.vm).sameButNew ({ U with vm := s.vm } : State) [] (0 + 1) (0 + 6) := ⟨e1, e2⟩
    have h3 := X.same.trans h2
    rw [List.append_nil] at h3
    exact h3.mono hc hs
  refine ⟨U, ?_, .threw T.heap.size, hrun, hend, Or.inr ⟨T.heap.size, rfl, cls, ce, locs, hx U hWs.alike f1 (fun q hq => f2 q hq (fun z hz => nomatch hz)), hce, hO.vm, hcl, hWs, hall, hf⟩⟩
  refine st1 _ ?_
  show Steps p.tables e below (T1.setTop { method := m, pc := pc + 3, locals := ls, stack := .ref T.heap.size :: rest, locked := none }) _
  jvm_step X₁.here [X₁.here.top, hexec, d3', Value.category]
  exact X₁.ldcString hexec (own := own) (text := text) (index := is) (a := sa) hown' hstr'.1 hstr'.2
    (g := { method := m, pc := pc + 4, locals := ls, stack := .ref T.heap.size :: .ref T.heap.size :: rest, locked := none }) rfl d4' _ hsteps
/-- 'throw new E("text")', the text by a wide index -/
theorem vx_throwSW {cc : ByteArray} {pc : Nat} (hexec : p.tables.exec = Jvm.exec) (hb : c.code = cc) (hl : l.stackTraces = false) {own cls text : String} {names : List String} {ik is ic mc ms sa : Nat} {A : Nat → Prop}
    (hown : s.vm.findClass own = some m.cls) (hcls : Bundle.fit cls = true) (hnames : ∀ n ∈ names, Bundle.fit n = true)
    (hk : (Cond.classLink own ik cls).before args s = true) (hini : (Cond.initialized cls).before args s = true) (hstr : vk_R own is text sa s) (hat : ∀ w ∈ vx_atS own ic cls names, w.before args s = true)
    (hgood : ∀ w ∈ Cond.classLink own ik cls :: Cond.initialized cls :: vx_atS own ic cls names, vx_ot w = true)
    (hU : vx_Zq Bundle.tN "UNASSIGNED_STACK" Bundle.steD A s s.heap) (hN : vx_Zq Bundle.tN "SUPPRESSED_SENTINEL" Bundle.listD A s s.heap) (hS : va_S A s.heap H locs) (hsize : ls.size = c.maxLocals)
    (d0 : decode cc pc = .ok (.new ik, 3)) (d3 : decode cc (pc + 3) = .ok (.dup, 1)) (d4 : decode cc (pc + 4) = .ok (.ldc_w is, 3)) (d7 : decode cc (pc + 7) = .ok (.invokespecial ic, 3)) (d10 : decode cc (pc + 10) = .ok (.athrow, 1))
    (hout : ∀ x ∈ c.exceptionTable.toList, covers x (pc + 10) = false)
    (hRframes : names.length + 3 < R.frames) (hRlocals : (rest.map fun v => v.category).sum + (13 * (names.length + 1) + 43) ≤ R.locals) (hRcells : cells + 1 ≤ R.cells) (hRslots : slots + 6 ≤ R.slots) (hlocks : meth.locks = false)
    (hx : ∀ t : State, s.vm.Alike t.vm → H.size ≤ t.heap.size → (∀ q : Nat, q < H.size → t.heap[q]? = H[q]?) → XC cls s t)
    (hf : ∀ z ∈ locs, free z.base) (hc : cells + 1 ≤ mc) (hs : slots + 6 ≤ ms) :
    W p l e R s m args below meth c H locs cells slots (vx_MQ below Qc XC args s mc ms free) (F0 m pc ls rest) := by
  intro T hT X
  have htr : e.platform.stackTraces = false := (show e.platform.stackTraces = l.stackTraces by rw [X.admits.platform]).trans hl
  have Y := vx_rebase X (R' := { frames := R.frames, locals := R.locals, cells := 1, slots := 6 }) (Nat.le_refl _) (Nat.le_refl _) hRcells hRslots
  obtain ⟨s', hA⟩ : ∃ z, z = (T.setVm s.vm).setFrames (.invoking m args :: below) := ⟨_, rfl⟩
  rw [← hA] at Y
  have hvm : s'.vm = s.vm := by rw [hA]; rfl
  have hhp : s'.heap = H := by rw [hA]; exact hT
  have hW0 : s.WarmedH s'.vm := by rw [hvm]; exact State.WarmedH.refl s
  have hat' : ∀ w ∈ vx_atS own ic cls names, w.before args s' = true := fun w hw => vx_ot_at hW0 hvm.symm (hgood w (List.mem_cons_of_mem _ (List.mem_cons_of_mem _ hw))) (hat w hw)
  have hk' : (Cond.classLink own ik cls).before args s' = true := vx_ot_at hW0 hvm.symm (hgood _ List.mem_cons_self) hk
  have hini' : (Cond.initialized cls).before args s' = true := vx_ot_at hW0 hvm.symm (hgood _ (List.mem_cons_of_mem _ List.mem_cons_self)) hini
  have hU' : vx_Zq Bundle.tN "UNASSIGNED_STACK" Bundle.steD A s' s'.heap := by rw [hhp]; exact vx_Zq.moved hW0.alike (hU.kept hS.2.1)
  have hN' : vx_Zq Bundle.tN "SUPPRESSED_SENTINEL" Bundle.listD A s' s'.heap := by rw [hhp]; exact vx_Zq.moved hW0.alike (hN.kept hS.2.1)
  have h : ∀ w ∈ Bundle.ownAtoms own ic cls names, w.before args s' = true := vx_own hat' (vx_isRefq hU'.1) (vx_isRefq hN'.1) hU'.2.word hN'.2.word
  have hown' : s'.vm.findClass own = some m.cls := by rw [hvm]; exact hown
  have hins : (Cond.instantiable cls 6).before args s' = true := h _ (by simp [Bundle.ownAtoms])
  obtain ⟨vm₁, cX, kX, hfX, hkX, -, -, X₁, st1⟩ := Y.newCold hexec (own := own) (C := cls) (index := ik) (n := 6) hown' hk' hins hini'
    (g := F0 m pc ls rest) rfl (by rw [hb]; exact d0) (Nat.le_refl _) (Nat.le_refl _)
  generalize hT1 : (T.setVm vm₁).pushCell { cls := cX, slots := kX.instanceTypes.map defaultValue, vm := .none } = T1 at X₁ st1
  have hcat : (Value.ref T.heap.size).category = 1 := rfl
  have hcellA : T1.heap[T.heap.size]? = some (freshCell cX kX) := by rw [← hT1]; exact State.heap_pushCell_size _ _
  have d3' : decode c.code (pc + 3) = .ok (.dup, 1) := by rw [hb]; exact d3
  have d4' : decode c.code (pc + 4) = .ok (.ldc_w is, 3) := by rw [hb]; exact d4
  have hstr' : vk_R own is text sa s' := vk_R.warm hW0 hstr
  obtain ⟨U, hsteps, hrun, hend, hW, hsame, ce, hce, hO⟩ := X₁.ctorThrowS hexec htr (own := own) (cls := cls) (names := names) (ic := ic) hown' hcls hnames h (fun x hx => nomatch hx) hfX hkX hcellA (by rw [hhp, hT]; exact Nat.le_refl _) (msg := .ref sa) rfl
    (g := { method := m, pc := pc + 7, locals := ls, stack := .ref sa :: .ref T.heap.size :: .ref T.heap.size :: rest, locked := none }) rfl hsize rfl rfl (rest := rest) rfl
    (by rw [hb]; exact d7) (by rw [hb]; exact d10) hout hRframes (by simp only [List.map_cons, List.sum_cons, hcat]; omega) hlocks
  obtain ⟨f1, f2⟩ := vx_frame hsame
  rw [hhp] at f1 f2
  have hWs : s.WarmedH U.vm := State.WarmedH.trans hW0 hW
  have hcl : s.vm.findClass cls = some ce.cls := by
    have h9 := hO.cls
    rw [hvm] at h9
    exact h9
  have hall : s.sameButNew ({ U with vm := s.vm } : State) locs mc ms := by
    subst hA
    obtain ⟨e1, e2⟩ := hsame
    rw [State.setFrames_setFrames] at e1
    have h2 : (T.setVm s.vm).sameButNew ({ U with vm := s.vm } : State) [] (0 + 1) (0 + 6) := ⟨e1, e2⟩
    have h3 := X.same.trans h2
    rw [List.append_nil] at h3
    exact h3.mono hc hs
  refine ⟨U, ?_, .threw T.heap.size, hrun, hend, Or.inr ⟨T.heap.size, rfl, cls, ce, locs, hx U hWs.alike f1 (fun q hq => f2 q hq (fun z hz => nomatch hz)), hce, hO.vm, hcl, hWs, hall, hf⟩⟩
  refine st1 _ ?_
  show Steps p.tables e below (T1.setTop { method := m, pc := pc + 3, locals := ls, stack := .ref T.heap.size :: rest, locked := none }) _
  jvm_step X₁.here [X₁.here.top, hexec, d3', Value.category]
  exact X₁.ldcStringW hexec (own := own) (text := text) (index := is) (a := sa) hown' hstr'.1 hstr'.2
    (g := { method := m, pc := pc + 4, locals := ls, stack := .ref T.heap.size :: .ref T.heap.size :: rest, locked := none }) rfl d4' _ hsteps
end Ends
section Bodies
variable {l : Launch}
theorem vx_ofW {y : MethodName} {ws ws' : List Cond} {rm : Room} {Pc : Array Value → State → Prop} {Qc : Array Value → State → Outcome → State → Prop} {XC : String → State → State → Prop} {mc ms : Nat} {free : Addr → Prop} {cc : ByteArray} {maxL : Nat} {ret : Option FieldType}
    (hy : plainName y.cls = true) (hw : ws = Cond.code y cc maxL ret :: ws')
    (body : ∀ p e s m args below meth c s₁, BodyLoose p l y (headSpec ws rm) cc maxL ret e s m args below meth c s₁ → c.maxLocals = maxL → (∀ x ∈ c.exceptionTable.toList, False) → Pc args s →
      W p l e (headSpec ws rm).room s m args below meth c s.heap [] 0 0 (vx_MQ below Qc XC args s mc ms free) (entryFrame m args maxL)) : vx_Met l y ws rm Pc Qc XC mc ms free := by
  refine MetFree.of_bodyS (code := cc) (maxLocals := maxL) (ret := ret) hy ?_ ?_
  · intro args s m h hn
    obtain ⟨meth, c, h1, h2, h3, h4, h5, h6, -, -⟩ := Cond.code_spec hn (atoms_spec (ws := ws) h _ (by rw [hw]; exact List.mem_cons_self))
    exact ⟨meth, c, h1, h2, h3, h4, h5, h6⟩
  · intro p e s m args below meth c s₁ B hml hP _
    have hh0 : s₁.heap = s.heap := by rw [B.state]; rfl
    have ht : ∀ x ∈ c.exceptionTable.toList, False := by
      obtain ⟨meth9, c9, h1, h2, -, -, -, -, h7, -⟩ := Cond.code_spec B.named (atoms_spec (ws := ws) B.pre _ (by rw [hw]; exact List.mem_cons_self))
      cases Option.some.inj (h1.symm.trans B.method)
      cases Option.some.inj (h2.symm.trans (Stand.of_body B).code)
      intro x hx
      rw [Array.isEmpty_iff.mp h7] at hx
      cases hx
    obtain ⟨t, a1, o, b1, b2, b3⟩ := body p e s m args below meth c s₁ B hml ht hP s₁ hh0 (Stand.of_body B)
    exact ⟨t, o, a1, b1, b2, b3⟩
/-- the table of a body with handlers -/
theorem vx_table {p : Program} {x y : MethodName} {S : Spec} {cc bytes : ByteArray} {maxL maxL' : Nat} {ret ret' : Option FieldType} {e : Env} {s s₁ : State} {m : MethodId} {args : Array Value} {below : List Frame} {meth : Method} {c : Code} {hh : List (Nat × Nat × Nat × Nat)}
    (B : BodyLoose p l y S cc maxL ret e s m args below meth c s₁) (h : (Cond.codeWith y bytes maxL' ret' hh).before args s = true) : c.exceptionTable.toList = tableOf hh := by
  obtain ⟨m9, meth9, c9, hn9, h1, h2, -, -, h6, -⟩ := Cond.codeWith_spec h
  cases Option.some.inj (hn9.symm.trans B.named)
  cases Option.some.inj (h1.symm.trans B.method)
  cases Option.some.inj (h2.symm.trans (Stand.of_body B).code)
  rw [← h6, table_eq]
end Bodies
end VXA
/-! ===== END ===== -/
/-! ===== BEGIN a static call of a method with an exception table ===== -/
section VXS
variable {p : Program} {l : Launch} {e : Env} {R : Room} {s : State} {m : MethodId} {args : Array Value} {below : List Frame} {meth : Method} {c : Code} {T : State} {H : Heap} {locs : List Loc} {cells slots : Nat}
abbrev vx_CSW (R : Room) (s : State) (args : Array Value) (own : String) (index : Nat) (y : MethodName) (bytes : ByteArray) (maxL : Nat) (ret : Option FieldType) (hh : List (Nat × Nat × Nat × Nat)) (ws : List Cond) (rm : Room) (mc ms n : Nat) : Prop :=
  (rm.cells = mc ∧ rm.slots = ms ∧ rm.frames + 1 ≤ R.frames ∧ 8 + (maxL + 11) + rm.locals ≤ R.locals ∧ (∀ w ∈ ws, ∀ (a' : Array Value) (U : State), s.WarmedH U.vm → w.before a' U = true) ∧ Cond.codeWith y bytes maxL ret hh ∈ ws) ∧
  (Cond.codeWith y bytes maxL ret hh).before args s = true ∧ (Cond.initialized y.cls).before args s = true ∧ (y.cls ≠ "java/lang/invoke/MethodHandle" ∧ y.cls ≠ "java/lang/invoke/VarHandle") ∧
  (∀ sig, parseMethodDescriptor y.desc = some sig → n = sig.parameters.length) ∧ (Cond.methodLink own index y).before args s = true ∧ (Cond.static y).before args s = true
theorem vx_cwSW {own : String} {index maxL mc ms : Nat} {y : MethodName} {bytes : ByteArray} {ret : Option FieldType} {hh : List (Nat × Nat × Nat × Nat)} {Ts ws ws' : List Cond} {rm : Room} (n : Nat) (ht : ∀ w ∈ Ts, w.before args s = true) (hT : GoodIn Ts (va_wsS own index y ws)) (hw : ws = Cond.codeWith y bytes maxL ret hh :: ws') (hrc : rm.cells = mc) (hrs : rm.slots = ms)
    (hd : y.cls ≠ "java/lang/invoke/MethodHandle" ∧ y.cls ≠ "java/lang/invoke/VarHandle" ∧ (parseMethodDescriptor y.desc).map (fun d => d.parameters.length) = some n) (hR : rm.frames + 1 ≤ R.frames ∧ 8 + (maxL + 11) + rm.locals ≤ R.locals) :
    vx_CSW R s args own index y bytes maxL ret hh ws rm mc ms n := by
  have ok : ∀ w ∈ va_wsS own index y ws, w.before args s = true := fun w h => ht w (hT w h).1
  have hG : GoodIn Ts ws := fun w h => hT w (by unfold va_wsS; exact List.mem_append_right _ h)
  have hc : Cond.codeWith y bytes maxL ret hh ∈ ws := by rw [hw]; exact List.mem_cons_self
  refine ⟨⟨hrc, hrs, hR.1, hR.2, pay_in ht hG, hc⟩, ht _ (hG _ hc).1, ok _ (by simp [va_wsS]), ⟨hd.1, hd.2.1⟩, fun sig h => ?_, ok _ (by simp [va_wsS]), ok _ (by simp [va_wsS])⟩
  have h2 := hd.2.2
  rw [h] at h2
  exact (Option.some.inj h2).symm
theorem vx_callSW (X : Stand p l e R s m args below meth c T locs cells slots) (hexec : p.tables.exec = Jvm.exec) {own : String} {index : Nat} {y : MethodName} {bytes : ByteArray} {maxL : Nat} {ret : Option FieldType} {hh : List (Nat × Nat × Nat × Nat)}
    (hown : s.vm.findClass own = some m.cls) (hlink : (Cond.methodLink own index y).before args s = true) (hstat : (Cond.static y).before args s = true) (hinit : (Cond.initialized y.cls).before args s = true)
    (hcode : (Cond.codeWith y bytes maxL ret hh).before args s = true) (hy : y.cls ≠ "java/lang/invoke/MethodHandle" ∧ y.cls ≠ "java/lang/invoke/VarHandle")
    {W9 : Nat} {Pre : Pt → Array Value → Prop} {Post : Pt → Array Value → Option Value → Pt → Prop} (hK : Back l R p e below s args y 3 W9 Pre Post)
    {g : JFrame} (hg : g.method = m) (hsize : g.locals.size = c.maxLocals) {argsL rest : List Value} (hlen : ∀ sig, parseMethodDescriptor y.desc = some sig → argsL.length = sig.parameters.length)
    (hstack : g.stack = argsL.reverse ++ rest) (hW : 2 * g.monitorRoom + (rest.map fun v => v.category).sum ≤ W9) (hdg : decode c.code g.pc = .ok (.invokestatic index, 3))
    (hpre : ∀ vm₁, s.WarmedH vm₁ → Pre ⟨T.setVm vm₁, locs, cells, slots⟩ argsL.toArray) :
    ∃ (v : Option Value) (vm₁ : Vm) (B : Pt), s.WarmedH vm₁ ∧ Stand p l e R s m args below meth c B.U B.locs B.cells B.slots ∧ Post ⟨T.setVm vm₁, locs, cells, slots⟩ argsL.toArray v B ∧
      ∀ target, Steps p.tables e below (B.U.setTop { g with pc := g.pc + 3, stack := v.toList ++ rest }) target → Steps p.tables e below (T.setTop g) target := by
  obtain ⟨mk, methM, cM, hnamed, hmethM, -, -, -, -, -, -, hsigM⟩ := Cond.codeWith_spec hcode
  have hstatic : methM.isStatic = true := Cond.static_spec hnamed hmethM hstat
  obtain ⟨kP, hkP, -⟩ := className_of_methodNamed hnamed
  have hinitP : kP.init = .initialized := Cond.initialized_spec (findClass_of_methodNamed hnamed) hkP hinit
  obtain ⟨vm₁, X₁, hstep₁⟩ := X.invokestatic hexec hown hlink hnamed hmethM hstatic hkP hinitP hy (g := g) hg (argsL := argsL) (rest := rest) (hlen _ hsigM) hstack hdg
  obtain ⟨v, B, X', hpost, hsteps⟩ := hK m meth c ⟨T.setVm vm₁, locs, cells, slots⟩ { g with stack := rest } (.invokestatic index) mk argsL.toArray X₁ hg hsize hdg hW (X₁.named hnamed) (hpre vm₁ X₁.warmed)
  exact ⟨v, vm₁, B, X₁.warmed, X', hpost, fun target h => hstep₁ _ fun acts => by rw [doInvoke_state]; exact hsteps.trans h⟩
theorem vx_runSW {y : MethodName} {bytes cc : ByteArray} {maxL nL mc ms n index : Nat} {ret : Option FieldType} {hh : List (Nat × Nat × Nat × Nat)} {ws : List Cond} {rm : Room} {Pc : Array Value → State → Prop} {Qc : Array Value → State → Outcome → State → Prop} {free : Addr → Prop} {Ts : List Cond} {own : String} {As rest : List Value} {g : JFrame}
    (S : CallFix p m c cc nL s args Ts own) (hM : Met l y ws rm Pc Qc mc ms free) (cw : vx_CSW R s args own index y bytes maxL ret hh ws rm mc ms n) (hp : PreS s H Pc As)
    (hg : g.method = m) (hn : As.length = n) (hsize : g.locals.size = nL) (hstack : g.stack = As.reverse ++ rest) (hW : 2 * g.monitorRoom + (rest.map fun v => v.category).sum ≤ 8) (hdg : decode cc g.pc = .ok (.invokestatic index, 3)) (hf : cells + mc ≤ R.cells ∧ slots + ms ≤ R.slots) :
    va_Run p l e R s m args below meth c H locs cells slots mc ms g rest (Qc As.toArray) (free) := by
  obtain ⟨⟨hrc, hrs, hfr, hlo, hws, hcw⟩, hcode, hini, hy, hlen, hl, hstt⟩ := cw
  have hK : Back l R p e below s args y 3 8 (PreOf R mc ms Pc) (PostOf Qc mc ms free) := va_backW (hh := hh) (bytes := bytes) (maxL := maxL) (ret := ret) hM hp.1 hrc hrs hfr hlo hws hcw (fun a' U hW => word_at hW (Or.inl (by first | rfl | simp [Cond.onTables, Cond.keeps, Cond.steady])) hini)
  obtain ⟨hx, hb, hml, ho, -⟩ := S
  intro T hT X
  obtain ⟨v, vm₁, ⟨U', l2, c2, s2⟩, hW₁, X', ⟨g', mk, t, L, e1, e2, hq, h1, hL, h2, h3⟩, st⟩ := vx_callSW X hx (hh := hh) (bytes := bytes) (maxL := maxL) (ret := ret) ho hl hstt hini hcode hy hK hg (hsize.trans hml.symm) (argsL := As) (rest := rest) (fun sig h => hn.trans (hlen sig h)) hstack hW (by rw [hb]; exact hdg)
    (fun vm₁ hW₁ => ⟨hf.1, hf.2, hp.2 (T.setVm vm₁) hT hW₁⟩)
  dsimp only [Pt.U, Pt.locs, Pt.cells, Pt.slots] at X' e1 e2 h1 h2 h3 st
  subst h1; subst h2; subst h3
  exact ⟨v, (T.setVm vm₁).calling g' mk As.toArray, t, U', L, hT, X', hL, e1, e2, hq, st⟩
/-- not caught here, past rows that name other classes: it goes on to the caller -/
theorem vx_outP {p : Program} {l : Launch} {e : Env} {R : Room} {s : State} {m : MethodId} {args : Array Value} {below : List Frame} {meth : Method} {c : Code} {H : Heap} {locs : List Loc} {cells slots : Nat} {free : Addr → Prop} {ls : Array Slot} {rest : List Value} {Qc : Array Value → State → Outcome → State → Prop} {XC : String → State → State → Prop}
    {pc : Nat} {own E : String} {ce : Cell} {q : Addr} {mc ms : Nat} (hown : s.vm.findClass own = some m.cls) (hlocks : meth.locks = false)
    (hpass : ∀ z ∈ c.exceptionTable.toList, covers z pc = false ∨ (z.catchType ≠ 0 ∧ ∃ nm : String, (Cond.classLink own z.catchType nm).before args s = true ∧ va_Nc E nm s)) (hcell : H[q]? = some ce) (hv : ce.vm = .none) (hcl : s.vm.findClass E = some ce.cls)
    (hx : ∀ t : State, t.heap = H → s.vm.Alike t.vm → XC E s t) (hf : ∀ z ∈ locs, free z.base) (hc : cells ≤ mc) (hs : slots ≤ ms) :
    vx_W p l e R s m args below meth c H locs cells slots (vx_MQ below Qc XC args s mc ms free) (F0 m pc ls rest) q := by
  intro T hT X
  have hpl : e.platform.magicAccessors = ({} : Platform).magicAccessors := by rw [X.admits.platform]
  obtain ⟨vm', hW', X', st⟩ := X.outThrough hlocks q (g := F0 m pc ls rest) rfl rfl rfl (cell := ce) (by rw [hT]; exact hcell) (by rw [hv]; rfl)
    (by obtain ⟨k9, h9, -⟩ := Vm.findClass_spec hcl; exact ⟨k9, h9⟩) (fun z hz => by
      rcases hpass z hz with h | ⟨hz0, nm, hl1, hn1⟩
      · exact Or.inl h
      · obtain ⟨c6, hc6, hcl6⟩ := Cond.classLink_spec hown hl1 e.platform hpl
        obtain ⟨a8, b8, h1, h2, h3⟩ := hn1
        cases Option.some.inj (h1.symm.trans hcl)
        cases Option.some.inj (h2.symm.trans hc6)
        exact Or.inr ⟨hz0, _, hcl6, h3⟩)
  obtain ⟨g₀, hfr⟩ := X'.frames_eq
  have hcell9 : ((T.setVm vm').setFrames (.throwing q :: below)).heap[q]? = some ce := by
    show T.heap[q]? = some ce
    rw [hT]; exact hcell
  have hend : Ended ((T.setVm vm').setFrames (.throwing q :: below)) below (.threw q) := State.frames_setFrames _ (State.cur_lt_of_frames hfr)
  refine ⟨(T.setVm vm').setFrames (.throwing q :: below), ?_, .threw q, X'.here.running, hend, Or.inr ⟨q, rfl, E, ce, locs, hx _ hT (X'.ends _).1.alike, hcell9, hv, hcl, (X'.ends _).1, (X'.ends _).2.mono hc hs, hf⟩⟩
  rw [X.pushThrowing_eq]
  exact st
/-- a thing of a world lies in the heap -/
theorem vx_lt {D : va_G} {cl : List vw_C} {ws : va_W} {H1 : Heap} (h : va_P D cl ws H1) {k : Nat} {q : Nat × va_E} (hk : ws[k]? = some q) : q.1 < H1.size := (h k q hk).lt
end VXS
/-! ===== END ===== -/
/-! ===== BEGIN methods with a table of their own: called by a name, returning or throwing ===== -/
section VXH
/-! vx_backW, vx_callVX, vx_callSX, vx_callVW, vx_runVW, vx_runVX, vx_runSX, vx_ofWH follow the same proofs as their sisters above (Free/Laws.lean, Shelf42/LK1.lean); vx_outP calls Shelf42/NT130.lean (outThrough). -/
section
variable {l : Launch} {R : Room} {p : Program} {e : Env} {below : List Frame} {s : State} {sargs : Array Value} {y : MethodName} {len W9 : Nat}
theorem vx_backW {ws : List Cond} {rm : Room} {Pc : Array Value → State → Prop} {Qc : Array Value → State → Outcome → State → Prop} {XC : String → State → State → Prop} {mc ms : Nat} {free : Addr → Prop} {bytes : ByteArray} {maxL : Nat} {ret : Option FieldType} {hh : List (Nat × Nat × Nat × Nat)}
    (hM : vx_Met l y ws rm Pc Qc XC mc ms free) (hblind : FrameBlind Pc) (hrc : rm.cells = mc) (hrs : rm.slots = ms)
    (hframes : rm.frames + 1 ≤ R.frames) (hlocals : W9 + (maxL + 11) + rm.locals ≤ R.locals)
    (hws : ∀ w ∈ ws, ∀ a' U, s.WarmedH U.vm → w.before a' U = true) (hcode : Cond.codeWith y bytes maxL ret hh ∈ ws) (hinit : ∀ a' U, s.WarmedH U.vm → (Cond.initialized y.cls).before a' U = true) :
    vx_Back l R p e below s sargs y len W9 (PreOf R mc ms Pc) (PostOf Qc mc ms free) (vx_Post XC mc ms free) := by
  intro m meth c A g ig mk a X hg hsize hdg hW hn hp
  have h1 : (headSpec ws rm).pre.before a A.U = true := atoms_intro fun w hw => hws w hw _ _ X.warmed
  have h2 : (Cond.codeWith y bytes maxL ret hh).before a A.U = true := hws _ hcode _ _ X.warmed
  have h3 : (Cond.initialized y.cls).before a A.U = true := hinit _ _ X.warmed
  have h4 : A.cells + (headSpec ws rm).room.cells ≤ R.cells := by rw [show (headSpec ws rm).room.cells = mc from hrc]; exact hp.1
  have h5 : A.slots + (headSpec ws rm).room.slots ≤ R.slots := by rw [show (headSpec ws rm).room.slots = ms from hrs]; exact hp.2.1
  have hPc : Pc a (A.U.calling g mk a) := hblind _ _ _ _ hp.2.2
  obtain ⟨U, Ls, c0, s0⟩ := A
  dsimp only [Pt.U, Pt.locs, Pt.cells, Pt.slots] at h1 h2 h3 h4 h5 X hn hPc ⊢
  obtain ⟨m9, methY, cY, hn9, hmY, hcY, -, hlY, -⟩ := Cond.codeWith_spec h2
  cases Option.some.inj (hn9.symm.trans hn)
  obtain ⟨kY, hkY, -⟩ := className_of_methodNamed hn
  have hinitY : kY.init = .initialized := Cond.initialized_spec (findClass_of_methodNamed hn) hkY h3
  have h : At U g.method c below := by rw [hg]; exact X.here
  have hlocals9 : W9 + (maxL + 11) + (headSpec ws rm).room.locals ≤ R.locals := hlocals
  have happ : (headSpec ws rm).appliesLoose y e.platform (U.calling g mk a) = true :=
    Spec.appliesLoose_calling (g := g) h hdg hn hkY hinitY
      (X.room_calling (g := g) (R' := (headSpec ws rm).room) hsize hmY hcY hframes (by rw [hlY]; omega) h4 h5) h1
  obtain ⟨mid, hmid⟩ := h.above
  have hfr : (U.setTop g).frames = (.java g :: mid) ++ below := by rw [State.frames_setTop' g h.top, hmid]; rfl
  obtain ⟨o, s₂, hsteps, -, hend, hq⟩ := Steps.callFree hM p X.admits X.cas X.clock (acts := []) hfr happ hPc trivial
  have hq' : vx_Q Qc XC mc ms free a (U.calling g mk a) o s₂ := hq
  rw [State.frames_setTop' g h.top] at hend
  obtain ⟨g₀, hg0⟩ := Option.isSome_iff_exists.mp h.top
  obtain ⟨r, hr⟩ := State.topJava?_eq_some.mp hg0
  have hr' : (({ U with heap := s₂.heap, slotsUsed := s₂.slotsUsed } : State).setVm s₂.vm).frames = .java g₀ :: r := hr
  rcases hq' with ⟨hqc, L, hfe, hL⟩ | ⟨q, rfl, E, ce, L, hx, hce, hcv, hcl, hW₂, hsm, hL⟩
  · obtain ⟨⟨v, rfl⟩, hW₂, e2, q2, q3, q4, q5, q6⟩ := id hfe
    have e3 : s₂ = ({ (U.calling g mk a).setFrames s₂.frames with heap := s₂.heap, slotsUsed := s₂.slotsUsed } : State).setVm s₂.vm := by
      have : s₂ = ({ s₂ with vm := (U.calling g mk a).vm } : State).setVm s₂.vm := rfl
      rw [e2] at this
      exact this
    obtain ⟨c₂, i₂, len₂, hc₂, hd₂, hf₂⟩ := hend
    have hW' : U.WarmedH s₂.vm := hW₂
    have hcc : c₂ = c := by
      have h1 : s₂.code? g.method = U.code? g.method := by
        rw [State.code?_eq, State.code?_eq, hW'.alike.method?]
      exact Option.some.inj (hc₂.symm.trans (h1.trans h.code))
    subst hcc
    have hlen : len₂ = len := by rw [hdg] at hd₂; cases hd₂; rfl
    subst hlen
    have hs₂ : s₂ = (({ U with heap := s₂.heap, slotsUsed := s₂.slotsUsed } : State).setVm s₂.vm).setTop { g with pc := g.pc + len₂, stack := v.toList ++ g.stack } := by
      refine e3.trans ?_
      rw [hf₂, State.calling_eq h.top, State.setFrames_setFrames, State.setTop_of_frames _ hr', hr]
      rfl
    have hsame : U.sameButNew ({ U with heap := s₂.heap, slotsUsed := s₂.slotsUsed } : State) L mc ms := by
      refine ⟨?_, q2, q3, q4, q5, q6⟩
      obtain ⟨t, ht, -⟩ := State.frames_cons hr
      show ({ U with heap := s₂.heap, slotsUsed := s₂.slotsUsed } : State) = { U.setFrames U.frames with heap := s₂.heap, slotsUsed := s₂.slotsUsed }
      rw [State.setFrames_self ht]
    subst hg
    refine Or.inl ⟨v, ⟨(({ U with heap := s₂.heap, slotsUsed := s₂.slotsUsed } : State).setVm s₂.vm), Ls ++ L, c0 + mc, s0 + ms⟩,
      ⟨X.admits, X.cas, X.clock, X.frames, X.room, X.hears, X.method, X.code, (X.here.setHeapUsed s₂.heap s₂.slotsUsed).setVm hW'.alike, X.tail, State.WarmedH.trans X.warmed hW', X.limits, X.bytes, X.same.trans (hsame.setVm s.vm)⟩,
      ⟨g, mk, s₂, L, rfl, rfl, hqc, rfl, hL, rfl, rfl⟩, ?_⟩
    show Steps p.tables e below _ ((({ U with heap := s₂.heap, slotsUsed := s₂.slotsUsed } : State).setVm s₂.vm).setTop { g with pc := g.pc + len₂, stack := v.toList ++ g.stack })
    rw [← hs₂]
    exact hsteps
  · obtain ⟨e2, q2, q3, q4, q5, q6⟩ := id hsm
    have e3 : s₂ = ({ (U.calling g mk a).setFrames s₂.frames with heap := s₂.heap, slotsUsed := s₂.slotsUsed } : State).setVm s₂.vm := by
      have : s₂ = ({ s₂ with vm := (U.calling g mk a).vm } : State).setVm s₂.vm := rfl
      rw [e2] at this
      exact this
    have hf₂ : s₂.frames = .throwing q :: .java g :: U.frames.tail := hend
    have hW' : U.WarmedH s₂.vm := hW₂
    have hs₂ : s₂ = ((({ U with heap := s₂.heap, slotsUsed := s₂.slotsUsed } : State).setVm s₂.vm).setTop g).pushFrame (.throwing q) := by
      refine e3.trans ?_
      rw [hf₂, State.calling_eq h.top, State.setFrames_setFrames, State.pushFrame, State.frames_setTop _ hr', State.setTop_of_frames _ hr', State.setFrames_setFrames, hr]
      rfl
    have hsame : U.sameButNew ({ U with heap := s₂.heap, slotsUsed := s₂.slotsUsed } : State) L mc ms := by
      refine ⟨?_, q2, q3, q4, q5, q6⟩
      obtain ⟨t, ht, -⟩ := State.frames_cons hr
      show ({ U with heap := s₂.heap, slotsUsed := s₂.slotsUsed } : State) = { U.setFrames U.frames with heap := s₂.heap, slotsUsed := s₂.slotsUsed }
      rw [State.setFrames_self ht]
    subst hg
    refine Or.inr ⟨q, ⟨(({ U with heap := s₂.heap, slotsUsed := s₂.slotsUsed } : State).setVm s₂.vm), Ls ++ L, c0 + mc, s0 + ms⟩,
      ⟨X.admits, X.cas, X.clock, X.frames, X.room, X.hears, X.method, X.code, (X.here.setHeapUsed s₂.heap s₂.slotsUsed).setVm hW'.alike, X.tail, State.WarmedH.trans X.warmed hW', X.limits, X.bytes, X.same.trans (hsame.setVm s.vm)⟩,
      ⟨g, mk, s₂, L, E, ce, rfl, rfl, hx, hce, hcv, hcl, rfl, hL, rfl, rfl⟩, ?_⟩
    show Steps p.tables e below _ (((({ U with heap := s₂.heap, slotsUsed := s₂.slotsUsed } : State).setVm s₂.vm).setTop g).pushFrame (.throwing q))
    rw [← hs₂]
    exact hsteps
end
variable {p : Program} {l : Launch} {e : Env} {R : Room} {s : State} {m : MethodId} {args : Array Value} {below : List Frame} {meth : Method} {c : Code} {T : State} {H : Heap} {locs : List Loc} {cells slots : Nat}
theorem vx_callVX (X : Stand p l e R s m args below meth c T locs cells slots) (hexec : p.tables.exec = Jvm.exec) {own C : String} {index : Nat} {y : MethodName} {bytes : ByteArray} {maxL : Nat} {ret : Option FieldType} {hh : List (Nat × Nat × Nat × Nat)}
    (hown : s.vm.findClass own = some m.cls) (hlink : (Cond.methodLink own index y).before args s = true) (hinst : (Cond.instanceMethod y).before args s = true) (hsel : (Cond.selects C y y).before args s = true)
    (hcode : (Cond.codeWith y bytes maxL ret hh).before args s = true) (hy : y.cls ≠ "java/lang/invoke/MethodHandle" ∧ y.cls ≠ "java/lang/invoke/VarHandle")
    {W9 : Nat} {Pre : Pt → Array Value → Prop} {Post : Pt → Array Value → Option Value → Pt → Prop} {PostX : Pt → Array Value → Addr → Pt → Prop} (hK : vx_Back l R p e below s args y 3 W9 Pre Post PostX)
    {b : Addr} {cellB : Cell} (hcell : T.heap[b]? = some cellB) (hobj : cellB.vm.isStatics = false) (hcls : s.vm.findClass C = some cellB.cls)
    {g : JFrame} (hg : g.method = m) (hsize : g.locals.size = c.maxLocals) {argsL rest : List Value} (hlen : ∀ sig, parseMethodDescriptor y.desc = some sig → argsL.length = sig.parameters.length)
    (hstack : g.stack = argsL.reverse ++ .ref b :: rest) (hW : 2 * g.monitorRoom + (rest.map fun v => v.category).sum ≤ W9) (hdg : decode c.code g.pc = .ok (.invokevirtual index, 3))
    (hpre : ∀ vm₁, s.WarmedH vm₁ → Pre ⟨T.setVm vm₁, locs, cells, slots⟩ (Value.ref b :: argsL).toArray) :
    (∃ (v : Option Value) (vm₁ : Vm) (B : Pt), s.WarmedH vm₁ ∧ Stand p l e R s m args below meth c B.U B.locs B.cells B.slots ∧ Post ⟨T.setVm vm₁, locs, cells, slots⟩ (Value.ref b :: argsL).toArray v B ∧
      ∀ target, Steps p.tables e below (B.U.setTop { g with pc := g.pc + 3, stack := v.toList ++ rest }) target → Steps p.tables e below (T.setTop g) target) ∨
    (∃ (q : Addr) (vm₁ : Vm) (B : Pt), s.WarmedH vm₁ ∧ Stand p l e R s m args below meth c B.U B.locs B.cells B.slots ∧ PostX ⟨T.setVm vm₁, locs, cells, slots⟩ (Value.ref b :: argsL).toArray q B ∧
      Steps p.tables e below (T.setTop g) ((B.U.setTop { g with stack := rest }).pushFrame (.throwing q))) := by
  obtain ⟨mk, methM, hnamed, hmethM, hstM, habM⟩ := Cond.instanceMethod_spec hinst
  obtain ⟨m8, methM', cM, hn8, hmethM', -, -, -, -, -, -, hsigM⟩ := Cond.codeWith_spec hcode
  cases Option.some.inj (hn8.symm.trans hnamed)
  cases hmethM.symm.trans hmethM'
  obtain ⟨c2, r2, m2, q1, q2, q3, q4, kP, hkP, hkPi⟩ := Cond.selects_spec hsel
  cases hcls.symm.trans q1
  cases (State.methodFound?_of_named hnamed hy).symm.trans q2
  cases hnamed.symm.trans q3
  have hselP : selectMethod e.platform s.vm cellB.cls mk = .method mk := by rw [Launch.admits_selectMethod X.admits]; exact q4
  obtain ⟨vm₁, X₁, hstep₁⟩ := X.invokevirtual hexec hown hlink hnamed hmethM hstM hkP hkPi hy (a := b) (cell := cellB) hcell
    (fun z h => by rw [h] at hobj; cases hobj) hselP hmethM habM hkP hkPi (g := g) hg (argsL := argsL) (rest := rest) (hlen _ hsigM) hstack hdg
  rcases hK m meth c ⟨T.setVm vm₁, locs, cells, slots⟩ { g with stack := rest } (.invokevirtual index) mk (Value.ref b :: argsL).toArray X₁ hg hsize hdg hW (X₁.named hnamed) (hpre vm₁ X₁.warmed) with ⟨v, B, X', hpost, hsteps⟩ | ⟨q, B, X', hpost, hsteps⟩
  · exact Or.inl ⟨v, vm₁, B, X₁.warmed, X', hpost, fun target h => hstep₁ _ fun acts => by rw [doInvoke_state]; exact hsteps.trans h⟩
  · exact Or.inr ⟨q, vm₁, B, X₁.warmed, X', hpost, hstep₁ _ fun acts => by rw [doInvoke_state]; exact hsteps⟩
theorem vx_callSX (X : Stand p l e R s m args below meth c T locs cells slots) (hexec : p.tables.exec = Jvm.exec) {own : String} {index : Nat} {y : MethodName} {bytes : ByteArray} {maxL : Nat} {ret : Option FieldType} {hh : List (Nat × Nat × Nat × Nat)}
    (hown : s.vm.findClass own = some m.cls) (hlink : (Cond.methodLink own index y).before args s = true) (hstat : (Cond.static y).before args s = true) (hinit : (Cond.initialized y.cls).before args s = true)
    (hcode : (Cond.codeWith y bytes maxL ret hh).before args s = true) (hy : y.cls ≠ "java/lang/invoke/MethodHandle" ∧ y.cls ≠ "java/lang/invoke/VarHandle")
    {W9 : Nat} {Pre : Pt → Array Value → Prop} {Post : Pt → Array Value → Option Value → Pt → Prop} {PostX : Pt → Array Value → Addr → Pt → Prop} (hK : vx_Back l R p e below s args y 3 W9 Pre Post PostX)
    {g : JFrame} (hg : g.method = m) (hsize : g.locals.size = c.maxLocals) {argsL rest : List Value} (hlen : ∀ sig, parseMethodDescriptor y.desc = some sig → argsL.length = sig.parameters.length)
    (hstack : g.stack = argsL.reverse ++ rest) (hW : 2 * g.monitorRoom + (rest.map fun v => v.category).sum ≤ W9) (hdg : decode c.code g.pc = .ok (.invokestatic index, 3))
    (hpre : ∀ vm₁, s.WarmedH vm₁ → Pre ⟨T.setVm vm₁, locs, cells, slots⟩ argsL.toArray) :
    (∃ (v : Option Value) (vm₁ : Vm) (B : Pt), s.WarmedH vm₁ ∧ Stand p l e R s m args below meth c B.U B.locs B.cells B.slots ∧ Post ⟨T.setVm vm₁, locs, cells, slots⟩ argsL.toArray v B ∧
      ∀ target, Steps p.tables e below (B.U.setTop { g with pc := g.pc + 3, stack := v.toList ++ rest }) target → Steps p.tables e below (T.setTop g) target) ∨
    (∃ (q : Addr) (vm₁ : Vm) (B : Pt), s.WarmedH vm₁ ∧ Stand p l e R s m args below meth c B.U B.locs B.cells B.slots ∧ PostX ⟨T.setVm vm₁, locs, cells, slots⟩ argsL.toArray q B ∧
      Steps p.tables e below (T.setTop g) ((B.U.setTop { g with stack := rest }).pushFrame (.throwing q))) := by
  obtain ⟨mk, methM, cM, hnamed, hmethM, -, -, -, -, -, -, hsigM⟩ := Cond.codeWith_spec hcode
  have hstatic : methM.isStatic = true := Cond.static_spec hnamed hmethM hstat
  obtain ⟨kP, hkP, -⟩ := className_of_methodNamed hnamed
  have hinitP : kP.init = .initialized := Cond.initialized_spec (findClass_of_methodNamed hnamed) hkP hinit
  obtain ⟨vm₁, X₁, hstep₁⟩ := X.invokestatic hexec hown hlink hnamed hmethM hstatic hkP hinitP hy (g := g) hg (argsL := argsL) (rest := rest) (hlen _ hsigM) hstack hdg
  rcases hK m meth c ⟨T.setVm vm₁, locs, cells, slots⟩ { g with stack := rest } (.invokestatic index) mk argsL.toArray X₁ hg hsize hdg hW (X₁.named hnamed) (hpre vm₁ X₁.warmed) with ⟨v, B, X', hpost, hsteps⟩ | ⟨q, B, X', hpost, hsteps⟩
  · exact Or.inl ⟨v, vm₁, B, X₁.warmed, X', hpost, fun target h => hstep₁ _ fun acts => by rw [doInvoke_state]; exact hsteps.trans h⟩
  · exact Or.inr ⟨q, vm₁, B, X₁.warmed, X', hpost, hstep₁ _ fun acts => by rw [doInvoke_state]; exact hsteps⟩
theorem vx_callVW (X : Stand p l e R s m args below meth c T locs cells slots) (hexec : p.tables.exec = Jvm.exec) {own C : String} {index : Nat} {y : MethodName} {bytes : ByteArray} {maxL : Nat} {ret : Option FieldType} {hh : List (Nat × Nat × Nat × Nat)}
    (hown : s.vm.findClass own = some m.cls) (hlink : (Cond.methodLink own index y).before args s = true) (hinst : (Cond.instanceMethod y).before args s = true) (hsel : (Cond.selects C y y).before args s = true)
    (hcode : (Cond.codeWith y bytes maxL ret hh).before args s = true) (hy : y.cls ≠ "java/lang/invoke/MethodHandle" ∧ y.cls ≠ "java/lang/invoke/VarHandle")
    {W9 : Nat} {Pre : Pt → Array Value → Prop} {Post : Pt → Array Value → Option Value → Pt → Prop} (hK : Back l R p e below s args y 3 W9 Pre Post)
    {b : Addr} {cellB : Cell} (hcell : T.heap[b]? = some cellB) (hobj : cellB.vm.isStatics = false) (hcls : s.vm.findClass C = some cellB.cls)
    {g : JFrame} (hg : g.method = m) (hsize : g.locals.size = c.maxLocals) {argsL rest : List Value} (hlen : ∀ sig, parseMethodDescriptor y.desc = some sig → argsL.length = sig.parameters.length)
    (hstack : g.stack = argsL.reverse ++ .ref b :: rest) (hW : 2 * g.monitorRoom + (rest.map fun v => v.category).sum ≤ W9) (hdg : decode c.code g.pc = .ok (.invokevirtual index, 3))
    (hpre : ∀ vm₁, s.WarmedH vm₁ → Pre ⟨T.setVm vm₁, locs, cells, slots⟩ (Value.ref b :: argsL).toArray) :
    ∃ (v : Option Value) (vm₁ : Vm) (B : Pt), s.WarmedH vm₁ ∧ Stand p l e R s m args below meth c B.U B.locs B.cells B.slots ∧ Post ⟨T.setVm vm₁, locs, cells, slots⟩ (Value.ref b :: argsL).toArray v B ∧
      ∀ target, Steps p.tables e below (B.U.setTop { g with pc := g.pc + 3, stack := v.toList ++ rest }) target → Steps p.tables e below (T.setTop g) target := by
  obtain ⟨mk, methM, hnamed, hmethM, hstM, habM⟩ := Cond.instanceMethod_spec hinst
  obtain ⟨m8, methM', cM, hn8, hmethM', -, -, -, -, -, -, hsigM⟩ := Cond.codeWith_spec hcode
  cases Option.some.inj (hn8.symm.trans hnamed)
  cases hmethM.symm.trans hmethM'
  obtain ⟨c2, r2, m2, q1, q2, q3, q4, kP, hkP, hkPi⟩ := Cond.selects_spec hsel
  cases hcls.symm.trans q1
  cases (State.methodFound?_of_named hnamed hy).symm.trans q2
  cases hnamed.symm.trans q3
  have hselP : selectMethod e.platform s.vm cellB.cls mk = .method mk := by rw [Launch.admits_selectMethod X.admits]; exact q4
  obtain ⟨vm₁, X₁, hstep₁⟩ := X.invokevirtual hexec hown hlink hnamed hmethM hstM hkP hkPi hy (a := b) (cell := cellB) hcell
    (fun z h => by rw [h] at hobj; cases hobj) hselP hmethM habM hkP hkPi (g := g) hg (argsL := argsL) (rest := rest) (hlen _ hsigM) hstack hdg
  obtain ⟨v, B, X', hpost, hsteps⟩ := hK m meth c ⟨T.setVm vm₁, locs, cells, slots⟩ { g with stack := rest } (.invokevirtual index) mk (Value.ref b :: argsL).toArray X₁ hg hsize hdg hW (X₁.named hnamed) (hpre vm₁ X₁.warmed)
  exact ⟨v, vm₁, B, X₁.warmed, X', hpost, fun target h => hstep₁ _ fun acts => by rw [doInvoke_state]; exact hsteps.trans h⟩
abbrev vx_CVW (R : Room) (s : State) (args : Array Value) (own C : String) (index : Nat) (y : MethodName) (bytes : ByteArray) (maxL : Nat) (ret : Option FieldType) (hh : List (Nat × Nat × Nat × Nat)) (ws : List Cond) (rm : Room) (mc ms n : Nat) : Prop :=
  (rm.cells = mc ∧ rm.slots = ms ∧ rm.frames + 1 ≤ R.frames ∧ 8 + (maxL + 11) + rm.locals ≤ R.locals ∧ (∀ w ∈ ws, ∀ (a' : Array Value) (U : State), s.WarmedH U.vm → w.before a' U = true) ∧ Cond.codeWith y bytes maxL ret hh ∈ ws) ∧
  (Cond.codeWith y bytes maxL ret hh).before args s = true ∧ (Cond.initialized y.cls).before args s = true ∧ (y.cls ≠ "java/lang/invoke/MethodHandle" ∧ y.cls ≠ "java/lang/invoke/VarHandle") ∧
  (∀ sig, parseMethodDescriptor y.desc = some sig → n = sig.parameters.length) ∧ (Cond.methodLink own index y).before args s = true ∧ (Cond.instanceMethod y).before args s = true ∧ (Cond.selects C y y).before args s = true
theorem vx_cwVW {own C : String} {index maxL mc ms : Nat} {y : MethodName} {bytes : ByteArray} {ret : Option FieldType} {hh : List (Nat × Nat × Nat × Nat)} {Ts ws ws' : List Cond} {rm : Room} (n : Nat) (ht : ∀ w ∈ Ts, w.before args s = true) (hT : GoodIn Ts (wsV own index C y ws)) (hw : ws = Cond.codeWith y bytes maxL ret hh :: ws') (hrc : rm.cells = mc) (hrs : rm.slots = ms)
    (hd : y.cls = C ∧ y.cls ≠ "java/lang/invoke/MethodHandle" ∧ y.cls ≠ "java/lang/invoke/VarHandle" ∧ (parseMethodDescriptor y.desc).map (fun d => d.parameters.length) = some n) (hR : rm.frames + 1 ≤ R.frames ∧ 8 + (maxL + 11) + rm.locals ≤ R.locals) :
    vx_CVW R s args own C index y bytes maxL ret hh ws rm mc ms n := by
  obtain ⟨hC, hd⟩ := hd
  subst hC
  have ok : ∀ w ∈ wsV own index y.cls y ws, w.before args s = true := fun w h => ht w (hT w h).1
  have hG : GoodIn Ts ws := fun w h => hT w (by unfold wsV; exact List.mem_append_right _ h)
  have hc : Cond.codeWith y bytes maxL ret hh ∈ ws := by rw [hw]; exact List.mem_cons_self
  refine ⟨⟨hrc, hrs, hR.1, hR.2, pay_in ht hG, hc⟩, ht _ (hG _ hc).1, ok _ (by simp [wsV]), ⟨hd.1, hd.2.1⟩, fun sig h => ?_, ok _ (by simp [wsV]), ok _ (by simp [wsV]), ok _ (by simp [wsV])⟩
  have h2 := hd.2.2
  rw [h] at h2
  exact (Option.some.inj h2).symm
theorem vx_runVW {y : MethodName} {bytes cc : ByteArray} {maxL nL mc ms n index : Nat} {ret : Option FieldType} {hh : List (Nat × Nat × Nat × Nat)} {ws : List Cond} {rm : Room} {Pc : Array Value → State → Prop} {Qc : Array Value → State → Outcome → State → Prop} {free : Addr → Prop} {Ts : List Cond} {own C : String} {b : Addr} {As rest : List Value} {g : JFrame}
    (S : CallFix p m c cc nL s args Ts own) (hM : Met l y ws rm Pc Qc mc ms free) (cw : vx_CVW R s args own C index y bytes maxL ret hh ws rm mc ms n) (hp : PreV s H C b Pc As)
    (hg : g.method = m) (hn : As.length = n) (hsize : g.locals.size = nL) (hstack : g.stack = As.reverse ++ .ref b :: rest) (hW : 2 * g.monitorRoom + (rest.map fun v => v.category).sum ≤ 8) (hdg : decode cc g.pc = .ok (.invokevirtual index, 3)) (hf : cells + mc ≤ R.cells ∧ slots + ms ≤ R.slots) :
    va_Run p l e R s m args below meth c H locs cells slots mc ms g rest (Qc (Value.ref b :: As).toArray) free := by
  obtain ⟨⟨hrc, hrs, hfr, hlo, hws, hcw⟩, hcode, hini, hy, hlen, hl, hin, hse⟩ := cw
  have hK : Back l R p e below s args y 3 8 (PreOf R mc ms Pc) (PostOf Qc mc ms free) := va_backW (hh := hh) (bytes := bytes) (maxL := maxL) (ret := ret) hM hp.1 hrc hrs hfr hlo hws hcw (fun a' U hW => word_at hW (Or.inl (by first | rfl | simp [Cond.onTables, Cond.keeps, Cond.steady])) hini)
  obtain ⟨hx, hb, hml, ho, -⟩ := S
  obtain ⟨-, ⟨cellB, hcB, hoB, hclB⟩, hPc⟩ := hp
  intro T hT X
  obtain ⟨v, vm₁, ⟨U', l2, c2, s2⟩, hW₁, X', ⟨g', mk, t, L, e1, e2, hq, h1, hL, h2, h3⟩, st⟩ := vx_callVW X hx (C := C) (hh := hh) (bytes := bytes) (maxL := maxL) (ret := ret) ho hl hin hse hcode hy hK (by rw [hT]; exact hcB) hoB hclB hg (hsize.trans hml.symm) (argsL := As) (rest := rest) (fun sig h => hn.trans (hlen sig h)) hstack hW (by rw [hb]; exact hdg)
    (fun vm₁ hW₁ => ⟨hf.1, hf.2, hPc (T.setVm vm₁) hT hW₁⟩)
  dsimp only [Pt.U, Pt.locs, Pt.cells, Pt.slots] at X' e1 e2 h1 h2 h3 st
  subst h1; subst h2; subst h3
  exact ⟨v, (T.setVm vm₁).calling g' mk (Value.ref b :: As).toArray, t, U', L, hT, X', hL, e1, e2, hq, st⟩
section
variable {y : MethodName} {bytes cc : ByteArray} {maxL nL mc ms n index : Nat} {ret : Option FieldType} {ws : List Cond} {rm : Room} {Pc : Array Value → State → Prop} {Qc : Array Value → State → Outcome → State → Prop} {XC : String → State → State → Prop} {free : Addr → Prop} {Ts : List Cond} {own C : String} {b : Addr} {As rest : List Value} {g : JFrame}
theorem vx_runVX {hh : List (Nat × Nat × Nat × Nat)} (S : CallFix p m c cc nL s args Ts own) (hM : vx_Met l y ws rm Pc Qc XC mc ms free) (cw : vx_CVW R s args own C index y bytes maxL ret hh ws rm mc ms n) (hp : PreV s H C b Pc As)
    (hg : g.method = m) (hn : As.length = n) (hsize : g.locals.size = nL) (hstack : g.stack = As.reverse ++ .ref b :: rest) (hW : 2 * g.monitorRoom + (rest.map fun v => v.category).sum ≤ 8) (hdg : decode cc g.pc = .ok (.invokevirtual index, 3)) (hf : cells + mc ≤ R.cells ∧ slots + ms ≤ R.slots) :
    vx_Run p l e R s m args below meth c H locs cells slots mc ms g rest (Qc (Value.ref b :: As).toArray) XC free := by
  obtain ⟨⟨hrc, hrs, hfr, hlo, hws, hcw⟩, hcode, hini, hy, hlen, hl, hin, hse⟩ := cw
  have hK : vx_Back l R p e below s args y 3 8 (PreOf R mc ms Pc) (PostOf Qc mc ms free) (vx_Post XC mc ms free) := vx_backW (hh := hh) (bytes := bytes) (maxL := maxL) (ret := ret) hM hp.1 hrc hrs hfr hlo hws hcw (fun a' U hW => word_at hW (Or.inl (by first | rfl | simp [Cond.onTables, Cond.keeps, Cond.steady])) hini)
  obtain ⟨hx, hb, hml, ho, -⟩ := S
  obtain ⟨-, ⟨cellB, hcB, hoB, hclB⟩, hPc⟩ := hp
  intro T hT X
  rcases vx_callVX X hx (C := C) (hh := hh) (bytes := bytes) (maxL := maxL) (ret := ret) ho hl hin hse hcode hy hK (by rw [hT]; exact hcB) hoB hclB hg (hsize.trans hml.symm) (argsL := As) (rest := rest) (fun sig h => hn.trans (hlen sig h)) hstack hW (by rw [hb]; exact hdg)
    (fun vm₁ hW₁ => ⟨hf.1, hf.2, hPc (T.setVm vm₁) hT hW₁⟩) with ⟨v, vm₁, ⟨U', l2, c2, s2⟩, hW₁, X', ⟨g', mk, t, L, e1, e2, hq, h1, hL, h2, h3⟩, st⟩ | ⟨q, vm₁, ⟨U', l2, c2, s2⟩, hW₁, X', ⟨g', mk, t, L, E, ce, e1, e2, hq, hce, hcv, hcl, h1, hL, h2, h3⟩, st⟩
  · dsimp only [Pt.U, Pt.locs, Pt.cells, Pt.slots] at X' e1 e2 h1 h2 h3 st
    subst h1; subst h2; subst h3
    exact Or.inl ⟨v, (T.setVm vm₁).calling g' mk (Value.ref b :: As).toArray, t, U', L, hT, X', hL, e1, e2, hq, st⟩
  · dsimp only [Pt.U, Pt.locs, Pt.cells, Pt.slots] at X' e1 e2 h1 h2 h3 st hcl
    subst h1; subst h2; subst h3
    exact Or.inr ⟨q, (T.setVm vm₁).calling g' mk (Value.ref b :: As).toArray, t, U', L, E, ce, hT, X', hL, e1, e2, hq, hce, hcv, vx_cls hW₁ hcl, st⟩
theorem vx_runSX {hh : List (Nat × Nat × Nat × Nat)} (S : CallFix p m c cc nL s args Ts own) (hM : vx_Met l y ws rm Pc Qc XC mc ms free) (cw : vx_CSW R s args own index y bytes maxL ret hh ws rm mc ms n) (hp : PreS s H Pc As)
    (hg : g.method = m) (hn : As.length = n) (hsize : g.locals.size = nL) (hstack : g.stack = As.reverse ++ rest) (hW : 2 * g.monitorRoom + (rest.map fun v => v.category).sum ≤ 8) (hdg : decode cc g.pc = .ok (.invokestatic index, 3)) (hf : cells + mc ≤ R.cells ∧ slots + ms ≤ R.slots) :
    vx_Run p l e R s m args below meth c H locs cells slots mc ms g rest (Qc As.toArray) XC free := by
  obtain ⟨⟨hrc, hrs, hfr, hlo, hws, hcw⟩, hcode, hini, hy, hlen, hl, hstt⟩ := cw
  have hK : vx_Back l R p e below s args y 3 8 (PreOf R mc ms Pc) (PostOf Qc mc ms free) (vx_Post XC mc ms free) := vx_backW (hh := hh) (bytes := bytes) (maxL := maxL) (ret := ret) hM hp.1 hrc hrs hfr hlo hws hcw (fun a' U hW => word_at hW (Or.inl (by first | rfl | simp [Cond.onTables, Cond.keeps, Cond.steady])) hini)
  obtain ⟨hx, hb, hml, ho, -⟩ := S
  intro T hT X
  rcases vx_callSX X hx (hh := hh) (bytes := bytes) (maxL := maxL) (ret := ret) ho hl hstt hini hcode hy hK hg (hsize.trans hml.symm) (argsL := As) (rest := rest) (fun sig h => hn.trans (hlen sig h)) hstack hW (by rw [hb]; exact hdg)
    (fun vm₁ hW₁ => ⟨hf.1, hf.2, hp.2 (T.setVm vm₁) hT hW₁⟩) with ⟨v, vm₁, ⟨U', l2, c2, s2⟩, hW₁, X', ⟨g', mk, t, L, e1, e2, hq, h1, hL, h2, h3⟩, st⟩ | ⟨q, vm₁, ⟨U', l2, c2, s2⟩, hW₁, X', ⟨g', mk, t, L, E, ce, e1, e2, hq, hce, hcv, hcl, h1, hL, h2, h3⟩, st⟩
  · dsimp only [Pt.U, Pt.locs, Pt.cells, Pt.slots] at X' e1 e2 h1 h2 h3 st
    subst h1; subst h2; subst h3
    exact Or.inl ⟨v, (T.setVm vm₁).calling g' mk As.toArray, t, U', L, hT, X', hL, e1, e2, hq, st⟩
  · dsimp only [Pt.U, Pt.locs, Pt.cells, Pt.slots] at X' e1 e2 h1 h2 h3 st hcl
    subst h1; subst h2; subst h3
    exact Or.inr ⟨q, (T.setVm vm₁).calling g' mk As.toArray, t, U', L, E, ce, hT, X', hL, e1, e2, hq, hce, hcv, vx_cls hW₁ hcl, st⟩
end
end VXH
theorem vx_ofWH {l : Launch} {y : MethodName} {ws ws' : List Cond} {rm : Room} {Pc : Array Value → State → Prop} {Qc : Array Value → State → Outcome → State → Prop} {XC : String → State → State → Prop} {mc ms : Nat} {free : Addr → Prop} {cc : ByteArray} {maxL : Nat} {ret : Option FieldType} {hh : List (Nat × Nat × Nat × Nat)}
    (hy : plainName y.cls = true) (hw : ws = Cond.codeWith y cc maxL ret hh :: ws')
    (body : ∀ p e s m args below meth c s₁, BodyLoose p l y (headSpec ws rm) cc maxL ret e s m args below meth c s₁ → c.maxLocals = maxL → Pc args s →
      W p l e (headSpec ws rm).room s m args below meth c s.heap [] 0 0 (vx_MQ below Qc XC args s mc ms free) (entryFrame m args maxL)) : vx_Met l y ws rm Pc Qc XC mc ms free := by
  refine MetFree.of_bodyS (code := cc) (maxLocals := maxL) (ret := ret) hy ?_ ?_
  · intro args s m h hn
    obtain ⟨m9, meth, c, hn9, h1, h2, h3, h4, -, h5, h6, -⟩ := Cond.codeWith_spec (atoms_spec (ws := ws) h _ (by rw [hw]; exact List.mem_cons_self))
    cases hn.symm.trans hn9
    exact ⟨meth, c, h1, h2, h3, h4, h5, h6⟩
  · intro p e s m args below meth c s₁ B hml hP _
    have hh0 : s₁.heap = s.heap := by rw [B.state]; rfl
    obtain ⟨t, a1, o, b1, b2, b3⟩ := body p e s m args below meth c s₁ B hml hP s₁ hh0 (Stand.of_body B)
    exact ⟨t, o, a1, b1, b2, b3⟩
/-! ===== END ===== -/

/-! ===== BEGIN what the machine throws by itself, no traces kept ===== -/
section VXM
set_option maxHeartbeats 1000000 in
/-- the machine throws cls with the message text, no traces kept: from its note over the frame g to 'throwing' over the same frame (follows the proofs of Stand.vmThrowsMessage, Shelf/KitTracedVmS.lean, and Stand.throwsMessageColdBareV, StandMessageColdV.lean, without the step out of the frame) -/
theorem vx_vmAt {p : Program} {l : Launch} {e : Env} {R : Room} {s : State} {m₀ : MethodId} {args : Array Value} {below : List Frame} {meth : Method} {c : Code} {W : State} {locs : List Loc} {cells slots : Nat}
    (X : Stand p l e R s m₀ args below meth c W locs cells slots) (hexec : p.tables.exec = Jvm.exec) (htr : e.platform.stackTraces = false) {cls : String} {names : List String} {text : String}
    (hcls : Bundle.fit cls = true) (hnames : ∀ n ∈ names, Bundle.fit n = true) (hsoe : (cls == "java/lang/StackOverflowError") = false) (hoom : (cls == "java/lang/OutOfMemoryError") = false)
    (h : ∀ a ∈ Bundle.messageArmAtoms cls names, a.before args s = true)
    (hlocs : ∀ x ∈ locs, ∀ cell, s.heap[x.base]? = some cell → cell.vm.isStatics = false)
    (htext : (text == notModelled) = false) (hlimit : ¬ (stringBytes (stringToUtf16 text)).size > e.platform.arrayLengthLimit) (hheap : ¬ (stringBytes (stringToUtf16 text)).size * componentBytes .byte > e.platform.maxHeapBytes)
    {g : JFrame} (hg : g.method = m₀) (hsize : g.locals.size = c.maxLocals)
    (hRframes : names.length + 4 < R.frames) (hRlocals : 2 * g.monitorRoom + (g.stack.map fun v => v.category).sum + 10240 ≤ R.locals) (hshort : 13 * names.length + 55 ≤ 10240)
    (hRcells : cells + 3 ≤ R.cells) (hRslots : slots + ((stringBytes (stringToUtf16 text)).size + 4 + 6) ≤ R.slots) (hlocks : meth.locks = false) :
    ∃ (S : State) (q : Addr) (ce : Cell), (∀ target, Steps p.tables e below ((S.setTop g).pushFrame (.throwing q)) target → Steps p.tables e below ((W.setTop g).pushFrame (.throwNew cls (some text) none)) target) ∧
      Stand p l e R s m₀ args below meth c S locs (cells + 3) (slots + ((stringBytes (stringToUtf16 text)).size + 4 + 6)) ∧ S.heap[q]? = some ce ∧ s.vm.findClass cls = some ce.cls ∧ ce.vm = .none := by
  have howns : e.platform.frameOwnsMonitors = true := by rw [X.admits.platform]
  have hfin : e.platform.finalization = false := by rw [X.admits.platform]
  have hpl : e.platform.magicAccessors = ({} : Platform).magicAccessors := by rw [X.admits.platform]
  have a : ∀ x, x ∈ Bundle.messageArmAtoms cls names → x.holds args s none s [] = true := fun x hx => h x hx
  obtain ⟨T, Z0, L, -, Y⟩ := ThrowableC.of_atoms (args := args) howns hfin hpl (fun x hx => h x (by simp [Bundle.messageArmAtoms, hx]))
  obtain ⟨Z, M, LZ, LM, hnZ⟩ := Init0T.ofS_atoms (args := args) hpl L Y (fun x hx => h x (by simp [Bundle.messageArmAtoms, hx]))
  obtain ⟨P1, Ps, hlen, L1, hL, hP1m, hlink1, hlink⟩ := Bundle.chainS (args := args) hpl hnZ names cls hcls hnames (fun x hx => h x (by simp [Bundle.messageArmAtoms, hx]))
  obtain ⟨Zs, LZs, hn4, hfitv, hfitc⟩ := StringT.of_atoms (args := args) (fun x hx => h x (by simp [Bundle.messageArmAtoms, hx]))
  have hfound : s.vm.findClass cls = some P1.m.cls := findClass_of_methodNamed hP1m
  obtain ⟨c1, kX, hc1, hk, hord, -, -, hn6⟩ := Cond.instantiable_spec (a (.instantiable cls 6) (by simp [Bundle.messageArmAtoms]))
  cases Option.some.inj (hc1.symm.trans hfound)
  have hinit := Cond.initialized_spec hfound hk (a (.initialized cls) (by simp [Bundle.messageArmAtoms]))
  have hctor : kX.findMethod "<init>" "(Ljava/lang/String;)V" = some P1.m.idx := findMethod_of_methodNamed hP1m hk
  have hsel0 : selectMethod e.platform s.vm P1.m.cls T.fill0 = .method T.fill0 := by
    obtain ⟨c2, r2, m2, q1, q2, q3, q4, -⟩ := Cond.selects_spec (a (.selects cls Bundle.tFill0 Bundle.tFill0) (by simp [Bundle.messageArmAtoms]))
    cases Option.some.inj (q1.symm.trans hfound)
    cases Option.some.inj (q2.symm.trans (State.methodFound?_of_named Y.fill0 (by decide)))
    cases Option.some.inj (q3.symm.trans Y.fill0)
    rw [Launch.admits_selectMethod X.admits]; exact q4
  have hselF : selectMethod e.platform s.vm P1.m.cls T.fill = .method T.fill := by
    obtain ⟨c2, r2, m2, q1, q2, q3, q4, -⟩ := Cond.selects_spec (a (.selects cls Bundle.tFill Bundle.tFill) (by simp [Bundle.messageArmAtoms]))
    cases Option.some.inj (q1.symm.trans hfound)
    cases Option.some.inj (q2.symm.trans (State.methodFound?_of_named Y.fill (by decide)))
    cases Option.some.inj (q3.symm.trans Y.fill)
    rw [Launch.admits_selectMethod X.admits]; exact q4
  obtain ⟨cellS0, hcS0, hiss⟩ := Y.statics
  obtain ⟨u0, hu0⟩ := Cond.staticRefV Y.unassigned L.unassignedStatic L.statics hcS0 hiss (a (.isRef (.static Bundle.tN "UNASSIGNED_STACK" Bundle.steD)) (by simp [Bundle.messageArmAtoms]))
  obtain ⟨sen, hsen⟩ := Cond.staticRefV Y.sentinel L.sentinelStatic L.statics hcS0 hiss (a (.isRef (.static Bundle.tN "SUPPRESSED_SENTINEL" Bundle.listD)) (by simp [Bundle.messageArmAtoms]))
  obtain ⟨ci198, i198, fB, hk198, hg198, ha198, hsB, -, hnB, htB, hffB⟩ := Cond.ownField (t := .object "java/lang/Object") Y.found L.cls (by decide +kernel) (a (.fieldLink Bundle.tN 198 Bundle.tN "backtrace" "Ljava/lang/Object;") (by simp [Bundle.messageArmAtoms])) (a (.lays Bundle.tN Bundle.tN "backtrace" "Ljava/lang/Object;") (by simp [Bundle.messageArmAtoms])) e.platform hpl
  obtain ⟨cellS, hcS', heS, -, hkeep⟩ := X.same.2.2.2.2.2 T.aS cellS0 hcS0
  have hcellS : W.heap[T.aS]? = some cellS := hcS'
  have hout' : ∀ i, (⟨T.aS, i⟩ : Loc) ∉ locs := fun i hmem => by
    have := hlocs _ hmem cellS0 hcS0
    rw [hiss] at this; cases this
  have hknownS : cellS.vm ≠ .unknown := by
    rw [heS]; intro hu
    rw [show cellS0.vm = .unknown from hu] at hiss
    cases hiss
  have hvU : cellS.slots[T.fUnassigned.slot]? = some u0.v := by rw [hkeep _ (hout' _)]; exact hu0
  have hvSen : cellS.slots[T.fSentinel.slot]? = some sen.v := by rw [hkeep _ (hout' _)]; exact hsen
  obtain ⟨iM, hffM⟩ := Y.msg
  obtain ⟨tyC, dC, hdC, hdnC⟩ := Cond.laysAt hfound hk Y.cause (a (.lays cls Bundle.tN "cause" "Ljava/lang/Throwable;") (by simp [Bundle.messageArmAtoms]))
  obtain ⟨tyS, dS, hdS, hdnS⟩ := Cond.laysAt hfound hk Y.stack (a (.lays cls Bundle.tN "stackTrace" Bundle.steD) (by simp [Bundle.messageArmAtoms]))
  obtain ⟨tyP, dP, hdP, hdnP⟩ := Cond.laysAt hfound hk Y.supp (a (.lays cls Bundle.tN "suppressedExceptions" Bundle.listD) (by simp [Bundle.messageArmAtoms]))
  obtain ⟨tyM, dM, hdM, hdnM⟩ := Cond.laysAt hfound hk hffM (a (.lays cls Bundle.tN "detailMessage" "Ljava/lang/String;") (by simp [Bundle.messageArmAtoms]))
  obtain ⟨tyB, dB, hdB, hdnB⟩ := Cond.laysAt hfound hk hffB (a (.lays cls Bundle.tN "backtrace" "Ljava/lang/Object;") (by simp [Bundle.messageArmAtoms]))
  have bC := Cond.laysApart hdB hdC hdnB hdnC (by rw [hnB, Y.causeName]; decide)
  have bS := Cond.laysApart hdB hdS hdnB hdnS (by rw [hnB, Y.stackName]; decide)
  have bP := Cond.laysApart hdB hdP hdnB hdnP (by rw [hnB, Y.suppName]; decide)
  have hbk : ((preparedCellV T.toThrowableT (freshCell P1.m.cls kX) (W.heap.size + 2) u0 sen).withEntry W.cur).slots[fB.slot]? = some .null := by
    have := fresh_default (c := P1.m.cls) tyB
    rw [htB] at this
    simpa [preparedCellV, Cell.setSlot, Cell.withEntry, Array.getElem?_setIfInBounds, bC, bS, bP, bC.symm, bS.symm, bP.symm, defaultValue] using this
  have tkC := Takes.of_laid (v := .ref (W.heap.size + 2)) hk hord tyC (by rw [Y.causeType]; rfl)
  have tkS := Takes.of_laid (v := u0.v) hk hord tyS (by rw [Y.stackType]; exact fits_refV_array _ u0)
  have tkP := Takes.of_laid (v := sen.v) hk hord tyP (by rw [Y.suppType]; exact fits_refV_object _ sen)
  have tkM := Takes.of_laid (v := .ref (W.heap.size + 1)) hk hord tyM (by rw [Y.msgType]; rfl)
  have hskip : SkipFacts T e.platform s (fun u => u) u0 ((preparedCellV T.toThrowableT (freshCell P1.m.cls kX) (W.heap.size + 2) u0 sen).withEntry W.cur) := ⟨{ ci198 := ci198, i198 := i198, fBack := fB }, ⟨hk198, hg198, ha198, hsB⟩, hbk, fun _ _ => rfl⟩
  have h0 : At W g.method c below := by rw [hg]; exact X.here
  obtain ⟨hbeyond, hfreeW⟩ := X.vmMayThrow hsize (.throwNew cls (some text) none) (fun f hf => by cases hf) rfl hRlocals
  have hfr' : W.frames.length + Ps.length + 4 < (e.platform.stackLimits W.me).1 := by have := X.framesAbove hRframes; omega
  have hwd' : (stackUse (.java g :: W.frames.tail)).2 + 13 * Ps.length + 55 ≤ (e.platform.stackLimits W.me).2 := by have := X.stackAbove hsize (K := 13 * Ps.length + 55) (by omega); omega
  have hslots : W.slotsUsed + (stringBytes (stringToUtf16 text)).size + Zs.kS.instanceTypes.size + kX.instanceTypes.size ≤ e.platform.maxSlots := by
    have := X.slotsAbove hRslots
    rw [hn4, hn6]
    omega
  obtain ⟨vm', hW', st⟩ := Steps.vmThrowsMessageColdByV p (s₀ := s) (S := W) (g := g) h0 hexec T L Z LZ M LM X.warmed (t := W.cur) rfl Zs LZs P1 L1 Ps hL hlink1 hlink hsoe hoom hfound hk hinit hord hctor
    (Launch.admits_hotImplicitExceptions X.admits) hbeyond hfreeW htext hlimit hheap (X.cellsAbove hRcells) hslots (hfitv _) (hfitc _)
    (Nn := fun u => u) heapOnly_id (fun _ _ => rfl) (fun _ => rfl) (fun u x y => setCell_twice _ _ _ _) (fun _ => Nat.le_refl _) (cN := ((preparedCellV T.toThrowableT (freshCell P1.m.cls kX) (W.heap.size + 2) u0 sen).withEntry W.cur))
    hsel0 hcellS hknownS hvU tkS (fun _ hu => hu) (fun _ hu => hu) rfl rfl rfl (by simp [preparedCellV, Cell.setSlot, Cell.withEntry]) hskip (fun _ _ hA hW _ hroom _ hrest => L.nativeOff p htr hA hW hroom hrest) hselF hvSen tkC tkP tkM Y.objLocals rfl hfr' hwd'
  rw [plainBareV_eq T.toThrowableT (W.heap.size + 2) u0 sen (.ref (W.heap.size + 1)) W.cur rfl rfl] at st
  obtain ⟨-, -, w3, w4, -, -, -⟩ := withThrown_facts e.platform W Zs text P1.m.cls kX
  have X3 := ((X.pushed (bytesOf Zs.cB (stringToUtf16 text))).pushed (stringAt Zs.cS Zs.kS Zs.fv Zs.fc (stringToUtf16 text) W.heap.size)).pushed (freshCell P1.m.cls kX)
  rw [← withString_eq] at X3
  have X4 := X3.noted hW'
  have ha : (W.heap.size + 2) < ((withThrown W Zs text P1.m.cls kX).setVm vm').heap.size := by show _ < (withThrown W Zs text P1.m.cls kX).heap.size; rw [w3]; omega
  have hcell : ((withThrown W Zs text P1.m.cls kX).setVm vm').heap[(W.heap.size + 2)]? = some (freshCell P1.m.cls kX) := w4
  have X5 := ((((X4.stored hcell T.fCause.slot (.ref (W.heap.size + 2))).storedAgain ha T.fStack.slot u0.v).storedAgain ha T.fSupp.slot sen.v).storedAgain ha T.fStack.slot u0.v).storedAgain ha T.fMsg.slot (.ref (W.heap.size + 1))
  obtain ⟨g₁, hfrM⟩ := X5.frames_eq
  have hU : ((((withThrown W Zs text P1.m.cls kX).setVm vm').setCell (W.heap.size + 2) (plainBareV T.toThrowableT (freshCell P1.m.cls kX) (W.heap.size + 2) u0 sen (.ref (W.heap.size + 1)))).setTop g).pushFrame (.throwing (W.heap.size + 2)) = (((withThrown W Zs text P1.m.cls kX).setVm vm').setCell (W.heap.size + 2) (plainBareV T.toThrowableT (freshCell P1.m.cls kX) (W.heap.size + 2) u0 sen (.ref (W.heap.size + 1)))).setFrames (.throwing (W.heap.size + 2) :: .java g :: below) := by
    rw [State.pushFrame, State.frames_setTop _ hfrM, State.setTop_of_frames _ hfrM, State.setFrames_setFrames]
  have b1 : (bytesOf Zs.cB (stringToUtf16 text)).slots.size = (stringBytes (stringToUtf16 text)).size := by
    rw [(Cell.writeAll_facts _ _).2.2]; simp [bytes0]
  have b2 : (stringAt Zs.cS Zs.kS Zs.fv Zs.fc (stringToUtf16 text) W.heap.size).slots.size = 4 := by simp [string0, Cell.setSlot, hn4]
  have b3 : (freshCell P1.m.cls kX).slots.size = 6 := by simp [hn6]
  rw [b1, b2, b3] at X5
  have e9 : slots + (stringBytes (stringToUtf16 text)).size + 4 + 6 = slots + ((stringBytes (stringToUtf16 text)).size + 4 + 6) := by omega
  rw [e9] at X5
  simp only [List.append_assoc, List.cons_append, List.nil_append] at X5
  refine ⟨((withThrown W Zs text P1.m.cls kX).setVm vm').setCell (W.heap.size + 2) (plainBareV T.toThrowableT (freshCell P1.m.cls kX) (W.heap.size + 2) u0 sen (.ref (W.heap.size + 1))), W.heap.size + 2, _, fun target ht => st _ (by rw [X.tail, ← hU]; exact ht),
    X5.forget (fun y hy => ?_), heapAt_setCell_self _ ha, hfound, rfl⟩
  simp only [List.mem_cons, List.not_mem_nil, or_false] at hy
  have hge : s.heap.size ≤ W.heap.size := X.same.2.1
  rcases hy with rfl | rfl | rfl | rfl | rfl <;> exact Nat.le_trans hge (Nat.le_add_right _ 2)
set_option maxHeartbeats 1000000 in
/-- the machine throws NullPointerException, no traces kept: from its note over the frame g to 'throwing' over the same frame (follows the proof of Stand.vmThrowsNpe, Shelf42/KT2.lean; throwsNpeColdBareVAt, Shelf42/NT91.lean, called) -/
theorem vx_npeAt {p : Program} {l : Launch} {e : Env} {R : Room} {s : State} {m₀ : MethodId} {args : Array Value} {below : List Frame} {meth : Method} {c : Code} {W : State} {locs : List Loc} {cells slots : Nat}
    (X : Stand p l e R s m₀ args below meth c W locs cells slots) (hexec : p.tables.exec = Jvm.exec) (htr : e.platform.stackTraces = false) {n : Nat}
    (h : ∀ a ∈ Bundle.npeArmAtoms n, a.before args s = true)
    (hlocs : ∀ x ∈ locs, ∀ cell, s.heap[x.base]? = some cell → cell.vm.isStatics = false)
    {g : JFrame} (hg : g.method = m₀) (hsize : g.locals.size = c.maxLocals)
    (hRframes : 7 < R.frames) (hRlocals : 2 * g.monitorRoom + (g.stack.map fun v => v.category).sum + 10240 ≤ R.locals)
    (hRcells : cells + 1 ≤ R.cells) (hRslots : slots + n ≤ R.slots) (hlocks : meth.locks = false) :
    ∃ (S : State) (q : Addr) (ce : Cell), (∀ target, Steps p.tables e below ((S.setTop g).pushFrame (.throwing q)) target → Steps p.tables e below ((W.setTop g).pushFrame (.throwNew "java/lang/NullPointerException" none none)) target) ∧
      Stand p l e R s m₀ args below meth c S locs (cells + 1) (slots + n) ∧ S.heap[q]? = some ce ∧ s.vm.findClass "java/lang/NullPointerException" = some ce.cls ∧ ce.vm = .none := by
  have howns : e.platform.frameOwnsMonitors = true := by rw [X.admits.platform]
  have hfin : e.platform.finalization = false := by rw [X.admits.platform]
  have hpl : e.platform.magicAccessors = ({} : Platform).magicAccessors := by rw [X.admits.platform]
  have hpl2 : e.platform.arrayCloneIsPublic = true := by rw [X.admits.platform]
  have a' : ∀ x, x ∈ Bundle.npeArmAtoms n → x.holds args s none s [] = true := fun x hx => h x hx
  obtain ⟨T, Z, L, LZ, Y⟩ := ThrowableC.of_atoms (args := args) howns hfin hpl (fun x hx => h x (by simp [Bundle.npeArmAtoms, hx]))
  obtain ⟨N, LN, hcN, hnNF, hordN, hffS⟩ := NpeC.of_atoms (args := args) hpl hpl2 L Y (fun x hx => h x (by simp [Bundle.npeArmAtoms, hx]))
  obtain ⟨P1, L1, hP1m, hP1s⟩ := PassC.of_atoms (args := args) (s := s) hpl (X := Bundle.nN) (Y := Bundle.rN) (by decide) (by decide) LibCode.NullPointerException.Init0.at_0 LibCode.NullPointerException.Init0.at_1 LibCode.NullPointerException.Init0.at_4 (fun x hx => h x (by simp [Bundle.npeArmAtoms, hx]))
  obtain ⟨PR, LR, hPRm, hPRs⟩ := PassC.of_atoms (args := args) (s := s) hpl (X := Bundle.rN) (Y := Bundle.eN) (by decide) (by decide) LibCode.RuntimeException.Init0.at_0 LibCode.RuntimeException.Init0.at_1 LibCode.RuntimeException.Init0.at_4 (fun x hx => h x (by simp [Bundle.npeArmAtoms, hx]))
  obtain ⟨PE, LEx, hPEm, hPEs⟩ := PassC.of_atoms (args := args) (s := s) hpl (X := Bundle.eN) (Y := Bundle.tN) (by decide) (by decide) LibCode.Exception.Init0.at_0 LibCode.Exception.Init0.at_1 LibCode.Exception.Init0.at_4 (fun x hx => h x (by simp [Bundle.npeArmAtoms, hx]))
  have hfound : s.vm.findClass Bundle.nN = some P1.m.cls := findClass_of_methodNamed hP1m
  have ecls : N.cN = P1.m.cls := Option.some.inj (hcN.symm.trans hfound)
  have hk : s.vm.classes[P1.m.cls]? = some N.kN := by rw [← ecls]; exact LN.cls
  have hinit := Cond.initialized_spec hfound hk (a' (.initialized Bundle.nN) (by simp [Bundle.npeArmAtoms]))
  have hctor : N.kN.findMethod "<init>" "()V" = some P1.m.idx := findMethod_of_methodNamed hP1m hk
  obtain ⟨c1, k1, hc1, hk1, -, -, -, hn⟩ := Cond.instantiable_spec (a' (.instantiable Bundle.nN n) (by simp [Bundle.npeArmAtoms]))
  cases Option.some.inj (hc1.symm.trans hfound)
  cases Option.some.inj (hk1.symm.trans hk)
  have hfsz : (freshCell P1.m.cls N.kN).slots.size = n := by simp [hn]
  have hlink1 : P1.sup = PR.m := Option.some.inj (hP1s.symm.trans hPRm)
  have hlinkR : PR.sup = PE.m := Option.some.inj (hPRs.symm.trans hPEm)
  have hlinkE : PE.sup = Z.m T.toThrowableT := Option.some.inj (hPEs.symm.trans Y.init0)
  have hLs : ∀ P, P ∈ [PR, PE] → P.Links0 e.platform s := fun P hP => by
    simp only [List.mem_cons, List.not_mem_nil, or_false] at hP
    rcases hP with rfl | rfl
    · exact LR
    · exact LEx
  have hsel0 : selectMethod e.platform s.vm P1.m.cls T.fill0 = .method T.fill0 := by
    obtain ⟨c2, r2, m2, q1, q2, q3, q4, -⟩ := Cond.selects_spec (a' (.selects Bundle.nN Bundle.tFill0 Bundle.tFill0) (by simp [Bundle.npeArmAtoms]))
    cases Option.some.inj (q1.symm.trans hfound)
    cases Option.some.inj (q2.symm.trans (State.methodFound?_of_named Y.fill0 (by decide)))
    cases Option.some.inj (q3.symm.trans Y.fill0)
    rw [Launch.admits_selectMethod X.admits]; exact q4
  have hselF : selectMethod e.platform s.vm P1.m.cls T.fill = .method N.fill := by
    obtain ⟨c2, r2, m2, q1, q2, q3, q4, -⟩ := Cond.selects_spec (a' (.selects Bundle.nN Bundle.tFill Bundle.nFill) (by simp [Bundle.npeArmAtoms]))
    cases Option.some.inj (q1.symm.trans hfound)
    cases Option.some.inj (q2.symm.trans (State.methodFound?_of_named Y.fill (by decide)))
    cases Option.some.inj (q3.symm.trans hnNF)
    rw [Launch.admits_selectMethod X.admits]; exact q4
  obtain ⟨cellS0, hcS0, hiss⟩ := Y.statics
  obtain ⟨u0, hu0⟩ := Cond.staticRefV Y.unassigned L.unassignedStatic L.statics hcS0 hiss (a' (.isRef (.static Bundle.tN "UNASSIGNED_STACK" Bundle.steD)) (by simp [Bundle.npeArmAtoms]))
  obtain ⟨sen, hsen⟩ := Cond.staticRefV Y.sentinel L.sentinelStatic L.statics hcS0 hiss (a' (.isRef (.static Bundle.tN "SUPPRESSED_SENTINEL" Bundle.listD)) (by simp [Bundle.npeArmAtoms]))
  obtain ⟨ci198, i198, fB, hk198, hg198, ha198, hsB, -, hnB, htB, hffB⟩ := Cond.ownField (t := .object "java/lang/Object") Y.found L.cls (by decide +kernel) (a' (.fieldLink Bundle.tN 198 Bundle.tN "backtrace" Bundle.objD) (by simp [Bundle.npeArmAtoms])) (a' (.lays Bundle.tN Bundle.tN "backtrace" Bundle.objD) (by simp [Bundle.npeArmAtoms])) e.platform hpl
  obtain ⟨cellS, hcS', heS, -, hkeep⟩ := X.same.2.2.2.2.2 T.aS cellS0 hcS0
  have hcellS : W.heap[T.aS]? = some cellS := hcS'
  have hout' : ∀ i, (⟨T.aS, i⟩ : Loc) ∉ locs := fun i hmem => by
    have := hlocs _ hmem cellS0 hcS0
    rw [hiss] at this; cases this
  have hknownS : cellS.vm ≠ .unknown := by
    rw [heS]; intro hu
    rw [show cellS0.vm = .unknown from hu] at hiss
    cases hiss
  have hvU : cellS.slots[T.fUnassigned.slot]? = some u0.v := by rw [hkeep _ (hout' _)]; exact hu0
  have hvSen : cellS.slots[T.fSentinel.slot]? = some sen.v := by rw [hkeep _ (hout' _)]; exact hsen
  obtain ⟨tyC, dC, hdC, hdnC⟩ := Cond.laysAt hfound hk Y.cause (a' (.lays Bundle.nN Bundle.tN "cause" "Ljava/lang/Throwable;") (by simp [Bundle.npeArmAtoms]))
  obtain ⟨tyS, dS, hdS, hdnS⟩ := Cond.laysAt hfound hk Y.stack (a' (.lays Bundle.nN Bundle.tN "stackTrace" Bundle.steD) (by simp [Bundle.npeArmAtoms]))
  obtain ⟨tyP, dP, hdP, hdnP⟩ := Cond.laysAt hfound hk Y.supp (a' (.lays Bundle.nN Bundle.tN "suppressedExceptions" Bundle.listD) (by simp [Bundle.npeArmAtoms]))
  obtain ⟨tyX, dX, hdX, hdnX⟩ := Cond.laysAt hfound hk hffS (a' (.lays Bundle.nN Bundle.nN "extendedMessageState" "I") (by simp [Bundle.npeArmAtoms, Bundle.npeAtoms]))
  obtain ⟨hnX, htX⟩ := State.fieldFound?_type hffS (t := .int) (by decide +kernel)
  have xC := Cond.laysApart hdC hdX hdnC hdnX (by rw [hnX, Y.causeName]; decide)
  have xS := Cond.laysApart hdS hdX hdnS hdnX (by rw [hnX, Y.stackName]; decide)
  have xP := Cond.laysApart hdP hdX hdnP hdnX (by rw [hnX, Y.suppName]; decide)
  have hv0 : (freshCell P1.m.cls N.kN).slots[N.fState.slot]? = some (.int 0) := by
    have := fresh_default (c := P1.m.cls) tyX
    rw [htX] at this; exact this
  obtain ⟨tyB, dB, hdB, hdnB⟩ := Cond.laysAt hfound hk hffB (a' (.lays Bundle.nN Bundle.tN "backtrace" Bundle.objD) (by simp [Bundle.npeArmAtoms]))
  have bC := Cond.laysApart hdB hdC hdnB hdnC (by rw [hnB, Y.causeName]; decide)
  have bS := Cond.laysApart hdB hdS hdnB hdnS (by rw [hnB, Y.stackName]; decide)
  have bP := Cond.laysApart hdB hdP hdnB hdnP (by rw [hnB, Y.suppName]; decide)
  have bX := Cond.laysApart hdB hdX hdnB hdnX (by rw [hnB, hnX]; decide)
  have hbk : ((npeCell N.toNpeT (preparedCellV T.toThrowableT (freshCell P1.m.cls N.kN) W.heap.size u0 sen) W.cur).withEntry W.cur).slots[fB.slot]? = some .null := by
    have := fresh_default (c := P1.m.cls) tyB
    rw [htB] at this
    simpa [npeCell, preparedCellV, Cell.setSlot, Cell.withEntry, Array.getElem?_setIfInBounds, bC, bS, bP, bX, bC.symm, bS.symm, bP.symm, bX.symm, defaultValue] using this
  have tkC := Takes.of_laid (v := .ref W.heap.size) hk hordN tyC (by rw [Y.causeType]; rfl)
  have tkS := Takes.of_laid (v := u0.v) hk hordN tyS (by rw [Y.stackType]; exact fits_refV_array _ u0)
  have tkP := Takes.of_laid (v := sen.v) hk hordN tyP (by rw [Y.suppType]; exact fits_refV_object _ sen)
  have tkX := Takes.of_laid (v := .int 1) hk hordN tyX (by rw [htX]; rfl)
  have hskip : SkipFacts T e.platform s (fun u => u) u0 ((npeCell N.toNpeT (preparedCellV T.toThrowableT (freshCell P1.m.cls N.kN) W.heap.size u0 sen) W.cur).withEntry W.cur) := ⟨{ ci198 := ci198, i198 := i198, fBack := fB }, ⟨hk198, hg198, ha198, hsB⟩, hbk, fun _ _ => rfl⟩
  obtain ⟨vm', X3, st, -⟩ := X.throwsNpeColdBareVAt hexec hg hsize T L Z LZ N LN P1 L1 [PR, PE] hLs hlink1 ⟨hlinkR, hlinkE, trivial⟩ hfound hk hinit hordN hctor hsel0 hselF hcellS hknownS hvU hvSen
    hv0 xC xS xP tkC tkS tkP tkX Y.objLocals hskip (fun _ _ hA hW _ hroom _ hrest => L.nativeOff p htr hA hW hroom hrest) (by simpa using hRframes) hRlocals (by simp) hRcells (by rw [hn]; exact hRslots)
  have hlt : W.heap.size < ((W.pushCell (freshCell P1.m.cls N.kN)).setVm vm').heap.size := by
    show W.heap.size < (W.pushCell (freshCell P1.m.cls N.kN)).heap.size
    rw [State.heap_size_pushCell]; omega
  rw [hfsz] at X3
  obtain ⟨g₁, hfrM⟩ := X3.frames_eq
  have hU : ((((W.pushCell (freshCell P1.m.cls N.kN)).setVm vm').setCell W.heap.size (npeBareV T.toThrowableT N.toNpeT (freshCell P1.m.cls N.kN) W.heap.size u0 sen)).setTop g).pushFrame (.throwing W.heap.size) = (((W.pushCell (freshCell P1.m.cls N.kN)).setVm vm').setCell W.heap.size (npeBareV T.toThrowableT N.toNpeT (freshCell P1.m.cls N.kN) W.heap.size u0 sen)).setFrames (.throwing W.heap.size :: .java g :: below) := by
    rw [State.pushFrame, State.frames_setTop _ hfrM, State.setTop_of_frames _ hfrM, State.setFrames_setFrames]
  refine ⟨_, W.heap.size, _, fun target ht => st.trans (by rw [← hU]; exact ht), X3.forget (fun y hy => ?_), heapAt_setCell_self _ hlt, hfound, rfl⟩
  simp only [List.mem_cons, List.not_mem_nil, or_false] at hy
  have hge : s.heap.size ≤ W.heap.size := X.same.2.1
  rcases hy with rfl | rfl | rfl | rfl | rfl <;> exact hge
/-- the words of a machine's NullPointerException, but the four that speak of the heap -/
def vx_atN (n : Nat) : List Cond := (Bundle.npeArmAtoms n).filter vx_no
/-- the words of a machine's throw with a message, but the four that speak of the heap -/
def vx_atM (X : String) (names : List String) : List Cond := (Bundle.messageArmAtoms X names).filter vx_no
section
variable {p : Program} {l : Launch} {e : Env} {R : Room} {s : State} {m : MethodId} {args : Array Value} {below : List Frame} {meth : Method} {c : Code} {H : Heap} {locs : List Loc} {cells slots : Nat}
/-- a frame seen from a rebased start, seen from the first start again -/
theorem vx_back9 {T S : State} {R' : Room} {k n : Nat} (X : Stand p l e R s m args below meth c T locs cells slots) (Y : Stand p l e R' ((T.setVm s.vm).setFrames (.invoking m args :: below)) m args below meth c T [] 0 0) (Z : Stand p l e R' ((T.setVm s.vm).setFrames (.invoking m args :: below)) m args below meth c S [] k n) :
    Stand p l e R s m args below meth c S locs (cells + k) (slots + n) := by
  have hW0 : s.WarmedH ((T.setVm s.vm).setFrames (.invoking m args :: below)).vm := State.WarmedH.refl s
  refine { admits := X.admits, cas := X.cas, clock := X.clock, frames := X.frames, room := X.room, hears := X.hears, method := X.method, code := X.code, here := Z.here, tail := Z.tail, warmed := State.WarmedH.trans hW0 Z.warmed, limits := Z.limits.trans (Y.limits.symm.trans X.limits), bytes := Z.bytes.trans (Y.bytes.symm.trans X.bytes), same := ?_ }
  obtain ⟨e1, e2⟩ := Z.same
  rw [State.setFrames_setFrames] at e1
  have h2 : (T.setVm s.vm).sameButNew (S.setVm s.vm) [] k n := ⟨e1, e2⟩
  have h3 := X.same.trans h2
  rw [List.append_nil] at h3
  exact h3
/-- from the machine's note that E is thrown here with this text -/
def vx_Note (p : Program) (l : Launch) (e : Env) (R : Room) (s : State) (m : MethodId) (args : Array Value) (below : List Frame) (meth : Method) (c : Code) (H : Heap) (locs : List Loc) (cells slots : Nat) (Q : State → Prop) (g : JFrame) (E text : String) : Prop :=
  ∀ T : State, T.heap = H → Stand p l e R s m args below meth c T locs cells slots → ∃ t, Steps p.tables e below ((T.setTop g).pushFrame (.throwNew E (some text) none)) t ∧ Q t
theorem vx_vm {pc : Nat} {ls : Array Slot} {rest : List Value} {Q : State → Prop} (hexec : p.tables.exec = Jvm.exec) (hl : l.stackTraces = false) {cls text : String} {names : List String} {nb : Nat} {A : Nat → Prop}
    (hcls : Bundle.fit cls = true) (hnames : ∀ n ∈ names, Bundle.fit n = true) (hsoe : (cls == "java/lang/StackOverflowError") = false) (hoom : (cls == "java/lang/OutOfMemoryError") = false)
    (hat : ∀ w ∈ vx_atM cls names, w.before args s = true) (hgood : ∀ w ∈ vx_atM cls names, vx_ot w = true)
    (hU : vx_Zq Bundle.tN "UNASSIGNED_STACK" Bundle.steD A s s.heap) (hN : vx_Zq Bundle.tN "SUPPRESSED_SENTINEL" Bundle.listD A s s.heap) (hS : va_S A s.heap H locs) (hsize : ls.size = c.maxLocals)
    (htext : (text == notModelled) = false) (hnb : (stringBytes (stringToUtf16 text)).size ≤ nb) (hnb1 : nb ≤ 1000)
    (hRframes : names.length + 4 < R.frames) (hRlocals : (rest.map fun v => v.category).sum + 10240 ≤ R.locals) (hshort : 13 * names.length + 55 ≤ 10240) (hRcells : cells + 3 ≤ R.cells) (hRslots : slots + (nb + 10) ≤ R.slots) (hlocks : meth.locks = false)
    (k : ∀ (H1 : Heap) (q9 : Addr) (ce : Cell), H.size ≤ H1.size → (∀ q : Nat, q < H.size → H1[q]? = H[q]?) → va_S A s.heap H1 locs → H1[q9]? = some ce → ce.vm = .none → s.vm.findClass cls = some ce.cls → vx_W p l e R s m args below meth c H1 locs (cells + 3) (slots + (nb + 10)) Q (F0 m pc ls rest) q9) :
    vx_Note p l e R s m args below meth c H locs cells slots Q (F0 m pc ls rest) cls text := by
  intro T hT X
  have htr : e.platform.stackTraces = false := (show e.platform.stackTraces = l.stackTraces by rw [X.admits.platform]).trans hl
  have Y := vx_rebase X (R' := { frames := R.frames, locals := R.locals, cells := 3, slots := nb + 10 }) (Nat.le_refl _) (Nat.le_refl _) hRcells hRslots
  have hhp : ((T.setVm s.vm).setFrames (.invoking m args :: below)).heap = H := hT
  have hW0 : s.WarmedH ((T.setVm s.vm).setFrames (.invoking m args :: below)).vm := State.WarmedH.refl s
  have hat' : ∀ w ∈ vx_atM cls names, w.before args ((T.setVm s.vm).setFrames (.invoking m args :: below)) = true := fun w hw => vx_ot_at hW0 rfl (hgood w hw) (hat w hw)
  have hU' : vx_Zq Bundle.tN "UNASSIGNED_STACK" Bundle.steD A ((T.setVm s.vm).setFrames (.invoking m args :: below)) ((T.setVm s.vm).setFrames (.invoking m args :: below)).heap := by rw [hhp]; exact vx_Zq.moved hW0.alike (hU.kept hS.2.1)
  have hN' : vx_Zq Bundle.tN "SUPPRESSED_SENTINEL" Bundle.listD A ((T.setVm s.vm).setFrames (.invoking m args :: below)) ((T.setVm s.vm).setFrames (.invoking m args :: below)).heap := by rw [hhp]; exact vx_Zq.moved hW0.alike (hN.kept hS.2.1)
  obtain ⟨S, q, ce, st, Z, hce, hcl', hv⟩ := vx_vmAt Y hexec htr (cls := cls) (names := names) (text := text) hcls hnames hsoe hoom (vx_own hat' (vx_isRefq hU'.1) (vx_isRefq hN'.1) hU'.2.word hN'.2.word) (fun x hx => nomatch hx) htext
    (by rw [Launch.admits_arrayLengthLimit X.admits]; omega) (by rw [Launch.admits_maxHeapBytes X.admits]; simp only [componentBytes]; omega)
    (g := F0 m pc ls rest) rfl hsize hRframes (by show 2 * 0 + (rest.map fun v => v.category).sum + 10240 ≤ R.locals; omega) hshort (by show 0 + 3 ≤ 3; omega) (by show 0 + (_ + 4 + 6) ≤ nb + 10; omega) hlocks
  obtain ⟨f1, f2⟩ := vx_frame Z.same
  have f1' : H.size ≤ S.heap.size := by rw [← hT]; exact f1
  have f2' : ∀ q : Nat, q < H.size → S.heap[q]? = H[q]? := fun q hq => by
    rw [← hT]
    exact f2 q (by rw [← hT] at hq; exact hq) (fun z hz => nomatch hz)
  have X5 := vx_back9 X Y Z
  have X6 : Stand p l e R s m args below meth c S locs (cells + 3) (slots + (nb + 10)) := { X5 with same := X5.same.mono (by omega) (by omega) }
  obtain ⟨t, a1, b1⟩ := k S.heap q ce f1' f2' ⟨Nat.le_trans hS.1 f1', fun q h1 h2 => (f2' q (Nat.lt_of_lt_of_le h1 hS.1)).trans (hS.2.1 q h1 h2), hS.2.2⟩ hce hv hcl' S rfl X6
  exact ⟨t, st t a1, b1⟩
/-- from the machine's note that NullPointerException is thrown here -/
def vx_NoteN (p : Program) (l : Launch) (e : Env) (R : Room) (s : State) (m : MethodId) (args : Array Value) (below : List Frame) (meth : Method) (c : Code) (H : Heap) (locs : List Loc) (cells slots : Nat) (Q : State → Prop) (g : JFrame) : Prop :=
  ∀ T : State, T.heap = H → Stand p l e R s m args below meth c T locs cells slots → ∃ t, Steps p.tables e below ((T.setTop g).pushFrame (.throwNew "java/lang/NullPointerException" none none)) t ∧ Q t
theorem vx_npe {pc : Nat} {ls : Array Slot} {rest : List Value} {Q : State → Prop} (hexec : p.tables.exec = Jvm.exec) (hl : l.stackTraces = false) {nb : Nat} {A : Nat → Prop}
    (hat : ∀ w ∈ vx_atN nb, w.before args s = true) (hgood : ∀ w ∈ vx_atN nb, vx_ot w = true)
    (hU : vx_Zq Bundle.tN "UNASSIGNED_STACK" Bundle.steD A s s.heap) (hN : vx_Zq Bundle.tN "SUPPRESSED_SENTINEL" Bundle.listD A s s.heap) (hS : va_S A s.heap H locs) (hsize : ls.size = c.maxLocals)
    (hRframes : 7 < R.frames) (hRlocals : (rest.map fun v => v.category).sum + 10240 ≤ R.locals) (hRcells : cells + 1 ≤ R.cells) (hRslots : slots + nb ≤ R.slots) (hlocks : meth.locks = false)
    (k : ∀ (H1 : Heap) (q9 : Addr) (ce : Cell), H.size ≤ H1.size → (∀ q : Nat, q < H.size → H1[q]? = H[q]?) → va_S A s.heap H1 locs → H1[q9]? = some ce → ce.vm = .none → s.vm.findClass "java/lang/NullPointerException" = some ce.cls → vx_W p l e R s m args below meth c H1 locs (cells + 1) (slots + nb) Q (F0 m pc ls rest) q9) :
    vx_NoteN p l e R s m args below meth c H locs cells slots Q (F0 m pc ls rest) := by
  intro T hT X
  have htr : e.platform.stackTraces = false := (show e.platform.stackTraces = l.stackTraces by rw [X.admits.platform]).trans hl
  have Y := vx_rebase X (R' := { frames := R.frames, locals := R.locals, cells := 1, slots := nb }) (Nat.le_refl _) (Nat.le_refl _) hRcells hRslots
  have hhp : ((T.setVm s.vm).setFrames (.invoking m args :: below)).heap = H := hT
  have hW0 : s.WarmedH ((T.setVm s.vm).setFrames (.invoking m args :: below)).vm := State.WarmedH.refl s
  have hat' : ∀ w ∈ vx_atN nb, w.before args ((T.setVm s.vm).setFrames (.invoking m args :: below)) = true := fun w hw => vx_ot_at hW0 rfl (hgood w hw) (hat w hw)
  have hU' : vx_Zq Bundle.tN "UNASSIGNED_STACK" Bundle.steD A ((T.setVm s.vm).setFrames (.invoking m args :: below)) ((T.setVm s.vm).setFrames (.invoking m args :: below)).heap := by rw [hhp]; exact vx_Zq.moved hW0.alike (hU.kept hS.2.1)
  have hN' : vx_Zq Bundle.tN "SUPPRESSED_SENTINEL" Bundle.listD A ((T.setVm s.vm).setFrames (.invoking m args :: below)) ((T.setVm s.vm).setFrames (.invoking m args :: below)).heap := by rw [hhp]; exact vx_Zq.moved hW0.alike (hN.kept hS.2.1)
  obtain ⟨S, q, ce, st, Z, hce, hcl', hv⟩ := vx_npeAt Y hexec htr (n := nb) (vx_own hat' (vx_isRefq hU'.1) (vx_isRefq hN'.1) hU'.2.word hN'.2.word) (fun x hx => nomatch hx)
    (g := F0 m pc ls rest) rfl hsize hRframes (by show 2 * 0 + (rest.map fun v => v.category).sum + 10240 ≤ R.locals; omega) (by show 0 + 1 ≤ 1; omega) (by show 0 + nb ≤ nb; omega) hlocks
  obtain ⟨f1, f2⟩ := vx_frame Z.same
  have f1' : H.size ≤ S.heap.size := by rw [← hT]; exact f1
  have f2' : ∀ q : Nat, q < H.size → S.heap[q]? = H[q]? := fun q hq => by
    rw [← hT]
    exact f2 q (by rw [← hT] at hq; exact hq) (fun z hz => nomatch hz)
  have X5 := vx_back9 X Y Z
  have X6 : Stand p l e R s m args below meth c S locs (cells + 1) (slots + nb) := { X5 with same := X5.same.mono (by omega) (by omega) }
  obtain ⟨t, a1, b1⟩ := k S.heap q ce f1' f2' ⟨Nat.le_trans hS.1 f1', fun q h1 h2 => (f2' q (Nat.lt_of_lt_of_le h1 hS.1)).trans (hS.2.1 q h1 h2), hS.2.2⟩ hce hv hcl' S rfl X6
  exact ⟨t, st t a1, b1⟩
variable {Q : State → Prop} {cc : ByteArray} {pc : Nat} {ls : Array Slot} {rest : List Value}
theorem vx_idivZ (hexec : p.tables.exec = Jvm.exec) (hb : c.code = cc) {a b : Int32} (h0 : b = 0) (d : decode cc pc = .ok (.idiv, 1)) (k : vx_Note p l e R s m args below meth c H locs cells slots Q (F0 m pc ls rest) "java/lang/ArithmeticException" "/ by zero") :
    W p l e R s m args below meth c H locs cells slots Q (F0 m pc ls (.int b :: .int a :: rest)) := by
  intro T hT X
  obtain ⟨t, st, q⟩ := k T hT X
  exact ⟨t, X.idivZero hexec (g := F0 m pc ls (.int b :: .int a :: rest)) rfl (a := a) (rest := rest) (by rw [h0]) (by rw [hb]; exact d) t st, q⟩
theorem vx_iremZ (hexec : p.tables.exec = Jvm.exec) (hb : c.code = cc) {a b : Int32} (h0 : b = 0) (d : decode cc pc = .ok (.irem, 1)) (k : vx_Note p l e R s m args below meth c H locs cells slots Q (F0 m pc ls rest) "java/lang/ArithmeticException" "/ by zero") :
    W p l e R s m args below meth c H locs cells slots Q (F0 m pc ls (.int b :: .int a :: rest)) := by
  intro T hT X
  obtain ⟨t, st, q⟩ := k T hT X
  exact ⟨t, X.iremZero hexec (g := F0 m pc ls (.int b :: .int a :: rest)) rfl (a := a) (rest := rest) (by rw [h0]) (by rw [hb]; exact d) t st, q⟩
theorem vx_ldivZ (hexec : p.tables.exec = Jvm.exec) (hb : c.code = cc) {a b : Int64} (h0 : b = 0) (d : decode cc pc = .ok (.ldiv, 1)) (k : vx_Note p l e R s m args below meth c H locs cells slots Q (F0 m pc ls rest) "java/lang/ArithmeticException" "/ by zero") :
    W p l e R s m args below meth c H locs cells slots Q (F0 m pc ls (.long b :: .long a :: rest)) := by
  intro T hT X
  obtain ⟨t, st, q⟩ := k T hT X
  exact ⟨t, X.ldivZero hexec (g := F0 m pc ls (.long b :: .long a :: rest)) rfl (a := a) (rest := rest) (by rw [h0]) (by rw [hb]; exact d) t st, q⟩
theorem vx_lremZ (hexec : p.tables.exec = Jvm.exec) (hb : c.code = cc) {a b : Int64} (h0 : b = 0) (d : decode cc pc = .ok (.lrem, 1)) (k : vx_Note p l e R s m args below meth c H locs cells slots Q (F0 m pc ls rest) "java/lang/ArithmeticException" "/ by zero") :
    W p l e R s m args below meth c H locs cells slots Q (F0 m pc ls (.long b :: .long a :: rest)) := by
  intro T hT X
  obtain ⟨t, st, q⟩ := k T hT X
  exact ⟨t, X.lremZero hexec (g := F0 m pc ls (.long b :: .long a :: rest)) rfl (a := a) (rest := rest) (by rw [h0]) (by rw [hb]; exact d) t st, q⟩
theorem vx_ialdZ {D : va_G} {cl : List vw_C} {ws : va_W} {tys : List (ClassId × FieldType)} {a : Nat} (hexec : p.tables.exec = Jvm.exec) (hb : c.code = cc) (hK : va_K D cl tys s) (hP : va_P D cl ws H) (q0 t0 : Nat) {cA : ClassId} {n : Nat} {f : Nat → Int32} (ha : ws[q0]? = some (a, .inl (cA, n, .inl f))) (ht : tys[t0]? = some (cA, .int)) {i : Int32} (hout : ¬ vp_in i n) (hdg : decode cc pc = .ok (.iaload, 1))
    (k : ∀ tx : String, tx = (toString "Index " ++ toString i ++ toString " out of bounds for length " ++ toString n : String) → vx_Note p l e R s m args below meth c H locs cells slots Q (F0 m pc ls rest) "java/lang/ArrayIndexOutOfBoundsException" tx) : W p l e R s m args below meth c H locs cells slots Q (F0 m pc ls (.int i :: .ref a :: rest)) := by
  intro T hT X
  obtain ⟨t, st, q⟩ := k _ rfl T hT X
  refine ⟨t, ?_, q⟩
  have h1 := X.ialoadOut hexec (by rw [hT]; exact hP q0 _ ha) ((hK.2 t0 _ ht).1 n (fun j => .int (f j))) (j := i) (by show (i < 0 ∨ (arrV _ _ _).slots.size ≤ _); rw [arrV_size]; exact Classical.byContradiction hout) (g := F0 m pc ls (.int i :: .ref a :: rest)) rfl (rest := rest) rfl (by rw [hb]; exact hdg) t
  simp only [arrV_size] at h1
  exact h1 st
theorem vx_iastZ {D : va_G} {cl : List vw_C} {ws : va_W} {tys : List (ClassId × FieldType)} {a : Nat} (hexec : p.tables.exec = Jvm.exec) (hb : c.code = cc) (hK : va_K D cl tys s) (hP : va_P D cl ws H) (q0 t0 : Nat) {cA : ClassId} {n : Nat} {f : Nat → Int32} (ha : ws[q0]? = some (a, .inl (cA, n, .inl f))) (ht : tys[t0]? = some (cA, .int)) {i : Int32} {x : Int32} (hout : ¬ vp_in i n) (hdg : decode cc pc = .ok (.iastore, 1))
    (k : ∀ tx : String, tx = (toString "Index " ++ toString i ++ toString " out of bounds for length " ++ toString n : String) → vx_Note p l e R s m args below meth c H locs cells slots Q (F0 m pc ls rest) "java/lang/ArrayIndexOutOfBoundsException" tx) : W p l e R s m args below meth c H locs cells slots Q (F0 m pc ls (.int x :: .int i :: .ref a :: rest)) := by
  intro T hT X
  obtain ⟨t, st, q⟩ := k _ rfl T hT X
  refine ⟨t, ?_, q⟩
  have h1 := X.iastoreOut hexec (by rw [hT]; exact hP q0 _ ha) ((hK.2 t0 _ ht).1 n (fun j => .int (f j))) (j := i) (by show (i < 0 ∨ (arrV _ _ _).slots.size ≤ _); rw [arrV_size]; exact Classical.byContradiction hout) (g := F0 m pc ls (.int x :: .int i :: .ref a :: rest)) rfl (rest := rest) rfl (by rw [hb]; exact hdg) t
  simp only [arrV_size] at h1
  exact h1 st
theorem vx_baldZ {D : va_G} {cl : List vw_C} {ws : va_W} {tys : List (ClassId × FieldType)} {a : Nat} (hexec : p.tables.exec = Jvm.exec) (hb : c.code = cc) (hK : va_K D cl tys s) (hP : va_P D cl ws H) (q0 t0 : Nat) {cA : ClassId} {n : Nat} {f : Nat → Int32} (ha : ws[q0]? = some (a, .inl (cA, n, .inl f))) (ht : tys[t0]? = some (cA, .byte)) {i : Int32} (hout : ¬ vp_in i n) (hdg : decode cc pc = .ok (.baload, 1))
    (k : ∀ tx : String, tx = (toString "Index " ++ toString i ++ toString " out of bounds for length " ++ toString n : String) → vx_Note p l e R s m args below meth c H locs cells slots Q (F0 m pc ls rest) "java/lang/ArrayIndexOutOfBoundsException" tx) : W p l e R s m args below meth c H locs cells slots Q (F0 m pc ls (.int i :: .ref a :: rest)) := by
  intro T hT X
  obtain ⟨t, st, q⟩ := k _ rfl T hT X
  refine ⟨t, ?_, q⟩
  have h1 := X.baloadOut hexec (by rw [hT]; exact hP q0 _ ha) ((hK.2 t0 _ ht).1 n (fun j => .int (f j))) (j := i) (by show (i < 0 ∨ (arrV _ _ _).slots.size ≤ _); rw [arrV_size]; exact Classical.byContradiction hout) (g := F0 m pc ls (.int i :: .ref a :: rest)) rfl (rest := rest) rfl (by rw [hb]; exact hdg) t
  simp only [arrV_size] at h1
  exact h1 st
theorem vx_bastZ {D : va_G} {cl : List vw_C} {ws : va_W} {tys : List (ClassId × FieldType)} {a : Nat} (hexec : p.tables.exec = Jvm.exec) (hb : c.code = cc) (hK : va_K D cl tys s) (hP : va_P D cl ws H) (q0 t0 : Nat) {cA : ClassId} {n : Nat} {f : Nat → Int32} (ha : ws[q0]? = some (a, .inl (cA, n, .inl f))) (ht : tys[t0]? = some (cA, .byte)) {i : Int32} {x : Int32} (hout : ¬ vp_in i n) (hdg : decode cc pc = .ok (.bastore, 1))
    (k : ∀ tx : String, tx = (toString "Index " ++ toString i ++ toString " out of bounds for length " ++ toString n : String) → vx_Note p l e R s m args below meth c H locs cells slots Q (F0 m pc ls rest) "java/lang/ArrayIndexOutOfBoundsException" tx) : W p l e R s m args below meth c H locs cells slots Q (F0 m pc ls (.int x :: .int i :: .ref a :: rest)) := by
  intro T hT X
  obtain ⟨t, st, q⟩ := k _ rfl T hT X
  refine ⟨t, ?_, q⟩
  have h1 := X.bastoreOut hexec (by rw [hT]; exact hP q0 _ ha) ((hK.2 t0 _ ht).1 n (fun j => .int (f j))) (j := i) (by show (i < 0 ∨ (arrV _ _ _).slots.size ≤ _); rw [arrV_size]; exact Classical.byContradiction hout) (g := F0 m pc ls (.int x :: .int i :: .ref a :: rest)) rfl (rest := rest) rfl (by rw [hb]; exact hdg) t
  simp only [arrV_size] at h1
  exact h1 st
theorem vx_zaldZ {D : va_G} {cl : List vw_C} {ws : va_W} {tys : List (ClassId × FieldType)} {a : Nat} (hexec : p.tables.exec = Jvm.exec) (hb : c.code = cc) (hK : va_K D cl tys s) (hP : va_P D cl ws H) (q0 t0 : Nat) {cA : ClassId} {n : Nat} {f : Nat → Int32} (ha : ws[q0]? = some (a, .inl (cA, n, .inl f))) (ht : tys[t0]? = some (cA, .boolean)) {i : Int32} (hout : ¬ vp_in i n) (hdg : decode cc pc = .ok (.baload, 1))
    (k : ∀ tx : String, tx = (toString "Index " ++ toString i ++ toString " out of bounds for length " ++ toString n : String) → vx_Note p l e R s m args below meth c H locs cells slots Q (F0 m pc ls rest) "java/lang/ArrayIndexOutOfBoundsException" tx) : W p l e R s m args below meth c H locs cells slots Q (F0 m pc ls (.int i :: .ref a :: rest)) := by
  intro T hT X
  obtain ⟨t, st, q⟩ := k _ rfl T hT X
  refine ⟨t, ?_, q⟩
  have h1 := X.baloadOut hexec (by rw [hT]; exact hP q0 _ ha) ((hK.2 t0 _ ht).1 n (fun j => .int (f j))) (j := i) (by show (i < 0 ∨ (arrV _ _ _).slots.size ≤ _); rw [arrV_size]; exact Classical.byContradiction hout) (g := F0 m pc ls (.int i :: .ref a :: rest)) rfl (rest := rest) rfl (by rw [hb]; exact hdg) t
  simp only [arrV_size] at h1
  exact h1 st
theorem vx_zastZ {D : va_G} {cl : List vw_C} {ws : va_W} {tys : List (ClassId × FieldType)} {a : Nat} (hexec : p.tables.exec = Jvm.exec) (hb : c.code = cc) (hK : va_K D cl tys s) (hP : va_P D cl ws H) (q0 t0 : Nat) {cA : ClassId} {n : Nat} {f : Nat → Int32} (ha : ws[q0]? = some (a, .inl (cA, n, .inl f))) (ht : tys[t0]? = some (cA, .boolean)) {i : Int32} {x : Int32} (hout : ¬ vp_in i n) (hdg : decode cc pc = .ok (.bastore, 1))
    (k : ∀ tx : String, tx = (toString "Index " ++ toString i ++ toString " out of bounds for length " ++ toString n : String) → vx_Note p l e R s m args below meth c H locs cells slots Q (F0 m pc ls rest) "java/lang/ArrayIndexOutOfBoundsException" tx) : W p l e R s m args below meth c H locs cells slots Q (F0 m pc ls (.int x :: .int i :: .ref a :: rest)) := by
  intro T hT X
  obtain ⟨t, st, q⟩ := k _ rfl T hT X
  refine ⟨t, ?_, q⟩
  have h1 := X.bastoreOut hexec (by rw [hT]; exact hP q0 _ ha) ((hK.2 t0 _ ht).1 n (fun j => .int (f j))) (j := i) (by show (i < 0 ∨ (arrV _ _ _).slots.size ≤ _); rw [arrV_size]; exact Classical.byContradiction hout) (g := F0 m pc ls (.int x :: .int i :: .ref a :: rest)) rfl (rest := rest) rfl (by rw [hb]; exact hdg) t
  simp only [arrV_size] at h1
  exact h1 st
theorem vx_caldZ {D : va_G} {cl : List vw_C} {ws : va_W} {tys : List (ClassId × FieldType)} {a : Nat} (hexec : p.tables.exec = Jvm.exec) (hb : c.code = cc) (hK : va_K D cl tys s) (hP : va_P D cl ws H) (q0 t0 : Nat) {cA : ClassId} {n : Nat} {f : Nat → Int32} (ha : ws[q0]? = some (a, .inl (cA, n, .inl f))) (ht : tys[t0]? = some (cA, .char)) {i : Int32} (hout : ¬ vp_in i n) (hdg : decode cc pc = .ok (.caload, 1))
    (k : ∀ tx : String, tx = (toString "Index " ++ toString i ++ toString " out of bounds for length " ++ toString n : String) → vx_Note p l e R s m args below meth c H locs cells slots Q (F0 m pc ls rest) "java/lang/ArrayIndexOutOfBoundsException" tx) : W p l e R s m args below meth c H locs cells slots Q (F0 m pc ls (.int i :: .ref a :: rest)) := by
  intro T hT X
  obtain ⟨t, st, q⟩ := k _ rfl T hT X
  refine ⟨t, ?_, q⟩
  have h1 := X.caloadOut hexec (by rw [hT]; exact hP q0 _ ha) ((hK.2 t0 _ ht).1 n (fun j => .int (f j))) (j := i) (by show (i < 0 ∨ (arrV _ _ _).slots.size ≤ _); rw [arrV_size]; exact Classical.byContradiction hout) (g := F0 m pc ls (.int i :: .ref a :: rest)) rfl (rest := rest) rfl (by rw [hb]; exact hdg) t
  simp only [arrV_size] at h1
  exact h1 st
theorem vx_castZ {D : va_G} {cl : List vw_C} {ws : va_W} {tys : List (ClassId × FieldType)} {a : Nat} (hexec : p.tables.exec = Jvm.exec) (hb : c.code = cc) (hK : va_K D cl tys s) (hP : va_P D cl ws H) (q0 t0 : Nat) {cA : ClassId} {n : Nat} {f : Nat → Int32} (ha : ws[q0]? = some (a, .inl (cA, n, .inl f))) (ht : tys[t0]? = some (cA, .char)) {i : Int32} {x : Int32} (hout : ¬ vp_in i n) (hdg : decode cc pc = .ok (.castore, 1))
    (k : ∀ tx : String, tx = (toString "Index " ++ toString i ++ toString " out of bounds for length " ++ toString n : String) → vx_Note p l e R s m args below meth c H locs cells slots Q (F0 m pc ls rest) "java/lang/ArrayIndexOutOfBoundsException" tx) : W p l e R s m args below meth c H locs cells slots Q (F0 m pc ls (.int x :: .int i :: .ref a :: rest)) := by
  intro T hT X
  obtain ⟨t, st, q⟩ := k _ rfl T hT X
  refine ⟨t, ?_, q⟩
  have h1 := X.castoreOut hexec (by rw [hT]; exact hP q0 _ ha) ((hK.2 t0 _ ht).1 n (fun j => .int (f j))) (j := i) (by show (i < 0 ∨ (arrV _ _ _).slots.size ≤ _); rw [arrV_size]; exact Classical.byContradiction hout) (g := F0 m pc ls (.int x :: .int i :: .ref a :: rest)) rfl (rest := rest) rfl (by rw [hb]; exact hdg) t
  simp only [arrV_size] at h1
  exact h1 st
theorem vx_saldZ {D : va_G} {cl : List vw_C} {ws : va_W} {tys : List (ClassId × FieldType)} {a : Nat} (hexec : p.tables.exec = Jvm.exec) (hb : c.code = cc) (hK : va_K D cl tys s) (hP : va_P D cl ws H) (q0 t0 : Nat) {cA : ClassId} {n : Nat} {f : Nat → Int32} (ha : ws[q0]? = some (a, .inl (cA, n, .inl f))) (ht : tys[t0]? = some (cA, .short)) {i : Int32} (hout : ¬ vp_in i n) (hdg : decode cc pc = .ok (.saload, 1))
    (k : ∀ tx : String, tx = (toString "Index " ++ toString i ++ toString " out of bounds for length " ++ toString n : String) → vx_Note p l e R s m args below meth c H locs cells slots Q (F0 m pc ls rest) "java/lang/ArrayIndexOutOfBoundsException" tx) : W p l e R s m args below meth c H locs cells slots Q (F0 m pc ls (.int i :: .ref a :: rest)) := by
  intro T hT X
  obtain ⟨t, st, q⟩ := k _ rfl T hT X
  refine ⟨t, ?_, q⟩
  have h1 := X.saloadOut hexec (by rw [hT]; exact hP q0 _ ha) ((hK.2 t0 _ ht).1 n (fun j => .int (f j))) (j := i) (by show (i < 0 ∨ (arrV _ _ _).slots.size ≤ _); rw [arrV_size]; exact Classical.byContradiction hout) (g := F0 m pc ls (.int i :: .ref a :: rest)) rfl (rest := rest) rfl (by rw [hb]; exact hdg) t
  simp only [arrV_size] at h1
  exact h1 st
theorem vx_sastZ {D : va_G} {cl : List vw_C} {ws : va_W} {tys : List (ClassId × FieldType)} {a : Nat} (hexec : p.tables.exec = Jvm.exec) (hb : c.code = cc) (hK : va_K D cl tys s) (hP : va_P D cl ws H) (q0 t0 : Nat) {cA : ClassId} {n : Nat} {f : Nat → Int32} (ha : ws[q0]? = some (a, .inl (cA, n, .inl f))) (ht : tys[t0]? = some (cA, .short)) {i : Int32} {x : Int32} (hout : ¬ vp_in i n) (hdg : decode cc pc = .ok (.sastore, 1))
    (k : ∀ tx : String, tx = (toString "Index " ++ toString i ++ toString " out of bounds for length " ++ toString n : String) → vx_Note p l e R s m args below meth c H locs cells slots Q (F0 m pc ls rest) "java/lang/ArrayIndexOutOfBoundsException" tx) : W p l e R s m args below meth c H locs cells slots Q (F0 m pc ls (.int x :: .int i :: .ref a :: rest)) := by
  intro T hT X
  obtain ⟨t, st, q⟩ := k _ rfl T hT X
  refine ⟨t, ?_, q⟩
  have h1 := X.sastoreOut hexec (by rw [hT]; exact hP q0 _ ha) ((hK.2 t0 _ ht).1 n (fun j => .int (f j))) (j := i) (by show (i < 0 ∨ (arrV _ _ _).slots.size ≤ _); rw [arrV_size]; exact Classical.byContradiction hout) (g := F0 m pc ls (.int x :: .int i :: .ref a :: rest)) rfl (rest := rest) rfl (by rw [hb]; exact hdg) t
  simp only [arrV_size] at h1
  exact h1 st
theorem vx_laldZ {D : va_G} {cl : List vw_C} {ws : va_W} {tys : List (ClassId × FieldType)} {a : Nat} (hexec : p.tables.exec = Jvm.exec) (hb : c.code = cc) (hK : va_K D cl tys s) (hP : va_P D cl ws H) (q0 t0 : Nat) {cA : ClassId} {n : Nat} {f : Nat → Int64} (ha : ws[q0]? = some (a, .inl (cA, n, .inr (.inl f)))) (ht : tys[t0]? = some (cA, .long)) {i : Int32} (hout : ¬ vp_in i n) (hdg : decode cc pc = .ok (.laload, 1))
    (k : ∀ tx : String, tx = (toString "Index " ++ toString i ++ toString " out of bounds for length " ++ toString n : String) → vx_Note p l e R s m args below meth c H locs cells slots Q (F0 m pc ls rest) "java/lang/ArrayIndexOutOfBoundsException" tx) : W p l e R s m args below meth c H locs cells slots Q (F0 m pc ls (.int i :: .ref a :: rest)) := by
  intro T hT X
  obtain ⟨t, st, q⟩ := k _ rfl T hT X
  refine ⟨t, ?_, q⟩
  have h1 := X.laloadOut hexec (by rw [hT]; exact hP q0 _ ha) ((hK.2 t0 _ ht).1 n (fun j => .long (f j))) (j := i) (by show (i < 0 ∨ (arrV _ _ _).slots.size ≤ _); rw [arrV_size]; exact Classical.byContradiction hout) (g := F0 m pc ls (.int i :: .ref a :: rest)) rfl (rest := rest) rfl (by rw [hb]; exact hdg) t
  simp only [arrV_size] at h1
  exact h1 st
theorem vx_lastZ {D : va_G} {cl : List vw_C} {ws : va_W} {tys : List (ClassId × FieldType)} {a : Nat} (hexec : p.tables.exec = Jvm.exec) (hb : c.code = cc) (hK : va_K D cl tys s) (hP : va_P D cl ws H) (q0 t0 : Nat) {cA : ClassId} {n : Nat} {f : Nat → Int64} (ha : ws[q0]? = some (a, .inl (cA, n, .inr (.inl f)))) (ht : tys[t0]? = some (cA, .long)) {i : Int32} {x : Int64} (hout : ¬ vp_in i n) (hdg : decode cc pc = .ok (.lastore, 1))
    (k : ∀ tx : String, tx = (toString "Index " ++ toString i ++ toString " out of bounds for length " ++ toString n : String) → vx_Note p l e R s m args below meth c H locs cells slots Q (F0 m pc ls rest) "java/lang/ArrayIndexOutOfBoundsException" tx) : W p l e R s m args below meth c H locs cells slots Q (F0 m pc ls (.long x :: .int i :: .ref a :: rest)) := by
  intro T hT X
  obtain ⟨t, st, q⟩ := k _ rfl T hT X
  refine ⟨t, ?_, q⟩
  have h1 := X.lastoreOut hexec (by rw [hT]; exact hP q0 _ ha) ((hK.2 t0 _ ht).1 n (fun j => .long (f j))) (j := i) (by show (i < 0 ∨ (arrV _ _ _).slots.size ≤ _); rw [arrV_size]; exact Classical.byContradiction hout) (g := F0 m pc ls (.long x :: .int i :: .ref a :: rest)) rfl (rest := rest) rfl (by rw [hb]; exact hdg) t
  simp only [arrV_size] at h1
  exact h1 st
theorem vx_faldZ {D : va_G} {cl : List vw_C} {ws : va_W} {tys : List (ClassId × FieldType)} {a : Nat} (hexec : p.tables.exec = Jvm.exec) (hb : c.code = cc) (hK : va_K D cl tys s) (hP : va_P D cl ws H) (q0 t0 : Nat) {cA : ClassId} {n : Nat} {f : Nat → UInt32} (ha : ws[q0]? = some (a, .inl (cA, n, .inr (.inr (.inl f))))) (ht : tys[t0]? = some (cA, .float)) {i : Int32} (hout : ¬ vp_in i n) (hdg : decode cc pc = .ok (.faload, 1))
    (k : ∀ tx : String, tx = (toString "Index " ++ toString i ++ toString " out of bounds for length " ++ toString n : String) → vx_Note p l e R s m args below meth c H locs cells slots Q (F0 m pc ls rest) "java/lang/ArrayIndexOutOfBoundsException" tx) : W p l e R s m args below meth c H locs cells slots Q (F0 m pc ls (.int i :: .ref a :: rest)) := by
  intro T hT X
  obtain ⟨t, st, q⟩ := k _ rfl T hT X
  refine ⟨t, ?_, q⟩
  have h1 := X.faloadOut hexec (by rw [hT]; exact hP q0 _ ha) ((hK.2 t0 _ ht).1 n (fun j => .float (f j))) (j := i) (by show (i < 0 ∨ (arrV _ _ _).slots.size ≤ _); rw [arrV_size]; exact Classical.byContradiction hout) (g := F0 m pc ls (.int i :: .ref a :: rest)) rfl (rest := rest) rfl (by rw [hb]; exact hdg) t
  simp only [arrV_size] at h1
  exact h1 st
theorem vx_fastZ {D : va_G} {cl : List vw_C} {ws : va_W} {tys : List (ClassId × FieldType)} {a : Nat} (hexec : p.tables.exec = Jvm.exec) (hb : c.code = cc) (hK : va_K D cl tys s) (hP : va_P D cl ws H) (q0 t0 : Nat) {cA : ClassId} {n : Nat} {f : Nat → UInt32} (ha : ws[q0]? = some (a, .inl (cA, n, .inr (.inr (.inl f))))) (ht : tys[t0]? = some (cA, .float)) {i : Int32} {x : UInt32} (hout : ¬ vp_in i n) (hdg : decode cc pc = .ok (.fastore, 1))
    (k : ∀ tx : String, tx = (toString "Index " ++ toString i ++ toString " out of bounds for length " ++ toString n : String) → vx_Note p l e R s m args below meth c H locs cells slots Q (F0 m pc ls rest) "java/lang/ArrayIndexOutOfBoundsException" tx) : W p l e R s m args below meth c H locs cells slots Q (F0 m pc ls (.float x :: .int i :: .ref a :: rest)) := by
  intro T hT X
  obtain ⟨t, st, q⟩ := k _ rfl T hT X
  refine ⟨t, ?_, q⟩
  have h1 := X.fastoreOut hexec (by rw [hT]; exact hP q0 _ ha) ((hK.2 t0 _ ht).1 n (fun j => .float (f j))) (j := i) (by show (i < 0 ∨ (arrV _ _ _).slots.size ≤ _); rw [arrV_size]; exact Classical.byContradiction hout) (g := F0 m pc ls (.float x :: .int i :: .ref a :: rest)) rfl (rest := rest) rfl (by rw [hb]; exact hdg) t
  simp only [arrV_size] at h1
  exact h1 st
theorem vx_daldZ {D : va_G} {cl : List vw_C} {ws : va_W} {tys : List (ClassId × FieldType)} {a : Nat} (hexec : p.tables.exec = Jvm.exec) (hb : c.code = cc) (hK : va_K D cl tys s) (hP : va_P D cl ws H) (q0 t0 : Nat) {cA : ClassId} {n : Nat} {f : Nat → UInt64} (ha : ws[q0]? = some (a, .inl (cA, n, .inr (.inr (.inr (.inl f)))))) (ht : tys[t0]? = some (cA, .double)) {i : Int32} (hout : ¬ vp_in i n) (hdg : decode cc pc = .ok (.daload, 1))
    (k : ∀ tx : String, tx = (toString "Index " ++ toString i ++ toString " out of bounds for length " ++ toString n : String) → vx_Note p l e R s m args below meth c H locs cells slots Q (F0 m pc ls rest) "java/lang/ArrayIndexOutOfBoundsException" tx) : W p l e R s m args below meth c H locs cells slots Q (F0 m pc ls (.int i :: .ref a :: rest)) := by
  intro T hT X
  obtain ⟨t, st, q⟩ := k _ rfl T hT X
  refine ⟨t, ?_, q⟩
  have h1 := X.daloadOut hexec (by rw [hT]; exact hP q0 _ ha) ((hK.2 t0 _ ht).1 n (fun j => .double (f j))) (j := i) (by show (i < 0 ∨ (arrV _ _ _).slots.size ≤ _); rw [arrV_size]; exact Classical.byContradiction hout) (g := F0 m pc ls (.int i :: .ref a :: rest)) rfl (rest := rest) rfl (by rw [hb]; exact hdg) t
  simp only [arrV_size] at h1
  exact h1 st
theorem vx_dastZ {D : va_G} {cl : List vw_C} {ws : va_W} {tys : List (ClassId × FieldType)} {a : Nat} (hexec : p.tables.exec = Jvm.exec) (hb : c.code = cc) (hK : va_K D cl tys s) (hP : va_P D cl ws H) (q0 t0 : Nat) {cA : ClassId} {n : Nat} {f : Nat → UInt64} (ha : ws[q0]? = some (a, .inl (cA, n, .inr (.inr (.inr (.inl f)))))) (ht : tys[t0]? = some (cA, .double)) {i : Int32} {x : UInt64} (hout : ¬ vp_in i n) (hdg : decode cc pc = .ok (.dastore, 1))
    (k : ∀ tx : String, tx = (toString "Index " ++ toString i ++ toString " out of bounds for length " ++ toString n : String) → vx_Note p l e R s m args below meth c H locs cells slots Q (F0 m pc ls rest) "java/lang/ArrayIndexOutOfBoundsException" tx) : W p l e R s m args below meth c H locs cells slots Q (F0 m pc ls (.double x :: .int i :: .ref a :: rest)) := by
  intro T hT X
  obtain ⟨t, st, q⟩ := k _ rfl T hT X
  refine ⟨t, ?_, q⟩
  have h1 := X.dastoreOut hexec (by rw [hT]; exact hP q0 _ ha) ((hK.2 t0 _ ht).1 n (fun j => .double (f j))) (j := i) (by show (i < 0 ∨ (arrV _ _ _).slots.size ≤ _); rw [arrV_size]; exact Classical.byContradiction hout) (g := F0 m pc ls (.double x :: .int i :: .ref a :: rest)) rfl (rest := rest) rfl (by rw [hb]; exact hdg) t
  simp only [arrV_size] at h1
  exact h1 st
theorem vx_arraylengthN (hexec : p.tables.exec = Jvm.exec) (hb : c.code = cc) (hdg : decode cc pc = .ok (.arraylength, 1)) (k : vx_NoteN p l e R s m args below meth c H locs cells slots Q (F0 m pc ls rest)) : W p l e R s m args below meth c H locs cells slots Q (F0 m pc ls (.null :: rest)) := by
  intro T hT X
  obtain ⟨t, st, q⟩ := k T hT X
  exact ⟨t, X.arraylengthNull hexec (g := F0 m pc ls (.null :: rest)) rfl (rest := rest) rfl (by rw [hb]; exact hdg) t st, q⟩
theorem vx_ialoadN (hexec : p.tables.exec = Jvm.exec) (hb : c.code = cc) {i : Int32} (hdg : decode cc pc = .ok (.iaload, 1)) (k : vx_NoteN p l e R s m args below meth c H locs cells slots Q (F0 m pc ls rest)) : W p l e R s m args below meth c H locs cells slots Q (F0 m pc ls (.int i :: .null :: rest)) := by
  intro T hT X
  obtain ⟨t, st, q⟩ := k T hT X
  exact ⟨t, X.ialoadNull hexec (g := F0 m pc ls (.int i :: .null :: rest)) rfl (rest := rest) rfl (by rw [hb]; exact hdg) t st, q⟩
theorem vx_laloadN (hexec : p.tables.exec = Jvm.exec) (hb : c.code = cc) {i : Int32} (hdg : decode cc pc = .ok (.laload, 1)) (k : vx_NoteN p l e R s m args below meth c H locs cells slots Q (F0 m pc ls rest)) : W p l e R s m args below meth c H locs cells slots Q (F0 m pc ls (.int i :: .null :: rest)) := by
  intro T hT X
  obtain ⟨t, st, q⟩ := k T hT X
  exact ⟨t, X.laloadNull hexec (g := F0 m pc ls (.int i :: .null :: rest)) rfl (rest := rest) rfl (by rw [hb]; exact hdg) t st, q⟩
theorem vx_faloadN (hexec : p.tables.exec = Jvm.exec) (hb : c.code = cc) {i : Int32} (hdg : decode cc pc = .ok (.faload, 1)) (k : vx_NoteN p l e R s m args below meth c H locs cells slots Q (F0 m pc ls rest)) : W p l e R s m args below meth c H locs cells slots Q (F0 m pc ls (.int i :: .null :: rest)) := by
  intro T hT X
  obtain ⟨t, st, q⟩ := k T hT X
  exact ⟨t, X.faloadNull hexec (g := F0 m pc ls (.int i :: .null :: rest)) rfl (rest := rest) rfl (by rw [hb]; exact hdg) t st, q⟩
theorem vx_daloadN (hexec : p.tables.exec = Jvm.exec) (hb : c.code = cc) {i : Int32} (hdg : decode cc pc = .ok (.daload, 1)) (k : vx_NoteN p l e R s m args below meth c H locs cells slots Q (F0 m pc ls rest)) : W p l e R s m args below meth c H locs cells slots Q (F0 m pc ls (.int i :: .null :: rest)) := by
  intro T hT X
  obtain ⟨t, st, q⟩ := k T hT X
  exact ⟨t, X.daloadNull hexec (g := F0 m pc ls (.int i :: .null :: rest)) rfl (rest := rest) rfl (by rw [hb]; exact hdg) t st, q⟩
theorem vx_aaloadN (hexec : p.tables.exec = Jvm.exec) (hb : c.code = cc) {i : Int32} (hdg : decode cc pc = .ok (.aaload, 1)) (k : vx_NoteN p l e R s m args below meth c H locs cells slots Q (F0 m pc ls rest)) : W p l e R s m args below meth c H locs cells slots Q (F0 m pc ls (.int i :: .null :: rest)) := by
  intro T hT X
  obtain ⟨t, st, q⟩ := k T hT X
  exact ⟨t, X.aaloadNull hexec (g := F0 m pc ls (.int i :: .null :: rest)) rfl (rest := rest) rfl (by rw [hb]; exact hdg) t st, q⟩
theorem vx_baloadN (hexec : p.tables.exec = Jvm.exec) (hb : c.code = cc) {i : Int32} (hdg : decode cc pc = .ok (.baload, 1)) (k : vx_NoteN p l e R s m args below meth c H locs cells slots Q (F0 m pc ls rest)) : W p l e R s m args below meth c H locs cells slots Q (F0 m pc ls (.int i :: .null :: rest)) := by
  intro T hT X
  obtain ⟨t, st, q⟩ := k T hT X
  exact ⟨t, X.baloadNull hexec (g := F0 m pc ls (.int i :: .null :: rest)) rfl (rest := rest) rfl (by rw [hb]; exact hdg) t st, q⟩
theorem vx_caloadN (hexec : p.tables.exec = Jvm.exec) (hb : c.code = cc) {i : Int32} (hdg : decode cc pc = .ok (.caload, 1)) (k : vx_NoteN p l e R s m args below meth c H locs cells slots Q (F0 m pc ls rest)) : W p l e R s m args below meth c H locs cells slots Q (F0 m pc ls (.int i :: .null :: rest)) := by
  intro T hT X
  obtain ⟨t, st, q⟩ := k T hT X
  exact ⟨t, X.caloadNull hexec (g := F0 m pc ls (.int i :: .null :: rest)) rfl (rest := rest) rfl (by rw [hb]; exact hdg) t st, q⟩
theorem vx_saloadN (hexec : p.tables.exec = Jvm.exec) (hb : c.code = cc) {i : Int32} (hdg : decode cc pc = .ok (.saload, 1)) (k : vx_NoteN p l e R s m args below meth c H locs cells slots Q (F0 m pc ls rest)) : W p l e R s m args below meth c H locs cells slots Q (F0 m pc ls (.int i :: .null :: rest)) := by
  intro T hT X
  obtain ⟨t, st, q⟩ := k T hT X
  exact ⟨t, X.saloadNull hexec (g := F0 m pc ls (.int i :: .null :: rest)) rfl (rest := rest) rfl (by rw [hb]; exact hdg) t st, q⟩
theorem vx_iastoreN (hexec : p.tables.exec = Jvm.exec) (hb : c.code = cc) {x : Int32} {i : Int32} (hdg : decode cc pc = .ok (.iastore, 1)) (k : vx_NoteN p l e R s m args below meth c H locs cells slots Q (F0 m pc ls rest)) : W p l e R s m args below meth c H locs cells slots Q (F0 m pc ls (.int x :: .int i :: .null :: rest)) := by
  intro T hT X
  obtain ⟨t, st, q⟩ := k T hT X
  exact ⟨t, X.iastoreNull hexec (g := F0 m pc ls (.int x :: .int i :: .null :: rest)) rfl (rest := rest) rfl (by rw [hb]; exact hdg) t st, q⟩
theorem vx_lastoreN (hexec : p.tables.exec = Jvm.exec) (hb : c.code = cc) {x : Int64} {i : Int32} (hdg : decode cc pc = .ok (.lastore, 1)) (k : vx_NoteN p l e R s m args below meth c H locs cells slots Q (F0 m pc ls rest)) : W p l e R s m args below meth c H locs cells slots Q (F0 m pc ls (.long x :: .int i :: .null :: rest)) := by
  intro T hT X
  obtain ⟨t, st, q⟩ := k T hT X
  exact ⟨t, X.lastoreNull hexec (g := F0 m pc ls (.long x :: .int i :: .null :: rest)) rfl (rest := rest) rfl (by rw [hb]; exact hdg) t st, q⟩
theorem vx_fastoreN (hexec : p.tables.exec = Jvm.exec) (hb : c.code = cc) {x : UInt32} {i : Int32} (hdg : decode cc pc = .ok (.fastore, 1)) (k : vx_NoteN p l e R s m args below meth c H locs cells slots Q (F0 m pc ls rest)) : W p l e R s m args below meth c H locs cells slots Q (F0 m pc ls (.float x :: .int i :: .null :: rest)) := by
  intro T hT X
  obtain ⟨t, st, q⟩ := k T hT X
  exact ⟨t, X.fastoreNull hexec (g := F0 m pc ls (.float x :: .int i :: .null :: rest)) rfl (rest := rest) rfl (by rw [hb]; exact hdg) t st, q⟩
theorem vx_dastoreN (hexec : p.tables.exec = Jvm.exec) (hb : c.code = cc) {x : UInt64} {i : Int32} (hdg : decode cc pc = .ok (.dastore, 1)) (k : vx_NoteN p l e R s m args below meth c H locs cells slots Q (F0 m pc ls rest)) : W p l e R s m args below meth c H locs cells slots Q (F0 m pc ls (.double x :: .int i :: .null :: rest)) := by
  intro T hT X
  obtain ⟨t, st, q⟩ := k T hT X
  exact ⟨t, X.dastoreNull hexec (g := F0 m pc ls (.double x :: .int i :: .null :: rest)) rfl (rest := rest) rfl (by rw [hb]; exact hdg) t st, q⟩
theorem vx_bastoreN (hexec : p.tables.exec = Jvm.exec) (hb : c.code = cc) {x : Int32} {i : Int32} (hdg : decode cc pc = .ok (.bastore, 1)) (k : vx_NoteN p l e R s m args below meth c H locs cells slots Q (F0 m pc ls rest)) : W p l e R s m args below meth c H locs cells slots Q (F0 m pc ls (.int x :: .int i :: .null :: rest)) := by
  intro T hT X
  obtain ⟨t, st, q⟩ := k T hT X
  exact ⟨t, X.bastoreNull hexec (g := F0 m pc ls (.int x :: .int i :: .null :: rest)) rfl (rest := rest) rfl (by rw [hb]; exact hdg) t st, q⟩
theorem vx_castoreN (hexec : p.tables.exec = Jvm.exec) (hb : c.code = cc) {x : Int32} {i : Int32} (hdg : decode cc pc = .ok (.castore, 1)) (k : vx_NoteN p l e R s m args below meth c H locs cells slots Q (F0 m pc ls rest)) : W p l e R s m args below meth c H locs cells slots Q (F0 m pc ls (.int x :: .int i :: .null :: rest)) := by
  intro T hT X
  obtain ⟨t, st, q⟩ := k T hT X
  exact ⟨t, X.castoreNull hexec (g := F0 m pc ls (.int x :: .int i :: .null :: rest)) rfl (rest := rest) rfl (by rw [hb]; exact hdg) t st, q⟩
theorem vx_sastoreN (hexec : p.tables.exec = Jvm.exec) (hb : c.code = cc) {x : Int32} {i : Int32} (hdg : decode cc pc = .ok (.sastore, 1)) (k : vx_NoteN p l e R s m args below meth c H locs cells slots Q (F0 m pc ls rest)) : W p l e R s m args below meth c H locs cells slots Q (F0 m pc ls (.int x :: .int i :: .null :: rest)) := by
  intro T hT X
  obtain ⟨t, st, q⟩ := k T hT X
  exact ⟨t, X.sastoreNull hexec (g := F0 m pc ls (.int x :: .int i :: .null :: rest)) rfl (rest := rest) rfl (by rw [hb]; exact hdg) t st, q⟩
theorem vx_invokeN {own C : String} {index maxL : Nat} {y : MethodName} {bytes : ByteArray} {ret : Option FieldType} (hexec : p.tables.exec = Jvm.exec) (hb : c.code = cc) (hown : s.vm.findClass own = some m.cls) (hlink : (Cond.methodLink own index y).before args s = true) (hinst : (Cond.instanceMethod y).before args s = true) (hcode : (Cond.code y bytes maxL ret).before args s = true) (hsel : (Cond.selects C y y).before args s = true)
    (hx : y.cls ≠ "java/lang/invoke/MethodHandle" ∧ y.cls ≠ "java/lang/invoke/VarHandle") {As : List Value} (hlen : (parseMethodDescriptor y.desc).map (fun d => d.parameters.length) = some As.length) (hdg : decode cc pc = .ok (.invokevirtual index, 3))
    (k : vx_NoteN p l e R s m args below meth c H locs cells slots Q (F0 m pc ls rest)) {st0 : List Value} (hst : st0 = As.reverse ++ .null :: rest) : W p l e R s m args below meth c H locs cells slots Q (F0 m pc ls st0) := by
  intro T hT X
  obtain ⟨r0, r, hn, hrm, hstR, hsigR⟩ := va_Decl.of hinst hcode
  obtain ⟨c2, r2, m2, q1, q2, q3, q4, kP, hkP, hkPi⟩ := Cond.selects_spec hsel
  cases hn.symm.trans q3
  have hl9 : As.length = r.sig.parameters.length := by
    rw [hsigR] at hlen
    exact (Option.some.inj hlen).symm
  obtain ⟨vm', X1, st1⟩ := X.invokevirtualNull hexec hown hlink hn hrm hstR hkP hkPi hx (g := F0 m pc ls st0) rfl (argsL := As) (rest := rest) hl9 hst (by rw [hb]; exact hdg)
  obtain ⟨t, st, q⟩ := k (T.setVm vm') hT X1
  exact ⟨t, st1 t st, q⟩
theorem vx_newarrayZ {atype : ArrayType} (hexec : p.tables.exec = Jvm.exec) (hb : c.code = cc) {n : Int32} (h0 : n < 0) (hdg : decode cc pc = .ok (.newarray atype, 2)) (k : ∀ tx : String, tx = toString n → vx_Note p l e R s m args below meth c H locs cells slots Q (F0 m pc ls rest) "java/lang/NegativeArraySizeException" tx) : W p l e R s m args below meth c H locs cells slots Q (F0 m pc ls (.int n :: rest)) := by
  intro T hT X
  obtain ⟨t, st, q⟩ := k _ rfl T hT X
  exact ⟨t, X.newarrayNegative hexec (g := F0 m pc ls (.int n :: rest)) rfl h0 (rest := rest) rfl (by rw [hb]; exact hdg) t st, q⟩
end
end VXM
/-! ===== END ===== -/
end
section
def RX0 : String := "TenantCensus$1"
def TX0 : u_T := fun k => match k with
  | _ => ("", "", "", false)
def tyX0 : Nat → FieldType := fun k => match k with
  | _ => .int
abbrev wsX00 : List Cond := u_ws RX0 TX0 0
theorem nmX0 : ∀ a, a < 0 → ∀ b, b < 0 → a ≠ b → (TX0 a).2.1 ≠ (TX0 b).2.1 := by decide +kernel
theorem tyX0_ok : ∀ k, k < 0 → parseFieldDescriptor (TX0 k).2.2.1 = some (tyX0 k) := by decide +kernel
def RX1 : String := "TenantCensus$History"
def TX1 : u_T := fun k => match k with
  | 0 => ("TenantCensus$History", "houses", "[LTenantCensus$House;", true)
  | 1 => ("TenantCensus$History", "first", "I", false)
  | _ => ("TenantCensus$History", "count", "I", false)
def tyX1 : Nat → FieldType := fun k => match k with
  | 0 => .array (.object "TenantCensus$House")
  | 1 => .int
  | _ => .int
abbrev wsX10 : List Cond := u_ws RX1 TX1 3
theorem nmX1 : ∀ a, a < 3 → ∀ b, b < 3 → a ≠ b → (TX1 a).2.1 ≠ (TX1 b).2.1 := by decide +kernel
theorem tyX1_ok : ∀ k, k < 3 → parseFieldDescriptor (TX1 k).2.2.1 = some (tyX1 k) := by decide +kernel
abbrev cX1_init : ByteArray := prog_3_method_1_code
def yX1_init : MethodName := ⟨RX1, "<init>", "()V"⟩
abbrev cX1_push : ByteArray := prog_3_method_2_code
def yX1_push : MethodName := ⟨RX1, "push", "(LTenantCensus$House;)V"⟩
abbrev cX1_popInto : ByteArray := prog_3_method_3_code
def yX1_popInto : MethodName := ⟨RX1, "popInto", "(LTenantCensus$House;)V"⟩
abbrev cX1_forget : ByteArray := prog_3_method_4_code
def yX1_forget : MethodName := ⟨RX1, "forget", "()V"⟩
def RX2 : String := "TenantCensus$House"
def TX2 : u_T := fun k => match k with
  | 0 => ("TenantCensus$House", "flatCount", "I", false)
  | 1 => ("TenantCensus$House", "floors", "[I", true)
  | 2 => ("TenantCensus$House", "rents", "[I", true)
  | 3 => ("TenantCensus$House", "tenantCount", "I", false)
  | 4 => ("TenantCensus$House", "nextNumber", "I", false)
  | 5 => ("TenantCensus$House", "numbers", "[I", true)
  | 6 => ("TenantCensus$House", "weights", "[I", true)
  | 7 => ("TenantCensus$House", "wishes", "[I", true)
  | 8 => ("TenantCensus$House", "incomes", "[I", true)
  | 9 => ("TenantCensus$House", "purses", "[I", true)
  | 10 => ("TenantCensus$House", "notices", "[I", true)
  | 11 => ("TenantCensus$House", "homes", "[I", true)
  | 12 => ("TenantCensus$House", "monthCount", "I", false)
  | 13 => ("TenantCensus$House", "evictionCount", "I", false)
  | 14 => ("TenantCensus$House", "coinsPaid", "I", false)
  | 15 => ("TenantCensus$House", "coinsReceived", "J", false)
  | _ => ("TenantCensus$House", "coinsGone", "J", false)
def tyX2 : Nat → FieldType := fun k => match k with
  | 0 => .int
  | 1 => .array .int
  | 2 => .array .int
  | 3 => .int
  | 4 => .int
  | 5 => .array .int
  | 6 => .array .int
  | 7 => .array .int
  | 8 => .array .int
  | 9 => .array .int
  | 10 => .array .int
  | 11 => .array .int
  | 12 => .int
  | 13 => .int
  | 14 => .int
  | 15 => .long
  | _ => .long
abbrev wsX20 : List Cond := u_ws RX2 TX2 17
theorem nmX2 : ∀ a, a < 17 → ∀ b, b < 17 → a ≠ b → (TX2 a).2.1 ≠ (TX2 b).2.1 := by decide +kernel
theorem tyX2_ok : ∀ k, k < 17 → parseFieldDescriptor (TX2 k).2.2.1 = some (tyX2 k) := by decide +kernel
abbrev cX2_init : ByteArray := prog_4_method_1_code
def yX2_init : MethodName := ⟨RX2, "<init>", "()V"⟩
abbrev cX2_copyFrom : ByteArray := prog_4_method_2_code
def yX2_copyFrom : MethodName := ⟨RX2, "copyFrom", "(LTenantCensus$House;)V"⟩
abbrev cX2_copyRow : ByteArray := prog_4_method_3_code
def yX2_copyRow : MethodName := ⟨RX2, "copyRow", "([I[I)V"⟩
abbrev cX2_refusalOfFlat : ByteArray := prog_4_method_4_code
def yX2_refusalOfFlat : MethodName := ⟨RX2, "refusalOfFlat", "(II)LTenantCensus$Refusal;"⟩
abbrev cX2_refusalOfTenant : ByteArray := prog_4_method_5_code
def yX2_refusalOfTenant : MethodName := ⟨RX2, "refusalOfTenant", "(IIII)LTenantCensus$Refusal;"⟩
abbrev cX2_refusalOfGoing : ByteArray := prog_4_method_6_code
def yX2_refusalOfGoing : MethodName := ⟨RX2, "refusalOfGoing", "(I)LTenantCensus$Refusal;"⟩
abbrev cX2_refusalOfMovingIn : ByteArray := prog_4_method_7_code
def yX2_refusalOfMovingIn : MethodName := ⟨RX2, "refusalOfMovingIn", "(II)LTenantCensus$Refusal;"⟩
abbrev cX2_refusalOfMovingOut : ByteArray := prog_4_method_8_code
def yX2_refusalOfMovingOut : MethodName := ⟨RX2, "refusalOfMovingOut", "(I)LTenantCensus$Refusal;"⟩
abbrev cX2_refusalOfRent : ByteArray := prog_4_method_9_code
def yX2_refusalOfRent : MethodName := ⟨RX2, "refusalOfRent", "(II)LTenantCensus$Refusal;"⟩
abbrev cX2_refusalOfGift : ByteArray := prog_4_method_10_code
def yX2_refusalOfGift : MethodName := ⟨RX2, "refusalOfGift", "(II)LTenantCensus$Refusal;"⟩
abbrev cX2_refusalOfMonths : ByteArray := prog_4_method_11_code
def yX2_refusalOfMonths : MethodName := ⟨RX2, "refusalOfMonths", "(I)LTenantCensus$Refusal;"⟩
abbrev cX2_buildFlat : ByteArray := prog_4_method_12_code
def yX2_buildFlat : MethodName := ⟨RX2, "buildFlat", "(II)I"⟩
abbrev cX2_welcome : ByteArray := prog_4_method_13_code
def yX2_welcome : MethodName := ⟨RX2, "welcome", "(IIII)I"⟩
abbrev cX2_sendAway : ByteArray := prog_4_method_14_code
def yX2_sendAway : MethodName := ⟨RX2, "sendAway", "(I)I"⟩
abbrev cX2_closeGap : ByteArray := prog_4_method_15_code
def yX2_closeGap : MethodName := ⟨RX2, "closeGap", "([II)V"⟩
abbrev cX2_lodge : ByteArray := prog_4_method_16_code
def yX2_lodge : MethodName := ⟨RX2, "lodge", "(II)I"⟩
abbrev cX2_changeRent : ByteArray := prog_4_method_17_code
def yX2_changeRent : MethodName := ⟨RX2, "changeRent", "(II)I"⟩
abbrev cX2_receive : ByteArray := prog_4_method_18_code
def yX2_receive : MethodName := ⟨RX2, "receive", "(II)I"⟩
abbrev cX2_liveBy : ByteArray := prog_4_method_19_code
def yX2_liveBy : MethodName := ⟨RX2, "liveBy", "([I)I"⟩
abbrev cX2_letMonthsPass : ByteArray := prog_4_method_20_code
def yX2_letMonthsPass : MethodName := ⟨RX2, "letMonthsPass", "(I)I"⟩
abbrev cX2_takeTurn : ByteArray := prog_4_method_21_code
def yX2_takeTurn : MethodName := ⟨RX2, "takeTurn", "(I)V"⟩
abbrev cX2_leaveHome : ByteArray := prog_4_method_22_code
def yX2_leaveHome : MethodName := ⟨RX2, "leaveHome", "(I)I"⟩
abbrev cX2_candidateFor : ByteArray := prog_4_method_23_code
def yX2_candidateFor : MethodName := ⟨RX2, "candidateFor", "(II)I"⟩
abbrev cX2_hasFlat : ByteArray := prog_4_method_24_code
def yX2_hasFlat : MethodName := ⟨RX2, "hasFlat", "(I)Z"⟩
abbrev cX2_slotOf : ByteArray := prog_4_method_25_code
def yX2_slotOf : MethodName := ⟨RX2, "slotOf", "(I)I"⟩
abbrev cX2_slotIn : ByteArray := prog_4_method_26_code
def yX2_slotIn : MethodName := ⟨RX2, "slotIn", "(I)I"⟩
abbrev cX2_housedCount : ByteArray := prog_4_method_27_code
def yX2_housedCount : MethodName := ⟨RX2, "housedCount", "()I"⟩
abbrev cX2_burdenFor : ByteArray := prog_4_method_28_code
def yX2_burdenFor : MethodName := ⟨RX2, "burdenFor", "(II)I"⟩
abbrev cX2_canAfford : ByteArray := prog_4_method_29_code
def yX2_canAfford : MethodName := ⟨RX2, "canAfford", "(II)Z"⟩
abbrev cX2_prefersFlat : ByteArray := prog_4_method_30_code
def yX2_prefersFlat : MethodName := ⟨RX2, "prefersFlat", "(III)Z"⟩
abbrev cX2_isPreferredTo : ByteArray := prog_4_method_31_code
def yX2_isPreferredTo : MethodName := ⟨RX2, "isPreferredTo", "(II)Z"⟩
abbrev cX2_rankFor : ByteArray := prog_4_method_32_code
def yX2_rankFor : MethodName := ⟨RX2, "rankFor", "(II)I"⟩
abbrev cX2_rankByPurse : ByteArray := prog_4_method_33_code
def yX2_rankByPurse : MethodName := ⟨RX2, "rankByPurse", "(I)I"⟩
abbrev cX2_creakOn : ByteArray := prog_4_method_34_code
def yX2_creakOn : MethodName := ⟨RX2, "creakOn", "(I)I"⟩
abbrev cX2_sumOfBurdens : ByteArray := prog_4_method_35_code
def yX2_sumOfBurdens : MethodName := ⟨RX2, "sumOfBurdens", "()I"⟩
abbrev cX2_sumOfParts : ByteArray := prog_4_method_36_code
def yX2_sumOfParts : MethodName := ⟨RX2, "sumOfParts", "()J"⟩
abbrev cX2_isSound : ByteArray := prog_4_method_37_code
def yX2_isSound : MethodName := ⟨RX2, "isSound", "()Z"⟩
abbrev cX2_isTenantSound : ByteArray := prog_4_method_38_code
def yX2_isTenantSound : MethodName := ⟨RX2, "isTenantSound", "(I)Z"⟩
abbrev cX2_isHomeSound : ByteArray := prog_4_method_39_code
def yX2_isHomeSound : MethodName := ⟨RX2, "isHomeSound", "(I)Z"⟩
def RX3 : String := "TenantCensus$Kind"
def TX3 : u_T := fun k => match k with
  | _ => ("", "", "", false)
def tyX3 : Nat → FieldType := fun k => match k with
  | _ => .int
abbrev wsX30 : List Cond := u_ws RX3 TX3 0
theorem nmX3 : ∀ a, a < 0 → ∀ b, b < 0 → a ≠ b → (TX3 a).2.1 ≠ (TX3 b).2.1 := by decide +kernel
theorem tyX3_ok : ∀ k, k < 0 → parseFieldDescriptor (TX3 k).2.2.1 = some (tyX3 k) := by decide +kernel
def RX4 : String := "TenantCensus$Parser"
def TX4 : u_T := fun k => match k with
  | 0 => ("TenantCensus$Parser", "position", "I", false)
  | 1 => ("TenantCensus$Parser", "kind", "LTenantCensus$Kind;", false)
  | 2 => ("TenantCensus$Parser", "values", "[I", true)
  | 3 => ("TenantCensus$Parser", "valueCount", "I", false)
  | _ => ("TenantCensus$Parser", "wrong", "Z", false)
def tyX4 : Nat → FieldType := fun k => match k with
  | 0 => .int
  | 1 => .object "TenantCensus$Kind"
  | 2 => .array .int
  | 3 => .int
  | _ => .boolean
abbrev wsX40 : List Cond := u_ws RX4 TX4 5
theorem nmX4 : ∀ a, a < 5 → ∀ b, b < 5 → a ≠ b → (TX4 a).2.1 ≠ (TX4 b).2.1 := by decide +kernel
theorem tyX4_ok : ∀ k, k < 5 → parseFieldDescriptor (TX4 k).2.2.1 = some (tyX4 k) := by decide +kernel
abbrev cX4_init : ByteArray := prog_6_method_1_code
def yX4_init : MethodName := ⟨RX4, "<init>", "()V"⟩
abbrev cX4_rewind : ByteArray := prog_6_method_2_code
def yX4_rewind : MethodName := ⟨RX4, "rewind", "()V"⟩
abbrev cX4_countCommands : ByteArray := prog_6_method_3_code
def yX4_countCommands : MethodName := ⟨RX4, "countCommands", "(LTenantCensus$Text;)I"⟩
abbrev cX4_readCommand : ByteArray := prog_6_method_4_code
def yX4_readCommand : MethodName := ⟨RX4, "readCommand", "(LTenantCensus$Text;I)V"⟩
abbrev cX4_chooseKind : ByteArray := prog_6_method_5_code
def yX4_chooseKind : MethodName := ⟨RX4, "chooseKind", "(LTenantCensus$Text;)V"⟩
abbrev cX4_readPart : ByteArray := prog_6_method_6_code
def yX4_readPart : MethodName := ⟨RX4, "readPart", "(LTenantCensus$Text;C)V"⟩
abbrev cX4_readMonths : ByteArray := prog_6_method_7_code
def yX4_readMonths : MethodName := ⟨RX4, "readMonths", "(LTenantCensus$Text;)V"⟩
abbrev cX4_readSign : ByteArray := prog_6_method_8_code
def yX4_readSign : MethodName := ⟨RX4, "readSign", "(LTenantCensus$Text;C)V"⟩
abbrev cX4_readDigit : ByteArray := prog_6_method_9_code
def yX4_readDigit : MethodName := ⟨RX4, "readDigit", "(LTenantCensus$Text;)V"⟩
abbrev cX4_readNumber : ByteArray := prog_6_method_10_code
def yX4_readNumber : MethodName := ⟨RX4, "readNumber", "(LTenantCensus$Text;)V"⟩
abbrev cX4_keepValue : ByteArray := prog_6_method_11_code
def yX4_keepValue : MethodName := ⟨RX4, "keepValue", "(I)V"⟩
def RX5 : String := "TenantCensus$Planner"
def TX5 : u_T := fun k => match k with
  | 0 => ("TenantCensus$Planner", "rankOfFlat", "[[I", true)
  | 1 => ("TenantCensus$Planner", "flatAtRank", "[[I", true)
  | 2 => ("TenantCensus$Planner", "plan", "[I", true)
  | 3 => ("TenantCensus$Planner", "holders", "[I", true)
  | 4 => ("TenantCensus$Planner", "asked", "[I", true)
  | 5 => ("TenantCensus$Planner", "best", "[I", true)
  | _ => ("TenantCensus$Planner", "stableCount", "I", false)
def tyX5 : Nat → FieldType := fun k => match k with
  | 0 => .array (.array .int)
  | 1 => .array (.array .int)
  | 2 => .array .int
  | 3 => .array .int
  | 4 => .array .int
  | 5 => .array .int
  | _ => .int
abbrev wsX50 : List Cond := u_ws RX5 TX5 7
theorem nmX5 : ∀ a, a < 7 → ∀ b, b < 7 → a ≠ b → (TX5 a).2.1 ≠ (TX5 b).2.1 := by decide +kernel
theorem tyX5_ok : ∀ k, k < 7 → parseFieldDescriptor (TX5 k).2.2.1 = some (tyX5 k) := by decide +kernel
abbrev cX5_init : ByteArray := prog_7_method_1_code
def yX5_init : MethodName := ⟨RX5, "<init>", "()V"⟩
abbrev cX5_begin : ByteArray := prog_7_method_2_code
def yX5_begin : MethodName := ⟨RX5, "begin", "(LTenantCensus$House;)V"⟩
abbrev cX5_planByAsking : ByteArray := prog_7_method_3_code
def yX5_planByAsking : MethodName := ⟨RX5, "planByAsking", "(LTenantCensus$House;)[I"⟩
abbrev cX5_refusedAfterAsking : ByteArray := prog_7_method_4_code
def yX5_refusedAfterAsking : MethodName := ⟨RX5, "refusedAfterAsking", "(LTenantCensus$House;I)I"⟩
abbrev cX5_planByPlans : ByteArray := prog_7_method_5_code
def yX5_planByPlans : MethodName := ⟨RX5, "planByPlans", "(LTenantCensus$House;)[I"⟩
abbrev cX5_countStable : ByteArray := prog_7_method_6_code
def yX5_countStable : MethodName := ⟨RX5, "countStable", "(LTenantCensus$House;)I"⟩
abbrev cX5_tryAll : ByteArray := prog_7_method_7_code
def yX5_tryAll : MethodName := ⟨RX5, "tryAll", "(LTenantCensus$House;)V"⟩
abbrev cX5_tryFlats : ByteArray := prog_7_method_8_code
def yX5_tryFlats : MethodName := ⟨RX5, "tryFlats", "(LTenantCensus$House;I)V"⟩
abbrev cX5_tryRest : ByteArray := prog_7_method_9_code
def yX5_tryRest : MethodName := ⟨RX5, "tryRest", "(LTenantCensus$House;II)V"⟩
abbrev cX5_keepStable : ByteArray := prog_7_method_10_code
def yX5_keepStable : MethodName := ⟨RX5, "keepStable", "(LTenantCensus$House;)V"⟩
abbrev cX5_isBetterForAll : ByteArray := prog_7_method_11_code
def yX5_isBetterForAll : MethodName := ⟨RX5, "isBetterForAll", "(LTenantCensus$House;)Z"⟩
abbrev cX5_rankOf : ByteArray := prog_7_method_12_code
def yX5_rankOf : MethodName := ⟨RX5, "rankOf", "(II)I"⟩
abbrev cX5_isHouseStable : ByteArray := prog_7_method_13_code
def yX5_isHouseStable : MethodName := ⟨RX5, "isHouseStable", "(LTenantCensus$House;)Z"⟩
abbrev cX5_clashes : ByteArray := prog_7_method_14_code
def yX5_clashes : MethodName := ⟨RX5, "clashes", "(LTenantCensus$House;I)Z"⟩
abbrev cX5_isFreeFlatWanted : ByteArray := prog_7_method_15_code
def yX5_isFreeFlatWanted : MethodName := ⟨RX5, "isFreeFlatWanted", "(LTenantCensus$House;)Z"⟩
abbrev cX5_wants : ByteArray := prog_7_method_16_code
def yX5_wants : MethodName := ⟨RX5, "wants", "(LTenantCensus$House;II)Z"⟩
abbrev cX5_doWaysAgree : ByteArray := prog_7_method_17_code
def yX5_doWaysAgree : MethodName := ⟨RX5, "doWaysAgree", "(LTenantCensus$House;)Z"⟩
def RX6 : String := "TenantCensus$Refusal"
def TX6 : u_T := fun k => match k with
  | _ => ("", "", "", false)
def tyX6 : Nat → FieldType := fun k => match k with
  | _ => .int
abbrev wsX60 : List Cond := u_ws RX6 TX6 0
theorem nmX6 : ∀ a, a < 0 → ∀ b, b < 0 → a ≠ b → (TX6 a).2.1 ≠ (TX6 b).2.1 := by decide +kernel
theorem tyX6_ok : ∀ k, k < 0 → parseFieldDescriptor (TX6 k).2.2.1 = some (tyX6 k) := by decide +kernel
def RX7 : String := "TenantCensus$Spreader"
def TX7 : u_T := fun k => match k with
  | 0 => ("TenantCensus$Spreader", "lacking", "[I", true)
  | 1 => ("TenantCensus$Spreader", "weightOfSet", "[I", true)
  | _ => ("TenantCensus$Spreader", "waysOfSet", "[I", true)
def tyX7 : Nat → FieldType := fun k => match k with
  | 0 => .array .int
  | 1 => .array .int
  | _ => .array .int
abbrev wsX70 : List Cond := u_ws RX7 TX7 3
theorem nmX7 : ∀ a, a < 3 → ∀ b, b < 3 → a ≠ b → (TX7 a).2.1 ≠ (TX7 b).2.1 := by decide +kernel
theorem tyX7_ok : ∀ k, k < 3 → parseFieldDescriptor (TX7 k).2.2.1 = some (tyX7 k) := by decide +kernel
abbrev cX7_init : ByteArray := prog_9_method_1_code
def yX7_init : MethodName := ⟨RX7, "<init>", "()V"⟩
abbrev cX7_measure : ByteArray := prog_9_method_2_code
def yX7_measure : MethodName := ⟨RX7, "measure", "(LTenantCensus$House;)V"⟩
abbrev cX7_countByTrying : ByteArray := prog_9_method_3_code
def yX7_countByTrying : MethodName := ⟨RX7, "countByTrying", "(LTenantCensus$House;)I"⟩
abbrev cX7_spread : ByteArray := prog_9_method_4_code
def yX7_spread : MethodName := ⟨RX7, "spread", "(LTenantCensus$House;[III)I"⟩
abbrev cX7_countFloors : ByteArray := prog_9_method_5_code
def yX7_countFloors : MethodName := ⟨RX7, "countFloors", "(LTenantCensus$House;I)I"⟩
abbrev cX7_countBySets : ByteArray := prog_9_method_6_code
def yX7_countBySets : MethodName := ⟨RX7, "countBySets", "(LTenantCensus$House;)I"⟩
abbrev cX7_weighSets : ByteArray := prog_9_method_7_code
def yX7_weighSets : MethodName := ⟨RX7, "weighSets", "(LTenantCensus$House;)V"⟩
abbrev cX7_housedSet : ByteArray := prog_9_method_8_code
def yX7_housedSet : MethodName := ⟨RX7, "housedSet", "(LTenantCensus$House;)I"⟩
abbrev cX7_improve : ByteArray := prog_9_method_9_code
def yX7_improve : MethodName := ⟨RX7, "improve", "(II)V"⟩
def RX8 : String := "TenantCensus$Text"
def TX8 : u_T := fun k => match k with
  | 0 => ("TenantCensus$Text", "signs", "[C", true)
  | _ => ("TenantCensus$Text", "length", "I", false)
def tyX8 : Nat → FieldType := fun k => match k with
  | 0 => .array .char
  | _ => .int
abbrev wsX80 : List Cond := u_ws RX8 TX8 2
theorem nmX8 : ∀ a, a < 2 → ∀ b, b < 2 → a ≠ b → (TX8 a).2.1 ≠ (TX8 b).2.1 := by decide +kernel
theorem tyX8_ok : ∀ k, k < 2 → parseFieldDescriptor (TX8 k).2.2.1 = some (tyX8 k) := by decide +kernel
abbrev cX8_init : ByteArray := prog_10_method_1_code
def yX8_init : MethodName := ⟨RX8, "<init>", "()V"⟩
abbrev cX8_clear : ByteArray := prog_10_method_2_code
def yX8_clear : MethodName := ⟨RX8, "clear", "()V"⟩
abbrev cX8_append : ByteArray := prog_10_method_3_code
def yX8_append : MethodName := ⟨RX8, "append", "(C)V"⟩
abbrev cX8_appendNumber : ByteArray := prog_10_method_4_code
def yX8_appendNumber : MethodName := ⟨RX8, "appendNumber", "(I)V"⟩
abbrev cX8_hasAt : ByteArray := prog_10_method_5_code
def yX8_hasAt : MethodName := ⟨RX8, "hasAt", "(IC)Z"⟩
abbrev cX8_digitAt : ByteArray := prog_10_method_6_code
def yX8_digitAt : MethodName := ⟨RX8, "digitAt", "(I)I"⟩
def RX9 : String := "TenantCensus"
def TX9 : u_T := fun k => match k with
  | 0 => ("TenantCensus", "house", "LTenantCensus$House;", true)
  | 1 => ("TenantCensus", "spare", "LTenantCensus$House;", true)
  | 2 => ("TenantCensus", "saved", "LTenantCensus$House;", true)
  | 3 => ("TenantCensus", "history", "LTenantCensus$History;", true)
  | 4 => ("TenantCensus", "planner", "LTenantCensus$Planner;", true)
  | 5 => ("TenantCensus", "spreader", "LTenantCensus$Spreader;", true)
  | 6 => ("TenantCensus", "parser", "LTenantCensus$Parser;", true)
  | 7 => ("TenantCensus", "program", "LTenantCensus$Text;", true)
  | 8 => ("TenantCensus", "line", "LTenantCensus$Text;", true)
  | 9 => ("TenantCensus", "hasSaved", "Z", false)
  | 10 => ("TenantCensus", "recordedError", "I", false)
  | _ => ("TenantCensus", "recordedFailure", "I", false)
def tyX9 : Nat → FieldType := fun k => match k with
  | 0 => .object "TenantCensus$House"
  | 1 => .object "TenantCensus$House"
  | 2 => .object "TenantCensus$House"
  | 3 => .object "TenantCensus$History"
  | 4 => .object "TenantCensus$Planner"
  | 5 => .object "TenantCensus$Spreader"
  | 6 => .object "TenantCensus$Parser"
  | 7 => .object "TenantCensus$Text"
  | 8 => .object "TenantCensus$Text"
  | 9 => .boolean
  | 10 => .int
  | _ => .int
abbrev wsX90 : List Cond := u_ws RX9 TX9 12
theorem nmX9 : ∀ a, a < 12 → ∀ b, b < 12 → a ≠ b → (TX9 a).2.1 ≠ (TX9 b).2.1 := by decide +kernel
theorem tyX9_ok : ∀ k, k < 12 → parseFieldDescriptor (TX9 k).2.2.1 = some (tyX9 k) := by decide +kernel
abbrev cX9_init : ByteArray := prog_1_method_1_code
def yX9_init : MethodName := ⟨RX9, "<init>", "()V"⟩
abbrev cX9_addFlat : ByteArray := prog_1_method_2_code
def yX9_addFlat : MethodName := ⟨RX9, "addFlat", "(II)I"⟩
abbrev cX9_addTenant : ByteArray := prog_1_method_3_code
def yX9_addTenant : MethodName := ⟨RX9, "addTenant", "(IIII)I"⟩
abbrev cX9_removeTenant : ByteArray := prog_1_method_4_code
def yX9_removeTenant : MethodName := ⟨RX9, "removeTenant", "(I)I"⟩
abbrev cX9_moveIn : ByteArray := prog_1_method_5_code
def yX9_moveIn : MethodName := ⟨RX9, "moveIn", "(II)I"⟩
abbrev cX9_moveOut : ByteArray := prog_1_method_6_code
def yX9_moveOut : MethodName := ⟨RX9, "moveOut", "(I)I"⟩
abbrev cX9_setRent : ByteArray := prog_1_method_7_code
def yX9_setRent : MethodName := ⟨RX9, "setRent", "(II)I"⟩
abbrev cX9_give : ByteArray := prog_1_method_8_code
def yX9_give : MethodName := ⟨RX9, "give", "(II)I"⟩
abbrev cX9_settle : ByteArray := prog_1_method_9_code
def yX9_settle : MethodName := ⟨RX9, "settle", "()I"⟩
abbrev cX9_pass : ByteArray := prog_1_method_10_code
def yX9_pass : MethodName := ⟨RX9, "pass", "(I)I"⟩
abbrev cX9_flats : ByteArray := prog_1_method_11_code
def yX9_flats : MethodName := ⟨RX9, "flats", "()I"⟩
abbrev cX9_floorOf : ByteArray := prog_1_method_12_code
def yX9_floorOf : MethodName := ⟨RX9, "floorOf", "(I)I"⟩
abbrev cX9_rentOf : ByteArray := prog_1_method_13_code
def yX9_rentOf : MethodName := ⟨RX9, "rentOf", "(I)I"⟩
abbrev cX9_tenantIn : ByteArray := prog_1_method_14_code
def yX9_tenantIn : MethodName := ⟨RX9, "tenantIn", "(I)I"⟩
abbrev cX9_vacantFlats : ByteArray := prog_1_method_15_code
def yX9_vacantFlats : MethodName := ⟨RX9, "vacantFlats", "()I"⟩
abbrev cX9_tenants : ByteArray := prog_1_method_16_code
def yX9_tenants : MethodName := ⟨RX9, "tenants", "()I"⟩
abbrev cX9_isPresent : ByteArray := prog_1_method_17_code
def yX9_isPresent : MethodName := ⟨RX9, "isPresent", "(I)Z"⟩
abbrev cX9_weightOf : ByteArray := prog_1_method_18_code
def yX9_weightOf : MethodName := ⟨RX9, "weightOf", "(I)I"⟩
abbrev cX9_purseOf : ByteArray := prog_1_method_19_code
def yX9_purseOf : MethodName := ⟨RX9, "purseOf", "(I)I"⟩
abbrev cX9_noticesOf : ByteArray := prog_1_method_20_code
def yX9_noticesOf : MethodName := ⟨RX9, "noticesOf", "(I)I"⟩
abbrev cX9_flatOf : ByteArray := prog_1_method_21_code
def yX9_flatOf : MethodName := ⟨RX9, "flatOf", "(I)I"⟩
abbrev cX9_burden : ByteArray := prog_1_method_22_code
def yX9_burden : MethodName := ⟨RX9, "burden", "(II)I"⟩
abbrev cX9_flatByRank : ByteArray := prog_1_method_23_code
def yX9_flatByRank : MethodName := ⟨RX9, "flatByRank", "(II)I"⟩
abbrev cX9_tenantByPurse : ByteArray := prog_1_method_24_code
def yX9_tenantByPurse : MethodName := ⟨RX9, "tenantByPurse", "(I)I"⟩
abbrev cX9_creak : ByteArray := prog_1_method_25_code
def yX9_creak : MethodName := ⟨RX9, "creak", "(I)I"⟩
abbrev cX9_censuses : ByteArray := prog_1_method_26_code
def yX9_censuses : MethodName := ⟨RX9, "censuses", "()I"⟩
abbrev cX9_censusesBySets : ByteArray := prog_1_method_27_code
def yX9_censusesBySets : MethodName := ⟨RX9, "censusesBySets", "()I"⟩
abbrev cX9_possibleFloors : ByteArray := prog_1_method_28_code
def yX9_possibleFloors : MethodName := ⟨RX9, "possibleFloors", "(I)I"⟩
abbrev cX9_plannedFlat : ByteArray := prog_1_method_29_code
def yX9_plannedFlat : MethodName := ⟨RX9, "plannedFlat", "(I)I"⟩
abbrev cX9_plannedFlatByPlans : ByteArray := prog_1_method_30_code
def yX9_plannedFlatByPlans : MethodName := ⟨RX9, "plannedFlatByPlans", "(I)I"⟩
abbrev cX9_stablePlans : ByteArray := prog_1_method_31_code
def yX9_stablePlans : MethodName := ⟨RX9, "stablePlans", "()I"⟩
abbrev cX9_isStable : ByteArray := prog_1_method_32_code
def yX9_isStable : MethodName := ⟨RX9, "isStable", "()Z"⟩
abbrev cX9_chainLength : ByteArray := prog_1_method_33_code
def yX9_chainLength : MethodName := ⟨RX9, "chainLength", "(I)I"⟩
abbrev cX9_monthsUntilEviction : ByteArray := prog_1_method_34_code
def yX9_monthsUntilEviction : MethodName := ⟨RX9, "monthsUntilEviction", "()I"⟩
abbrev cX9_month : ByteArray := prog_1_method_35_code
def yX9_month : MethodName := ⟨RX9, "month", "()I"⟩
abbrev cX9_received : ByteArray := prog_1_method_36_code
def yX9_received : MethodName := ⟨RX9, "received", "()J"⟩
abbrev cX9_receivedByParts : ByteArray := prog_1_method_37_code
def yX9_receivedByParts : MethodName := ⟨RX9, "receivedByParts", "()J"⟩
abbrev cX9_paidRents : ByteArray := prog_1_method_38_code
def yX9_paidRents : MethodName := ⟨RX9, "paidRents", "()I"⟩
abbrev cX9_evictions : ByteArray := prog_1_method_39_code
def yX9_evictions : MethodName := ⟨RX9, "evictions", "()I"⟩
abbrev cX9_meanBurden : ByteArray := prog_1_method_40_code
def yX9_meanBurden : MethodName := ⟨RX9, "meanBurden", "()D"⟩
abbrev cX9_occupancy : ByteArray := prog_1_method_41_code
def yX9_occupancy : MethodName := ⟨RX9, "occupancy", "()F"⟩
abbrev cX9_isConsistent : ByteArray := prog_1_method_42_code
def yX9_isConsistent : MethodName := ⟨RX9, "isConsistent", "()Z"⟩
abbrev cX9_writeFloor : ByteArray := prog_1_method_43_code
def yX9_writeFloor : MethodName := ⟨RX9, "writeFloor", "(I)I"⟩
abbrev cX9_writePlan : ByteArray := prog_1_method_44_code
def yX9_writePlan : MethodName := ⟨RX9, "writePlan", "()I"⟩
abbrev cX9_charAt : ByteArray := prog_1_method_45_code
def yX9_charAt : MethodName := ⟨RX9, "charAt", "(I)C"⟩
abbrev cX9_type : ByteArray := prog_1_method_46_code
def yX9_type : MethodName := ⟨RX9, "type", "(C)I"⟩
abbrev cX9_run : ByteArray := prog_1_method_47_code
def yX9_run : MethodName := ⟨RX9, "run", "()I"⟩
abbrev cX9_errorPosition : ByteArray := prog_1_method_48_code
def yX9_errorPosition : MethodName := ⟨RX9, "errorPosition", "()I"⟩
abbrev cX9_failedCommand : ByteArray := prog_1_method_49_code
def yX9_failedCommand : MethodName := ⟨RX9, "failedCommand", "()I"⟩
abbrev cX9_undo : ByteArray := prog_1_method_50_code
def yX9_undo : MethodName := ⟨RX9, "undo", "()I"⟩
abbrev cX9_save : ByteArray := prog_1_method_51_code
def yX9_save : MethodName := ⟨RX9, "save", "()I"⟩
abbrev cX9_restore : ByteArray := prog_1_method_52_code
def yX9_restore : MethodName := ⟨RX9, "restore", "()I"⟩
abbrev cX9_refuse : ByteArray := prog_1_method_53_code
def yX9_refuse : MethodName := ⟨RX9, "refuse", "(LTenantCensus$Refusal;)V"⟩
abbrev cX9_requireFlat : ByteArray := prog_1_method_54_code
def yX9_requireFlat : MethodName := ⟨RX9, "requireFlat", "(I)V"⟩
abbrev cX9_requireFloor : ByteArray := prog_1_method_55_code
def yX9_requireFloor : MethodName := ⟨RX9, "requireFloor", "(I)V"⟩
abbrev cX9_requireGiven : ByteArray := prog_1_method_56_code
def yX9_requireGiven : MethodName := ⟨RX9, "requireGiven", "(I)I"⟩
abbrev cX9_presentSlot : ByteArray := prog_1_method_57_code
def yX9_presentSlot : MethodName := ⟨RX9, "presentSlot", "(I)I"⟩
abbrev cX9_housedSlot : ByteArray := prog_1_method_58_code
def yX9_housedSlot : MethodName := ⟨RX9, "housedSlot", "(I)I"⟩
abbrev cX9_isWithin : ByteArray := prog_1_method_59_code
def yX9_isWithin : MethodName := ⟨RX9, "isWithin", "(III)Z"⟩
abbrev cX9_fill : ByteArray := prog_1_method_60_code
def yX9_fill : MethodName := ⟨RX9, "fill", "([II)V"⟩
abbrev cX9_appendFlat : ByteArray := prog_1_method_61_code
def yX9_appendFlat : MethodName := ⟨RX9, "appendFlat", "(I)V"⟩
abbrev cX9_isNextAllowed : ByteArray := prog_1_method_62_code
def yX9_isNextAllowed : MethodName := ⟨RX9, "isNextAllowed", "(I)Z"⟩
abbrev cX9_refusalOfCommand : ByteArray := prog_1_method_63_code
def yX9_refusalOfCommand : MethodName := ⟨RX9, "refusalOfCommand", "([I)LTenantCensus$Refusal;"⟩
abbrev cX9_perform : ByteArray := prog_1_method_64_code
def yX9_perform : MethodName := ⟨RX9, "perform", "()V"⟩
def RX10 : String := "TenantCensusModel"
def TX10 : u_T := fun k => match k with
  | 0 => ("TenantCensusModel", "thrown", "I", false)
  | 1 => ("TenantCensusModel", "w", "[I", true)
  | 2 => ("TenantCensusModel", "undos", "[I", true)
  | 3 => ("TenantCensusModel", "savedRow", "[I", true)
  | 4 => ("TenantCensusModel", "before", "[I", true)
  | 5 => ("TenantCensusModel", "present", "[I", true)
  | 6 => ("TenantCensusModel", "changes", "I", false)
  | 7 => ("TenantCensusModel", "firstChange", "I", false)
  | 8 => ("TenantCensusModel", "isSaved", "Z", false)
  | 9 => ("TenantCensusModel", "plan", "[I", true)
  | 10 => ("TenantCensusModel", "asked", "[I", true)
  | 11 => ("TenantCensusModel", "creaks", "[I", true)
  | 12 => ("TenantCensusModel", "sums", "[I", true)
  | 13 => ("TenantCensusModel", "on", "[I", true)
  | 14 => ("TenantCensusModel", "line", "[C", true)
  | 15 => ("TenantCensusModel", "lineLength", "I", false)
  | 16 => ("TenantCensusModel", "text", "[C", true)
  | 17 => ("TenantCensusModel", "textLength", "I", false)
  | 18 => ("TenantCensusModel", "textAt", "I", false)
  | 19 => ("TenantCensusModel", "errorAt", "I", false)
  | 20 => ("TenantCensusModel", "failedAt", "I", false)
  | 21 => ("TenantCensusModel", "numbers", "[I", true)
  | 22 => ("TenantCensusModel", "sort", "I", false)
  | _ => ("TenantCensusModel", "done", "I", false)
def tyX10 : Nat → FieldType := fun k => match k with
  | 0 => .int
  | 1 => .array .int
  | 2 => .array .int
  | 3 => .array .int
  | 4 => .array .int
  | 5 => .array .int
  | 6 => .int
  | 7 => .int
  | 8 => .boolean
  | 9 => .array .int
  | 10 => .array .int
  | 11 => .array .int
  | 12 => .array .int
  | 13 => .array .int
  | 14 => .array .char
  | 15 => .int
  | 16 => .array .char
  | 17 => .int
  | 18 => .int
  | 19 => .int
  | 20 => .int
  | 21 => .array .int
  | 22 => .int
  | _ => .int
abbrev wsX100 : List Cond := u_ws RX10 TX10 24
theorem nmX10 : ∀ a, a < 24 → ∀ b, b < 24 → a ≠ b → (TX10 a).2.1 ≠ (TX10 b).2.1 := by decide +kernel
theorem tyX10_ok : ∀ k, k < 24 → parseFieldDescriptor (TX10 k).2.2.1 = some (tyX10 k) := by decide +kernel
abbrev cX10_init : ByteArray := prog_12_method_1_code
def yX10_init : MethodName := ⟨RX10, "<init>", "()V"⟩
abbrev cX10_thrown : ByteArray := prog_12_method_2_code
def yX10_thrown : MethodName := ⟨RX10, "thrown", "()I"⟩
abbrev cX10_fails : ByteArray := prog_12_method_3_code
def yX10_fails : MethodName := ⟨RX10, "fails", "(I)I"⟩
abbrev cX10_isBetween : ByteArray := prog_12_method_4_code
def yX10_isBetween : MethodName := ⟨RX10, "isBetween", "(III)Z"⟩
abbrev cX10_copies : ByteArray := prog_12_method_5_code
def yX10_copies : MethodName := ⟨RX10, "copies", "()V"⟩
abbrev cX10_goesBack : ByteArray := prog_12_method_6_code
def yX10_goesBack : MethodName := ⟨RX10, "goesBack", "()V"⟩
abbrev cX10_keeps : ByteArray := prog_12_method_7_code
def yX10_keeps : MethodName := ⟨RX10, "keeps", "()V"⟩
abbrev cX10_remembers : ByteArray := prog_12_method_8_code
def yX10_remembers : MethodName := ⟨RX10, "remembers", "()V"⟩
abbrev cX10_looksAhead : ByteArray := prog_12_method_9_code
def yX10_looksAhead : MethodName := ⟨RX10, "looksAhead", "()V"⟩
abbrev cX10_comesBack : ByteArray := prog_12_method_10_code
def yX10_comesBack : MethodName := ⟨RX10, "comesBack", "()V"⟩
abbrev cX10_isFlat : ByteArray := prog_12_method_11_code
def yX10_isFlat : MethodName := ⟨RX10, "isFlat", "(I)Z"⟩
abbrev cX10_flat : ByteArray := prog_12_method_12_code
def yX10_flat : MethodName := ⟨RX10, "flat", "(II)I"⟩
abbrev cX10_of : ByteArray := prog_12_method_13_code
def yX10_of : MethodName := ⟨RX10, "of", "(II)I"⟩
abbrev cX10_puts : ByteArray := prog_12_method_14_code
def yX10_puts : MethodName := ⟨RX10, "puts", "(III)V"⟩
abbrev cX10_place : ByteArray := prog_12_method_15_code
def yX10_place : MethodName := ⟨RX10, "place", "(I)I"⟩
abbrev cX10_occupant : ByteArray := prog_12_method_16_code
def yX10_occupant : MethodName := ⟨RX10, "occupant", "(I)I"⟩
abbrev cX10_burdenOf : ByteArray := prog_12_method_17_code
def yX10_burdenOf : MethodName := ⟨RX10, "burdenOf", "(II)I"⟩
abbrev cX10_affords : ByteArray := prog_12_method_18_code
def yX10_affords : MethodName := ⟨RX10, "affords", "(II)Z"⟩
abbrev cX10_prefers : ByteArray := prog_12_method_19_code
def yX10_prefers : MethodName := ⟨RX10, "prefers", "(III)Z"⟩
abbrev cX10_isPreferred : ByteArray := prog_12_method_20_code
def yX10_isPreferred : MethodName := ⟨RX10, "isPreferred", "(II)Z"⟩
abbrev cX10_notFlat : ByteArray := prog_12_method_21_code
def yX10_notFlat : MethodName := ⟨RX10, "notFlat", "(II)I"⟩
abbrev cX10_addsFlat : ByteArray := prog_12_method_22_code
def yX10_addsFlat : MethodName := ⟨RX10, "addsFlat", "(II)I"⟩
abbrev cX10_addFlat : ByteArray := prog_12_method_23_code
def yX10_addFlat : MethodName := ⟨RX10, "addFlat", "(II)I"⟩
abbrev cX10_notTenant : ByteArray := prog_12_method_24_code
def yX10_notTenant : MethodName := ⟨RX10, "notTenant", "(IIII)I"⟩
abbrev cX10_addsTenant : ByteArray := prog_12_method_25_code
def yX10_addsTenant : MethodName := ⟨RX10, "addsTenant", "(IIII)I"⟩
abbrev cX10_addTenant : ByteArray := prog_12_method_26_code
def yX10_addTenant : MethodName := ⟨RX10, "addTenant", "(IIII)I"⟩
abbrev cX10_removeTenant : ByteArray := prog_12_method_27_code
def yX10_removeTenant : MethodName := ⟨RX10, "removeTenant", "(I)I"⟩
abbrev cX10_notIn : ByteArray := prog_12_method_28_code
def yX10_notIn : MethodName := ⟨RX10, "notIn", "(II)I"⟩
abbrev cX10_movesIn : ByteArray := prog_12_method_29_code
def yX10_movesIn : MethodName := ⟨RX10, "movesIn", "(II)I"⟩
abbrev cX10_moveIn : ByteArray := prog_12_method_30_code
def yX10_moveIn : MethodName := ⟨RX10, "moveIn", "(II)I"⟩
abbrev cX10_candidate : ByteArray := prog_12_method_31_code
def yX10_candidate : MethodName := ⟨RX10, "candidate", "(II)I"⟩
abbrev cX10_leaves : ByteArray := prog_12_method_32_code
def yX10_leaves : MethodName := ⟨RX10, "leaves", "(I)I"⟩
abbrev cX10_notOut : ByteArray := prog_12_method_33_code
def yX10_notOut : MethodName := ⟨RX10, "notOut", "(I)I"⟩
abbrev cX10_moveOut : ByteArray := prog_12_method_34_code
def yX10_moveOut : MethodName := ⟨RX10, "moveOut", "(I)I"⟩
abbrev cX10_notRent : ByteArray := prog_12_method_35_code
def yX10_notRent : MethodName := ⟨RX10, "notRent", "(II)I"⟩
abbrev cX10_setsRent : ByteArray := prog_12_method_36_code
def yX10_setsRent : MethodName := ⟨RX10, "setsRent", "(II)I"⟩
abbrev cX10_setRent : ByteArray := prog_12_method_37_code
def yX10_setRent : MethodName := ⟨RX10, "setRent", "(II)I"⟩
abbrev cX10_notGive : ByteArray := prog_12_method_38_code
def yX10_notGive : MethodName := ⟨RX10, "notGive", "(II)I"⟩
abbrev cX10_gives : ByteArray := prog_12_method_39_code
def yX10_gives : MethodName := ⟨RX10, "gives", "(II)I"⟩
abbrev cX10_give : ByteArray := prog_12_method_40_code
def yX10_give : MethodName := ⟨RX10, "give", "(II)I"⟩
abbrev cX10_flatAt : ByteArray := prog_12_method_41_code
def yX10_flatAt : MethodName := ⟨RX10, "flatAt", "(II)I"⟩
abbrev cX10_plannedIn : ByteArray := prog_12_method_42_code
def yX10_plannedIn : MethodName := ⟨RX10, "plannedIn", "(I)I"⟩
abbrev cX10_asks : ByteArray := prog_12_method_43_code
def yX10_asks : MethodName := ⟨RX10, "asks", "(I)Z"⟩
abbrev cX10_findsPlan : ByteArray := prog_12_method_44_code
def yX10_findsPlan : MethodName := ⟨RX10, "findsPlan", "()V"⟩
abbrev cX10_isPlan : ByteArray := prog_12_method_45_code
def yX10_isPlan : MethodName := ⟨RX10, "isPlan", "()Z"⟩
abbrev cX10_isStablePlan : ByteArray := prog_12_method_46_code
def yX10_isStablePlan : MethodName := ⟨RX10, "isStablePlan", "()Z"⟩
abbrev cX10_settles : ByteArray := prog_12_method_47_code
def yX10_settles : MethodName := ⟨RX10, "settles", "()I"⟩
abbrev cX10_settle : ByteArray := prog_12_method_48_code
def yX10_settle : MethodName := ⟨RX10, "settle", "()I"⟩
abbrev cX10_goes : ByteArray := prog_12_method_49_code
def yX10_goes : MethodName := ⟨RX10, "goes", "(I)Z"⟩
abbrev cX10_passes : ByteArray := prog_12_method_50_code
def yX10_passes : MethodName := ⟨RX10, "passes", "(I)I"⟩
abbrev cX10_notPass : ByteArray := prog_12_method_51_code
def yX10_notPass : MethodName := ⟨RX10, "notPass", "(I)I"⟩
abbrev cX10_pass : ByteArray := prog_12_method_52_code
def yX10_pass : MethodName := ⟨RX10, "pass", "(I)I"⟩
abbrev cX10_told : ByteArray := prog_12_method_53_code
def yX10_told : MethodName := ⟨RX10, "told", "(I)I"⟩
abbrev cX10_flats : ByteArray := prog_12_method_54_code
def yX10_flats : MethodName := ⟨RX10, "flats", "()I"⟩
abbrev cX10_floorOf : ByteArray := prog_12_method_55_code
def yX10_floorOf : MethodName := ⟨RX10, "floorOf", "(I)I"⟩
abbrev cX10_rentOf : ByteArray := prog_12_method_56_code
def yX10_rentOf : MethodName := ⟨RX10, "rentOf", "(I)I"⟩
abbrev cX10_tenantIn : ByteArray := prog_12_method_57_code
def yX10_tenantIn : MethodName := ⟨RX10, "tenantIn", "(I)I"⟩
abbrev cX10_vacantFlats : ByteArray := prog_12_method_58_code
def yX10_vacantFlats : MethodName := ⟨RX10, "vacantFlats", "()I"⟩
abbrev cX10_tenants : ByteArray := prog_12_method_59_code
def yX10_tenants : MethodName := ⟨RX10, "tenants", "()I"⟩
abbrev cX10_isPresent : ByteArray := prog_12_method_60_code
def yX10_isPresent : MethodName := ⟨RX10, "isPresent", "(I)Z"⟩
abbrev cX10_tells : ByteArray := prog_12_method_61_code
def yX10_tells : MethodName := ⟨RX10, "tells", "(II)I"⟩
abbrev cX10_weightOf : ByteArray := prog_12_method_62_code
def yX10_weightOf : MethodName := ⟨RX10, "weightOf", "(I)I"⟩
abbrev cX10_purseOf : ByteArray := prog_12_method_63_code
def yX10_purseOf : MethodName := ⟨RX10, "purseOf", "(I)I"⟩
abbrev cX10_noticesOf : ByteArray := prog_12_method_64_code
def yX10_noticesOf : MethodName := ⟨RX10, "noticesOf", "(I)I"⟩
abbrev cX10_flatOf : ByteArray := prog_12_method_65_code
def yX10_flatOf : MethodName := ⟨RX10, "flatOf", "(I)I"⟩
abbrev cX10_burden : ByteArray := prog_12_method_66_code
def yX10_burden : MethodName := ⟨RX10, "burden", "(II)I"⟩
abbrev cX10_flatByRank : ByteArray := prog_12_method_67_code
def yX10_flatByRank : MethodName := ⟨RX10, "flatByRank", "(II)I"⟩
abbrev cX10_tenantByPurse : ByteArray := prog_12_method_68_code
def yX10_tenantByPurse : MethodName := ⟨RX10, "tenantByPurse", "(I)I"⟩
abbrev cX10_findsCreaks : ByteArray := prog_12_method_69_code
def yX10_findsCreaks : MethodName := ⟨RX10, "findsCreaks", "()V"⟩
abbrev cX10_creak : ByteArray := prog_12_method_70_code
def yX10_creak : MethodName := ⟨RX10, "creak", "(I)I"⟩
abbrev cX10_isCensus : ByteArray := prog_12_method_71_code
def yX10_isCensus : MethodName := ⟨RX10, "isCensus", "(I)Z"⟩
abbrev cX10_numbers : ByteArray := prog_12_method_72_code
def yX10_numbers : MethodName := ⟨RX10, "numbers", "()I"⟩
abbrev cX10_censuses : ByteArray := prog_12_method_73_code
def yX10_censuses : MethodName := ⟨RX10, "censuses", "()I"⟩
abbrev cX10_censusesBySets : ByteArray := prog_12_method_74_code
def yX10_censusesBySets : MethodName := ⟨RX10, "censusesBySets", "()I"⟩
abbrev cX10_possibleFloors : ByteArray := prog_12_method_75_code
def yX10_possibleFloors : MethodName := ⟨RX10, "possibleFloors", "(I)I"⟩
abbrev cX10_plannedFlat : ByteArray := prog_12_method_76_code
def yX10_plannedFlat : MethodName := ⟨RX10, "plannedFlat", "(I)I"⟩
abbrev cX10_plannedFlatByPlans : ByteArray := prog_12_method_77_code
def yX10_plannedFlatByPlans : MethodName := ⟨RX10, "plannedFlatByPlans", "(I)I"⟩
abbrev cX10_stablePlans : ByteArray := prog_12_method_78_code
def yX10_stablePlans : MethodName := ⟨RX10, "stablePlans", "()I"⟩
abbrev cX10_isStable : ByteArray := prog_12_method_79_code
def yX10_isStable : MethodName := ⟨RX10, "isStable", "()Z"⟩
abbrev cX10_chainLength : ByteArray := prog_12_method_80_code
def yX10_chainLength : MethodName := ⟨RX10, "chainLength", "(I)I"⟩
abbrev cX10_monthsUntilEviction : ByteArray := prog_12_method_81_code
def yX10_monthsUntilEviction : MethodName := ⟨RX10, "monthsUntilEviction", "()I"⟩
abbrev cX10_month : ByteArray := prog_12_method_82_code
def yX10_month : MethodName := ⟨RX10, "month", "()I"⟩
abbrev cX10_received : ByteArray := prog_12_method_83_code
def yX10_received : MethodName := ⟨RX10, "received", "()J"⟩
abbrev cX10_purses : ByteArray := prog_12_method_84_code
def yX10_purses : MethodName := ⟨RX10, "purses", "()I"⟩
abbrev cX10_receivedByParts : ByteArray := prog_12_method_85_code
def yX10_receivedByParts : MethodName := ⟨RX10, "receivedByParts", "()J"⟩
abbrev cX10_paidRents : ByteArray := prog_12_method_86_code
def yX10_paidRents : MethodName := ⟨RX10, "paidRents", "()I"⟩
abbrev cX10_evictions : ByteArray := prog_12_method_87_code
def yX10_evictions : MethodName := ⟨RX10, "evictions", "()I"⟩
abbrev cX10_meanBurden : ByteArray := prog_12_method_88_code
def yX10_meanBurden : MethodName := ⟨RX10, "meanBurden", "()D"⟩
abbrev cX10_occupancy : ByteArray := prog_12_method_89_code
def yX10_occupancy : MethodName := ⟨RX10, "occupancy", "()F"⟩
abbrev cX10_isConsistent : ByteArray := prog_12_method_90_code
def yX10_isConsistent : MethodName := ⟨RX10, "isConsistent", "()Z"⟩
abbrev cX10_writes : ByteArray := prog_12_method_91_code
def yX10_writes : MethodName := ⟨RX10, "writes", "(I)V"⟩
abbrev cX10_writesNumber : ByteArray := prog_12_method_92_code
def yX10_writesNumber : MethodName := ⟨RX10, "writesNumber", "(I)V"⟩
abbrev cX10_writeFloor : ByteArray := prog_12_method_93_code
def yX10_writeFloor : MethodName := ⟨RX10, "writeFloor", "(I)I"⟩
abbrev cX10_writePlan : ByteArray := prog_12_method_94_code
def yX10_writePlan : MethodName := ⟨RX10, "writePlan", "()I"⟩
abbrev cX10_charAt : ByteArray := prog_12_method_95_code
def yX10_charAt : MethodName := ⟨RX10, "charAt", "(I)C"⟩
abbrev cX10_type : ByteArray := prog_12_method_96_code
def yX10_type : MethodName := ⟨RX10, "type", "(C)I"⟩
abbrev cX10_nextChar : ByteArray := prog_12_method_97_code
def yX10_nextChar : MethodName := ⟨RX10, "nextChar", "()I"⟩
abbrev cX10_reads : ByteArray := prog_12_method_98_code
def yX10_reads : MethodName := ⟨RX10, "reads", "(I)Z"⟩
abbrev cX10_readsDigit : ByteArray := prog_12_method_99_code
def yX10_readsDigit : MethodName := ⟨RX10, "readsDigit", "(I)Z"⟩
abbrev cX10_readsNumber : ByteArray := prog_12_method_100_code
def yX10_readsNumber : MethodName := ⟨RX10, "readsNumber", "(I)Z"⟩
abbrev cX10_readsTenant : ByteArray := prog_12_method_101_code
def yX10_readsTenant : MethodName := ⟨RX10, "readsTenant", "()Z"⟩
abbrev cX10_readsMonth : ByteArray := prog_12_method_102_code
def yX10_readsMonth : MethodName := ⟨RX10, "readsMonth", "()Z"⟩
abbrev cX10_readsCommand : ByteArray := prog_12_method_103_code
def yX10_readsCommand : MethodName := ⟨RX10, "readsCommand", "()Z"⟩
abbrev cX10_readsAll : ByteArray := prog_12_method_104_code
def yX10_readsAll : MethodName := ⟨RX10, "readsAll", "()Z"⟩
abbrev cX10_notNow : ByteArray := prog_12_method_105_code
def yX10_notNow : MethodName := ⟨RX10, "notNow", "()I"⟩
abbrev cX10_doesNow : ByteArray := prog_12_method_106_code
def yX10_doesNow : MethodName := ⟨RX10, "doesNow", "()I"⟩
abbrev cX10_doesAll : ByteArray := prog_12_method_107_code
def yX10_doesAll : MethodName := ⟨RX10, "doesAll", "()Z"⟩
abbrev cX10_run : ByteArray := prog_12_method_108_code
def yX10_run : MethodName := ⟨RX10, "run", "()I"⟩
abbrev cX10_errorPosition : ByteArray := prog_12_method_109_code
def yX10_errorPosition : MethodName := ⟨RX10, "errorPosition", "()I"⟩
abbrev cX10_failedCommand : ByteArray := prog_12_method_110_code
def yX10_failedCommand : MethodName := ⟨RX10, "failedCommand", "()I"⟩
abbrev cX10_undo : ByteArray := prog_12_method_111_code
def yX10_undo : MethodName := ⟨RX10, "undo", "()I"⟩
abbrev cX10_save : ByteArray := prog_12_method_112_code
def yX10_save : MethodName := ⟨RX10, "save", "()I"⟩
abbrev cX10_restore : ByteArray := prog_12_method_113_code
def yX10_restore : MethodName := ⟨RX10, "restore", "()I"⟩
def RJx145de : String := "java/io/Serializable"
def TJx145de : u_T := fun k => match k with
  | _ => ("", "", "", false)
def tyJx145de : Nat → FieldType := fun k => match k with
  | _ => .int
theorem nmJx145de : ∀ a, a < 0 → ∀ b, b < 0 → a ≠ b → (TJx145de a).2.1 ≠ (TJx145de b).2.1 := by decide +kernel
theorem tyJx145de_ok : ∀ k, k < 0 → parseFieldDescriptor (TJx145de k).2.2.1 = some (tyJx145de k) := by decide +kernel
def RJx00060 : String := "java/lang/ArrayIndexOutOfBoundsException"
def TJx00060 : u_T := fun k => match k with
  | 0 => ("java/lang/Throwable", "backtrace", "Ljava/lang/Object;", false)
  | 1 => ("java/lang/Throwable", "detailMessage", "Ljava/lang/String;", false)
  | 2 => ("java/lang/Throwable", "cause", "Ljava/lang/Throwable;", false)
  | 3 => ("java/lang/Throwable", "stackTrace", "[Ljava/lang/StackTraceElement;", false)
  | 4 => ("java/lang/Throwable", "depth", "I", false)
  | _ => ("java/lang/Throwable", "suppressedExceptions", "Ljava/util/List;", false)
def tyJx00060 : Nat → FieldType := fun k => match k with
  | 0 => .object "java/lang/Object"
  | 1 => .object "java/lang/String"
  | 2 => .object "java/lang/Throwable"
  | 3 => .array (.object "java/lang/StackTraceElement")
  | 4 => .int
  | _ => .object "java/util/List"
theorem nmJx00060 : ∀ a, a < 6 → ∀ b, b < 6 → a ≠ b → (TJx00060 a).2.1 ≠ (TJx00060 b).2.1 := by decide +kernel
theorem tyJx00060_ok : ∀ k, k < 6 → parseFieldDescriptor (TJx00060 k).2.2.1 = some (tyJx00060 k) := by decide +kernel
abbrev cJx00060_init_a7421 : ByteArray := prog_15_method_2_code
def yJx00060_init_a7421 : MethodName := ⟨RJx00060, "<init>", "(Ljava/lang/String;)V"⟩
def RJx9f9b0 : String := "java/lang/CharSequence"
def TJx9f9b0 : u_T := fun k => match k with
  | _ => ("", "", "", false)
def tyJx9f9b0 : Nat → FieldType := fun k => match k with
  | _ => .int
theorem nmJx9f9b0 : ∀ a, a < 0 → ∀ b, b < 0 → a ≠ b → (TJx9f9b0 a).2.1 ≠ (TJx9f9b0 b).2.1 := by decide +kernel
theorem tyJx9f9b0_ok : ∀ k, k < 0 → parseFieldDescriptor (TJx9f9b0 k).2.2.1 = some (tyJx9f9b0 k) := by decide +kernel
def RJxb160c : String := "java/lang/Comparable"
def TJxb160c : u_T := fun k => match k with
  | _ => ("", "", "", false)
def tyJxb160c : Nat → FieldType := fun k => match k with
  | _ => .int
theorem nmJxb160c : ∀ a, a < 0 → ∀ b, b < 0 → a ≠ b → (TJxb160c a).2.1 ≠ (TJxb160c b).2.1 := by decide +kernel
theorem tyJxb160c_ok : ∀ k, k < 0 → parseFieldDescriptor (TJxb160c k).2.2.1 = some (tyJxb160c k) := by decide +kernel
def RJx29ce0 : String := "java/lang/Enum"
def TJx29ce0 : u_T := fun k => match k with
  | _ => ("", "", "", false)
def tyJx29ce0 : Nat → FieldType := fun k => match k with
  | _ => .int
theorem nmJx29ce0 : ∀ a, a < 0 → ∀ b, b < 0 → a ≠ b → (TJx29ce0 a).2.1 ≠ (TJx29ce0 b).2.1 := by decide +kernel
theorem tyJx29ce0_ok : ∀ k, k < 0 → parseFieldDescriptor (TJx29ce0 k).2.2.1 = some (tyJx29ce0 k) := by decide +kernel
abbrev cJx29ce0_ordinal_8abf5 : ByteArray := prog_18_method_2_code
def yJx29ce0_ordinal_8abf5 : MethodName := ⟨RJx29ce0, "ordinal", "()I"⟩
def RJ9 : String := "java/lang/Math"
def TJ9 : u_T := fun k => match k with
  | _ => ("", "", "", false)
def tyJ9 : Nat → FieldType := fun k => match k with
  | _ => .int
theorem nmJ9 : ∀ a, a < 0 → ∀ b, b < 0 → a ≠ b → (TJ9 a).2.1 ≠ (TJ9 b).2.1 := by decide +kernel
theorem tyJ9_ok : ∀ k, k < 0 → parseFieldDescriptor (TJ9 k).2.2.1 = some (tyJ9 k) := by decide +kernel
abbrev cJ9_min_7cf53 : ByteArray := prog_23_method_69_code
def yJ9_min_7cf53 : MethodName := ⟨RJ9, "min", "(II)I"⟩
def RJ0 : String := "java/lang/String"
def TJ0 : u_T := fun k => match k with
  | 0 => ("java/lang/String", "value", "[B", true)
  | _ => ("java/lang/String", "coder", "B", true)
def tyJ0 : Nat → FieldType := fun k => match k with
  | 0 => .array .byte
  | _ => .byte
theorem nmJ0 : ∀ a, a < 2 → ∀ b, b < 2 → a ≠ b → (TJ0 a).2.1 ≠ (TJ0 b).2.1 := by decide +kernel
theorem tyJ0_ok : ∀ k, k < 2 → parseFieldDescriptor (TJ0 k).2.2.1 = some (tyJ0 k) := by decide +kernel
abbrev cJ0_length_8abf5 : ByteArray := prog_25_method_54_code
def yJ0_length_8abf5 : MethodName := ⟨RJ0, "length", "()I"⟩
abbrev cJ0_charAt_5068e : ByteArray := prog_25_method_56_code
def yJ0_charAt_5068e : MethodName := ⟨RJ0, "charAt", "(I)C"⟩
abbrev cJ0_coder_7d493 : ByteArray := prog_25_method_152_code
def yJ0_coder_7d493 : MethodName := ⟨RJ0, "coder", "()B"⟩
abbrev cJ0_isLatin1_aae02 : ByteArray := prog_25_method_154_code
def yJ0_isLatin1_aae02 : MethodName := ⟨RJ0, "isLatin1", "()Z"⟩
abbrev cJ0_checkIndex_df160 : ByteArray := prog_25_method_155_code
def yJ0_checkIndex_df160 : MethodName := ⟨RJ0, "checkIndex", "(II)V"⟩
def RJ1 : String := "java/lang/StringLatin1"
def TJ1 : u_T := fun k => match k with
  | _ => ("", "", "", false)
def tyJ1 : Nat → FieldType := fun k => match k with
  | _ => .int
theorem nmJ1 : ∀ a, a < 0 → ∀ b, b < 0 → a ≠ b → (TJ1 a).2.1 ≠ (TJ1 b).2.1 := by decide +kernel
theorem tyJ1_ok : ∀ k, k < 0 → parseFieldDescriptor (TJ1 k).2.2.1 = some (tyJ1 k) := by decide +kernel
abbrev cJ1_charAt_3b067 : ByteArray := prog_26_method_2_code
def yJ1_charAt_3b067 : MethodName := ⟨RJ1, "charAt", "([BI)C"⟩
def RJ2 : String := "java/lang/StringUTF16"
def TJ2 : u_T := fun k => match k with
  | _ => ("", "", "", false)
def tyJ2 : Nat → FieldType := fun k => match k with
  | _ => .int
theorem nmJ2 : ∀ a, a < 0 → ∀ b, b < 0 → a ≠ b → (TJ2 a).2.1 ≠ (TJ2 b).2.1 := by decide +kernel
theorem tyJ2_ok : ∀ k, k < 0 → parseFieldDescriptor (TJ2 k).2.2.1 = some (tyJ2 k) := by decide +kernel
abbrev cJ2_getChar_3b067 : ByteArray := prog_27_method_5_code
def yJ2_getChar_3b067 : MethodName := ⟨RJ2, "getChar", "([BI)C"⟩
abbrev cJ2_length_9d52b : ByteArray := prog_27_method_6_code
def yJ2_length_9d52b : MethodName := ⟨RJ2, "length", "([B)I"⟩
abbrev cJ2_charAt_3b067 : ByteArray := prog_27_method_83_code
def yJ2_charAt_3b067 : MethodName := ⟨RJ2, "charAt", "([BI)C"⟩
abbrev cJ2_checkIndex_2214a : ByteArray := prog_27_method_91_code
def yJ2_checkIndex_2214a : MethodName := ⟨RJ2, "checkIndex", "(I[B)V"⟩
def RJ10 : String := "java/lang/System"
def TJ10 : u_T := fun k => match k with
  | _ => ("", "", "", false)
def tyJ10 : Nat → FieldType := fun k => match k with
  | _ => .int
theorem nmJ10 : ∀ a, a < 0 → ∀ b, b < 0 → a ≠ b → (TJ10 a).2.1 ≠ (TJ10 b).2.1 := by decide +kernel
theorem tyJ10_ok : ∀ k, k < 0 → parseFieldDescriptor (TJ10 k).2.2.1 = some (tyJ10 k) := by decide +kernel
def RJxfd54e : String := "java/lang/constant/Constable"
def TJxfd54e : u_T := fun k => match k with
  | _ => ("", "", "", false)
def tyJxfd54e : Nat → FieldType := fun k => match k with
  | _ => .int
theorem nmJxfd54e : ∀ a, a < 0 → ∀ b, b < 0 → a ≠ b → (TJxfd54e a).2.1 ≠ (TJxfd54e b).2.1 := by decide +kernel
theorem tyJxfd54e_ok : ∀ k, k < 0 → parseFieldDescriptor (TJxfd54e k).2.2.1 = some (tyJxfd54e k) := by decide +kernel
def RJx3cf43 : String := "java/lang/constant/ConstantDesc"
def TJx3cf43 : u_T := fun k => match k with
  | _ => ("", "", "", false)
def tyJx3cf43 : Nat → FieldType := fun k => match k with
  | _ => .int
theorem nmJx3cf43 : ∀ a, a < 0 → ∀ b, b < 0 → a ≠ b → (TJx3cf43 a).2.1 ≠ (TJx3cf43 b).2.1 := by decide +kernel
theorem tyJx3cf43_ok : ∀ k, k < 0 → parseFieldDescriptor (TJx3cf43 k).2.2.1 = some (tyJx3cf43 k) := by decide +kernel
def RJ3 : String := "jdk/internal/util/Preconditions"
def TJ3 : u_T := fun k => match k with
  | _ => ("", "", "", false)
def tyJ3 : Nat → FieldType := fun k => match k with
  | _ => .int
theorem nmJ3 : ∀ a, a < 0 → ∀ b, b < 0 → a ≠ b → (TJ3 a).2.1 ≠ (TJ3 b).2.1 := by decide +kernel
theorem tyJ3_ok : ∀ k, k < 0 → parseFieldDescriptor (TJ3 k).2.2.1 = some (tyJ3 k) := by decide +kernel
abbrev cJ3_checkIndex_8e157 : ByteArray := prog_34_method_11_code
def yJ3_checkIndex_8e157 : MethodName := ⟨RJ3, "checkIndex", "(IILjava/util/function/BiFunction;)I"⟩
def RL : String := "TenantCensusLaw"
abbrev cL_addFlat : ByteArray := method_3_code
def yL_addFlat : MethodName := ⟨RL, "addFlat", "(LTenantCensus;II[J)I"⟩
abbrev cL_addTenant : ByteArray := method_4_code
def yL_addTenant : MethodName := ⟨RL, "addTenant", "(LTenantCensus;IIII[J)I"⟩
abbrev cL_removeTenant : ByteArray := method_5_code
def yL_removeTenant : MethodName := ⟨RL, "removeTenant", "(LTenantCensus;I[J)I"⟩
abbrev cL_moveIn : ByteArray := method_6_code
def yL_moveIn : MethodName := ⟨RL, "moveIn", "(LTenantCensus;II[J)I"⟩
abbrev cL_moveOut : ByteArray := method_7_code
def yL_moveOut : MethodName := ⟨RL, "moveOut", "(LTenantCensus;I[J)I"⟩
abbrev cL_setRent : ByteArray := method_8_code
def yL_setRent : MethodName := ⟨RL, "setRent", "(LTenantCensus;II[J)I"⟩
abbrev cL_give : ByteArray := method_9_code
def yL_give : MethodName := ⟨RL, "give", "(LTenantCensus;II[J)I"⟩
abbrev cL_pass : ByteArray := method_10_code
def yL_pass : MethodName := ⟨RL, "pass", "(LTenantCensus;I[J)I"⟩
abbrev cL_floorOf : ByteArray := method_11_code
def yL_floorOf : MethodName := ⟨RL, "floorOf", "(LTenantCensus;I[J)I"⟩
abbrev cL_rentOf : ByteArray := method_12_code
def yL_rentOf : MethodName := ⟨RL, "rentOf", "(LTenantCensus;I[J)I"⟩
abbrev cL_tenantIn : ByteArray := method_13_code
def yL_tenantIn : MethodName := ⟨RL, "tenantIn", "(LTenantCensus;I[J)I"⟩
abbrev cL_weightOf : ByteArray := method_14_code
def yL_weightOf : MethodName := ⟨RL, "weightOf", "(LTenantCensus;I[J)I"⟩
abbrev cL_purseOf : ByteArray := method_15_code
def yL_purseOf : MethodName := ⟨RL, "purseOf", "(LTenantCensus;I[J)I"⟩
abbrev cL_noticesOf : ByteArray := method_16_code
def yL_noticesOf : MethodName := ⟨RL, "noticesOf", "(LTenantCensus;I[J)I"⟩
abbrev cL_flatOf : ByteArray := method_17_code
def yL_flatOf : MethodName := ⟨RL, "flatOf", "(LTenantCensus;I[J)I"⟩
abbrev cL_burden : ByteArray := method_18_code
def yL_burden : MethodName := ⟨RL, "burden", "(LTenantCensus;II[J)I"⟩
abbrev cL_flatByRank : ByteArray := method_19_code
def yL_flatByRank : MethodName := ⟨RL, "flatByRank", "(LTenantCensus;II[J)I"⟩
abbrev cL_tenantByPurse : ByteArray := method_20_code
def yL_tenantByPurse : MethodName := ⟨RL, "tenantByPurse", "(LTenantCensus;I[J)I"⟩
abbrev cL_creak : ByteArray := method_21_code
def yL_creak : MethodName := ⟨RL, "creak", "(LTenantCensus;I[J)I"⟩
abbrev cL_possibleFloors : ByteArray := method_22_code
def yL_possibleFloors : MethodName := ⟨RL, "possibleFloors", "(LTenantCensus;I[J)I"⟩
abbrev cL_plannedFlat : ByteArray := method_23_code
def yL_plannedFlat : MethodName := ⟨RL, "plannedFlat", "(LTenantCensus;I[J)I"⟩
abbrev cL_plannedFlatByPlans : ByteArray := method_24_code
def yL_plannedFlatByPlans : MethodName := ⟨RL, "plannedFlatByPlans", "(LTenantCensus;I[J)I"⟩
abbrev cL_chainLength : ByteArray := method_25_code
def yL_chainLength : MethodName := ⟨RL, "chainLength", "(LTenantCensus;I[J)I"⟩
abbrev cL_monthsUntilEviction : ByteArray := method_26_code
def yL_monthsUntilEviction : MethodName := ⟨RL, "monthsUntilEviction", "(LTenantCensus;[J)I"⟩
abbrev cL_meanBurden : ByteArray := method_27_code
def yL_meanBurden : MethodName := ⟨RL, "meanBurden", "(LTenantCensus;[D)I"⟩
abbrev cL_occupancy : ByteArray := method_28_code
def yL_occupancy : MethodName := ⟨RL, "occupancy", "(LTenantCensus;[D)I"⟩
abbrev cL_writeFloor : ByteArray := method_29_code
def yL_writeFloor : MethodName := ⟨RL, "writeFloor", "(LTenantCensus;I[J)I"⟩
abbrev cL_charAt : ByteArray := method_30_code
def yL_charAt : MethodName := ⟨RL, "charAt", "(LTenantCensus;I[J)I"⟩
abbrev cL_type : ByteArray := method_31_code
def yL_type : MethodName := ⟨RL, "type", "(LTenantCensus;C[J)I"⟩
abbrev cL_run : ByteArray := method_32_code
def yL_run : MethodName := ⟨RL, "run", "(LTenantCensus;[J)I"⟩
abbrev cL_errorPosition : ByteArray := method_33_code
def yL_errorPosition : MethodName := ⟨RL, "errorPosition", "(LTenantCensus;[J)I"⟩
abbrev cL_failedCommand : ByteArray := method_34_code
def yL_failedCommand : MethodName := ⟨RL, "failedCommand", "(LTenantCensus;[J)I"⟩
abbrev cL_undo : ByteArray := method_35_code
def yL_undo : MethodName := ⟨RL, "undo", "(LTenantCensus;[J)I"⟩
abbrev cL_restore : ByteArray := method_36_code
def yL_restore : MethodName := ⟨RL, "restore", "(LTenantCensus;[J)I"⟩
abbrev cL_law : ByteArray := code
def yL_law : MethodName := ⟨RL, "law", "([I)Z"⟩
abbrev vwCl : List vw_C := [(RJ0, TJ0, 2), (RJx00060, TJx00060, 6), (RX1, TX1, 3), (RX2, TX2, 17), (RX4, TX4, 5), (RX5, TX5, 7), (RX7, TX7, 3), (RX8, TX8, 2), (RX9, TX9, 12), (RX10, TX10, 24)]
abbrev TCn : String := "TenantCensus"
abbrev T1n : String := "TenantCensus$1"
abbrev KNn : String := "TenantCensus$Kind"
abbrev RFn : String := "TenantCensus$Refusal"
abbrev STn : String := "java/lang/String"
abbrev PRn : String := "jdk/internal/util/Preconditions"
end
section
/-! ===== the memory as a function; what the constants hold ===== -/
abbrev zM : Type := Nat → Int → Int
def st (μ : zM) (k : Nat) (i v : Int) : zM := fun q j => if q = k then (if j = i then v else μ q j) else μ q j
def cpy (μ : zM) (a b : Nat) (n : Int) : zM := fun q j => if q = b then (if 0 ≤ j ∧ j < n then μ a j else μ q j) else μ q j
def tcall (o : Option ((Int ⊕ Nat) × zM)) (k : Int → zM → Option ((Int ⊕ Nat) × zM)) : Option ((Int ⊕ Nat) × zM) := Option.bind o fun q => Sum.elim (fun x => k x q.2) (fun e => some (.inr e, q.2)) q.1
def formS : List (List Int) := [[102, 108, 97, 116, 32, 35, 61, 37], [116, 101, 110, 97, 110, 116, 32, 37, 64, 35, 43, 37, 47, 37], [105, 110, 32, 37, 62, 35], [111, 117, 116, 32, 37], [114, 101, 110, 116, 32, 35, 61, 37], [103, 105, 102, 116, 32, 37, 43, 37], [115, 101, 116, 116, 108, 101], [109, 111, 110, 116, 104]]
def formLen (e : Int) : Int := ((formS.getD e.toNat []).length : Int)
def formAt (e k : Int) : Int := (formS.getD e.toNat []).getD k.toNat 0
def swKind (e : Int) : Int := [1, 2, 3, 4, 5, 6, 8, 7].getD e.toNat 0
def swRefusal (e : Int) : Int := [0, 1, 2, 3, 4, 5].getD e.toNat 0
def fp_u (x : Int) : UInt64 := UInt64.ofNat x.toNat
def fp_w (x : Int) : UInt32 := UInt32.ofNat x.toNat
def fp_i2d (x : Int) : Int := ((FP.i2d (Int32.ofInt x)).toNat : Int)
def fp_i2f (x : Int) : Int := ((FP.i2f (Int32.ofInt x)).toNat : Int)
def fp_f2d (x : Int) : Int := ((FP.f2d (fp_w x)).toNat : Int)
def fp_ddiv (x y : Int) : Int := ((FP.ddiv (fp_u x) (fp_u y)).toNat : Int)
def fp_fdiv (x y : Int) : Int := ((FP.fdiv (fp_w x) (fp_w y)).toNat : Int)
abbrev fp_n64 (x : Int) : Prop := fp_u x &&& 0x7fffffffffffffff ≤ 0x7ff0000000000000
abbrev fp_n32 (x : Int) : Prop := fp_w x &&& 0x7fffffff ≤ 0x7f800000
def fp_dcmpl (x y : Int) : Int := (Op.cmpValue (FP.dcmp (fp_u x) (fp_u y)) .l).toInt
def fp_fcmpl (x y : Int) : Int := (Op.cmpValue (FP.fcmp (fp_w x) (fp_w y)) .l).toInt
end
section
/-! ===== values, objects, memory: the system's cells in whole numbers ===== -/
abbrev yV : Type := Int ⊕ (Int ⊕ Value)
abbrev vi (x : Int) : yV := Sum.inl x
abbrev vl (x : Int) : yV := Sum.inr (Sum.inl x)
abbrev vv (v : Value) : yV := Sum.inr (Sum.inr v)
abbrev vr (a : Nat) : yV := Sum.inr (Sum.inr (Value.ref a))
def y_tv : yV → Value
  | .inl x => .int (Int32.ofInt x)
  | .inr (.inl x) => .long (Int64.ofInt x)
  | .inr (.inr v) => v
abbrev y_in (x : Int) : Prop := -2147483648 ≤ x ∧ x ≤ 2147483647
abbrev y_inL (x : Int) : Prop := -9223372036854775808 ≤ x ∧ x ≤ 9223372036854775807
def y_ok : yV → Prop
  | .inl x => y_in x
  | .inr (.inl x) => y_inL x
  | .inr (.inr _) => True
abbrev yO : Type := List Int ⊕ (List Int ⊕ (List Int ⊕ (List UInt64 ⊕ ((Nat × List (Option Nat)) ⊕ (Nat × List yV)))))
abbrev oi (xs : List Int) : yO := .inl xs
abbrev oc (xs : List Int) : yO := .inr (.inl xs)
abbrev ol (xs : List Int) : yO := .inr (.inr (.inl xs))
abbrev od (xs : List UInt64) : yO := .inr (.inr (.inr (.inl xs)))
abbrev oq (t : Nat) (fs : List (Option Nat)) : yO := .inr (.inr (.inr (.inr (.inl (t, fs)))))
abbrev oo (c : Nat) (fs : List yV) : yO := .inr (.inr (.inr (.inr (.inr (c, fs)))))
/-- the run's constants: the classes' numbers, the array classes, the first new address, the addresses of constant things -/
abbrev yG : Type := va_G × (Nat → ClassId) × Nat × (Nat → Nat) × Nat × (Nat → Int)
def y_C (g : yG) : List (ClassId × FieldType) := [(g.2.1 0, .int), (g.2.1 1, .char), (g.2.1 2, .long), (g.2.1 3, .double), (g.2.1 4, .object RX2), (g.2.1 5, .array .int)]
def y_A (g : yG) : Nat → Prop := fun q => g.2.2.1 ≤ q
def y_te (g : yG) : yO → va_E
  | .inl xs => .inl (g.2.1 0, xs.length, .inl (fun j => Int32.ofInt (xs.getD j 0)))
  | .inr (.inl xs) => .inl (g.2.1 1, xs.length, .inl (fun j => Int32.ofInt (xs.getD j 0)))
  | .inr (.inr (.inl xs)) => .inl (g.2.1 2, xs.length, .inr (.inl (fun j => Int64.ofInt (xs.getD j 0))))
  | .inr (.inr (.inr (.inl xs))) => .inl (g.2.1 3, xs.length, .inr (.inr (.inr (.inl (fun j => xs.getD j 0)))))
  | .inr (.inr (.inr (.inr (.inl (t, fs))))) => .inl (g.2.1 t, fs.length, .inr (.inr (.inr (.inr (fun j => fs.getD j none)))))
  | .inr (.inr (.inr (.inr (.inr (c, fs))))) => .inr (c, fs.map y_tv)
def y_okO : yO → Prop
  | .inl xs => (∀ x ∈ xs, y_in x) ∧ xs.length < 2147483648
  | .inr (.inl xs) => (∀ x ∈ xs, 0 ≤ x ∧ x ≤ 65535) ∧ xs.length < 2147483648
  | .inr (.inr (.inl xs)) => (∀ x ∈ xs, y_inL x) ∧ xs.length < 2147483648
  | .inr (.inr (.inr (.inl xs))) => xs.length < 2147483648
  | .inr (.inr (.inr (.inr (.inl (_, fs))))) => fs.length < 2147483648
  | .inr (.inr (.inr (.inr (.inr (_, fs))))) => ∀ v ∈ fs, y_ok v
abbrev yMem : Type := List (Nat × yO)
def y_tw (g : yG) (M : yMem) : va_W := M.map (fun q => (q.1, y_te g q.2))
def y_okM (M : yMem) : Prop := ∀ q ∈ M, y_okO q.2
theorem y_tw_at {g : yG} {M : yMem} {k a : Nat} {o : yO} (h : M[k]? = some (a, o)) : (y_tw g M)[k]? = some (a, y_te g o) := by
  unfold y_tw; rw [List.getElem?_map, h]; rfl
theorem y_tw_set {g : yG} {M : yMem} {k a : Nat} {o : yO} : (y_tw g M).set k (a, y_te g o) = y_tw g (M.set k (a, o)) := by
  unfold y_tw; rw [List.map_set]
theorem y_okM_at {M : yMem} {k a : Nat} {o : yO} (h : y_okM M) (hk : M[k]? = some (a, o)) : y_okO o := h (a, o) (List.mem_of_getElem? hk)
theorem y_okM_set {M : yMem} {k a : Nat} {o : yO} (h : y_okM M) (ho : y_okO o) : y_okM (M.set k (a, o)) := by
  intro q hq
  rcases List.mem_or_eq_of_mem_set hq with h1 | h1
  · exact h q h1
  · rw [h1]; exact ho
theorem y_okM_push {M : yMem} {a : Nat} {o : yO} (h : y_okM M) (ho : y_okO o) : y_okM (M ++ [(a, o)]) := by
  intro q hq
  rcases List.mem_append.mp hq with h1 | h1
  · exact h q h1
  · rw [List.mem_singleton] at h1; rw [h1]; exact ho
/-! ===== whole numbers and the machine's ===== -/
def wr (x : Int) : Int := (x + 2147483648) % 4294967296 - 2147483648
theorem wr_in (x : Int) : y_in (wr x) := by unfold wr; omega
theorem wr_eq {x : Int} (h : y_in x) : wr x = x := by unfold wr; omega
theorem y_toInt {x : Int} (h : y_in x) : (Int32.ofInt x).toInt = x := by
  have hs : ((Int32.size : Nat) : Int) = 4294967296 := rfl
  rw [Int32.toInt_ofInt, Int.bmod_eq_of_le_mul_two]
  · rw [hs]; omega
  · rw [hs]; omega
theorem y_ofInt_wr (x : Int) : Int32.ofInt (wr x) = Int32.ofInt x := by
  apply Int32.toInt_inj.mp
  rw [y_toInt (wr_in x), Int32.toInt_ofInt, Int.bmod_def]
  unfold wr
  show _ = if x % ((2 ^ 32 : Nat) : Int) < (((2 ^ 32 : Nat) : Int) + 1) / 2 then x % ((2 ^ 32 : Nat) : Int) else x % ((2 ^ 32 : Nat) : Int) - ((2 ^ 32 : Nat) : Int)
  rw [show ((2 ^ 32 : Nat) : Int) = 4294967296 from rfl]
  split <;> omega
theorem y_inj {x y : Int} (hx : y_in x) (hy : y_in y) (h : Int32.ofInt x = Int32.ofInt y) : x = y := by
  have := congrArg Int32.toInt h
  rwa [y_toInt hx, y_toInt hy] at this
theorem y_le {x y : Int} (hx : y_in x) (hy : y_in y) : Int32.ofInt x ≤ Int32.ofInt y ↔ x ≤ y := by
  rw [Int32.le_iff_toInt_le, y_toInt hx, y_toInt hy]
theorem y_lt {x y : Int} (hx : y_in x) (hy : y_in y) : Int32.ofInt x < Int32.ofInt y ↔ x < y := by
  rw [Int32.lt_iff_toInt_lt, y_toInt hx, y_toInt hy]
theorem y_eq {x y : Int} (hx : y_in x) (hy : y_in y) : Int32.ofInt x = Int32.ofInt y ↔ x = y := ⟨y_inj hx hy, fun h => by rw [h]⟩
theorem y_clamp {x : Int} (hx : y_in x) : (Int32.ofInt x).toNatClampNeg = x.toNat := by
  show (Int32.ofInt x).toInt.toNat = _
  rw [y_toInt hx]
theorem y_zero : Int32.ofInt 0 = 0 := rfl
def ga (xs : List Int) (i : Int) : Int := xs.getD i.toNat 0
def sa (xs : List Int) (i : Int) (v : Int) : List Int := xs.set i.toNat v
theorem y_getD_in {xs : List Int} (h : ∀ x ∈ xs, y_in x) (j : Nat) : y_in (xs.getD j 0) := by
  rw [List.getD_eq_getElem?_getD]
  cases hj : xs[j]? with
  | none => exact ⟨by decide, by decide⟩
  | some v => exact h v (List.mem_of_getElem? hj)
theorem y_mem_set {α : Type} {P : α → Prop} {xs : List α} {k : Nat} {v : α} (h : ∀ x ∈ xs, P x) (hv : P v) : ∀ x ∈ xs.set k v, P x := by
  intro x hx
  rcases List.mem_or_eq_of_mem_set hx with h1 | h1
  · exact h x h1
  · rw [h1]; exact hv
/-! ===== the words: all good ones of the tables ===== -/
def yB : List Cond := lw_tbl.filter goodWord
theorem yb {w : Cond} (i : Nat) (h : lw_tbl[i]? = some w) (g : goodWord w = true) : w ∈ yB := List.mem_filter.mpr ⟨List.mem_of_getElem? h, g⟩
theorem yb_good {w : Cond} (h : w ∈ yB) : (w.onTables && w.keeps) = true ∨ ∃ ty, w = .arrayClass ty := good_of_word (List.mem_filter.mp h).2
/-- a method: its name, bytes, number of locals, what it returns -/
abbrev yM0 : Type := MethodName × ByteArray × Nat × Option FieldType × List (Nat × Nat × Nat × Nat)
def y_ws (me : yM0) : List Cond := (bif me.2.2.2.2.isEmpty then .code me.1 me.2.1 me.2.2.1 me.2.2.2.1 else .codeWith me.1 me.2.1 me.2.2.1 me.2.2.2.1 me.2.2.2.2) :: yB
def y_rm (d kc ks : Nat) : Room := { frames := 10 + d, cells := kc, slots := ks, locals := 200 + 40 * d }

/-! ===== the judgement ===== -/
abbrev y_cl : List vw_C := [(RX1, TX1, 3), (RX2, TX2, 17), (RX4, TX4, 5), (RX5, TX5, 7), (RX7, TX7, 3), (RX8, TX8, 2), (RX9, TX9, 12), (RX10, TX10, 24)]
/-- what comes out: a value or none, or an exception's class -/
abbrev yOut : Type := Option yV ⊕ String
/-- the strings that exceptions are made with -/
def y_strs : List (String × Nat × String) := [("TenantCensus", 163, "the flat is vacant"), ("TenantCensus", 202, "no such rank"), ("TenantCensus", 240, "no tenant is evicted in these months"), ("TenantCensus", 261, "nobody lives in a flat"), ("TenantCensus", 267, "there are no flats"), ("TenantCensus", 294, "no such character"), ("TenantCensus", 303, "the program buffer is full"), ("TenantCensus", 315, "the text is not a program"), ("TenantCensus", 330, "a command fails"), ("TenantCensus", 333, "every text was a program"), ("TenantCensus", 335, "no command failed"), ("TenantCensus", 340, "no change can be undone"), ("TenantCensus", 345, "no state was saved"), ("TenantCensus", 360, "no such tenant"), ("TenantCensus", 362, "no such flat"), ("TenantCensus", 364, "an argument is out of range"), ("TenantCensus", 366, "not in this state of the house"), ("TenantCensus", 368, "the tenant cannot afford the flat"), ("TenantCensus", 377, "no such floor"), ("TenantCensus", 379, "the best plan gives no flat to the tenant"), ("TenantCensus", 381, "the tenant lives in no flat")]
/-- the enums' constants, by their names -/
def y_kn : List String := ["FLAT", "TENANT", "IN", "OUT", "RENT", "GIFT", "SETTLE", "MONTH"]
def y_rn : List String := ["NOTHING", "NO_TENANT", "NO_FLAT", "OUT_OF_RANGE", "WRONG_STATE", "TOO_DEAR"]
def y_kF : List (String × String × String × List Int32) := [("java/lang/Enum", "ordinal", "I", [0, 1, 2, 3, 4, 5, 6, 7])]
def y_rF : List (String × String × String × List Int32) := [("java/lang/Enum", "ordinal", "I", [0, 1, 2, 3, 4, 5])]
def y_len : List Nat := formS.map List.length
def y_byt : List (List Int32) := formS.map (List.map Int32.ofInt)
/-- the statics and their arrays -/
def y_K1 (g : yG) (A : Nat → Prop) (U : State) (H : Heap) : Prop :=
  va_Z TCn "KINDS" "[LTenantCensus$Kind;" (.ref (g.2.2.2.1 20)) A U H ∧ va_T (.object KNn) (g.2.2.2.1 20) 8 (fun j => .ref (g.2.2.2.1 j)) A U H ∧
  va_Z T1n "$SwitchMap$TenantCensus$Kind" "[I" (.ref (g.2.2.2.1 21)) A U H ∧ va_T .int (g.2.2.2.1 21) 8 (fun j => .int (Int32.ofInt (swKind j))) A U H ∧
  va_Z T1n "$SwitchMap$TenantCensus$Refusal" "[I" (.ref (g.2.2.2.1 22)) A U H ∧ va_T .int (g.2.2.2.1 22) 6 (fun j => .int (Int32.ofInt (swRefusal j))) A U H
/-- the enums and the strings in them -/
def y_K2 (g : yG) (A : Nat → Prop) (U : State) (H : Heap) : Prop :=
  va_En KNn "LTenantCensus$Kind;" y_kn y_kF (fun i => g.2.2.2.1 i) A U H ∧ va_En RFn "LTenantCensus$Refusal;" y_rn y_rF (fun i => g.2.2.2.1 (10 + i)) A U H ∧
  (∀ i, i < 8 → va_OF KNn "form" "Ljava/lang/String;" (.ref (g.2.2.2.1 (30 + i))) (g.2.2.2.1 i) A U H) ∧ vk_S 8 y_len y_byt (fun i => g.2.2.2.1 (30 + i)) (fun i => g.2.2.2.1 (40 + i)) A U H ∧
  va_Z STn "COMPACT_STRINGS" "Z" (.int 1) A U H ∧ va_Zq PRn "SIOOBE_FORMATTER" "Ljava/util/function/BiFunction;" A U H
/-- the law's script -/
def y_K3 (g : yG) (A : Nat → Prop) (U : State) (H : Heap) : Prop := va_X (g.2.2.2.1 50) g.2.2.2.2.1 (fun j => Int32.ofInt (g.2.2.2.2.2 j)) U H ∧ ¬ A (g.2.2.2.1 50) ∧ g.2.2.2.1 50 < H.size
def y_KA (g : yG) (A : Nat → Prop) (U : State) (H : Heap) : Prop := y_K1 g A U H ∧ y_K2 g A U H ∧ y_K3 g A U H
theorem y_KA.moved {g : yG} {A : Nat → Prop} {u U : State} {H : Heap} (hvm : u.vm.Alike U.vm) (h : y_KA g A u H) : y_KA g A U H := by
  obtain ⟨⟨a1, a2, a3, a4, a5, a6⟩, ⟨b1, b2, b3, b4, b5, b6⟩, c1, c2, c3⟩ := h
  exact ⟨⟨va_Z.moved hvm a1, va_T.moved hvm a2, va_Z.moved hvm a3, va_T.moved hvm a4, va_Z.moved hvm a5, va_T.moved hvm a6⟩,
    ⟨va_En.moved hvm b1, va_En.moved hvm b2, fun i hi => va_OF.moved hvm (b3 i hi), vk_S.moved hvm b4, va_Z.moved hvm b5, va_Zq.moved hvm b6⟩, va_X.moved hvm c1, c2, c3⟩
theorem y_KA.kept {g : yG} {A : Nat → Prop} {U : State} {H H1 : Heap} (h : y_KA g A U H) (hs : H.size ≤ H1.size) (hq : ∀ a : Nat, a < H.size → ¬ A a → H1[a]? = H[a]?) : y_KA g A U H1 := by
  obtain ⟨⟨a1, a2, a3, a4, a5, a6⟩, ⟨b1, b2, b3, b4, b5, b6⟩, c1, c2, c3⟩ := h
  exact ⟨⟨a1.kept hq, a2.kept hq, a3.kept hq, a4.kept hq, a5.kept hq, a6.kept hq⟩,
    ⟨b1.kept hq, b2.kept hq, fun i hi => (b3 i hi).kept hq, b4.kept hq, b5.kept hq, b6.kept hq⟩, c1.kept (hq _ c3 c2), c2, Nat.lt_of_lt_of_le c3 hs⟩
/-- the texts of exceptions -/
def y_R (U : State) : Prop := ∀ q ∈ y_strs, ∃ sa : Nat, vk_R q.1 q.2.1 q.2.2 sa U
/-- what is constant: classes, array classes, Throwable's statics, the claim's own constants -/
def y_S (g : yG) (U : State) (H : Heap) : Prop :=
  va_K g.1 y_cl (y_C g) U ∧ vx_Zq Bundle.tN "UNASSIGNED_STACK" Bundle.steD (y_A g) U H ∧ vx_Zq Bundle.tN "SUPPRESSED_SENTINEL" Bundle.listD (y_A g) U H ∧ y_KA g (y_A g) U H ∧ y_R U
theorem y_S.move {g : yG} {s U : State} {H : Heap} (hW : s.WarmedH U.vm) (h : y_S g s s.heap) (hs : s.heap.size ≤ H.size) (hq : ∀ a : Nat, a < s.heap.size → ¬ y_A g a → H[a]? = s.heap[a]?) : y_S g U H :=
  ⟨va_K.moved hW.alike h.1, (vx_Zq.moved hW.alike h.2.1).kept hq, (vx_Zq.moved hW.alike h.2.2.1).kept hq, (y_KA.moved hW.alike h.2.2.2.1).kept hs hq, fun q hq9 => (h.2.2.2.2 q hq9).imp fun sa h9 => vk_R.warm hW h9⟩
/-- the moving part of a state -/
def y_W (g : yG) (M : yMem) (U : State) : Prop := g.2.2.1 ≤ U.heap.size ∧ y_okM M ∧ va_P g.1 y_cl (y_tw g M) U.heap ∧ va_D (y_A g) (y_tw g M)
def y_Pc (g : yG) (as : List yV) (M : yMem) : Array Value → State → Prop := va_Pc (as.map y_tv) (fun U => y_W g M U ∧ y_S g U U.heap)
def y_Qc (g : yG) (Q : yOut → yMem → Prop) : Array Value → State → Outcome → State → Prop := fun _ st oc t =>
  (∃ (r : Option yV) (M : yMem), oc = .returned (r.map y_tv) ∧ (∀ v, r = some v → y_ok v) ∧ Q (.inl r) M ∧ y_W g M t) ∧ va_F (y_A g) st t
def y_XC (g : yG) (Q : yOut → yMem → Prop) : String → State → State → Prop := fun E st t => (∃ M : yMem, Q (.inr E) M ∧ y_W g M t) ∧ va_F (y_A g) st t
/-- a method's contract -/
def yC (g : yG) (me : yM0) (d kc ks : Nat) (as : List yV) (M : yMem) (Q : yOut → yMem → Prop) : Prop :=
  (∀ v ∈ as, y_ok v) → ∀ l : Launch, l.stackTraces = false → vx_Met l me.1 (y_ws me) (y_rm d kc ks) (y_Pc g as M) (y_Qc g Q) (y_XC g Q) kc ks (y_A g)
def y_Cx (g : yG) (me : yM0) (p : Program) (l : Launch) (s : State) (m : MethodId) (args : Array Value) (meth : Method) (c : Code) : Prop :=
  p.tables.exec = Jvm.exec ∧ c.code = me.2.1 ∧ c.maxLocals = me.2.2.1 ∧ meth.sig.returnType = me.2.2.2.1 ∧ meth.locks = false ∧ s.vm.findClass me.1.cls = some m.cls ∧ (∀ w ∈ yB, w.before args s = true) ∧ l.stackTraces = false ∧ c.exceptionTable.toList.map (fun x => (x.startPc, x.endPc, x.handlerPc, x.catchType)) = me.2.2.2.2 ∧ y_S g s s.heap ∧ g.2.2.1 ≤ s.heap.size
/-- from this point of the body the method ends with Q -/
def Y (g : yG) (me : yM0) (d kc ks pc : Nat) (L : List (Nat × yV)) (S : List yV) (M : yMem) (Q : yOut → yMem → Prop) : Prop :=
  ∀ (p : Program) (l : Launch) (e : Env) (s : State) (m : MethodId) (args : Array Value) (below : List Frame) (meth : Method) (c : Code) (H : Heap) (locs : List Loc) (cells slots mc ms : Nat) (ls : Array Slot),
    y_Cx g me p l s m args meth c → cells + kc ≤ mc → slots + ks ≤ ms → y_okM M → (∀ q ∈ L, y_ok q.2) → (∀ v ∈ S, y_ok v) → va_P g.1 y_cl (y_tw g M) H → va_D (y_A g) (y_tw g M) → va_S (y_A g) s.heap H locs → lv_has ls me.2.2.1 (L.map fun q => (q.1, y_tv q.2)) →
    W p l e (y_rm d mc ms) s m args below meth c H locs cells slots (vx_MQ below (y_Qc g Q) (y_XC g Q) args s mc ms (y_A g)) (F0 m pc ls (S.map y_tv))
section YR
variable {g : yG} {me : yM0} {d kc ks pc : Nat} {L : List (Nat × yV)} {S : List yV} {M : yMem} {Q : yOut → yMem → Prop}
theorem y_okc {v : yV} {S : List yV} (hv : y_ok v) (h : ∀ v ∈ S, y_ok v) : ∀ w ∈ v :: S, y_ok w := List.forall_mem_cons.mpr ⟨hv, h⟩
/-! locals -/
def y_get (i : Nat) : List (Nat × yV) → Option yV
  | [] => none
  | (j, w) :: L => bif j == i then some w else y_get i L
theorem y_get_mem {i : Nat} {v : yV} : ∀ {L : List (Nat × yV)}, y_get i L = some v → (i, v) ∈ L
  | (j, w) :: L, h => by
    unfold y_get at h
    cases hj : (j == i) with
    | true =>
      rw [hj] at h
      rw [beq_iff_eq] at hj
      subst hj
      cases h
      exact List.mem_cons_self
    | false =>
      rw [hj] at h
      exact List.mem_cons_of_mem _ (y_get_mem h)
theorem y_lv {ls : Array Slot} {n i : Nat} {v : yV} (h : lv_has ls n (L.map fun q => (q.1, y_tv q.2))) (hg : y_get i L = some v) : ls[i]? = some (.val (y_tv v)) :=
  h.2.2 (i, y_tv v) (List.mem_map.mpr ⟨(i, v), y_get_mem hg, rfl⟩)
theorem y_iload_n {k : Fin 4} {i : Nat} {x : Int} (hdg : decode me.2.1 pc = .ok (.iload_n k, 1)) (hi : (k : Nat) = i) (hl : y_get i L = some (vi x)) (kk : Y g me d kc ks (pc + 1) L (vi x :: S) M Q) : Y g me d kc ks pc L S M Q := by
  intro p l e s m args below meth c H locs cells slots mc ms ls C h1 h2 hM hL hS' hP hD hS hlv
  exact lv_iload_n C.1 C.2.1 hdg hi (y_lv hlv hl) (kk p l e s m args below meth c H locs cells slots mc ms ls C h1 h2 hM hL (y_okc (hL _ (y_get_mem hl)) hS') hP hD hS hlv)
theorem y_iload {i : Nat} {x : Int} (hdg : decode me.2.1 pc = .ok (.iload i, 2)) (hl : y_get i L = some (vi x)) (kk : Y g me d kc ks (pc + 2) L (vi x :: S) M Q) : Y g me d kc ks pc L S M Q := by
  intro p l e s m args below meth c H locs cells slots mc ms ls C h1 h2 hM hL hS' hP hD hS hlv
  exact lv_iload C.1 C.2.1 hdg (y_lv hlv hl) (kk p l e s m args below meth c H locs cells slots mc ms ls C h1 h2 hM hL (y_okc (hL _ (y_get_mem hl)) hS') hP hD hS hlv)
theorem y_aload_n {k : Fin 4} {i : Nat} {x : Nat} (hdg : decode me.2.1 pc = .ok (.aload_n k, 1)) (hi : (k : Nat) = i) (hl : y_get i L = some (vr x)) (kk : Y g me d kc ks (pc + 1) L (vr x :: S) M Q) : Y g me d kc ks pc L S M Q := by
  intro p l e s m args below meth c H locs cells slots mc ms ls C h1 h2 hM hL hS' hP hD hS hlv
  exact lv_aload_n C.1 C.2.1 hdg hi (y_lv hlv hl) (kk p l e s m args below meth c H locs cells slots mc ms ls C h1 h2 hM hL (y_okc (hL _ (y_get_mem hl)) hS') hP hD hS hlv)
theorem y_aload {i : Nat} {x : Nat} (hdg : decode me.2.1 pc = .ok (.aload i, 2)) (hl : y_get i L = some (vr x)) (kk : Y g me d kc ks (pc + 2) L (vr x :: S) M Q) : Y g me d kc ks pc L S M Q := by
  intro p l e s m args below meth c H locs cells slots mc ms ls C h1 h2 hM hL hS' hP hD hS hlv
  exact lv_aload C.1 C.2.1 hdg (y_lv hlv hl) (kk p l e s m args below meth c H locs cells slots mc ms ls C h1 h2 hM hL (y_okc (hL _ (y_get_mem hl)) hS') hP hD hS hlv)
def y_cat : yV → Nat
  | .inl _ => 1
  | .inr (.inl _) => 2
  | .inr (.inr v) => v.category
theorem y_cat_tv (v : yV) : (y_tv v).category = y_cat v := by
  rcases v with x | x | x <;> rfl
/-- the locals behind a store of one slot -/
def y_st (i : Nat) (v : yV) (L : List (Nat × yV)) : List (Nat × yV) := (i, v) :: L.filter (fun q => !(q.1 == i) && !(q.1 + 1 == i && y_cat q.2 == 2))
theorem y_st_map (i : Nat) (v : yV) (L : List (Nat × yV)) : (i, y_tv v) :: (L.map fun q => (q.1, y_tv q.2)).filter (fun q => !(q.1 == i) && !(q.1 + 1 == i && q.2.category == 2)) = (y_st i v L).map fun q => (q.1, y_tv q.2) := by
  unfold y_st
  rw [List.map_cons, List.filter_map]
  refine congrArg _ (congrArg _ ?_)
  apply List.filter_congr
  intro q _
  show _ = (!(q.1 == i) && !(q.1 + 1 == i && y_cat q.2 == 2))
  rw [← y_cat_tv]
  rfl
theorem y_st_ok {i : Nat} {v : yV} {L L' : List (Nat × yV)} (h : ∀ q ∈ L, y_ok q.2) (hv : y_ok v) (he : y_st i v L = L') : ∀ q ∈ L', y_ok q.2 := by
  subst he
  intro q hq
  rcases List.mem_cons.mp hq with h1 | h1
  · rw [h1]; exact hv
  · exact h q (List.mem_filter.mp h1).1
theorem y_istore_n {k : Fin 4} {i : Nat} {x : Int} {L' : List (Nat × yV)} (hdg : decode me.2.1 pc = .ok (.istore_n k, 1)) (hi : (k : Nat) = i) (hn : i < me.2.2.1) (hl : y_st i (vi x) L = L') (kk : Y g me d kc ks (pc + 1) L' S M Q) : Y g me d kc ks pc L (vi x :: S) M Q := by
  intro p l e s m args below meth c H locs cells slots mc ms ls C h1 h2 hM hL hS' hP hD hS hlv
  obtain ⟨hv, hS'⟩ := List.forall_mem_cons.mp hS'
  exact lv_istore_n C.1 C.2.1 hdg hi hlv hn (y_st_map i (vi x) L) (fun ls' hl' => kk p l e s m args below meth c H locs cells slots mc ms ls' C h1 h2 hM (y_st_ok hL hv hl) hS' hP hD hS (by rw [← hl]; exact hl'))
theorem y_istore {i : Nat} {x : Int} {L' : List (Nat × yV)} (hdg : decode me.2.1 pc = .ok (.istore i, 2)) (hn : i < me.2.2.1) (hl : y_st i (vi x) L = L') (kk : Y g me d kc ks (pc + 2) L' S M Q) : Y g me d kc ks pc L (vi x :: S) M Q := by
  intro p l e s m args below meth c H locs cells slots mc ms ls C h1 h2 hM hL hS' hP hD hS hlv
  obtain ⟨hv, hS'⟩ := List.forall_mem_cons.mp hS'
  exact lv_istore C.1 C.2.1 hdg hlv hn (y_st_map i (vi x) L) (fun ls' hl' => kk p l e s m args below meth c H locs cells slots mc ms ls' C h1 h2 hM (y_st_ok hL hv hl) hS' hP hD hS (by rw [← hl]; exact hl'))
theorem y_astore_n {k : Fin 4} {i : Nat} {x : Nat} {L' : List (Nat × yV)} (hdg : decode me.2.1 pc = .ok (.astore_n k, 1)) (hi : (k : Nat) = i) (hn : i < me.2.2.1) (hl : y_st i (vr x) L = L') (kk : Y g me d kc ks (pc + 1) L' S M Q) : Y g me d kc ks pc L (vr x :: S) M Q := by
  intro p l e s m args below meth c H locs cells slots mc ms ls C h1 h2 hM hL hS' hP hD hS hlv
  obtain ⟨hv, hS'⟩ := List.forall_mem_cons.mp hS'
  exact lv_astore_n C.1 C.2.1 hdg hi hlv hn (y_st_map i (vr x) L) (fun ls' hl' => kk p l e s m args below meth c H locs cells slots mc ms ls' C h1 h2 hM (y_st_ok hL hv hl) hS' hP hD hS (by rw [← hl]; exact hl'))
theorem y_astore {i : Nat} {x : Nat} {L' : List (Nat × yV)} (hdg : decode me.2.1 pc = .ok (.astore i, 2)) (hn : i < me.2.2.1) (hl : y_st i (vr x) L = L') (kk : Y g me d kc ks (pc + 2) L' S M Q) : Y g me d kc ks pc L (vr x :: S) M Q := by
  intro p l e s m args below meth c H locs cells slots mc ms ls C h1 h2 hM hL hS' hP hD hS hlv
  obtain ⟨hv, hS'⟩ := List.forall_mem_cons.mp hS'
  exact lv_astore C.1 C.2.1 hdg hlv hn (y_st_map i (vr x) L) (fun ls' hl' => kk p l e s m args below meth c H locs cells slots mc ms ls' C h1 h2 hM (y_st_ok hL hv hl) hS' hP hD hS (by rw [← hl]; exact hl'))
/-! constants -/
theorem y_iconst {n : Int} (hdg : decode me.2.1 pc = .ok (.iconst n, 1)) (hn : y_in n) (kk : Y g me d kc ks (pc + 1) L (vi n :: S) M Q) : Y g me d kc ks pc L S M Q := by
  intro p l e s m args below meth c H locs cells slots mc ms ls C h1 h2 hM hL hS' hP hD hS hlv
  exact lv_iconst C.1 C.2.1 hdg rfl (kk p l e s m args below meth c H locs cells slots mc ms ls C h1 h2 hM hL (y_okc hn hS') hP hD hS hlv)
theorem y_bipush {n : Int} (hdg : decode me.2.1 pc = .ok (.bipush n, 2)) (hv : (Int8.ofInt n).toInt32 = Int32.ofInt n) (hn : y_in n) (kk : Y g me d kc ks (pc + 2) L (vi n :: S) M Q) : Y g me d kc ks pc L S M Q := by
  intro p l e s m args below meth c H locs cells slots mc ms ls C h1 h2 hM hL hS' hP hD hS hlv
  exact lv_bipush C.1 C.2.1 hdg hv (kk p l e s m args below meth c H locs cells slots mc ms ls C h1 h2 hM hL (y_okc hn hS') hP hD hS hlv)
/-! whole numbers -/
theorem y_iadd {a b : Int} (hdg : decode me.2.1 pc = .ok (.iadd, 1)) (kk : Y g me d kc ks (pc + 1) L (vi (wr (a + b)) :: S) M Q) : Y g me d kc ks pc L (vi b :: vi a :: S) M Q := by
  intro p l e s m args below meth c H locs cells slots mc ms ls C h1 h2 hM hL hS' hP hD hS hlv
  obtain ⟨hv, hS'⟩ := List.forall_mem_cons.mp hS'
  obtain ⟨hw, hS'⟩ := List.forall_mem_cons.mp hS'
  refine lv_iadd C.1 C.2.1 hdg ?_
  rw [← Int32.ofInt_add, ← y_ofInt_wr]
  exact (kk p l e s m args below meth c H locs cells slots mc ms ls C h1 h2 hM hL (y_okc (wr_in _) hS') hP hD hS hlv)
theorem y_icmp_ge {a b : Int} {off : Int} {tgt : Nat} (hdg : decode me.2.1 pc = .ok (.if_icmp .ge off, 3)) (ht : (pc : Int) + off = (tgt : Int)) (kt : b ≤ a → Y g me d kc ks tgt L S M Q) (kf : a < b → Y g me d kc ks (pc + 3) L S M Q) : Y g me d kc ks pc L (vi b :: vi a :: S) M Q := by
  intro p l e s m args below meth c H locs cells slots mc ms ls C h1 h2 hM hL hS' hP hD hS hlv
  obtain ⟨hv, hS'⟩ := List.forall_mem_cons.mp hS'
  obtain ⟨hw, hS'⟩ := List.forall_mem_cons.mp hS'
  exact lv_icmp_ge C.1 C.2.1 hdg ht (fun h => kt ((y_le hv hw).mp h) p l e s m args below meth c H locs cells slots mc ms ls C h1 h2 hM hL hS' hP hD hS hlv)
    (fun h => kf (by have := (not_congr (y_le hv hw)).mp h; omega) p l e s m args below meth c H locs cells slots mc ms ls C h1 h2 hM hL hS' hP hD hS hlv)
end YR
end
section
/-! ===== the rows: one an instruction (written by a program of this repository) ===== -/
theorem y_in0 : y_in 0 := ⟨by decide, by decide⟩
theorem y_div {a b : Int} (ha : y_in a) (hb : y_in b) : Int32.ofInt (wr (a.tdiv b)) = Int32.ofInt a / Int32.ofInt b := by
  rw [y_ofInt_wr]
  apply Int32.toInt_inj.mp
  rw [Int32.toInt_ofInt, Int32.toInt_div, y_toInt ha, y_toInt hb]
theorem y_rem {a b : Int} (ha : y_in a) (hb : y_in b) : Int32.ofInt (a.tmod b) = Int32.ofInt a - Int32.ofInt a / Int32.ofInt b * Int32.ofInt b := by
  have h := rem_toInt (Int32.ofInt a) (Int32.ofInt b)
  rw [y_toInt ha, y_toInt hb] at h
  rw [← h, Int32.ofInt_toInt]
theorem y_rem_in {a b : Int} (ha : y_in a) (hb : y_in b) (h0 : b ≠ 0) : y_in (a.tmod b) := by
  have h := rem_toInt (Int32.ofInt a) (Int32.ofInt b)
  rw [y_toInt ha, y_toInt hb] at h
  rw [← h]
  exact ⟨Int32.le_toInt _, by have := Int32.toInt_lt (Int32.ofInt a - Int32.ofInt a / Int32.ofInt b * Int32.ofInt b); omega⟩
def yand (a b : Int) : Int := (Int32.ofInt a &&& Int32.ofInt b).toInt
def yor (a b : Int) : Int := (Int32.ofInt a ||| Int32.ofInt b).toInt
def yxor (a b : Int) : Int := (Int32.ofInt a ^^^ Int32.ofInt b).toInt
def yshl (a b : Int) : Int := (Int32.ofInt a <<< (Int32.ofInt b &&& 31)).toInt
def yshr (a b : Int) : Int := (Int32.ofInt a >>> (Int32.ofInt b &&& 31)).toInt
theorem y_back (z : Int) (x : Int32) (h : z = x.toInt) : x = Int32.ofInt z := by rw [h, Int32.ofInt_toInt]
theorem y_back_in (z : Int) (x : Int32) (h : z = x.toInt) : y_in z := by
  rw [h]; exact ⟨Int32.le_toInt _, by have := Int32.toInt_lt x; omega⟩
theorem y_i2l_eq {a : Int} (h : y_in a) : (Int32.ofInt a).toInt64 = Int64.ofInt a := by
  apply Int64.toInt_inj.mp
  rw [Int32.toInt_toInt64, y_toInt h, Int64.toInt_ofInt, Int.bmod_eq_of_le_mul_two]
  · have hs : ((Int64.size : Nat) : Int) = 18446744073709551616 := rfl
    rw [hs]; omega
  · have hs : ((Int64.size : Nat) : Int) = 18446744073709551616 := rfl
    rw [hs]; omega
theorem y_i2l_in {a : Int} (h : y_in a) : y_inL a := by unfold y_inL; omega
theorem y_toIntL {x : Int} (h : y_inL x) : (Int64.ofInt x).toInt = x := by
  have hs : ((Int64.size : Nat) : Int) = 18446744073709551616 := rfl
  rw [Int64.toInt_ofInt, Int.bmod_eq_of_le_mul_two]
  · rw [hs]; omega
  · rw [hs]; omega
def ycmp (a b : Int) : Int := if b < a then 1 else if a = b then 0 else -1
theorem y_cmp_in (a b : Int) : y_in (ycmp a b) := by unfold ycmp; split; · exact ⟨by decide, by decide⟩
                                                     · split <;> exact ⟨by decide, by decide⟩
theorem y_lcmp_eq {a b : Int} (ha : y_inL a) (hb : y_inL b) : lg_cmp (Int64.ofInt a) (Int64.ofInt b) = Int32.ofInt (ycmp a b) := by
  have h1 : Int64.ofInt b < Int64.ofInt a ↔ b < a := by rw [Int64.lt_iff_toInt_lt, y_toIntL ha, y_toIntL hb]
  have h2 : Int64.ofInt a = Int64.ofInt b ↔ a = b := ⟨fun h => by have := congrArg Int64.toInt h; rwa [y_toIntL ha, y_toIntL hb] at this, fun h => by rw [h]⟩
  unfold lg_cmp ycmp
  show (if Int64.ofInt b < Int64.ofInt a then (1 : Int32) else if Int64.ofInt a = Int64.ofInt b then 0 else -1) = _
  by_cases c1 : b < a
  · rw [if_pos (h1.mpr c1), if_pos c1]; rfl
  · rw [if_neg (fun h => c1 (h1.mp h)), if_neg c1]
    by_cases c2 : a = b
    · rw [if_pos (h2.mpr c2), if_pos c2]; rfl
    · rw [if_neg (fun h => c2 (h2.mp h)), if_neg c2]; rfl
theorem y_i2c_eq (a : Int) : ((Int32.ofInt a).toUInt32 % 65536).toInt32 = Int32.ofInt (a % 65536) := by
  apply Int32.toInt_inj.mp
  rw [y_toInt (by unfold y_in; omega)]
  have h1 : ((Int32.ofInt a).toUInt32 % 65536).toNat = (a % 65536).toNat := by
    rw [UInt32.toNat_mod]
    show (Int32.ofInt a).toUInt32.toNat % 65536 = _
    have h2 : (Int32.ofInt a).toUInt32.toNat = (a % 4294967296).toNat := by
      show (BitVec.ofInt 32 a).toNat = _
      rw [BitVec.toNat_ofInt]
      rfl
    rw [h2]; omega
  have h3 : ((Int32.ofInt a).toUInt32 % 65536).toInt32.toInt = (((Int32.ofInt a).toUInt32 % 65536).toNat : Int) := by
    have hb : ((Int32.ofInt a).toUInt32 % 65536).toNat < 65536 := by rw [h1]; omega
    show ((Int32.ofInt a).toUInt32 % 65536).toBitVec.toInt = _
    rw [BitVec.toInt_eq_toNat_of_lt]
    · rfl
    · show 2 * ((Int32.ofInt a).toUInt32 % 65536).toNat < 4294967296
      omega
  rw [h3, h1]; omega
theorem y_nar_char (a : Int) : (Int32.ofInt a).toUInt32.toUInt16.toUInt32.toInt32 = Int32.ofInt (a % 65536) := by
  rw [← y_i2c_eq]
  refine congrArg UInt32.toInt32 (UInt32.toNat_inj.mp ?_)
  rw [UInt32.toNat_mod, UInt16.toNat_toUInt32, UInt32.toNat_toUInt16]
  rfl
theorem y_i2c_in (a : Int) : y_in (a % 65536) := by unfold y_in; omega
/-- the locals behind a store of two slots -/
def y_st2 (i : Nat) (v : yV) (L : List (Nat × yV)) : List (Nat × yV) := (i, v) :: L.filter (fun q => !(q.1 == i) && (!(q.1 == i + 1) && !(q.1 + 1 == i && y_cat q.2 == 2)))
theorem y_st2_map (i : Nat) (v : yV) (L : List (Nat × yV)) : (i, y_tv v) :: (L.map fun q => (q.1, y_tv q.2)).filter (fun q => !(q.1 == i) && (!(q.1 == i + 1) && !(q.1 + 1 == i && q.2.category == 2))) = (y_st2 i v L).map fun q => (q.1, y_tv q.2) := by
  unfold y_st2
  rw [List.map_cons, List.filter_map]
  refine congrArg _ (congrArg _ ?_)
  apply List.filter_congr
  intro q _
  show _ = (!(q.1 == i) && (!(q.1 == i + 1) && !(q.1 + 1 == i && y_cat q.2 == 2)))
  rw [← y_cat_tv]
  rfl
theorem y_st2_ok {i : Nat} {v : yV} {L L' : List (Nat × yV)} (h : ∀ q ∈ L, y_ok q.2) (hv : y_ok v) (he : y_st2 i v L = L') : ∀ q ∈ L', y_ok q.2 := by
  subst he
  intro q hq
  rcases List.mem_cons.mp hq with h1 | h1
  · rw [h1]; exact hv
  · exact h q (List.mem_filter.mp h1).1
theorem y_idx {i : Int} {n : Nat} (hi : y_in i) (h0 : 0 ≤ i) (hn : i < n) : vp_in (Int32.ofInt i) n := by
  unfold vp_in
  rw [y_clamp hi, show (0 : Int32) = Int32.ofInt 0 from rfl, y_lt hi y_in0]
  omega
theorem y_getD_inC {xs : List Int} (h : ∀ x ∈ xs, 0 ≤ x ∧ x ≤ 65535) (j : Nat) : y_in (xs.getD j 0) := by
  rw [List.getD_eq_getElem?_getD]
  cases hj : xs[j]? with
  | none => exact ⟨by decide, by decide⟩
  | some v => have := h v (List.mem_of_getElem? hj); show y_in v; unfold y_in; omega
theorem y_getD_inL {xs : List Int} (h : ∀ x ∈ xs, y_inL x) (j : Nat) : y_inL (xs.getD j 0) := by
  rw [List.getD_eq_getElem?_getD]
  cases hj : xs[j]? with
  | none => exact ⟨by decide, by decide⟩
  | some v => exact h v (List.mem_of_getElem? hj)
theorem y_len_in {n : Nat} (h : n < 2147483648) : y_in (n : Int) := by unfold y_in; omega
theorem y_getD_set {α : Type} {xs : List α} {k j : Nat} {v d : α} (hk : k < xs.length) : (xs.set k v).getD j d = if j = k then v else xs.getD j d := by
  rw [List.getD_eq_getElem?_getD, List.getD_eq_getElem?_getD]
  by_cases h : j = k
  · subst h; rw [if_pos rfl, List.getElem?_set_self hk]; rfl
  · rw [if_neg h, List.getElem?_set_ne (Ne.symm h)]
theorem y_te_sa {g : yG} {xs : List Int} {i x : Int} (hn : i < xs.length) (h0 : 0 ≤ i) : (Sum.inl (g.2.1 0, xs.length, .inl (upd (fun j => Int32.ofInt (xs.getD j 0)) i.toNat (Int32.ofInt x))) : va_E) = y_te g (oi (sa xs i x)) := by
  show _ = (Sum.inl (g.2.1 0, (xs.set i.toNat x).length, .inl (fun j => Int32.ofInt ((xs.set i.toNat x).getD j 0))) : va_E)
  rw [List.length_set]
  refine congrArg (fun f => (Sum.inl (g.2.1 0, xs.length, .inl f) : va_E)) (funext fun j => ?_)
  rw [y_getD_set (by omega)]
  unfold upd
  split <;> rfl
theorem y_te_sac {g : yG} {xs : List Int} {i x : Int} (hn : i < xs.length) (h0 : 0 ≤ i) (hx : 0 ≤ x ∧ x ≤ 65535) : (Sum.inl (g.2.1 1, xs.length, .inl (upd (fun j => Int32.ofInt (xs.getD j 0)) i.toNat (vp_nar .char (Int32.ofInt x)))) : va_E) = y_te g (oc (sa xs i x)) := by
  have e : vp_nar .char (Int32.ofInt x) = Int32.ofInt x := by
    show (Int32.ofInt x).toUInt32.toUInt16.toUInt32.toInt32 = _
    rw [y_nar_char, Int.emod_eq_of_lt hx.1 (by omega)]
  rw [e]
  show _ = (Sum.inl (g.2.1 1, (xs.set i.toNat x).length, .inl (fun j => Int32.ofInt ((xs.set i.toNat x).getD j 0))) : va_E)
  rw [List.length_set]
  refine congrArg (fun f => (Sum.inl (g.2.1 1, xs.length, .inl f) : va_E)) (funext fun j => ?_)
  rw [y_getD_set (by omega)]
  unfold upd
  split <;> rfl
theorem y_te_sal {g : yG} {xs : List Int} {i x : Int} (hn : i < xs.length) (h0 : 0 ≤ i) : (Sum.inl (g.2.1 2, xs.length, .inr (.inl (vp_updL (fun j => Int64.ofInt (xs.getD j 0)) i.toNat (Int64.ofInt x)))) : va_E) = y_te g (ol (sa xs i x)) := by
  show _ = (Sum.inl (g.2.1 2, (xs.set i.toNat x).length, .inr (.inl (fun j => Int64.ofInt ((xs.set i.toNat x).getD j 0)))) : va_E)
  rw [List.length_set]
  refine congrArg (fun f => (Sum.inl (g.2.1 2, xs.length, .inr (.inl f)) : va_E)) (funext fun j => ?_)
  rw [y_getD_set (by omega)]
  unfold vp_updL
  split <;> rfl
theorem y_te_sad {g : yG} {xs : List UInt64} {i : Int} {x : UInt64} (hn : i < xs.length) (h0 : 0 ≤ i) : (Sum.inl (g.2.1 3, xs.length, .inr (.inr (.inr (.inl (vf_upd (fun j => xs.getD j 0) i.toNat x))))) : va_E) = y_te g (od (xs.set i.toNat x)) := by
  show _ = (Sum.inl (g.2.1 3, (xs.set i.toNat x).length, .inr (.inr (.inr (.inl (fun j => (xs.set i.toNat x).getD j 0))))) : va_E)
  rw [List.length_set]
  refine congrArg (fun f => (Sum.inl (g.2.1 3, xs.length, .inr (.inr (.inr (.inl f)))) : va_E)) (funext fun j => ?_)
  rw [y_getD_set (by omega)]
  unfold vf_upd
  split <;> rfl
theorem y_okO_sa {xs : List Int} {i x : Int} (h : y_okO (oi xs)) (hx : y_in x) : y_okO (oi (sa xs i x)) := ⟨y_mem_set h.1 hx, by unfold sa; rw [List.length_set]; exact h.2⟩
theorem y_okO_sac {xs : List Int} {i x : Int} (h : y_okO (oc xs)) (hx : 0 ≤ x ∧ x ≤ 65535) : y_okO (oc (sa xs i x)) := ⟨y_mem_set h.1 hx, by unfold sa; rw [List.length_set]; exact h.2⟩
theorem y_okO_sal {xs : List Int} {i x : Int} (h : y_okO (ol xs)) (hx : y_inL x) : y_okO (ol (sa xs i x)) := ⟨y_mem_set h.1 hx, by unfold sa; rw [List.length_set]; exact h.2⟩
theorem y_okO_sad {xs : List UInt64} {i : Int} {x : UInt64} (h : y_okO (od xs)) : y_okO (od (xs.set i.toNat x)) := by
  show (xs.set i.toNat x).length < _
  rw [List.length_set]; exact h
theorem y_map_at {fs : List yV} {k : Nat} {v : yV} (h : fs[k]? = some v) : (fs.map y_tv)[k]? = some (y_tv v) := by rw [List.getElem?_map, h]; rfl
/-! the classes' words are among the good ones -/
theorem i_X1 : ∀ w ∈ wsX10, w ∈ yB := by decide +kernel
theorem i_X2 : ∀ w ∈ wsX20, w ∈ yB := by decide +kernel
theorem i_X4 : ∀ w ∈ wsX40, w ∈ yB := by decide +kernel
theorem i_X5 : ∀ w ∈ wsX50, w ∈ yB := by decide +kernel
theorem i_X7 : ∀ w ∈ wsX70, w ∈ yB := by decide +kernel
theorem i_X8 : ∀ w ∈ wsX80, w ∈ yB := by decide +kernel
theorem i_X9 : ∀ w ∈ wsX90, w ∈ yB := by decide +kernel
theorem i_X10 : ∀ w ∈ wsX100, w ∈ yB := by decide +kernel
theorem y_clin {ci N : Nat} {Cn : String} {T : u_T} (h : y_cl[ci]? = some (Cn, T, N)) : ∀ w ∈ u_ws Cn T N, w ∈ yB := by
  match ci, h with
  | 0, h => cases h; exact i_X1
  | 1, h => cases h; exact i_X2
  | 2, h => cases h; exact i_X4
  | 3, h => cases h; exact i_X5
  | 4, h => cases h; exact i_X7
  | 5, h => cases h; exact i_X8
  | 6, h => cases h; exact i_X9
  | 7, h => cases h; exact i_X10
  | n + 8, h => simp [y_cl] at h
theorem y_clty {ci N : Nat} {Cn : String} {T : u_T} (h : y_cl[ci]? = some (Cn, T, N)) : ∃ ty0 : Nat → FieldType, (∀ k, k < N → parseFieldDescriptor (T k).2.2.1 = some (ty0 k)) ∧ ∀ a, a < N → ∀ b, b < N → a ≠ b → (T a).2.1 ≠ (T b).2.1 := by
  match ci, h with
  | 0, h => cases h; exact ⟨tyX1, tyX1_ok, nmX1⟩
  | 1, h => cases h; exact ⟨tyX2, tyX2_ok, nmX2⟩
  | 2, h => cases h; exact ⟨tyX4, tyX4_ok, nmX4⟩
  | 3, h => cases h; exact ⟨tyX5, tyX5_ok, nmX5⟩
  | 4, h => cases h; exact ⟨tyX7, tyX7_ok, nmX7⟩
  | 5, h => cases h; exact ⟨tyX8, tyX8_ok, nmX8⟩
  | 6, h => cases h; exact ⟨tyX9, tyX9_ok, nmX9⟩
  | 7, h => cases h; exact ⟨tyX10, tyX10_ok, nmX10⟩
  | n + 8, h => simp [y_cl] at h
section YR2
variable {g : yG} {me : yM0} {d kc ks pc : Nat} {L : List (Nat × yV)} {S : List yV} {M : yMem} {Q : yOut → yMem → Prop}
theorem y_lload_n {k : Fin 4} {i : Nat} {x : Int} (hdg : decode me.2.1 pc = .ok (.lload_n k, 1)) (hi : (k : Nat) = i) (hl : y_get i L = some (vl x)) (kk : Y g me d kc ks (pc + 1) L (vl x :: S) M Q) : Y g me d kc ks pc L S M Q := by
  intro p l e s m args below meth c H locs cells slots mc ms ls C h1 h2 hM hL hS' hP hD hS hlv
  exact lv_lload_n C.1 C.2.1 hdg hi (y_lv hlv hl) (kk p l e s m args below meth c H locs cells slots mc ms ls C h1 h2 hM hL (y_okc (hL _ (y_get_mem hl)) hS') hP hD hS hlv)
theorem y_lload {i : Nat} {x : Int} (hdg : decode me.2.1 pc = .ok (.lload i, 2)) (hl : y_get i L = some (vl x)) (kk : Y g me d kc ks (pc + 2) L (vl x :: S) M Q) : Y g me d kc ks pc L S M Q := by
  intro p l e s m args below meth c H locs cells slots mc ms ls C h1 h2 hM hL hS' hP hD hS hlv
  exact lv_lload C.1 C.2.1 hdg (y_lv hlv hl) (kk p l e s m args below meth c H locs cells slots mc ms ls C h1 h2 hM hL (y_okc (hL _ (y_get_mem hl)) hS') hP hD hS hlv)
theorem y_fload_n {k : Fin 4} {i : Nat} {y : UInt32} (hdg : decode me.2.1 pc = .ok (.fload_n k, 1)) (hi : (k : Nat) = i) (hl : y_get i L = some (vv (.float y))) (kk : Y g me d kc ks (pc + 1) L (vv (.float y) :: S) M Q) : Y g me d kc ks pc L S M Q := by
  intro p l e s m args below meth c H locs cells slots mc ms ls C h1 h2 hM hL hS' hP hD hS hlv
  exact lv_fload_n C.1 C.2.1 hdg hi (y_lv hlv hl) (kk p l e s m args below meth c H locs cells slots mc ms ls C h1 h2 hM hL (y_okc (hL _ (y_get_mem hl)) hS') hP hD hS hlv)
theorem y_fload {i : Nat} {y : UInt32} (hdg : decode me.2.1 pc = .ok (.fload i, 2)) (hl : y_get i L = some (vv (.float y))) (kk : Y g me d kc ks (pc + 2) L (vv (.float y) :: S) M Q) : Y g me d kc ks pc L S M Q := by
  intro p l e s m args below meth c H locs cells slots mc ms ls C h1 h2 hM hL hS' hP hD hS hlv
  exact lv_fload C.1 C.2.1 hdg (y_lv hlv hl) (kk p l e s m args below meth c H locs cells slots mc ms ls C h1 h2 hM hL (y_okc (hL _ (y_get_mem hl)) hS') hP hD hS hlv)
theorem y_dload_n {k : Fin 4} {i : Nat} {y : UInt64} (hdg : decode me.2.1 pc = .ok (.dload_n k, 1)) (hi : (k : Nat) = i) (hl : y_get i L = some (vv (.double y))) (kk : Y g me d kc ks (pc + 1) L (vv (.double y) :: S) M Q) : Y g me d kc ks pc L S M Q := by
  intro p l e s m args below meth c H locs cells slots mc ms ls C h1 h2 hM hL hS' hP hD hS hlv
  exact lv_dload_n C.1 C.2.1 hdg hi (y_lv hlv hl) (kk p l e s m args below meth c H locs cells slots mc ms ls C h1 h2 hM hL (y_okc (hL _ (y_get_mem hl)) hS') hP hD hS hlv)
theorem y_dload {i : Nat} {y : UInt64} (hdg : decode me.2.1 pc = .ok (.dload i, 2)) (hl : y_get i L = some (vv (.double y))) (kk : Y g me d kc ks (pc + 2) L (vv (.double y) :: S) M Q) : Y g me d kc ks pc L S M Q := by
  intro p l e s m args below meth c H locs cells slots mc ms ls C h1 h2 hM hL hS' hP hD hS hlv
  exact lv_dload C.1 C.2.1 hdg (y_lv hlv hl) (kk p l e s m args below meth c H locs cells slots mc ms ls C h1 h2 hM hL (y_okc (hL _ (y_get_mem hl)) hS') hP hD hS hlv)
theorem y_fstore {i : Nat} {y : UInt32} {L' : List (Nat × yV)} (hdg : decode me.2.1 pc = .ok (.fstore i, 2)) (hn : i < me.2.2.1) (hl : y_st i (vv (.float y)) L = L') (kk : Y g me d kc ks (pc + 2) L' S M Q) : Y g me d kc ks pc L (vv (.float y) :: S) M Q := by
  intro p l e s m args below meth c H locs cells slots mc ms ls C h1 h2 hM hL hS' hP hD hS hlv
  obtain ⟨hv, hS'⟩ := List.forall_mem_cons.mp hS'
  exact lv_fstore C.1 C.2.1 hdg hlv hn (y_st_map i (vv (.float y)) L) (fun ls' hl' => (kk p l e s m args below meth c H locs cells slots mc ms ls' C h1 h2 hM (y_st_ok hL hv hl) hS' hP hD hS (by rw [← hl]; exact hl')))
theorem y_lstore_n {k : Fin 4} {i : Nat} {x : Int} {L' : List (Nat × yV)} (hdg : decode me.2.1 pc = .ok (.lstore_n k, 1)) (hi : (k : Nat) = i) (hn : i + 1 < me.2.2.1) (hl : y_st2 i (vl x) L = L') (kk : Y g me d kc ks (pc + 1) L' S M Q) : Y g me d kc ks pc L (vl x :: S) M Q := by
  intro p l e s m args below meth c H locs cells slots mc ms ls C h1 h2 hM hL hS' hP hD hS hlv
  obtain ⟨hv, hS'⟩ := List.forall_mem_cons.mp hS'
  exact lv_lstore_n C.1 C.2.1 hdg hi hlv hn (y_st2_map i (vl x) L) (fun ls' hl' => (kk p l e s m args below meth c H locs cells slots mc ms ls' C h1 h2 hM (y_st2_ok hL hv hl) hS' hP hD hS (by rw [← hl]; exact hl')))
theorem y_lstore {i : Nat} {x : Int} {L' : List (Nat × yV)} (hdg : decode me.2.1 pc = .ok (.lstore i, 2)) (hn : i + 1 < me.2.2.1) (hl : y_st2 i (vl x) L = L') (kk : Y g me d kc ks (pc + 2) L' S M Q) : Y g me d kc ks pc L (vl x :: S) M Q := by
  intro p l e s m args below meth c H locs cells slots mc ms ls C h1 h2 hM hL hS' hP hD hS hlv
  obtain ⟨hv, hS'⟩ := List.forall_mem_cons.mp hS'
  exact lv_lstore C.1 C.2.1 hdg hlv hn (y_st2_map i (vl x) L) (fun ls' hl' => (kk p l e s m args below meth c H locs cells slots mc ms ls' C h1 h2 hM (y_st2_ok hL hv hl) hS' hP hD hS (by rw [← hl]; exact hl')))
theorem y_dstore {i : Nat} {y : UInt64} {L' : List (Nat × yV)} (hdg : decode me.2.1 pc = .ok (.dstore i, 2)) (hn : i + 1 < me.2.2.1) (hl : y_st2 i (vv (.double y)) L = L') (kk : Y g me d kc ks (pc + 2) L' S M Q) : Y g me d kc ks pc L (vv (.double y) :: S) M Q := by
  intro p l e s m args below meth c H locs cells slots mc ms ls C h1 h2 hM hL hS' hP hD hS hlv
  obtain ⟨hv, hS'⟩ := List.forall_mem_cons.mp hS'
  exact lv_dstore C.1 C.2.1 hdg hlv hn (y_st2_map i (vv (.double y)) L) (fun ls' hl' => (kk p l e s m args below meth c H locs cells slots mc ms ls' C h1 h2 hM (y_st2_ok hL hv hl) hS' hP hD hS (by rw [← hl]; exact hl')))
theorem y_iinc {i : Nat} {n x : Int} {L' : List (Nat × yV)} (hdg : decode me.2.1 pc = .ok (.iinc i n, 3)) (hg : y_get i L = some (vi x)) (hn : i < me.2.2.1) (hl : y_st i (vi (wr (x + n))) L = L') (kk : Y g me d kc ks (pc + 3) L' S M Q) : Y g me d kc ks pc L S M Q := by
  intro p l e s m args below meth c H locs cells slots mc ms ls C h1 h2 hM hL hS' hP hD hS hlv
  obtain ⟨k, hk⟩ := List.getElem?_of_mem (List.mem_map.mpr ⟨(i, vi x), y_get_mem hg, rfl⟩ : (i, y_tv (vi x)) ∈ L.map fun q => (q.1, y_tv q.2))
  exact lv_iinc (k := k) C.1 C.2.1 hdg hlv hk (by rw [← Int32.ofInt_add, ← y_ofInt_wr]) hn (y_st_map i (vi (wr (x + n))) L) (fun ls' hl' => (kk p l e s m args below meth c H locs cells slots mc ms ls' C h1 h2 hM (y_st_ok hL (show y_ok (vi _) from wr_in _) hl) hS' hP hD hS (by rw [← hl]; exact hl')))
theorem y_sipush {n : Int} (hdg : decode me.2.1 pc = .ok (.sipush n, 3)) (hv : (Int16.ofInt n).toInt32 = Int32.ofInt n) (hn : y_in n) (kk : Y g me d kc ks (pc + 3) L (vi n :: S) M Q) : Y g me d kc ks pc L S M Q := by
  intro p l e s m args below meth c H locs cells slots mc ms ls C h1 h2 hM hL hS' hP hD hS hlv
  exact lv_sipush C.1 C.2.1 hdg hv (kk p l e s m args below meth c H locs cells slots mc ms ls C h1 h2 hM hL (y_okc hn hS') hP hD hS hlv)
theorem y_lconst {n : Fin 2} {x : Int} (hdg : decode me.2.1 pc = .ok (.lconst n, 1)) (hx : Int64.ofNat (n : Nat) = Int64.ofInt x) (hn : y_inL x) (kk : Y g me d kc ks (pc + 1) L (vl x :: S) M Q) : Y g me d kc ks pc L S M Q := by
  intro p l e s m args below meth c H locs cells slots mc ms ls C h1 h2 hM hL hS' hP hD hS hlv
  exact lv_lconst C.1 C.2.1 hdg hx (kk p l e s m args below meth c H locs cells slots mc ms ls C h1 h2 hM hL (y_okc hn hS') hP hD hS hlv)
theorem y_isub {a b : Int} (hdg : decode me.2.1 pc = .ok (.isub, 1)) (kk : Y g me d kc ks (pc + 1) L (vi (wr (a - b)) :: S) M Q) : Y g me d kc ks pc L (vi b :: vi a :: S) M Q := by
  intro p l e s m args below meth c H locs cells slots mc ms ls C h1 h2 hM hL hS' hP hD hS hlv
  obtain ⟨hv, hS'⟩ := List.forall_mem_cons.mp hS'
  obtain ⟨hw, hS'⟩ := List.forall_mem_cons.mp hS'
  refine lv_isub C.1 C.2.1 hdg ?_
  rw [← Int32.ofInt_sub, ← y_ofInt_wr]
  exact (kk p l e s m args below meth c H locs cells slots mc ms ls C h1 h2 hM hL (y_okc (wr_in _) hS') hP hD hS hlv)
theorem y_imul {a b : Int} (hdg : decode me.2.1 pc = .ok (.imul, 1)) (kk : Y g me d kc ks (pc + 1) L (vi (wr (a * b)) :: S) M Q) : Y g me d kc ks pc L (vi b :: vi a :: S) M Q := by
  intro p l e s m args below meth c H locs cells slots mc ms ls C h1 h2 hM hL hS' hP hD hS hlv
  obtain ⟨hv, hS'⟩ := List.forall_mem_cons.mp hS'
  obtain ⟨hw, hS'⟩ := List.forall_mem_cons.mp hS'
  refine lv_imul C.1 C.2.1 hdg ?_
  rw [← Int32.ofInt_mul, ← y_ofInt_wr]
  exact (kk p l e s m args below meth c H locs cells slots mc ms ls C h1 h2 hM hL (y_okc (wr_in _) hS') hP hD hS hlv)
theorem y_ineg {a : Int} (hdg : decode me.2.1 pc = .ok (.ineg, 1)) (kk : Y g me d kc ks (pc + 1) L (vi (wr (-a)) :: S) M Q) : Y g me d kc ks pc L (vi a :: S) M Q := by
  intro p l e s m args below meth c H locs cells slots mc ms ls C h1 h2 hM hL hS' hP hD hS hlv
  obtain ⟨hv, hS'⟩ := List.forall_mem_cons.mp hS'
  refine lv_ineg C.1 C.2.1 hdg ?_
  rw [← Int32.ofInt_neg, ← y_ofInt_wr]
  exact (kk p l e s m args below meth c H locs cells slots mc ms ls C h1 h2 hM hL (y_okc (wr_in _) hS') hP hD hS hlv)
theorem y_idiv {a b : Int} (hdg : decode me.2.1 pc = .ok (.idiv, 1)) (hb0 : b ≠ 0) (kk : Y g me d kc ks (pc + 1) L (vi (wr (a.tdiv b)) :: S) M Q) : Y g me d kc ks pc L (vi b :: vi a :: S) M Q := by
  intro p l e s m args below meth c H locs cells slots mc ms ls C h1 h2 hM hL hS' hP hD hS hlv
  obtain ⟨hv, hS'⟩ := List.forall_mem_cons.mp hS'
  obtain ⟨hw, hS'⟩ := List.forall_mem_cons.mp hS'
  refine lv_idiv C.1 C.2.1 hdg (fun h => hb0 (y_inj hv y_in0 h)) ?_
  rw [← y_div hw hv]
  exact (kk p l e s m args below meth c H locs cells slots mc ms ls C h1 h2 hM hL (y_okc (wr_in _) hS') hP hD hS hlv)
theorem y_irem {a b : Int} (hdg : decode me.2.1 pc = .ok (.irem, 1)) (hb0 : b ≠ 0) (kk : Y g me d kc ks (pc + 1) L (vi (a.tmod b) :: S) M Q) : Y g me d kc ks pc L (vi b :: vi a :: S) M Q := by
  intro p l e s m args below meth c H locs cells slots mc ms ls C h1 h2 hM hL hS' hP hD hS hlv
  obtain ⟨hv, hS'⟩ := List.forall_mem_cons.mp hS'
  obtain ⟨hw, hS'⟩ := List.forall_mem_cons.mp hS'
  refine lv_irem C.1 C.2.1 hdg (fun h => hb0 (y_inj hv y_in0 h)) ?_
  rw [← y_rem hw hv]
  exact (kk p l e s m args below meth c H locs cells slots mc ms ls C h1 h2 hM hL (y_okc (y_rem_in hw hv hb0) hS') hP hD hS hlv)
theorem y_iand {a b : Int} (hdg : decode me.2.1 pc = .ok (.iand, 1)) (kk : Y g me d kc ks (pc + 1) L (vi (yand a b) :: S) M Q) : Y g me d kc ks pc L (vi b :: vi a :: S) M Q := by
  intro p l e s m args below meth c H locs cells slots mc ms ls C h1 h2 hM hL hS' hP hD hS hlv
  obtain ⟨hv, hS'⟩ := List.forall_mem_cons.mp hS'
  obtain ⟨hw, hS'⟩ := List.forall_mem_cons.mp hS'
  refine lv_iand C.1 C.2.1 hdg ?_
  rw [y_back (yand a b) _ rfl]
  exact (kk p l e s m args below meth c H locs cells slots mc ms ls C h1 h2 hM hL (y_okc (y_back_in _ _ rfl) hS') hP hD hS hlv)
theorem y_ior {a b : Int} (hdg : decode me.2.1 pc = .ok (.ior, 1)) (kk : Y g me d kc ks (pc + 1) L (vi (yor a b) :: S) M Q) : Y g me d kc ks pc L (vi b :: vi a :: S) M Q := by
  intro p l e s m args below meth c H locs cells slots mc ms ls C h1 h2 hM hL hS' hP hD hS hlv
  obtain ⟨hv, hS'⟩ := List.forall_mem_cons.mp hS'
  obtain ⟨hw, hS'⟩ := List.forall_mem_cons.mp hS'
  refine lv_ior C.1 C.2.1 hdg ?_
  rw [y_back (yor a b) _ rfl]
  exact (kk p l e s m args below meth c H locs cells slots mc ms ls C h1 h2 hM hL (y_okc (y_back_in _ _ rfl) hS') hP hD hS hlv)
theorem y_ixor {a b : Int} (hdg : decode me.2.1 pc = .ok (.ixor, 1)) (kk : Y g me d kc ks (pc + 1) L (vi (yxor a b) :: S) M Q) : Y g me d kc ks pc L (vi b :: vi a :: S) M Q := by
  intro p l e s m args below meth c H locs cells slots mc ms ls C h1 h2 hM hL hS' hP hD hS hlv
  obtain ⟨hv, hS'⟩ := List.forall_mem_cons.mp hS'
  obtain ⟨hw, hS'⟩ := List.forall_mem_cons.mp hS'
  refine lv_ixor C.1 C.2.1 hdg ?_
  rw [y_back (yxor a b) _ rfl]
  exact (kk p l e s m args below meth c H locs cells slots mc ms ls C h1 h2 hM hL (y_okc (y_back_in _ _ rfl) hS') hP hD hS hlv)
theorem y_ishl {a b : Int} (hdg : decode me.2.1 pc = .ok (.ishl, 1)) (kk : Y g me d kc ks (pc + 1) L (vi (yshl a b) :: S) M Q) : Y g me d kc ks pc L (vi b :: vi a :: S) M Q := by
  intro p l e s m args below meth c H locs cells slots mc ms ls C h1 h2 hM hL hS' hP hD hS hlv
  obtain ⟨hv, hS'⟩ := List.forall_mem_cons.mp hS'
  obtain ⟨hw, hS'⟩ := List.forall_mem_cons.mp hS'
  refine lv_ishl C.1 C.2.1 hdg ?_
  rw [y_back (yshl a b) _ rfl]
  exact (kk p l e s m args below meth c H locs cells slots mc ms ls C h1 h2 hM hL (y_okc (y_back_in _ _ rfl) hS') hP hD hS hlv)
theorem y_ishr {a b : Int} (hdg : decode me.2.1 pc = .ok (.ishr, 1)) (kk : Y g me d kc ks (pc + 1) L (vi (yshr a b) :: S) M Q) : Y g me d kc ks pc L (vi b :: vi a :: S) M Q := by
  intro p l e s m args below meth c H locs cells slots mc ms ls C h1 h2 hM hL hS' hP hD hS hlv
  obtain ⟨hv, hS'⟩ := List.forall_mem_cons.mp hS'
  obtain ⟨hw, hS'⟩ := List.forall_mem_cons.mp hS'
  refine lv_ishr C.1 C.2.1 hdg ?_
  rw [y_back (yshr a b) _ rfl]
  exact (kk p l e s m args below meth c H locs cells slots mc ms ls C h1 h2 hM hL (y_okc (y_back_in _ _ rfl) hS') hP hD hS hlv)
theorem y_icmp_eq {a b : Int} {off : Int} {tgt : Nat} (hdg : decode me.2.1 pc = .ok (.if_icmp .eq off, 3)) (ht : (pc : Int) + off = (tgt : Int)) (kt : a = b → Y g me d kc ks tgt L S M Q) (kf : a ≠ b → Y g me d kc ks (pc + 3) L S M Q) : Y g me d kc ks pc L (vi b :: vi a :: S) M Q := by
  intro p l e s m args below meth c H locs cells slots mc ms ls C h1 h2 hM hL hS' hP hD hS hlv
  obtain ⟨hv, hS'⟩ := List.forall_mem_cons.mp hS'
  obtain ⟨hw, hS'⟩ := List.forall_mem_cons.mp hS'
  exact lv_icmp_eq C.1 C.2.1 hdg ht (fun h => kt ((y_eq hw hv).mp h) p l e s m args below meth c H locs cells slots mc ms ls C h1 h2 hM hL hS' hP hD hS hlv) (fun h => kf ((not_congr (y_eq hw hv)).mp h) p l e s m args below meth c H locs cells slots mc ms ls C h1 h2 hM hL hS' hP hD hS hlv)
theorem y_icmp_ne {a b : Int} {off : Int} {tgt : Nat} (hdg : decode me.2.1 pc = .ok (.if_icmp .ne off, 3)) (ht : (pc : Int) + off = (tgt : Int)) (kt : a ≠ b → Y g me d kc ks tgt L S M Q) (kf : a = b → Y g me d kc ks (pc + 3) L S M Q) : Y g me d kc ks pc L (vi b :: vi a :: S) M Q := by
  intro p l e s m args below meth c H locs cells slots mc ms ls C h1 h2 hM hL hS' hP hD hS hlv
  obtain ⟨hv, hS'⟩ := List.forall_mem_cons.mp hS'
  obtain ⟨hw, hS'⟩ := List.forall_mem_cons.mp hS'
  exact lv_icmp_ne C.1 C.2.1 hdg ht (fun h => kt ((not_congr (y_eq hw hv)).mp h) p l e s m args below meth c H locs cells slots mc ms ls C h1 h2 hM hL hS' hP hD hS hlv) (fun h => kf ((y_eq hw hv).mp h) p l e s m args below meth c H locs cells slots mc ms ls C h1 h2 hM hL hS' hP hD hS hlv)
theorem y_icmp_lt {a b : Int} {off : Int} {tgt : Nat} (hdg : decode me.2.1 pc = .ok (.if_icmp .lt off, 3)) (ht : (pc : Int) + off = (tgt : Int)) (kt : a < b → Y g me d kc ks tgt L S M Q) (kf : b ≤ a → Y g me d kc ks (pc + 3) L S M Q) : Y g me d kc ks pc L (vi b :: vi a :: S) M Q := by
  intro p l e s m args below meth c H locs cells slots mc ms ls C h1 h2 hM hL hS' hP hD hS hlv
  obtain ⟨hv, hS'⟩ := List.forall_mem_cons.mp hS'
  obtain ⟨hw, hS'⟩ := List.forall_mem_cons.mp hS'
  exact lv_icmp_lt C.1 C.2.1 hdg ht (fun h => kt ((y_lt hw hv).mp h) p l e s m args below meth c H locs cells slots mc ms ls C h1 h2 hM hL hS' hP hD hS hlv) (fun h => kf (by have := (not_congr (y_lt hw hv)).mp h; omega) p l e s m args below meth c H locs cells slots mc ms ls C h1 h2 hM hL hS' hP hD hS hlv)
theorem y_icmp_gt {a b : Int} {off : Int} {tgt : Nat} (hdg : decode me.2.1 pc = .ok (.if_icmp .gt off, 3)) (ht : (pc : Int) + off = (tgt : Int)) (kt : b < a → Y g me d kc ks tgt L S M Q) (kf : a ≤ b → Y g me d kc ks (pc + 3) L S M Q) : Y g me d kc ks pc L (vi b :: vi a :: S) M Q := by
  intro p l e s m args below meth c H locs cells slots mc ms ls C h1 h2 hM hL hS' hP hD hS hlv
  obtain ⟨hv, hS'⟩ := List.forall_mem_cons.mp hS'
  obtain ⟨hw, hS'⟩ := List.forall_mem_cons.mp hS'
  exact lv_icmp_gt C.1 C.2.1 hdg ht (fun h => kt ((y_lt hv hw).mp h) p l e s m args below meth c H locs cells slots mc ms ls C h1 h2 hM hL hS' hP hD hS hlv) (fun h => kf (by have := (not_congr (y_lt hv hw)).mp h; omega) p l e s m args below meth c H locs cells slots mc ms ls C h1 h2 hM hL hS' hP hD hS hlv)
theorem y_icmp_le {a b : Int} {off : Int} {tgt : Nat} (hdg : decode me.2.1 pc = .ok (.if_icmp .le off, 3)) (ht : (pc : Int) + off = (tgt : Int)) (kt : a ≤ b → Y g me d kc ks tgt L S M Q) (kf : b < a → Y g me d kc ks (pc + 3) L S M Q) : Y g me d kc ks pc L (vi b :: vi a :: S) M Q := by
  intro p l e s m args below meth c H locs cells slots mc ms ls C h1 h2 hM hL hS' hP hD hS hlv
  obtain ⟨hv, hS'⟩ := List.forall_mem_cons.mp hS'
  obtain ⟨hw, hS'⟩ := List.forall_mem_cons.mp hS'
  exact lv_icmp_le C.1 C.2.1 hdg ht (fun h => kt ((y_le hw hv).mp h) p l e s m args below meth c H locs cells slots mc ms ls C h1 h2 hM hL hS' hP hD hS hlv) (fun h => kf (by have := (not_congr (y_le hw hv)).mp h; omega) p l e s m args below meth c H locs cells slots mc ms ls C h1 h2 hM hL hS' hP hD hS hlv)
theorem y_if_eq {a : Int} {off : Int} {tgt : Nat} (hdg : decode me.2.1 pc = .ok (.ifCond .eq off, 3)) (ht : (pc : Int) + off = (tgt : Int)) (kt : a = 0 → Y g me d kc ks tgt L S M Q) (kf : a ≠ 0 → Y g me d kc ks (pc + 3) L S M Q) : Y g me d kc ks pc L (vi a :: S) M Q := by
  intro p l e s m args below meth c H locs cells slots mc ms ls C h1 h2 hM hL hS' hP hD hS hlv
  obtain ⟨hv, hS'⟩ := List.forall_mem_cons.mp hS'
  exact lv_if_eq C.1 C.2.1 hdg ht (fun h => kt ((y_eq hv y_in0).mp h) p l e s m args below meth c H locs cells slots mc ms ls C h1 h2 hM hL hS' hP hD hS hlv) (fun h => kf ((not_congr (y_eq hv y_in0)).mp h) p l e s m args below meth c H locs cells slots mc ms ls C h1 h2 hM hL hS' hP hD hS hlv)
theorem y_if_ne {a : Int} {off : Int} {tgt : Nat} (hdg : decode me.2.1 pc = .ok (.ifCond .ne off, 3)) (ht : (pc : Int) + off = (tgt : Int)) (kt : a ≠ 0 → Y g me d kc ks tgt L S M Q) (kf : a = 0 → Y g me d kc ks (pc + 3) L S M Q) : Y g me d kc ks pc L (vi a :: S) M Q := by
  intro p l e s m args below meth c H locs cells slots mc ms ls C h1 h2 hM hL hS' hP hD hS hlv
  obtain ⟨hv, hS'⟩ := List.forall_mem_cons.mp hS'
  exact lv_if_ne C.1 C.2.1 hdg ht (fun h => kt ((not_congr (y_eq hv y_in0)).mp h) p l e s m args below meth c H locs cells slots mc ms ls C h1 h2 hM hL hS' hP hD hS hlv) (fun h => kf ((y_eq hv y_in0).mp h) p l e s m args below meth c H locs cells slots mc ms ls C h1 h2 hM hL hS' hP hD hS hlv)
theorem y_if_lt {a : Int} {off : Int} {tgt : Nat} (hdg : decode me.2.1 pc = .ok (.ifCond .lt off, 3)) (ht : (pc : Int) + off = (tgt : Int)) (kt : a < 0 → Y g me d kc ks tgt L S M Q) (kf : 0 ≤ a → Y g me d kc ks (pc + 3) L S M Q) : Y g me d kc ks pc L (vi a :: S) M Q := by
  intro p l e s m args below meth c H locs cells slots mc ms ls C h1 h2 hM hL hS' hP hD hS hlv
  obtain ⟨hv, hS'⟩ := List.forall_mem_cons.mp hS'
  exact lv_if_lt C.1 C.2.1 hdg ht (fun h => kt ((y_lt hv y_in0).mp h) p l e s m args below meth c H locs cells slots mc ms ls C h1 h2 hM hL hS' hP hD hS hlv) (fun h => kf (by have := (not_congr (y_lt hv y_in0)).mp h; omega) p l e s m args below meth c H locs cells slots mc ms ls C h1 h2 hM hL hS' hP hD hS hlv)
theorem y_if_ge {a : Int} {off : Int} {tgt : Nat} (hdg : decode me.2.1 pc = .ok (.ifCond .ge off, 3)) (ht : (pc : Int) + off = (tgt : Int)) (kt : 0 ≤ a → Y g me d kc ks tgt L S M Q) (kf : a < 0 → Y g me d kc ks (pc + 3) L S M Q) : Y g me d kc ks pc L (vi a :: S) M Q := by
  intro p l e s m args below meth c H locs cells slots mc ms ls C h1 h2 hM hL hS' hP hD hS hlv
  obtain ⟨hv, hS'⟩ := List.forall_mem_cons.mp hS'
  exact lv_if_ge C.1 C.2.1 hdg ht (fun h => kt ((y_le y_in0 hv).mp h) p l e s m args below meth c H locs cells slots mc ms ls C h1 h2 hM hL hS' hP hD hS hlv) (fun h => kf (by have := (not_congr (y_le y_in0 hv)).mp h; omega) p l e s m args below meth c H locs cells slots mc ms ls C h1 h2 hM hL hS' hP hD hS hlv)
theorem y_if_gt {a : Int} {off : Int} {tgt : Nat} (hdg : decode me.2.1 pc = .ok (.ifCond .gt off, 3)) (ht : (pc : Int) + off = (tgt : Int)) (kt : 0 < a → Y g me d kc ks tgt L S M Q) (kf : a ≤ 0 → Y g me d kc ks (pc + 3) L S M Q) : Y g me d kc ks pc L (vi a :: S) M Q := by
  intro p l e s m args below meth c H locs cells slots mc ms ls C h1 h2 hM hL hS' hP hD hS hlv
  obtain ⟨hv, hS'⟩ := List.forall_mem_cons.mp hS'
  exact lv_if_gt C.1 C.2.1 hdg ht (fun h => kt ((y_lt y_in0 hv).mp h) p l e s m args below meth c H locs cells slots mc ms ls C h1 h2 hM hL hS' hP hD hS hlv) (fun h => kf (by have := (not_congr (y_lt y_in0 hv)).mp h; omega) p l e s m args below meth c H locs cells slots mc ms ls C h1 h2 hM hL hS' hP hD hS hlv)
theorem y_if_le {a : Int} {off : Int} {tgt : Nat} (hdg : decode me.2.1 pc = .ok (.ifCond .le off, 3)) (ht : (pc : Int) + off = (tgt : Int)) (kt : a ≤ 0 → Y g me d kc ks tgt L S M Q) (kf : 0 < a → Y g me d kc ks (pc + 3) L S M Q) : Y g me d kc ks pc L (vi a :: S) M Q := by
  intro p l e s m args below meth c H locs cells slots mc ms ls C h1 h2 hM hL hS' hP hD hS hlv
  obtain ⟨hv, hS'⟩ := List.forall_mem_cons.mp hS'
  exact lv_if_le C.1 C.2.1 hdg ht (fun h => kt ((y_le hv y_in0).mp h) p l e s m args below meth c H locs cells slots mc ms ls C h1 h2 hM hL hS' hP hD hS hlv) (fun h => kf (by have := (not_congr (y_le hv y_in0)).mp h; omega) p l e s m args below meth c H locs cells slots mc ms ls C h1 h2 hM hL hS' hP hD hS hlv)
theorem y_goto {off : Int} {tgt : Nat} (hdg : decode me.2.1 pc = .ok (.goto off, 3)) (ht : (pc : Int) + off = (tgt : Int)) (kk : Y g me d kc ks tgt L S M Q) : Y g me d kc ks pc L S M Q := by
  intro p l e s m args below meth c H locs cells slots mc ms ls C h1 h2 hM hL hS' hP hD hS hlv
  exact lv_goto C.1 C.2.1 hdg ht (kk p l e s m args below meth c H locs cells slots mc ms ls C h1 h2 hM hL hS' hP hD hS hlv)
theorem y_i2l {a : Int} (hdg : decode me.2.1 pc = .ok (.i2l, 1)) (kk : Y g me d kc ks (pc + 1) L (vl a :: S) M Q) : Y g me d kc ks pc L (vi a :: S) M Q := by
  intro p l e s m args below meth c H locs cells slots mc ms ls C h1 h2 hM hL hS' hP hD hS hlv
  obtain ⟨hv, hS'⟩ := List.forall_mem_cons.mp hS'
  exact lv_i2l C.1 C.2.1 hdg (y_i2l_eq hv) (kk p l e s m args below meth c H locs cells slots mc ms ls C h1 h2 hM hL (y_okc (y_i2l_in hv) hS') hP hD hS hlv)
theorem y_i2c {a : Int} (hdg : decode me.2.1 pc = .ok (.i2c, 1)) (kk : Y g me d kc ks (pc + 1) L (vi (a % 65536) :: S) M Q) : Y g me d kc ks pc L (vi a :: S) M Q := by
  intro p l e s m args below meth c H locs cells slots mc ms ls C h1 h2 hM hL hS' hP hD hS hlv
  obtain ⟨hv, hS'⟩ := List.forall_mem_cons.mp hS'
  exact lv_i2c C.1 C.2.1 hdg (y_i2c_eq a) (kk p l e s m args below meth c H locs cells slots mc ms ls C h1 h2 hM hL (y_okc (y_i2c_in a) hS') hP hD hS hlv)
theorem y_i2f {a : Int} (hdg : decode me.2.1 pc = .ok (.i2f, 1)) (kk : Y g me d kc ks (pc + 1) L (vv (.float (FP.i2f (Int32.ofInt a))) :: S) M Q) : Y g me d kc ks pc L (vi a :: S) M Q := by
  intro p l e s m args below meth c H locs cells slots mc ms ls C h1 h2 hM hL hS' hP hD hS hlv
  obtain ⟨hv, hS'⟩ := List.forall_mem_cons.mp hS'
  exact lv_i2f C.1 C.2.1 hdg (kk p l e s m args below meth c H locs cells slots mc ms ls C h1 h2 hM hL (y_okc trivial hS') hP hD hS hlv)
theorem y_i2d {a : Int} (hdg : decode me.2.1 pc = .ok (.i2d, 1)) (kk : Y g me d kc ks (pc + 1) L (vv (.double (FP.i2d (Int32.ofInt a))) :: S) M Q) : Y g me d kc ks pc L (vi a :: S) M Q := by
  intro p l e s m args below meth c H locs cells slots mc ms ls C h1 h2 hM hL hS' hP hD hS hlv
  obtain ⟨hv, hS'⟩ := List.forall_mem_cons.mp hS'
  exact lv_i2d C.1 C.2.1 hdg (kk p l e s m args below meth c H locs cells slots mc ms ls C h1 h2 hM hL (y_okc trivial hS') hP hD hS hlv)
theorem y_fdiv {x y : UInt32} (hdg : decode me.2.1 pc = .ok (.fdiv, 1)) (hne : vf_n32 (FP.fdiv x y)) (kk : Y g me d kc ks (pc + 1) L (vv (.float (FP.fdiv x y)) :: S) M Q) : Y g me d kc ks pc L (vv (.float y) :: vv (.float x) :: S) M Q := by
  intro p l e s m args below meth c H locs cells slots mc ms ls C h1 h2 hM hL hS' hP hD hS hlv
  obtain ⟨hv, hS'⟩ := List.forall_mem_cons.mp hS'
  obtain ⟨hw, hS'⟩ := List.forall_mem_cons.mp hS'
  exact lv_fdiv C.1 C.2.1 hdg hne (kk p l e s m args below meth c H locs cells slots mc ms ls C h1 h2 hM hL (y_okc trivial hS') hP hD hS hlv)
theorem y_ddiv {x y : UInt64} (hdg : decode me.2.1 pc = .ok (.ddiv, 1)) (hne : vf_n64 (FP.ddiv x y)) (kk : Y g me d kc ks (pc + 1) L (vv (.double (FP.ddiv x y)) :: S) M Q) : Y g me d kc ks pc L (vv (.double y) :: vv (.double x) :: S) M Q := by
  intro p l e s m args below meth c H locs cells slots mc ms ls C h1 h2 hM hL hS' hP hD hS hlv
  obtain ⟨hv, hS'⟩ := List.forall_mem_cons.mp hS'
  obtain ⟨hw, hS'⟩ := List.forall_mem_cons.mp hS'
  exact lv_ddiv C.1 C.2.1 hdg hne (kk p l e s m args below meth c H locs cells slots mc ms ls C h1 h2 hM hL (y_okc trivial hS') hP hD hS hlv)
theorem y_f2d {x : UInt32} (hdg : decode me.2.1 pc = .ok (.f2d, 1)) (hne : vf_n64 (FP.f2d x)) (kk : Y g me d kc ks (pc + 1) L (vv (.double (FP.f2d x)) :: S) M Q) : Y g me d kc ks pc L (vv (.float x) :: S) M Q := by
  intro p l e s m args below meth c H locs cells slots mc ms ls C h1 h2 hM hL hS' hP hD hS hlv
  obtain ⟨hv, hS'⟩ := List.forall_mem_cons.mp hS'
  exact lv_f2d C.1 C.2.1 hdg hne (kk p l e s m args below meth c H locs cells slots mc ms ls C h1 h2 hM hL (y_okc trivial hS') hP hD hS hlv)
theorem y_dcmp {x y : UInt64} {o : CmpOp} {r : Int} (hdg : decode me.2.1 pc = .ok (.dcmp o, 1)) (hr : Op.cmpValue (FP.dcmp x y) o = Int32.ofInt r) (hi : y_in r) (kk : Y g me d kc ks (pc + 1) L (vi r :: S) M Q) : Y g me d kc ks pc L (vv (.double y) :: vv (.double x) :: S) M Q := by
  intro p l e s m args below meth c H locs cells slots mc ms ls C h1 h2 hM hL hS' hP hD hS hlv
  obtain ⟨hv, hS'⟩ := List.forall_mem_cons.mp hS'
  obtain ⟨hw, hS'⟩ := List.forall_mem_cons.mp hS'
  refine lv_dcmp C.1 C.2.1 hdg ?_
  rw [hr]
  exact (kk p l e s m args below meth c H locs cells slots mc ms ls C h1 h2 hM hL (y_okc hi hS') hP hD hS hlv)
theorem y_fcmp {x y : UInt32} {o : CmpOp} {r : Int} (hdg : decode me.2.1 pc = .ok (.fcmp o, 1)) (hr : Op.cmpValue (FP.fcmp x y) o = Int32.ofInt r) (hi : y_in r) (kk : Y g me d kc ks (pc + 1) L (vi r :: S) M Q) : Y g me d kc ks pc L (vv (.float y) :: vv (.float x) :: S) M Q := by
  intro p l e s m args below meth c H locs cells slots mc ms ls C h1 h2 hM hL hS' hP hD hS hlv
  obtain ⟨hv, hS'⟩ := List.forall_mem_cons.mp hS'
  obtain ⟨hw, hS'⟩ := List.forall_mem_cons.mp hS'
  refine lv_fcmp C.1 C.2.1 hdg ?_
  rw [hr]
  exact (kk p l e s m args below meth c H locs cells slots mc ms ls C h1 h2 hM hL (y_okc hi hS') hP hD hS hlv)
theorem y_ladd {a b : Int} (hdg : decode me.2.1 pc = .ok (.ladd, 1)) (hi : y_inL (a + b)) (kk : Y g me d kc ks (pc + 1) L (vl (a + b) :: S) M Q) : Y g me d kc ks pc L (vl b :: vl a :: S) M Q := by
  intro p l e s m args below meth c H locs cells slots mc ms ls C h1 h2 hM hL hS' hP hD hS hlv
  obtain ⟨hv, hS'⟩ := List.forall_mem_cons.mp hS'
  obtain ⟨hw, hS'⟩ := List.forall_mem_cons.mp hS'
  refine lv_ladd C.1 C.2.1 hdg ?_
  rw [← Int64.ofInt_add]
  exact (kk p l e s m args below meth c H locs cells slots mc ms ls C h1 h2 hM hL (y_okc hi hS') hP hD hS hlv)
theorem y_lcmp {a b : Int} (hdg : decode me.2.1 pc = .ok (.lcmp, 1)) (kk : Y g me d kc ks (pc + 1) L (vi (ycmp a b) :: S) M Q) : Y g me d kc ks pc L (vl b :: vl a :: S) M Q := by
  intro p l e s m args below meth c H locs cells slots mc ms ls C h1 h2 hM hL hS' hP hD hS hlv
  obtain ⟨hv, hS'⟩ := List.forall_mem_cons.mp hS'
  obtain ⟨hw, hS'⟩ := List.forall_mem_cons.mp hS'
  refine W.lcmp C.1 C.2.1 hdg ?_
  rw [y_lcmp_eq hw hv]
  exact (kk p l e s m args below meth c H locs cells slots mc ms ls C h1 h2 hM hL (y_okc (y_cmp_in a b) hS') hP hD hS hlv)
theorem y_dup {a : yV} (hdg : decode me.2.1 pc = .ok (.dup, 1)) (hc : y_cat a = 1) (kk : Y g me d kc ks (pc + 1) L (a :: a :: S) M Q) : Y g me d kc ks pc L (a :: S) M Q := by
  intro p l e s m args below meth c H locs cells slots mc ms ls C h1 h2 hM hL hS' hP hD hS hlv
  have hv := (List.forall_mem_cons.mp hS').1
  exact lv_dup C.1 C.2.1 hdg (by rw [y_cat_tv]; exact hc) (kk p l e s m args below meth c H locs cells slots mc ms ls C h1 h2 hM hL (y_okc hv hS') hP hD hS hlv)
theorem y_dup2 {a b : yV} (hdg : decode me.2.1 pc = .ok (.dup2, 1)) (hc : y_cat a = 1) (hc2 : y_cat b = 1) (kk : Y g me d kc ks (pc + 1) L (a :: b :: a :: b :: S) M Q) : Y g me d kc ks pc L (a :: b :: S) M Q := by
  intro p l e s m args below meth c H locs cells slots mc ms ls C h1 h2 hM hL hS' hP hD hS hlv
  have hv := List.forall_mem_cons.mp hS'
  have hw := List.forall_mem_cons.mp hv.2
  exact lv_dup2_11 C.1 C.2.1 hdg (by rw [y_cat_tv]; exact hc) (by rw [y_cat_tv]; exact hc2) (kk p l e s m args below meth c H locs cells slots mc ms ls C h1 h2 hM hL (y_okc hv.1 (y_okc hw.1 hS')) hP hD hS hlv)
theorem y_pop {a : yV} (hdg : decode me.2.1 pc = .ok (.pop, 1)) (hc : y_cat a = 1) (kk : Y g me d kc ks (pc + 1) L S M Q) : Y g me d kc ks pc L (a :: S) M Q := by
  intro p l e s m args below meth c H locs cells slots mc ms ls C h1 h2 hM hL hS' hP hD hS hlv
  obtain ⟨hv, hS'⟩ := List.forall_mem_cons.mp hS'
  exact lv_pop C.1 C.2.1 hdg (by rw [y_cat_tv]; exact hc) (kk p l e s m args below meth c H locs cells slots mc ms ls C h1 h2 hM hL hS' hP hD hS hlv)
theorem y_iaload {q a : Nat} {xs : List Int} {i : Int} (hq : M[q]? = some (a, oi xs)) (h0 : 0 ≤ i) (hn : i < xs.length) (hdg : decode me.2.1 pc = .ok (.iaload, 1)) (kk : Y g me d kc ks (pc + 1) L (vi (ga xs i) :: S) M Q) : Y g me d kc ks pc L (vi i :: vr a :: S) M Q := by
  intro p l e s m args below meth c H locs cells slots mc ms ls C h1 h2 hM hL hS' hP hD hS hlv
  obtain ⟨hv, hS'⟩ := List.forall_mem_cons.mp hS'
  obtain ⟨hw, hS'⟩ := List.forall_mem_cons.mp hS'
  have hO : y_okO (oi xs) := y_okM_at hM hq
  refine va_iald C.1 C.2.1 C.2.2.2.2.2.2.2.2.2.1.1 hP q 0 (y_tw_at hq) rfl (y_idx hv h0 hn) hdg ?_
  rw [y_clamp hv]
  exact (kk p l e s m args below meth c H locs cells slots mc ms ls C h1 h2 hM hL (y_okc (y_getD_in hO.1 _) hS') hP hD hS hlv)
theorem y_caload {q a : Nat} {xs : List Int} {i : Int} (hq : M[q]? = some (a, oc xs)) (h0 : 0 ≤ i) (hn : i < xs.length) (hdg : decode me.2.1 pc = .ok (.caload, 1)) (kk : Y g me d kc ks (pc + 1) L (vi (ga xs i) :: S) M Q) : Y g me d kc ks pc L (vi i :: vr a :: S) M Q := by
  intro p l e s m args below meth c H locs cells slots mc ms ls C h1 h2 hM hL hS' hP hD hS hlv
  obtain ⟨hv, hS'⟩ := List.forall_mem_cons.mp hS'
  obtain ⟨hw, hS'⟩ := List.forall_mem_cons.mp hS'
  have hO : y_okO (oc xs) := y_okM_at hM hq
  refine va_cald C.1 C.2.1 C.2.2.2.2.2.2.2.2.2.1.1 hP q 1 (y_tw_at hq) rfl (y_idx hv h0 hn) hdg ?_
  rw [y_clamp hv]
  exact (kk p l e s m args below meth c H locs cells slots mc ms ls C h1 h2 hM hL (y_okc (y_getD_inC hO.1 _) hS') hP hD hS hlv)
theorem y_laload {q a : Nat} {xs : List Int} {i : Int} (hq : M[q]? = some (a, ol xs)) (h0 : 0 ≤ i) (hn : i < xs.length) (hdg : decode me.2.1 pc = .ok (.laload, 1)) (kk : Y g me d kc ks (pc + 1) L (vl (ga xs i) :: S) M Q) : Y g me d kc ks pc L (vi i :: vr a :: S) M Q := by
  intro p l e s m args below meth c H locs cells slots mc ms ls C h1 h2 hM hL hS' hP hD hS hlv
  obtain ⟨hv, hS'⟩ := List.forall_mem_cons.mp hS'
  obtain ⟨hw, hS'⟩ := List.forall_mem_cons.mp hS'
  have hO : y_okO (ol xs) := y_okM_at hM hq
  refine va_lald C.1 C.2.1 C.2.2.2.2.2.2.2.2.2.1.1 hP q 2 (y_tw_at hq) rfl (y_idx hv h0 hn) hdg ?_
  rw [y_clamp hv]
  exact (kk p l e s m args below meth c H locs cells slots mc ms ls C h1 h2 hM hL (y_okc (y_getD_inL hO.1 _) hS') hP hD hS hlv)
theorem y_daload {q a : Nat} {xs : List UInt64} {i : Int} (hq : M[q]? = some (a, od xs)) (h0 : 0 ≤ i) (hn : i < xs.length) (hdg : decode me.2.1 pc = .ok (.daload, 1)) (kk : Y g me d kc ks (pc + 1) L (vv (.double (xs.getD i.toNat 0)) :: S) M Q) : Y g me d kc ks pc L (vi i :: vr a :: S) M Q := by
  intro p l e s m args below meth c H locs cells slots mc ms ls C h1 h2 hM hL hS' hP hD hS hlv
  obtain ⟨hv, hS'⟩ := List.forall_mem_cons.mp hS'
  obtain ⟨hw, hS'⟩ := List.forall_mem_cons.mp hS'
  refine va_dald C.1 C.2.1 C.2.2.2.2.2.2.2.2.2.1.1 hP q 3 (y_tw_at hq) rfl (y_idx hv h0 hn) hdg ?_
  rw [y_clamp hv]
  exact (kk p l e s m args below meth c H locs cells slots mc ms ls C h1 h2 hM hL (y_okc trivial hS') hP hD hS hlv)
theorem y_iastore {q a : Nat} {xs : List Int} {i x : Int} (hq : M[q]? = some (a, oi xs)) (h0 : 0 ≤ i) (hn : i < xs.length) (hdg : decode me.2.1 pc = .ok (.iastore, 1)) (kk : Y g me d kc ks (pc + 1) L S (M.set q (a, oi (sa xs i x))) Q) : Y g me d kc ks pc L (vi x :: vi i :: vr a :: S) M Q := by
  intro p l e s m args below meth c H locs cells slots mc ms ls C h1 h2 hM hL hS' hP hD hS hlv
  obtain ⟨hv, hS'⟩ := List.forall_mem_cons.mp hS'
  obtain ⟨hw, hS'⟩ := List.forall_mem_cons.mp hS'
  obtain ⟨hu, hS'⟩ := List.forall_mem_cons.mp hS'
  have hO : y_okO (oi xs) := y_okM_at hM hq
  refine va_iast C.1 C.2.1 C.2.2.2.2.2.2.2.2.2.1.1 hP hD hS q 0 (y_tw_at hq) rfl (y_idx hw h0 hn) hdg (fun H1 locs1 hP1 hD1 hS1 => ?_)
  rw [y_clamp hw, y_te_sa hn h0, y_tw_set] at hP1 hD1
  exact (kk p l e s m args below meth c H1 locs1 cells slots mc ms ls C h1 h2 (y_okM_set hM (y_okO_sa hO hv)) hL hS' hP1 hD1 hS1 hlv)
theorem y_castore {q a : Nat} {xs : List Int} {i x : Int} (hq : M[q]? = some (a, oc xs)) (h0 : 0 ≤ i) (hn : i < xs.length) (hx : 0 ≤ x ∧ x ≤ 65535) (hdg : decode me.2.1 pc = .ok (.castore, 1)) (kk : Y g me d kc ks (pc + 1) L S (M.set q (a, oc (sa xs i x))) Q) : Y g me d kc ks pc L (vi x :: vi i :: vr a :: S) M Q := by
  intro p l e s m args below meth c H locs cells slots mc ms ls C h1 h2 hM hL hS' hP hD hS hlv
  obtain ⟨hv, hS'⟩ := List.forall_mem_cons.mp hS'
  obtain ⟨hw, hS'⟩ := List.forall_mem_cons.mp hS'
  obtain ⟨hu, hS'⟩ := List.forall_mem_cons.mp hS'
  have hO : y_okO (oc xs) := y_okM_at hM hq
  refine va_cast C.1 C.2.1 C.2.2.2.2.2.2.2.2.2.1.1 hP hD hS q 1 (y_tw_at hq) rfl (y_idx hw h0 hn) hdg (fun H1 locs1 hP1 hD1 hS1 => ?_)
  rw [y_clamp hw, y_te_sac hn h0 hx, y_tw_set] at hP1 hD1
  exact (kk p l e s m args below meth c H1 locs1 cells slots mc ms ls C h1 h2 (y_okM_set hM (y_okO_sac hO hx)) hL hS' hP1 hD1 hS1 hlv)
theorem y_lastore {q a : Nat} {xs : List Int} {i x : Int} (hq : M[q]? = some (a, ol xs)) (h0 : 0 ≤ i) (hn : i < xs.length) (hdg : decode me.2.1 pc = .ok (.lastore, 1)) (kk : Y g me d kc ks (pc + 1) L S (M.set q (a, ol (sa xs i x))) Q) : Y g me d kc ks pc L (vl x :: vi i :: vr a :: S) M Q := by
  intro p l e s m args below meth c H locs cells slots mc ms ls C h1 h2 hM hL hS' hP hD hS hlv
  obtain ⟨hv, hS'⟩ := List.forall_mem_cons.mp hS'
  obtain ⟨hw, hS'⟩ := List.forall_mem_cons.mp hS'
  obtain ⟨hu, hS'⟩ := List.forall_mem_cons.mp hS'
  have hO : y_okO (ol xs) := y_okM_at hM hq
  refine va_last C.1 C.2.1 C.2.2.2.2.2.2.2.2.2.1.1 hP hD hS q 2 (y_tw_at hq) rfl (y_idx hw h0 hn) hdg (fun H1 locs1 hP1 hD1 hS1 => ?_)
  rw [y_clamp hw, y_te_sal hn h0, y_tw_set] at hP1 hD1
  exact (kk p l e s m args below meth c H1 locs1 cells slots mc ms ls C h1 h2 (y_okM_set hM (y_okO_sal hO hv)) hL hS' hP1 hD1 hS1 hlv)
theorem y_dastore {q a : Nat} {xs : List UInt64} {i : Int} {x : UInt64} (hq : M[q]? = some (a, od xs)) (h0 : 0 ≤ i) (hn : i < xs.length) (hdg : decode me.2.1 pc = .ok (.dastore, 1)) (kk : Y g me d kc ks (pc + 1) L S (M.set q (a, od (xs.set i.toNat x))) Q) : Y g me d kc ks pc L (vv (.double x) :: vi i :: vr a :: S) M Q := by
  intro p l e s m args below meth c H locs cells slots mc ms ls C h1 h2 hM hL hS' hP hD hS hlv
  obtain ⟨hv, hS'⟩ := List.forall_mem_cons.mp hS'
  obtain ⟨hw, hS'⟩ := List.forall_mem_cons.mp hS'
  obtain ⟨hu, hS'⟩ := List.forall_mem_cons.mp hS'
  have hO : y_okO (od xs) := y_okM_at hM hq
  refine va_dast C.1 C.2.1 C.2.2.2.2.2.2.2.2.2.1.1 hP hD hS q 3 (y_tw_at hq) rfl (y_idx hw h0 hn) hdg (fun H1 locs1 hP1 hD1 hS1 => ?_)
  rw [y_clamp hw, y_te_sad hn h0, y_tw_set] at hP1 hD1
  exact (kk p l e s m args below meth c H1 locs1 cells slots mc ms ls C h1 h2 (y_okM_set hM (y_okO_sad hO)) hL hS' hP1 hD1 hS1 hlv)
theorem y_alen {q a : Nat} {xs : List Int} (hq : M[q]? = some (a, oi xs)) (hdg : decode me.2.1 pc = .ok (.arraylength, 1)) (kk : Y g me d kc ks (pc + 1) L (vi (xs.length : Int) :: S) M Q) : Y g me d kc ks pc L (vr a :: S) M Q := by
  intro p l e s m args below meth c H locs cells slots mc ms ls C h1 h2 hM hL hS' hP hD hS hlv
  obtain ⟨hv, hS'⟩ := List.forall_mem_cons.mp hS'
  have hO : y_okO (oi xs) := y_okM_at hM hq
  exact va_alen C.1 C.2.1 C.2.2.2.2.2.2.2.2.2.1.1 hP q 0 (y_tw_at hq) rfl rfl hdg (kk p l e s m args below meth c H locs cells slots mc ms ls C h1 h2 hM hL (y_okc (y_len_in hO.2) hS') hP hD hS hlv)
theorem y_alenC {q a : Nat} {xs : List Int} (hq : M[q]? = some (a, oc xs)) (hdg : decode me.2.1 pc = .ok (.arraylength, 1)) (kk : Y g me d kc ks (pc + 1) L (vi (xs.length : Int) :: S) M Q) : Y g me d kc ks pc L (vr a :: S) M Q := by
  intro p l e s m args below meth c H locs cells slots mc ms ls C h1 h2 hM hL hS' hP hD hS hlv
  obtain ⟨hv, hS'⟩ := List.forall_mem_cons.mp hS'
  have hO : y_okO (oc xs) := y_okM_at hM hq
  exact va_alen C.1 C.2.1 C.2.2.2.2.2.2.2.2.2.1.1 hP q 1 (y_tw_at hq) rfl rfl hdg (kk p l e s m args below meth c H locs cells slots mc ms ls C h1 h2 hM hL (y_okc (y_len_in hO.2) hS') hP hD hS hlv)
theorem y_alenQ {q a t : Nat} {ty : FieldType} {cA : ClassId} {fs : List (Option Nat)} (hq : M[q]? = some (a, oq t fs)) (ht : (y_C g)[t]? = some (g.2.1 t, ty)) (hdg : decode me.2.1 pc = .ok (.arraylength, 1)) (kk : Y g me d kc ks (pc + 1) L (vi (fs.length : Int) :: S) M Q) : Y g me d kc ks pc L (vr a :: S) M Q := by
  intro p l e s m args below meth c H locs cells slots mc ms ls C h1 h2 hM hL hS' hP hD hS hlv
  obtain ⟨hv, hS'⟩ := List.forall_mem_cons.mp hS'
  have hO : y_okO (oq t fs) := y_okM_at hM hq
  exact va_alen C.1 C.2.1 C.2.2.2.2.2.2.2.2.2.1.1 hP q t (y_tw_at hq) ht rfl hdg (kk p l e s m args below meth c H locs cells slots mc ms ls C h1 h2 hM hL (y_okc (y_len_in hO) hS') hP hD hS hlv)
theorem y_aaload {q a b : Nat} {fs : List (Option Nat)} {i : Int} (hq : M[q]? = some (a, oq 4 fs)) (h0 : 0 ≤ i) (hn : i < fs.length) (hf : fs.getD i.toNat none = some b) (hdg : decode me.2.1 pc = .ok (.aaload, 1)) (kk : Y g me d kc ks (pc + 1) L (vr b :: S) M Q) : Y g me d kc ks pc L (vi i :: vr a :: S) M Q := by
  intro p l e s m args below meth c H locs cells slots mc ms ls C h1 h2 hM hL hS' hP hD hS hlv
  obtain ⟨hv, hS'⟩ := List.forall_mem_cons.mp hS'
  obtain ⟨hw, hS'⟩ := List.forall_mem_cons.mp hS'
  refine va_aldq C.1 C.2.1 C.2.2.2.2.2.2.2.2.2.1.1 hP q 4 (y_tw_at hq) rfl (y_idx hv h0 hn) hdg ?_
  rw [y_clamp hv, hf]
  exact (kk p l e s m args below meth c H locs cells slots mc ms ls C h1 h2 hM hL (y_okc trivial hS') hP hD hS hlv)
theorem y_getf {ci N idx q a : Nat} {Cn : String} {T : u_T} {fs : List yV} {v : yV} (hc : y_cl[ci]? = some (Cn, T, N)) (hq : M[q]? = some (a, oo ci fs)) (k : Nat) (hk : k < N) (hlink : Cond.fieldLink me.1.cls idx (T k).1 (T k).2.1 (T k).2.2.1 ∈ yB) (hv : fs[k]? = some v) (hdg : decode me.2.1 pc = .ok (.getfield idx, 3)) (kk : Y g me d kc ks (pc + 3) L (v :: S) M Q) : Y g me d kc ks pc L (vr a :: S) M Q := by
  intro p l e s m args below meth c H locs cells slots mc ms ls C h1 h2 hM hL hS' hP hD hS hlv
  obtain ⟨hva, hS'⟩ := List.forall_mem_cons.mp hS'
  have hO : ∀ v ∈ fs, y_ok v := y_okM_at hM hq
  exact va_get C.1 C.2.1 C.2.2.2.2.2.2.1 (y_clin hc) C.2.2.2.2.2.1 C.2.2.2.2.2.2.2.2.2.1.1 hP q (y_tw_at hq) hc k hk (C.2.2.2.2.2.2.1 _ hlink) (fun _ h9 => h9) (y_map_at hv) hdg (kk p l e s m args below meth c H locs cells slots mc ms ls C h1 h2 hM hL (y_okc (hO _ (List.mem_of_getElem? hv)) hS') hP hD hS hlv)
theorem y_putf {ci N idx q a : Nat} {Cn : String} {T : u_T} {fs : List yV} {v : yV} {ty : FieldType} (hc : y_cl[ci]? = some (Cn, T, N)) (hq : M[q]? = some (a, oo ci fs)) (k : Nat) (hk : k < N) (hlink : Cond.fieldLink me.1.cls idx (T k).1 (T k).2.1 (T k).2.2.1 ∈ yB) (hfin : (T k).2.2.2 = false) (hty : parseFieldDescriptor (T k).2.2.1 = some ty) (hn : narrow ty (y_tv v) = y_tv v) (hfit : fits ty (y_tv v) = true) (hl : k < fs.length) (hdg : decode me.2.1 pc = .ok (.putfield idx, 3)) (kk : Y g me d kc ks (pc + 3) L S (M.set q (a, oo ci (fs.set k v))) Q) : Y g me d kc ks pc L (v :: vr a :: S) M Q := by
  intro p l e s m args below meth c H locs cells slots mc ms ls C h1 h2 hM hL hS' hP hD hS hlv
  obtain ⟨hv, hS'⟩ := List.forall_mem_cons.mp hS'
  obtain ⟨hw, hS'⟩ := List.forall_mem_cons.mp hS'
  have hO : ∀ v ∈ fs, y_ok v := y_okM_at hM hq
  obtain ⟨ty0, hty0, hnm⟩ := y_clty hc
  refine va_put C.1 C.2.1 C.2.2.2.2.2.2.1 (y_clin hc) ty0 hty0 hnm C.2.2.2.2.2.1 C.2.2.2.2.2.2.2.2.2.1.1 hP hD hS q (y_tw_at hq) hc k hk (C.2.2.2.2.2.2.1 _ hlink) (fun _ h9 => h9) hfin hty hn hfit (by rw [List.length_map]; exact hl) hdg (fun H1 locs1 hP1 hD1 hS1 => ?_)
  rw [← List.map_set] at hP1 hD1
  rw [show (Sum.inr (ci, (fs.set k v).map y_tv) : va_E) = y_te g (oo ci (fs.set k v)) from rfl, y_tw_set] at hP1 hD1
  exact (kk p l e s m args below meth c H1 locs1 cells slots mc ms ls C h1 h2 (y_okM_set hM (show y_okO (oo ci (fs.set k v)) from y_mem_set hO hv)) hL hS' hP1 hD1 hS1 hlv)
theorem y_ireturn {x : Int} {ty : FieldType} (hr : me.2.2.2.1 = some ty) (hn : narrow ty (.int (Int32.ofInt x)) = .int (Int32.ofInt x)) (hdg : decode me.2.1 pc = .ok (.ireturn, 1)) (hq : Q (.inl (some (vi x))) M) : Y g me d kc ks pc L [vi x] M Q := by
  intro p l e s m args below meth c H locs cells slots mc ms ls C h1 h2 hM hL hS' hP hD hS hlv
  refine vx_ret (W.widen (k := mc) (n := ms) (by omega) (by omega) ?_)
  exact W.zret C.1 C.2.1 (C.2.2.2.1.trans hr) hn (fun t ht hW => ⟨⟨some (vi x), M, rfl, fun v h => by cases h; exact hS' _ List.mem_cons_self, hq, by rw [ht]; exact Nat.le_trans C.2.2.2.2.2.2.2.2.2.2 hS.1, hM, by rw [ht]; exact hP, hD⟩, hS.F ht⟩) hS.2.2 hdg C.2.2.2.2.1
theorem y_lreturn {x : Int} (hr : me.2.2.2.1 = some .long) (hdg : decode me.2.1 pc = .ok (.lreturn, 1)) (hq : Q (.inl (some (vl x))) M) : Y g me d kc ks pc L [vl x] M Q := by
  intro p l e s m args below meth c H locs cells slots mc ms ls C h1 h2 hM hL hS' hP hD hS hlv
  refine vx_ret (W.widen (k := mc) (n := ms) (by omega) (by omega) ?_)
  exact W.lret C.1 C.2.1 (C.2.2.2.1.trans hr) (fun t ht hW => ⟨⟨some (vl x), M, rfl, fun v h => by cases h; exact hS' _ List.mem_cons_self, hq, by rw [ht]; exact Nat.le_trans C.2.2.2.2.2.2.2.2.2.2 hS.1, hM, by rw [ht]; exact hP, hD⟩, hS.F ht⟩) hS.2.2 hdg C.2.2.2.2.1
theorem y_dreturn {x : UInt64} (hr : me.2.2.2.1 = some .double) (hdg : decode me.2.1 pc = .ok (.dreturn, 1)) (hq : Q (.inl (some (vv (.double x)))) M) : Y g me d kc ks pc L [vv (.double x)] M Q := by
  intro p l e s m args below meth c H locs cells slots mc ms ls C h1 h2 hM hL hS' hP hD hS hlv
  refine vx_ret (W.widen (k := mc) (n := ms) (by omega) (by omega) ?_)
  exact W.dret C.1 C.2.1 (C.2.2.2.1.trans hr) (fun t ht hW => ⟨⟨some (vv (.double x)), M, rfl, fun v h => by cases h; trivial, hq, by rw [ht]; exact Nat.le_trans C.2.2.2.2.2.2.2.2.2.2 hS.1, hM, by rw [ht]; exact hP, hD⟩, hS.F ht⟩) hS.2.2 hdg C.2.2.2.2.1
theorem y_freturn {x : UInt32} (hr : me.2.2.2.1 = some .float) (hdg : decode me.2.1 pc = .ok (.freturn, 1)) (hq : Q (.inl (some (vv (.float x)))) M) : Y g me d kc ks pc L [vv (.float x)] M Q := by
  intro p l e s m args below meth c H locs cells slots mc ms ls C h1 h2 hM hL hS' hP hD hS hlv
  refine vx_ret (W.widen (k := mc) (n := ms) (by omega) (by omega) ?_)
  exact W.fret C.1 C.2.1 (C.2.2.2.1.trans hr) (fun t ht hW => ⟨⟨some (vv (.float x)), M, rfl, fun v h => by cases h; trivial, hq, by rw [ht]; exact Nat.le_trans C.2.2.2.2.2.2.2.2.2.2 hS.1, hM, by rw [ht]; exact hP, hD⟩, hS.F ht⟩) hS.2.2 hdg C.2.2.2.2.1
theorem y_areturn {a : Nat} {rt : FieldType} (hr : me.2.2.2.1 = some rt) (hrt : (∃ n, rt = .object n) ∨ ∃ t, rt = .array t) (hdg : decode me.2.1 pc = .ok (.areturn, 1)) (hq : Q (.inl (some (vr a))) M) : Y g me d kc ks pc L [vr a] M Q := by
  intro p l e s m args below meth c H locs cells slots mc ms ls C h1 h2 hM hL hS' hP hD hS hlv
  refine vx_ret (W.widen (k := mc) (n := ms) (by omega) (by omega) ?_)
  exact W.aret C.1 C.2.1 (C.2.2.2.1.trans hr) hrt (Or.inr ⟨a, rfl⟩) (fun t ht hW => ⟨⟨some (vr a), M, rfl, fun v h => by cases h; trivial, hq, by rw [ht]; exact Nat.le_trans C.2.2.2.2.2.2.2.2.2.2 hS.1, hM, by rw [ht]; exact hP, hD⟩, hS.F ht⟩) hS.2.2 hdg C.2.2.2.2.1
theorem y_return (hr : me.2.2.2.1 = none) (hdg : decode me.2.1 pc = .ok (.return_, 1)) (hq : Q (.inl none) M) : Y g me d kc ks pc L [] M Q := by
  intro p l e s m args below meth c H locs cells slots mc ms ls C h1 h2 hM hL hS' hP hD hS hlv
  have hQ : ∀ t : State, t.heap = H → s.WarmedH t.vm → y_Qc g Q args s (.returned none) t := fun t ht _ => ⟨⟨none, M, rfl, fun v h => (by cases h), hq, by rw [ht]; exact Nat.le_trans C.2.2.2.2.2.2.2.2.2.2 hS.1, hM, by rw [ht]; exact hP, hD⟩, hS.F ht⟩
  refine vx_ret (W.widen (k := mc) (n := ms) (by omega) (by omega) ?_)
  exact W.vret C.1 C.2.1 (C.2.2.2.1.trans hr) hQ hS.2.2 hdg C.2.2.2.2.1
end YR2
end
section
/-! ===== bodies and calls ===== -/
def y_args : Nat → List yV → List (Nat × yV)
  | _, [] => []
  | i, v :: vs => (i, v) :: y_args (i + 1) vs
theorem y_args_map : ∀ (as : List yV) (i : Nat), (∀ v ∈ as, y_cat v = 1) → lv_args i (as.map y_tv) = (y_args i as).map fun q => (q.1, y_tv q.2)
  | [], _, _ => rfl
  | v :: vs, i, h => by
    have hv := (List.forall_mem_cons.mp h).1
    show (i, y_tv v) :: lv_args (if (y_tv v).category = 2 then i + 2 else i + 1) (vs.map y_tv) = _
    rw [if_neg (by rw [y_cat_tv, hv]; decide), y_args_map vs (i + 1) (List.forall_mem_cons.mp h).2]
    rfl
theorem y_args_len : ∀ (as : List yV), (∀ v ∈ as, y_cat v = 1) → (lg_sl (as.map y_tv)).length = as.length
  | [], _ => rfl
  | v :: vs, h => by
    have hv := (List.forall_mem_cons.mp h).1
    show (List.flatMap _ (y_tv v :: vs.map y_tv)).length = _
    rw [List.flatMap_cons, if_neg (by rw [y_cat_tv, hv]; decide), List.length_append]
    have := y_args_len vs (List.forall_mem_cons.mp h).2
    unfold lg_sl at this
    rw [this]
    simp [Nat.add_comm]
theorem y_args_ok : ∀ (as : List yV) (i : Nat), (∀ v ∈ as, y_ok v) → ∀ q ∈ y_args i as, y_ok q.2
  | [], _, _, _, hq => nomatch hq
  | v :: vs, i, h, q, hq => by
    rcases List.mem_cons.mp hq with h1 | h1
    · rw [h1]; exact (List.forall_mem_cons.mp h).1
    · exact y_args_ok vs (i + 1) (List.forall_mem_cons.mp h).2 q h1
theorem y_of {g : yG} {me : yM0} {d kc ks : Nat} {as : List yV} {M : yMem} {Q : yOut → yMem → Prop} (hpl : plainName me.1.cls = true) (hh : me.2.2.2.2 = []) (hcat : ∀ v ∈ as, y_cat v = 1) (hlen : as.length ≤ me.2.2.1) (k : Y g me d kc ks 0 (y_args 0 as) [] M Q) : yC g me d kc ks as M Q := by
  intro hok l hl
  refine vx_ofW (cc := me.2.1) (maxL := me.2.2.1) (ret := me.2.2.2.1) (ws' := yB) hpl (by unfold y_ws; rw [hh]; rfl) ?_
  intro p e s m args below meth c s₁ B hml hex hP
  obtain ⟨rfl, hW, hSt⟩ := hP
  have hts := atoms_spec (ws := y_ws me) B.pre
  have C : y_Cx g me p l s m (as.map y_tv).toArray meth c := ⟨B.exec, B.bytes, hml, B.returns, B.notSynchronized, findClass_of_methodNamed B.named, fun w hw => hts w (List.mem_cons_of_mem _ hw), hl, (by rw [hh, List.eq_nil_iff_forall_not_mem.mpr hex]; rfl), hSt, hW.1⟩
  have hlv := lv_entry (as.map y_tv) (n := me.2.2.1) (by rw [y_args_len as hcat]; exact hlen)
  rw [y_args_map as 0 hcat] at hlv
  rw [lg_entry_eq]
  exact k p l e s m _ below meth c s.heap [] 0 0 kc ks _ C (by omega) (by omega) hW.2.1 (y_args_ok as 0 hok) (fun _ h => nomatch h) hW.2.2.1 hW.2.2.2 va_S.rf hlv
theorem y_blind {g : yG} {as : List yV} {M : yMem} : FrameBlind (y_Pc g as M) := by
  intro a U f mk ⟨h1, h2, h3⟩
  exact ⟨h1, h2, y_S.move (s := U) (U := U.calling f mk a) (State.WarmedH.refl U) h3 (Nat.le_refl _) (fun _ _ _ => rfl)⟩
/-- what is thrown here is not caught here -/
def y_unc (me : yM0) (pc : Nat) : Prop := ∀ q ∈ me.2.2.2.2, ¬ (q.1 ≤ pc ∧ pc < q.2.1)
theorem y_unc0 {me : yM0} {pc : Nat} (h : me.2.2.2.2 = []) : y_unc me pc := fun q hq => by rw [h] at hq; cases hq
theorem y_uncov {me : yM0} {pc : Nat} {c : Code} (h : y_unc me pc) (hx : c.exceptionTable.toList.map (fun x => (x.startPc, x.endPc, x.handlerPc, x.catchType)) = me.2.2.2.2) : ∀ x ∈ c.exceptionTable.toList, covers x pc = false := by
  intro x hxm
  have h1 := h (x.startPc, x.endPc, x.handlerPc, x.catchType) (by rw [← hx]; exact List.mem_map.mpr ⟨x, hxm, rfl⟩)
  show (decide (x.startPc ≤ pc) && decide (pc < x.endPc)) = false
  by_cases c1 : x.startPc ≤ pc
  · rw [decide_eq_true c1, decide_eq_false (fun c2 => h1 ⟨c1, c2⟩)]; rfl
  · rw [decide_eq_false c1]; rfl
/-- behind a call -/
theorem y_behind {g : yG} {me : yM0} {d kc ks kc' ks' pc : Nat} {L : List (Nat × yV)} {S S0 : List yV} {Q Q' : yOut → yMem → Prop} {a : Array Value} {p : Program} {l : Launch} {e : Env} {s : State} {m : MethodId} {args : Array Value} {below : List Frame} {meth : Method} {c : Code} {H : Heap} {locs : List Loc} {cells slots mc ms : Nat} {ls : Array Slot}
    (C : y_Cx g me p l s m args meth c) (h1 : cells + (kc + kc') ≤ mc) (h2 : slots + (ks + ks') ≤ ms) (hL : ∀ q ∈ L, y_ok q.2) (hS' : ∀ v ∈ S, y_ok v) (hS : va_S (y_A g) s.heap H locs) (hlv : lv_has ls me.2.2.1 (L.map fun q => (q.1, y_tv q.2)))
    (hr : vx_Run p l e (y_rm d mc ms) s m args below meth c H locs cells slots kc' ks' (F0 m pc ls (S0.map y_tv)) (S.map y_tv) (y_Qc g Q' a) (y_XC g Q') (y_A g))
    (hu : y_unc me pc) (kx : ∀ E M1, Q' (.inr E) M1 → Q (.inr E) M1) (kk : ∀ r M1, Q' (.inl r) M1 → Y g me d kc ks (pc + 3) L (r.toList ++ S) M1 Q) :
    W p l e (y_rm d mc ms) s m args below meth c H locs cells slots (vx_MQ below (y_Qc g Q) (y_XC g Q) args s mc ms (y_A g)) (F0 m pc ls (S0.map y_tv)) := by
  intro T hT X
  rcases hr T hT X with ⟨v, st₀, t, T', L9, h0, X', hL9, e1, e2, ⟨⟨r, M1, hv, hok, hq, hW⟩, hF⟩, st⟩ | ⟨q, st₀, t, T', L9, E, ce, h0, X', hL9, e1, e2, ⟨⟨M1, hq, hW⟩, hF⟩, hce, hcv, hcl, st⟩
  · cases hv
    obtain ⟨k1, k2, k3⟩ := vx_keep h0 e1 hS (fun q _ h => h) (fun q h => h) hL9 hF
    have hM1 := hW.2.1
    have hP1 : va_P g.1 y_cl (y_tw g M1) T'.heap := by rw [e1]; exact hW.2.2.1
    have hSr : ∀ w ∈ r.toList ++ S, y_ok w := by
      intro w hw
      rcases List.mem_append.mp hw with hw | hw
      · exact hok w (by cases r with
          | none => cases hw
          | some z => rw [show (some z).toList = [z] from rfl, List.mem_singleton] at hw; rw [hw])
      · exact hS' w hw
    obtain ⟨t2, a1, b1⟩ := kk r M1 hq p l e s m args below meth c T'.heap (locs ++ L9) (cells + kc') (slots + ks') mc ms ls C (by omega) (by omega) hM1 hL hSr hP1 hW.2.2.2 k3 hlv T' rfl X'
    refine ⟨t2, st t2 ?_, b1⟩
    have es : (r.map y_tv).toList ++ S.map y_tv = (r.toList ++ S).map y_tv := by
      cases r <;> simp
    show Steps p.tables e below (T'.setTop (F0 m (pc + 3) ls ((r.map y_tv).toList ++ S.map y_tv))) t2
    rw [es]
    exact a1
  · obtain ⟨k1, k2, k3⟩ := vx_keep h0 e1 hS (fun q _ h => h) (fun q h => h) hL9 hF
    have hV : vx_W p l e (y_rm d mc ms) s m args below meth c T'.heap (locs ++ L9) (cells + kc') (slots + ks') (vx_MQ below (y_Qc g Q) (y_XC g Q) args s mc ms (y_A g)) (F0 m pc ls (S.map y_tv)) q := by
      refine vx_out (y_uncov hu C.2.2.2.2.2.2.2.2.1) C.2.2.2.2.1 (by rw [e1]; exact hce) hcv hcl (fun t9 ht9 _ => ⟨⟨M1, kx E M1 hq, ?_⟩, k3.F ht9⟩) k3.2.2 (by omega) (by omega)
      have e9 : t9.heap = t.heap := ht9.trans e1
      exact ⟨by rw [e9]; exact hW.1, hW.2.1, by rw [e9]; exact hW.2.2.1, hW.2.2.2⟩
    obtain ⟨t2, a1, b1⟩ := hV T' rfl X'
    exact ⟨t2, st.trans a1, b1⟩
/-- what a caller needs of a callee's words -/
def y_kB (me : yM0) (n : Nat) : Prop := me.2.2.2.2 = [] ∧ Cond.initialized me.1.cls ∈ yB ∧ Cond.code me.1 me.2.1 me.2.2.1 me.2.2.2.1 ∈ yB ∧ (me.1.cls ≠ "java/lang/invoke/MethodHandle" ∧ me.1.cls ≠ "java/lang/invoke/VarHandle") ∧ (parseMethodDescriptor me.1.desc).map (fun d => d.parameters.length) = some n ∧ me.2.2.1 ≤ 20
def y_kV (me : yM0) (n : Nat) : Prop := y_kB me n ∧ Cond.instanceMethod me.1 ∈ yB ∧ Cond.selects me.1.cls me.1 me.1 ∈ yB
def y_kS (me : yM0) (n : Nat) : Prop := y_kB me n ∧ Cond.static me.1 ∈ yB
theorem y_callB {g : yG} {me me' : yM0} {p : Program} {l : Launch} {s : State} {m : MethodId} {args : Array Value} {meth : Method} {c : Code} {d d' mc ms kc' ks' idx n : Nat} (C : y_Cx g me p l s m args meth c) (kv : y_kB me' n) (hd : d' + 1 ≤ d) (hlink : Cond.methodLink me.1.cls idx me'.1 ∈ yB) :
    CallB (y_rm d mc ms) s args me.1.cls idx me'.1 me'.2.1 me'.2.2.1 me'.2.2.2.1 (y_ws me') (y_rm d' kc' ks') kc' ks' n := by
  obtain ⟨hh, hi, hco, hne, hpa, h20⟩ := kv
  have hts := C.2.2.2.2.2.2.1
  have hws : y_ws me' = Cond.code me'.1 me'.2.1 me'.2.2.1 me'.2.2.2.1 :: yB := by unfold y_ws; rw [hh]; rfl
  rw [hws]
  refine ⟨rfl, rfl, by show 10 + d' + 1 ≤ 10 + d; omega, by show 8 + (me'.2.2.1 + 11) + (200 + 40 * d') ≤ 200 + 40 * d; omega, ?_, List.mem_cons_self, hts _ hco, hts _ hi, hne, ?_, hts _ hlink⟩
  · intro w hw a' U hW
    rcases List.mem_cons.mp hw with h | h
    · subst h; exact word_at hW (yb_good hco) (hts _ hco)
    · exact word_at hW (yb_good h) (hts _ h)
  · intro sig hsig
    rw [hsig] at hpa
    exact (Option.some.inj hpa).symm
theorem y_pre {g : yG} {me : yM0} {p : Program} {l : Launch} {s : State} {m : MethodId} {args : Array Value} {meth : Method} {c : Code} {H : Heap} {locs : List Loc} {M : yMem} {as : List yV} (C : y_Cx g me p l s m args meth c) (hM : y_okM M) (hP : va_P g.1 y_cl (y_tw g M) H) (hD : va_D (y_A g) (y_tw g M)) (hS : va_S (y_A g) s.heap H locs) :
    ∀ U : State, U.heap = H → s.WarmedH U.vm → y_Pc g as M (as.map y_tv).toArray U := by
  intro U hU hW
  refine ⟨rfl, ⟨by rw [hU]; exact Nat.le_trans C.2.2.2.2.2.2.2.2.2.2 hS.1, hM, by rw [hU]; exact hP, hD⟩, ?_⟩
  exact y_S.move hW C.2.2.2.2.2.2.2.2.2.1 (by rw [hU]; exact hS.1) (fun a h1 h2 => by rw [hU]; exact hS.2.1 a h1 h2)
section YC
variable {g : yG} {me : yM0} {d kc ks pc : Nat} {L : List (Nat × yV)} {S : List yV} {M : yMem} {Q : yOut → yMem → Prop}
theorem y_catsum (S : List yV) : ((S.map y_tv).map fun v => v.category).sum = (S.map y_cat).sum := by
  rw [List.map_map]
  refine congrArg _ (List.map_congr_left fun v _ => ?_)
  exact y_cat_tv v
/-- a call of an instance's method -/
theorem y_callV {me' : yM0} {d' kc' ks' n idx q a ci N : Nat} {Cn : String} {T : u_T} {fs as S0 : List yV} {Q' : yOut → yMem → Prop} (hC : yC g me' d' kc' ks' (vr a :: as) M Q') (kv : y_kV me' n) (hd : d' + 1 ≤ d) (hn : as.length = n) (hc : y_cl[ci]? = some (Cn, T, N)) (hcn : me'.1.cls = Cn) (hq : M[q]? = some (a, oo ci fs))
    (hlink : Cond.methodLink me.1.cls idx me'.1 ∈ yB) (hst : S0 = as.reverse ++ vr a :: S) (hcat : (S.map y_cat).sum ≤ 8) (hdg : decode me.2.1 pc = .ok (.invokevirtual idx, 3)) (hu : y_unc me pc)
    (kx : ∀ E M1, Q' (.inr E) M1 → Q (.inr E) M1) (kk : ∀ r M1, Q' (.inl r) M1 → Y g me d kc ks (pc + 3) L (r.toList ++ S) M1 Q) : Y g me d (kc + kc') (ks + ks') pc L S0 M Q := by
  intro p l e s m args below meth c H locs cells slots mc ms ls C h1 h2 hM hL hS' hP hD hS hlv
  subst hst
  have hts := C.2.2.2.2.2.2.1
  have hSS : ∀ v ∈ S, y_ok v := fun v hv => hS' v (List.mem_append_right _ (List.mem_cons_of_mem _ hv))
  have hAs : ∀ v ∈ vr a :: as, y_ok v := y_okc trivial (fun v hv => hS' v (List.mem_append_left _ (List.mem_reverse.mpr hv)))
  refine y_behind C h1 h2 hL hSS hS hlv (vx_runV (As := as.map y_tv) (b := a) (C := Cn) (y := me'.1) (index := idx) (n := n) (own := me.1.cls) (Ts := yB) ⟨C.1, C.2.1, C.2.2.1, C.2.2.2.2.2.1, hts⟩ (hC hAs l C.2.2.2.2.2.2.2.1)
    ⟨y_callB C kv.1 hd hlink, hts _ kv.2.1, by rw [← hcn]; exact hts _ kv.2.2⟩
    ⟨y_blind, va_recv C.2.2.2.2.2.2.2.2.2.1.1 hP hc (y_tw_at hq), y_pre (as := vr a :: as) C hM hP hD hS⟩ rfl (by rw [List.length_map]; exact hn) hlv.1 ?_ ?_ hdg ⟨by show cells + kc' ≤ mc; omega, by show slots + ks' ≤ ms; omega⟩) hu kx kk
  · show List.map y_tv (as.reverse ++ vr a :: S) = (as.map y_tv).reverse ++ Value.ref a :: S.map y_tv
    rw [List.map_append, List.map_reverse]; rfl
  · exact lv_room (by rw [y_catsum]; exact hcat)
/-- a call of a static method of this class or another one -/
theorem y_callS {me' : yM0} {d' kc' ks' n idx : Nat} {as S0 : List yV} {Q' : yOut → yMem → Prop} (hC : yC g me' d' kc' ks' as M Q') (kv : y_kS me' n) (hd : d' + 1 ≤ d) (hn : as.length = n)
    (hlink : Cond.methodLink me.1.cls idx me'.1 ∈ yB) (hst : S0 = as.reverse ++ S) (hcat : (S.map y_cat).sum ≤ 8) (hdg : decode me.2.1 pc = .ok (.invokestatic idx, 3)) (hu : y_unc me pc)
    (kx : ∀ E M1, Q' (.inr E) M1 → Q (.inr E) M1) (kk : ∀ r M1, Q' (.inl r) M1 → Y g me d kc ks (pc + 3) L (r.toList ++ S) M1 Q) : Y g me d (kc + kc') (ks + ks') pc L S0 M Q := by
  intro p l e s m args below meth c H locs cells slots mc ms ls C h1 h2 hM hL hS' hP hD hS hlv
  subst hst
  have hts := C.2.2.2.2.2.2.1
  have hSS : ∀ v ∈ S, y_ok v := fun v hv => hS' v (List.mem_append_right _ hv)
  have hAs : ∀ v ∈ as, y_ok v := fun v hv => hS' v (List.mem_append_left _ (List.mem_reverse.mpr hv))
  refine y_behind C h1 h2 hL hSS hS hlv (vx_runS (As := as.map y_tv) (y := me'.1) (index := idx) (n := n) (own := me.1.cls) (Ts := yB) ⟨C.1, C.2.1, C.2.2.1, C.2.2.2.2.2.1, hts⟩ (hC hAs l C.2.2.2.2.2.2.2.1)
    ⟨y_callB C kv.1 hd hlink, hts _ kv.2⟩
    ⟨y_blind, y_pre (as := as) C hM hP hD hS⟩ rfl (by rw [List.length_map]; exact hn) hlv.1 ?_ ?_ hdg ⟨by show cells + kc' ≤ mc; omega, by show slots + ks' ≤ ms; omega⟩) hu kx kk
  · rw [List.map_append, List.map_reverse]
  · exact lv_room (by rw [y_catsum]; exact hcat)
/-- a callee that never throws, as the kit's other contract -/
theorem y_met {g : yG} {me : yM0} {d kc ks : Nat} {as : List yV} {M : yMem} {Q : yOut → yMem → Prop} {l : Launch} (h : vx_Met l me.1 (y_ws me) (y_rm d kc ks) (y_Pc g as M) (y_Qc g Q) (y_XC g Q) kc ks (y_A g)) (hn : ∀ E M1, ¬ Q (.inr E) M1) :
    Met l me.1 (y_ws me) (y_rm d kc ks) (y_Pc g as M) (y_Qc g Q) kc ks (y_A g) := by
  intro p e ha hc hk s m args below hf happ hP hK
  obtain ⟨n, o, h1, h2, h3, h4⟩ := h p e ha hc hk s m args below hf happ hP hK
  refine ⟨n, o, h1, h2, h3, ?_⟩
  rcases h4 with h4 | ⟨q, -, E, ce, L, ⟨⟨M1, hq, -⟩, -⟩, -⟩
  · exact h4
  · exact absurd hq (hn E M1)
/-- a call of a nest mate's static method that never throws -/
theorem y_callSN {me' : yM0} {d' kc' ks' n idx : Nat} {host : String} {as S0 : List yV} {Q' : yOut → yMem → Prop} (hC : yC g me' d' kc' ks' as M Q') (kv : y_kS me' n) (hd : d' + 1 ≤ d) (hn : as.length = n)
    (hlink : Cond.methodLinkNest me.1.cls idx me'.1 host ∈ yB) (hst : S0 = as.reverse ++ S) (hcat : (S.map y_cat).sum ≤ 8) (hdg : decode me.2.1 pc = .ok (.invokestatic idx, 3)) (hu : y_unc me pc)
    (kx : ∀ E M1, ¬ Q' (.inr E) M1) (kk : ∀ r M1, Q' (.inl r) M1 → Y g me d kc ks (pc + 3) L (r.toList ++ S) M1 Q) : Y g me d (kc + kc') (ks + ks') pc L S0 M Q := by
  intro p l e s m args below meth c H locs cells slots mc ms ls C h1 h2 hM hL hS' hP hD hS hlv
  subst hst
  have hts := C.2.2.2.2.2.2.1
  have hSS : ∀ v ∈ S, y_ok v := fun v hv => hS' v (List.mem_append_right _ hv)
  have hAs : ∀ v ∈ as, y_ok v := fun v hv => hS' v (List.mem_append_left _ (List.mem_reverse.mpr hv))
  obtain ⟨⟨hh, hi, hco, hne, hpa, h20⟩, hsta⟩ := kv
  have hws : y_ws me' = Cond.code me'.1 me'.2.1 me'.2.2.1 me'.2.2.2.1 :: yB := by unfold y_ws; rw [hh]; rfl
  have hr := va_runSN (As := as.map y_tv) (y := me'.1) (bytes := me'.2.1) (maxL := me'.2.2.1) (ret := me'.2.2.2.1) (index := idx) (n := n) (own := me.1.cls) (host := host) (Ts := yB) (p := p) (l := l) (e := e) (R := y_rm d mc ms) (s := s) (m := m) (args := args) (below := below) (meth := meth) (c := c) (H := H) (locs := locs) (cells := cells) (slots := slots) (rest := S.map y_tv) (g := F0 m pc ls ((as.reverse ++ S).map y_tv)) (rm := y_rm d' kc' ks')
    ⟨C.1, C.2.1, C.2.2.1, C.2.2.2.2.2.1, hts⟩ (by rw [← hws]; exact y_met (hC hAs l C.2.2.2.2.2.2.2.1) kx)
    ⟨⟨⟨rfl, rfl, by show 10 + d' + 1 ≤ 10 + d; omega, by show 8 + (me'.2.2.1 + 11) + (200 + 40 * d') ≤ 200 + 40 * d; omega, (fun w hw a' U hW => by
        rcases List.mem_cons.mp hw with h | h
        · subst h; exact word_at hW (yb_good hco) (hts _ hco)
        · exact word_at hW (yb_good h) (hts _ h)), List.mem_cons_self⟩, hts _ hco, hts _ hi, hne, (fun sig hsig => by rw [hsig] at hpa; exact (Option.some.inj hpa).symm), hts _ hlink⟩, hts _ hsta, trivial⟩
    ⟨y_blind, y_pre (as := as) C hM hP hD hS⟩ rfl (by rw [List.length_map]; exact hn) hlv.1 (by rw [List.map_append, List.map_reverse]) (lv_room (by rw [y_catsum]; exact hcat)) hdg ⟨by show cells + kc' ≤ mc; omega, by show slots + ks' ≤ ms; omega⟩
  refine y_behind (a := (as.map y_tv).toArray) C h1 h2 hL hSS hS hlv ?_ hu (fun E M1 h => absurd h (kx E M1)) kk
  intro T hT X
  obtain ⟨v, st₀, t, T', L9, q1, q2, q3, q4, q5, q6, q7⟩ := hr T hT X
  exact Or.inl ⟨v, st₀, t, T', L9, q1, q2, q3, q4, q5, q6, q7⟩
/-- a weaker end -/
theorem Y.imp {Q2 : yOut → yMem → Prop} (h : Y g me d kc ks pc L S M Q) (hq : ∀ o M1, Q o M1 → Q2 o M1) : Y g me d kc ks pc L S M Q2 := by
  intro p l e s m args below meth c H locs cells slots mc ms ls C h1 h2 hM hL hS' hP hD hS hlv T hT X
  obtain ⟨t, a1, o, b1, b2, b3⟩ := h p l e s m args below meth c H locs cells slots mc ms ls C h1 h2 hM hL hS' hP hD hS hlv T hT X
  refine ⟨t, a1, o, b1, b2, ?_⟩
  rcases b3 with ⟨⟨⟨r, M1, e1, e2, e3, e4⟩, e5⟩, e6⟩ | ⟨q, e1, E, ce, L9, ⟨⟨M1, e2, e3⟩, e4⟩, e5⟩
  · exact Or.inl ⟨⟨⟨r, M1, e1, e2, hq _ _ e3, e4⟩, e5⟩, e6⟩
  · exact Or.inr ⟨q, e1, E, ce, L9, ⟨⟨M1, hq _ _ e2, e3⟩, e4⟩, e5⟩
theorem yC.imp {as : List yV} {Q2 : yOut → yMem → Prop} (h : yC g me d kc ks as M Q) (hq : ∀ o M1, Q o M1 → Q2 o M1) : yC g me d kc ks as M Q2 := by
  intro hok l hl p e ha hc hk s m args below hf happ hP hK
  obtain ⟨n, o, h1, h2, h3, h4⟩ := h hok l hl p e ha hc hk s m args below hf happ hP hK
  refine ⟨n, o, h1, h2, h3, ?_⟩
  rcases h4 with ⟨⟨⟨r, M1, e1, e2, e3, e4⟩, e5⟩, e6⟩ | ⟨q, e1, E, ce, L9, ⟨⟨M1, e2, e3⟩, e4⟩, e5⟩
  · exact Or.inl ⟨⟨⟨r, M1, e1, e2, hq _ _ e3, e4⟩, e5⟩, e6⟩
  · exact Or.inr ⟨q, e1, E, ce, L9, ⟨⟨M1, hq _ _ e2, e3⟩, e4⟩, e5⟩
end YC
end
section
/-! ===== the logic over numbered objects: a memory is a function; an object's number stands for its address ===== -/
abbrev zV : Type := Int ⊕ (Int ⊕ (Nat ⊕ (Int ⊕ Int)))
abbrev zi (x : Int) : zV := Sum.inl x
abbrev zl (x : Int) : zV := Sum.inr (Sum.inl x)
abbrev zr (k : Nat) : zV := Sum.inr (Sum.inr (Sum.inl k))
abbrev zd (x : Int) : zV := Sum.inr (Sum.inr (Sum.inr (Sum.inl x)))
abbrev zf (x : Int) : zV := Sum.inr (Sum.inr (Sum.inr (Sum.inr x)))
/-- the address of an object; from 1000 on: of a constant one -/
def zA (g : yG) (a : Nat → Nat) (k : Nat) : Nat := bif k.blt 1000 then a k else g.2.2.2.1 (k - 1000)
def tr (g : yG) (a : Nat → Nat) : zV → yV
  | .inl x => vi x
  | .inr (.inl x) => vl x
  | .inr (.inr (.inl k)) => vr (zA g a k)
  | .inr (.inr (.inr (.inl x))) => vv (.double (fp_u x))
  | .inr (.inr (.inr (.inr x))) => vv (.float (fp_w x))
/-- the kinds of the objects: 0 int[], 1 char[], 2 long[], 3 double[], 4 a row of houses, 5 a row of int[], 10 and on: the classes; with their sizes -/
def zHk : List (Nat × Nat) := [(11, 17), (0, 6), (0, 6), (0, 6), (0, 6), (0, 6), (0, 6), (0, 6), (0, 6), (0, 6)]
def zKl : List (Nat × Nat) := [(16, 12)] ++ (zHk ++ (zHk ++ (zHk ++ (zHk ++ (zHk ++ (zHk ++ (zHk ++ (zHk ++ (zHk ++ (zHk ++ (zHk ++
  [(10, 3), (4, 8), (13, 7), (5, 6), (0, 6), (0, 6), (0, 6), (0, 6), (0, 6), (0, 6), (5, 6), (0, 6), (0, 6), (0, 6), (0, 6), (0, 6), (0, 6), (0, 6), (0, 6), (0, 6), (0, 6),
   (14, 3), (0, 6), (0, 64), (0, 64), (12, 5), (0, 4), (15, 2), (1, 128), (15, 2), (1, 128),
   (17, 24), (0, 62), (0, 496), (0, 62), (0, 62), (0, 62), (0, 6), (0, 6), (0, 6), (0, 6), (0, 6), (1, 120), (1, 60), (0, 4), (2, 1), (3, 1)])))))))))))
abbrev zN : Nat := 158
theorem zKl_len : zKl.length = zN := by decide +kernel
def zK (k : Nat) : Nat × Nat := zKl.getD k (99, 0)
/-- the fields of the classes: 0 an int, 1 a long, 2 a Kind, 10 + n: the object n places on -/
def zT : Nat → List Nat
  | 0 => [11, 0, 0]
  | 1 => [0, 11, 12, 0, 0, 13, 14, 15, 16, 17, 18, 19, 0, 0, 0, 1, 1]
  | 2 => [0, 2, 11, 0, 0]
  | 3 => [11, 18, 25, 26, 27, 28, 0]
  | 4 => [11, 12, 13]
  | 5 => [11, 0]
  | 6 => [11, 21, 31, 121, 123, 142, 146, 148, 150, 0, 0, 0]
  | 7 => [0, 11, 12, 13, 14, 15, 0, 0, 0, 16, 17, 18, 19, 20, 21, 0, 22, 0, 0, 0, 0, 23, 0, 0]
  | _ => []
/-- what a field holds -/
def zfv (g : yG) (a : Nat → Nat) (k : Nat) (f : Int → Int) (j : Nat) : Nat → yV
  | 0 => vi (f j)
  | 1 => vl (f j)
  | 2 => vr (g.2.2.2.1 (f j).toNat)
  | n + 3 => vr (a (k + (n - 7)))
def zfl (g : yG) (a : Nat → Nat) (k : Nat) (f : Int → Int) : Nat → List Nat → List yV
  | _, [] => []
  | j, c :: cs => zfv g a k f j c :: zfl g a k f (j + 1) cs
def zca (n : Nat) (f : Int → Int) : List Int := (List.range n).map fun (j : Nat) => f (j : Int)
/-- an object of a kind, with its contents -/
def zob (g : yG) (a : Nat → Nat) (k : Nat) (f : Int → Int) : Nat × Nat → yO
  | (0, n) => oi (zca n f)
  | (1, n) => oc (zca n f)
  | (2, n) => ol (zca n f)
  | (3, n) => od ((zca n f).map fp_u)
  | (4, n) => oq 4 ((List.range n).map fun j => some (a (31 + 10 * j)))
  | (5, n) => oq 5 ((List.range n).map fun j => some (a (k + 1 + j)))
  | (t + 6, _) => oo (t - 4) (zfl g a k f 0 (zT (t - 4)))
def zM1 (g : yG) (a : Nat → Nat) (μ : zM) (k : Nat) : Nat × yO := (a k, zob g a k (μ k) (zK k))
def lay (g : yG) (a : Nat → Nat) (μ : zM) : yMem := (List.range zN).map (zM1 g a μ)
theorem lay_at {g : yG} {a : Nat → Nat} {μ : zM} {k : Nat} {o : yO} (hk : k < zN) (ho : zob g a k (μ k) (zK k) = o) : (lay g a μ)[k]? = some (a k, o) := by
  unfold lay
  rw [List.getElem?_map, List.getElem?_range hk, ← ho]; rfl
theorem zmap_set {α : Type} {F F' : Nat → α} {n k : Nat} (hf : ∀ j, j ≠ k → F' j = F j) : ((List.range n).map F).set k (F' k) = (List.range n).map F' := by
  apply List.ext_getElem?
  intro j
  rw [List.getElem?_set, List.getElem?_map, List.getElem?_map]
  by_cases hj : k = j
  · subst hj
    rw [if_pos rfl]
    by_cases hk : k < n
    · rw [if_pos (by rw [List.length_map, List.length_range]; exact hk), List.getElem?_range hk]; rfl
    · rw [if_neg (by rw [List.length_map, List.length_range]; exact hk), List.getElem?_eq_none (by rw [List.length_range]; omega)]; rfl
  · rw [if_neg hj]
    by_cases hk : j < n
    · rw [List.getElem?_range hk]; exact congrArg some (hf j (fun h => hj h.symm)).symm
    · rw [List.getElem?_eq_none (by rw [List.length_range]; omega)]; rfl
theorem lay_set {g : yG} {a : Nat → Nat} {μ : zM} {k : Nat} {o : yO} {i v : Int} (ho : zob g a k (fun j => if j = i then v else μ k j) (zK k) = o) : (lay g a μ).set k (a k, o) = lay g a (st μ k i v) := by
  have h := zmap_set (F := zM1 g a μ) (F' := zM1 g a (st μ k i v)) (n := zN) (k := k) (fun j hj => by
    unfold zM1; congr 2
    funext i'; unfold st; rw [if_neg hj])
  rw [show zM1 g a (st μ k i v) k = (a k, o) by unfold zM1; rw [← ho]; congr 2; funext i'; unfold st; rw [if_pos rfl]] at h
  exact h
/-! contents of arrays -/
theorem zca_len (n : Nat) (f : Int → Int) : (zca n f).length = n := by unfold zca; rw [List.length_map, List.length_range]
theorem zca_get {n : Nat} {f : Int → Int} {i : Int} (h0 : 0 ≤ i) (hn : i < n) : ga (zca n f) i = f i := by
  unfold ga zca
  rw [List.getD_eq_getElem?_getD, List.getElem?_map, List.getElem?_range (by omega)]
  show f ((i.toNat : Nat) : Int) = f i
  rw [Int.toNat_of_nonneg h0]
theorem zca_set {n : Nat} {f : Int → Int} {i v : Int} (h0 : 0 ≤ i) : sa (zca n f) i v = zca n (fun j => if j = i then v else f j) := by
  unfold sa zca
  have h := zmap_set (F := fun j : Nat => f (j : Int)) (F' := fun j : Nat => if (j : Int) = i then v else f (j : Int)) (n := n) (k := i.toNat) (fun j hj => if_neg (by omega))
  rw [show (if ((i.toNat : Nat) : Int) = i then v else f ((i.toNat : Nat) : Int)) = v from if_pos (Int.toNat_of_nonneg h0)] at h
  exact h
theorem zfl_at {g : yG} {a : Nat → Nat} {k : Nat} {f : Int → Int} : ∀ {cs : List Nat} {j i c : Nat}, cs[i]? = some c → (zfl g a k f j cs)[i]? = some (zfv g a k f (j + i) c)
  | [], _, _, _, h => by cases h
  | c' :: cs, j, 0, c, h => by
    cases h; rfl
  | c' :: cs, j, i + 1, c, h => by
    show (zfl g a k f (j + 1) cs)[i]? = _
    rw [zfl_at (cs := cs) (j := j + 1) (i := i) (c := c) h]
    rw [show j + 1 + i = j + (i + 1) by omega]
theorem zfl_len {g : yG} {a : Nat → Nat} {k : Nat} {f : Int → Int} : ∀ (cs : List Nat) (j : Nat), (zfl g a k f j cs).length = cs.length
  | [], _ => rfl
  | _ :: cs, j => by show (zfl g a k f (j + 1) cs).length + 1 = _; rw [zfl_len cs (j + 1)]; rfl
theorem zfv_ne {g : yG} {a : Nat → Nat} {k : Nat} {f : Int → Int} {i j : Nat} {v : Int} (c : Nat) (h : j ≠ i) : zfv g a k (fun x => if x = (i : Int) then v else f x) j c = zfv g a k f j c := by
  have h1 : (if (j : Int) = (i : Int) then v else f (j : Int)) = f (j : Int) := if_neg (by omega)
  rcases c with _ | _ | _ | c
  · exact congrArg vi h1
  · exact congrArg vl h1
  · exact congrArg (fun z : Int => vr (g.2.2.2.1 z.toNat)) h1
  · rfl
theorem zfl_ne {g : yG} {a : Nat → Nat} {k : Nat} {f : Int → Int} {i : Nat} {v : Int} : ∀ (cs : List Nat) (j : Nat), i < j → zfl g a k (fun x => if x = (i : Int) then v else f x) j cs = zfl g a k f j cs
  | [], _, _ => rfl
  | c :: cs, j, h => by
    show zfv g a k _ j c :: zfl g a k _ (j + 1) cs = zfv g a k _ j c :: zfl g a k _ (j + 1) cs
    rw [zfv_ne c (by omega), zfl_ne cs (j + 1) (by omega)]
theorem zfl_set {g : yG} {a : Nat → Nat} {k : Nat} {f : Int → Int} {v : Int} : ∀ {cs : List Nat} {j i c : Nat}, cs[i]? = some c → (zfl g a k f j cs).set i (zfv g a k (fun x => if x = ((j + i : Nat) : Int) then v else f x) (j + i) c) = zfl g a k (fun x => if x = ((j + i : Nat) : Int) then v else f x) j cs
  | [], _, _, _, h => by cases h
  | c' :: cs, j, 0, c, h => by
    cases h
    show zfv g a k (fun x => if x = ((j + 0 : Nat) : Int) then v else f x) (j + 0) c' :: zfl g a k f (j + 1) cs = zfv g a k (fun x => if x = ((j + 0 : Nat) : Int) then v else f x) j c' :: zfl g a k (fun x => if x = ((j + 0 : Nat) : Int) then v else f x) (j + 1) cs
    rw [zfl_ne (i := j + 0) cs (j + 1) (by omega)]
    rfl
  | c' :: cs, j, i + 1, c, h => by
    show zfv g a k f j c' :: (zfl g a k f (j + 1) cs).set i _ = zfv g a k _ j c' :: zfl g a k _ (j + 1) cs
    have h2 := zfl_set (g := g) (a := a) (k := k) (f := f) (v := v) (cs := cs) (j := j + 1) (i := i) (c := c) h
    rw [show j + 1 + i = j + (i + 1) by omega] at h2
    rw [h2, zfv_ne c' (by omega)]
/-! the locals: all places in their order -/
def zL (g : yG) (a : Nat → Nat) : Nat → List (Option zV) → List (Nat × yV)
  | _, [] => []
  | i, none :: l => zL g a (i + 1) l
  | i, some v :: l => (i, tr g a v) :: zL g a (i + 1) l
theorem zL_mem {g : yG} {a : Nat → Nat} : ∀ {l : List (Option zV)} {i : Nat} {q : Nat × yV}, q ∈ zL g a i l ↔ ∃ (j : Nat) (v : zV), l[j]? = some (some v) ∧ q = (i + j, tr g a v)
  | [], i, q => ⟨(fun h => nomatch h), (fun ⟨j, v, h, _⟩ => nomatch h)⟩
  | none :: l, i, q => by
    show q ∈ zL g a (i + 1) l ↔ _
    rw [zL_mem]
    constructor
    · rintro ⟨j, v, h, rfl⟩
      exact ⟨j + 1, v, h, by rw [show i + 1 + j = i + (j + 1) by omega]⟩
    · rintro ⟨j, v, h, rfl⟩
      rcases j with _ | j
      · cases h
      · exact ⟨j, v, h, by rw [show i + 1 + j = i + (j + 1) by omega]⟩
  | some w :: l, i, q => by
    show q ∈ (i, tr g a w) :: zL g a (i + 1) l ↔ _
    rw [List.mem_cons, zL_mem]
    constructor
    · rintro (rfl | ⟨j, v, h, rfl⟩)
      · exact ⟨0, w, rfl, rfl⟩
      · exact ⟨j + 1, v, h, by rw [show i + 1 + j = i + (j + 1) by omega]⟩
    · rintro ⟨j, v, h, rfl⟩
      rcases j with _ | j
      · cases h; exact Or.inl rfl
      · exact Or.inr ⟨j, v, h, by rw [show i + 1 + j = i + (j + 1) by omega]⟩
theorem zL_get {g : yG} {a : Nat → Nat} : ∀ {l : List (Option zV)} {i j : Nat} {v : zV}, l[j]? = some (some v) → y_get (i + j) (zL g a i l) = some (tr g a v)
  | [], _, _, _, h => by cases h
  | none :: l, i, 0, v, h => by cases h
  | none :: l, i, j + 1, v, h => by
    show y_get _ (zL g a (i + 1) l) = _
    rw [show i + (j + 1) = i + 1 + j by omega]
    exact zL_get (l := l) h
  | some w :: l, i, 0, v, h => by
    cases h
    show (bif i == i + 0 then some (tr g a w) else _) = _
    rw [show (i == i + 0) = true from beq_iff_eq.mpr rfl]; rfl
  | some w :: l, i, j + 1, v, h => by
    show (bif i == i + (j + 1) then some (tr g a w) else y_get _ (zL g a (i + 1) l)) = _
    rw [show (i == i + (j + 1)) = false from beq_eq_false_iff_ne.mpr (by omega), show i + (j + 1) = i + 1 + j by omega]
    exact zL_get (l := l) h
def zcat : zV → Nat
  | .inl _ => 1
  | .inr (.inl _) => 2
  | .inr (.inr (.inl _)) => 1
  | .inr (.inr (.inr (.inl _))) => 2
  | .inr (.inr (.inr (.inr _))) => 1
theorem zcat_tr (g : yG) (a : Nat → Nat) (v : zV) : y_cat (tr g a v) = zcat v := by
  rcases v with x | x | x | x | x <;> rfl
/-- no long lies just below place i -/
def zlow (l : List (Option zV)) : Nat → Bool
  | 0 => true
  | i + 1 => match l[i]? with
    | some (some v) => zcat v == 1
    | _ => true
theorem zlow_spec {l : List (Option zV)} {i j : Nat} {v : zV} (h : zlow l i = true) (hj : j + 1 = i) (hv : l[j]? = some (some v)) : zcat v = 1 := by
  subst hj
  have h2 : (match l[j]? with
    | some (some v) => zcat v == 1
    | _ => true) = true := h
  rw [hv] at h2
  exact beq_iff_eq.mp h2
theorem zst_sub {g : yG} {a : Nat → Nat} {l : List (Option zV)} {i : Nat} {v : zV} (h : zlow l i = true) : ∀ q ∈ zL g a 0 (l.set i (some v)), q ∈ y_st i (tr g a v) (zL g a 0 l) := by
  intro q hq
  obtain ⟨j, w, hj, rfl⟩ := zL_mem.mp hq
  rw [Nat.zero_add]
  unfold y_st
  by_cases hij : i = j
  · subst hij
    rw [List.getElem?_set] at hj
    rw [if_pos rfl] at hj
    split at hj
    · cases hj; exact List.mem_cons_self
    · cases hj
  · rw [List.getElem?_set, if_neg hij] at hj
    refine List.mem_cons_of_mem _ (List.mem_filter.mpr ⟨zL_mem.mpr ⟨j, w, hj, by rw [Nat.zero_add]⟩, ?_⟩)
    show (!(j == i) && !(j + 1 == i && y_cat (tr g a w) == 2)) = true
    rw [zcat_tr, show (j == i) = false from beq_eq_false_iff_ne.mpr (fun z => hij z.symm)]
    by_cases h1 : j + 1 = i
    · rw [zlow_spec h h1 hj]; cases (j + 1 == i) <;> rfl
    · rw [show (j + 1 == i) = false from beq_eq_false_iff_ne.mpr h1]; rfl
theorem zst2_sub {g : yG} {a : Nat → Nat} {l : List (Option zV)} {i : Nat} {v : zV} (h : zlow l i = true) : ∀ q ∈ zL g a 0 ((l.set i (some v)).set (i + 1) none), q ∈ y_st2 i (tr g a v) (zL g a 0 l) := by
  intro q hq
  obtain ⟨j, w, hj, rfl⟩ := zL_mem.mp hq
  rw [Nat.zero_add]
  unfold y_st2
  by_cases h2 : i + 1 = j
  · subst h2
    rw [List.getElem?_set, if_pos rfl] at hj
    split at hj <;> cases hj
  rw [List.getElem?_set, if_neg h2] at hj
  by_cases hij : i = j
  · subst hij
    rw [List.getElem?_set] at hj
    rw [if_pos rfl] at hj
    split at hj
    · cases hj; exact List.mem_cons_self
    · cases hj
  · rw [List.getElem?_set, if_neg hij] at hj
    refine List.mem_cons_of_mem _ (List.mem_filter.mpr ⟨zL_mem.mpr ⟨j, w, hj, by rw [Nat.zero_add]⟩, ?_⟩)
    show (!(j == i) && (!(j == i + 1) && !(j + 1 == i && y_cat (tr g a w) == 2))) = true
    rw [zcat_tr, show (j == i) = false from beq_eq_false_iff_ne.mpr (fun z => hij z.symm), show (j == i + 1) = false from beq_eq_false_iff_ne.mpr (fun z => h2 z.symm)]
    by_cases h1 : j + 1 = i
    · rw [zlow_spec h h1 hj]; cases (j + 1 == i) <;> rfl
    · rw [show (j + 1 == i) = false from beq_eq_false_iff_ne.mpr h1]; rfl
/-! ===== the judgements ===== -/
abbrev zO : Type := Option zV ⊕ Nat
def zEx : List String := ["java/util/NoSuchElementException", "java/lang/IndexOutOfBoundsException", "java/lang/IllegalArgumentException", "java/lang/IllegalStateException", "java/lang/UnsupportedOperationException", "java/lang/ArithmeticException"]
def zo (g : yG) (a : Nat → Nat) : zO → yOut
  | .inl r => .inl (r.map (tr g a))
  | .inr e => .inr (zEx.getD e "")
def zQ (g : yG) (a : Nat → Nat) (o : zO) (ν : zM) : yOut → yMem → Prop := fun o' M' => o' = zo g a o ∧ M' = lay g a ν
def zC (g : yG) (a : Nat → Nat) (me : yM0) (d kc ks : Nat) (as : List zV) (μ : zM) (o : zO) (ν : zM) : Prop := yC g me d kc ks (as.map (tr g a)) (lay g a μ) (zQ g a o ν)
def Z (g : yG) (a : Nat → Nat) (me : yM0) (d kc ks pc : Nat) (L : List (Option zV)) (S : List zV) (μ : zM) (o : zO) (ν : zM) : Prop := Y g me d kc ks pc (zL g a 0 L) (S.map (tr g a)) (lay g a μ) (zQ g a o ν)
theorem Y.sub {g : yG} {me : yM0} {d kc ks pc : Nat} {L L' : List (Nat × yV)} {S : List yV} {M : yMem} {Q : yOut → yMem → Prop} (h : Y g me d kc ks pc L' S M Q) (hs : ∀ q ∈ L', q ∈ L) : Y g me d kc ks pc L S M Q := by
  intro p l e s m args below meth c H locs cells slots mc ms ls C h1 h2 hM hL hS' hP hD hS hlv
  exact h p l e s m args below meth c H locs cells slots mc ms ls C h1 h2 hM (fun q hq => hL q (hs q hq)) hS' hP hD hS ⟨hlv.1, hlv.2.1, fun q hq => by
    obtain ⟨q', hq', rfl⟩ := List.mem_map.mp hq
    exact hlv.2.2 _ (List.mem_map.mpr ⟨q', hs q' hq', rfl⟩)⟩
end
