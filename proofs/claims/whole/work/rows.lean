section
-- ===== PART A: goes FIRST, ahead of the names: the tables' words, and 'selects' of the private methods out of them =====
/-- a private method of a class that the tables say can be made, by its rows of tables_1 -/
def lw_okq (q : MethodName × Nat) : Prop := (q.1.cls ≠ "java/lang/invoke/MethodHandle" ∧ q.1.cls ≠ "java/lang/invoke/VarHandle") ∧ Cond.instantiable q.1.cls q.2 ∈ tables_1 ∧ Cond.privateMethod q.1 ∈ tables_1 ∧ Cond.instanceMethod q.1 ∈ tables_1
theorem lw_p0 : lw_okq (⟨"FirstParts$Packed", "order", "()I"⟩, 6) := ⟨⟨by decide +kernel, by decide +kernel⟩, List.mem_of_getElem? (i := 211) (by decide +kernel), List.mem_of_getElem? (i := 224) (by decide +kernel), List.mem_of_getElem? (i := 225) (by decide +kernel)⟩
theorem lw_p1 : lw_okq (⟨"FirstParts$Packed", "fill", "(LFirstParts$Packet;I)V"⟩, 6) := ⟨⟨by decide +kernel, by decide +kernel⟩, List.mem_of_getElem? (i := 211) (by decide +kernel), List.mem_of_getElem? (i := 264) (by decide +kernel), List.mem_of_getElem? (i := 265) (by decide +kernel)⟩
theorem lw_p2 : lw_okq (⟨"FirstParts$Reader", "takeClause", "(LFirstParts$Clause;)Z"⟩, 8) := ⟨⟨by decide +kernel, by decide +kernel⟩, List.mem_of_getElem? (i := 47) (by decide +kernel), List.mem_of_getElem? (i := 395) (by decide +kernel), List.mem_of_getElem? (i := 396) (by decide +kernel)⟩
theorem lw_p3 : lw_okq (⟨"FirstParts$Reader", "takeToken", "()V"⟩, 8) := ⟨⟨by decide +kernel, by decide +kernel⟩, List.mem_of_getElem? (i := 47) (by decide +kernel), List.mem_of_getElem? (i := 399) (by decide +kernel), List.mem_of_getElem? (i := 400) (by decide +kernel)⟩
theorem lw_p4 : lw_okq (⟨"FirstParts$Reader", "takeFirst", "(LFirstParts$Clause;I)Z"⟩, 8) := ⟨⟨by decide +kernel, by decide +kernel⟩, List.mem_of_getElem? (i := 47) (by decide +kernel), List.mem_of_getElem? (i := 470) (by decide +kernel), List.mem_of_getElem? (i := 471) (by decide +kernel)⟩
theorem lw_p5 : lw_okq (⟨"FirstParts$Reader", "takeNumber", "(I)Z"⟩, 8) := ⟨⟨by decide +kernel, by decide +kernel⟩, List.mem_of_getElem? (i := 47) (by decide +kernel), List.mem_of_getElem? (i := 474) (by decide +kernel), List.mem_of_getElem? (i := 475) (by decide +kernel)⟩
theorem lw_p6 : lw_okq (⟨"FirstParts$Reader", "takeWord", "(LFirstParts$Clause;)Z"⟩, 8) := ⟨⟨by decide +kernel, by decide +kernel⟩, List.mem_of_getElem? (i := 47) (by decide +kernel), List.mem_of_getElem? (i := 481) (by decide +kernel), List.mem_of_getElem? (i := 482) (by decide +kernel)⟩
theorem lw_p7 : lw_okq (⟨"FirstParts$Reader", "takeSecond", "(LFirstParts$Clause;I)Z"⟩, 8) := ⟨⟨by decide +kernel, by decide +kernel⟩, List.mem_of_getElem? (i := 47) (by decide +kernel), List.mem_of_getElem? (i := 485) (by decide +kernel), List.mem_of_getElem? (i := 486) (by decide +kernel)⟩
theorem lw_p8 : lw_okq (⟨"FirstParts", "carryOut", "(LFirstParts$Clause;)V"⟩, 7) := ⟨⟨by decide +kernel, by decide +kernel⟩, List.mem_of_getElem? (i := 22) (by decide +kernel), List.mem_of_getElem? (i := 494) (by decide +kernel), List.mem_of_getElem? (i := 495) (by decide +kernel)⟩
theorem lw_p9 : lw_okq (⟨"FirstParts", "partOf", "(LFirstParts$Clause;)LFirstParts$Part;"⟩, 7) := ⟨⟨by decide +kernel, by decide +kernel⟩, List.mem_of_getElem? (i := 22) (by decide +kernel), List.mem_of_getElem? (i := 502) (by decide +kernel), List.mem_of_getElem? (i := 503) (by decide +kernel)⟩
theorem lw_p10 : lw_okq (⟨"FirstParts$Curve", "goThrough", "(I)V"⟩, 7) := ⟨⟨by decide +kernel, by decide +kernel⟩, List.mem_of_getElem? (i := 182) (by decide +kernel), List.mem_of_getElem? (i := 676) (by decide +kernel), List.mem_of_getElem? (i := 677) (by decide +kernel)⟩
theorem lw_p11 : lw_okq (⟨"FirstParts$Curve", "divideDifferences", "()V"⟩, 7) := ⟨⟨by decide +kernel, by decide +kernel⟩, List.mem_of_getElem? (i := 182) (by decide +kernel), List.mem_of_getElem? (i := 680) (by decide +kernel), List.mem_of_getElem? (i := 681) (by decide +kernel)⟩
theorem lw_p12 : lw_okq (⟨"FirstParts$Curve", "multiplyOut", "()V"⟩, 7) := ⟨⟨by decide +kernel, by decide +kernel⟩, List.mem_of_getElem? (i := 182) (by decide +kernel), List.mem_of_getElem? (i := 687) (by decide +kernel), List.mem_of_getElem? (i := 688) (by decide +kernel)⟩
theorem lw_p13 : lw_okq (⟨"FirstParts$Packed", "holdersAt", "(I)I"⟩, 6) := ⟨⟨by decide +kernel, by decide +kernel⟩, List.mem_of_getElem? (i := 211) (by decide +kernel), List.mem_of_getElem? (i := 700) (by decide +kernel), List.mem_of_getElem? (i := 701) (by decide +kernel)⟩
theorem lw_p14 : lw_okq (⟨"FirstParts$Packed", "blames", "(IIILFirstParts$Curve;)Z"⟩, 6) := ⟨⟨by decide +kernel, by decide +kernel⟩, List.mem_of_getElem? (i := 211) (by decide +kernel), List.mem_of_getElem? (i := 752) (by decide +kernel), List.mem_of_getElem? (i := 753) (by decide +kernel)⟩
theorem lw_p15 : lw_okq (⟨"FirstParts$Planner", "leastFrom", "(LFirstParts$Line;II)I"⟩, 3) := ⟨⟨by decide +kernel, by decide +kernel⟩, List.mem_of_getElem? (i := 162) (by decide +kernel), List.mem_of_getElem? (i := 777) (by decide +kernel), List.mem_of_getElem? (i := 778) (by decide +kernel)⟩
def lw_privs_1 : List (MethodName × Nat) := [(⟨"FirstParts$Packed", "order", "()I"⟩, 6), (⟨"FirstParts$Packed", "fill", "(LFirstParts$Packet;I)V"⟩, 6), (⟨"FirstParts$Reader", "takeClause", "(LFirstParts$Clause;)Z"⟩, 8), (⟨"FirstParts$Reader", "takeToken", "()V"⟩, 8), (⟨"FirstParts$Reader", "takeFirst", "(LFirstParts$Clause;I)Z"⟩, 8), (⟨"FirstParts$Reader", "takeNumber", "(I)Z"⟩, 8), (⟨"FirstParts$Reader", "takeWord", "(LFirstParts$Clause;)Z"⟩, 8), (⟨"FirstParts$Reader", "takeSecond", "(LFirstParts$Clause;I)Z"⟩, 8), (⟨"FirstParts", "carryOut", "(LFirstParts$Clause;)V"⟩, 7), (⟨"FirstParts", "partOf", "(LFirstParts$Clause;)LFirstParts$Part;"⟩, 7), (⟨"FirstParts$Curve", "goThrough", "(I)V"⟩, 7), (⟨"FirstParts$Curve", "divideDifferences", "()V"⟩, 7), (⟨"FirstParts$Curve", "multiplyOut", "()V"⟩, 7), (⟨"FirstParts$Packed", "holdersAt", "(I)I"⟩, 6), (⟨"FirstParts$Packed", "blames", "(IIILFirstParts$Curve;)Z"⟩, 6), (⟨"FirstParts$Planner", "leastFrom", "(LFirstParts$Line;II)I"⟩, 3)]
theorem lw_r1 : ∀ q ∈ lw_privs_1, lw_okq q := List.forall_mem_cons.mpr ⟨lw_p0, List.forall_mem_cons.mpr ⟨lw_p1, List.forall_mem_cons.mpr ⟨lw_p2, List.forall_mem_cons.mpr ⟨lw_p3, List.forall_mem_cons.mpr ⟨lw_p4, List.forall_mem_cons.mpr ⟨lw_p5, List.forall_mem_cons.mpr ⟨lw_p6, List.forall_mem_cons.mpr ⟨lw_p7, List.forall_mem_cons.mpr ⟨lw_p8, List.forall_mem_cons.mpr ⟨lw_p9, List.forall_mem_cons.mpr ⟨lw_p10, List.forall_mem_cons.mpr ⟨lw_p11, List.forall_mem_cons.mpr ⟨lw_p12, List.forall_mem_cons.mpr ⟨lw_p13, List.forall_mem_cons.mpr ⟨lw_p14, List.forall_mem_cons.mpr ⟨lw_p15, fun _ h => absurd h List.not_mem_nil⟩⟩⟩⟩⟩⟩⟩⟩⟩⟩⟩⟩⟩⟩⟩⟩
theorem lw_p16 : lw_okq (⟨"FirstParts$Planner", "costWith", "(LFirstParts$Part;III)I"⟩, 3) := ⟨⟨by decide +kernel, by decide +kernel⟩, List.mem_of_getElem? (i := 162) (by decide +kernel), List.mem_of_getElem? (i := 782) (by decide +kernel), List.mem_of_getElem? (i := 783) (by decide +kernel)⟩
theorem lw_p17 : lw_okq (⟨"FirstParts$Planner", "chooseNeeds", "(LFirstParts$Line;)V"⟩, 3) := ⟨⟨by decide +kernel, by decide +kernel⟩, List.mem_of_getElem? (i := 162) (by decide +kernel), List.mem_of_getElem? (i := 788) (by decide +kernel), List.mem_of_getElem? (i := 789) (by decide +kernel)⟩
theorem lw_p18 : lw_okq (⟨"FirstParts$Line", "weightWithin", "(II)I"⟩, 4) := ⟨⟨by decide +kernel, by decide +kernel⟩, List.mem_of_getElem? (i := 108) (by decide +kernel), List.mem_of_getElem? (i := 801) (by decide +kernel), List.mem_of_getElem? (i := 802) (by decide +kernel)⟩
theorem lw_p19 : lw_okq (⟨"FirstPartsModel", "readsAll", "(Z)Z"⟩, 14) := ⟨⟨by decide +kernel, by decide +kernel⟩, List.mem_of_getElem? (i := 823) (by decide +kernel), List.mem_of_getElem? (i := 888) (by decide +kernel), List.mem_of_getElem? (i := 889) (by decide +kernel)⟩
theorem lw_p20 : lw_okq (⟨"FirstPartsModel", "next", "()V"⟩, 14) := ⟨⟨by decide +kernel, by decide +kernel⟩, List.mem_of_getElem? (i := 823) (by decide +kernel), List.mem_of_getElem? (i := 892) (by decide +kernel), List.mem_of_getElem? (i := 893) (by decide +kernel)⟩
theorem lw_p21 : lw_okq (⟨"FirstPartsModel", "readsClause", "()Z"⟩, 14) := ⟨⟨by decide +kernel, by decide +kernel⟩, List.mem_of_getElem? (i := 823) (by decide +kernel), List.mem_of_getElem? (i := 906) (by decide +kernel), List.mem_of_getElem? (i := 907) (by decide +kernel)⟩
theorem lw_p22 : lw_okq (⟨"FirstPartsModel", "wordHere", "()I"⟩, 14) := ⟨⟨by decide +kernel, by decide +kernel⟩, List.mem_of_getElem? (i := 823) (by decide +kernel), List.mem_of_getElem? (i := 910) (by decide +kernel), List.mem_of_getElem? (i := 911) (by decide +kernel)⟩
theorem lw_p23 : lw_okq (⟨"FirstPartsModel", "readsPart", "()Z"⟩, 14) := ⟨⟨by decide +kernel, by decide +kernel⟩, List.mem_of_getElem? (i := 823) (by decide +kernel), List.mem_of_getElem? (i := 914) (by decide +kernel), List.mem_of_getElem? (i := 915) (by decide +kernel)⟩
theorem lw_p24 : lw_okq (⟨"FirstPartsModel", "reads", "(III)Z"⟩, 14) := ⟨⟨by decide +kernel, by decide +kernel⟩, List.mem_of_getElem? (i := 823) (by decide +kernel), List.mem_of_getElem? (i := 918) (by decide +kernel), List.mem_of_getElem? (i := 919) (by decide +kernel)⟩
theorem lw_p25 : lw_okq (⟨"FirstPartsModel", "isPart", "(I)Z"⟩, 14) := ⟨⟨by decide +kernel, by decide +kernel⟩, List.mem_of_getElem? (i := 823) (by decide +kernel), List.mem_of_getElem? (i := 933) (by decide +kernel), List.mem_of_getElem? (i := 934) (by decide +kernel)⟩
theorem lw_p26 : lw_okq (⟨"FirstPartsModel", "stripesOf", "(I)I"⟩, 14) := ⟨⟨by decide +kernel, by decide +kernel⟩, List.mem_of_getElem? (i := 823) (by decide +kernel), List.mem_of_getElem? (i := 938) (by decide +kernel), List.mem_of_getElem? (i := 939) (by decide +kernel)⟩
theorem lw_p27 : lw_okq (⟨"FirstPartsModel", "changes", "(II)I"⟩, 14) := ⟨⟨by decide +kernel, by decide +kernel⟩, List.mem_of_getElem? (i := 823) (by decide +kernel), List.mem_of_getElem? (i := 954) (by decide +kernel), List.mem_of_getElem? (i := 955) (by decide +kernel)⟩
theorem lw_p28 : lw_okq (⟨"FirstPartsModel", "notes", "()V"⟩, 14) := ⟨⟨by decide +kernel, by decide +kernel⟩, List.mem_of_getElem? (i := 823) (by decide +kernel), List.mem_of_getElem? (i := 958) (by decide +kernel), List.mem_of_getElem? (i := 959) (by decide +kernel)⟩
theorem lw_p29 : lw_okq (⟨"FirstPartsModel", "copyRow", "(II)V"⟩, 14) := ⟨⟨by decide +kernel, by decide +kernel⟩, List.mem_of_getElem? (i := 823) (by decide +kernel), List.mem_of_getElem? (i := 962) (by decide +kernel), List.mem_of_getElem? (i := 963) (by decide +kernel)⟩
theorem lw_p30 : lw_okq (⟨"FirstPartsModel", "isFit", "()Z"⟩, 14) := ⟨⟨by decide +kernel, by decide +kernel⟩, List.mem_of_getElem? (i := 823) (by decide +kernel), List.mem_of_getElem? (i := 988) (by decide +kernel), List.mem_of_getElem? (i := 989) (by decide +kernel)⟩
theorem lw_p31 : lw_okq (⟨"FirstPartsModel", "lengthOf", "(I)I"⟩, 14) := ⟨⟨by decide +kernel, by decide +kernel⟩, List.mem_of_getElem? (i := 823) (by decide +kernel), List.mem_of_getElem? (i := 992) (by decide +kernel), List.mem_of_getElem? (i := 993) (by decide +kernel)⟩
def lw_privs_2 : List (MethodName × Nat) := [(⟨"FirstParts$Planner", "costWith", "(LFirstParts$Part;III)I"⟩, 3), (⟨"FirstParts$Planner", "chooseNeeds", "(LFirstParts$Line;)V"⟩, 3), (⟨"FirstParts$Line", "weightWithin", "(II)I"⟩, 4), (⟨"FirstPartsModel", "readsAll", "(Z)Z"⟩, 14), (⟨"FirstPartsModel", "next", "()V"⟩, 14), (⟨"FirstPartsModel", "readsClause", "()Z"⟩, 14), (⟨"FirstPartsModel", "wordHere", "()I"⟩, 14), (⟨"FirstPartsModel", "readsPart", "()Z"⟩, 14), (⟨"FirstPartsModel", "reads", "(III)Z"⟩, 14), (⟨"FirstPartsModel", "isPart", "(I)Z"⟩, 14), (⟨"FirstPartsModel", "stripesOf", "(I)I"⟩, 14), (⟨"FirstPartsModel", "changes", "(II)I"⟩, 14), (⟨"FirstPartsModel", "notes", "()V"⟩, 14), (⟨"FirstPartsModel", "copyRow", "(II)V"⟩, 14), (⟨"FirstPartsModel", "isFit", "()Z"⟩, 14), (⟨"FirstPartsModel", "lengthOf", "(I)I"⟩, 14)]
theorem lw_r2 : ∀ q ∈ lw_privs_2, lw_okq q := List.forall_mem_cons.mpr ⟨lw_p16, List.forall_mem_cons.mpr ⟨lw_p17, List.forall_mem_cons.mpr ⟨lw_p18, List.forall_mem_cons.mpr ⟨lw_p19, List.forall_mem_cons.mpr ⟨lw_p20, List.forall_mem_cons.mpr ⟨lw_p21, List.forall_mem_cons.mpr ⟨lw_p22, List.forall_mem_cons.mpr ⟨lw_p23, List.forall_mem_cons.mpr ⟨lw_p24, List.forall_mem_cons.mpr ⟨lw_p25, List.forall_mem_cons.mpr ⟨lw_p26, List.forall_mem_cons.mpr ⟨lw_p27, List.forall_mem_cons.mpr ⟨lw_p28, List.forall_mem_cons.mpr ⟨lw_p29, List.forall_mem_cons.mpr ⟨lw_p30, List.forall_mem_cons.mpr ⟨lw_p31, fun _ h => absurd h List.not_mem_nil⟩⟩⟩⟩⟩⟩⟩⟩⟩⟩⟩⟩⟩⟩⟩⟩
theorem lw_p32 : lw_okq (⟨"FirstPartsModel", "packs", "(II)V"⟩, 14) := ⟨⟨by decide +kernel, by decide +kernel⟩, List.mem_of_getElem? (i := 823) (by decide +kernel), List.mem_of_getElem? (i := 996) (by decide +kernel), List.mem_of_getElem? (i := 997) (by decide +kernel)⟩
theorem lw_p33 : lw_okq (⟨"FirstPartsModel", "isPacket", "(I)Z"⟩, 14) := ⟨⟨by decide +kernel, by decide +kernel⟩, List.mem_of_getElem? (i := 823) (by decide +kernel), List.mem_of_getElem? (i := 1007) (by decide +kernel), List.mem_of_getElem? (i := 1008) (by decide +kernel)⟩
theorem lw_p34 : lw_okq (⟨"FirstPartsModel", "hasNumber", "(II)Z"⟩, 14) := ⟨⟨by decide +kernel, by decide +kernel⟩, List.mem_of_getElem? (i := 823) (by decide +kernel), List.mem_of_getElem? (i := 1019) (by decide +kernel), List.mem_of_getElem? (i := 1020) (by decide +kernel)⟩
theorem lw_p35 : lw_okq (⟨"FirstPartsModel", "isPacked", "(I)Z"⟩, 14) := ⟨⟨by decide +kernel, by decide +kernel⟩, List.mem_of_getElem? (i := 823) (by decide +kernel), List.mem_of_getElem? (i := 1040) (by decide +kernel), List.mem_of_getElem? (i := 1041) (by decide +kernel)⟩
theorem lw_p36 : lw_okq (⟨"FirstPartsModel", "stateOf", "(I)I"⟩, 14) := ⟨⟨by decide +kernel, by decide +kernel⟩, List.mem_of_getElem? (i := 823) (by decide +kernel), List.mem_of_getElem? (i := 1044) (by decide +kernel), List.mem_of_getElem? (i := 1045) (by decide +kernel)⟩
theorem lw_p37 : lw_okq (⟨"FirstPartsModel", "fewest", "(I)I"⟩, 14) := ⟨⟨by decide +kernel, by decide +kernel⟩, List.mem_of_getElem? (i := 823) (by decide +kernel), List.mem_of_getElem? (i := 1048) (by decide +kernel), List.mem_of_getElem? (i := 1049) (by decide +kernel)⟩
theorem lw_p38 : lw_okq (⟨"FirstPartsModel", "packedStripes", "(I)I"⟩, 14) := ⟨⟨by decide +kernel, by decide +kernel⟩, List.mem_of_getElem? (i := 823) (by decide +kernel), List.mem_of_getElem? (i := 1052) (by decide +kernel), List.mem_of_getElem? (i := 1053) (by decide +kernel)⟩
theorem lw_p39 : lw_okq (⟨"FirstPartsModel", "packedNeed", "(I)I"⟩, 14) := ⟨⟨by decide +kernel, by decide +kernel⟩, List.mem_of_getElem? (i := 823) (by decide +kernel), List.mem_of_getElem? (i := 1056) (by decide +kernel), List.mem_of_getElem? (i := 1057) (by decide +kernel)⟩
theorem lw_p40 : lw_okq (⟨"FirstPartsModel", "packedFirst", "(I)I"⟩, 14) := ⟨⟨by decide +kernel, by decide +kernel⟩, List.mem_of_getElem? (i := 823) (by decide +kernel), List.mem_of_getElem? (i := 1060) (by decide +kernel), List.mem_of_getElem? (i := 1061) (by decide +kernel)⟩
theorem lw_p41 : lw_okq (⟨"FirstPartsModel", "holders", "(I)I"⟩, 14) := ⟨⟨by decide +kernel, by decide +kernel⟩, List.mem_of_getElem? (i := 823) (by decide +kernel), List.mem_of_getElem? (i := 1064) (by decide +kernel), List.mem_of_getElem? (i := 1065) (by decide +kernel)⟩
theorem lw_p42 : lw_okq (⟨"FirstPartsModel", "isDoubted", "(I)Z"⟩, 14) := ⟨⟨by decide +kernel, by decide +kernel⟩, List.mem_of_getElem? (i := 823) (by decide +kernel), List.mem_of_getElem? (i := 1071) (by decide +kernel), List.mem_of_getElem? (i := 1072) (by decide +kernel)⟩
theorem lw_p43 : lw_okq (⟨"FirstPartsModel", "lays", "(II)V"⟩, 14) := ⟨⟨by decide +kernel, by decide +kernel⟩, List.mem_of_getElem? (i := 823) (by decide +kernel), List.mem_of_getElem? (i := 1078) (by decide +kernel), List.mem_of_getElem? (i := 1079) (by decide +kernel)⟩
theorem lw_p44 : lw_okq (⟨"FirstPartsModel", "at", "([III)I"⟩, 14) := ⟨⟨by decide +kernel, by decide +kernel⟩, List.mem_of_getElem? (i := 823) (by decide +kernel), List.mem_of_getElem? (i := 1082) (by decide +kernel), List.mem_of_getElem? (i := 1083) (by decide +kernel)⟩
theorem lw_p45 : lw_okq (⟨"FirstPartsModel", "on", "(II)I"⟩, 14) := ⟨⟨by decide +kernel, by decide +kernel⟩, List.mem_of_getElem? (i := 823) (by decide +kernel), List.mem_of_getElem? (i := 1089) (by decide +kernel), List.mem_of_getElem? (i := 1090) (by decide +kernel)⟩
theorem lw_p46 : lw_okq (⟨"FirstPartsModel", "opening", "(I)I"⟩, 14) := ⟨⟨by decide +kernel, by decide +kernel⟩, List.mem_of_getElem? (i := 823) (by decide +kernel), List.mem_of_getElem? (i := 1093) (by decide +kernel), List.mem_of_getElem? (i := 1094) (by decide +kernel)⟩
theorem lw_p47 : lw_okq (⟨"FirstPartsModel", "mends", "(II)Z"⟩, 14) := ⟨⟨by decide +kernel, by decide +kernel⟩, List.mem_of_getElem? (i := 823) (by decide +kernel), List.mem_of_getElem? (i := 1105) (by decide +kernel), List.mem_of_getElem? (i := 1106) (by decide +kernel)⟩
def lw_privs_3 : List (MethodName × Nat) := [(⟨"FirstPartsModel", "packs", "(II)V"⟩, 14), (⟨"FirstPartsModel", "isPacket", "(I)Z"⟩, 14), (⟨"FirstPartsModel", "hasNumber", "(II)Z"⟩, 14), (⟨"FirstPartsModel", "isPacked", "(I)Z"⟩, 14), (⟨"FirstPartsModel", "stateOf", "(I)I"⟩, 14), (⟨"FirstPartsModel", "fewest", "(I)I"⟩, 14), (⟨"FirstPartsModel", "packedStripes", "(I)I"⟩, 14), (⟨"FirstPartsModel", "packedNeed", "(I)I"⟩, 14), (⟨"FirstPartsModel", "packedFirst", "(I)I"⟩, 14), (⟨"FirstPartsModel", "holders", "(I)I"⟩, 14), (⟨"FirstPartsModel", "isDoubted", "(I)Z"⟩, 14), (⟨"FirstPartsModel", "lays", "(II)V"⟩, 14), (⟨"FirstPartsModel", "at", "([III)I"⟩, 14), (⟨"FirstPartsModel", "on", "(II)I"⟩, 14), (⟨"FirstPartsModel", "opening", "(I)I"⟩, 14), (⟨"FirstPartsModel", "mends", "(II)Z"⟩, 14)]
theorem lw_r3 : ∀ q ∈ lw_privs_3, lw_okq q := List.forall_mem_cons.mpr ⟨lw_p32, List.forall_mem_cons.mpr ⟨lw_p33, List.forall_mem_cons.mpr ⟨lw_p34, List.forall_mem_cons.mpr ⟨lw_p35, List.forall_mem_cons.mpr ⟨lw_p36, List.forall_mem_cons.mpr ⟨lw_p37, List.forall_mem_cons.mpr ⟨lw_p38, List.forall_mem_cons.mpr ⟨lw_p39, List.forall_mem_cons.mpr ⟨lw_p40, List.forall_mem_cons.mpr ⟨lw_p41, List.forall_mem_cons.mpr ⟨lw_p42, List.forall_mem_cons.mpr ⟨lw_p43, List.forall_mem_cons.mpr ⟨lw_p44, List.forall_mem_cons.mpr ⟨lw_p45, List.forall_mem_cons.mpr ⟨lw_p46, List.forall_mem_cons.mpr ⟨lw_p47, fun _ h => absurd h List.not_mem_nil⟩⟩⟩⟩⟩⟩⟩⟩⟩⟩⟩⟩⟩⟩⟩⟩
theorem lw_p48 : lw_okq (⟨"FirstPartsModel", "plans", "()I"⟩, 14) := ⟨⟨by decide +kernel, by decide +kernel⟩, List.mem_of_getElem? (i := 823) (by decide +kernel), List.mem_of_getElem? (i := 1121) (by decide +kernel), List.mem_of_getElem? (i := 1122) (by decide +kernel)⟩
theorem lw_p49 : lw_okq (⟨"FirstPartsModel", "cost", "(III)I"⟩, 14) := ⟨⟨by decide +kernel, by decide +kernel⟩, List.mem_of_getElem? (i := 823) (by decide +kernel), List.mem_of_getElem? (i := 1126) (by decide +kernel), List.mem_of_getElem? (i := 1127) (by decide +kernel)⟩
theorem lw_p50 : lw_okq (⟨"FirstPartsModel", "weights", "()I"⟩, 14) := ⟨⟨by decide +kernel, by decide +kernel⟩, List.mem_of_getElem? (i := 823) (by decide +kernel), List.mem_of_getElem? (i := 1138) (by decide +kernel), List.mem_of_getElem? (i := 1139) (by decide +kernel)⟩
theorem lw_p51 : lw_okq (⟨"FirstPartsModel", "lostMany", "()I"⟩, 14) := ⟨⟨by decide +kernel, by decide +kernel⟩, List.mem_of_getElem? (i := 823) (by decide +kernel), List.mem_of_getElem? (i := 1142) (by decide +kernel), List.mem_of_getElem? (i := 1143) (by decide +kernel)⟩
theorem lw_p52 : lw_okq (⟨"FirstPartsModel", "inState", "(I)I"⟩, 14) := ⟨⟨by decide +kernel, by decide +kernel⟩, List.mem_of_getElem? (i := 823) (by decide +kernel), List.mem_of_getElem? (i := 1146) (by decide +kernel), List.mem_of_getElem? (i := 1147) (by decide +kernel)⟩
def lw_privs_4 : List (MethodName × Nat) := [(⟨"FirstPartsModel", "plans", "()I"⟩, 14), (⟨"FirstPartsModel", "cost", "(III)I"⟩, 14), (⟨"FirstPartsModel", "weights", "()I"⟩, 14), (⟨"FirstPartsModel", "lostMany", "()I"⟩, 14), (⟨"FirstPartsModel", "inState", "(I)I"⟩, 14)]
theorem lw_r4 : ∀ q ∈ lw_privs_4, lw_okq q := List.forall_mem_cons.mpr ⟨lw_p48, List.forall_mem_cons.mpr ⟨lw_p49, List.forall_mem_cons.mpr ⟨lw_p50, List.forall_mem_cons.mpr ⟨lw_p51, List.forall_mem_cons.mpr ⟨lw_p52, fun _ h => absurd h List.not_mem_nil⟩⟩⟩⟩⟩
def lw_privs : List (MethodName × Nat) := lw_privs_1 ++ (lw_privs_2 ++ (lw_privs_3 ++ (lw_privs_4)))
def lw_tbl : List Cond := k2_sels lw_privs ++ tables_1
theorem lw_privs_ok : ∀ q ∈ lw_privs, lw_okq q := by
  show ∀ q ∈ lw_privs_1 ++ (lw_privs_2 ++ (lw_privs_3 ++ (lw_privs_4))), lw_okq q
  exact List.forall_mem_append.mpr ⟨lw_r1, List.forall_mem_append.mpr ⟨lw_r2, List.forall_mem_append.mpr ⟨lw_r3, lw_r4⟩⟩⟩
end
section
def RX0 : String := "FirstParts$Clause"
def TX0 : u_T := fun k => match k with
  | 0 => ("FirstParts$Clause", "verb", "I", false)
  | 1 => ("FirstParts$Clause", "wordFrom", "I", false)
  | 2 => ("FirstParts$Clause", "wordLength", "I", false)
  | 3 => ("FirstParts$Clause", "first", "I", false)
  | _ => ("FirstParts$Clause", "second", "I", false)
def tyX0 : Nat → FieldType := fun k => match k with
  | 0 => .int
  | 1 => .int
  | 2 => .int
  | 3 => .int
  | _ => .int
abbrev wsX00 : List Cond := u_ws RX0 TX0 5
theorem nmX0 : ∀ a, a < 5 → ∀ b, b < 5 → a ≠ b → (TX0 a).2.1 ≠ (TX0 b).2.1 := by decide +kernel
theorem tyX0_ok : ∀ k, k < 5 → parseFieldDescriptor (TX0 k).2.2.1 = some (tyX0 k) := by decide +kernel
abbrev cX0_init : ByteArray := prog_2_method_1_code
def yX0_init : MethodName := ⟨RX0, "<init>", "()V"⟩
def RX1 : String := "FirstParts$Curve"
def TX1 : u_T := fun k => match k with
  | 0 => ("FirstParts$Curve", "x", "[I", true)
  | 1 => ("FirstParts$Curve", "y", "[I", true)
  | 2 => ("FirstParts$Curve", "holders", "I", false)
  | 3 => ("FirstParts$Curve", "size", "I", false)
  | 4 => ("FirstParts$Curve", "chosen", "[I", true)
  | 5 => ("FirstParts$Curve", "slope", "[I", true)
  | _ => ("FirstParts$Curve", "numbers", "[I", true)
def tyX1 : Nat → FieldType := fun k => match k with
  | 0 => .array .int
  | 1 => .array .int
  | 2 => .int
  | 3 => .int
  | 4 => .array .int
  | 5 => .array .int
  | _ => .array .int
abbrev wsX10 : List Cond := u_ws RX1 TX1 7
theorem nmX1 : ∀ a, a < 7 → ∀ b, b < 7 → a ≠ b → (TX1 a).2.1 ≠ (TX1 b).2.1 := by decide +kernel
theorem tyX1_ok : ∀ k, k < 7 → parseFieldDescriptor (TX1 k).2.2.1 = some (tyX1 k) := by decide +kernel
abbrev cX1_init : ByteArray := prog_3_method_1_code
def yX1_init : MethodName := ⟨RX1, "<init>", "()V"⟩
abbrev cX1_begin : ByteArray := prog_3_method_2_code
def yX1_begin : MethodName := ⟨RX1, "begin", "(I)V"⟩
abbrev cX1_hold : ByteArray := prog_3_method_3_code
def yX1_hold : MethodName := ⟨RX1, "hold", "(II)V"⟩
abbrev cX1_hasEnough : ByteArray := prog_3_method_4_code
def yX1_hasEnough : MethodName := ⟨RX1, "hasEnough", "()Z"⟩
abbrev cX1_goThroughFirst : ByteArray := prog_3_method_5_code
def yX1_goThroughFirst : MethodName := ⟨RX1, "goThroughFirst", "()V"⟩
abbrev cX1_mend : ByteArray := prog_3_method_6_code
def yX1_mend : MethodName := ⟨RX1, "mend", "()Z"⟩
abbrev cX1_coefficient : ByteArray := prog_3_method_7_code
def yX1_coefficient : MethodName := ⟨RX1, "coefficient", "(I)I"⟩
abbrev cX1_at : ByteArray := prog_3_method_8_code
def yX1_at : MethodName := ⟨RX1, "at", "(I)I"⟩
abbrev cX1_agreeing : ByteArray := prog_3_method_9_code
def yX1_agreeing : MethodName := ⟨RX1, "agreeing", "()I"⟩
abbrev cX1_goThrough : ByteArray := prog_3_method_10_code
def yX1_goThrough : MethodName := ⟨RX1, "goThrough", "(I)V"⟩
abbrev cX1_divideDifferences : ByteArray := prog_3_method_11_code
def yX1_divideDifferences : MethodName := ⟨RX1, "divideDifferences", "()V"⟩
abbrev cX1_multiplyOut : ByteArray := prog_3_method_12_code
def yX1_multiplyOut : MethodName := ⟨RX1, "multiplyOut", "()V"⟩
def RX2 : String := "FirstParts$Line"
def TX2 : u_T := fun k => match k with
  | 0 => ("FirstParts$Line", "row", "[LFirstParts$Part;", true)
  | 1 => ("FirstParts$Line", "parts", "I", false)
  | 2 => ("FirstParts$Line", "packets", "I", false)
  | _ => ("FirstParts$Line", "room", "I", false)
def tyX2 : Nat → FieldType := fun k => match k with
  | 0 => .array (.object "FirstParts$Part")
  | 1 => .int
  | 2 => .int
  | _ => .int
abbrev wsX20 : List Cond := u_ws RX2 TX2 4
theorem nmX2 : ∀ a, a < 4 → ∀ b, b < 4 → a ≠ b → (TX2 a).2.1 ≠ (TX2 b).2.1 := by decide +kernel
theorem tyX2_ok : ∀ k, k < 4 → parseFieldDescriptor (TX2 k).2.2.1 = some (tyX2 k) := by decide +kernel
abbrev cX2_init : ByteArray := prog_4_method_1_code
def yX2_init : MethodName := ⟨RX2, "<init>", "()V"⟩
abbrev cX2_beginAnew : ByteArray := prog_4_method_2_code
def yX2_beginAnew : MethodName := ⟨RX2, "beginAnew", "()V"⟩
abbrev cX2_copyOf : ByteArray := prog_4_method_3_code
def yX2_copyOf : MethodName := ⟨RX2, "copyOf", "(LFirstParts$Line;)V"⟩
abbrev cX2_has : ByteArray := prog_4_method_4_code
def yX2_has : MethodName := ⟨RX2, "has", "(I)Z"⟩
abbrev cX2_append : ByteArray := prog_4_method_5_code
def yX2_append : MethodName := ⟨RX2, "append", "(LFirstParts$Part;)V"⟩
abbrev cX2_takeOut : ByteArray := prog_4_method_6_code
def yX2_takeOut : MethodName := ⟨RX2, "takeOut", "(I)V"⟩
abbrev cX2_length : ByteArray := prog_4_method_7_code
def yX2_length : MethodName := ⟨RX2, "length", "()I"⟩
abbrev cX2_cost : ByteArray := prog_4_method_8_code
def yX2_cost : MethodName := ⟨RX2, "cost", "()I"⟩
abbrev cX2_fits : ByteArray := prog_4_method_9_code
def yX2_fits : MethodName := ⟨RX2, "fits", "()Z"⟩
abbrev cX2_heaviestWithin : ByteArray := prog_4_method_10_code
def yX2_heaviestWithin : MethodName := ⟨RX2, "heaviestWithin", "(I)I"⟩
abbrev cX2_weightWithin : ByteArray := prog_4_method_11_code
def yX2_weightWithin : MethodName := ⟨RX2, "weightWithin", "(II)I"⟩
def RX3 : String := "FirstParts$Packed"
def TX3 : u_T := fun k => match k with
  | 0 => ("FirstParts$Packed", "row", "[LFirstParts$Part;", true)
  | 1 => ("FirstParts$Packed", "parts", "I", true)
  | 2 => ("FirstParts$Packed", "first", "[I", true)
  | 3 => ("FirstParts$Packed", "packets", "[LFirstParts$Packet;", true)
  | 4 => ("FirstParts$Packed", "n", "I", true)
  | _ => ("FirstParts$Packed", "length", "I", true)
def tyX3 : Nat → FieldType := fun k => match k with
  | 0 => .array (.object "FirstParts$Part")
  | 1 => .int
  | 2 => .array .int
  | 3 => .array (.object "FirstParts$Packet")
  | 4 => .int
  | _ => .int
abbrev wsX30 : List Cond := u_ws RX3 TX3 6
theorem nmX3 : ∀ a, a < 6 → ∀ b, b < 6 → a ≠ b → (TX3 a).2.1 ≠ (TX3 b).2.1 := by decide +kernel
theorem tyX3_ok : ∀ k, k < 6 → parseFieldDescriptor (TX3 k).2.2.1 = some (tyX3 k) := by decide +kernel
abbrev cX3_init : ByteArray := prog_5_method_1_code
def yX3_init : MethodName := ⟨RX3, "<init>", "(LFirstParts$Line;II)V"⟩
abbrev cX3_order : ByteArray := prog_5_method_2_code
def yX3_order : MethodName := ⟨RX3, "order", "()I"⟩
abbrev cX3_fill : ByteArray := prog_5_method_3_code
def yX3_fill : MethodName := ⟨RX3, "fill", "(LFirstParts$Packet;I)V"⟩
abbrev cX3_hasPart : ByteArray := prog_5_method_4_code
def yX3_hasPart : MethodName := ⟨RX3, "hasPart", "(I)Z"⟩
abbrev cX3_hasPacket : ByteArray := prog_5_method_5_code
def yX3_hasPacket : MethodName := ⟨RX3, "hasPacket", "(I)Z"⟩
abbrev cX3_gather : ByteArray := prog_5_method_6_code
def yX3_gather : MethodName := ⟨RX3, "gather", "(IILFirstParts$Curve;)V"⟩
abbrev cX3_stateOf : ByteArray := prog_5_method_7_code
def yX3_stateOf : MethodName := ⟨RX3, "stateOf", "(ILFirstParts$Curve;)I"⟩
abbrev cX3_partsInState : ByteArray := prog_5_method_8_code
def yX3_partsInState : MethodName := ⟨RX3, "partsInState", "(ILFirstParts$Curve;)I"⟩
abbrev cX3_fewestHolders : ByteArray := prog_5_method_9_code
def yX3_fewestHolders : MethodName := ⟨RX3, "fewestHolders", "(I)I"⟩
abbrev cX3_holdersAt : ByteArray := prog_5_method_10_code
def yX3_holdersAt : MethodName := ⟨RX3, "holdersAt", "(I)I"⟩
abbrev cX3_openingSets : ByteArray := prog_5_method_11_code
def yX3_openingSets : MethodName := ⟨RX3, "openingSets", "(I)I"⟩
abbrev cX3_timesBlamed : ByteArray := prog_5_method_12_code
def yX3_timesBlamed : MethodName := ⟨RX3, "timesBlamed", "(ILFirstParts$Curve;)I"⟩
abbrev cX3_blames : ByteArray := prog_5_method_13_code
def yX3_blames : MethodName := ⟨RX3, "blames", "(IIILFirstParts$Curve;)Z"⟩
abbrev cX3_openedBy : ByteArray := prog_5_method_14_code
def yX3_openedBy : MethodName := ⟨RX3, "openedBy", "(I)I"⟩
abbrev cX3_lostPackets : ByteArray := prog_5_method_15_code
def yX3_lostPackets : MethodName := ⟨RX3, "lostPackets", "()I"⟩
def RX4 : String := "FirstParts$Packet"
def TX4 : u_T := fun k => match k with
  | 0 => ("FirstParts$Packet", "sent", "[I", true)
  | 1 => ("FirstParts$Packet", "now", "[I", true)
  | 2 => ("FirstParts$Packet", "left", "I", false)
  | _ => ("FirstParts$Packet", "lost", "Z", false)
def tyX4 : Nat → FieldType := fun k => match k with
  | 0 => .array .int
  | 1 => .array .int
  | 2 => .int
  | _ => .boolean
abbrev wsX40 : List Cond := u_ws RX4 TX4 4
theorem nmX4 : ∀ a, a < 4 → ∀ b, b < 4 → a ≠ b → (TX4 a).2.1 ≠ (TX4 b).2.1 := by decide +kernel
theorem tyX4_ok : ∀ k, k < 4 → parseFieldDescriptor (TX4 k).2.2.1 = some (tyX4 k) := by decide +kernel
abbrev cX4_init : ByteArray := prog_6_method_1_code
def yX4_init : MethodName := ⟨RX4, "<init>", "(I)V"⟩
abbrev cX4_put : ByteArray := prog_6_method_2_code
def yX4_put : MethodName := ⟨RX4, "put", "(II)V"⟩
abbrev cX4_holds : ByteArray := prog_6_method_3_code
def yX4_holds : MethodName := ⟨RX4, "holds", "(I)Z"⟩
abbrev cX4_sendAgain : ByteArray := prog_6_method_4_code
def yX4_sendAgain : MethodName := ⟨RX4, "sendAgain", "(I)I"⟩
def RX5 : String := "FirstParts$Part"
def TX5 : u_T := fun k => match k with
  | 0 => ("FirstParts$Part", "word", "[I", true)
  | 1 => ("FirstParts$Part", "need", "I", true)
  | _ => ("FirstParts$Part", "weight", "I", true)
def tyX5 : Nat → FieldType := fun k => match k with
  | 0 => .array .int
  | 1 => .int
  | _ => .int
abbrev wsX50 : List Cond := u_ws RX5 TX5 3
theorem nmX5 : ∀ a, a < 3 → ∀ b, b < 3 → a ≠ b → (TX5 a).2.1 ≠ (TX5 b).2.1 := by decide +kernel
theorem tyX5_ok : ∀ k, k < 3 → parseFieldDescriptor (TX5 k).2.2.1 = some (tyX5 k) := by decide +kernel
abbrev cX5_init : ByteArray := prog_7_method_1_code
def yX5_init : MethodName := ⟨RX5, "<init>", "([III)V"⟩
abbrev cX5_hasLetter : ByteArray := prog_7_method_2_code
def yX5_hasLetter : MethodName := ⟨RX5, "hasLetter", "(I)Z"⟩
abbrev cX5_stripes : ByteArray := prog_7_method_3_code
def yX5_stripes : MethodName := ⟨RX5, "stripes", "()I"⟩
abbrev cX5_stripeOf : ByteArray := prog_7_method_4_code
def yX5_stripeOf : MethodName := ⟨RX5, "stripeOf", "(I)I"⟩
abbrev cX5_placeInStripe : ByteArray := prog_7_method_5_code
def yX5_placeInStripe : MethodName := ⟨RX5, "placeInStripe", "(I)I"⟩
def RX6 : String := "FirstParts$Planner"
def TX6 : u_T := fun k => match k with
  | 0 => ("FirstParts$Planner", "least", "[[I", true)
  | 1 => ("FirstParts$Planner", "needs", "[I", true)
  | _ => ("FirstParts$Planner", "cost", "I", false)
def tyX6 : Nat → FieldType := fun k => match k with
  | 0 => .array (.array .int)
  | 1 => .array .int
  | _ => .int
abbrev wsX60 : List Cond := u_ws RX6 TX6 3
theorem nmX6 : ∀ a, a < 3 → ∀ b, b < 3 → a ≠ b → (TX6 a).2.1 ≠ (TX6 b).2.1 := by decide +kernel
theorem tyX6_ok : ∀ k, k < 3 → parseFieldDescriptor (TX6 k).2.2.1 = some (tyX6 k) := by decide +kernel
abbrev cX6_init : ByteArray := prog_8_method_1_code
def yX6_init : MethodName := ⟨RX6, "<init>", "()V"⟩
abbrev cX6_makePlan : ByteArray := prog_8_method_2_code
def yX6_makePlan : MethodName := ⟨RX6, "makePlan", "(LFirstParts$Line;)Z"⟩
abbrev cX6_leastFrom : ByteArray := prog_8_method_3_code
def yX6_leastFrom : MethodName := ⟨RX6, "leastFrom", "(LFirstParts$Line;II)I"⟩
abbrev cX6_costWith : ByteArray := prog_8_method_4_code
def yX6_costWith : MethodName := ⟨RX6, "costWith", "(LFirstParts$Part;III)I"⟩
abbrev cX6_chooseNeeds : ByteArray := prog_8_method_5_code
def yX6_chooseNeeds : MethodName := ⟨RX6, "chooseNeeds", "(LFirstParts$Line;)V"⟩
def RX7 : String := "FirstParts$Reader"
def TX7 : u_T := fun k => match k with
  | 0 => ("FirstParts$Reader", "text", "LFirstParts$Text;", true)
  | 1 => ("FirstParts$Reader", "clause", "[LFirstParts$Clause;", true)
  | 2 => ("FirstParts$Reader", "clauses", "I", false)
  | 3 => ("FirstParts$Reader", "kind", "I", false)
  | 4 => ("FirstParts$Reader", "from", "I", false)
  | 5 => ("FirstParts$Reader", "to", "I", false)
  | 6 => ("FirstParts$Reader", "partsByThen", "I", false)
  | _ => ("FirstParts$Reader", "value", "I", false)
def tyX7 : Nat → FieldType := fun k => match k with
  | 0 => .object "FirstParts$Text"
  | 1 => .array (.object "FirstParts$Clause")
  | 2 => .int
  | 3 => .int
  | 4 => .int
  | 5 => .int
  | 6 => .int
  | _ => .int
abbrev wsX70 : List Cond := u_ws RX7 TX7 8
theorem nmX7 : ∀ a, a < 8 → ∀ b, b < 8 → a ≠ b → (TX7 a).2.1 ≠ (TX7 b).2.1 := by decide +kernel
theorem tyX7_ok : ∀ k, k < 8 → parseFieldDescriptor (TX7 k).2.2.1 = some (tyX7 k) := by decide +kernel
abbrev cX7_init : ByteArray := prog_9_method_1_code
def yX7_init : MethodName := ⟨RX7, "<init>", "(LFirstParts$Text;)V"⟩
abbrev cX7_firstFault : ByteArray := prog_9_method_2_code
def yX7_firstFault : MethodName := ⟨RX7, "firstFault", "(I)I"⟩
abbrev cX7_takeClause : ByteArray := prog_9_method_3_code
def yX7_takeClause : MethodName := ⟨RX7, "takeClause", "(LFirstParts$Clause;)Z"⟩
abbrev cX7_takeWord : ByteArray := prog_9_method_4_code
def yX7_takeWord : MethodName := ⟨RX7, "takeWord", "(LFirstParts$Clause;)Z"⟩
abbrev cX7_takeFirst : ByteArray := prog_9_method_5_code
def yX7_takeFirst : MethodName := ⟨RX7, "takeFirst", "(LFirstParts$Clause;I)Z"⟩
abbrev cX7_takeSecond : ByteArray := prog_9_method_6_code
def yX7_takeSecond : MethodName := ⟨RX7, "takeSecond", "(LFirstParts$Clause;I)Z"⟩
abbrev cX7_takeNumber : ByteArray := prog_9_method_7_code
def yX7_takeNumber : MethodName := ⟨RX7, "takeNumber", "(I)Z"⟩
abbrev cX7_takeToken : ByteArray := prog_9_method_8_code
def yX7_takeToken : MethodName := ⟨RX7, "takeToken", "()V"⟩
def RX8 : String := "FirstParts$Step"
def TX8 : u_T := fun k => match k with
  | 0 => ("FirstParts$Step", "line", "LFirstParts$Line;", true)
  | 1 => ("FirstParts$Step", "box", "LFirstParts$Packed;", false)
  | 2 => ("FirstParts$Step", "packet", "LFirstParts$Packet;", false)
  | 3 => ("FirstParts$Step", "numbers", "[I", true)
  | 4 => ("FirstParts$Step", "left", "I", false)
  | _ => ("FirstParts$Step", "lost", "Z", false)
def tyX8 : Nat → FieldType := fun k => match k with
  | 0 => .object "FirstParts$Line"
  | 1 => .object "FirstParts$Packed"
  | 2 => .object "FirstParts$Packet"
  | 3 => .array .int
  | 4 => .int
  | _ => .boolean
abbrev wsX80 : List Cond := u_ws RX8 TX8 6
theorem nmX8 : ∀ a, a < 6 → ∀ b, b < 6 → a ≠ b → (TX8 a).2.1 ≠ (TX8 b).2.1 := by decide +kernel
theorem tyX8_ok : ∀ k, k < 6 → parseFieldDescriptor (TX8 k).2.2.1 = some (tyX8 k) := by decide +kernel
abbrev cX8_init : ByteArray := prog_10_method_1_code
def yX8_init : MethodName := ⟨RX8, "<init>", "(LFirstParts$Packed;)V"⟩
abbrev cX8_remember : ByteArray := prog_10_method_2_code
def yX8_remember : MethodName := ⟨RX8, "remember", "(LFirstParts$Line;LFirstParts$Packed;LFirstParts$Packet;)V"⟩
abbrev cX8_giveBack : ByteArray := prog_10_method_3_code
def yX8_giveBack : MethodName := ⟨RX8, "giveBack", "(LFirstParts$Line;)V"⟩
def RX9 : String := "FirstParts$Steps"
def TX9 : u_T := fun k => match k with
  | 0 => ("FirstParts$Steps", "ring", "[LFirstParts$Step;", true)
  | 1 => ("FirstParts$Steps", "next", "I", false)
  | _ => ("FirstParts$Steps", "size", "I", false)
def tyX9 : Nat → FieldType := fun k => match k with
  | 0 => .array (.object "FirstParts$Step")
  | 1 => .int
  | _ => .int
abbrev wsX90 : List Cond := u_ws RX9 TX9 3
theorem nmX9 : ∀ a, a < 3 → ∀ b, b < 3 → a ≠ b → (TX9 a).2.1 ≠ (TX9 b).2.1 := by decide +kernel
theorem tyX9_ok : ∀ k, k < 3 → parseFieldDescriptor (TX9 k).2.2.1 = some (tyX9 k) := by decide +kernel
abbrev cX9_init : ByteArray := prog_11_method_1_code
def yX9_init : MethodName := ⟨RX9, "<init>", "(LFirstParts$Packed;)V"⟩
abbrev cX9_keep : ByteArray := prog_11_method_2_code
def yX9_keep : MethodName := ⟨RX9, "keep", "(LFirstParts$Line;LFirstParts$Packed;LFirstParts$Packet;)V"⟩
abbrev cX9_takeBack : ByteArray := prog_11_method_3_code
def yX9_takeBack : MethodName := ⟨RX9, "takeBack", "()LFirstParts$Step;"⟩
abbrev cX9_forget : ByteArray := prog_11_method_4_code
def yX9_forget : MethodName := ⟨RX9, "forget", "()V"⟩
def RX10 : String := "FirstParts$Text"
def TX10 : u_T := fun k => match k with
  | 0 => ("FirstParts$Text", "letters", "[I", true)
  | _ => ("FirstParts$Text", "length", "I", false)
def tyX10 : Nat → FieldType := fun k => match k with
  | 0 => .array .int
  | _ => .int
abbrev wsX100 : List Cond := u_ws RX10 TX10 2
theorem nmX10 : ∀ a, a < 2 → ∀ b, b < 2 → a ≠ b → (TX10 a).2.1 ≠ (TX10 b).2.1 := by decide +kernel
theorem tyX10_ok : ∀ k, k < 2 → parseFieldDescriptor (TX10 k).2.2.1 = some (tyX10 k) := by decide +kernel
abbrev cX10_init : ByteArray := prog_12_method_1_code
def yX10_init : MethodName := ⟨RX10, "<init>", "()V"⟩
abbrev cX10_add : ByteArray := prog_12_method_2_code
def yX10_add : MethodName := ⟨RX10, "add", "(I)Z"⟩
abbrev cX10_isSmallLetter : ByteArray := prog_12_method_3_code
def yX10_isSmallLetter : MethodName := ⟨RX10, "isSmallLetter", "(I)Z"⟩
abbrev cX10_isDigit : ByteArray := prog_12_method_4_code
def yX10_isDigit : MethodName := ⟨RX10, "isDigit", "(I)Z"⟩
abbrev cX10_isSign : ByteArray := prog_12_method_5_code
def yX10_isSign : MethodName := ⟨RX10, "isSign", "(IC)Z"⟩
abbrev cX10_says : ByteArray := prog_12_method_6_code
def yX10_says : MethodName := ⟨RX10, "says", "(IILjava/lang/String;)Z"⟩
abbrev cX10_wordAt : ByteArray := prog_12_method_7_code
def yX10_wordAt : MethodName := ⟨RX10, "wordAt", "(II)[I"⟩
def RX11 : String := "FirstParts"
def TX11 : u_T := fun k => match k with
  | 0 => ("FirstParts", "text", "LFirstParts$Text;", true)
  | 1 => ("FirstParts", "reader", "LFirstParts$Reader;", true)
  | 2 => ("FirstParts", "line", "LFirstParts$Line;", true)
  | 3 => ("FirstParts", "steps", "LFirstParts$Steps;", true)
  | 4 => ("FirstParts", "planner", "LFirstParts$Planner;", true)
  | 5 => ("FirstParts", "curve", "LFirstParts$Curve;", true)
  | _ => ("FirstParts", "box", "LFirstParts$Packed;", false)
def tyX11 : Nat → FieldType := fun k => match k with
  | 0 => .object "FirstParts$Text"
  | 1 => .object "FirstParts$Reader"
  | 2 => .object "FirstParts$Line"
  | 3 => .object "FirstParts$Steps"
  | 4 => .object "FirstParts$Planner"
  | 5 => .object "FirstParts$Curve"
  | _ => .object "FirstParts$Packed"
abbrev wsX110 : List Cond := u_ws RX11 TX11 7
theorem nmX11 : ∀ a, a < 7 → ∀ b, b < 7 → a ≠ b → (TX11 a).2.1 ≠ (TX11 b).2.1 := by decide +kernel
theorem tyX11_ok : ∀ k, k < 7 → parseFieldDescriptor (TX11 k).2.2.1 = some (tyX11 k) := by decide +kernel
abbrev cX11_init : ByteArray := prog_1_method_1_code
def yX11_init : MethodName := ⟨RX11, "<init>", "()V"⟩
abbrev cX11_write : ByteArray := prog_1_method_2_code
def yX11_write : MethodName := ⟨RX11, "write", "(I)I"⟩
abbrev cX11_erase : ByteArray := prog_1_method_3_code
def yX11_erase : MethodName := ⟨RX11, "erase", "()I"⟩
abbrev cX11_fault : ByteArray := prog_1_method_4_code
def yX11_fault : MethodName := ⟨RX11, "fault", "()I"⟩
abbrev cX11_tell : ByteArray := prog_1_method_5_code
def yX11_tell : MethodName := ⟨RX11, "tell", "()I"⟩
abbrev cX11_part : ByteArray := prog_1_method_6_code
def yX11_part : MethodName := ⟨RX11, "part", "(II)I"⟩
abbrev cX11_letter : ByteArray := prog_1_method_7_code
def yX11_letter : MethodName := ⟨RX11, "letter", "(II)I"⟩
abbrev cX11_packets : ByteArray := prog_1_method_8_code
def yX11_packets : MethodName := ⟨RX11, "packets", "(I)I"⟩
abbrev cX11_room : ByteArray := prog_1_method_9_code
def yX11_room : MethodName := ⟨RX11, "room", "(I)I"⟩
abbrev cX11_need : ByteArray := prog_1_method_10_code
def yX11_need : MethodName := ⟨RX11, "need", "(II)I"⟩
abbrev cX11_weigh : ByteArray := prog_1_method_11_code
def yX11_weigh : MethodName := ⟨RX11, "weigh", "(II)I"⟩
abbrev cX11_drop : ByteArray := prog_1_method_12_code
def yX11_drop : MethodName := ⟨RX11, "drop", "(I)I"⟩
abbrev cX11_pack : ByteArray := prog_1_method_13_code
def yX11_pack : MethodName := ⟨RX11, "pack", "()I"⟩
abbrev cX11_lose : ByteArray := prog_1_method_14_code
def yX11_lose : MethodName := ⟨RX11, "lose", "(I)I"⟩
abbrev cX11_cut : ByteArray := prog_1_method_15_code
def yX11_cut : MethodName := ⟨RX11, "cut", "(II)I"⟩
abbrev cX11_spoil : ByteArray := prog_1_method_16_code
def yX11_spoil : MethodName := ⟨RX11, "spoil", "(III)I"⟩
abbrev cX11_again : ByteArray := prog_1_method_17_code
def yX11_again : MethodName := ⟨RX11, "again", "(I)I"⟩
abbrev cX11_undo : ByteArray := prog_1_method_18_code
def yX11_undo : MethodName := ⟨RX11, "undo", "()I"⟩
abbrev cX11_number : ByteArray := prog_1_method_19_code
def yX11_number : MethodName := ⟨RX11, "number", "(II)I"⟩
abbrev cX11_packed : ByteArray := prog_1_method_20_code
def yX11_packed : MethodName := ⟨RX11, "packed", "(II)I"⟩
abbrev cX11_read : ByteArray := prog_1_method_21_code
def yX11_read : MethodName := ⟨RX11, "read", "(II)I"⟩
abbrev cX11_mended : ByteArray := prog_1_method_22_code
def yX11_mended : MethodName := ⟨RX11, "mended", "(II)I"⟩
abbrev cX11_blamed : ByteArray := prog_1_method_23_code
def yX11_blamed : MethodName := ⟨RX11, "blamed", "(I)I"⟩
abbrev cX11_opened : ByteArray := prog_1_method_24_code
def yX11_opened : MethodName := ⟨RX11, "opened", "(I)I"⟩
abbrev cX11_plan : ByteArray := prog_1_method_25_code
def yX11_plan : MethodName := ⟨RX11, "plan", "(I)I"⟩
abbrev cX11_lesser : ByteArray := prog_1_method_26_code
def yX11_lesser : MethodName := ⟨RX11, "lesser", "(I)I"⟩
abbrev cX11_count : ByteArray := prog_1_method_27_code
def yX11_count : MethodName := ⟨RX11, "count", "(I)I"⟩
abbrev cX11_carryOut : ByteArray := prog_1_method_28_code
def yX11_carryOut : MethodName := ⟨RX11, "carryOut", "(LFirstParts$Clause;)V"⟩
abbrev cX11_partOf : ByteArray := prog_1_method_29_code
def yX11_partOf : MethodName := ⟨RX11, "partOf", "(LFirstParts$Clause;)LFirstParts$Part;"⟩
abbrev cX11_within : ByteArray := prog_1_method_30_code
def yX11_within : MethodName := ⟨RX11, "within", "(III)Z"⟩
abbrev cX11_stripesFor : ByteArray := prog_1_method_31_code
def yX11_stripesFor : MethodName := ⟨RX11, "stripesFor", "(II)I"⟩
abbrev cX11_valueAt : ByteArray := prog_1_method_32_code
def yX11_valueAt : MethodName := ⟨RX11, "valueAt", "([IIII)I"⟩
def RX12 : String := "FirstPartsModel"
def TX12 : u_T := fun k => match k with
  | 0 => ("FirstPartsModel", "rows", "[I", true)
  | 1 => ("FirstPartsModel", "undos", "I", false)
  | 2 => ("FirstPartsModel", "text", "[I", true)
  | 3 => ("FirstPartsModel", "length", "I", false)
  | 4 => ("FirstPartsModel", "first", "I", false)
  | 5 => ("FirstPartsModel", "behind", "I", false)
  | 6 => ("FirstPartsModel", "told", "I", false)
  | 7 => ("FirstPartsModel", "clauses", "I", false)
  | 8 => ("FirstPartsModel", "doing", "Z", false)
  | 9 => ("FirstPartsModel", "numbers", "[I", true)
  | 10 => ("FirstPartsModel", "words", "[I", true)
  | 11 => ("FirstPartsModel", "curve", "[I", true)
  | 12 => ("FirstPartsModel", "through", "[I", true)
  | _ => ("FirstPartsModel", "costs", "[I", true)
def tyX12 : Nat → FieldType := fun k => match k with
  | 0 => .array .int
  | 1 => .int
  | 2 => .array .int
  | 3 => .int
  | 4 => .int
  | 5 => .int
  | 6 => .int
  | 7 => .int
  | 8 => .boolean
  | 9 => .array .int
  | 10 => .array .int
  | 11 => .array .int
  | 12 => .array .int
  | _ => .array .int
abbrev wsX120 : List Cond := u_ws RX12 TX12 14
theorem nmX12 : ∀ a, a < 14 → ∀ b, b < 14 → a ≠ b → (TX12 a).2.1 ≠ (TX12 b).2.1 := by decide +kernel
theorem tyX12_ok : ∀ k, k < 14 → parseFieldDescriptor (TX12 k).2.2.1 = some (tyX12 k) := by decide +kernel
abbrev cX12_init : ByteArray := prog_14_method_1_code
def yX12_init : MethodName := ⟨RX12, "<init>", "()V"⟩
abbrev cX12_in : ByteArray := prog_14_method_2_code
def yX12_in : MethodName := ⟨RX12, "in", "(JJJ)Z"⟩
abbrev cX12_isPart : ByteArray := prog_14_method_3_code
def yX12_isPart : MethodName := ⟨RX12, "isPart", "(I)Z"⟩
abbrev cX12_at : ByteArray := prog_14_method_4_code
def yX12_at : MethodName := ⟨RX12, "at", "(I)I"⟩
abbrev cX12_stripes : ByteArray := prog_14_method_5_code
def yX12_stripes : MethodName := ⟨RX12, "stripes", "(II)I"⟩
abbrev cX12_stripesOf : ByteArray := prog_14_method_6_code
def yX12_stripesOf : MethodName := ⟨RX12, "stripesOf", "(I)I"⟩
abbrev cX12_lengthOf : ByteArray := prog_14_method_7_code
def yX12_lengthOf : MethodName := ⟨RX12, "lengthOf", "(I)I"⟩
abbrev cX12_isFit : ByteArray := prog_14_method_8_code
def yX12_isFit : MethodName := ⟨RX12, "isFit", "()Z"⟩
abbrev cX12_write : ByteArray := prog_14_method_9_code
def yX12_write : MethodName := ⟨RX12, "write", "(I)I"⟩
abbrev cX12_erase : ByteArray := prog_14_method_10_code
def yX12_erase : MethodName := ⟨RX12, "erase", "()I"⟩
abbrev cX12_isSmall : ByteArray := prog_14_method_11_code
def yX12_isSmall : MethodName := ⟨RX12, "isSmall", "(I)Z"⟩
abbrev cX12_isDigit : ByteArray := prog_14_method_12_code
def yX12_isDigit : MethodName := ⟨RX12, "isDigit", "(I)Z"⟩
abbrev cX12_next : ByteArray := prog_14_method_13_code
def yX12_next : MethodName := ⟨RX12, "next", "()V"⟩
abbrev cX12_wordHere : ByteArray := prog_14_method_14_code
def yX12_wordHere : MethodName := ⟨RX12, "wordHere", "()I"⟩
abbrev cX12_reads : ByteArray := prog_14_method_15_code
def yX12_reads : MethodName := ⟨RX12, "reads", "(III)Z"⟩
abbrev cX12_readsPart : ByteArray := prog_14_method_16_code
def yX12_readsPart : MethodName := ⟨RX12, "readsPart", "()Z"⟩
abbrev cX12_readsClause : ByteArray := prog_14_method_17_code
def yX12_readsClause : MethodName := ⟨RX12, "readsClause", "()Z"⟩
abbrev cX12_readsAll : ByteArray := prog_14_method_18_code
def yX12_readsAll : MethodName := ⟨RX12, "readsAll", "(Z)Z"⟩
abbrev cX12_fault : ByteArray := prog_14_method_19_code
def yX12_fault : MethodName := ⟨RX12, "fault", "()I"⟩
abbrev cX12_tell : ByteArray := prog_14_method_20_code
def yX12_tell : MethodName := ⟨RX12, "tell", "()I"⟩
abbrev cX12_part : ByteArray := prog_14_method_21_code
def yX12_part : MethodName := ⟨RX12, "part", "(II)I"⟩
abbrev cX12_letter : ByteArray := prog_14_method_22_code
def yX12_letter : MethodName := ⟨RX12, "letter", "(II)I"⟩
abbrev cX12_copyRow : ByteArray := prog_14_method_23_code
def yX12_copyRow : MethodName := ⟨RX12, "copyRow", "(II)V"⟩
abbrev cX12_notes : ByteArray := prog_14_method_24_code
def yX12_notes : MethodName := ⟨RX12, "notes", "()V"⟩
abbrev cX12_changes : ByteArray := prog_14_method_25_code
def yX12_changes : MethodName := ⟨RX12, "changes", "(II)I"⟩
abbrev cX12_packets : ByteArray := prog_14_method_26_code
def yX12_packets : MethodName := ⟨RX12, "packets", "(I)I"⟩
abbrev cX12_room : ByteArray := prog_14_method_27_code
def yX12_room : MethodName := ⟨RX12, "room", "(I)I"⟩
abbrev cX12_need : ByteArray := prog_14_method_28_code
def yX12_need : MethodName := ⟨RX12, "need", "(II)I"⟩
abbrev cX12_weigh : ByteArray := prog_14_method_29_code
def yX12_weigh : MethodName := ⟨RX12, "weigh", "(II)I"⟩
abbrev cX12_drop : ByteArray := prog_14_method_30_code
def yX12_drop : MethodName := ⟨RX12, "drop", "(I)I"⟩
abbrev cX12_value : ByteArray := prog_14_method_31_code
def yX12_value : MethodName := ⟨RX12, "value", "(III)I"⟩
abbrev cX12_packs : ByteArray := prog_14_method_32_code
def yX12_packs : MethodName := ⟨RX12, "packs", "(II)V"⟩
abbrev cX12_pack : ByteArray := prog_14_method_33_code
def yX12_pack : MethodName := ⟨RX12, "pack", "()I"⟩
abbrev cX12_isPacket : ByteArray := prog_14_method_34_code
def yX12_isPacket : MethodName := ⟨RX12, "isPacket", "(I)Z"⟩
abbrev cX12_lose : ByteArray := prog_14_method_35_code
def yX12_lose : MethodName := ⟨RX12, "lose", "(I)I"⟩
abbrev cX12_cut : ByteArray := prog_14_method_36_code
def yX12_cut : MethodName := ⟨RX12, "cut", "(II)I"⟩
abbrev cX12_hasNumber : ByteArray := prog_14_method_37_code
def yX12_hasNumber : MethodName := ⟨RX12, "hasNumber", "(II)Z"⟩
abbrev cX12_spoil : ByteArray := prog_14_method_38_code
def yX12_spoil : MethodName := ⟨RX12, "spoil", "(III)I"⟩
abbrev cX12_again : ByteArray := prog_14_method_39_code
def yX12_again : MethodName := ⟨RX12, "again", "(I)I"⟩
abbrev cX12_undo : ByteArray := prog_14_method_40_code
def yX12_undo : MethodName := ⟨RX12, "undo", "()I"⟩
abbrev cX12_number : ByteArray := prog_14_method_41_code
def yX12_number : MethodName := ⟨RX12, "number", "(II)I"⟩
abbrev cX12_isPacked : ByteArray := prog_14_method_42_code
def yX12_isPacked : MethodName := ⟨RX12, "isPacked", "(I)Z"⟩
abbrev cX12_packedNeed : ByteArray := prog_14_method_43_code
def yX12_packedNeed : MethodName := ⟨RX12, "packedNeed", "(I)I"⟩
abbrev cX12_packedFirst : ByteArray := prog_14_method_44_code
def yX12_packedFirst : MethodName := ⟨RX12, "packedFirst", "(I)I"⟩
abbrev cX12_packedStripes : ByteArray := prog_14_method_45_code
def yX12_packedStripes : MethodName := ⟨RX12, "packedStripes", "(I)I"⟩
abbrev cX12_holders : ByteArray := prog_14_method_46_code
def yX12_holders : MethodName := ⟨RX12, "holders", "(I)I"⟩
abbrev cX12_ones : ByteArray := prog_14_method_47_code
def yX12_ones : MethodName := ⟨RX12, "ones", "(I)I"⟩
abbrev cX12_over : ByteArray := prog_14_method_48_code
def yX12_over : MethodName := ⟨RX12, "over", "(I)I"⟩
abbrev cX12_firsts : ByteArray := prog_14_method_49_code
def yX12_firsts : MethodName := ⟨RX12, "firsts", "(II)I"⟩
abbrev cX12_at_ : ByteArray := prog_14_method_50_code
def yX12_at_ : MethodName := ⟨RX12, "at", "([III)I"⟩
abbrev cX12_lays : ByteArray := prog_14_method_51_code
def yX12_lays : MethodName := ⟨RX12, "lays", "(II)V"⟩
abbrev cX12_on : ByteArray := prog_14_method_52_code
def yX12_on : MethodName := ⟨RX12, "on", "(II)I"⟩
abbrev cX12_mends : ByteArray := prog_14_method_53_code
def yX12_mends : MethodName := ⟨RX12, "mends", "(II)Z"⟩
abbrev cX12_fewest : ByteArray := prog_14_method_54_code
def yX12_fewest : MethodName := ⟨RX12, "fewest", "(I)I"⟩
abbrev cX12_isDoubted : ByteArray := prog_14_method_55_code
def yX12_isDoubted : MethodName := ⟨RX12, "isDoubted", "(I)Z"⟩
abbrev cX12_stateOf : ByteArray := prog_14_method_56_code
def yX12_stateOf : MethodName := ⟨RX12, "stateOf", "(I)I"⟩
abbrev cX12_opening : ByteArray := prog_14_method_57_code
def yX12_opening : MethodName := ⟨RX12, "opening", "(I)I"⟩
abbrev cX12_packed : ByteArray := prog_14_method_58_code
def yX12_packed : MethodName := ⟨RX12, "packed", "(II)I"⟩
abbrev cX12_read : ByteArray := prog_14_method_59_code
def yX12_read : MethodName := ⟨RX12, "read", "(II)I"⟩
abbrev cX12_mended : ByteArray := prog_14_method_60_code
def yX12_mended : MethodName := ⟨RX12, "mended", "(II)I"⟩
abbrev cX12_blamed : ByteArray := prog_14_method_61_code
def yX12_blamed : MethodName := ⟨RX12, "blamed", "(I)I"⟩
abbrev cX12_opened : ByteArray := prog_14_method_62_code
def yX12_opened : MethodName := ⟨RX12, "opened", "(I)I"⟩
abbrev cX12_cost : ByteArray := prog_14_method_63_code
def yX12_cost : MethodName := ⟨RX12, "cost", "(III)I"⟩
abbrev cX12_plans : ByteArray := prog_14_method_64_code
def yX12_plans : MethodName := ⟨RX12, "plans", "()I"⟩
abbrev cX12_plan : ByteArray := prog_14_method_65_code
def yX12_plan : MethodName := ⟨RX12, "plan", "(I)I"⟩
abbrev cX12_lesser : ByteArray := prog_14_method_66_code
def yX12_lesser : MethodName := ⟨RX12, "lesser", "(I)I"⟩
abbrev cX12_weights : ByteArray := prog_14_method_67_code
def yX12_weights : MethodName := ⟨RX12, "weights", "()I"⟩
abbrev cX12_lostMany : ByteArray := prog_14_method_68_code
def yX12_lostMany : MethodName := ⟨RX12, "lostMany", "()I"⟩
abbrev cX12_inState : ByteArray := prog_14_method_69_code
def yX12_inState : MethodName := ⟨RX12, "inState", "(I)I"⟩
abbrev cX12_count : ByteArray := prog_14_method_70_code
def yX12_count : MethodName := ⟨RX12, "count", "(I)I"⟩
def RJ6 : String := "java/lang/Integer"
def TJ6 : u_T := fun k => match k with
  | _ => ("", "", "", false)
def tyJ6 : Nat → FieldType := fun k => match k with
  | _ => .int
abbrev wsJ60 : List Cond := u_ws RJ6 TJ6 0
theorem nmJ6 : ∀ a, a < 0 → ∀ b, b < 0 → a ≠ b → (TJ6 a).2.1 ≠ (TJ6 b).2.1 := by decide +kernel
theorem tyJ6_ok : ∀ k, k < 0 → parseFieldDescriptor (TJ6 k).2.2.1 = some (tyJ6 k) := by decide +kernel
abbrev cJ6_bitCount_0f7a4 : ByteArray := prog_15_method_49_code
def yJ6_bitCount_0f7a4 : MethodName := ⟨RJ6, "bitCount", "(I)I"⟩
def RJ9 : String := "java/lang/Math"
def TJ9 : u_T := fun k => match k with
  | _ => ("", "", "", false)
def tyJ9 : Nat → FieldType := fun k => match k with
  | _ => .int
abbrev wsJ90 : List Cond := u_ws RJ9 TJ9 0
theorem nmJ9 : ∀ a, a < 0 → ∀ b, b < 0 → a ≠ b → (TJ9 a).2.1 ≠ (TJ9 b).2.1 := by decide +kernel
theorem tyJ9_ok : ∀ k, k < 0 → parseFieldDescriptor (TJ9 k).2.2.1 = some (tyJ9 k) := by decide +kernel
abbrev cJ9_floorMod_7cf53 : ByteArray := prog_16_method_50_code
def yJ9_floorMod_7cf53 : MethodName := ⟨RJ9, "floorMod", "(II)I"⟩
abbrev cJ9_max_7cf53 : ByteArray := prog_16_method_65_code
def yJ9_max_7cf53 : MethodName := ⟨RJ9, "max", "(II)I"⟩
abbrev cJ9_min_7cf53 : ByteArray := prog_16_method_69_code
def yJ9_min_7cf53 : MethodName := ⟨RJ9, "min", "(II)I"⟩
def RJ0 : String := "java/lang/String"
def TJ0 : u_T := fun k => match k with
  | _ => ("", "", "", false)
def tyJ0 : Nat → FieldType := fun k => match k with
  | _ => .int
abbrev wsJ00 : List Cond := u_ws RJ0 TJ0 0
theorem nmJ0 : ∀ a, a < 0 → ∀ b, b < 0 → a ≠ b → (TJ0 a).2.1 ≠ (TJ0 b).2.1 := by decide +kernel
theorem tyJ0_ok : ∀ k, k < 0 → parseFieldDescriptor (TJ0 k).2.2.1 = some (tyJ0 k) := by decide +kernel
abbrev cJ0_length_8abf5 : ByteArray := prog_17_method_54_code
def yJ0_length_8abf5 : MethodName := ⟨RJ0, "length", "()I"⟩
abbrev cJ0_charAt_5068e : ByteArray := prog_17_method_56_code
def yJ0_charAt_5068e : MethodName := ⟨RJ0, "charAt", "(I)C"⟩
abbrev cJ0_coder_7d493 : ByteArray := prog_17_method_152_code
def yJ0_coder_7d493 : MethodName := ⟨RJ0, "coder", "()B"⟩
abbrev cJ0_isLatin1_aae02 : ByteArray := prog_17_method_154_code
def yJ0_isLatin1_aae02 : MethodName := ⟨RJ0, "isLatin1", "()Z"⟩
abbrev cJ0_checkIndex_df160 : ByteArray := prog_17_method_155_code
def yJ0_checkIndex_df160 : MethodName := ⟨RJ0, "checkIndex", "(II)V"⟩
def RJ1 : String := "java/lang/StringLatin1"
def TJ1 : u_T := fun k => match k with
  | _ => ("", "", "", false)
def tyJ1 : Nat → FieldType := fun k => match k with
  | _ => .int
abbrev wsJ10 : List Cond := u_ws RJ1 TJ1 0
theorem nmJ1 : ∀ a, a < 0 → ∀ b, b < 0 → a ≠ b → (TJ1 a).2.1 ≠ (TJ1 b).2.1 := by decide +kernel
theorem tyJ1_ok : ∀ k, k < 0 → parseFieldDescriptor (TJ1 k).2.2.1 = some (tyJ1 k) := by decide +kernel
abbrev cJ1_charAt_3b067 : ByteArray := prog_18_method_2_code
def yJ1_charAt_3b067 : MethodName := ⟨RJ1, "charAt", "([BI)C"⟩
def RJ2 : String := "java/lang/StringUTF16"
def TJ2 : u_T := fun k => match k with
  | _ => ("", "", "", false)
def tyJ2 : Nat → FieldType := fun k => match k with
  | _ => .int
abbrev wsJ20 : List Cond := u_ws RJ2 TJ2 0
theorem nmJ2 : ∀ a, a < 0 → ∀ b, b < 0 → a ≠ b → (TJ2 a).2.1 ≠ (TJ2 b).2.1 := by decide +kernel
theorem tyJ2_ok : ∀ k, k < 0 → parseFieldDescriptor (TJ2 k).2.2.1 = some (tyJ2 k) := by decide +kernel
abbrev cJ2_getChar_3b067 : ByteArray := prog_19_method_5_code
def yJ2_getChar_3b067 : MethodName := ⟨RJ2, "getChar", "([BI)C"⟩
abbrev cJ2_length_9d52b : ByteArray := prog_19_method_6_code
def yJ2_length_9d52b : MethodName := ⟨RJ2, "length", "([B)I"⟩
abbrev cJ2_charAt_3b067 : ByteArray := prog_19_method_83_code
def yJ2_charAt_3b067 : MethodName := ⟨RJ2, "charAt", "([BI)C"⟩
abbrev cJ2_checkIndex_2214a : ByteArray := prog_19_method_91_code
def yJ2_checkIndex_2214a : MethodName := ⟨RJ2, "checkIndex", "(I[B)V"⟩
def RJ10 : String := "java/lang/System"
def TJ10 : u_T := fun k => match k with
  | _ => ("", "", "", false)
def tyJ10 : Nat → FieldType := fun k => match k with
  | _ => .int
abbrev wsJ100 : List Cond := u_ws RJ10 TJ10 0
theorem nmJ10 : ∀ a, a < 0 → ∀ b, b < 0 → a ≠ b → (TJ10 a).2.1 ≠ (TJ10 b).2.1 := by decide +kernel
theorem tyJ10_ok : ∀ k, k < 0 → parseFieldDescriptor (TJ10 k).2.2.1 = some (tyJ10 k) := by decide +kernel
def RJ3 : String := "jdk/internal/util/Preconditions"
def TJ3 : u_T := fun k => match k with
  | _ => ("", "", "", false)
def tyJ3 : Nat → FieldType := fun k => match k with
  | _ => .int
abbrev wsJ30 : List Cond := u_ws RJ3 TJ3 0
theorem nmJ3 : ∀ a, a < 0 → ∀ b, b < 0 → a ≠ b → (TJ3 a).2.1 ≠ (TJ3 b).2.1 := by decide +kernel
theorem tyJ3_ok : ∀ k, k < 0 → parseFieldDescriptor (TJ3 k).2.2.1 = some (tyJ3 k) := by decide +kernel
abbrev cJ3_checkIndex_8e157 : ByteArray := prog_21_method_11_code
def yJ3_checkIndex_8e157 : MethodName := ⟨RJ3, "checkIndex", "(IILjava/util/function/BiFunction;)I"⟩
def RL : String := "FirstPartsLaw"
abbrev cL_law : ByteArray := code
def yL_law : MethodName := ⟨RL, "law", "([I)Z"⟩
abbrev vwCl : List vw_C := [(RX0, TX0, 5), (RX1, TX1, 7), (RX2, TX2, 4), (RX3, TX3, 6), (RX4, TX4, 4), (RX5, TX5, 3), (RX6, TX6, 3), (RX7, TX7, 8), (RX8, TX8, 6), (RX9, TX9, 3), (RX10, TX10, 2), (RX11, TX11, 7), (RX12, TX12, 14)]
end
section
theorem dX0_init_0 : decode cX0_init 0 = .ok (.aload_n 0, 1) := by decide +kernel
theorem dX0_init_1 : decode cX0_init 1 = .ok (.invokespecial 1, 3) := by decide +kernel
theorem dX0_init_4 : decode cX0_init 4 = .ok (.return_, 1) := by decide +kernel
theorem dX1_init_0 : decode cX1_init 0 = .ok (.aload_n 0, 1) := by decide +kernel
theorem dX1_init_1 : decode cX1_init 1 = .ok (.invokespecial 3, 3) := by decide +kernel
theorem dX1_init_4 : decode cX1_init 4 = .ok (.aload_n 0, 1) := by decide +kernel
theorem dX1_init_5 : decode cX1_init 5 = .ok (.bipush 8, 2) := by decide +kernel
theorem dX1_init_7 : decode cX1_init 7 = .ok (.newarray .int, 2) := by decide +kernel
theorem dX1_init_9 : decode cX1_init 9 = .ok (.putfield 9, 3) := by decide +kernel
theorem dX1_init_12 : decode cX1_init 12 = .ok (.aload_n 0, 1) := by decide +kernel
theorem dX1_init_13 : decode cX1_init 13 = .ok (.bipush 8, 2) := by decide +kernel
theorem dX1_init_15 : decode cX1_init 15 = .ok (.newarray .int, 2) := by decide +kernel
theorem dX1_init_17 : decode cX1_init 17 = .ok (.putfield 15, 3) := by decide +kernel
theorem dX1_init_20 : decode cX1_init 20 = .ok (.aload_n 0, 1) := by decide +kernel
theorem dX1_init_21 : decode cX1_init 21 = .ok (.bipush 8, 2) := by decide +kernel
theorem dX1_init_23 : decode cX1_init 23 = .ok (.newarray .int, 2) := by decide +kernel
theorem dX1_init_25 : decode cX1_init 25 = .ok (.putfield 18, 3) := by decide +kernel
theorem dX1_init_28 : decode cX1_init 28 = .ok (.aload_n 0, 1) := by decide +kernel
theorem dX1_init_29 : decode cX1_init 29 = .ok (.bipush 8, 2) := by decide +kernel
theorem dX1_init_31 : decode cX1_init 31 = .ok (.newarray .int, 2) := by decide +kernel
theorem dX1_init_33 : decode cX1_init 33 = .ok (.putfield 21, 3) := by decide +kernel
theorem dX1_init_36 : decode cX1_init 36 = .ok (.aload_n 0, 1) := by decide +kernel
theorem dX1_init_37 : decode cX1_init 37 = .ok (.bipush 8, 2) := by decide +kernel
theorem dX1_init_39 : decode cX1_init 39 = .ok (.newarray .int, 2) := by decide +kernel
theorem dX1_init_41 : decode cX1_init 41 = .ok (.putfield 24, 3) := by decide +kernel
theorem dX1_init_44 : decode cX1_init 44 = .ok (.return_, 1) := by decide +kernel
theorem dX1_begin_0 : decode cX1_begin 0 = .ok (.aload_n 0, 1) := by decide +kernel
theorem dX1_begin_1 : decode cX1_begin 1 = .ok (.iconst 1, 1) := by decide +kernel
theorem dX1_begin_2 : decode cX1_begin 2 = .ok (.iload_n 1, 1) := by decide +kernel
theorem dX1_begin_3 : decode cX1_begin 3 = .ok (.bipush 8, 2) := by decide +kernel
theorem dX1_begin_5 : decode cX1_begin 5 = .ok (.invokestatic 27, 3) := by decide +kernel
theorem dX1_begin_8 : decode cX1_begin 8 = .ok (.invokestatic 33, 3) := by decide +kernel
theorem dX1_begin_11 : decode cX1_begin 11 = .ok (.putfield 36, 3) := by decide +kernel
theorem dX1_begin_14 : decode cX1_begin 14 = .ok (.aload_n 0, 1) := by decide +kernel
theorem dX1_begin_15 : decode cX1_begin 15 = .ok (.iconst 0, 1) := by decide +kernel
theorem dX1_begin_16 : decode cX1_begin 16 = .ok (.putfield 40, 3) := by decide +kernel
theorem dX1_begin_19 : decode cX1_begin 19 = .ok (.return_, 1) := by decide +kernel
theorem dX1_hold_0 : decode cX1_hold 0 = .ok (.aload_n 0, 1) := by decide +kernel
theorem dX1_hold_1 : decode cX1_hold 1 = .ok (.getfield 40, 3) := by decide +kernel
theorem dX1_hold_4 : decode cX1_hold 4 = .ok (.bipush 8, 2) := by decide +kernel
theorem dX1_hold_6 : decode cX1_hold 6 = .ok (.if_icmp .ge 33, 3) := by decide +kernel
theorem dX1_hold_9 : decode cX1_hold 9 = .ok (.aload_n 0, 1) := by decide +kernel
theorem dX1_hold_10 : decode cX1_hold 10 = .ok (.getfield 9, 3) := by decide +kernel
theorem dX1_hold_13 : decode cX1_hold 13 = .ok (.aload_n 0, 1) := by decide +kernel
theorem dX1_hold_14 : decode cX1_hold 14 = .ok (.getfield 40, 3) := by decide +kernel
theorem dX1_hold_17 : decode cX1_hold 17 = .ok (.iload_n 1, 1) := by decide +kernel
theorem dX1_hold_18 : decode cX1_hold 18 = .ok (.iastore, 1) := by decide +kernel
theorem dX1_hold_19 : decode cX1_hold 19 = .ok (.aload_n 0, 1) := by decide +kernel
theorem dX1_hold_20 : decode cX1_hold 20 = .ok (.getfield 15, 3) := by decide +kernel
theorem dX1_hold_23 : decode cX1_hold 23 = .ok (.aload_n 0, 1) := by decide +kernel
theorem dX1_hold_24 : decode cX1_hold 24 = .ok (.getfield 40, 3) := by decide +kernel
theorem dX1_hold_27 : decode cX1_hold 27 = .ok (.iload_n 2, 1) := by decide +kernel
theorem dX1_hold_28 : decode cX1_hold 28 = .ok (.iastore, 1) := by decide +kernel
theorem dX1_hold_29 : decode cX1_hold 29 = .ok (.aload_n 0, 1) := by decide +kernel
theorem dX1_hold_30 : decode cX1_hold 30 = .ok (.dup, 1) := by decide +kernel
theorem dX1_hold_31 : decode cX1_hold 31 = .ok (.getfield 40, 3) := by decide +kernel
theorem dX1_hold_34 : decode cX1_hold 34 = .ok (.iconst 1, 1) := by decide +kernel
theorem dX1_hold_35 : decode cX1_hold 35 = .ok (.iadd, 1) := by decide +kernel
theorem dX1_hold_36 : decode cX1_hold 36 = .ok (.putfield 40, 3) := by decide +kernel
theorem dX1_hold_39 : decode cX1_hold 39 = .ok (.return_, 1) := by decide +kernel
theorem dX1_hasEnough_0 : decode cX1_hasEnough 0 = .ok (.aload_n 0, 1) := by decide +kernel
theorem dX1_hasEnough_1 : decode cX1_hasEnough 1 = .ok (.getfield 40, 3) := by decide +kernel
theorem dX1_hasEnough_4 : decode cX1_hasEnough 4 = .ok (.aload_n 0, 1) := by decide +kernel
theorem dX1_hasEnough_5 : decode cX1_hasEnough 5 = .ok (.getfield 36, 3) := by decide +kernel
theorem dX1_hasEnough_8 : decode cX1_hasEnough 8 = .ok (.if_icmp .lt 7, 3) := by decide +kernel
theorem dX1_hasEnough_11 : decode cX1_hasEnough 11 = .ok (.iconst 1, 1) := by decide +kernel
theorem dX1_hasEnough_12 : decode cX1_hasEnough 12 = .ok (.goto 4, 3) := by decide +kernel
theorem dX1_hasEnough_15 : decode cX1_hasEnough 15 = .ok (.iconst 0, 1) := by decide +kernel
theorem dX1_hasEnough_16 : decode cX1_hasEnough 16 = .ok (.ireturn, 1) := by decide +kernel
theorem dX1_goThroughFirst_0 : decode cX1_goThroughFirst 0 = .ok (.aload_n 0, 1) := by decide +kernel
theorem dX1_goThroughFirst_1 : decode cX1_goThroughFirst 1 = .ok (.iconst 1, 1) := by decide +kernel
theorem dX1_goThroughFirst_2 : decode cX1_goThroughFirst 2 = .ok (.aload_n 0, 1) := by decide +kernel
theorem dX1_goThroughFirst_3 : decode cX1_goThroughFirst 3 = .ok (.getfield 36, 3) := by decide +kernel
theorem dX1_goThroughFirst_6 : decode cX1_goThroughFirst 6 = .ok (.ishl, 1) := by decide +kernel
theorem dX1_goThroughFirst_7 : decode cX1_goThroughFirst 7 = .ok (.iconst 1, 1) := by decide +kernel
theorem dX1_goThroughFirst_8 : decode cX1_goThroughFirst 8 = .ok (.isub, 1) := by decide +kernel
theorem dX1_goThroughFirst_9 : decode cX1_goThroughFirst 9 = .ok (.invokevirtual 43, 3) := by decide +kernel
theorem dX1_goThroughFirst_12 : decode cX1_goThroughFirst 12 = .ok (.return_, 1) := by decide +kernel
theorem dX1_mend_0 : decode cX1_mend 0 = .ok (.aload_n 0, 1) := by decide +kernel
theorem dX1_mend_1 : decode cX1_mend 1 = .ok (.getfield 40, 3) := by decide +kernel
theorem dX1_mend_4 : decode cX1_mend 4 = .ok (.aload_n 0, 1) := by decide +kernel
theorem dX1_mend_5 : decode cX1_mend 5 = .ok (.getfield 36, 3) := by decide +kernel
theorem dX1_mend_8 : decode cX1_mend 8 = .ok (.isub, 1) := by decide +kernel
theorem dX1_mend_9 : decode cX1_mend 9 = .ok (.iconst 2, 1) := by decide +kernel
theorem dX1_mend_10 : decode cX1_mend 10 = .ok (.idiv, 1) := by decide +kernel
theorem dX1_mend_11 : decode cX1_mend 11 = .ok (.istore_n 1, 1) := by decide +kernel
theorem dX1_mend_12 : decode cX1_mend 12 = .ok (.iconst 1, 1) := by decide +kernel
theorem dX1_mend_13 : decode cX1_mend 13 = .ok (.aload_n 0, 1) := by decide +kernel
theorem dX1_mend_14 : decode cX1_mend 14 = .ok (.getfield 36, 3) := by decide +kernel
theorem dX1_mend_17 : decode cX1_mend 17 = .ok (.ishl, 1) := by decide +kernel
theorem dX1_mend_18 : decode cX1_mend 18 = .ok (.iconst 1, 1) := by decide +kernel
theorem dX1_mend_19 : decode cX1_mend 19 = .ok (.isub, 1) := by decide +kernel
theorem dX1_mend_20 : decode cX1_mend 20 = .ok (.istore_n 2, 1) := by decide +kernel
theorem dX1_mend_21 : decode cX1_mend 21 = .ok (.iload_n 2, 1) := by decide +kernel
theorem dX1_mend_22 : decode cX1_mend 22 = .ok (.iconst 1, 1) := by decide +kernel
theorem dX1_mend_23 : decode cX1_mend 23 = .ok (.aload_n 0, 1) := by decide +kernel
theorem dX1_mend_24 : decode cX1_mend 24 = .ok (.getfield 36, 3) := by decide +kernel
theorem dX1_mend_27 : decode cX1_mend 27 = .ok (.iload_n 1, 1) := by decide +kernel
theorem dX1_mend_28 : decode cX1_mend 28 = .ok (.iadd, 1) := by decide +kernel
theorem dX1_mend_29 : decode cX1_mend 29 = .ok (.ishl, 1) := by decide +kernel
theorem dX1_mend_30 : decode cX1_mend 30 = .ok (.if_icmp .ge 40, 3) := by decide +kernel
theorem dX1_mend_33 : decode cX1_mend 33 = .ok (.iload_n 2, 1) := by decide +kernel
theorem dX1_mend_34 : decode cX1_mend 34 = .ok (.invokestatic 47, 3) := by decide +kernel
theorem dX1_mend_37 : decode cX1_mend 37 = .ok (.aload_n 0, 1) := by decide +kernel
theorem dX1_mend_38 : decode cX1_mend 38 = .ok (.getfield 36, 3) := by decide +kernel
theorem dX1_mend_41 : decode cX1_mend 41 = .ok (.if_icmp .ne 23, 3) := by decide +kernel
theorem dX1_mend_44 : decode cX1_mend 44 = .ok (.aload_n 0, 1) := by decide +kernel
theorem dX1_mend_45 : decode cX1_mend 45 = .ok (.iload_n 2, 1) := by decide +kernel
theorem dX1_mend_46 : decode cX1_mend 46 = .ok (.invokevirtual 43, 3) := by decide +kernel
theorem dX1_mend_49 : decode cX1_mend 49 = .ok (.aload_n 0, 1) := by decide +kernel
theorem dX1_mend_50 : decode cX1_mend 50 = .ok (.invokevirtual 53, 3) := by decide +kernel
theorem dX1_mend_53 : decode cX1_mend 53 = .ok (.aload_n 0, 1) := by decide +kernel
theorem dX1_mend_54 : decode cX1_mend 54 = .ok (.getfield 40, 3) := by decide +kernel
theorem dX1_mend_57 : decode cX1_mend 57 = .ok (.iload_n 1, 1) := by decide +kernel
theorem dX1_mend_58 : decode cX1_mend 58 = .ok (.isub, 1) := by decide +kernel
theorem dX1_mend_59 : decode cX1_mend 59 = .ok (.if_icmp .lt 5, 3) := by decide +kernel
theorem dX1_mend_62 : decode cX1_mend 62 = .ok (.iconst 1, 1) := by decide +kernel
theorem dX1_mend_63 : decode cX1_mend 63 = .ok (.ireturn, 1) := by decide +kernel
theorem dX1_mend_64 : decode cX1_mend 64 = .ok (.iinc 2 1, 3) := by decide +kernel
theorem dX1_mend_67 : decode cX1_mend 67 = .ok (.goto (-46), 3) := by decide +kernel
theorem dX1_mend_70 : decode cX1_mend 70 = .ok (.iconst 0, 1) := by decide +kernel
theorem dX1_mend_71 : decode cX1_mend 71 = .ok (.ireturn, 1) := by decide +kernel
theorem dX1_coefficient_0 : decode cX1_coefficient 0 = .ok (.iload_n 1, 1) := by decide +kernel
theorem dX1_coefficient_1 : decode cX1_coefficient 1 = .ok (.iconst 0, 1) := by decide +kernel
theorem dX1_coefficient_2 : decode cX1_coefficient 2 = .ok (.aload_n 0, 1) := by decide +kernel
theorem dX1_coefficient_3 : decode cX1_coefficient 3 = .ok (.getfield 36, 3) := by decide +kernel
theorem dX1_coefficient_6 : decode cX1_coefficient 6 = .ok (.iconst 1, 1) := by decide +kernel
theorem dX1_coefficient_7 : decode cX1_coefficient 7 = .ok (.isub, 1) := by decide +kernel
theorem dX1_coefficient_8 : decode cX1_coefficient 8 = .ok (.invokestatic 57, 3) := by decide +kernel
theorem dX1_coefficient_11 : decode cX1_coefficient 11 = .ok (.ifCond .eq 12, 3) := by decide +kernel
theorem dX1_coefficient_14 : decode cX1_coefficient 14 = .ok (.aload_n 0, 1) := by decide +kernel
theorem dX1_coefficient_15 : decode cX1_coefficient 15 = .ok (.getfield 24, 3) := by decide +kernel
theorem dX1_coefficient_18 : decode cX1_coefficient 18 = .ok (.iload_n 1, 1) := by decide +kernel
theorem dX1_coefficient_19 : decode cX1_coefficient 19 = .ok (.iaload, 1) := by decide +kernel
theorem dX1_coefficient_20 : decode cX1_coefficient 20 = .ok (.goto 4, 3) := by decide +kernel
theorem dX1_coefficient_23 : decode cX1_coefficient 23 = .ok (.iconst 0, 1) := by decide +kernel
theorem dX1_coefficient_24 : decode cX1_coefficient 24 = .ok (.ireturn, 1) := by decide +kernel
theorem dX1_at_0 : decode cX1_at 0 = .ok (.aload_n 0, 1) := by decide +kernel
theorem dX1_at_1 : decode cX1_at 1 = .ok (.getfield 24, 3) := by decide +kernel
theorem dX1_at_4 : decode cX1_at 4 = .ok (.iconst 0, 1) := by decide +kernel
theorem dX1_at_5 : decode cX1_at 5 = .ok (.aload_n 0, 1) := by decide +kernel
theorem dX1_at_6 : decode cX1_at 6 = .ok (.getfield 36, 3) := by decide +kernel
theorem dX1_at_9 : decode cX1_at 9 = .ok (.iload_n 1, 1) := by decide +kernel
theorem dX1_at_10 : decode cX1_at 10 = .ok (.invokestatic 61, 3) := by decide +kernel
theorem dX1_at_13 : decode cX1_at 13 = .ok (.ireturn, 1) := by decide +kernel
theorem dX1_agreeing_0 : decode cX1_agreeing 0 = .ok (.iconst 0, 1) := by decide +kernel
theorem dX1_agreeing_1 : decode cX1_agreeing 1 = .ok (.istore_n 1, 1) := by decide +kernel
theorem dX1_agreeing_2 : decode cX1_agreeing 2 = .ok (.iconst 0, 1) := by decide +kernel
theorem dX1_agreeing_3 : decode cX1_agreeing 3 = .ok (.istore_n 2, 1) := by decide +kernel
theorem dX1_agreeing_4 : decode cX1_agreeing 4 = .ok (.iload_n 2, 1) := by decide +kernel
theorem dX1_agreeing_5 : decode cX1_agreeing 5 = .ok (.aload_n 0, 1) := by decide +kernel
theorem dX1_agreeing_6 : decode cX1_agreeing 6 = .ok (.getfield 40, 3) := by decide +kernel
theorem dX1_agreeing_9 : decode cX1_agreeing 9 = .ok (.if_icmp .ge 39, 3) := by decide +kernel
theorem dX1_agreeing_12 : decode cX1_agreeing 12 = .ok (.aload_n 0, 1) := by decide +kernel
theorem dX1_agreeing_13 : decode cX1_agreeing 13 = .ok (.getfield 24, 3) := by decide +kernel
theorem dX1_agreeing_16 : decode cX1_agreeing 16 = .ok (.iconst 0, 1) := by decide +kernel
theorem dX1_agreeing_17 : decode cX1_agreeing 17 = .ok (.aload_n 0, 1) := by decide +kernel
theorem dX1_agreeing_18 : decode cX1_agreeing 18 = .ok (.getfield 36, 3) := by decide +kernel
theorem dX1_agreeing_21 : decode cX1_agreeing 21 = .ok (.aload_n 0, 1) := by decide +kernel
theorem dX1_agreeing_22 : decode cX1_agreeing 22 = .ok (.getfield 9, 3) := by decide +kernel
theorem dX1_agreeing_25 : decode cX1_agreeing 25 = .ok (.iload_n 2, 1) := by decide +kernel
theorem dX1_agreeing_26 : decode cX1_agreeing 26 = .ok (.iaload, 1) := by decide +kernel
theorem dX1_agreeing_27 : decode cX1_agreeing 27 = .ok (.invokestatic 61, 3) := by decide +kernel
theorem dX1_agreeing_30 : decode cX1_agreeing 30 = .ok (.aload_n 0, 1) := by decide +kernel
theorem dX1_agreeing_31 : decode cX1_agreeing 31 = .ok (.getfield 15, 3) := by decide +kernel
theorem dX1_agreeing_34 : decode cX1_agreeing 34 = .ok (.iload_n 2, 1) := by decide +kernel
theorem dX1_agreeing_35 : decode cX1_agreeing 35 = .ok (.iaload, 1) := by decide +kernel
theorem dX1_agreeing_36 : decode cX1_agreeing 36 = .ok (.if_icmp .ne 6, 3) := by decide +kernel
theorem dX1_agreeing_39 : decode cX1_agreeing 39 = .ok (.iinc 1 1, 3) := by decide +kernel
theorem dX1_agreeing_42 : decode cX1_agreeing 42 = .ok (.iinc 2 1, 3) := by decide +kernel
theorem dX1_agreeing_45 : decode cX1_agreeing 45 = .ok (.goto (-41), 3) := by decide +kernel
theorem dX1_agreeing_48 : decode cX1_agreeing 48 = .ok (.iload_n 1, 1) := by decide +kernel
theorem dX1_agreeing_49 : decode cX1_agreeing 49 = .ok (.ireturn, 1) := by decide +kernel
theorem dX1_goThrough_0 : decode cX1_goThrough 0 = .ok (.iconst 0, 1) := by decide +kernel
theorem dX1_goThrough_1 : decode cX1_goThrough 1 = .ok (.istore_n 2, 1) := by decide +kernel
theorem dX1_goThrough_2 : decode cX1_goThrough 2 = .ok (.iconst 0, 1) := by decide +kernel
theorem dX1_goThrough_3 : decode cX1_goThrough 3 = .ok (.istore_n 3, 1) := by decide +kernel
theorem dX1_goThrough_4 : decode cX1_goThrough 4 = .ok (.iload_n 3, 1) := by decide +kernel
theorem dX1_goThrough_5 : decode cX1_goThrough 5 = .ok (.aload_n 0, 1) := by decide +kernel
theorem dX1_goThrough_6 : decode cX1_goThrough 6 = .ok (.getfield 40, 3) := by decide +kernel
theorem dX1_goThrough_9 : decode cX1_goThrough 9 = .ok (.if_icmp .ge 53, 3) := by decide +kernel
theorem dX1_goThrough_12 : decode cX1_goThrough 12 = .ok (.iload_n 2, 1) := by decide +kernel
theorem dX1_goThrough_13 : decode cX1_goThrough 13 = .ok (.aload_n 0, 1) := by decide +kernel
theorem dX1_goThrough_14 : decode cX1_goThrough 14 = .ok (.getfield 36, 3) := by decide +kernel
theorem dX1_goThrough_17 : decode cX1_goThrough 17 = .ok (.if_icmp .ge 45, 3) := by decide +kernel
theorem dX1_goThrough_20 : decode cX1_goThrough 20 = .ok (.iload_n 1, 1) := by decide +kernel
theorem dX1_goThrough_21 : decode cX1_goThrough 21 = .ok (.iload_n 3, 1) := by decide +kernel
theorem dX1_goThrough_22 : decode cX1_goThrough 22 = .ok (.ishr, 1) := by decide +kernel
theorem dX1_goThrough_23 : decode cX1_goThrough 23 = .ok (.iconst 1, 1) := by decide +kernel
theorem dX1_goThrough_24 : decode cX1_goThrough 24 = .ok (.iand, 1) := by decide +kernel
theorem dX1_goThrough_25 : decode cX1_goThrough 25 = .ok (.iconst 1, 1) := by decide +kernel
theorem dX1_goThrough_26 : decode cX1_goThrough 26 = .ok (.if_icmp .ne 30, 3) := by decide +kernel
theorem dX1_goThrough_29 : decode cX1_goThrough 29 = .ok (.aload_n 0, 1) := by decide +kernel
theorem dX1_goThrough_30 : decode cX1_goThrough 30 = .ok (.getfield 18, 3) := by decide +kernel
theorem dX1_goThrough_33 : decode cX1_goThrough 33 = .ok (.iload_n 2, 1) := by decide +kernel
theorem dX1_goThrough_34 : decode cX1_goThrough 34 = .ok (.aload_n 0, 1) := by decide +kernel
theorem dX1_goThrough_35 : decode cX1_goThrough 35 = .ok (.getfield 9, 3) := by decide +kernel
theorem dX1_goThrough_38 : decode cX1_goThrough 38 = .ok (.iload_n 3, 1) := by decide +kernel
theorem dX1_goThrough_39 : decode cX1_goThrough 39 = .ok (.iaload, 1) := by decide +kernel
theorem dX1_goThrough_40 : decode cX1_goThrough 40 = .ok (.iastore, 1) := by decide +kernel
theorem dX1_goThrough_41 : decode cX1_goThrough 41 = .ok (.aload_n 0, 1) := by decide +kernel
theorem dX1_goThrough_42 : decode cX1_goThrough 42 = .ok (.getfield 21, 3) := by decide +kernel
theorem dX1_goThrough_45 : decode cX1_goThrough 45 = .ok (.iload_n 2, 1) := by decide +kernel
theorem dX1_goThrough_46 : decode cX1_goThrough 46 = .ok (.aload_n 0, 1) := by decide +kernel
theorem dX1_goThrough_47 : decode cX1_goThrough 47 = .ok (.getfield 15, 3) := by decide +kernel
theorem dX1_goThrough_50 : decode cX1_goThrough 50 = .ok (.iload_n 3, 1) := by decide +kernel
theorem dX1_goThrough_51 : decode cX1_goThrough 51 = .ok (.iaload, 1) := by decide +kernel
theorem dX1_goThrough_52 : decode cX1_goThrough 52 = .ok (.iastore, 1) := by decide +kernel
theorem dX1_goThrough_53 : decode cX1_goThrough 53 = .ok (.iinc 2 1, 3) := by decide +kernel
theorem dX1_goThrough_56 : decode cX1_goThrough 56 = .ok (.iinc 3 1, 3) := by decide +kernel
theorem dX1_goThrough_59 : decode cX1_goThrough 59 = .ok (.goto (-55), 3) := by decide +kernel
theorem dX1_goThrough_62 : decode cX1_goThrough 62 = .ok (.aload_n 0, 1) := by decide +kernel
theorem dX1_goThrough_63 : decode cX1_goThrough 63 = .ok (.invokevirtual 65, 3) := by decide +kernel
theorem dX1_goThrough_66 : decode cX1_goThrough 66 = .ok (.aload_n 0, 1) := by decide +kernel
theorem dX1_goThrough_67 : decode cX1_goThrough 67 = .ok (.invokevirtual 68, 3) := by decide +kernel
theorem dX1_goThrough_70 : decode cX1_goThrough 70 = .ok (.return_, 1) := by decide +kernel
theorem dX1_divideDifferences_0 : decode cX1_divideDifferences 0 = .ok (.iconst 1, 1) := by decide +kernel
theorem dX1_divideDifferences_1 : decode cX1_divideDifferences 1 = .ok (.istore_n 1, 1) := by decide +kernel
theorem dX1_divideDifferences_2 : decode cX1_divideDifferences 2 = .ok (.iload_n 1, 1) := by decide +kernel
theorem dX1_divideDifferences_3 : decode cX1_divideDifferences 3 = .ok (.aload_n 0, 1) := by decide +kernel
theorem dX1_divideDifferences_4 : decode cX1_divideDifferences 4 = .ok (.getfield 36, 3) := by decide +kernel
theorem dX1_divideDifferences_7 : decode cX1_divideDifferences 7 = .ok (.if_icmp .ge 80, 3) := by decide +kernel
theorem dX1_divideDifferences_10 : decode cX1_divideDifferences 10 = .ok (.aload_n 0, 1) := by decide +kernel
theorem dX1_divideDifferences_11 : decode cX1_divideDifferences 11 = .ok (.getfield 36, 3) := by decide +kernel
theorem dX1_divideDifferences_14 : decode cX1_divideDifferences 14 = .ok (.iconst 1, 1) := by decide +kernel
theorem dX1_divideDifferences_15 : decode cX1_divideDifferences 15 = .ok (.isub, 1) := by decide +kernel
theorem dX1_divideDifferences_16 : decode cX1_divideDifferences 16 = .ok (.istore_n 2, 1) := by decide +kernel
theorem dX1_divideDifferences_17 : decode cX1_divideDifferences 17 = .ok (.iload_n 2, 1) := by decide +kernel
theorem dX1_divideDifferences_18 : decode cX1_divideDifferences 18 = .ok (.iload_n 1, 1) := by decide +kernel
theorem dX1_divideDifferences_19 : decode cX1_divideDifferences 19 = .ok (.if_icmp .lt 62, 3) := by decide +kernel
theorem dX1_divideDifferences_22 : decode cX1_divideDifferences 22 = .ok (.getstatic 71, 3) := by decide +kernel
theorem dX1_divideDifferences_25 : decode cX1_divideDifferences 25 = .ok (.aload_n 0, 1) := by decide +kernel
theorem dX1_divideDifferences_26 : decode cX1_divideDifferences 26 = .ok (.getfield 18, 3) := by decide +kernel
theorem dX1_divideDifferences_29 : decode cX1_divideDifferences 29 = .ok (.iload_n 2, 1) := by decide +kernel
theorem dX1_divideDifferences_30 : decode cX1_divideDifferences 30 = .ok (.iaload, 1) := by decide +kernel
theorem dX1_divideDifferences_31 : decode cX1_divideDifferences 31 = .ok (.aload_n 0, 1) := by decide +kernel
theorem dX1_divideDifferences_32 : decode cX1_divideDifferences 32 = .ok (.getfield 18, 3) := by decide +kernel
theorem dX1_divideDifferences_35 : decode cX1_divideDifferences 35 = .ok (.iload_n 2, 1) := by decide +kernel
theorem dX1_divideDifferences_36 : decode cX1_divideDifferences 36 = .ok (.iload_n 1, 1) := by decide +kernel
theorem dX1_divideDifferences_37 : decode cX1_divideDifferences 37 = .ok (.isub, 1) := by decide +kernel
theorem dX1_divideDifferences_38 : decode cX1_divideDifferences 38 = .ok (.iaload, 1) := by decide +kernel
theorem dX1_divideDifferences_39 : decode cX1_divideDifferences 39 = .ok (.isub, 1) := by decide +kernel
theorem dX1_divideDifferences_40 : decode cX1_divideDifferences 40 = .ok (.bipush 29, 2) := by decide +kernel
theorem dX1_divideDifferences_42 : decode cX1_divideDifferences 42 = .ok (.invokestatic 74, 3) := by decide +kernel
theorem dX1_divideDifferences_45 : decode cX1_divideDifferences 45 = .ok (.iaload, 1) := by decide +kernel
theorem dX1_divideDifferences_46 : decode cX1_divideDifferences 46 = .ok (.istore_n 3, 1) := by decide +kernel
theorem dX1_divideDifferences_47 : decode cX1_divideDifferences 47 = .ok (.aload_n 0, 1) := by decide +kernel
theorem dX1_divideDifferences_48 : decode cX1_divideDifferences 48 = .ok (.getfield 21, 3) := by decide +kernel
theorem dX1_divideDifferences_51 : decode cX1_divideDifferences 51 = .ok (.iload_n 2, 1) := by decide +kernel
theorem dX1_divideDifferences_52 : decode cX1_divideDifferences 52 = .ok (.aload_n 0, 1) := by decide +kernel
theorem dX1_divideDifferences_53 : decode cX1_divideDifferences 53 = .ok (.getfield 21, 3) := by decide +kernel
theorem dX1_divideDifferences_56 : decode cX1_divideDifferences 56 = .ok (.iload_n 2, 1) := by decide +kernel
theorem dX1_divideDifferences_57 : decode cX1_divideDifferences 57 = .ok (.iaload, 1) := by decide +kernel
theorem dX1_divideDifferences_58 : decode cX1_divideDifferences 58 = .ok (.aload_n 0, 1) := by decide +kernel
theorem dX1_divideDifferences_59 : decode cX1_divideDifferences 59 = .ok (.getfield 21, 3) := by decide +kernel
theorem dX1_divideDifferences_62 : decode cX1_divideDifferences 62 = .ok (.iload_n 2, 1) := by decide +kernel
theorem dX1_divideDifferences_63 : decode cX1_divideDifferences 63 = .ok (.iconst 1, 1) := by decide +kernel
theorem dX1_divideDifferences_64 : decode cX1_divideDifferences 64 = .ok (.isub, 1) := by decide +kernel
theorem dX1_divideDifferences_65 : decode cX1_divideDifferences 65 = .ok (.iaload, 1) := by decide +kernel
theorem dX1_divideDifferences_66 : decode cX1_divideDifferences 66 = .ok (.isub, 1) := by decide +kernel
theorem dX1_divideDifferences_67 : decode cX1_divideDifferences 67 = .ok (.iload_n 3, 1) := by decide +kernel
theorem dX1_divideDifferences_68 : decode cX1_divideDifferences 68 = .ok (.imul, 1) := by decide +kernel
theorem dX1_divideDifferences_69 : decode cX1_divideDifferences 69 = .ok (.bipush 29, 2) := by decide +kernel
theorem dX1_divideDifferences_71 : decode cX1_divideDifferences 71 = .ok (.invokestatic 74, 3) := by decide +kernel
theorem dX1_divideDifferences_74 : decode cX1_divideDifferences 74 = .ok (.iastore, 1) := by decide +kernel
theorem dX1_divideDifferences_75 : decode cX1_divideDifferences 75 = .ok (.iinc 2 (-1), 3) := by decide +kernel
theorem dX1_divideDifferences_78 : decode cX1_divideDifferences 78 = .ok (.goto (-61), 3) := by decide +kernel
theorem dX1_divideDifferences_81 : decode cX1_divideDifferences 81 = .ok (.iinc 1 1, 3) := by decide +kernel
theorem dX1_divideDifferences_84 : decode cX1_divideDifferences 84 = .ok (.goto (-82), 3) := by decide +kernel
theorem dX1_divideDifferences_87 : decode cX1_divideDifferences 87 = .ok (.return_, 1) := by decide +kernel
theorem dX1_multiplyOut_0 : decode cX1_multiplyOut 0 = .ok (.iconst 0, 1) := by decide +kernel
theorem dX1_multiplyOut_1 : decode cX1_multiplyOut 1 = .ok (.istore_n 1, 1) := by decide +kernel
theorem dX1_multiplyOut_2 : decode cX1_multiplyOut 2 = .ok (.iload_n 1, 1) := by decide +kernel
theorem dX1_multiplyOut_3 : decode cX1_multiplyOut 3 = .ok (.aload_n 0, 1) := by decide +kernel
theorem dX1_multiplyOut_4 : decode cX1_multiplyOut 4 = .ok (.getfield 36, 3) := by decide +kernel
theorem dX1_multiplyOut_7 : decode cX1_multiplyOut 7 = .ok (.if_icmp .ge 16, 3) := by decide +kernel
theorem dX1_multiplyOut_10 : decode cX1_multiplyOut 10 = .ok (.aload_n 0, 1) := by decide +kernel
theorem dX1_multiplyOut_11 : decode cX1_multiplyOut 11 = .ok (.getfield 24, 3) := by decide +kernel
theorem dX1_multiplyOut_14 : decode cX1_multiplyOut 14 = .ok (.iload_n 1, 1) := by decide +kernel
theorem dX1_multiplyOut_15 : decode cX1_multiplyOut 15 = .ok (.iconst 0, 1) := by decide +kernel
theorem dX1_multiplyOut_16 : decode cX1_multiplyOut 16 = .ok (.iastore, 1) := by decide +kernel
theorem dX1_multiplyOut_17 : decode cX1_multiplyOut 17 = .ok (.iinc 1 1, 3) := by decide +kernel
theorem dX1_multiplyOut_20 : decode cX1_multiplyOut 20 = .ok (.goto (-18), 3) := by decide +kernel
theorem dX1_multiplyOut_23 : decode cX1_multiplyOut 23 = .ok (.aload_n 0, 1) := by decide +kernel
theorem dX1_multiplyOut_24 : decode cX1_multiplyOut 24 = .ok (.getfield 36, 3) := by decide +kernel
theorem dX1_multiplyOut_27 : decode cX1_multiplyOut 27 = .ok (.iconst 1, 1) := by decide +kernel
theorem dX1_multiplyOut_28 : decode cX1_multiplyOut 28 = .ok (.isub, 1) := by decide +kernel
theorem dX1_multiplyOut_29 : decode cX1_multiplyOut 29 = .ok (.istore_n 1, 1) := by decide +kernel
theorem dX1_multiplyOut_30 : decode cX1_multiplyOut 30 = .ok (.iload_n 1, 1) := by decide +kernel
theorem dX1_multiplyOut_31 : decode cX1_multiplyOut 31 = .ok (.ifCond .lt 91, 3) := by decide +kernel
theorem dX1_multiplyOut_34 : decode cX1_multiplyOut 34 = .ok (.aload_n 0, 1) := by decide +kernel
theorem dX1_multiplyOut_35 : decode cX1_multiplyOut 35 = .ok (.getfield 36, 3) := by decide +kernel
theorem dX1_multiplyOut_38 : decode cX1_multiplyOut 38 = .ok (.iconst 1, 1) := by decide +kernel
theorem dX1_multiplyOut_39 : decode cX1_multiplyOut 39 = .ok (.isub, 1) := by decide +kernel
theorem dX1_multiplyOut_40 : decode cX1_multiplyOut 40 = .ok (.istore_n 2, 1) := by decide +kernel
theorem dX1_multiplyOut_41 : decode cX1_multiplyOut 41 = .ok (.iload_n 2, 1) := by decide +kernel
theorem dX1_multiplyOut_42 : decode cX1_multiplyOut 42 = .ok (.iconst 1, 1) := by decide +kernel
theorem dX1_multiplyOut_43 : decode cX1_multiplyOut 43 = .ok (.if_icmp .lt 42, 3) := by decide +kernel
theorem dX1_multiplyOut_46 : decode cX1_multiplyOut 46 = .ok (.aload_n 0, 1) := by decide +kernel
theorem dX1_multiplyOut_47 : decode cX1_multiplyOut 47 = .ok (.getfield 24, 3) := by decide +kernel
theorem dX1_multiplyOut_50 : decode cX1_multiplyOut 50 = .ok (.iload_n 2, 1) := by decide +kernel
theorem dX1_multiplyOut_51 : decode cX1_multiplyOut 51 = .ok (.aload_n 0, 1) := by decide +kernel
theorem dX1_multiplyOut_52 : decode cX1_multiplyOut 52 = .ok (.getfield 24, 3) := by decide +kernel
theorem dX1_multiplyOut_55 : decode cX1_multiplyOut 55 = .ok (.iload_n 2, 1) := by decide +kernel
theorem dX1_multiplyOut_56 : decode cX1_multiplyOut 56 = .ok (.iconst 1, 1) := by decide +kernel
theorem dX1_multiplyOut_57 : decode cX1_multiplyOut 57 = .ok (.isub, 1) := by decide +kernel
theorem dX1_multiplyOut_58 : decode cX1_multiplyOut 58 = .ok (.iaload, 1) := by decide +kernel
theorem dX1_multiplyOut_59 : decode cX1_multiplyOut 59 = .ok (.aload_n 0, 1) := by decide +kernel
theorem dX1_multiplyOut_60 : decode cX1_multiplyOut 60 = .ok (.getfield 18, 3) := by decide +kernel
theorem dX1_multiplyOut_63 : decode cX1_multiplyOut 63 = .ok (.iload_n 1, 1) := by decide +kernel
theorem dX1_multiplyOut_64 : decode cX1_multiplyOut 64 = .ok (.iaload, 1) := by decide +kernel
theorem dX1_multiplyOut_65 : decode cX1_multiplyOut 65 = .ok (.aload_n 0, 1) := by decide +kernel
theorem dX1_multiplyOut_66 : decode cX1_multiplyOut 66 = .ok (.getfield 24, 3) := by decide +kernel
theorem dX1_multiplyOut_69 : decode cX1_multiplyOut 69 = .ok (.iload_n 2, 1) := by decide +kernel
theorem dX1_multiplyOut_70 : decode cX1_multiplyOut 70 = .ok (.iaload, 1) := by decide +kernel
theorem dX1_multiplyOut_71 : decode cX1_multiplyOut 71 = .ok (.imul, 1) := by decide +kernel
theorem dX1_multiplyOut_72 : decode cX1_multiplyOut 72 = .ok (.isub, 1) := by decide +kernel
theorem dX1_multiplyOut_73 : decode cX1_multiplyOut 73 = .ok (.bipush 29, 2) := by decide +kernel
theorem dX1_multiplyOut_75 : decode cX1_multiplyOut 75 = .ok (.invokestatic 74, 3) := by decide +kernel
theorem dX1_multiplyOut_78 : decode cX1_multiplyOut 78 = .ok (.iastore, 1) := by decide +kernel
theorem dX1_multiplyOut_79 : decode cX1_multiplyOut 79 = .ok (.iinc 2 (-1), 3) := by decide +kernel
theorem dX1_multiplyOut_82 : decode cX1_multiplyOut 82 = .ok (.goto (-41), 3) := by decide +kernel
theorem dX1_multiplyOut_85 : decode cX1_multiplyOut 85 = .ok (.aload_n 0, 1) := by decide +kernel
theorem dX1_multiplyOut_86 : decode cX1_multiplyOut 86 = .ok (.getfield 24, 3) := by decide +kernel
theorem dX1_multiplyOut_89 : decode cX1_multiplyOut 89 = .ok (.iconst 0, 1) := by decide +kernel
theorem dX1_multiplyOut_90 : decode cX1_multiplyOut 90 = .ok (.aload_n 0, 1) := by decide +kernel
theorem dX1_multiplyOut_91 : decode cX1_multiplyOut 91 = .ok (.getfield 21, 3) := by decide +kernel
theorem dX1_multiplyOut_94 : decode cX1_multiplyOut 94 = .ok (.iload_n 1, 1) := by decide +kernel
theorem dX1_multiplyOut_95 : decode cX1_multiplyOut 95 = .ok (.iaload, 1) := by decide +kernel
theorem dX1_multiplyOut_96 : decode cX1_multiplyOut 96 = .ok (.aload_n 0, 1) := by decide +kernel
theorem dX1_multiplyOut_97 : decode cX1_multiplyOut 97 = .ok (.getfield 18, 3) := by decide +kernel
theorem dX1_multiplyOut_100 : decode cX1_multiplyOut 100 = .ok (.iload_n 1, 1) := by decide +kernel
theorem dX1_multiplyOut_101 : decode cX1_multiplyOut 101 = .ok (.iaload, 1) := by decide +kernel
theorem dX1_multiplyOut_102 : decode cX1_multiplyOut 102 = .ok (.aload_n 0, 1) := by decide +kernel
theorem dX1_multiplyOut_103 : decode cX1_multiplyOut 103 = .ok (.getfield 24, 3) := by decide +kernel
theorem dX1_multiplyOut_106 : decode cX1_multiplyOut 106 = .ok (.iconst 0, 1) := by decide +kernel
theorem dX1_multiplyOut_107 : decode cX1_multiplyOut 107 = .ok (.iaload, 1) := by decide +kernel
theorem dX1_multiplyOut_108 : decode cX1_multiplyOut 108 = .ok (.imul, 1) := by decide +kernel
theorem dX1_multiplyOut_109 : decode cX1_multiplyOut 109 = .ok (.isub, 1) := by decide +kernel
theorem dX1_multiplyOut_110 : decode cX1_multiplyOut 110 = .ok (.bipush 29, 2) := by decide +kernel
theorem dX1_multiplyOut_112 : decode cX1_multiplyOut 112 = .ok (.invokestatic 74, 3) := by decide +kernel
theorem dX1_multiplyOut_115 : decode cX1_multiplyOut 115 = .ok (.iastore, 1) := by decide +kernel
theorem dX1_multiplyOut_116 : decode cX1_multiplyOut 116 = .ok (.iinc 1 (-1), 3) := by decide +kernel
theorem dX1_multiplyOut_119 : decode cX1_multiplyOut 119 = .ok (.goto (-89), 3) := by decide +kernel
theorem dX1_multiplyOut_122 : decode cX1_multiplyOut 122 = .ok (.return_, 1) := by decide +kernel
theorem dX2_init_0 : decode cX2_init 0 = .ok (.aload_n 0, 1) := by decide +kernel
theorem dX2_init_1 : decode cX2_init 1 = .ok (.invokespecial 3, 3) := by decide +kernel
theorem dX2_init_4 : decode cX2_init 4 = .ok (.aload_n 0, 1) := by decide +kernel
theorem dX2_init_5 : decode cX2_init 5 = .ok (.bipush 6, 2) := by decide +kernel
theorem dX2_init_7 : decode cX2_init 7 = .ok (.anewarray 9, 3) := by decide +kernel
theorem dX2_init_10 : decode cX2_init 10 = .ok (.putfield 11, 3) := by decide +kernel
theorem dX2_init_13 : decode cX2_init 13 = .ok (.new 9, 3) := by decide +kernel
theorem dX2_init_16 : decode cX2_init 16 = .ok (.dup, 1) := by decide +kernel
theorem dX2_init_17 : decode cX2_init 17 = .ok (.iconst 0, 1) := by decide +kernel
theorem dX2_init_18 : decode cX2_init 18 = .ok (.newarray .int, 2) := by decide +kernel
theorem dX2_init_20 : decode cX2_init 20 = .ok (.iconst 1, 1) := by decide +kernel
theorem dX2_init_21 : decode cX2_init 21 = .ok (.iconst 1, 1) := by decide +kernel
theorem dX2_init_22 : decode cX2_init 22 = .ok (.invokespecial 17, 3) := by decide +kernel
theorem dX2_init_25 : decode cX2_init 25 = .ok (.astore_n 1, 1) := by decide +kernel
theorem dX2_init_26 : decode cX2_init 26 = .ok (.iconst 0, 1) := by decide +kernel
theorem dX2_init_27 : decode cX2_init 27 = .ok (.istore_n 2, 1) := by decide +kernel
theorem dX2_init_28 : decode cX2_init 28 = .ok (.iload_n 2, 1) := by decide +kernel
theorem dX2_init_29 : decode cX2_init 29 = .ok (.bipush 6, 2) := by decide +kernel
theorem dX2_init_31 : decode cX2_init 31 = .ok (.if_icmp .ge 16, 3) := by decide +kernel
theorem dX2_init_34 : decode cX2_init 34 = .ok (.aload_n 0, 1) := by decide +kernel
theorem dX2_init_35 : decode cX2_init 35 = .ok (.getfield 11, 3) := by decide +kernel
theorem dX2_init_38 : decode cX2_init 38 = .ok (.iload_n 2, 1) := by decide +kernel
theorem dX2_init_39 : decode cX2_init 39 = .ok (.aload_n 1, 1) := by decide +kernel
theorem dX2_init_40 : decode cX2_init 40 = .ok (.aastore, 1) := by decide +kernel
theorem dX2_init_41 : decode cX2_init 41 = .ok (.iinc 2 1, 3) := by decide +kernel
theorem dX2_init_44 : decode cX2_init 44 = .ok (.goto (-16), 3) := by decide +kernel
theorem dX2_init_47 : decode cX2_init 47 = .ok (.aload_n 0, 1) := by decide +kernel
theorem dX2_init_48 : decode cX2_init 48 = .ok (.iconst 0, 1) := by decide +kernel
theorem dX2_init_49 : decode cX2_init 49 = .ok (.putfield 20, 3) := by decide +kernel
theorem dX2_init_52 : decode cX2_init 52 = .ok (.aload_n 0, 1) := by decide +kernel
theorem dX2_init_53 : decode cX2_init 53 = .ok (.iconst 4, 1) := by decide +kernel
theorem dX2_init_54 : decode cX2_init 54 = .ok (.putfield 24, 3) := by decide +kernel
theorem dX2_init_57 : decode cX2_init 57 = .ok (.aload_n 0, 1) := by decide +kernel
theorem dX2_init_58 : decode cX2_init 58 = .ok (.bipush 20, 2) := by decide +kernel
theorem dX2_init_60 : decode cX2_init 60 = .ok (.putfield 27, 3) := by decide +kernel
theorem dX2_init_63 : decode cX2_init 63 = .ok (.return_, 1) := by decide +kernel
theorem dX2_beginAnew_0 : decode cX2_beginAnew 0 = .ok (.aload_n 0, 1) := by decide +kernel
theorem dX2_beginAnew_1 : decode cX2_beginAnew 1 = .ok (.iconst 0, 1) := by decide +kernel
theorem dX2_beginAnew_2 : decode cX2_beginAnew 2 = .ok (.putfield 20, 3) := by decide +kernel
theorem dX2_beginAnew_5 : decode cX2_beginAnew 5 = .ok (.aload_n 0, 1) := by decide +kernel
theorem dX2_beginAnew_6 : decode cX2_beginAnew 6 = .ok (.iconst 4, 1) := by decide +kernel
theorem dX2_beginAnew_7 : decode cX2_beginAnew 7 = .ok (.putfield 24, 3) := by decide +kernel
theorem dX2_beginAnew_10 : decode cX2_beginAnew 10 = .ok (.aload_n 0, 1) := by decide +kernel
theorem dX2_beginAnew_11 : decode cX2_beginAnew 11 = .ok (.bipush 20, 2) := by decide +kernel
theorem dX2_beginAnew_13 : decode cX2_beginAnew 13 = .ok (.putfield 27, 3) := by decide +kernel
theorem dX2_beginAnew_16 : decode cX2_beginAnew 16 = .ok (.return_, 1) := by decide +kernel
theorem dX2_copyOf_0 : decode cX2_copyOf 0 = .ok (.iconst 0, 1) := by decide +kernel
theorem dX2_copyOf_1 : decode cX2_copyOf 1 = .ok (.istore_n 2, 1) := by decide +kernel
theorem dX2_copyOf_2 : decode cX2_copyOf 2 = .ok (.iload_n 2, 1) := by decide +kernel
theorem dX2_copyOf_3 : decode cX2_copyOf 3 = .ok (.bipush 6, 2) := by decide +kernel
theorem dX2_copyOf_5 : decode cX2_copyOf 5 = .ok (.if_icmp .ge 21, 3) := by decide +kernel
theorem dX2_copyOf_8 : decode cX2_copyOf 8 = .ok (.aload_n 0, 1) := by decide +kernel
theorem dX2_copyOf_9 : decode cX2_copyOf 9 = .ok (.getfield 11, 3) := by decide +kernel
theorem dX2_copyOf_12 : decode cX2_copyOf 12 = .ok (.iload_n 2, 1) := by decide +kernel
theorem dX2_copyOf_13 : decode cX2_copyOf 13 = .ok (.aload_n 1, 1) := by decide +kernel
theorem dX2_copyOf_14 : decode cX2_copyOf 14 = .ok (.getfield 11, 3) := by decide +kernel
theorem dX2_copyOf_17 : decode cX2_copyOf 17 = .ok (.iload_n 2, 1) := by decide +kernel
theorem dX2_copyOf_18 : decode cX2_copyOf 18 = .ok (.aaload, 1) := by decide +kernel
theorem dX2_copyOf_19 : decode cX2_copyOf 19 = .ok (.aastore, 1) := by decide +kernel
theorem dX2_copyOf_20 : decode cX2_copyOf 20 = .ok (.iinc 2 1, 3) := by decide +kernel
theorem dX2_copyOf_23 : decode cX2_copyOf 23 = .ok (.goto (-21), 3) := by decide +kernel
theorem dX2_copyOf_26 : decode cX2_copyOf 26 = .ok (.aload_n 0, 1) := by decide +kernel
theorem dX2_copyOf_27 : decode cX2_copyOf 27 = .ok (.aload_n 1, 1) := by decide +kernel
theorem dX2_copyOf_28 : decode cX2_copyOf 28 = .ok (.getfield 20, 3) := by decide +kernel
theorem dX2_copyOf_31 : decode cX2_copyOf 31 = .ok (.putfield 20, 3) := by decide +kernel
theorem dX2_copyOf_34 : decode cX2_copyOf 34 = .ok (.aload_n 0, 1) := by decide +kernel
theorem dX2_copyOf_35 : decode cX2_copyOf 35 = .ok (.aload_n 1, 1) := by decide +kernel
theorem dX2_copyOf_36 : decode cX2_copyOf 36 = .ok (.getfield 24, 3) := by decide +kernel
theorem dX2_copyOf_39 : decode cX2_copyOf 39 = .ok (.putfield 24, 3) := by decide +kernel
theorem dX2_copyOf_42 : decode cX2_copyOf 42 = .ok (.aload_n 0, 1) := by decide +kernel
theorem dX2_copyOf_43 : decode cX2_copyOf 43 = .ok (.aload_n 1, 1) := by decide +kernel
theorem dX2_copyOf_44 : decode cX2_copyOf 44 = .ok (.getfield 27, 3) := by decide +kernel
theorem dX2_copyOf_47 : decode cX2_copyOf 47 = .ok (.putfield 27, 3) := by decide +kernel
theorem dX2_copyOf_50 : decode cX2_copyOf 50 = .ok (.return_, 1) := by decide +kernel
theorem dX2_has_0 : decode cX2_has 0 = .ok (.iload_n 1, 1) := by decide +kernel
theorem dX2_has_1 : decode cX2_has 1 = .ok (.iconst 0, 1) := by decide +kernel
theorem dX2_has_2 : decode cX2_has 2 = .ok (.aload_n 0, 1) := by decide +kernel
theorem dX2_has_3 : decode cX2_has 3 = .ok (.getfield 20, 3) := by decide +kernel
theorem dX2_has_6 : decode cX2_has 6 = .ok (.iconst 1, 1) := by decide +kernel
theorem dX2_has_7 : decode cX2_has 7 = .ok (.isub, 1) := by decide +kernel
theorem dX2_has_8 : decode cX2_has 8 = .ok (.invokestatic 30, 3) := by decide +kernel
theorem dX2_has_11 : decode cX2_has 11 = .ok (.ireturn, 1) := by decide +kernel
theorem dX2_append_0 : decode cX2_append 0 = .ok (.aload_n 0, 1) := by decide +kernel
theorem dX2_append_1 : decode cX2_append 1 = .ok (.getfield 20, 3) := by decide +kernel
theorem dX2_append_4 : decode cX2_append 4 = .ok (.bipush 6, 2) := by decide +kernel
theorem dX2_append_6 : decode cX2_append 6 = .ok (.if_icmp .ge 23, 3) := by decide +kernel
theorem dX2_append_9 : decode cX2_append 9 = .ok (.aload_n 0, 1) := by decide +kernel
theorem dX2_append_10 : decode cX2_append 10 = .ok (.getfield 11, 3) := by decide +kernel
theorem dX2_append_13 : decode cX2_append 13 = .ok (.aload_n 0, 1) := by decide +kernel
theorem dX2_append_14 : decode cX2_append 14 = .ok (.getfield 20, 3) := by decide +kernel
theorem dX2_append_17 : decode cX2_append 17 = .ok (.aload_n 1, 1) := by decide +kernel
theorem dX2_append_18 : decode cX2_append 18 = .ok (.aastore, 1) := by decide +kernel
theorem dX2_append_19 : decode cX2_append 19 = .ok (.aload_n 0, 1) := by decide +kernel
theorem dX2_append_20 : decode cX2_append 20 = .ok (.dup, 1) := by decide +kernel
theorem dX2_append_21 : decode cX2_append 21 = .ok (.getfield 20, 3) := by decide +kernel
theorem dX2_append_24 : decode cX2_append 24 = .ok (.iconst 1, 1) := by decide +kernel
theorem dX2_append_25 : decode cX2_append 25 = .ok (.iadd, 1) := by decide +kernel
theorem dX2_append_26 : decode cX2_append 26 = .ok (.putfield 20, 3) := by decide +kernel
theorem dX2_append_29 : decode cX2_append 29 = .ok (.return_, 1) := by decide +kernel
theorem dX2_takeOut_0 : decode cX2_takeOut 0 = .ok (.iload_n 1, 1) := by decide +kernel
theorem dX2_takeOut_1 : decode cX2_takeOut 1 = .ok (.istore_n 2, 1) := by decide +kernel
theorem dX2_takeOut_2 : decode cX2_takeOut 2 = .ok (.iload_n 2, 1) := by decide +kernel
theorem dX2_takeOut_3 : decode cX2_takeOut 3 = .ok (.iconst 1, 1) := by decide +kernel
theorem dX2_takeOut_4 : decode cX2_takeOut 4 = .ok (.iadd, 1) := by decide +kernel
theorem dX2_takeOut_5 : decode cX2_takeOut 5 = .ok (.aload_n 0, 1) := by decide +kernel
theorem dX2_takeOut_6 : decode cX2_takeOut 6 = .ok (.getfield 20, 3) := by decide +kernel
theorem dX2_takeOut_9 : decode cX2_takeOut 9 = .ok (.if_icmp .ge 23, 3) := by decide +kernel
theorem dX2_takeOut_12 : decode cX2_takeOut 12 = .ok (.aload_n 0, 1) := by decide +kernel
theorem dX2_takeOut_13 : decode cX2_takeOut 13 = .ok (.getfield 11, 3) := by decide +kernel
theorem dX2_takeOut_16 : decode cX2_takeOut 16 = .ok (.iload_n 2, 1) := by decide +kernel
theorem dX2_takeOut_17 : decode cX2_takeOut 17 = .ok (.aload_n 0, 1) := by decide +kernel
theorem dX2_takeOut_18 : decode cX2_takeOut 18 = .ok (.getfield 11, 3) := by decide +kernel
theorem dX2_takeOut_21 : decode cX2_takeOut 21 = .ok (.iload_n 2, 1) := by decide +kernel
theorem dX2_takeOut_22 : decode cX2_takeOut 22 = .ok (.iconst 1, 1) := by decide +kernel
theorem dX2_takeOut_23 : decode cX2_takeOut 23 = .ok (.iadd, 1) := by decide +kernel
theorem dX2_takeOut_24 : decode cX2_takeOut 24 = .ok (.aaload, 1) := by decide +kernel
theorem dX2_takeOut_25 : decode cX2_takeOut 25 = .ok (.aastore, 1) := by decide +kernel
theorem dX2_takeOut_26 : decode cX2_takeOut 26 = .ok (.iinc 2 1, 3) := by decide +kernel
theorem dX2_takeOut_29 : decode cX2_takeOut 29 = .ok (.goto (-27), 3) := by decide +kernel
theorem dX2_takeOut_32 : decode cX2_takeOut 32 = .ok (.aload_n 0, 1) := by decide +kernel
theorem dX2_takeOut_33 : decode cX2_takeOut 33 = .ok (.dup, 1) := by decide +kernel
theorem dX2_takeOut_34 : decode cX2_takeOut 34 = .ok (.getfield 20, 3) := by decide +kernel
theorem dX2_takeOut_37 : decode cX2_takeOut 37 = .ok (.iconst 1, 1) := by decide +kernel
theorem dX2_takeOut_38 : decode cX2_takeOut 38 = .ok (.isub, 1) := by decide +kernel
theorem dX2_takeOut_39 : decode cX2_takeOut 39 = .ok (.putfield 20, 3) := by decide +kernel
theorem dX2_takeOut_42 : decode cX2_takeOut 42 = .ok (.return_, 1) := by decide +kernel
theorem dX2_length_0 : decode cX2_length 0 = .ok (.iconst 0, 1) := by decide +kernel
theorem dX2_length_1 : decode cX2_length 1 = .ok (.istore_n 1, 1) := by decide +kernel
theorem dX2_length_2 : decode cX2_length 2 = .ok (.iconst 0, 1) := by decide +kernel
theorem dX2_length_3 : decode cX2_length 3 = .ok (.istore_n 2, 1) := by decide +kernel
theorem dX2_length_4 : decode cX2_length 4 = .ok (.iload_n 2, 1) := by decide +kernel
theorem dX2_length_5 : decode cX2_length 5 = .ok (.aload_n 0, 1) := by decide +kernel
theorem dX2_length_6 : decode cX2_length 6 = .ok (.getfield 20, 3) := by decide +kernel
theorem dX2_length_9 : decode cX2_length 9 = .ok (.if_icmp .ge 21, 3) := by decide +kernel
theorem dX2_length_12 : decode cX2_length 12 = .ok (.iload_n 1, 1) := by decide +kernel
theorem dX2_length_13 : decode cX2_length 13 = .ok (.aload_n 0, 1) := by decide +kernel
theorem dX2_length_14 : decode cX2_length 14 = .ok (.getfield 11, 3) := by decide +kernel
theorem dX2_length_17 : decode cX2_length 17 = .ok (.iload_n 2, 1) := by decide +kernel
theorem dX2_length_18 : decode cX2_length 18 = .ok (.aaload, 1) := by decide +kernel
theorem dX2_length_19 : decode cX2_length 19 = .ok (.invokevirtual 34, 3) := by decide +kernel
theorem dX2_length_22 : decode cX2_length 22 = .ok (.iadd, 1) := by decide +kernel
theorem dX2_length_23 : decode cX2_length 23 = .ok (.istore_n 1, 1) := by decide +kernel
theorem dX2_length_24 : decode cX2_length 24 = .ok (.iinc 2 1, 3) := by decide +kernel
theorem dX2_length_27 : decode cX2_length 27 = .ok (.goto (-23), 3) := by decide +kernel
theorem dX2_length_30 : decode cX2_length 30 = .ok (.iload_n 1, 1) := by decide +kernel
theorem dX2_length_31 : decode cX2_length 31 = .ok (.ireturn, 1) := by decide +kernel
theorem dX2_cost_0 : decode cX2_cost 0 = .ok (.iconst 0, 1) := by decide +kernel
theorem dX2_cost_1 : decode cX2_cost 1 = .ok (.istore_n 1, 1) := by decide +kernel
theorem dX2_cost_2 : decode cX2_cost 2 = .ok (.iconst 0, 1) := by decide +kernel
theorem dX2_cost_3 : decode cX2_cost 3 = .ok (.istore_n 2, 1) := by decide +kernel
theorem dX2_cost_4 : decode cX2_cost 4 = .ok (.iload_n 2, 1) := by decide +kernel
theorem dX2_cost_5 : decode cX2_cost 5 = .ok (.aload_n 0, 1) := by decide +kernel
theorem dX2_cost_6 : decode cX2_cost 6 = .ok (.getfield 20, 3) := by decide +kernel
theorem dX2_cost_9 : decode cX2_cost 9 = .ok (.if_icmp .ge 31, 3) := by decide +kernel
theorem dX2_cost_12 : decode cX2_cost 12 = .ok (.iload_n 1, 1) := by decide +kernel
theorem dX2_cost_13 : decode cX2_cost 13 = .ok (.aload_n 0, 1) := by decide +kernel
theorem dX2_cost_14 : decode cX2_cost 14 = .ok (.getfield 11, 3) := by decide +kernel
theorem dX2_cost_17 : decode cX2_cost 17 = .ok (.iload_n 2, 1) := by decide +kernel
theorem dX2_cost_18 : decode cX2_cost 18 = .ok (.aaload, 1) := by decide +kernel
theorem dX2_cost_19 : decode cX2_cost 19 = .ok (.getfield 38, 3) := by decide +kernel
theorem dX2_cost_22 : decode cX2_cost 22 = .ok (.aload_n 0, 1) := by decide +kernel
theorem dX2_cost_23 : decode cX2_cost 23 = .ok (.getfield 11, 3) := by decide +kernel
theorem dX2_cost_26 : decode cX2_cost 26 = .ok (.iload_n 2, 1) := by decide +kernel
theorem dX2_cost_27 : decode cX2_cost 27 = .ok (.aaload, 1) := by decide +kernel
theorem dX2_cost_28 : decode cX2_cost 28 = .ok (.getfield 41, 3) := by decide +kernel
theorem dX2_cost_31 : decode cX2_cost 31 = .ok (.imul, 1) := by decide +kernel
theorem dX2_cost_32 : decode cX2_cost 32 = .ok (.iadd, 1) := by decide +kernel
theorem dX2_cost_33 : decode cX2_cost 33 = .ok (.istore_n 1, 1) := by decide +kernel
theorem dX2_cost_34 : decode cX2_cost 34 = .ok (.iinc 2 1, 3) := by decide +kernel
theorem dX2_cost_37 : decode cX2_cost 37 = .ok (.goto (-33), 3) := by decide +kernel
theorem dX2_cost_40 : decode cX2_cost 40 = .ok (.iload_n 1, 1) := by decide +kernel
theorem dX2_cost_41 : decode cX2_cost 41 = .ok (.ireturn, 1) := by decide +kernel
theorem dX2_fits_0 : decode cX2_fits 0 = .ok (.iconst 0, 1) := by decide +kernel
theorem dX2_fits_1 : decode cX2_fits 1 = .ok (.istore_n 1, 1) := by decide +kernel
theorem dX2_fits_2 : decode cX2_fits 2 = .ok (.iload_n 1, 1) := by decide +kernel
theorem dX2_fits_3 : decode cX2_fits 3 = .ok (.aload_n 0, 1) := by decide +kernel
theorem dX2_fits_4 : decode cX2_fits 4 = .ok (.getfield 20, 3) := by decide +kernel
theorem dX2_fits_7 : decode cX2_fits 7 = .ok (.if_icmp .ge 27, 3) := by decide +kernel
theorem dX2_fits_10 : decode cX2_fits 10 = .ok (.aload_n 0, 1) := by decide +kernel
theorem dX2_fits_11 : decode cX2_fits 11 = .ok (.getfield 11, 3) := by decide +kernel
theorem dX2_fits_14 : decode cX2_fits 14 = .ok (.iload_n 1, 1) := by decide +kernel
theorem dX2_fits_15 : decode cX2_fits 15 = .ok (.aaload, 1) := by decide +kernel
theorem dX2_fits_16 : decode cX2_fits 16 = .ok (.getfield 41, 3) := by decide +kernel
theorem dX2_fits_19 : decode cX2_fits 19 = .ok (.aload_n 0, 1) := by decide +kernel
theorem dX2_fits_20 : decode cX2_fits 20 = .ok (.getfield 24, 3) := by decide +kernel
theorem dX2_fits_23 : decode cX2_fits 23 = .ok (.if_icmp .le 5, 3) := by decide +kernel
theorem dX2_fits_26 : decode cX2_fits 26 = .ok (.iconst 0, 1) := by decide +kernel
theorem dX2_fits_27 : decode cX2_fits 27 = .ok (.ireturn, 1) := by decide +kernel
theorem dX2_fits_28 : decode cX2_fits 28 = .ok (.iinc 1 1, 3) := by decide +kernel
theorem dX2_fits_31 : decode cX2_fits 31 = .ok (.goto (-29), 3) := by decide +kernel
theorem dX2_fits_34 : decode cX2_fits 34 = .ok (.aload_n 0, 1) := by decide +kernel
theorem dX2_fits_35 : decode cX2_fits 35 = .ok (.invokevirtual 44, 3) := by decide +kernel
theorem dX2_fits_38 : decode cX2_fits 38 = .ok (.aload_n 0, 1) := by decide +kernel
theorem dX2_fits_39 : decode cX2_fits 39 = .ok (.getfield 27, 3) := by decide +kernel
theorem dX2_fits_42 : decode cX2_fits 42 = .ok (.if_icmp .gt 7, 3) := by decide +kernel
theorem dX2_fits_45 : decode cX2_fits 45 = .ok (.iconst 1, 1) := by decide +kernel
theorem dX2_fits_46 : decode cX2_fits 46 = .ok (.goto 4, 3) := by decide +kernel
theorem dX2_fits_49 : decode cX2_fits 49 = .ok (.iconst 0, 1) := by decide +kernel
theorem dX2_fits_50 : decode cX2_fits 50 = .ok (.ireturn, 1) := by decide +kernel
theorem dX2_heaviestWithin_0 : decode cX2_heaviestWithin 0 = .ok (.iconst 0, 1) := by decide +kernel
theorem dX2_heaviestWithin_1 : decode cX2_heaviestWithin 1 = .ok (.istore_n 2, 1) := by decide +kernel
theorem dX2_heaviestWithin_2 : decode cX2_heaviestWithin 2 = .ok (.iconst 0, 1) := by decide +kernel
theorem dX2_heaviestWithin_3 : decode cX2_heaviestWithin 3 = .ok (.istore_n 3, 1) := by decide +kernel
theorem dX2_heaviestWithin_4 : decode cX2_heaviestWithin 4 = .ok (.iconst 0, 1) := by decide +kernel
theorem dX2_heaviestWithin_5 : decode cX2_heaviestWithin 5 = .ok (.istore 4, 2) := by decide +kernel
theorem dX2_heaviestWithin_7 : decode cX2_heaviestWithin 7 = .ok (.iload 4, 2) := by decide +kernel
theorem dX2_heaviestWithin_9 : decode cX2_heaviestWithin 9 = .ok (.iconst 1, 1) := by decide +kernel
theorem dX2_heaviestWithin_10 : decode cX2_heaviestWithin 10 = .ok (.aload_n 0, 1) := by decide +kernel
theorem dX2_heaviestWithin_11 : decode cX2_heaviestWithin 11 = .ok (.getfield 20, 3) := by decide +kernel
theorem dX2_heaviestWithin_14 : decode cX2_heaviestWithin 14 = .ok (.ishl, 1) := by decide +kernel
theorem dX2_heaviestWithin_15 : decode cX2_heaviestWithin 15 = .ok (.if_icmp .ge 30, 3) := by decide +kernel
theorem dX2_heaviestWithin_18 : decode cX2_heaviestWithin 18 = .ok (.aload_n 0, 1) := by decide +kernel
theorem dX2_heaviestWithin_19 : decode cX2_heaviestWithin 19 = .ok (.iload 4, 2) := by decide +kernel
theorem dX2_heaviestWithin_21 : decode cX2_heaviestWithin 21 = .ok (.iload_n 1, 1) := by decide +kernel
theorem dX2_heaviestWithin_22 : decode cX2_heaviestWithin 22 = .ok (.invokevirtual 47, 3) := by decide +kernel
theorem dX2_heaviestWithin_25 : decode cX2_heaviestWithin 25 = .ok (.istore 5, 2) := by decide +kernel
theorem dX2_heaviestWithin_27 : decode cX2_heaviestWithin 27 = .ok (.iload 5, 2) := by decide +kernel
theorem dX2_heaviestWithin_29 : decode cX2_heaviestWithin 29 = .ok (.iload_n 3, 1) := by decide +kernel
theorem dX2_heaviestWithin_30 : decode cX2_heaviestWithin 30 = .ok (.if_icmp .lt 9, 3) := by decide +kernel
theorem dX2_heaviestWithin_33 : decode cX2_heaviestWithin 33 = .ok (.iload 4, 2) := by decide +kernel
theorem dX2_heaviestWithin_35 : decode cX2_heaviestWithin 35 = .ok (.istore_n 2, 1) := by decide +kernel
theorem dX2_heaviestWithin_36 : decode cX2_heaviestWithin 36 = .ok (.iload 5, 2) := by decide +kernel
theorem dX2_heaviestWithin_38 : decode cX2_heaviestWithin 38 = .ok (.istore_n 3, 1) := by decide +kernel
theorem dX2_heaviestWithin_39 : decode cX2_heaviestWithin 39 = .ok (.iinc 4 1, 3) := by decide +kernel
theorem dX2_heaviestWithin_42 : decode cX2_heaviestWithin 42 = .ok (.goto (-35), 3) := by decide +kernel
theorem dX2_heaviestWithin_45 : decode cX2_heaviestWithin 45 = .ok (.iload_n 2, 1) := by decide +kernel
theorem dX2_heaviestWithin_46 : decode cX2_heaviestWithin 46 = .ok (.ireturn, 1) := by decide +kernel
theorem dX2_weightWithin_0 : decode cX2_weightWithin 0 = .ok (.iconst 0, 1) := by decide +kernel
theorem dX2_weightWithin_1 : decode cX2_weightWithin 1 = .ok (.istore_n 3, 1) := by decide +kernel
theorem dX2_weightWithin_2 : decode cX2_weightWithin 2 = .ok (.iconst 0, 1) := by decide +kernel
theorem dX2_weightWithin_3 : decode cX2_weightWithin 3 = .ok (.istore 4, 2) := by decide +kernel
theorem dX2_weightWithin_5 : decode cX2_weightWithin 5 = .ok (.iconst 0, 1) := by decide +kernel
theorem dX2_weightWithin_6 : decode cX2_weightWithin 6 = .ok (.istore 5, 2) := by decide +kernel
theorem dX2_weightWithin_8 : decode cX2_weightWithin 8 = .ok (.iload 5, 2) := by decide +kernel
theorem dX2_weightWithin_10 : decode cX2_weightWithin 10 = .ok (.aload_n 0, 1) := by decide +kernel
theorem dX2_weightWithin_11 : decode cX2_weightWithin 11 = .ok (.getfield 20, 3) := by decide +kernel
theorem dX2_weightWithin_14 : decode cX2_weightWithin 14 = .ok (.if_icmp .ge 47, 3) := by decide +kernel
theorem dX2_weightWithin_17 : decode cX2_weightWithin 17 = .ok (.iload_n 1, 1) := by decide +kernel
theorem dX2_weightWithin_18 : decode cX2_weightWithin 18 = .ok (.iload 5, 2) := by decide +kernel
theorem dX2_weightWithin_20 : decode cX2_weightWithin 20 = .ok (.ishr, 1) := by decide +kernel
theorem dX2_weightWithin_21 : decode cX2_weightWithin 21 = .ok (.iconst 1, 1) := by decide +kernel
theorem dX2_weightWithin_22 : decode cX2_weightWithin 22 = .ok (.iand, 1) := by decide +kernel
theorem dX2_weightWithin_23 : decode cX2_weightWithin 23 = .ok (.iconst 1, 1) := by decide +kernel
theorem dX2_weightWithin_24 : decode cX2_weightWithin 24 = .ok (.if_icmp .ne 31, 3) := by decide +kernel
theorem dX2_weightWithin_27 : decode cX2_weightWithin 27 = .ok (.iload_n 3, 1) := by decide +kernel
theorem dX2_weightWithin_28 : decode cX2_weightWithin 28 = .ok (.aload_n 0, 1) := by decide +kernel
theorem dX2_weightWithin_29 : decode cX2_weightWithin 29 = .ok (.getfield 11, 3) := by decide +kernel
theorem dX2_weightWithin_32 : decode cX2_weightWithin 32 = .ok (.iload 5, 2) := by decide +kernel
theorem dX2_weightWithin_34 : decode cX2_weightWithin 34 = .ok (.aaload, 1) := by decide +kernel
theorem dX2_weightWithin_35 : decode cX2_weightWithin 35 = .ok (.invokevirtual 34, 3) := by decide +kernel
theorem dX2_weightWithin_38 : decode cX2_weightWithin 38 = .ok (.iadd, 1) := by decide +kernel
theorem dX2_weightWithin_39 : decode cX2_weightWithin 39 = .ok (.istore_n 3, 1) := by decide +kernel
theorem dX2_weightWithin_40 : decode cX2_weightWithin 40 = .ok (.iload 4, 2) := by decide +kernel
theorem dX2_weightWithin_42 : decode cX2_weightWithin 42 = .ok (.aload_n 0, 1) := by decide +kernel
theorem dX2_weightWithin_43 : decode cX2_weightWithin 43 = .ok (.getfield 11, 3) := by decide +kernel
theorem dX2_weightWithin_46 : decode cX2_weightWithin 46 = .ok (.iload 5, 2) := by decide +kernel
theorem dX2_weightWithin_48 : decode cX2_weightWithin 48 = .ok (.aaload, 1) := by decide +kernel
theorem dX2_weightWithin_49 : decode cX2_weightWithin 49 = .ok (.getfield 38, 3) := by decide +kernel
theorem dX2_weightWithin_52 : decode cX2_weightWithin 52 = .ok (.iadd, 1) := by decide +kernel
theorem dX2_weightWithin_53 : decode cX2_weightWithin 53 = .ok (.istore 4, 2) := by decide +kernel
theorem dX2_weightWithin_55 : decode cX2_weightWithin 55 = .ok (.iinc 5 1, 3) := by decide +kernel
theorem dX2_weightWithin_58 : decode cX2_weightWithin 58 = .ok (.goto (-50), 3) := by decide +kernel
theorem dX2_weightWithin_61 : decode cX2_weightWithin 61 = .ok (.iload_n 3, 1) := by decide +kernel
theorem dX2_weightWithin_62 : decode cX2_weightWithin 62 = .ok (.iload_n 2, 1) := by decide +kernel
theorem dX2_weightWithin_63 : decode cX2_weightWithin 63 = .ok (.if_icmp .gt 8, 3) := by decide +kernel
theorem dX2_weightWithin_66 : decode cX2_weightWithin 66 = .ok (.iload 4, 2) := by decide +kernel
theorem dX2_weightWithin_68 : decode cX2_weightWithin 68 = .ok (.goto 4, 3) := by decide +kernel
theorem dX2_weightWithin_71 : decode cX2_weightWithin 71 = .ok (.iconst (-1), 1) := by decide +kernel
theorem dX2_weightWithin_72 : decode cX2_weightWithin 72 = .ok (.ireturn, 1) := by decide +kernel
theorem dX3_init_0 : decode cX3_init 0 = .ok (.aload_n 0, 1) := by decide +kernel
theorem dX3_init_1 : decode cX3_init 1 = .ok (.invokespecial 3, 3) := by decide +kernel
theorem dX3_init_4 : decode cX3_init 4 = .ok (.aload_n 0, 1) := by decide +kernel
theorem dX3_init_5 : decode cX3_init 5 = .ok (.iconst 0, 1) := by decide +kernel
theorem dX3_init_6 : decode cX3_init 6 = .ok (.iload_n 2, 1) := by decide +kernel
theorem dX3_init_7 : decode cX3_init 7 = .ok (.bipush 6, 2) := by decide +kernel
theorem dX3_init_9 : decode cX3_init 9 = .ok (.invokestatic 9, 3) := by decide +kernel
theorem dX3_init_12 : decode cX3_init 12 = .ok (.invokestatic 15, 3) := by decide +kernel
theorem dX3_init_15 : decode cX3_init 15 = .ok (.putfield 18, 3) := by decide +kernel
theorem dX3_init_18 : decode cX3_init 18 = .ok (.aload_n 0, 1) := by decide +kernel
theorem dX3_init_19 : decode cX3_init 19 = .ok (.iconst 0, 1) := by decide +kernel
theorem dX3_init_20 : decode cX3_init 20 = .ok (.iload_n 3, 1) := by decide +kernel
theorem dX3_init_21 : decode cX3_init 21 = .ok (.bipush 8, 2) := by decide +kernel
theorem dX3_init_23 : decode cX3_init 23 = .ok (.invokestatic 9, 3) := by decide +kernel
theorem dX3_init_26 : decode cX3_init 26 = .ok (.invokestatic 15, 3) := by decide +kernel
theorem dX3_init_29 : decode cX3_init 29 = .ok (.putfield 24, 3) := by decide +kernel
theorem dX3_init_32 : decode cX3_init 32 = .ok (.aload_n 0, 1) := by decide +kernel
theorem dX3_init_33 : decode cX3_init 33 = .ok (.bipush 6, 2) := by decide +kernel
theorem dX3_init_35 : decode cX3_init 35 = .ok (.anewarray 27, 3) := by decide +kernel
theorem dX3_init_38 : decode cX3_init 38 = .ok (.putfield 29, 3) := by decide +kernel
theorem dX3_init_41 : decode cX3_init 41 = .ok (.aload_n 0, 1) := by decide +kernel
theorem dX3_init_42 : decode cX3_init 42 = .ok (.bipush 6, 2) := by decide +kernel
theorem dX3_init_44 : decode cX3_init 44 = .ok (.newarray .int, 2) := by decide +kernel
theorem dX3_init_46 : decode cX3_init 46 = .ok (.putfield 33, 3) := by decide +kernel
theorem dX3_init_49 : decode cX3_init 49 = .ok (.iconst 0, 1) := by decide +kernel
theorem dX3_init_50 : decode cX3_init 50 = .ok (.istore 4, 2) := by decide +kernel
theorem dX3_init_52 : decode cX3_init 52 = .ok (.iload 4, 2) := by decide +kernel
theorem dX3_init_54 : decode cX3_init 54 = .ok (.bipush 6, 2) := by decide +kernel
theorem dX3_init_56 : decode cX3_init 56 = .ok (.if_icmp .ge 23, 3) := by decide +kernel
theorem dX3_init_59 : decode cX3_init 59 = .ok (.aload_n 0, 1) := by decide +kernel
theorem dX3_init_60 : decode cX3_init 60 = .ok (.getfield 29, 3) := by decide +kernel
theorem dX3_init_63 : decode cX3_init 63 = .ok (.iload 4, 2) := by decide +kernel
theorem dX3_init_65 : decode cX3_init 65 = .ok (.aload_n 1, 1) := by decide +kernel
theorem dX3_init_66 : decode cX3_init 66 = .ok (.getfield 37, 3) := by decide +kernel
theorem dX3_init_69 : decode cX3_init 69 = .ok (.iload 4, 2) := by decide +kernel
theorem dX3_init_71 : decode cX3_init 71 = .ok (.aaload, 1) := by decide +kernel
theorem dX3_init_72 : decode cX3_init 72 = .ok (.aastore, 1) := by decide +kernel
theorem dX3_init_73 : decode cX3_init 73 = .ok (.iinc 4 1, 3) := by decide +kernel
theorem dX3_init_76 : decode cX3_init 76 = .ok (.goto (-24), 3) := by decide +kernel
theorem dX3_init_79 : decode cX3_init 79 = .ok (.aload_n 0, 1) := by decide +kernel
theorem dX3_init_80 : decode cX3_init 80 = .ok (.aload_n 0, 1) := by decide +kernel
theorem dX3_init_81 : decode cX3_init 81 = .ok (.invokevirtual 40, 3) := by decide +kernel
theorem dX3_init_84 : decode cX3_init 84 = .ok (.putfield 44, 3) := by decide +kernel
theorem dX3_init_87 : decode cX3_init 87 = .ok (.aload_n 0, 1) := by decide +kernel
theorem dX3_init_88 : decode cX3_init 88 = .ok (.aload_n 0, 1) := by decide +kernel
theorem dX3_init_89 : decode cX3_init 89 = .ok (.getfield 24, 3) := by decide +kernel
theorem dX3_init_92 : decode cX3_init 92 = .ok (.anewarray 47, 3) := by decide +kernel
theorem dX3_init_95 : decode cX3_init 95 = .ok (.putfield 49, 3) := by decide +kernel
theorem dX3_init_98 : decode cX3_init 98 = .ok (.iconst 0, 1) := by decide +kernel
theorem dX3_init_99 : decode cX3_init 99 = .ok (.istore 4, 2) := by decide +kernel
theorem dX3_init_101 : decode cX3_init 101 = .ok (.iload 4, 2) := by decide +kernel
theorem dX3_init_103 : decode cX3_init 103 = .ok (.aload_n 0, 1) := by decide +kernel
theorem dX3_init_104 : decode cX3_init 104 = .ok (.getfield 24, 3) := by decide +kernel
theorem dX3_init_107 : decode cX3_init 107 = .ok (.if_icmp .ge 42, 3) := by decide +kernel
theorem dX3_init_110 : decode cX3_init 110 = .ok (.aload_n 0, 1) := by decide +kernel
theorem dX3_init_111 : decode cX3_init 111 = .ok (.getfield 49, 3) := by decide +kernel
theorem dX3_init_114 : decode cX3_init 114 = .ok (.iload 4, 2) := by decide +kernel
theorem dX3_init_116 : decode cX3_init 116 = .ok (.new 47, 3) := by decide +kernel
theorem dX3_init_119 : decode cX3_init 119 = .ok (.dup, 1) := by decide +kernel
theorem dX3_init_120 : decode cX3_init 120 = .ok (.aload_n 0, 1) := by decide +kernel
theorem dX3_init_121 : decode cX3_init 121 = .ok (.getfield 44, 3) := by decide +kernel
theorem dX3_init_124 : decode cX3_init 124 = .ok (.invokespecial 53, 3) := by decide +kernel
theorem dX3_init_127 : decode cX3_init 127 = .ok (.aastore, 1) := by decide +kernel
theorem dX3_init_128 : decode cX3_init 128 = .ok (.aload_n 0, 1) := by decide +kernel
theorem dX3_init_129 : decode cX3_init 129 = .ok (.aload_n 0, 1) := by decide +kernel
theorem dX3_init_130 : decode cX3_init 130 = .ok (.getfield 49, 3) := by decide +kernel
theorem dX3_init_133 : decode cX3_init 133 = .ok (.iload 4, 2) := by decide +kernel
theorem dX3_init_135 : decode cX3_init 135 = .ok (.aaload, 1) := by decide +kernel
theorem dX3_init_136 : decode cX3_init 136 = .ok (.iload 4, 2) := by decide +kernel
theorem dX3_init_138 : decode cX3_init 138 = .ok (.iconst 1, 1) := by decide +kernel
theorem dX3_init_139 : decode cX3_init 139 = .ok (.iadd, 1) := by decide +kernel
theorem dX3_init_140 : decode cX3_init 140 = .ok (.invokevirtual 56, 3) := by decide +kernel
theorem dX3_init_143 : decode cX3_init 143 = .ok (.iinc 4 1, 3) := by decide +kernel
theorem dX3_init_146 : decode cX3_init 146 = .ok (.goto (-45), 3) := by decide +kernel
theorem dX3_init_149 : decode cX3_init 149 = .ok (.return_, 1) := by decide +kernel
theorem dX3_order_0 : decode cX3_order 0 = .ok (.iconst 0, 1) := by decide +kernel
theorem dX3_order_1 : decode cX3_order 1 = .ok (.istore_n 1, 1) := by decide +kernel
theorem dX3_order_2 : decode cX3_order 2 = .ok (.iconst 1, 1) := by decide +kernel
theorem dX3_order_3 : decode cX3_order 3 = .ok (.istore_n 2, 1) := by decide +kernel
theorem dX3_order_4 : decode cX3_order 4 = .ok (.iload_n 2, 1) := by decide +kernel
theorem dX3_order_5 : decode cX3_order 5 = .ok (.bipush 8, 2) := by decide +kernel
theorem dX3_order_7 : decode cX3_order 7 = .ok (.if_icmp .gt 57, 3) := by decide +kernel
theorem dX3_order_10 : decode cX3_order 10 = .ok (.iconst 0, 1) := by decide +kernel
theorem dX3_order_11 : decode cX3_order 11 = .ok (.istore_n 3, 1) := by decide +kernel
theorem dX3_order_12 : decode cX3_order 12 = .ok (.iload_n 3, 1) := by decide +kernel
theorem dX3_order_13 : decode cX3_order 13 = .ok (.aload_n 0, 1) := by decide +kernel
theorem dX3_order_14 : decode cX3_order 14 = .ok (.getfield 18, 3) := by decide +kernel
theorem dX3_order_17 : decode cX3_order 17 = .ok (.if_icmp .ge 41, 3) := by decide +kernel
theorem dX3_order_20 : decode cX3_order 20 = .ok (.aload_n 0, 1) := by decide +kernel
theorem dX3_order_21 : decode cX3_order 21 = .ok (.getfield 29, 3) := by decide +kernel
theorem dX3_order_24 : decode cX3_order 24 = .ok (.iload_n 3, 1) := by decide +kernel
theorem dX3_order_25 : decode cX3_order 25 = .ok (.aaload, 1) := by decide +kernel
theorem dX3_order_26 : decode cX3_order 26 = .ok (.getfield 60, 3) := by decide +kernel
theorem dX3_order_29 : decode cX3_order 29 = .ok (.iload_n 2, 1) := by decide +kernel
theorem dX3_order_30 : decode cX3_order 30 = .ok (.if_icmp .ne 22, 3) := by decide +kernel
theorem dX3_order_33 : decode cX3_order 33 = .ok (.aload_n 0, 1) := by decide +kernel
theorem dX3_order_34 : decode cX3_order 34 = .ok (.getfield 33, 3) := by decide +kernel
theorem dX3_order_37 : decode cX3_order 37 = .ok (.iload_n 3, 1) := by decide +kernel
theorem dX3_order_38 : decode cX3_order 38 = .ok (.iload_n 1, 1) := by decide +kernel
theorem dX3_order_39 : decode cX3_order 39 = .ok (.iastore, 1) := by decide +kernel
theorem dX3_order_40 : decode cX3_order 40 = .ok (.iload_n 1, 1) := by decide +kernel
theorem dX3_order_41 : decode cX3_order 41 = .ok (.aload_n 0, 1) := by decide +kernel
theorem dX3_order_42 : decode cX3_order 42 = .ok (.getfield 29, 3) := by decide +kernel
theorem dX3_order_45 : decode cX3_order 45 = .ok (.iload_n 3, 1) := by decide +kernel
theorem dX3_order_46 : decode cX3_order 46 = .ok (.aaload, 1) := by decide +kernel
theorem dX3_order_47 : decode cX3_order 47 = .ok (.invokevirtual 63, 3) := by decide +kernel
theorem dX3_order_50 : decode cX3_order 50 = .ok (.iadd, 1) := by decide +kernel
theorem dX3_order_51 : decode cX3_order 51 = .ok (.istore_n 1, 1) := by decide +kernel
theorem dX3_order_52 : decode cX3_order 52 = .ok (.iinc 3 1, 3) := by decide +kernel
theorem dX3_order_55 : decode cX3_order 55 = .ok (.goto (-43), 3) := by decide +kernel
theorem dX3_order_58 : decode cX3_order 58 = .ok (.iinc 2 1, 3) := by decide +kernel
theorem dX3_order_61 : decode cX3_order 61 = .ok (.goto (-57), 3) := by decide +kernel
theorem dX3_order_64 : decode cX3_order 64 = .ok (.iload_n 1, 1) := by decide +kernel
theorem dX3_order_65 : decode cX3_order 65 = .ok (.ireturn, 1) := by decide +kernel
theorem dX3_fill_0 : decode cX3_fill 0 = .ok (.iconst 0, 1) := by decide +kernel
theorem dX3_fill_1 : decode cX3_fill 1 = .ok (.istore_n 3, 1) := by decide +kernel
theorem dX3_fill_2 : decode cX3_fill 2 = .ok (.iload_n 3, 1) := by decide +kernel
theorem dX3_fill_3 : decode cX3_fill 3 = .ok (.aload_n 0, 1) := by decide +kernel
theorem dX3_fill_4 : decode cX3_fill 4 = .ok (.getfield 18, 3) := by decide +kernel
theorem dX3_fill_7 : decode cX3_fill 7 = .ok (.if_icmp .ge 76, 3) := by decide +kernel
theorem dX3_fill_10 : decode cX3_fill 10 = .ok (.aload_n 0, 1) := by decide +kernel
theorem dX3_fill_11 : decode cX3_fill 11 = .ok (.getfield 29, 3) := by decide +kernel
theorem dX3_fill_14 : decode cX3_fill 14 = .ok (.iload_n 3, 1) := by decide +kernel
theorem dX3_fill_15 : decode cX3_fill 15 = .ok (.aaload, 1) := by decide +kernel
theorem dX3_fill_16 : decode cX3_fill 16 = .ok (.getfield 60, 3) := by decide +kernel
theorem dX3_fill_19 : decode cX3_fill 19 = .ok (.istore 4, 2) := by decide +kernel
theorem dX3_fill_21 : decode cX3_fill 21 = .ok (.iconst 0, 1) := by decide +kernel
theorem dX3_fill_22 : decode cX3_fill 22 = .ok (.istore 5, 2) := by decide +kernel
theorem dX3_fill_24 : decode cX3_fill 24 = .ok (.iload 5, 2) := by decide +kernel
theorem dX3_fill_26 : decode cX3_fill 26 = .ok (.aload_n 0, 1) := by decide +kernel
theorem dX3_fill_27 : decode cX3_fill 27 = .ok (.getfield 29, 3) := by decide +kernel
theorem dX3_fill_30 : decode cX3_fill 30 = .ok (.iload_n 3, 1) := by decide +kernel
theorem dX3_fill_31 : decode cX3_fill 31 = .ok (.aaload, 1) := by decide +kernel
theorem dX3_fill_32 : decode cX3_fill 32 = .ok (.invokevirtual 63, 3) := by decide +kernel
theorem dX3_fill_35 : decode cX3_fill 35 = .ok (.if_icmp .ge 42, 3) := by decide +kernel
theorem dX3_fill_38 : decode cX3_fill 38 = .ok (.aload_n 1, 1) := by decide +kernel
theorem dX3_fill_39 : decode cX3_fill 39 = .ok (.aload_n 0, 1) := by decide +kernel
theorem dX3_fill_40 : decode cX3_fill 40 = .ok (.getfield 33, 3) := by decide +kernel
theorem dX3_fill_43 : decode cX3_fill 43 = .ok (.iload_n 3, 1) := by decide +kernel
theorem dX3_fill_44 : decode cX3_fill 44 = .ok (.iaload, 1) := by decide +kernel
theorem dX3_fill_45 : decode cX3_fill 45 = .ok (.iload 5, 2) := by decide +kernel
theorem dX3_fill_47 : decode cX3_fill 47 = .ok (.iadd, 1) := by decide +kernel
theorem dX3_fill_48 : decode cX3_fill 48 = .ok (.aload_n 0, 1) := by decide +kernel
theorem dX3_fill_49 : decode cX3_fill 49 = .ok (.getfield 29, 3) := by decide +kernel
theorem dX3_fill_52 : decode cX3_fill 52 = .ok (.iload_n 3, 1) := by decide +kernel
theorem dX3_fill_53 : decode cX3_fill 53 = .ok (.aaload, 1) := by decide +kernel
theorem dX3_fill_54 : decode cX3_fill 54 = .ok (.getfield 66, 3) := by decide +kernel
theorem dX3_fill_57 : decode cX3_fill 57 = .ok (.iload 5, 2) := by decide +kernel
theorem dX3_fill_59 : decode cX3_fill 59 = .ok (.iload 4, 2) := by decide +kernel
theorem dX3_fill_61 : decode cX3_fill 61 = .ok (.imul, 1) := by decide +kernel
theorem dX3_fill_62 : decode cX3_fill 62 = .ok (.iload 4, 2) := by decide +kernel
theorem dX3_fill_64 : decode cX3_fill 64 = .ok (.iload_n 2, 1) := by decide +kernel
theorem dX3_fill_65 : decode cX3_fill 65 = .ok (.invokestatic 69, 3) := by decide +kernel
theorem dX3_fill_68 : decode cX3_fill 68 = .ok (.invokevirtual 73, 3) := by decide +kernel
theorem dX3_fill_71 : decode cX3_fill 71 = .ok (.iinc 5 1, 3) := by decide +kernel
theorem dX3_fill_74 : decode cX3_fill 74 = .ok (.goto (-50), 3) := by decide +kernel
theorem dX3_fill_77 : decode cX3_fill 77 = .ok (.iinc 3 1, 3) := by decide +kernel
theorem dX3_fill_80 : decode cX3_fill 80 = .ok (.goto (-78), 3) := by decide +kernel
theorem dX3_fill_83 : decode cX3_fill 83 = .ok (.return_, 1) := by decide +kernel
theorem dX3_hasPart_0 : decode cX3_hasPart 0 = .ok (.iload_n 1, 1) := by decide +kernel
theorem dX3_hasPart_1 : decode cX3_hasPart 1 = .ok (.iconst 0, 1) := by decide +kernel
theorem dX3_hasPart_2 : decode cX3_hasPart 2 = .ok (.aload_n 0, 1) := by decide +kernel
theorem dX3_hasPart_3 : decode cX3_hasPart 3 = .ok (.getfield 18, 3) := by decide +kernel
theorem dX3_hasPart_6 : decode cX3_hasPart 6 = .ok (.iconst 1, 1) := by decide +kernel
theorem dX3_hasPart_7 : decode cX3_hasPart 7 = .ok (.isub, 1) := by decide +kernel
theorem dX3_hasPart_8 : decode cX3_hasPart 8 = .ok (.invokestatic 77, 3) := by decide +kernel
theorem dX3_hasPart_11 : decode cX3_hasPart 11 = .ok (.ireturn, 1) := by decide +kernel
theorem dX3_hasPacket_0 : decode cX3_hasPacket 0 = .ok (.iload_n 1, 1) := by decide +kernel
theorem dX3_hasPacket_1 : decode cX3_hasPacket 1 = .ok (.iconst 0, 1) := by decide +kernel
theorem dX3_hasPacket_2 : decode cX3_hasPacket 2 = .ok (.aload_n 0, 1) := by decide +kernel
theorem dX3_hasPacket_3 : decode cX3_hasPacket 3 = .ok (.getfield 24, 3) := by decide +kernel
theorem dX3_hasPacket_6 : decode cX3_hasPacket 6 = .ok (.iconst 1, 1) := by decide +kernel
theorem dX3_hasPacket_7 : decode cX3_hasPacket 7 = .ok (.isub, 1) := by decide +kernel
theorem dX3_hasPacket_8 : decode cX3_hasPacket 8 = .ok (.invokestatic 77, 3) := by decide +kernel
theorem dX3_hasPacket_11 : decode cX3_hasPacket 11 = .ok (.ireturn, 1) := by decide +kernel
theorem dX3_gather_0 : decode cX3_gather 0 = .ok (.aload_n 0, 1) := by decide +kernel
theorem dX3_gather_1 : decode cX3_gather 1 = .ok (.getfield 33, 3) := by decide +kernel
theorem dX3_gather_4 : decode cX3_gather 4 = .ok (.iload_n 1, 1) := by decide +kernel
theorem dX3_gather_5 : decode cX3_gather 5 = .ok (.iaload, 1) := by decide +kernel
theorem dX3_gather_6 : decode cX3_gather 6 = .ok (.iload_n 2, 1) := by decide +kernel
theorem dX3_gather_7 : decode cX3_gather 7 = .ok (.iadd, 1) := by decide +kernel
theorem dX3_gather_8 : decode cX3_gather 8 = .ok (.istore 4, 2) := by decide +kernel
theorem dX3_gather_10 : decode cX3_gather 10 = .ok (.aload_n 3, 1) := by decide +kernel
theorem dX3_gather_11 : decode cX3_gather 11 = .ok (.aload_n 0, 1) := by decide +kernel
theorem dX3_gather_12 : decode cX3_gather 12 = .ok (.getfield 29, 3) := by decide +kernel
theorem dX3_gather_15 : decode cX3_gather 15 = .ok (.iload_n 1, 1) := by decide +kernel
theorem dX3_gather_16 : decode cX3_gather 16 = .ok (.aaload, 1) := by decide +kernel
theorem dX3_gather_17 : decode cX3_gather 17 = .ok (.getfield 60, 3) := by decide +kernel
theorem dX3_gather_20 : decode cX3_gather 20 = .ok (.invokevirtual 81, 3) := by decide +kernel
theorem dX3_gather_23 : decode cX3_gather 23 = .ok (.iconst 0, 1) := by decide +kernel
theorem dX3_gather_24 : decode cX3_gather 24 = .ok (.istore 5, 2) := by decide +kernel
theorem dX3_gather_26 : decode cX3_gather 26 = .ok (.iload 5, 2) := by decide +kernel
theorem dX3_gather_28 : decode cX3_gather 28 = .ok (.aload_n 0, 1) := by decide +kernel
theorem dX3_gather_29 : decode cX3_gather 29 = .ok (.getfield 24, 3) := by decide +kernel
theorem dX3_gather_32 : decode cX3_gather 32 = .ok (.if_icmp .ge 45, 3) := by decide +kernel
theorem dX3_gather_35 : decode cX3_gather 35 = .ok (.aload_n 0, 1) := by decide +kernel
theorem dX3_gather_36 : decode cX3_gather 36 = .ok (.getfield 49, 3) := by decide +kernel
theorem dX3_gather_39 : decode cX3_gather 39 = .ok (.iload 5, 2) := by decide +kernel
theorem dX3_gather_41 : decode cX3_gather 41 = .ok (.aaload, 1) := by decide +kernel
theorem dX3_gather_42 : decode cX3_gather 42 = .ok (.iload 4, 2) := by decide +kernel
theorem dX3_gather_44 : decode cX3_gather 44 = .ok (.invokevirtual 86, 3) := by decide +kernel
theorem dX3_gather_47 : decode cX3_gather 47 = .ok (.ifCond .eq 24, 3) := by decide +kernel
theorem dX3_gather_50 : decode cX3_gather 50 = .ok (.aload_n 3, 1) := by decide +kernel
theorem dX3_gather_51 : decode cX3_gather 51 = .ok (.iload 5, 2) := by decide +kernel
theorem dX3_gather_53 : decode cX3_gather 53 = .ok (.iconst 1, 1) := by decide +kernel
theorem dX3_gather_54 : decode cX3_gather 54 = .ok (.iadd, 1) := by decide +kernel
theorem dX3_gather_55 : decode cX3_gather 55 = .ok (.aload_n 0, 1) := by decide +kernel
theorem dX3_gather_56 : decode cX3_gather 56 = .ok (.getfield 49, 3) := by decide +kernel
theorem dX3_gather_59 : decode cX3_gather 59 = .ok (.iload 5, 2) := by decide +kernel
theorem dX3_gather_61 : decode cX3_gather 61 = .ok (.aaload, 1) := by decide +kernel
theorem dX3_gather_62 : decode cX3_gather 62 = .ok (.getfield 90, 3) := by decide +kernel
theorem dX3_gather_65 : decode cX3_gather 65 = .ok (.iload 4, 2) := by decide +kernel
theorem dX3_gather_67 : decode cX3_gather 67 = .ok (.iaload, 1) := by decide +kernel
theorem dX3_gather_68 : decode cX3_gather 68 = .ok (.invokevirtual 93, 3) := by decide +kernel
theorem dX3_gather_71 : decode cX3_gather 71 = .ok (.iinc 5 1, 3) := by decide +kernel
theorem dX3_gather_74 : decode cX3_gather 74 = .ok (.goto (-48), 3) := by decide +kernel
theorem dX3_gather_77 : decode cX3_gather 77 = .ok (.return_, 1) := by decide +kernel
theorem dX3_stateOf_0 : decode cX3_stateOf 0 = .ok (.iconst 1, 1) := by decide +kernel
theorem dX3_stateOf_1 : decode cX3_stateOf 1 = .ok (.istore_n 3, 1) := by decide +kernel
theorem dX3_stateOf_2 : decode cX3_stateOf 2 = .ok (.iconst 0, 1) := by decide +kernel
theorem dX3_stateOf_3 : decode cX3_stateOf 3 = .ok (.istore 4, 2) := by decide +kernel
theorem dX3_stateOf_5 : decode cX3_stateOf 5 = .ok (.iload 4, 2) := by decide +kernel
theorem dX3_stateOf_7 : decode cX3_stateOf 7 = .ok (.aload_n 0, 1) := by decide +kernel
theorem dX3_stateOf_8 : decode cX3_stateOf 8 = .ok (.getfield 29, 3) := by decide +kernel
theorem dX3_stateOf_11 : decode cX3_stateOf 11 = .ok (.iload_n 1, 1) := by decide +kernel
theorem dX3_stateOf_12 : decode cX3_stateOf 12 = .ok (.aaload, 1) := by decide +kernel
theorem dX3_stateOf_13 : decode cX3_stateOf 13 = .ok (.invokevirtual 63, 3) := by decide +kernel
theorem dX3_stateOf_16 : decode cX3_stateOf 16 = .ok (.if_icmp .ge 43, 3) := by decide +kernel
theorem dX3_stateOf_19 : decode cX3_stateOf 19 = .ok (.aload_n 0, 1) := by decide +kernel
theorem dX3_stateOf_20 : decode cX3_stateOf 20 = .ok (.iload_n 1, 1) := by decide +kernel
theorem dX3_stateOf_21 : decode cX3_stateOf 21 = .ok (.iload 4, 2) := by decide +kernel
theorem dX3_stateOf_23 : decode cX3_stateOf 23 = .ok (.aload_n 2, 1) := by decide +kernel
theorem dX3_stateOf_24 : decode cX3_stateOf 24 = .ok (.invokevirtual 96, 3) := by decide +kernel
theorem dX3_stateOf_27 : decode cX3_stateOf 27 = .ok (.aload_n 2, 1) := by decide +kernel
theorem dX3_stateOf_28 : decode cX3_stateOf 28 = .ok (.invokevirtual 100, 3) := by decide +kernel
theorem dX3_stateOf_31 : decode cX3_stateOf 31 = .ok (.ifCond .ne 5, 3) := by decide +kernel
theorem dX3_stateOf_34 : decode cX3_stateOf 34 = .ok (.iconst 0, 1) := by decide +kernel
theorem dX3_stateOf_35 : decode cX3_stateOf 35 = .ok (.ireturn, 1) := by decide +kernel
theorem dX3_stateOf_36 : decode cX3_stateOf 36 = .ok (.aload_n 2, 1) := by decide +kernel
theorem dX3_stateOf_37 : decode cX3_stateOf 37 = .ok (.invokevirtual 104, 3) := by decide +kernel
theorem dX3_stateOf_40 : decode cX3_stateOf 40 = .ok (.aload_n 2, 1) := by decide +kernel
theorem dX3_stateOf_41 : decode cX3_stateOf 41 = .ok (.invokevirtual 107, 3) := by decide +kernel
theorem dX3_stateOf_44 : decode cX3_stateOf 44 = .ok (.aload_n 2, 1) := by decide +kernel
theorem dX3_stateOf_45 : decode cX3_stateOf 45 = .ok (.getfield 110, 3) := by decide +kernel
theorem dX3_stateOf_48 : decode cX3_stateOf 48 = .ok (.if_icmp .ge 5, 3) := by decide +kernel
theorem dX3_stateOf_51 : decode cX3_stateOf 51 = .ok (.iconst 2, 1) := by decide +kernel
theorem dX3_stateOf_52 : decode cX3_stateOf 52 = .ok (.istore_n 3, 1) := by decide +kernel
theorem dX3_stateOf_53 : decode cX3_stateOf 53 = .ok (.iinc 4 1, 3) := by decide +kernel
theorem dX3_stateOf_56 : decode cX3_stateOf 56 = .ok (.goto (-51), 3) := by decide +kernel
theorem dX3_stateOf_59 : decode cX3_stateOf 59 = .ok (.iload_n 3, 1) := by decide +kernel
theorem dX3_stateOf_60 : decode cX3_stateOf 60 = .ok (.ireturn, 1) := by decide +kernel
theorem dX3_partsInState_0 : decode cX3_partsInState 0 = .ok (.iconst 0, 1) := by decide +kernel
theorem dX3_partsInState_1 : decode cX3_partsInState 1 = .ok (.istore_n 3, 1) := by decide +kernel
theorem dX3_partsInState_2 : decode cX3_partsInState 2 = .ok (.iconst 0, 1) := by decide +kernel
theorem dX3_partsInState_3 : decode cX3_partsInState 3 = .ok (.istore 4, 2) := by decide +kernel
theorem dX3_partsInState_5 : decode cX3_partsInState 5 = .ok (.iload 4, 2) := by decide +kernel
theorem dX3_partsInState_7 : decode cX3_partsInState 7 = .ok (.aload_n 0, 1) := by decide +kernel
theorem dX3_partsInState_8 : decode cX3_partsInState 8 = .ok (.getfield 18, 3) := by decide +kernel
theorem dX3_partsInState_11 : decode cX3_partsInState 11 = .ok (.if_icmp .ge 23, 3) := by decide +kernel
theorem dX3_partsInState_14 : decode cX3_partsInState 14 = .ok (.aload_n 0, 1) := by decide +kernel
theorem dX3_partsInState_15 : decode cX3_partsInState 15 = .ok (.iload 4, 2) := by decide +kernel
theorem dX3_partsInState_17 : decode cX3_partsInState 17 = .ok (.aload_n 2, 1) := by decide +kernel
theorem dX3_partsInState_18 : decode cX3_partsInState 18 = .ok (.invokevirtual 113, 3) := by decide +kernel
theorem dX3_partsInState_21 : decode cX3_partsInState 21 = .ok (.iload_n 1, 1) := by decide +kernel
theorem dX3_partsInState_22 : decode cX3_partsInState 22 = .ok (.if_icmp .ne 6, 3) := by decide +kernel
theorem dX3_partsInState_25 : decode cX3_partsInState 25 = .ok (.iinc 3 1, 3) := by decide +kernel
theorem dX3_partsInState_28 : decode cX3_partsInState 28 = .ok (.iinc 4 1, 3) := by decide +kernel
theorem dX3_partsInState_31 : decode cX3_partsInState 31 = .ok (.goto (-26), 3) := by decide +kernel
theorem dX3_partsInState_34 : decode cX3_partsInState 34 = .ok (.iload_n 3, 1) := by decide +kernel
theorem dX3_partsInState_35 : decode cX3_partsInState 35 = .ok (.ireturn, 1) := by decide +kernel
theorem dX3_fewestHolders_0 : decode cX3_fewestHolders 0 = .ok (.aload_n 0, 1) := by decide +kernel
theorem dX3_fewestHolders_1 : decode cX3_fewestHolders 1 = .ok (.getfield 24, 3) := by decide +kernel
theorem dX3_fewestHolders_4 : decode cX3_fewestHolders 4 = .ok (.istore_n 2, 1) := by decide +kernel
theorem dX3_fewestHolders_5 : decode cX3_fewestHolders 5 = .ok (.iconst 0, 1) := by decide +kernel
theorem dX3_fewestHolders_6 : decode cX3_fewestHolders 6 = .ok (.istore_n 3, 1) := by decide +kernel
theorem dX3_fewestHolders_7 : decode cX3_fewestHolders 7 = .ok (.iload_n 3, 1) := by decide +kernel
theorem dX3_fewestHolders_8 : decode cX3_fewestHolders 8 = .ok (.aload_n 0, 1) := by decide +kernel
theorem dX3_fewestHolders_9 : decode cX3_fewestHolders 9 = .ok (.getfield 29, 3) := by decide +kernel
theorem dX3_fewestHolders_12 : decode cX3_fewestHolders 12 = .ok (.iload_n 1, 1) := by decide +kernel
theorem dX3_fewestHolders_13 : decode cX3_fewestHolders 13 = .ok (.aaload, 1) := by decide +kernel
theorem dX3_fewestHolders_14 : decode cX3_fewestHolders 14 = .ok (.invokevirtual 63, 3) := by decide +kernel
theorem dX3_fewestHolders_17 : decode cX3_fewestHolders 17 = .ok (.if_icmp .ge 26, 3) := by decide +kernel
theorem dX3_fewestHolders_20 : decode cX3_fewestHolders 20 = .ok (.iload_n 2, 1) := by decide +kernel
theorem dX3_fewestHolders_21 : decode cX3_fewestHolders 21 = .ok (.aload_n 0, 1) := by decide +kernel
theorem dX3_fewestHolders_22 : decode cX3_fewestHolders 22 = .ok (.aload_n 0, 1) := by decide +kernel
theorem dX3_fewestHolders_23 : decode cX3_fewestHolders 23 = .ok (.getfield 33, 3) := by decide +kernel
theorem dX3_fewestHolders_26 : decode cX3_fewestHolders 26 = .ok (.iload_n 1, 1) := by decide +kernel
theorem dX3_fewestHolders_27 : decode cX3_fewestHolders 27 = .ok (.iaload, 1) := by decide +kernel
theorem dX3_fewestHolders_28 : decode cX3_fewestHolders 28 = .ok (.iload_n 3, 1) := by decide +kernel
theorem dX3_fewestHolders_29 : decode cX3_fewestHolders 29 = .ok (.iadd, 1) := by decide +kernel
theorem dX3_fewestHolders_30 : decode cX3_fewestHolders 30 = .ok (.invokevirtual 117, 3) := by decide +kernel
theorem dX3_fewestHolders_33 : decode cX3_fewestHolders 33 = .ok (.invokestatic 9, 3) := by decide +kernel
theorem dX3_fewestHolders_36 : decode cX3_fewestHolders 36 = .ok (.istore_n 2, 1) := by decide +kernel
theorem dX3_fewestHolders_37 : decode cX3_fewestHolders 37 = .ok (.iinc 3 1, 3) := by decide +kernel
theorem dX3_fewestHolders_40 : decode cX3_fewestHolders 40 = .ok (.goto (-33), 3) := by decide +kernel
theorem dX3_fewestHolders_43 : decode cX3_fewestHolders 43 = .ok (.iload_n 2, 1) := by decide +kernel
theorem dX3_fewestHolders_44 : decode cX3_fewestHolders 44 = .ok (.ireturn, 1) := by decide +kernel
theorem dX3_holdersAt_0 : decode cX3_holdersAt 0 = .ok (.iconst 0, 1) := by decide +kernel
theorem dX3_holdersAt_1 : decode cX3_holdersAt 1 = .ok (.istore_n 2, 1) := by decide +kernel
theorem dX3_holdersAt_2 : decode cX3_holdersAt 2 = .ok (.iconst 0, 1) := by decide +kernel
theorem dX3_holdersAt_3 : decode cX3_holdersAt 3 = .ok (.istore_n 3, 1) := by decide +kernel
theorem dX3_holdersAt_4 : decode cX3_holdersAt 4 = .ok (.iload_n 3, 1) := by decide +kernel
theorem dX3_holdersAt_5 : decode cX3_holdersAt 5 = .ok (.aload_n 0, 1) := by decide +kernel
theorem dX3_holdersAt_6 : decode cX3_holdersAt 6 = .ok (.getfield 24, 3) := by decide +kernel
theorem dX3_holdersAt_9 : decode cX3_holdersAt 9 = .ok (.if_icmp .ge 25, 3) := by decide +kernel
theorem dX3_holdersAt_12 : decode cX3_holdersAt 12 = .ok (.aload_n 0, 1) := by decide +kernel
theorem dX3_holdersAt_13 : decode cX3_holdersAt 13 = .ok (.getfield 49, 3) := by decide +kernel
theorem dX3_holdersAt_16 : decode cX3_holdersAt 16 = .ok (.iload_n 3, 1) := by decide +kernel
theorem dX3_holdersAt_17 : decode cX3_holdersAt 17 = .ok (.aaload, 1) := by decide +kernel
theorem dX3_holdersAt_18 : decode cX3_holdersAt 18 = .ok (.iload_n 1, 1) := by decide +kernel
theorem dX3_holdersAt_19 : decode cX3_holdersAt 19 = .ok (.invokevirtual 86, 3) := by decide +kernel
theorem dX3_holdersAt_22 : decode cX3_holdersAt 22 = .ok (.ifCond .eq 6, 3) := by decide +kernel
theorem dX3_holdersAt_25 : decode cX3_holdersAt 25 = .ok (.iinc 2 1, 3) := by decide +kernel
theorem dX3_holdersAt_28 : decode cX3_holdersAt 28 = .ok (.iinc 3 1, 3) := by decide +kernel
theorem dX3_holdersAt_31 : decode cX3_holdersAt 31 = .ok (.goto (-27), 3) := by decide +kernel
theorem dX3_holdersAt_34 : decode cX3_holdersAt 34 = .ok (.iload_n 2, 1) := by decide +kernel
theorem dX3_holdersAt_35 : decode cX3_holdersAt 35 = .ok (.ireturn, 1) := by decide +kernel
theorem dX3_openingSets_0 : decode cX3_openingSets 0 = .ok (.iconst 0, 1) := by decide +kernel
theorem dX3_openingSets_1 : decode cX3_openingSets 1 = .ok (.istore_n 2, 1) := by decide +kernel
theorem dX3_openingSets_2 : decode cX3_openingSets 2 = .ok (.iconst 0, 1) := by decide +kernel
theorem dX3_openingSets_3 : decode cX3_openingSets 3 = .ok (.istore_n 3, 1) := by decide +kernel
theorem dX3_openingSets_4 : decode cX3_openingSets 4 = .ok (.iload_n 3, 1) := by decide +kernel
theorem dX3_openingSets_5 : decode cX3_openingSets 5 = .ok (.iconst 1, 1) := by decide +kernel
theorem dX3_openingSets_6 : decode cX3_openingSets 6 = .ok (.aload_n 0, 1) := by decide +kernel
theorem dX3_openingSets_7 : decode cX3_openingSets 7 = .ok (.getfield 24, 3) := by decide +kernel
theorem dX3_openingSets_10 : decode cX3_openingSets 10 = .ok (.ishl, 1) := by decide +kernel
theorem dX3_openingSets_11 : decode cX3_openingSets 11 = .ok (.if_icmp .ge 28, 3) := by decide +kernel
theorem dX3_openingSets_14 : decode cX3_openingSets 14 = .ok (.iload_n 3, 1) := by decide +kernel
theorem dX3_openingSets_15 : decode cX3_openingSets 15 = .ok (.invokestatic 121, 3) := by decide +kernel
theorem dX3_openingSets_18 : decode cX3_openingSets 18 = .ok (.aload_n 0, 1) := by decide +kernel
theorem dX3_openingSets_19 : decode cX3_openingSets 19 = .ok (.getfield 29, 3) := by decide +kernel
theorem dX3_openingSets_22 : decode cX3_openingSets 22 = .ok (.iload_n 1, 1) := by decide +kernel
theorem dX3_openingSets_23 : decode cX3_openingSets 23 = .ok (.aaload, 1) := by decide +kernel
theorem dX3_openingSets_24 : decode cX3_openingSets 24 = .ok (.getfield 60, 3) := by decide +kernel
theorem dX3_openingSets_27 : decode cX3_openingSets 27 = .ok (.if_icmp .lt 6, 3) := by decide +kernel
theorem dX3_openingSets_30 : decode cX3_openingSets 30 = .ok (.iinc 2 1, 3) := by decide +kernel
theorem dX3_openingSets_33 : decode cX3_openingSets 33 = .ok (.iinc 3 1, 3) := by decide +kernel
theorem dX3_openingSets_36 : decode cX3_openingSets 36 = .ok (.goto (-32), 3) := by decide +kernel
theorem dX3_openingSets_39 : decode cX3_openingSets 39 = .ok (.iload_n 2, 1) := by decide +kernel
theorem dX3_openingSets_40 : decode cX3_openingSets 40 = .ok (.ireturn, 1) := by decide +kernel
theorem dX3_timesBlamed_0 : decode cX3_timesBlamed 0 = .ok (.iconst 0, 1) := by decide +kernel
theorem dX3_timesBlamed_1 : decode cX3_timesBlamed 1 = .ok (.istore_n 3, 1) := by decide +kernel
theorem dX3_timesBlamed_2 : decode cX3_timesBlamed 2 = .ok (.iconst 0, 1) := by decide +kernel
theorem dX3_timesBlamed_3 : decode cX3_timesBlamed 3 = .ok (.istore 4, 2) := by decide +kernel
theorem dX3_timesBlamed_5 : decode cX3_timesBlamed 5 = .ok (.iload 4, 2) := by decide +kernel
theorem dX3_timesBlamed_7 : decode cX3_timesBlamed 7 = .ok (.aload_n 0, 1) := by decide +kernel
theorem dX3_timesBlamed_8 : decode cX3_timesBlamed 8 = .ok (.getfield 18, 3) := by decide +kernel
theorem dX3_timesBlamed_11 : decode cX3_timesBlamed 11 = .ok (.if_icmp .ge 49, 3) := by decide +kernel
theorem dX3_timesBlamed_14 : decode cX3_timesBlamed 14 = .ok (.iconst 0, 1) := by decide +kernel
theorem dX3_timesBlamed_15 : decode cX3_timesBlamed 15 = .ok (.istore 5, 2) := by decide +kernel
theorem dX3_timesBlamed_17 : decode cX3_timesBlamed 17 = .ok (.iload 5, 2) := by decide +kernel
theorem dX3_timesBlamed_19 : decode cX3_timesBlamed 19 = .ok (.aload_n 0, 1) := by decide +kernel
theorem dX3_timesBlamed_20 : decode cX3_timesBlamed 20 = .ok (.getfield 29, 3) := by decide +kernel
theorem dX3_timesBlamed_23 : decode cX3_timesBlamed 23 = .ok (.iload 4, 2) := by decide +kernel
theorem dX3_timesBlamed_25 : decode cX3_timesBlamed 25 = .ok (.aaload, 1) := by decide +kernel
theorem dX3_timesBlamed_26 : decode cX3_timesBlamed 26 = .ok (.invokevirtual 63, 3) := by decide +kernel
theorem dX3_timesBlamed_29 : decode cX3_timesBlamed 29 = .ok (.if_icmp .ge 25, 3) := by decide +kernel
theorem dX3_timesBlamed_32 : decode cX3_timesBlamed 32 = .ok (.aload_n 0, 1) := by decide +kernel
theorem dX3_timesBlamed_33 : decode cX3_timesBlamed 33 = .ok (.iload 4, 2) := by decide +kernel
theorem dX3_timesBlamed_35 : decode cX3_timesBlamed 35 = .ok (.iload 5, 2) := by decide +kernel
theorem dX3_timesBlamed_37 : decode cX3_timesBlamed 37 = .ok (.iload_n 1, 1) := by decide +kernel
theorem dX3_timesBlamed_38 : decode cX3_timesBlamed 38 = .ok (.aload_n 2, 1) := by decide +kernel
theorem dX3_timesBlamed_39 : decode cX3_timesBlamed 39 = .ok (.invokevirtual 126, 3) := by decide +kernel
theorem dX3_timesBlamed_42 : decode cX3_timesBlamed 42 = .ok (.ifCond .eq 6, 3) := by decide +kernel
theorem dX3_timesBlamed_45 : decode cX3_timesBlamed 45 = .ok (.iinc 3 1, 3) := by decide +kernel
theorem dX3_timesBlamed_48 : decode cX3_timesBlamed 48 = .ok (.iinc 5 1, 3) := by decide +kernel
theorem dX3_timesBlamed_51 : decode cX3_timesBlamed 51 = .ok (.goto (-34), 3) := by decide +kernel
theorem dX3_timesBlamed_54 : decode cX3_timesBlamed 54 = .ok (.iinc 4 1, 3) := by decide +kernel
theorem dX3_timesBlamed_57 : decode cX3_timesBlamed 57 = .ok (.goto (-52), 3) := by decide +kernel
theorem dX3_timesBlamed_60 : decode cX3_timesBlamed 60 = .ok (.iload_n 3, 1) := by decide +kernel
theorem dX3_timesBlamed_61 : decode cX3_timesBlamed 61 = .ok (.ireturn, 1) := by decide +kernel
theorem dX3_blames_0 : decode cX3_blames 0 = .ok (.aload_n 0, 1) := by decide +kernel
theorem dX3_blames_1 : decode cX3_blames 1 = .ok (.getfield 33, 3) := by decide +kernel
theorem dX3_blames_4 : decode cX3_blames 4 = .ok (.iload_n 1, 1) := by decide +kernel
theorem dX3_blames_5 : decode cX3_blames 5 = .ok (.iaload, 1) := by decide +kernel
theorem dX3_blames_6 : decode cX3_blames 6 = .ok (.iload_n 2, 1) := by decide +kernel
theorem dX3_blames_7 : decode cX3_blames 7 = .ok (.iadd, 1) := by decide +kernel
theorem dX3_blames_8 : decode cX3_blames 8 = .ok (.istore 5, 2) := by decide +kernel
theorem dX3_blames_10 : decode cX3_blames 10 = .ok (.aload_n 0, 1) := by decide +kernel
theorem dX3_blames_11 : decode cX3_blames 11 = .ok (.getfield 49, 3) := by decide +kernel
theorem dX3_blames_14 : decode cX3_blames 14 = .ok (.iload_n 3, 1) := by decide +kernel
theorem dX3_blames_15 : decode cX3_blames 15 = .ok (.aaload, 1) := by decide +kernel
theorem dX3_blames_16 : decode cX3_blames 16 = .ok (.iload 5, 2) := by decide +kernel
theorem dX3_blames_18 : decode cX3_blames 18 = .ok (.invokevirtual 86, 3) := by decide +kernel
theorem dX3_blames_21 : decode cX3_blames 21 = .ok (.ifCond .ne 5, 3) := by decide +kernel
theorem dX3_blames_24 : decode cX3_blames 24 = .ok (.iconst 0, 1) := by decide +kernel
theorem dX3_blames_25 : decode cX3_blames 25 = .ok (.ireturn, 1) := by decide +kernel
theorem dX3_blames_26 : decode cX3_blames 26 = .ok (.aload_n 0, 1) := by decide +kernel
theorem dX3_blames_27 : decode cX3_blames 27 = .ok (.iload_n 1, 1) := by decide +kernel
theorem dX3_blames_28 : decode cX3_blames 28 = .ok (.iload_n 2, 1) := by decide +kernel
theorem dX3_blames_29 : decode cX3_blames 29 = .ok (.aload 4, 2) := by decide +kernel
theorem dX3_blames_31 : decode cX3_blames 31 = .ok (.invokevirtual 96, 3) := by decide +kernel
theorem dX3_blames_34 : decode cX3_blames 34 = .ok (.aload 4, 2) := by decide +kernel
theorem dX3_blames_36 : decode cX3_blames 36 = .ok (.invokevirtual 100, 3) := by decide +kernel
theorem dX3_blames_39 : decode cX3_blames 39 = .ok (.ifCond .eq 38, 3) := by decide +kernel
theorem dX3_blames_42 : decode cX3_blames 42 = .ok (.aload 4, 2) := by decide +kernel
theorem dX3_blames_44 : decode cX3_blames 44 = .ok (.invokevirtual 130, 3) := by decide +kernel
theorem dX3_blames_47 : decode cX3_blames 47 = .ok (.ifCond .eq 30, 3) := by decide +kernel
theorem dX3_blames_50 : decode cX3_blames 50 = .ok (.aload 4, 2) := by decide +kernel
theorem dX3_blames_52 : decode cX3_blames 52 = .ok (.iload_n 3, 1) := by decide +kernel
theorem dX3_blames_53 : decode cX3_blames 53 = .ok (.iconst 1, 1) := by decide +kernel
theorem dX3_blames_54 : decode cX3_blames 54 = .ok (.iadd, 1) := by decide +kernel
theorem dX3_blames_55 : decode cX3_blames 55 = .ok (.invokevirtual 133, 3) := by decide +kernel
theorem dX3_blames_58 : decode cX3_blames 58 = .ok (.aload_n 0, 1) := by decide +kernel
theorem dX3_blames_59 : decode cX3_blames 59 = .ok (.getfield 49, 3) := by decide +kernel
theorem dX3_blames_62 : decode cX3_blames 62 = .ok (.iload_n 3, 1) := by decide +kernel
theorem dX3_blames_63 : decode cX3_blames 63 = .ok (.aaload, 1) := by decide +kernel
theorem dX3_blames_64 : decode cX3_blames 64 = .ok (.getfield 90, 3) := by decide +kernel
theorem dX3_blames_67 : decode cX3_blames 67 = .ok (.iload 5, 2) := by decide +kernel
theorem dX3_blames_69 : decode cX3_blames 69 = .ok (.iaload, 1) := by decide +kernel
theorem dX3_blames_70 : decode cX3_blames 70 = .ok (.if_icmp .eq 7, 3) := by decide +kernel
theorem dX3_blames_73 : decode cX3_blames 73 = .ok (.iconst 1, 1) := by decide +kernel
theorem dX3_blames_74 : decode cX3_blames 74 = .ok (.goto 4, 3) := by decide +kernel
theorem dX3_blames_77 : decode cX3_blames 77 = .ok (.iconst 0, 1) := by decide +kernel
theorem dX3_blames_78 : decode cX3_blames 78 = .ok (.ireturn, 1) := by decide +kernel
theorem dX3_openedBy_0 : decode cX3_openedBy 0 = .ok (.iconst 0, 1) := by decide +kernel
theorem dX3_openedBy_1 : decode cX3_openedBy 1 = .ok (.istore_n 2, 1) := by decide +kernel
theorem dX3_openedBy_2 : decode cX3_openedBy 2 = .ok (.iconst 0, 1) := by decide +kernel
theorem dX3_openedBy_3 : decode cX3_openedBy 3 = .ok (.istore_n 3, 1) := by decide +kernel
theorem dX3_openedBy_4 : decode cX3_openedBy 4 = .ok (.iload_n 3, 1) := by decide +kernel
theorem dX3_openedBy_5 : decode cX3_openedBy 5 = .ok (.aload_n 0, 1) := by decide +kernel
theorem dX3_openedBy_6 : decode cX3_openedBy 6 = .ok (.getfield 18, 3) := by decide +kernel
theorem dX3_openedBy_9 : decode cX3_openedBy 9 = .ok (.if_icmp .ge 28, 3) := by decide +kernel
theorem dX3_openedBy_12 : decode cX3_openedBy 12 = .ok (.aload_n 0, 1) := by decide +kernel
theorem dX3_openedBy_13 : decode cX3_openedBy 13 = .ok (.getfield 29, 3) := by decide +kernel
theorem dX3_openedBy_16 : decode cX3_openedBy 16 = .ok (.iload_n 3, 1) := by decide +kernel
theorem dX3_openedBy_17 : decode cX3_openedBy 17 = .ok (.aaload, 1) := by decide +kernel
theorem dX3_openedBy_18 : decode cX3_openedBy 18 = .ok (.getfield 60, 3) := by decide +kernel
theorem dX3_openedBy_21 : decode cX3_openedBy 21 = .ok (.iload_n 1, 1) := by decide +kernel
theorem dX3_openedBy_22 : decode cX3_openedBy 22 = .ok (.if_icmp .gt 9, 3) := by decide +kernel
theorem dX3_openedBy_25 : decode cX3_openedBy 25 = .ok (.iload_n 2, 1) := by decide +kernel
theorem dX3_openedBy_26 : decode cX3_openedBy 26 = .ok (.iconst 1, 1) := by decide +kernel
theorem dX3_openedBy_27 : decode cX3_openedBy 27 = .ok (.iload_n 3, 1) := by decide +kernel
theorem dX3_openedBy_28 : decode cX3_openedBy 28 = .ok (.ishl, 1) := by decide +kernel
theorem dX3_openedBy_29 : decode cX3_openedBy 29 = .ok (.ior, 1) := by decide +kernel
theorem dX3_openedBy_30 : decode cX3_openedBy 30 = .ok (.istore_n 2, 1) := by decide +kernel
theorem dX3_openedBy_31 : decode cX3_openedBy 31 = .ok (.iinc 3 1, 3) := by decide +kernel
theorem dX3_openedBy_34 : decode cX3_openedBy 34 = .ok (.goto (-30), 3) := by decide +kernel
theorem dX3_openedBy_37 : decode cX3_openedBy 37 = .ok (.iload_n 2, 1) := by decide +kernel
theorem dX3_openedBy_38 : decode cX3_openedBy 38 = .ok (.ireturn, 1) := by decide +kernel
theorem dX3_lostPackets_0 : decode cX3_lostPackets 0 = .ok (.iconst 0, 1) := by decide +kernel
theorem dX3_lostPackets_1 : decode cX3_lostPackets 1 = .ok (.istore_n 1, 1) := by decide +kernel
theorem dX3_lostPackets_2 : decode cX3_lostPackets 2 = .ok (.iconst 0, 1) := by decide +kernel
theorem dX3_lostPackets_3 : decode cX3_lostPackets 3 = .ok (.istore_n 2, 1) := by decide +kernel
theorem dX3_lostPackets_4 : decode cX3_lostPackets 4 = .ok (.iload_n 2, 1) := by decide +kernel
theorem dX3_lostPackets_5 : decode cX3_lostPackets 5 = .ok (.aload_n 0, 1) := by decide +kernel
theorem dX3_lostPackets_6 : decode cX3_lostPackets 6 = .ok (.getfield 24, 3) := by decide +kernel
theorem dX3_lostPackets_9 : decode cX3_lostPackets 9 = .ok (.if_icmp .ge 24, 3) := by decide +kernel
theorem dX3_lostPackets_12 : decode cX3_lostPackets 12 = .ok (.aload_n 0, 1) := by decide +kernel
theorem dX3_lostPackets_13 : decode cX3_lostPackets 13 = .ok (.getfield 49, 3) := by decide +kernel
theorem dX3_lostPackets_16 : decode cX3_lostPackets 16 = .ok (.iload_n 2, 1) := by decide +kernel
theorem dX3_lostPackets_17 : decode cX3_lostPackets 17 = .ok (.aaload, 1) := by decide +kernel
theorem dX3_lostPackets_18 : decode cX3_lostPackets 18 = .ok (.getfield 136, 3) := by decide +kernel
theorem dX3_lostPackets_21 : decode cX3_lostPackets 21 = .ok (.ifCond .eq 6, 3) := by decide +kernel
theorem dX3_lostPackets_24 : decode cX3_lostPackets 24 = .ok (.iinc 1 1, 3) := by decide +kernel
theorem dX3_lostPackets_27 : decode cX3_lostPackets 27 = .ok (.iinc 2 1, 3) := by decide +kernel
theorem dX3_lostPackets_30 : decode cX3_lostPackets 30 = .ok (.goto (-26), 3) := by decide +kernel
theorem dX3_lostPackets_33 : decode cX3_lostPackets 33 = .ok (.iload_n 1, 1) := by decide +kernel
theorem dX3_lostPackets_34 : decode cX3_lostPackets 34 = .ok (.ireturn, 1) := by decide +kernel
theorem dX4_init_0 : decode cX4_init 0 = .ok (.aload_n 0, 1) := by decide +kernel
theorem dX4_init_1 : decode cX4_init 1 = .ok (.invokespecial 3, 3) := by decide +kernel
theorem dX4_init_4 : decode cX4_init 4 = .ok (.aload_n 0, 1) := by decide +kernel
theorem dX4_init_5 : decode cX4_init 5 = .ok (.bipush 40, 2) := by decide +kernel
theorem dX4_init_7 : decode cX4_init 7 = .ok (.newarray .int, 2) := by decide +kernel
theorem dX4_init_9 : decode cX4_init 9 = .ok (.putfield 9, 3) := by decide +kernel
theorem dX4_init_12 : decode cX4_init 12 = .ok (.aload_n 0, 1) := by decide +kernel
theorem dX4_init_13 : decode cX4_init 13 = .ok (.bipush 40, 2) := by decide +kernel
theorem dX4_init_15 : decode cX4_init 15 = .ok (.newarray .int, 2) := by decide +kernel
theorem dX4_init_17 : decode cX4_init 17 = .ok (.putfield 15, 3) := by decide +kernel
theorem dX4_init_20 : decode cX4_init 20 = .ok (.aload_n 0, 1) := by decide +kernel
theorem dX4_init_21 : decode cX4_init 21 = .ok (.iload_n 1, 1) := by decide +kernel
theorem dX4_init_22 : decode cX4_init 22 = .ok (.bipush 40, 2) := by decide +kernel
theorem dX4_init_24 : decode cX4_init 24 = .ok (.invokestatic 18, 3) := by decide +kernel
theorem dX4_init_27 : decode cX4_init 27 = .ok (.putfield 24, 3) := by decide +kernel
theorem dX4_init_30 : decode cX4_init 30 = .ok (.aload_n 0, 1) := by decide +kernel
theorem dX4_init_31 : decode cX4_init 31 = .ok (.iconst 0, 1) := by decide +kernel
theorem dX4_init_32 : decode cX4_init 32 = .ok (.putfield 28, 3) := by decide +kernel
theorem dX4_init_35 : decode cX4_init 35 = .ok (.return_, 1) := by decide +kernel
theorem dX4_put_0 : decode cX4_put 0 = .ok (.iload_n 1, 1) := by decide +kernel
theorem dX4_put_1 : decode cX4_put 1 = .ok (.iconst 0, 1) := by decide +kernel
theorem dX4_put_2 : decode cX4_put 2 = .ok (.bipush 39, 2) := by decide +kernel
theorem dX4_put_4 : decode cX4_put 4 = .ok (.invokestatic 32, 3) := by decide +kernel
theorem dX4_put_7 : decode cX4_put 7 = .ok (.ifCond .eq 17, 3) := by decide +kernel
theorem dX4_put_10 : decode cX4_put 10 = .ok (.aload_n 0, 1) := by decide +kernel
theorem dX4_put_11 : decode cX4_put 11 = .ok (.getfield 9, 3) := by decide +kernel
theorem dX4_put_14 : decode cX4_put 14 = .ok (.iload_n 1, 1) := by decide +kernel
theorem dX4_put_15 : decode cX4_put 15 = .ok (.iload_n 2, 1) := by decide +kernel
theorem dX4_put_16 : decode cX4_put 16 = .ok (.iastore, 1) := by decide +kernel
theorem dX4_put_17 : decode cX4_put 17 = .ok (.aload_n 0, 1) := by decide +kernel
theorem dX4_put_18 : decode cX4_put 18 = .ok (.getfield 15, 3) := by decide +kernel
theorem dX4_put_21 : decode cX4_put 21 = .ok (.iload_n 1, 1) := by decide +kernel
theorem dX4_put_22 : decode cX4_put 22 = .ok (.iload_n 2, 1) := by decide +kernel
theorem dX4_put_23 : decode cX4_put 23 = .ok (.iastore, 1) := by decide +kernel
theorem dX4_put_24 : decode cX4_put 24 = .ok (.return_, 1) := by decide +kernel
theorem dX4_holds_0 : decode cX4_holds 0 = .ok (.aload_n 0, 1) := by decide +kernel
theorem dX4_holds_1 : decode cX4_holds 1 = .ok (.getfield 28, 3) := by decide +kernel
theorem dX4_holds_4 : decode cX4_holds 4 = .ok (.ifCond .ne 21, 3) := by decide +kernel
theorem dX4_holds_7 : decode cX4_holds 7 = .ok (.iload_n 1, 1) := by decide +kernel
theorem dX4_holds_8 : decode cX4_holds 8 = .ok (.iconst 0, 1) := by decide +kernel
theorem dX4_holds_9 : decode cX4_holds 9 = .ok (.aload_n 0, 1) := by decide +kernel
theorem dX4_holds_10 : decode cX4_holds 10 = .ok (.getfield 24, 3) := by decide +kernel
theorem dX4_holds_13 : decode cX4_holds 13 = .ok (.iconst 1, 1) := by decide +kernel
theorem dX4_holds_14 : decode cX4_holds 14 = .ok (.isub, 1) := by decide +kernel
theorem dX4_holds_15 : decode cX4_holds 15 = .ok (.invokestatic 32, 3) := by decide +kernel
theorem dX4_holds_18 : decode cX4_holds 18 = .ok (.ifCond .eq 7, 3) := by decide +kernel
theorem dX4_holds_21 : decode cX4_holds 21 = .ok (.iconst 1, 1) := by decide +kernel
theorem dX4_holds_22 : decode cX4_holds 22 = .ok (.goto 4, 3) := by decide +kernel
theorem dX4_holds_25 : decode cX4_holds 25 = .ok (.iconst 0, 1) := by decide +kernel
theorem dX4_holds_26 : decode cX4_holds 26 = .ok (.ireturn, 1) := by decide +kernel
theorem dX4_sendAgain_0 : decode cX4_sendAgain 0 = .ok (.iconst 0, 1) := by decide +kernel
theorem dX4_sendAgain_1 : decode cX4_sendAgain 1 = .ok (.istore_n 2, 1) := by decide +kernel
theorem dX4_sendAgain_2 : decode cX4_sendAgain 2 = .ok (.iconst 0, 1) := by decide +kernel
theorem dX4_sendAgain_3 : decode cX4_sendAgain 3 = .ok (.istore_n 3, 1) := by decide +kernel
theorem dX4_sendAgain_4 : decode cX4_sendAgain 4 = .ok (.iload_n 3, 1) := by decide +kernel
theorem dX4_sendAgain_5 : decode cX4_sendAgain 5 = .ok (.iload_n 1, 1) := by decide +kernel
theorem dX4_sendAgain_6 : decode cX4_sendAgain 6 = .ok (.if_icmp .ge 53, 3) := by decide +kernel
theorem dX4_sendAgain_9 : decode cX4_sendAgain 9 = .ok (.iload_n 3, 1) := by decide +kernel
theorem dX4_sendAgain_10 : decode cX4_sendAgain 10 = .ok (.bipush 40, 2) := by decide +kernel
theorem dX4_sendAgain_12 : decode cX4_sendAgain 12 = .ok (.if_icmp .ge 47, 3) := by decide +kernel
theorem dX4_sendAgain_15 : decode cX4_sendAgain 15 = .ok (.aload_n 0, 1) := by decide +kernel
theorem dX4_sendAgain_16 : decode cX4_sendAgain 16 = .ok (.iload_n 3, 1) := by decide +kernel
theorem dX4_sendAgain_17 : decode cX4_sendAgain 17 = .ok (.invokevirtual 36, 3) := by decide +kernel
theorem dX4_sendAgain_20 : decode cX4_sendAgain 20 = .ok (.ifCond .eq 18, 3) := by decide +kernel
theorem dX4_sendAgain_23 : decode cX4_sendAgain 23 = .ok (.aload_n 0, 1) := by decide +kernel
theorem dX4_sendAgain_24 : decode cX4_sendAgain 24 = .ok (.getfield 15, 3) := by decide +kernel
theorem dX4_sendAgain_27 : decode cX4_sendAgain 27 = .ok (.iload_n 3, 1) := by decide +kernel
theorem dX4_sendAgain_28 : decode cX4_sendAgain 28 = .ok (.iaload, 1) := by decide +kernel
theorem dX4_sendAgain_29 : decode cX4_sendAgain 29 = .ok (.aload_n 0, 1) := by decide +kernel
theorem dX4_sendAgain_30 : decode cX4_sendAgain 30 = .ok (.getfield 9, 3) := by decide +kernel
theorem dX4_sendAgain_33 : decode cX4_sendAgain 33 = .ok (.iload_n 3, 1) := by decide +kernel
theorem dX4_sendAgain_34 : decode cX4_sendAgain 34 = .ok (.iaload, 1) := by decide +kernel
theorem dX4_sendAgain_35 : decode cX4_sendAgain 35 = .ok (.if_icmp .eq 6, 3) := by decide +kernel
theorem dX4_sendAgain_38 : decode cX4_sendAgain 38 = .ok (.iinc 2 1, 3) := by decide +kernel
theorem dX4_sendAgain_41 : decode cX4_sendAgain 41 = .ok (.aload_n 0, 1) := by decide +kernel
theorem dX4_sendAgain_42 : decode cX4_sendAgain 42 = .ok (.getfield 15, 3) := by decide +kernel
theorem dX4_sendAgain_45 : decode cX4_sendAgain 45 = .ok (.iload_n 3, 1) := by decide +kernel
theorem dX4_sendAgain_46 : decode cX4_sendAgain 46 = .ok (.aload_n 0, 1) := by decide +kernel
theorem dX4_sendAgain_47 : decode cX4_sendAgain 47 = .ok (.getfield 9, 3) := by decide +kernel
theorem dX4_sendAgain_50 : decode cX4_sendAgain 50 = .ok (.iload_n 3, 1) := by decide +kernel
theorem dX4_sendAgain_51 : decode cX4_sendAgain 51 = .ok (.iaload, 1) := by decide +kernel
theorem dX4_sendAgain_52 : decode cX4_sendAgain 52 = .ok (.iastore, 1) := by decide +kernel
theorem dX4_sendAgain_53 : decode cX4_sendAgain 53 = .ok (.iinc 3 1, 3) := by decide +kernel
theorem dX4_sendAgain_56 : decode cX4_sendAgain 56 = .ok (.goto (-52), 3) := by decide +kernel
theorem dX4_sendAgain_59 : decode cX4_sendAgain 59 = .ok (.aload_n 0, 1) := by decide +kernel
theorem dX4_sendAgain_60 : decode cX4_sendAgain 60 = .ok (.iload_n 1, 1) := by decide +kernel
theorem dX4_sendAgain_61 : decode cX4_sendAgain 61 = .ok (.bipush 40, 2) := by decide +kernel
theorem dX4_sendAgain_63 : decode cX4_sendAgain 63 = .ok (.invokestatic 18, 3) := by decide +kernel
theorem dX4_sendAgain_66 : decode cX4_sendAgain 66 = .ok (.putfield 24, 3) := by decide +kernel
theorem dX4_sendAgain_69 : decode cX4_sendAgain 69 = .ok (.aload_n 0, 1) := by decide +kernel
theorem dX4_sendAgain_70 : decode cX4_sendAgain 70 = .ok (.iconst 0, 1) := by decide +kernel
theorem dX4_sendAgain_71 : decode cX4_sendAgain 71 = .ok (.putfield 28, 3) := by decide +kernel
theorem dX4_sendAgain_74 : decode cX4_sendAgain 74 = .ok (.iload_n 2, 1) := by decide +kernel
theorem dX4_sendAgain_75 : decode cX4_sendAgain 75 = .ok (.ireturn, 1) := by decide +kernel
theorem dX5_init_0 : decode cX5_init 0 = .ok (.aload_n 0, 1) := by decide +kernel
theorem dX5_init_1 : decode cX5_init 1 = .ok (.invokespecial 1, 3) := by decide +kernel
theorem dX5_init_4 : decode cX5_init 4 = .ok (.aload_n 0, 1) := by decide +kernel
theorem dX5_init_5 : decode cX5_init 5 = .ok (.aload_n 1, 1) := by decide +kernel
theorem dX5_init_6 : decode cX5_init 6 = .ok (.putfield 7, 3) := by decide +kernel
theorem dX5_init_9 : decode cX5_init 9 = .ok (.aload_n 0, 1) := by decide +kernel
theorem dX5_init_10 : decode cX5_init 10 = .ok (.iload_n 2, 1) := by decide +kernel
theorem dX5_init_11 : decode cX5_init 11 = .ok (.putfield 13, 3) := by decide +kernel
theorem dX5_init_14 : decode cX5_init 14 = .ok (.aload_n 0, 1) := by decide +kernel
theorem dX5_init_15 : decode cX5_init 15 = .ok (.iload_n 3, 1) := by decide +kernel
theorem dX5_init_16 : decode cX5_init 16 = .ok (.putfield 17, 3) := by decide +kernel
theorem dX5_init_19 : decode cX5_init 19 = .ok (.return_, 1) := by decide +kernel
theorem dX5_hasLetter_0 : decode cX5_hasLetter 0 = .ok (.iload_n 1, 1) := by decide +kernel
theorem dX5_hasLetter_1 : decode cX5_hasLetter 1 = .ok (.iconst 0, 1) := by decide +kernel
theorem dX5_hasLetter_2 : decode cX5_hasLetter 2 = .ok (.aload_n 0, 1) := by decide +kernel
theorem dX5_hasLetter_3 : decode cX5_hasLetter 3 = .ok (.getfield 7, 3) := by decide +kernel
theorem dX5_hasLetter_6 : decode cX5_hasLetter 6 = .ok (.arraylength, 1) := by decide +kernel
theorem dX5_hasLetter_7 : decode cX5_hasLetter 7 = .ok (.iconst 1, 1) := by decide +kernel
theorem dX5_hasLetter_8 : decode cX5_hasLetter 8 = .ok (.isub, 1) := by decide +kernel
theorem dX5_hasLetter_9 : decode cX5_hasLetter 9 = .ok (.invokestatic 20, 3) := by decide +kernel
theorem dX5_hasLetter_12 : decode cX5_hasLetter 12 = .ok (.ireturn, 1) := by decide +kernel
theorem dX5_stripes_0 : decode cX5_stripes 0 = .ok (.aload_n 0, 1) := by decide +kernel
theorem dX5_stripes_1 : decode cX5_stripes 1 = .ok (.getfield 7, 3) := by decide +kernel
theorem dX5_stripes_4 : decode cX5_stripes 4 = .ok (.arraylength, 1) := by decide +kernel
theorem dX5_stripes_5 : decode cX5_stripes 5 = .ok (.aload_n 0, 1) := by decide +kernel
theorem dX5_stripes_6 : decode cX5_stripes 6 = .ok (.getfield 13, 3) := by decide +kernel
theorem dX5_stripes_9 : decode cX5_stripes 9 = .ok (.invokestatic 26, 3) := by decide +kernel
theorem dX5_stripes_12 : decode cX5_stripes 12 = .ok (.ireturn, 1) := by decide +kernel
theorem dX5_stripeOf_0 : decode cX5_stripeOf 0 = .ok (.aload_n 0, 1) := by decide +kernel
theorem dX5_stripeOf_1 : decode cX5_stripeOf 1 = .ok (.getfield 13, 3) := by decide +kernel
theorem dX5_stripeOf_4 : decode cX5_stripeOf 4 = .ok (.iconst 1, 1) := by decide +kernel
theorem dX5_stripeOf_5 : decode cX5_stripeOf 5 = .ok (.if_icmp .ge 7, 3) := by decide +kernel
theorem dX5_stripeOf_8 : decode cX5_stripeOf 8 = .ok (.iconst 0, 1) := by decide +kernel
theorem dX5_stripeOf_9 : decode cX5_stripeOf 9 = .ok (.goto 9, 3) := by decide +kernel
theorem dX5_stripeOf_12 : decode cX5_stripeOf 12 = .ok (.iload_n 1, 1) := by decide +kernel
theorem dX5_stripeOf_13 : decode cX5_stripeOf 13 = .ok (.aload_n 0, 1) := by decide +kernel
theorem dX5_stripeOf_14 : decode cX5_stripeOf 14 = .ok (.getfield 13, 3) := by decide +kernel
theorem dX5_stripeOf_17 : decode cX5_stripeOf 17 = .ok (.idiv, 1) := by decide +kernel
theorem dX5_stripeOf_18 : decode cX5_stripeOf 18 = .ok (.ireturn, 1) := by decide +kernel
theorem dX5_placeInStripe_0 : decode cX5_placeInStripe 0 = .ok (.aload_n 0, 1) := by decide +kernel
theorem dX5_placeInStripe_1 : decode cX5_placeInStripe 1 = .ok (.getfield 13, 3) := by decide +kernel
theorem dX5_placeInStripe_4 : decode cX5_placeInStripe 4 = .ok (.iconst 1, 1) := by decide +kernel
theorem dX5_placeInStripe_5 : decode cX5_placeInStripe 5 = .ok (.if_icmp .ge 7, 3) := by decide +kernel
theorem dX5_placeInStripe_8 : decode cX5_placeInStripe 8 = .ok (.iconst 0, 1) := by decide +kernel
theorem dX5_placeInStripe_9 : decode cX5_placeInStripe 9 = .ok (.goto 9, 3) := by decide +kernel
theorem dX5_placeInStripe_12 : decode cX5_placeInStripe 12 = .ok (.iload_n 1, 1) := by decide +kernel
theorem dX5_placeInStripe_13 : decode cX5_placeInStripe 13 = .ok (.aload_n 0, 1) := by decide +kernel
theorem dX5_placeInStripe_14 : decode cX5_placeInStripe 14 = .ok (.getfield 13, 3) := by decide +kernel
theorem dX5_placeInStripe_17 : decode cX5_placeInStripe 17 = .ok (.irem, 1) := by decide +kernel
theorem dX5_placeInStripe_18 : decode cX5_placeInStripe 18 = .ok (.ireturn, 1) := by decide +kernel
theorem dX6_init_0 : decode cX6_init 0 = .ok (.aload_n 0, 1) := by decide +kernel
theorem dX6_init_1 : decode cX6_init 1 = .ok (.invokespecial 3, 3) := by decide +kernel
theorem dX6_init_4 : decode cX6_init 4 = .ok (.aload_n 0, 1) := by decide +kernel
theorem dX6_init_5 : decode cX6_init 5 = .ok (.bipush 7, 2) := by decide +kernel
theorem dX6_init_7 : decode cX6_init 7 = .ok (.bipush 41, 2) := by decide +kernel
theorem dX6_init_9 : decode cX6_init 9 = .ok (.multianewarray 9 2, 4) := by decide +kernel
theorem dX6_init_13 : decode cX6_init 13 = .ok (.putfield 11, 3) := by decide +kernel
theorem dX6_init_16 : decode cX6_init 16 = .ok (.aload_n 0, 1) := by decide +kernel
theorem dX6_init_17 : decode cX6_init 17 = .ok (.bipush 6, 2) := by decide +kernel
theorem dX6_init_19 : decode cX6_init 19 = .ok (.newarray .int, 2) := by decide +kernel
theorem dX6_init_21 : decode cX6_init 21 = .ok (.putfield 16, 3) := by decide +kernel
theorem dX6_init_24 : decode cX6_init 24 = .ok (.return_, 1) := by decide +kernel
theorem dX6_makePlan_0 : decode cX6_makePlan 0 = .ok (.aload_n 1, 1) := by decide +kernel
theorem dX6_makePlan_1 : decode cX6_makePlan 1 = .ok (.getfield 20, 3) := by decide +kernel
theorem dX6_makePlan_4 : decode cX6_makePlan 4 = .ok (.istore_n 2, 1) := by decide +kernel
theorem dX6_makePlan_5 : decode cX6_makePlan 5 = .ok (.iconst 0, 1) := by decide +kernel
theorem dX6_makePlan_6 : decode cX6_makePlan 6 = .ok (.istore_n 3, 1) := by decide +kernel
theorem dX6_makePlan_7 : decode cX6_makePlan 7 = .ok (.iload_n 3, 1) := by decide +kernel
theorem dX6_makePlan_8 : decode cX6_makePlan 8 = .ok (.bipush 40, 2) := by decide +kernel
theorem dX6_makePlan_10 : decode cX6_makePlan 10 = .ok (.if_icmp .gt 18, 3) := by decide +kernel
theorem dX6_makePlan_13 : decode cX6_makePlan 13 = .ok (.aload_n 0, 1) := by decide +kernel
theorem dX6_makePlan_14 : decode cX6_makePlan 14 = .ok (.getfield 11, 3) := by decide +kernel
theorem dX6_makePlan_17 : decode cX6_makePlan 17 = .ok (.iload_n 2, 1) := by decide +kernel
theorem dX6_makePlan_18 : decode cX6_makePlan 18 = .ok (.aaload, 1) := by decide +kernel
theorem dX6_makePlan_19 : decode cX6_makePlan 19 = .ok (.iload_n 3, 1) := by decide +kernel
theorem dX6_makePlan_20 : decode cX6_makePlan 20 = .ok (.iconst 0, 1) := by decide +kernel
theorem dX6_makePlan_21 : decode cX6_makePlan 21 = .ok (.iastore, 1) := by decide +kernel
theorem dX6_makePlan_22 : decode cX6_makePlan 22 = .ok (.iinc 3 1, 3) := by decide +kernel
theorem dX6_makePlan_25 : decode cX6_makePlan 25 = .ok (.goto (-18), 3) := by decide +kernel
theorem dX6_makePlan_28 : decode cX6_makePlan 28 = .ok (.iload_n 2, 1) := by decide +kernel
theorem dX6_makePlan_29 : decode cX6_makePlan 29 = .ok (.iconst 1, 1) := by decide +kernel
theorem dX6_makePlan_30 : decode cX6_makePlan 30 = .ok (.isub, 1) := by decide +kernel
theorem dX6_makePlan_31 : decode cX6_makePlan 31 = .ok (.istore_n 3, 1) := by decide +kernel
theorem dX6_makePlan_32 : decode cX6_makePlan 32 = .ok (.iload_n 3, 1) := by decide +kernel
theorem dX6_makePlan_33 : decode cX6_makePlan 33 = .ok (.ifCond .lt 44, 3) := by decide +kernel
theorem dX6_makePlan_36 : decode cX6_makePlan 36 = .ok (.iconst 0, 1) := by decide +kernel
theorem dX6_makePlan_37 : decode cX6_makePlan 37 = .ok (.istore 4, 2) := by decide +kernel
theorem dX6_makePlan_39 : decode cX6_makePlan 39 = .ok (.iload 4, 2) := by decide +kernel
theorem dX6_makePlan_41 : decode cX6_makePlan 41 = .ok (.aload_n 1, 1) := by decide +kernel
theorem dX6_makePlan_42 : decode cX6_makePlan 42 = .ok (.getfield 26, 3) := by decide +kernel
theorem dX6_makePlan_45 : decode cX6_makePlan 45 = .ok (.if_icmp .gt 26, 3) := by decide +kernel
theorem dX6_makePlan_48 : decode cX6_makePlan 48 = .ok (.aload_n 0, 1) := by decide +kernel
theorem dX6_makePlan_49 : decode cX6_makePlan 49 = .ok (.getfield 11, 3) := by decide +kernel
theorem dX6_makePlan_52 : decode cX6_makePlan 52 = .ok (.iload_n 3, 1) := by decide +kernel
theorem dX6_makePlan_53 : decode cX6_makePlan 53 = .ok (.aaload, 1) := by decide +kernel
theorem dX6_makePlan_54 : decode cX6_makePlan 54 = .ok (.iload 4, 2) := by decide +kernel
theorem dX6_makePlan_56 : decode cX6_makePlan 56 = .ok (.aload_n 0, 1) := by decide +kernel
theorem dX6_makePlan_57 : decode cX6_makePlan 57 = .ok (.aload_n 1, 1) := by decide +kernel
theorem dX6_makePlan_58 : decode cX6_makePlan 58 = .ok (.iload_n 3, 1) := by decide +kernel
theorem dX6_makePlan_59 : decode cX6_makePlan 59 = .ok (.iload 4, 2) := by decide +kernel
theorem dX6_makePlan_61 : decode cX6_makePlan 61 = .ok (.invokevirtual 29, 3) := by decide +kernel
theorem dX6_makePlan_64 : decode cX6_makePlan 64 = .ok (.iastore, 1) := by decide +kernel
theorem dX6_makePlan_65 : decode cX6_makePlan 65 = .ok (.iinc 4 1, 3) := by decide +kernel
theorem dX6_makePlan_68 : decode cX6_makePlan 68 = .ok (.goto (-29), 3) := by decide +kernel
theorem dX6_makePlan_71 : decode cX6_makePlan 71 = .ok (.iinc 3 (-1), 3) := by decide +kernel
theorem dX6_makePlan_74 : decode cX6_makePlan 74 = .ok (.goto (-42), 3) := by decide +kernel
theorem dX6_makePlan_77 : decode cX6_makePlan 77 = .ok (.aload_n 0, 1) := by decide +kernel
theorem dX6_makePlan_78 : decode cX6_makePlan 78 = .ok (.aload_n 0, 1) := by decide +kernel
theorem dX6_makePlan_79 : decode cX6_makePlan 79 = .ok (.getfield 11, 3) := by decide +kernel
theorem dX6_makePlan_82 : decode cX6_makePlan 82 = .ok (.iconst 0, 1) := by decide +kernel
theorem dX6_makePlan_83 : decode cX6_makePlan 83 = .ok (.aaload, 1) := by decide +kernel
theorem dX6_makePlan_84 : decode cX6_makePlan 84 = .ok (.aload_n 1, 1) := by decide +kernel
theorem dX6_makePlan_85 : decode cX6_makePlan 85 = .ok (.getfield 26, 3) := by decide +kernel
theorem dX6_makePlan_88 : decode cX6_makePlan 88 = .ok (.iaload, 1) := by decide +kernel
theorem dX6_makePlan_89 : decode cX6_makePlan 89 = .ok (.putfield 33, 3) := by decide +kernel
theorem dX6_makePlan_92 : decode cX6_makePlan 92 = .ok (.aload_n 0, 1) := by decide +kernel
theorem dX6_makePlan_93 : decode cX6_makePlan 93 = .ok (.getfield 33, 3) := by decide +kernel
theorem dX6_makePlan_96 : decode cX6_makePlan 96 = .ok (.ldc 36, 2) := by decide +kernel
theorem dX6_makePlan_98 : decode cX6_makePlan 98 = .ok (.if_icmp .lt 5, 3) := by decide +kernel
theorem dX6_makePlan_101 : decode cX6_makePlan 101 = .ok (.iconst 0, 1) := by decide +kernel
theorem dX6_makePlan_102 : decode cX6_makePlan 102 = .ok (.ireturn, 1) := by decide +kernel
theorem dX6_makePlan_103 : decode cX6_makePlan 103 = .ok (.aload_n 0, 1) := by decide +kernel
theorem dX6_makePlan_104 : decode cX6_makePlan 104 = .ok (.aload_n 1, 1) := by decide +kernel
theorem dX6_makePlan_105 : decode cX6_makePlan 105 = .ok (.invokevirtual 37, 3) := by decide +kernel
theorem dX6_makePlan_108 : decode cX6_makePlan 108 = .ok (.iconst 1, 1) := by decide +kernel
theorem dX6_makePlan_109 : decode cX6_makePlan 109 = .ok (.ireturn, 1) := by decide +kernel
theorem dX6_leastFrom_0 : decode cX6_leastFrom 0 = .ok (.ldc 36, 2) := by decide +kernel
theorem dX6_leastFrom_2 : decode cX6_leastFrom 2 = .ok (.istore 4, 2) := by decide +kernel
theorem dX6_leastFrom_4 : decode cX6_leastFrom 4 = .ok (.iconst 1, 1) := by decide +kernel
theorem dX6_leastFrom_5 : decode cX6_leastFrom 5 = .ok (.istore 5, 2) := by decide +kernel
theorem dX6_leastFrom_7 : decode cX6_leastFrom 7 = .ok (.iload 5, 2) := by decide +kernel
theorem dX6_leastFrom_9 : decode cX6_leastFrom 9 = .ok (.aload_n 1, 1) := by decide +kernel
theorem dX6_leastFrom_10 : decode cX6_leastFrom 10 = .ok (.getfield 41, 3) := by decide +kernel
theorem dX6_leastFrom_13 : decode cX6_leastFrom 13 = .ok (.if_icmp .gt 30, 3) := by decide +kernel
theorem dX6_leastFrom_16 : decode cX6_leastFrom 16 = .ok (.iload 4, 2) := by decide +kernel
theorem dX6_leastFrom_18 : decode cX6_leastFrom 18 = .ok (.aload_n 0, 1) := by decide +kernel
theorem dX6_leastFrom_19 : decode cX6_leastFrom 19 = .ok (.aload_n 1, 1) := by decide +kernel
theorem dX6_leastFrom_20 : decode cX6_leastFrom 20 = .ok (.getfield 44, 3) := by decide +kernel
theorem dX6_leastFrom_23 : decode cX6_leastFrom 23 = .ok (.iload_n 2, 1) := by decide +kernel
theorem dX6_leastFrom_24 : decode cX6_leastFrom 24 = .ok (.aaload, 1) := by decide +kernel
theorem dX6_leastFrom_25 : decode cX6_leastFrom 25 = .ok (.iload 5, 2) := by decide +kernel
theorem dX6_leastFrom_27 : decode cX6_leastFrom 27 = .ok (.iload_n 2, 1) := by decide +kernel
theorem dX6_leastFrom_28 : decode cX6_leastFrom 28 = .ok (.iload_n 3, 1) := by decide +kernel
theorem dX6_leastFrom_29 : decode cX6_leastFrom 29 = .ok (.invokevirtual 48, 3) := by decide +kernel
theorem dX6_leastFrom_32 : decode cX6_leastFrom 32 = .ok (.invokestatic 52, 3) := by decide +kernel
theorem dX6_leastFrom_35 : decode cX6_leastFrom 35 = .ok (.istore 4, 2) := by decide +kernel
theorem dX6_leastFrom_37 : decode cX6_leastFrom 37 = .ok (.iinc 5 1, 3) := by decide +kernel
theorem dX6_leastFrom_40 : decode cX6_leastFrom 40 = .ok (.goto (-33), 3) := by decide +kernel
theorem dX6_leastFrom_43 : decode cX6_leastFrom 43 = .ok (.iload 4, 2) := by decide +kernel
theorem dX6_leastFrom_45 : decode cX6_leastFrom 45 = .ok (.ireturn, 1) := by decide +kernel
theorem dX6_costWith_0 : decode cX6_costWith 0 = .ok (.iload 4, 2) := by decide +kernel
theorem dX6_costWith_2 : decode cX6_costWith 2 = .ok (.aload_n 1, 1) := by decide +kernel
theorem dX6_costWith_3 : decode cX6_costWith 3 = .ok (.getfield 58, 3) := by decide +kernel
theorem dX6_costWith_6 : decode cX6_costWith 6 = .ok (.arraylength, 1) := by decide +kernel
theorem dX6_costWith_7 : decode cX6_costWith 7 = .ok (.iload_n 2, 1) := by decide +kernel
theorem dX6_costWith_8 : decode cX6_costWith 8 = .ok (.invokestatic 63, 3) := by decide +kernel
theorem dX6_costWith_11 : decode cX6_costWith 11 = .ok (.isub, 1) := by decide +kernel
theorem dX6_costWith_12 : decode cX6_costWith 12 = .ok (.istore 5, 2) := by decide +kernel
theorem dX6_costWith_14 : decode cX6_costWith 14 = .ok (.iload 5, 2) := by decide +kernel
theorem dX6_costWith_16 : decode cX6_costWith 16 = .ok (.ifCond .ge 8, 3) := by decide +kernel
theorem dX6_costWith_19 : decode cX6_costWith 19 = .ok (.ldc 36, 2) := by decide +kernel
theorem dX6_costWith_21 : decode cX6_costWith 21 = .ok (.goto 26, 3) := by decide +kernel
theorem dX6_costWith_24 : decode cX6_costWith 24 = .ok (.ldc 36, 2) := by decide +kernel
theorem dX6_costWith_26 : decode cX6_costWith 26 = .ok (.aload_n 1, 1) := by decide +kernel
theorem dX6_costWith_27 : decode cX6_costWith 27 = .ok (.getfield 66, 3) := by decide +kernel
theorem dX6_costWith_30 : decode cX6_costWith 30 = .ok (.iload_n 2, 1) := by decide +kernel
theorem dX6_costWith_31 : decode cX6_costWith 31 = .ok (.imul, 1) := by decide +kernel
theorem dX6_costWith_32 : decode cX6_costWith 32 = .ok (.aload_n 0, 1) := by decide +kernel
theorem dX6_costWith_33 : decode cX6_costWith 33 = .ok (.getfield 11, 3) := by decide +kernel
theorem dX6_costWith_36 : decode cX6_costWith 36 = .ok (.iload_n 3, 1) := by decide +kernel
theorem dX6_costWith_37 : decode cX6_costWith 37 = .ok (.iconst 1, 1) := by decide +kernel
theorem dX6_costWith_38 : decode cX6_costWith 38 = .ok (.iadd, 1) := by decide +kernel
theorem dX6_costWith_39 : decode cX6_costWith 39 = .ok (.aaload, 1) := by decide +kernel
theorem dX6_costWith_40 : decode cX6_costWith 40 = .ok (.iload 5, 2) := by decide +kernel
theorem dX6_costWith_42 : decode cX6_costWith 42 = .ok (.iaload, 1) := by decide +kernel
theorem dX6_costWith_43 : decode cX6_costWith 43 = .ok (.iadd, 1) := by decide +kernel
theorem dX6_costWith_44 : decode cX6_costWith 44 = .ok (.invokestatic 52, 3) := by decide +kernel
theorem dX6_costWith_47 : decode cX6_costWith 47 = .ok (.ireturn, 1) := by decide +kernel
theorem dX6_chooseNeeds_0 : decode cX6_chooseNeeds 0 = .ok (.aload_n 1, 1) := by decide +kernel
theorem dX6_chooseNeeds_1 : decode cX6_chooseNeeds 1 = .ok (.getfield 26, 3) := by decide +kernel
theorem dX6_chooseNeeds_4 : decode cX6_chooseNeeds 4 = .ok (.istore_n 2, 1) := by decide +kernel
theorem dX6_chooseNeeds_5 : decode cX6_chooseNeeds 5 = .ok (.iconst 0, 1) := by decide +kernel
theorem dX6_chooseNeeds_6 : decode cX6_chooseNeeds 6 = .ok (.istore_n 3, 1) := by decide +kernel
theorem dX6_chooseNeeds_7 : decode cX6_chooseNeeds 7 = .ok (.iload_n 3, 1) := by decide +kernel
theorem dX6_chooseNeeds_8 : decode cX6_chooseNeeds 8 = .ok (.aload_n 1, 1) := by decide +kernel
theorem dX6_chooseNeeds_9 : decode cX6_chooseNeeds 9 = .ok (.getfield 20, 3) := by decide +kernel
theorem dX6_chooseNeeds_12 : decode cX6_chooseNeeds 12 = .ok (.if_icmp .ge 82, 3) := by decide +kernel
theorem dX6_chooseNeeds_15 : decode cX6_chooseNeeds 15 = .ok (.iconst 1, 1) := by decide +kernel
theorem dX6_chooseNeeds_16 : decode cX6_chooseNeeds 16 = .ok (.istore 4, 2) := by decide +kernel
theorem dX6_chooseNeeds_18 : decode cX6_chooseNeeds 18 = .ok (.iload 4, 2) := by decide +kernel
theorem dX6_chooseNeeds_20 : decode cX6_chooseNeeds 20 = .ok (.aload_n 1, 1) := by decide +kernel
theorem dX6_chooseNeeds_21 : decode cX6_chooseNeeds 21 = .ok (.getfield 41, 3) := by decide +kernel
theorem dX6_chooseNeeds_24 : decode cX6_chooseNeeds 24 = .ok (.if_icmp .ge 34, 3) := by decide +kernel
theorem dX6_chooseNeeds_27 : decode cX6_chooseNeeds 27 = .ok (.aload_n 0, 1) := by decide +kernel
theorem dX6_chooseNeeds_28 : decode cX6_chooseNeeds 28 = .ok (.aload_n 1, 1) := by decide +kernel
theorem dX6_chooseNeeds_29 : decode cX6_chooseNeeds 29 = .ok (.getfield 44, 3) := by decide +kernel
theorem dX6_chooseNeeds_32 : decode cX6_chooseNeeds 32 = .ok (.iload_n 3, 1) := by decide +kernel
theorem dX6_chooseNeeds_33 : decode cX6_chooseNeeds 33 = .ok (.aaload, 1) := by decide +kernel
theorem dX6_chooseNeeds_34 : decode cX6_chooseNeeds 34 = .ok (.iload 4, 2) := by decide +kernel
theorem dX6_chooseNeeds_36 : decode cX6_chooseNeeds 36 = .ok (.iload_n 3, 1) := by decide +kernel
theorem dX6_chooseNeeds_37 : decode cX6_chooseNeeds 37 = .ok (.iload_n 2, 1) := by decide +kernel
theorem dX6_chooseNeeds_38 : decode cX6_chooseNeeds 38 = .ok (.invokevirtual 48, 3) := by decide +kernel
theorem dX6_chooseNeeds_41 : decode cX6_chooseNeeds 41 = .ok (.aload_n 0, 1) := by decide +kernel
theorem dX6_chooseNeeds_42 : decode cX6_chooseNeeds 42 = .ok (.getfield 11, 3) := by decide +kernel
theorem dX6_chooseNeeds_45 : decode cX6_chooseNeeds 45 = .ok (.iload_n 3, 1) := by decide +kernel
theorem dX6_chooseNeeds_46 : decode cX6_chooseNeeds 46 = .ok (.aaload, 1) := by decide +kernel
theorem dX6_chooseNeeds_47 : decode cX6_chooseNeeds 47 = .ok (.iload_n 2, 1) := by decide +kernel
theorem dX6_chooseNeeds_48 : decode cX6_chooseNeeds 48 = .ok (.iaload, 1) := by decide +kernel
theorem dX6_chooseNeeds_49 : decode cX6_chooseNeeds 49 = .ok (.if_icmp .eq 9, 3) := by decide +kernel
theorem dX6_chooseNeeds_52 : decode cX6_chooseNeeds 52 = .ok (.iinc 4 1, 3) := by decide +kernel
theorem dX6_chooseNeeds_55 : decode cX6_chooseNeeds 55 = .ok (.goto (-37), 3) := by decide +kernel
theorem dX6_chooseNeeds_58 : decode cX6_chooseNeeds 58 = .ok (.aload_n 0, 1) := by decide +kernel
theorem dX6_chooseNeeds_59 : decode cX6_chooseNeeds 59 = .ok (.getfield 16, 3) := by decide +kernel
theorem dX6_chooseNeeds_62 : decode cX6_chooseNeeds 62 = .ok (.iload_n 3, 1) := by decide +kernel
theorem dX6_chooseNeeds_63 : decode cX6_chooseNeeds 63 = .ok (.iload 4, 2) := by decide +kernel
theorem dX6_chooseNeeds_65 : decode cX6_chooseNeeds 65 = .ok (.iastore, 1) := by decide +kernel
theorem dX6_chooseNeeds_66 : decode cX6_chooseNeeds 66 = .ok (.iconst 0, 1) := by decide +kernel
theorem dX6_chooseNeeds_67 : decode cX6_chooseNeeds 67 = .ok (.iload_n 2, 1) := by decide +kernel
theorem dX6_chooseNeeds_68 : decode cX6_chooseNeeds 68 = .ok (.aload_n 1, 1) := by decide +kernel
theorem dX6_chooseNeeds_69 : decode cX6_chooseNeeds 69 = .ok (.getfield 44, 3) := by decide +kernel
theorem dX6_chooseNeeds_72 : decode cX6_chooseNeeds 72 = .ok (.iload_n 3, 1) := by decide +kernel
theorem dX6_chooseNeeds_73 : decode cX6_chooseNeeds 73 = .ok (.aaload, 1) := by decide +kernel
theorem dX6_chooseNeeds_74 : decode cX6_chooseNeeds 74 = .ok (.getfield 58, 3) := by decide +kernel
theorem dX6_chooseNeeds_77 : decode cX6_chooseNeeds 77 = .ok (.arraylength, 1) := by decide +kernel
theorem dX6_chooseNeeds_78 : decode cX6_chooseNeeds 78 = .ok (.iload 4, 2) := by decide +kernel
theorem dX6_chooseNeeds_80 : decode cX6_chooseNeeds 80 = .ok (.invokestatic 63, 3) := by decide +kernel
theorem dX6_chooseNeeds_83 : decode cX6_chooseNeeds 83 = .ok (.isub, 1) := by decide +kernel
theorem dX6_chooseNeeds_84 : decode cX6_chooseNeeds 84 = .ok (.invokestatic 69, 3) := by decide +kernel
theorem dX6_chooseNeeds_87 : decode cX6_chooseNeeds 87 = .ok (.istore_n 2, 1) := by decide +kernel
theorem dX6_chooseNeeds_88 : decode cX6_chooseNeeds 88 = .ok (.iinc 3 1, 3) := by decide +kernel
theorem dX6_chooseNeeds_91 : decode cX6_chooseNeeds 91 = .ok (.goto (-84), 3) := by decide +kernel
theorem dX6_chooseNeeds_94 : decode cX6_chooseNeeds 94 = .ok (.return_, 1) := by decide +kernel
theorem dX7_init_0 : decode cX7_init 0 = .ok (.aload_n 0, 1) := by decide +kernel
theorem dX7_init_1 : decode cX7_init 1 = .ok (.invokespecial 3, 3) := by decide +kernel
theorem dX7_init_4 : decode cX7_init 4 = .ok (.aload_n 0, 1) := by decide +kernel
theorem dX7_init_5 : decode cX7_init 5 = .ok (.aload_n 1, 1) := by decide +kernel
theorem dX7_init_6 : decode cX7_init 6 = .ok (.putfield 9, 3) := by decide +kernel
theorem dX7_init_9 : decode cX7_init 9 = .ok (.aload_n 0, 1) := by decide +kernel
theorem dX7_init_10 : decode cX7_init 10 = .ok (.bipush 24, 2) := by decide +kernel
theorem dX7_init_12 : decode cX7_init 12 = .ok (.anewarray 15, 3) := by decide +kernel
theorem dX7_init_15 : decode cX7_init 15 = .ok (.putfield 17, 3) := by decide +kernel
theorem dX7_init_18 : decode cX7_init 18 = .ok (.iconst 0, 1) := by decide +kernel
theorem dX7_init_19 : decode cX7_init 19 = .ok (.istore_n 2, 1) := by decide +kernel
theorem dX7_init_20 : decode cX7_init 20 = .ok (.iload_n 2, 1) := by decide +kernel
theorem dX7_init_21 : decode cX7_init 21 = .ok (.bipush 24, 2) := by decide +kernel
theorem dX7_init_23 : decode cX7_init 23 = .ok (.if_icmp .ge 22, 3) := by decide +kernel
theorem dX7_init_26 : decode cX7_init 26 = .ok (.aload_n 0, 1) := by decide +kernel
theorem dX7_init_27 : decode cX7_init 27 = .ok (.getfield 17, 3) := by decide +kernel
theorem dX7_init_30 : decode cX7_init 30 = .ok (.iload_n 2, 1) := by decide +kernel
theorem dX7_init_31 : decode cX7_init 31 = .ok (.new 15, 3) := by decide +kernel
theorem dX7_init_34 : decode cX7_init 34 = .ok (.dup, 1) := by decide +kernel
theorem dX7_init_35 : decode cX7_init 35 = .ok (.invokespecial 21, 3) := by decide +kernel
theorem dX7_init_38 : decode cX7_init 38 = .ok (.aastore, 1) := by decide +kernel
theorem dX7_init_39 : decode cX7_init 39 = .ok (.iinc 2 1, 3) := by decide +kernel
theorem dX7_init_42 : decode cX7_init 42 = .ok (.goto (-22), 3) := by decide +kernel
theorem dX7_init_45 : decode cX7_init 45 = .ok (.return_, 1) := by decide +kernel
theorem dX7_firstFault_0 : decode cX7_firstFault 0 = .ok (.aload_n 0, 1) := by decide +kernel
theorem dX7_firstFault_1 : decode cX7_firstFault 1 = .ok (.iconst 0, 1) := by decide +kernel
theorem dX7_firstFault_2 : decode cX7_firstFault 2 = .ok (.putfield 22, 3) := by decide +kernel
theorem dX7_firstFault_5 : decode cX7_firstFault 5 = .ok (.aload_n 0, 1) := by decide +kernel
theorem dX7_firstFault_6 : decode cX7_firstFault 6 = .ok (.iconst 0, 1) := by decide +kernel
theorem dX7_firstFault_7 : decode cX7_firstFault 7 = .ok (.putfield 26, 3) := by decide +kernel
theorem dX7_firstFault_10 : decode cX7_firstFault 10 = .ok (.aload_n 0, 1) := by decide +kernel
theorem dX7_firstFault_11 : decode cX7_firstFault 11 = .ok (.iload_n 1, 1) := by decide +kernel
theorem dX7_firstFault_12 : decode cX7_firstFault 12 = .ok (.putfield 29, 3) := by decide +kernel
theorem dX7_firstFault_15 : decode cX7_firstFault 15 = .ok (.iconst 0, 1) := by decide +kernel
theorem dX7_firstFault_16 : decode cX7_firstFault 16 = .ok (.istore_n 2, 1) := by decide +kernel
theorem dX7_firstFault_17 : decode cX7_firstFault 17 = .ok (.iload_n 2, 1) := by decide +kernel
theorem dX7_firstFault_18 : decode cX7_firstFault 18 = .ok (.bipush 24, 2) := by decide +kernel
theorem dX7_firstFault_20 : decode cX7_firstFault 20 = .ok (.if_icmp .ge 71, 3) := by decide +kernel
theorem dX7_firstFault_23 : decode cX7_firstFault 23 = .ok (.aload_n 0, 1) := by decide +kernel
theorem dX7_firstFault_24 : decode cX7_firstFault 24 = .ok (.aload_n 0, 1) := by decide +kernel
theorem dX7_firstFault_25 : decode cX7_firstFault 25 = .ok (.getfield 17, 3) := by decide +kernel
theorem dX7_firstFault_28 : decode cX7_firstFault 28 = .ok (.iload_n 2, 1) := by decide +kernel
theorem dX7_firstFault_29 : decode cX7_firstFault 29 = .ok (.aaload, 1) := by decide +kernel
theorem dX7_firstFault_30 : decode cX7_firstFault 30 = .ok (.invokevirtual 32, 3) := by decide +kernel
theorem dX7_firstFault_33 : decode cX7_firstFault 33 = .ok (.ifCond .ne 8, 3) := by decide +kernel
theorem dX7_firstFault_36 : decode cX7_firstFault 36 = .ok (.aload_n 0, 1) := by decide +kernel
theorem dX7_firstFault_37 : decode cX7_firstFault 37 = .ok (.getfield 36, 3) := by decide +kernel
theorem dX7_firstFault_40 : decode cX7_firstFault 40 = .ok (.ireturn, 1) := by decide +kernel
theorem dX7_firstFault_41 : decode cX7_firstFault 41 = .ok (.aload_n 0, 1) := by decide +kernel
theorem dX7_firstFault_42 : decode cX7_firstFault 42 = .ok (.dup, 1) := by decide +kernel
theorem dX7_firstFault_43 : decode cX7_firstFault 43 = .ok (.getfield 26, 3) := by decide +kernel
theorem dX7_firstFault_46 : decode cX7_firstFault 46 = .ok (.iconst 1, 1) := by decide +kernel
theorem dX7_firstFault_47 : decode cX7_firstFault 47 = .ok (.iadd, 1) := by decide +kernel
theorem dX7_firstFault_48 : decode cX7_firstFault 48 = .ok (.putfield 26, 3) := by decide +kernel
theorem dX7_firstFault_51 : decode cX7_firstFault 51 = .ok (.aload_n 0, 1) := by decide +kernel
theorem dX7_firstFault_52 : decode cX7_firstFault 52 = .ok (.invokevirtual 39, 3) := by decide +kernel
theorem dX7_firstFault_55 : decode cX7_firstFault 55 = .ok (.aload_n 0, 1) := by decide +kernel
theorem dX7_firstFault_56 : decode cX7_firstFault 56 = .ok (.getfield 42, 3) := by decide +kernel
theorem dX7_firstFault_59 : decode cX7_firstFault 59 = .ok (.ifCond .ne 5, 3) := by decide +kernel
theorem dX7_firstFault_62 : decode cX7_firstFault 62 = .ok (.iconst (-1), 1) := by decide +kernel
theorem dX7_firstFault_63 : decode cX7_firstFault 63 = .ok (.ireturn, 1) := by decide +kernel
theorem dX7_firstFault_64 : decode cX7_firstFault 64 = .ok (.aload_n 0, 1) := by decide +kernel
theorem dX7_firstFault_65 : decode cX7_firstFault 65 = .ok (.getfield 9, 3) := by decide +kernel
theorem dX7_firstFault_68 : decode cX7_firstFault 68 = .ok (.aload_n 0, 1) := by decide +kernel
theorem dX7_firstFault_69 : decode cX7_firstFault 69 = .ok (.getfield 36, 3) := by decide +kernel
theorem dX7_firstFault_72 : decode cX7_firstFault 72 = .ok (.bipush 59, 2) := by decide +kernel
theorem dX7_firstFault_74 : decode cX7_firstFault 74 = .ok (.invokevirtual 45, 3) := by decide +kernel
theorem dX7_firstFault_77 : decode cX7_firstFault 77 = .ok (.ifCond .ne 8, 3) := by decide +kernel
theorem dX7_firstFault_80 : decode cX7_firstFault 80 = .ok (.aload_n 0, 1) := by decide +kernel
theorem dX7_firstFault_81 : decode cX7_firstFault 81 = .ok (.getfield 36, 3) := by decide +kernel
theorem dX7_firstFault_84 : decode cX7_firstFault 84 = .ok (.ireturn, 1) := by decide +kernel
theorem dX7_firstFault_85 : decode cX7_firstFault 85 = .ok (.iinc 2 1, 3) := by decide +kernel
theorem dX7_firstFault_88 : decode cX7_firstFault 88 = .ok (.goto (-71), 3) := by decide +kernel
theorem dX7_firstFault_91 : decode cX7_firstFault 91 = .ok (.aload_n 0, 1) := by decide +kernel
theorem dX7_firstFault_92 : decode cX7_firstFault 92 = .ok (.getfield 36, 3) := by decide +kernel
theorem dX7_firstFault_95 : decode cX7_firstFault 95 = .ok (.ireturn, 1) := by decide +kernel
theorem dX7_takeClause_0 : decode cX7_takeClause 0 = .ok (.aload_n 0, 1) := by decide +kernel
theorem dX7_takeClause_1 : decode cX7_takeClause 1 = .ok (.invokevirtual 39, 3) := by decide +kernel
theorem dX7_takeClause_4 : decode cX7_takeClause 4 = .ok (.aload_n 0, 1) := by decide +kernel
theorem dX7_takeClause_5 : decode cX7_takeClause 5 = .ok (.getfield 9, 3) := by decide +kernel
theorem dX7_takeClause_8 : decode cX7_takeClause 8 = .ok (.aload_n 0, 1) := by decide +kernel
theorem dX7_takeClause_9 : decode cX7_takeClause 9 = .ok (.getfield 36, 3) := by decide +kernel
theorem dX7_takeClause_12 : decode cX7_takeClause 12 = .ok (.aload_n 0, 1) := by decide +kernel
theorem dX7_takeClause_13 : decode cX7_takeClause 13 = .ok (.getfield 22, 3) := by decide +kernel
theorem dX7_takeClause_16 : decode cX7_takeClause 16 = .ok (.ldc 51, 2) := by decide +kernel
theorem dX7_takeClause_18 : decode cX7_takeClause 18 = .ok (.invokevirtual 53, 3) := by decide +kernel
theorem dX7_takeClause_21 : decode cX7_takeClause 21 = .ok (.ifCond .eq 15, 3) := by decide +kernel
theorem dX7_takeClause_24 : decode cX7_takeClause 24 = .ok (.aload_n 1, 1) := by decide +kernel
theorem dX7_takeClause_25 : decode cX7_takeClause 25 = .ok (.iconst 0, 1) := by decide +kernel
theorem dX7_takeClause_26 : decode cX7_takeClause 26 = .ok (.putfield 57, 3) := by decide +kernel
theorem dX7_takeClause_29 : decode cX7_takeClause 29 = .ok (.aload_n 0, 1) := by decide +kernel
theorem dX7_takeClause_30 : decode cX7_takeClause 30 = .ok (.iconst 0, 1) := by decide +kernel
theorem dX7_takeClause_31 : decode cX7_takeClause 31 = .ok (.putfield 29, 3) := by decide +kernel
theorem dX7_takeClause_34 : decode cX7_takeClause 34 = .ok (.iconst 1, 1) := by decide +kernel
theorem dX7_takeClause_35 : decode cX7_takeClause 35 = .ok (.ireturn, 1) := by decide +kernel
theorem dX7_takeClause_36 : decode cX7_takeClause 36 = .ok (.aload_n 0, 1) := by decide +kernel
theorem dX7_takeClause_37 : decode cX7_takeClause 37 = .ok (.getfield 9, 3) := by decide +kernel
theorem dX7_takeClause_40 : decode cX7_takeClause 40 = .ok (.aload_n 0, 1) := by decide +kernel
theorem dX7_takeClause_41 : decode cX7_takeClause 41 = .ok (.getfield 36, 3) := by decide +kernel
theorem dX7_takeClause_44 : decode cX7_takeClause 44 = .ok (.aload_n 0, 1) := by decide +kernel
theorem dX7_takeClause_45 : decode cX7_takeClause 45 = .ok (.getfield 22, 3) := by decide +kernel
theorem dX7_takeClause_48 : decode cX7_takeClause 48 = .ok (.ldc 60, 2) := by decide +kernel
theorem dX7_takeClause_50 : decode cX7_takeClause 50 = .ok (.invokevirtual 53, 3) := by decide +kernel
theorem dX7_takeClause_53 : decode cX7_takeClause 53 = .ok (.ifCond .eq 16, 3) := by decide +kernel
theorem dX7_takeClause_56 : decode cX7_takeClause 56 = .ok (.aload_n 1, 1) := by decide +kernel
theorem dX7_takeClause_57 : decode cX7_takeClause 57 = .ok (.iconst 1, 1) := by decide +kernel
theorem dX7_takeClause_58 : decode cX7_takeClause 58 = .ok (.putfield 57, 3) := by decide +kernel
theorem dX7_takeClause_61 : decode cX7_takeClause 61 = .ok (.aload_n 0, 1) := by decide +kernel
theorem dX7_takeClause_62 : decode cX7_takeClause 62 = .ok (.aload_n 1, 1) := by decide +kernel
theorem dX7_takeClause_63 : decode cX7_takeClause 63 = .ok (.bipush 8, 2) := by decide +kernel
theorem dX7_takeClause_65 : decode cX7_takeClause 65 = .ok (.invokevirtual 62, 3) := by decide +kernel
theorem dX7_takeClause_68 : decode cX7_takeClause 68 = .ok (.ireturn, 1) := by decide +kernel
theorem dX7_takeClause_69 : decode cX7_takeClause 69 = .ok (.aload_n 0, 1) := by decide +kernel
theorem dX7_takeClause_70 : decode cX7_takeClause 70 = .ok (.getfield 9, 3) := by decide +kernel
theorem dX7_takeClause_73 : decode cX7_takeClause 73 = .ok (.aload_n 0, 1) := by decide +kernel
theorem dX7_takeClause_74 : decode cX7_takeClause 74 = .ok (.getfield 36, 3) := by decide +kernel
theorem dX7_takeClause_77 : decode cX7_takeClause 77 = .ok (.aload_n 0, 1) := by decide +kernel
theorem dX7_takeClause_78 : decode cX7_takeClause 78 = .ok (.getfield 22, 3) := by decide +kernel
theorem dX7_takeClause_81 : decode cX7_takeClause 81 = .ok (.ldc 66, 2) := by decide +kernel
theorem dX7_takeClause_83 : decode cX7_takeClause 83 = .ok (.invokevirtual 53, 3) := by decide +kernel
theorem dX7_takeClause_86 : decode cX7_takeClause 86 = .ok (.ifCond .eq 16, 3) := by decide +kernel
theorem dX7_takeClause_89 : decode cX7_takeClause 89 = .ok (.aload_n 1, 1) := by decide +kernel
theorem dX7_takeClause_90 : decode cX7_takeClause 90 = .ok (.iconst 2, 1) := by decide +kernel
theorem dX7_takeClause_91 : decode cX7_takeClause 91 = .ok (.putfield 57, 3) := by decide +kernel
theorem dX7_takeClause_94 : decode cX7_takeClause 94 = .ok (.aload_n 0, 1) := by decide +kernel
theorem dX7_takeClause_95 : decode cX7_takeClause 95 = .ok (.aload_n 1, 1) := by decide +kernel
theorem dX7_takeClause_96 : decode cX7_takeClause 96 = .ok (.bipush 40, 2) := by decide +kernel
theorem dX7_takeClause_98 : decode cX7_takeClause 98 = .ok (.invokevirtual 62, 3) := by decide +kernel
theorem dX7_takeClause_101 : decode cX7_takeClause 101 = .ok (.ireturn, 1) := by decide +kernel
theorem dX7_takeClause_102 : decode cX7_takeClause 102 = .ok (.aload_n 0, 1) := by decide +kernel
theorem dX7_takeClause_103 : decode cX7_takeClause 103 = .ok (.getfield 9, 3) := by decide +kernel
theorem dX7_takeClause_106 : decode cX7_takeClause 106 = .ok (.aload_n 0, 1) := by decide +kernel
theorem dX7_takeClause_107 : decode cX7_takeClause 107 = .ok (.getfield 36, 3) := by decide +kernel
theorem dX7_takeClause_110 : decode cX7_takeClause 110 = .ok (.aload_n 0, 1) := by decide +kernel
theorem dX7_takeClause_111 : decode cX7_takeClause 111 = .ok (.getfield 22, 3) := by decide +kernel
theorem dX7_takeClause_114 : decode cX7_takeClause 114 = .ok (.ldc 68, 2) := by decide +kernel
theorem dX7_takeClause_116 : decode cX7_takeClause 116 = .ok (.invokevirtual 53, 3) := by decide +kernel
theorem dX7_takeClause_119 : decode cX7_takeClause 119 = .ok (.ifCond .eq 61, 3) := by decide +kernel
theorem dX7_takeClause_122 : decode cX7_takeClause 122 = .ok (.aload_n 0, 1) := by decide +kernel
theorem dX7_takeClause_123 : decode cX7_takeClause 123 = .ok (.getfield 29, 3) := by decide +kernel
theorem dX7_takeClause_126 : decode cX7_takeClause 126 = .ok (.bipush 6, 2) := by decide +kernel
theorem dX7_takeClause_128 : decode cX7_takeClause 128 = .ok (.if_icmp .ge 52, 3) := by decide +kernel
theorem dX7_takeClause_131 : decode cX7_takeClause 131 = .ok (.aload_n 1, 1) := by decide +kernel
theorem dX7_takeClause_132 : decode cX7_takeClause 132 = .ok (.iconst 3, 1) := by decide +kernel
theorem dX7_takeClause_133 : decode cX7_takeClause 133 = .ok (.putfield 57, 3) := by decide +kernel
theorem dX7_takeClause_136 : decode cX7_takeClause 136 = .ok (.aload_n 0, 1) := by decide +kernel
theorem dX7_takeClause_137 : decode cX7_takeClause 137 = .ok (.dup, 1) := by decide +kernel
theorem dX7_takeClause_138 : decode cX7_takeClause 138 = .ok (.getfield 29, 3) := by decide +kernel
theorem dX7_takeClause_141 : decode cX7_takeClause 141 = .ok (.iconst 1, 1) := by decide +kernel
theorem dX7_takeClause_142 : decode cX7_takeClause 142 = .ok (.iadd, 1) := by decide +kernel
theorem dX7_takeClause_143 : decode cX7_takeClause 143 = .ok (.putfield 29, 3) := by decide +kernel
theorem dX7_takeClause_146 : decode cX7_takeClause 146 = .ok (.aload_n 0, 1) := by decide +kernel
theorem dX7_takeClause_147 : decode cX7_takeClause 147 = .ok (.aload_n 1, 1) := by decide +kernel
theorem dX7_takeClause_148 : decode cX7_takeClause 148 = .ok (.invokevirtual 70, 3) := by decide +kernel
theorem dX7_takeClause_151 : decode cX7_takeClause 151 = .ok (.ifCond .eq 27, 3) := by decide +kernel
theorem dX7_takeClause_154 : decode cX7_takeClause 154 = .ok (.aload_n 0, 1) := by decide +kernel
theorem dX7_takeClause_155 : decode cX7_takeClause 155 = .ok (.aload_n 1, 1) := by decide +kernel
theorem dX7_takeClause_156 : decode cX7_takeClause 156 = .ok (.bipush 8, 2) := by decide +kernel
theorem dX7_takeClause_158 : decode cX7_takeClause 158 = .ok (.invokevirtual 62, 3) := by decide +kernel
theorem dX7_takeClause_161 : decode cX7_takeClause 161 = .ok (.ifCond .eq 17, 3) := by decide +kernel
theorem dX7_takeClause_164 : decode cX7_takeClause 164 = .ok (.aload_n 0, 1) := by decide +kernel
theorem dX7_takeClause_165 : decode cX7_takeClause 165 = .ok (.aload_n 1, 1) := by decide +kernel
theorem dX7_takeClause_166 : decode cX7_takeClause 166 = .ok (.bipush 9, 2) := by decide +kernel
theorem dX7_takeClause_168 : decode cX7_takeClause 168 = .ok (.invokevirtual 73, 3) := by decide +kernel
theorem dX7_takeClause_171 : decode cX7_takeClause 171 = .ok (.ifCond .eq 7, 3) := by decide +kernel
theorem dX7_takeClause_174 : decode cX7_takeClause 174 = .ok (.iconst 1, 1) := by decide +kernel
theorem dX7_takeClause_175 : decode cX7_takeClause 175 = .ok (.goto 4, 3) := by decide +kernel
theorem dX7_takeClause_178 : decode cX7_takeClause 178 = .ok (.iconst 0, 1) := by decide +kernel
theorem dX7_takeClause_179 : decode cX7_takeClause 179 = .ok (.ireturn, 1) := by decide +kernel
theorem dX7_takeClause_180 : decode cX7_takeClause 180 = .ok (.iconst 0, 1) := by decide +kernel
theorem dX7_takeClause_181 : decode cX7_takeClause 181 = .ok (.ireturn, 1) := by decide +kernel
theorem dX7_takeWord_0 : decode cX7_takeWord 0 = .ok (.aload_n 0, 1) := by decide +kernel
theorem dX7_takeWord_1 : decode cX7_takeWord 1 = .ok (.invokevirtual 39, 3) := by decide +kernel
theorem dX7_takeWord_4 : decode cX7_takeWord 4 = .ok (.aload_n 1, 1) := by decide +kernel
theorem dX7_takeWord_5 : decode cX7_takeWord 5 = .ok (.aload_n 0, 1) := by decide +kernel
theorem dX7_takeWord_6 : decode cX7_takeWord 6 = .ok (.getfield 36, 3) := by decide +kernel
theorem dX7_takeWord_9 : decode cX7_takeWord 9 = .ok (.putfield 76, 3) := by decide +kernel
theorem dX7_takeWord_12 : decode cX7_takeWord 12 = .ok (.aload_n 1, 1) := by decide +kernel
theorem dX7_takeWord_13 : decode cX7_takeWord 13 = .ok (.aload_n 0, 1) := by decide +kernel
theorem dX7_takeWord_14 : decode cX7_takeWord 14 = .ok (.getfield 22, 3) := by decide +kernel
theorem dX7_takeWord_17 : decode cX7_takeWord 17 = .ok (.aload_n 0, 1) := by decide +kernel
theorem dX7_takeWord_18 : decode cX7_takeWord 18 = .ok (.getfield 36, 3) := by decide +kernel
theorem dX7_takeWord_21 : decode cX7_takeWord 21 = .ok (.isub, 1) := by decide +kernel
theorem dX7_takeWord_22 : decode cX7_takeWord 22 = .ok (.putfield 79, 3) := by decide +kernel
theorem dX7_takeWord_25 : decode cX7_takeWord 25 = .ok (.aload_n 0, 1) := by decide +kernel
theorem dX7_takeWord_26 : decode cX7_takeWord 26 = .ok (.getfield 42, 3) := by decide +kernel
theorem dX7_takeWord_29 : decode cX7_takeWord 29 = .ok (.iconst 1, 1) := by decide +kernel
theorem dX7_takeWord_30 : decode cX7_takeWord 30 = .ok (.if_icmp .ne 16, 3) := by decide +kernel
theorem dX7_takeWord_33 : decode cX7_takeWord 33 = .ok (.aload_n 1, 1) := by decide +kernel
theorem dX7_takeWord_34 : decode cX7_takeWord 34 = .ok (.getfield 79, 3) := by decide +kernel
theorem dX7_takeWord_37 : decode cX7_takeWord 37 = .ok (.bipush 12, 2) := by decide +kernel
theorem dX7_takeWord_39 : decode cX7_takeWord 39 = .ok (.if_icmp .gt 7, 3) := by decide +kernel
theorem dX7_takeWord_42 : decode cX7_takeWord 42 = .ok (.iconst 1, 1) := by decide +kernel
theorem dX7_takeWord_43 : decode cX7_takeWord 43 = .ok (.goto 4, 3) := by decide +kernel
theorem dX7_takeWord_46 : decode cX7_takeWord 46 = .ok (.iconst 0, 1) := by decide +kernel
theorem dX7_takeWord_47 : decode cX7_takeWord 47 = .ok (.ireturn, 1) := by decide +kernel
theorem dX7_takeFirst_0 : decode cX7_takeFirst 0 = .ok (.aload_n 0, 1) := by decide +kernel
theorem dX7_takeFirst_1 : decode cX7_takeFirst 1 = .ok (.iload_n 2, 1) := by decide +kernel
theorem dX7_takeFirst_2 : decode cX7_takeFirst 2 = .ok (.invokevirtual 82, 3) := by decide +kernel
theorem dX7_takeFirst_5 : decode cX7_takeFirst 5 = .ok (.istore_n 3, 1) := by decide +kernel
theorem dX7_takeFirst_6 : decode cX7_takeFirst 6 = .ok (.aload_n 1, 1) := by decide +kernel
end
section
theorem dX7_takeFirst_7 : decode cX7_takeFirst 7 = .ok (.aload_n 0, 1) := by decide +kernel
theorem dX7_takeFirst_8 : decode cX7_takeFirst 8 = .ok (.getfield 86, 3) := by decide +kernel
theorem dX7_takeFirst_11 : decode cX7_takeFirst 11 = .ok (.putfield 89, 3) := by decide +kernel
theorem dX7_takeFirst_14 : decode cX7_takeFirst 14 = .ok (.iload_n 3, 1) := by decide +kernel
theorem dX7_takeFirst_15 : decode cX7_takeFirst 15 = .ok (.ireturn, 1) := by decide +kernel
theorem dX7_takeSecond_0 : decode cX7_takeSecond 0 = .ok (.aload_n 0, 1) := by decide +kernel
theorem dX7_takeSecond_1 : decode cX7_takeSecond 1 = .ok (.iload_n 2, 1) := by decide +kernel
theorem dX7_takeSecond_2 : decode cX7_takeSecond 2 = .ok (.invokevirtual 82, 3) := by decide +kernel
theorem dX7_takeSecond_5 : decode cX7_takeSecond 5 = .ok (.istore_n 3, 1) := by decide +kernel
theorem dX7_takeSecond_6 : decode cX7_takeSecond 6 = .ok (.aload_n 1, 1) := by decide +kernel
theorem dX7_takeSecond_7 : decode cX7_takeSecond 7 = .ok (.aload_n 0, 1) := by decide +kernel
theorem dX7_takeSecond_8 : decode cX7_takeSecond 8 = .ok (.getfield 86, 3) := by decide +kernel
theorem dX7_takeSecond_11 : decode cX7_takeSecond 11 = .ok (.putfield 92, 3) := by decide +kernel
theorem dX7_takeSecond_14 : decode cX7_takeSecond 14 = .ok (.iload_n 3, 1) := by decide +kernel
theorem dX7_takeSecond_15 : decode cX7_takeSecond 15 = .ok (.ireturn, 1) := by decide +kernel
theorem dX7_takeNumber_0 : decode cX7_takeNumber 0 = .ok (.aload_n 0, 1) := by decide +kernel
theorem dX7_takeNumber_1 : decode cX7_takeNumber 1 = .ok (.invokevirtual 39, 3) := by decide +kernel
theorem dX7_takeNumber_4 : decode cX7_takeNumber 4 = .ok (.aload_n 0, 1) := by decide +kernel
theorem dX7_takeNumber_5 : decode cX7_takeNumber 5 = .ok (.iconst 0, 1) := by decide +kernel
theorem dX7_takeNumber_6 : decode cX7_takeNumber 6 = .ok (.putfield 86, 3) := by decide +kernel
theorem dX7_takeNumber_9 : decode cX7_takeNumber 9 = .ok (.aload_n 0, 1) := by decide +kernel
theorem dX7_takeNumber_10 : decode cX7_takeNumber 10 = .ok (.getfield 42, 3) := by decide +kernel
theorem dX7_takeNumber_13 : decode cX7_takeNumber 13 = .ok (.iconst 2, 1) := by decide +kernel
theorem dX7_takeNumber_14 : decode cX7_takeNumber 14 = .ok (.if_icmp .ne 16, 3) := by decide +kernel
theorem dX7_takeNumber_17 : decode cX7_takeNumber 17 = .ok (.aload_n 0, 1) := by decide +kernel
theorem dX7_takeNumber_18 : decode cX7_takeNumber 18 = .ok (.getfield 22, 3) := by decide +kernel
theorem dX7_takeNumber_21 : decode cX7_takeNumber 21 = .ok (.aload_n 0, 1) := by decide +kernel
theorem dX7_takeNumber_22 : decode cX7_takeNumber 22 = .ok (.getfield 36, 3) := by decide +kernel
theorem dX7_takeNumber_25 : decode cX7_takeNumber 25 = .ok (.isub, 1) := by decide +kernel
theorem dX7_takeNumber_26 : decode cX7_takeNumber 26 = .ok (.iconst 2, 1) := by decide +kernel
theorem dX7_takeNumber_27 : decode cX7_takeNumber 27 = .ok (.if_icmp .le 5, 3) := by decide +kernel
theorem dX7_takeNumber_30 : decode cX7_takeNumber 30 = .ok (.iconst 0, 1) := by decide +kernel
theorem dX7_takeNumber_31 : decode cX7_takeNumber 31 = .ok (.ireturn, 1) := by decide +kernel
theorem dX7_takeNumber_32 : decode cX7_takeNumber 32 = .ok (.aload_n 0, 1) := by decide +kernel
theorem dX7_takeNumber_33 : decode cX7_takeNumber 33 = .ok (.getfield 36, 3) := by decide +kernel
theorem dX7_takeNumber_36 : decode cX7_takeNumber 36 = .ok (.istore_n 2, 1) := by decide +kernel
theorem dX7_takeNumber_37 : decode cX7_takeNumber 37 = .ok (.iload_n 2, 1) := by decide +kernel
theorem dX7_takeNumber_38 : decode cX7_takeNumber 38 = .ok (.aload_n 0, 1) := by decide +kernel
theorem dX7_takeNumber_39 : decode cX7_takeNumber 39 = .ok (.getfield 22, 3) := by decide +kernel
theorem dX7_takeNumber_42 : decode cX7_takeNumber 42 = .ok (.if_icmp .ge 48, 3) := by decide +kernel
theorem dX7_takeNumber_45 : decode cX7_takeNumber 45 = .ok (.aload_n 0, 1) := by decide +kernel
theorem dX7_takeNumber_46 : decode cX7_takeNumber 46 = .ok (.aload_n 0, 1) := by decide +kernel
theorem dX7_takeNumber_47 : decode cX7_takeNumber 47 = .ok (.getfield 86, 3) := by decide +kernel
theorem dX7_takeNumber_50 : decode cX7_takeNumber 50 = .ok (.bipush 10, 2) := by decide +kernel
theorem dX7_takeNumber_52 : decode cX7_takeNumber 52 = .ok (.imul, 1) := by decide +kernel
theorem dX7_takeNumber_53 : decode cX7_takeNumber 53 = .ok (.aload_n 0, 1) := by decide +kernel
theorem dX7_takeNumber_54 : decode cX7_takeNumber 54 = .ok (.getfield 9, 3) := by decide +kernel
theorem dX7_takeNumber_57 : decode cX7_takeNumber 57 = .ok (.iload_n 2, 1) := by decide +kernel
theorem dX7_takeNumber_58 : decode cX7_takeNumber 58 = .ok (.invokevirtual 95, 3) := by decide +kernel
theorem dX7_takeNumber_61 : decode cX7_takeNumber 61 = .ok (.ifCond .eq 18, 3) := by decide +kernel
theorem dX7_takeNumber_64 : decode cX7_takeNumber 64 = .ok (.aload_n 0, 1) := by decide +kernel
theorem dX7_takeNumber_65 : decode cX7_takeNumber 65 = .ok (.getfield 9, 3) := by decide +kernel
theorem dX7_takeNumber_68 : decode cX7_takeNumber 68 = .ok (.getfield 98, 3) := by decide +kernel
theorem dX7_takeNumber_71 : decode cX7_takeNumber 71 = .ok (.iload_n 2, 1) := by decide +kernel
theorem dX7_takeNumber_72 : decode cX7_takeNumber 72 = .ok (.iaload, 1) := by decide +kernel
theorem dX7_takeNumber_73 : decode cX7_takeNumber 73 = .ok (.bipush 48, 2) := by decide +kernel
theorem dX7_takeNumber_75 : decode cX7_takeNumber 75 = .ok (.isub, 1) := by decide +kernel
theorem dX7_takeNumber_76 : decode cX7_takeNumber 76 = .ok (.goto 4, 3) := by decide +kernel
theorem dX7_takeNumber_79 : decode cX7_takeNumber 79 = .ok (.iconst 0, 1) := by decide +kernel
theorem dX7_takeNumber_80 : decode cX7_takeNumber 80 = .ok (.iadd, 1) := by decide +kernel
theorem dX7_takeNumber_81 : decode cX7_takeNumber 81 = .ok (.putfield 86, 3) := by decide +kernel
theorem dX7_takeNumber_84 : decode cX7_takeNumber 84 = .ok (.iinc 2 1, 3) := by decide +kernel
theorem dX7_takeNumber_87 : decode cX7_takeNumber 87 = .ok (.goto (-50), 3) := by decide +kernel
theorem dX7_takeNumber_90 : decode cX7_takeNumber 90 = .ok (.aload_n 0, 1) := by decide +kernel
theorem dX7_takeNumber_91 : decode cX7_takeNumber 91 = .ok (.getfield 86, 3) := by decide +kernel
theorem dX7_takeNumber_94 : decode cX7_takeNumber 94 = .ok (.iconst 1, 1) := by decide +kernel
theorem dX7_takeNumber_95 : decode cX7_takeNumber 95 = .ok (.iload_n 1, 1) := by decide +kernel
theorem dX7_takeNumber_96 : decode cX7_takeNumber 96 = .ok (.invokestatic 102, 3) := by decide +kernel
theorem dX7_takeNumber_99 : decode cX7_takeNumber 99 = .ok (.ireturn, 1) := by decide +kernel
theorem dX7_takeToken_0 : decode cX7_takeToken 0 = .ok (.aload_n 0, 1) := by decide +kernel
theorem dX7_takeToken_1 : decode cX7_takeToken 1 = .ok (.aload_n 0, 1) := by decide +kernel
theorem dX7_takeToken_2 : decode cX7_takeToken 2 = .ok (.getfield 22, 3) := by decide +kernel
theorem dX7_takeToken_5 : decode cX7_takeToken 5 = .ok (.putfield 36, 3) := by decide +kernel
theorem dX7_takeToken_8 : decode cX7_takeToken 8 = .ok (.aload_n 0, 1) := by decide +kernel
theorem dX7_takeToken_9 : decode cX7_takeToken 9 = .ok (.getfield 36, 3) := by decide +kernel
theorem dX7_takeToken_12 : decode cX7_takeToken 12 = .ok (.aload_n 0, 1) := by decide +kernel
theorem dX7_takeToken_13 : decode cX7_takeToken 13 = .ok (.getfield 9, 3) := by decide +kernel
theorem dX7_takeToken_16 : decode cX7_takeToken 16 = .ok (.getfield 106, 3) := by decide +kernel
theorem dX7_takeToken_19 : decode cX7_takeToken 19 = .ok (.if_icmp .ge 32, 3) := by decide +kernel
theorem dX7_takeToken_22 : decode cX7_takeToken 22 = .ok (.aload_n 0, 1) := by decide +kernel
theorem dX7_takeToken_23 : decode cX7_takeToken 23 = .ok (.getfield 9, 3) := by decide +kernel
theorem dX7_takeToken_26 : decode cX7_takeToken 26 = .ok (.aload_n 0, 1) := by decide +kernel
theorem dX7_takeToken_27 : decode cX7_takeToken 27 = .ok (.getfield 36, 3) := by decide +kernel
theorem dX7_takeToken_30 : decode cX7_takeToken 30 = .ok (.bipush 32, 2) := by decide +kernel
theorem dX7_takeToken_32 : decode cX7_takeToken 32 = .ok (.invokevirtual 45, 3) := by decide +kernel
theorem dX7_takeToken_35 : decode cX7_takeToken 35 = .ok (.ifCond .eq 16, 3) := by decide +kernel
theorem dX7_takeToken_38 : decode cX7_takeToken 38 = .ok (.aload_n 0, 1) := by decide +kernel
theorem dX7_takeToken_39 : decode cX7_takeToken 39 = .ok (.dup, 1) := by decide +kernel
theorem dX7_takeToken_40 : decode cX7_takeToken 40 = .ok (.getfield 36, 3) := by decide +kernel
theorem dX7_takeToken_43 : decode cX7_takeToken 43 = .ok (.iconst 1, 1) := by decide +kernel
theorem dX7_takeToken_44 : decode cX7_takeToken 44 = .ok (.iadd, 1) := by decide +kernel
theorem dX7_takeToken_45 : decode cX7_takeToken 45 = .ok (.putfield 36, 3) := by decide +kernel
theorem dX7_takeToken_48 : decode cX7_takeToken 48 = .ok (.goto (-40), 3) := by decide +kernel
theorem dX7_takeToken_51 : decode cX7_takeToken 51 = .ok (.aload_n 0, 1) := by decide +kernel
theorem dX7_takeToken_52 : decode cX7_takeToken 52 = .ok (.aload_n 0, 1) := by decide +kernel
theorem dX7_takeToken_53 : decode cX7_takeToken 53 = .ok (.getfield 36, 3) := by decide +kernel
theorem dX7_takeToken_56 : decode cX7_takeToken 56 = .ok (.putfield 22, 3) := by decide +kernel
theorem dX7_takeToken_59 : decode cX7_takeToken 59 = .ok (.aload_n 0, 1) := by decide +kernel
theorem dX7_takeToken_60 : decode cX7_takeToken 60 = .ok (.getfield 36, 3) := by decide +kernel
theorem dX7_takeToken_63 : decode cX7_takeToken 63 = .ok (.aload_n 0, 1) := by decide +kernel
theorem dX7_takeToken_64 : decode cX7_takeToken 64 = .ok (.getfield 9, 3) := by decide +kernel
theorem dX7_takeToken_67 : decode cX7_takeToken 67 = .ok (.getfield 106, 3) := by decide +kernel
theorem dX7_takeToken_70 : decode cX7_takeToken 70 = .ok (.if_icmp .lt 11, 3) := by decide +kernel
theorem dX7_takeToken_73 : decode cX7_takeToken 73 = .ok (.aload_n 0, 1) := by decide +kernel
theorem dX7_takeToken_74 : decode cX7_takeToken 74 = .ok (.iconst 0, 1) := by decide +kernel
theorem dX7_takeToken_75 : decode cX7_takeToken 75 = .ok (.putfield 42, 3) := by decide +kernel
theorem dX7_takeToken_78 : decode cX7_takeToken 78 = .ok (.goto 138, 3) := by decide +kernel
theorem dX7_takeToken_81 : decode cX7_takeToken 81 = .ok (.aload_n 0, 1) := by decide +kernel
theorem dX7_takeToken_82 : decode cX7_takeToken 82 = .ok (.getfield 9, 3) := by decide +kernel
theorem dX7_takeToken_85 : decode cX7_takeToken 85 = .ok (.aload_n 0, 1) := by decide +kernel
theorem dX7_takeToken_86 : decode cX7_takeToken 86 = .ok (.getfield 36, 3) := by decide +kernel
theorem dX7_takeToken_89 : decode cX7_takeToken 89 = .ok (.invokevirtual 109, 3) := by decide +kernel
theorem dX7_takeToken_92 : decode cX7_takeToken 92 = .ok (.ifCond .eq 49, 3) := by decide +kernel
theorem dX7_takeToken_95 : decode cX7_takeToken 95 = .ok (.aload_n 0, 1) := by decide +kernel
theorem dX7_takeToken_96 : decode cX7_takeToken 96 = .ok (.iconst 1, 1) := by decide +kernel
theorem dX7_takeToken_97 : decode cX7_takeToken 97 = .ok (.putfield 42, 3) := by decide +kernel
theorem dX7_takeToken_100 : decode cX7_takeToken 100 = .ok (.aload_n 0, 1) := by decide +kernel
theorem dX7_takeToken_101 : decode cX7_takeToken 101 = .ok (.getfield 22, 3) := by decide +kernel
theorem dX7_takeToken_104 : decode cX7_takeToken 104 = .ok (.aload_n 0, 1) := by decide +kernel
theorem dX7_takeToken_105 : decode cX7_takeToken 105 = .ok (.getfield 9, 3) := by decide +kernel
theorem dX7_takeToken_108 : decode cX7_takeToken 108 = .ok (.getfield 106, 3) := by decide +kernel
theorem dX7_takeToken_111 : decode cX7_takeToken 111 = .ok (.if_icmp .ge 105, 3) := by decide +kernel
theorem dX7_takeToken_114 : decode cX7_takeToken 114 = .ok (.aload_n 0, 1) := by decide +kernel
theorem dX7_takeToken_115 : decode cX7_takeToken 115 = .ok (.getfield 9, 3) := by decide +kernel
theorem dX7_takeToken_118 : decode cX7_takeToken 118 = .ok (.aload_n 0, 1) := by decide +kernel
theorem dX7_takeToken_119 : decode cX7_takeToken 119 = .ok (.getfield 22, 3) := by decide +kernel
theorem dX7_takeToken_122 : decode cX7_takeToken 122 = .ok (.invokevirtual 109, 3) := by decide +kernel
theorem dX7_takeToken_125 : decode cX7_takeToken 125 = .ok (.ifCond .eq 91, 3) := by decide +kernel
theorem dX7_takeToken_128 : decode cX7_takeToken 128 = .ok (.aload_n 0, 1) := by decide +kernel
theorem dX7_takeToken_129 : decode cX7_takeToken 129 = .ok (.dup, 1) := by decide +kernel
theorem dX7_takeToken_130 : decode cX7_takeToken 130 = .ok (.getfield 22, 3) := by decide +kernel
theorem dX7_takeToken_133 : decode cX7_takeToken 133 = .ok (.iconst 1, 1) := by decide +kernel
theorem dX7_takeToken_134 : decode cX7_takeToken 134 = .ok (.iadd, 1) := by decide +kernel
theorem dX7_takeToken_135 : decode cX7_takeToken 135 = .ok (.putfield 22, 3) := by decide +kernel
theorem dX7_takeToken_138 : decode cX7_takeToken 138 = .ok (.goto (-38), 3) := by decide +kernel
theorem dX7_takeToken_141 : decode cX7_takeToken 141 = .ok (.aload_n 0, 1) := by decide +kernel
theorem dX7_takeToken_142 : decode cX7_takeToken 142 = .ok (.getfield 9, 3) := by decide +kernel
theorem dX7_takeToken_145 : decode cX7_takeToken 145 = .ok (.aload_n 0, 1) := by decide +kernel
theorem dX7_takeToken_146 : decode cX7_takeToken 146 = .ok (.getfield 36, 3) := by decide +kernel
theorem dX7_takeToken_149 : decode cX7_takeToken 149 = .ok (.invokevirtual 95, 3) := by decide +kernel
theorem dX7_takeToken_152 : decode cX7_takeToken 152 = .ok (.ifCond .eq 49, 3) := by decide +kernel
theorem dX7_takeToken_155 : decode cX7_takeToken 155 = .ok (.aload_n 0, 1) := by decide +kernel
theorem dX7_takeToken_156 : decode cX7_takeToken 156 = .ok (.iconst 2, 1) := by decide +kernel
theorem dX7_takeToken_157 : decode cX7_takeToken 157 = .ok (.putfield 42, 3) := by decide +kernel
theorem dX7_takeToken_160 : decode cX7_takeToken 160 = .ok (.aload_n 0, 1) := by decide +kernel
theorem dX7_takeToken_161 : decode cX7_takeToken 161 = .ok (.getfield 22, 3) := by decide +kernel
theorem dX7_takeToken_164 : decode cX7_takeToken 164 = .ok (.aload_n 0, 1) := by decide +kernel
theorem dX7_takeToken_165 : decode cX7_takeToken 165 = .ok (.getfield 9, 3) := by decide +kernel
theorem dX7_takeToken_168 : decode cX7_takeToken 168 = .ok (.getfield 106, 3) := by decide +kernel
theorem dX7_takeToken_171 : decode cX7_takeToken 171 = .ok (.if_icmp .ge 45, 3) := by decide +kernel
theorem dX7_takeToken_174 : decode cX7_takeToken 174 = .ok (.aload_n 0, 1) := by decide +kernel
theorem dX7_takeToken_175 : decode cX7_takeToken 175 = .ok (.getfield 9, 3) := by decide +kernel
theorem dX7_takeToken_178 : decode cX7_takeToken 178 = .ok (.aload_n 0, 1) := by decide +kernel
theorem dX7_takeToken_179 : decode cX7_takeToken 179 = .ok (.getfield 22, 3) := by decide +kernel
theorem dX7_takeToken_182 : decode cX7_takeToken 182 = .ok (.invokevirtual 95, 3) := by decide +kernel
theorem dX7_takeToken_185 : decode cX7_takeToken 185 = .ok (.ifCond .eq 31, 3) := by decide +kernel
theorem dX7_takeToken_188 : decode cX7_takeToken 188 = .ok (.aload_n 0, 1) := by decide +kernel
theorem dX7_takeToken_189 : decode cX7_takeToken 189 = .ok (.dup, 1) := by decide +kernel
theorem dX7_takeToken_190 : decode cX7_takeToken 190 = .ok (.getfield 22, 3) := by decide +kernel
theorem dX7_takeToken_193 : decode cX7_takeToken 193 = .ok (.iconst 1, 1) := by decide +kernel
theorem dX7_takeToken_194 : decode cX7_takeToken 194 = .ok (.iadd, 1) := by decide +kernel
theorem dX7_takeToken_195 : decode cX7_takeToken 195 = .ok (.putfield 22, 3) := by decide +kernel
theorem dX7_takeToken_198 : decode cX7_takeToken 198 = .ok (.goto (-38), 3) := by decide +kernel
theorem dX7_takeToken_201 : decode cX7_takeToken 201 = .ok (.aload_n 0, 1) := by decide +kernel
theorem dX7_takeToken_202 : decode cX7_takeToken 202 = .ok (.iconst 3, 1) := by decide +kernel
theorem dX7_takeToken_203 : decode cX7_takeToken 203 = .ok (.putfield 42, 3) := by decide +kernel
theorem dX7_takeToken_206 : decode cX7_takeToken 206 = .ok (.aload_n 0, 1) := by decide +kernel
theorem dX7_takeToken_207 : decode cX7_takeToken 207 = .ok (.dup, 1) := by decide +kernel
theorem dX7_takeToken_208 : decode cX7_takeToken 208 = .ok (.getfield 22, 3) := by decide +kernel
theorem dX7_takeToken_211 : decode cX7_takeToken 211 = .ok (.iconst 1, 1) := by decide +kernel
theorem dX7_takeToken_212 : decode cX7_takeToken 212 = .ok (.iadd, 1) := by decide +kernel
theorem dX7_takeToken_213 : decode cX7_takeToken 213 = .ok (.putfield 22, 3) := by decide +kernel
theorem dX7_takeToken_216 : decode cX7_takeToken 216 = .ok (.return_, 1) := by decide +kernel
theorem dX8_init_0 : decode cX8_init 0 = .ok (.aload_n 0, 1) := by decide +kernel
theorem dX8_init_1 : decode cX8_init 1 = .ok (.invokespecial 3, 3) := by decide +kernel
theorem dX8_init_4 : decode cX8_init 4 = .ok (.aload_n 0, 1) := by decide +kernel
theorem dX8_init_5 : decode cX8_init 5 = .ok (.new 9, 3) := by decide +kernel
theorem dX8_init_8 : decode cX8_init 8 = .ok (.dup, 1) := by decide +kernel
theorem dX8_init_9 : decode cX8_init 9 = .ok (.invokespecial 11, 3) := by decide +kernel
theorem dX8_init_12 : decode cX8_init 12 = .ok (.putfield 12, 3) := by decide +kernel
theorem dX8_init_15 : decode cX8_init 15 = .ok (.aload_n 0, 1) := by decide +kernel
theorem dX8_init_16 : decode cX8_init 16 = .ok (.aload_n 1, 1) := by decide +kernel
theorem dX8_init_17 : decode cX8_init 17 = .ok (.putfield 18, 3) := by decide +kernel
theorem dX8_init_20 : decode cX8_init 20 = .ok (.aload_n 0, 1) := by decide +kernel
theorem dX8_init_21 : decode cX8_init 21 = .ok (.bipush 40, 2) := by decide +kernel
theorem dX8_init_23 : decode cX8_init 23 = .ok (.newarray .int, 2) := by decide +kernel
theorem dX8_init_25 : decode cX8_init 25 = .ok (.putfield 22, 3) := by decide +kernel
theorem dX8_init_28 : decode cX8_init 28 = .ok (.return_, 1) := by decide +kernel
theorem dX8_remember_0 : decode cX8_remember 0 = .ok (.aload_n 0, 1) := by decide +kernel
theorem dX8_remember_1 : decode cX8_remember 1 = .ok (.getfield 12, 3) := by decide +kernel
theorem dX8_remember_4 : decode cX8_remember 4 = .ok (.aload_n 1, 1) := by decide +kernel
theorem dX8_remember_5 : decode cX8_remember 5 = .ok (.invokevirtual 26, 3) := by decide +kernel
theorem dX8_remember_8 : decode cX8_remember 8 = .ok (.aload_n 0, 1) := by decide +kernel
theorem dX8_remember_9 : decode cX8_remember 9 = .ok (.aload_n 2, 1) := by decide +kernel
theorem dX8_remember_10 : decode cX8_remember 10 = .ok (.putfield 18, 3) := by decide +kernel
theorem dX8_remember_13 : decode cX8_remember 13 = .ok (.aload_n 0, 1) := by decide +kernel
theorem dX8_remember_14 : decode cX8_remember 14 = .ok (.aload_n 3, 1) := by decide +kernel
theorem dX8_remember_15 : decode cX8_remember 15 = .ok (.putfield 30, 3) := by decide +kernel
theorem dX8_remember_18 : decode cX8_remember 18 = .ok (.aload_n 3, 1) := by decide +kernel
theorem dX8_remember_19 : decode cX8_remember 19 = .ok (.ifnull 34, 3) := by decide +kernel
theorem dX8_remember_22 : decode cX8_remember 22 = .ok (.aload_n 3, 1) := by decide +kernel
theorem dX8_remember_23 : decode cX8_remember 23 = .ok (.getfield 34, 3) := by decide +kernel
theorem dX8_remember_26 : decode cX8_remember 26 = .ok (.iconst 0, 1) := by decide +kernel
theorem dX8_remember_27 : decode cX8_remember 27 = .ok (.aload_n 0, 1) := by decide +kernel
theorem dX8_remember_28 : decode cX8_remember 28 = .ok (.getfield 22, 3) := by decide +kernel
theorem dX8_remember_31 : decode cX8_remember 31 = .ok (.iconst 0, 1) := by decide +kernel
theorem dX8_remember_32 : decode cX8_remember 32 = .ok (.bipush 40, 2) := by decide +kernel
theorem dX8_remember_34 : decode cX8_remember 34 = .ok (.invokestatic 39, 3) := by decide +kernel
theorem dX8_remember_37 : decode cX8_remember 37 = .ok (.aload_n 0, 1) := by decide +kernel
theorem dX8_remember_38 : decode cX8_remember 38 = .ok (.aload_n 3, 1) := by decide +kernel
theorem dX8_remember_39 : decode cX8_remember 39 = .ok (.getfield 45, 3) := by decide +kernel
theorem dX8_remember_42 : decode cX8_remember 42 = .ok (.putfield 49, 3) := by decide +kernel
theorem dX8_remember_45 : decode cX8_remember 45 = .ok (.aload_n 0, 1) := by decide +kernel
theorem dX8_remember_46 : decode cX8_remember 46 = .ok (.aload_n 3, 1) := by decide +kernel
theorem dX8_remember_47 : decode cX8_remember 47 = .ok (.getfield 50, 3) := by decide +kernel
theorem dX8_remember_50 : decode cX8_remember 50 = .ok (.putfield 54, 3) := by decide +kernel
theorem dX8_remember_53 : decode cX8_remember 53 = .ok (.return_, 1) := by decide +kernel
theorem dX8_giveBack_0 : decode cX8_giveBack 0 = .ok (.aload_n 1, 1) := by decide +kernel
theorem dX8_giveBack_1 : decode cX8_giveBack 1 = .ok (.aload_n 0, 1) := by decide +kernel
theorem dX8_giveBack_2 : decode cX8_giveBack 2 = .ok (.getfield 12, 3) := by decide +kernel
theorem dX8_giveBack_5 : decode cX8_giveBack 5 = .ok (.invokevirtual 26, 3) := by decide +kernel
theorem dX8_giveBack_8 : decode cX8_giveBack 8 = .ok (.aload_n 0, 1) := by decide +kernel
theorem dX8_giveBack_9 : decode cX8_giveBack 9 = .ok (.getfield 30, 3) := by decide +kernel
theorem dX8_giveBack_12 : decode cX8_giveBack 12 = .ok (.ifnull 43, 3) := by decide +kernel
theorem dX8_giveBack_15 : decode cX8_giveBack 15 = .ok (.aload_n 0, 1) := by decide +kernel
theorem dX8_giveBack_16 : decode cX8_giveBack 16 = .ok (.getfield 22, 3) := by decide +kernel
theorem dX8_giveBack_19 : decode cX8_giveBack 19 = .ok (.iconst 0, 1) := by decide +kernel
theorem dX8_giveBack_20 : decode cX8_giveBack 20 = .ok (.aload_n 0, 1) := by decide +kernel
theorem dX8_giveBack_21 : decode cX8_giveBack 21 = .ok (.getfield 30, 3) := by decide +kernel
theorem dX8_giveBack_24 : decode cX8_giveBack 24 = .ok (.getfield 34, 3) := by decide +kernel
theorem dX8_giveBack_27 : decode cX8_giveBack 27 = .ok (.iconst 0, 1) := by decide +kernel
theorem dX8_giveBack_28 : decode cX8_giveBack 28 = .ok (.bipush 40, 2) := by decide +kernel
theorem dX8_giveBack_30 : decode cX8_giveBack 30 = .ok (.invokestatic 39, 3) := by decide +kernel
theorem dX8_giveBack_33 : decode cX8_giveBack 33 = .ok (.aload_n 0, 1) := by decide +kernel
theorem dX8_giveBack_34 : decode cX8_giveBack 34 = .ok (.getfield 30, 3) := by decide +kernel
theorem dX8_giveBack_37 : decode cX8_giveBack 37 = .ok (.aload_n 0, 1) := by decide +kernel
theorem dX8_giveBack_38 : decode cX8_giveBack 38 = .ok (.getfield 49, 3) := by decide +kernel
theorem dX8_giveBack_41 : decode cX8_giveBack 41 = .ok (.putfield 45, 3) := by decide +kernel
theorem dX8_giveBack_44 : decode cX8_giveBack 44 = .ok (.aload_n 0, 1) := by decide +kernel
theorem dX8_giveBack_45 : decode cX8_giveBack 45 = .ok (.getfield 30, 3) := by decide +kernel
theorem dX8_giveBack_48 : decode cX8_giveBack 48 = .ok (.aload_n 0, 1) := by decide +kernel
theorem dX8_giveBack_49 : decode cX8_giveBack 49 = .ok (.getfield 54, 3) := by decide +kernel
theorem dX8_giveBack_52 : decode cX8_giveBack 52 = .ok (.putfield 50, 3) := by decide +kernel
theorem dX8_giveBack_55 : decode cX8_giveBack 55 = .ok (.return_, 1) := by decide +kernel
theorem dX9_init_0 : decode cX9_init 0 = .ok (.aload_n 0, 1) := by decide +kernel
theorem dX9_init_1 : decode cX9_init 1 = .ok (.invokespecial 3, 3) := by decide +kernel
theorem dX9_init_4 : decode cX9_init 4 = .ok (.aload_n 0, 1) := by decide +kernel
theorem dX9_init_5 : decode cX9_init 5 = .ok (.bipush 8, 2) := by decide +kernel
theorem dX9_init_7 : decode cX9_init 7 = .ok (.anewarray 9, 3) := by decide +kernel
theorem dX9_init_10 : decode cX9_init 10 = .ok (.putfield 11, 3) := by decide +kernel
theorem dX9_init_13 : decode cX9_init 13 = .ok (.iconst 0, 1) := by decide +kernel
theorem dX9_init_14 : decode cX9_init 14 = .ok (.istore_n 2, 1) := by decide +kernel
theorem dX9_init_15 : decode cX9_init 15 = .ok (.iload_n 2, 1) := by decide +kernel
theorem dX9_init_16 : decode cX9_init 16 = .ok (.bipush 8, 2) := by decide +kernel
theorem dX9_init_18 : decode cX9_init 18 = .ok (.if_icmp .ge 23, 3) := by decide +kernel
theorem dX9_init_21 : decode cX9_init 21 = .ok (.aload_n 0, 1) := by decide +kernel
theorem dX9_init_22 : decode cX9_init 22 = .ok (.getfield 11, 3) := by decide +kernel
theorem dX9_init_25 : decode cX9_init 25 = .ok (.iload_n 2, 1) := by decide +kernel
theorem dX9_init_26 : decode cX9_init 26 = .ok (.new 9, 3) := by decide +kernel
theorem dX9_init_29 : decode cX9_init 29 = .ok (.dup, 1) := by decide +kernel
theorem dX9_init_30 : decode cX9_init 30 = .ok (.aload_n 1, 1) := by decide +kernel
theorem dX9_init_31 : decode cX9_init 31 = .ok (.invokespecial 17, 3) := by decide +kernel
theorem dX9_init_34 : decode cX9_init 34 = .ok (.aastore, 1) := by decide +kernel
theorem dX9_init_35 : decode cX9_init 35 = .ok (.iinc 2 1, 3) := by decide +kernel
theorem dX9_init_38 : decode cX9_init 38 = .ok (.goto (-23), 3) := by decide +kernel
theorem dX9_init_41 : decode cX9_init 41 = .ok (.return_, 1) := by decide +kernel
theorem dX9_keep_0 : decode cX9_keep 0 = .ok (.aload_n 0, 1) := by decide +kernel
theorem dX9_keep_1 : decode cX9_keep 1 = .ok (.getfield 11, 3) := by decide +kernel
theorem dX9_keep_4 : decode cX9_keep 4 = .ok (.aload_n 0, 1) := by decide +kernel
theorem dX9_keep_5 : decode cX9_keep 5 = .ok (.getfield 20, 3) := by decide +kernel
theorem dX9_keep_8 : decode cX9_keep 8 = .ok (.aaload, 1) := by decide +kernel
theorem dX9_keep_9 : decode cX9_keep 9 = .ok (.aload_n 1, 1) := by decide +kernel
theorem dX9_keep_10 : decode cX9_keep 10 = .ok (.aload_n 2, 1) := by decide +kernel
theorem dX9_keep_11 : decode cX9_keep 11 = .ok (.aload_n 3, 1) := by decide +kernel
theorem dX9_keep_12 : decode cX9_keep 12 = .ok (.invokevirtual 24, 3) := by decide +kernel
theorem dX9_keep_15 : decode cX9_keep 15 = .ok (.aload_n 0, 1) := by decide +kernel
theorem dX9_keep_16 : decode cX9_keep 16 = .ok (.aload_n 0, 1) := by decide +kernel
theorem dX9_keep_17 : decode cX9_keep 17 = .ok (.getfield 20, 3) := by decide +kernel
theorem dX9_keep_20 : decode cX9_keep 20 = .ok (.iconst 1, 1) := by decide +kernel
theorem dX9_keep_21 : decode cX9_keep 21 = .ok (.iadd, 1) := by decide +kernel
theorem dX9_keep_22 : decode cX9_keep 22 = .ok (.bipush 8, 2) := by decide +kernel
theorem dX9_keep_24 : decode cX9_keep 24 = .ok (.irem, 1) := by decide +kernel
theorem dX9_keep_25 : decode cX9_keep 25 = .ok (.putfield 20, 3) := by decide +kernel
theorem dX9_keep_28 : decode cX9_keep 28 = .ok (.aload_n 0, 1) := by decide +kernel
theorem dX9_keep_29 : decode cX9_keep 29 = .ok (.aload_n 0, 1) := by decide +kernel
theorem dX9_keep_30 : decode cX9_keep 30 = .ok (.getfield 28, 3) := by decide +kernel
theorem dX9_keep_33 : decode cX9_keep 33 = .ok (.iconst 1, 1) := by decide +kernel
theorem dX9_keep_34 : decode cX9_keep 34 = .ok (.iadd, 1) := by decide +kernel
theorem dX9_keep_35 : decode cX9_keep 35 = .ok (.bipush 8, 2) := by decide +kernel
theorem dX9_keep_37 : decode cX9_keep 37 = .ok (.invokestatic 31, 3) := by decide +kernel
theorem dX9_keep_40 : decode cX9_keep 40 = .ok (.putfield 28, 3) := by decide +kernel
theorem dX9_keep_43 : decode cX9_keep 43 = .ok (.return_, 1) := by decide +kernel
theorem dX9_takeBack_0 : decode cX9_takeBack 0 = .ok (.aload_n 0, 1) := by decide +kernel
theorem dX9_takeBack_1 : decode cX9_takeBack 1 = .ok (.aload_n 0, 1) := by decide +kernel
theorem dX9_takeBack_2 : decode cX9_takeBack 2 = .ok (.getfield 20, 3) := by decide +kernel
theorem dX9_takeBack_5 : decode cX9_takeBack 5 = .ok (.bipush 8, 2) := by decide +kernel
theorem dX9_takeBack_7 : decode cX9_takeBack 7 = .ok (.iadd, 1) := by decide +kernel
theorem dX9_takeBack_8 : decode cX9_takeBack 8 = .ok (.iconst 1, 1) := by decide +kernel
theorem dX9_takeBack_9 : decode cX9_takeBack 9 = .ok (.isub, 1) := by decide +kernel
theorem dX9_takeBack_10 : decode cX9_takeBack 10 = .ok (.bipush 8, 2) := by decide +kernel
theorem dX9_takeBack_12 : decode cX9_takeBack 12 = .ok (.irem, 1) := by decide +kernel
theorem dX9_takeBack_13 : decode cX9_takeBack 13 = .ok (.putfield 20, 3) := by decide +kernel
theorem dX9_takeBack_16 : decode cX9_takeBack 16 = .ok (.aload_n 0, 1) := by decide +kernel
theorem dX9_takeBack_17 : decode cX9_takeBack 17 = .ok (.iconst 0, 1) := by decide +kernel
theorem dX9_takeBack_18 : decode cX9_takeBack 18 = .ok (.aload_n 0, 1) := by decide +kernel
theorem dX9_takeBack_19 : decode cX9_takeBack 19 = .ok (.getfield 28, 3) := by decide +kernel
theorem dX9_takeBack_22 : decode cX9_takeBack 22 = .ok (.iconst 1, 1) := by decide +kernel
theorem dX9_takeBack_23 : decode cX9_takeBack 23 = .ok (.isub, 1) := by decide +kernel
theorem dX9_takeBack_24 : decode cX9_takeBack 24 = .ok (.invokestatic 37, 3) := by decide +kernel
theorem dX9_takeBack_27 : decode cX9_takeBack 27 = .ok (.putfield 28, 3) := by decide +kernel
theorem dX9_takeBack_30 : decode cX9_takeBack 30 = .ok (.aload_n 0, 1) := by decide +kernel
theorem dX9_takeBack_31 : decode cX9_takeBack 31 = .ok (.getfield 11, 3) := by decide +kernel
theorem dX9_takeBack_34 : decode cX9_takeBack 34 = .ok (.aload_n 0, 1) := by decide +kernel
theorem dX9_takeBack_35 : decode cX9_takeBack 35 = .ok (.getfield 20, 3) := by decide +kernel
theorem dX9_takeBack_38 : decode cX9_takeBack 38 = .ok (.aaload, 1) := by decide +kernel
theorem dX9_takeBack_39 : decode cX9_takeBack 39 = .ok (.areturn, 1) := by decide +kernel
theorem dX9_forget_0 : decode cX9_forget 0 = .ok (.aload_n 0, 1) := by decide +kernel
theorem dX9_forget_1 : decode cX9_forget 1 = .ok (.iconst 0, 1) := by decide +kernel
theorem dX9_forget_2 : decode cX9_forget 2 = .ok (.putfield 28, 3) := by decide +kernel
theorem dX9_forget_5 : decode cX9_forget 5 = .ok (.return_, 1) := by decide +kernel
theorem dX10_init_0 : decode cX10_init 0 = .ok (.aload_n 0, 1) := by decide +kernel
theorem dX10_init_1 : decode cX10_init 1 = .ok (.invokespecial 3, 3) := by decide +kernel
theorem dX10_init_4 : decode cX10_init 4 = .ok (.aload_n 0, 1) := by decide +kernel
theorem dX10_init_5 : decode cX10_init 5 = .ok (.sipush 200, 3) := by decide +kernel
theorem dX10_init_8 : decode cX10_init 8 = .ok (.newarray .int, 2) := by decide +kernel
theorem dX10_init_10 : decode cX10_init 10 = .ok (.putfield 9, 3) := by decide +kernel
theorem dX10_init_13 : decode cX10_init 13 = .ok (.aload_n 0, 1) := by decide +kernel
theorem dX10_init_14 : decode cX10_init 14 = .ok (.iconst 0, 1) := by decide +kernel
theorem dX10_init_15 : decode cX10_init 15 = .ok (.putfield 15, 3) := by decide +kernel
theorem dX10_init_18 : decode cX10_init 18 = .ok (.return_, 1) := by decide +kernel
theorem dX10_add_0 : decode cX10_add 0 = .ok (.aload_n 0, 1) := by decide +kernel
theorem dX10_add_1 : decode cX10_add 1 = .ok (.getfield 15, 3) := by decide +kernel
theorem dX10_add_4 : decode cX10_add 4 = .ok (.sipush 200, 3) := by decide +kernel
theorem dX10_add_7 : decode cX10_add 7 = .ok (.if_icmp .lt 5, 3) := by decide +kernel
theorem dX10_add_10 : decode cX10_add 10 = .ok (.iconst 0, 1) := by decide +kernel
theorem dX10_add_11 : decode cX10_add 11 = .ok (.ireturn, 1) := by decide +kernel
theorem dX10_add_12 : decode cX10_add 12 = .ok (.aload_n 0, 1) := by decide +kernel
theorem dX10_add_13 : decode cX10_add 13 = .ok (.getfield 9, 3) := by decide +kernel
theorem dX10_add_16 : decode cX10_add 16 = .ok (.aload_n 0, 1) := by decide +kernel
theorem dX10_add_17 : decode cX10_add 17 = .ok (.getfield 15, 3) := by decide +kernel
theorem dX10_add_20 : decode cX10_add 20 = .ok (.iload_n 1, 1) := by decide +kernel
theorem dX10_add_21 : decode cX10_add 21 = .ok (.iastore, 1) := by decide +kernel
theorem dX10_add_22 : decode cX10_add 22 = .ok (.aload_n 0, 1) := by decide +kernel
theorem dX10_add_23 : decode cX10_add 23 = .ok (.dup, 1) := by decide +kernel
theorem dX10_add_24 : decode cX10_add 24 = .ok (.getfield 15, 3) := by decide +kernel
theorem dX10_add_27 : decode cX10_add 27 = .ok (.iconst 1, 1) := by decide +kernel
theorem dX10_add_28 : decode cX10_add 28 = .ok (.iadd, 1) := by decide +kernel
theorem dX10_add_29 : decode cX10_add 29 = .ok (.putfield 15, 3) := by decide +kernel
theorem dX10_add_32 : decode cX10_add 32 = .ok (.iconst 1, 1) := by decide +kernel
theorem dX10_add_33 : decode cX10_add 33 = .ok (.ireturn, 1) := by decide +kernel
theorem dX10_isSmallLetter_0 : decode cX10_isSmallLetter 0 = .ok (.iload_n 1, 1) := by decide +kernel
theorem dX10_isSmallLetter_1 : decode cX10_isSmallLetter 1 = .ok (.ifCond .lt 37, 3) := by decide +kernel
theorem dX10_isSmallLetter_4 : decode cX10_isSmallLetter 4 = .ok (.iload_n 1, 1) := by decide +kernel
theorem dX10_isSmallLetter_5 : decode cX10_isSmallLetter 5 = .ok (.aload_n 0, 1) := by decide +kernel
theorem dX10_isSmallLetter_6 : decode cX10_isSmallLetter 6 = .ok (.getfield 15, 3) := by decide +kernel
theorem dX10_isSmallLetter_9 : decode cX10_isSmallLetter 9 = .ok (.if_icmp .ge 29, 3) := by decide +kernel
theorem dX10_isSmallLetter_12 : decode cX10_isSmallLetter 12 = .ok (.aload_n 0, 1) := by decide +kernel
theorem dX10_isSmallLetter_13 : decode cX10_isSmallLetter 13 = .ok (.getfield 9, 3) := by decide +kernel
theorem dX10_isSmallLetter_16 : decode cX10_isSmallLetter 16 = .ok (.iload_n 1, 1) := by decide +kernel
theorem dX10_isSmallLetter_17 : decode cX10_isSmallLetter 17 = .ok (.iaload, 1) := by decide +kernel
theorem dX10_isSmallLetter_18 : decode cX10_isSmallLetter 18 = .ok (.bipush 97, 2) := by decide +kernel
theorem dX10_isSmallLetter_20 : decode cX10_isSmallLetter 20 = .ok (.if_icmp .lt 18, 3) := by decide +kernel
theorem dX10_isSmallLetter_23 : decode cX10_isSmallLetter 23 = .ok (.aload_n 0, 1) := by decide +kernel
theorem dX10_isSmallLetter_24 : decode cX10_isSmallLetter 24 = .ok (.getfield 9, 3) := by decide +kernel
theorem dX10_isSmallLetter_27 : decode cX10_isSmallLetter 27 = .ok (.iload_n 1, 1) := by decide +kernel
theorem dX10_isSmallLetter_28 : decode cX10_isSmallLetter 28 = .ok (.iaload, 1) := by decide +kernel
theorem dX10_isSmallLetter_29 : decode cX10_isSmallLetter 29 = .ok (.bipush 122, 2) := by decide +kernel
theorem dX10_isSmallLetter_31 : decode cX10_isSmallLetter 31 = .ok (.if_icmp .gt 7, 3) := by decide +kernel
theorem dX10_isSmallLetter_34 : decode cX10_isSmallLetter 34 = .ok (.iconst 1, 1) := by decide +kernel
theorem dX10_isSmallLetter_35 : decode cX10_isSmallLetter 35 = .ok (.goto 4, 3) := by decide +kernel
theorem dX10_isSmallLetter_38 : decode cX10_isSmallLetter 38 = .ok (.iconst 0, 1) := by decide +kernel
theorem dX10_isSmallLetter_39 : decode cX10_isSmallLetter 39 = .ok (.ireturn, 1) := by decide +kernel
theorem dX10_isDigit_0 : decode cX10_isDigit 0 = .ok (.iload_n 1, 1) := by decide +kernel
theorem dX10_isDigit_1 : decode cX10_isDigit 1 = .ok (.ifCond .lt 37, 3) := by decide +kernel
theorem dX10_isDigit_4 : decode cX10_isDigit 4 = .ok (.iload_n 1, 1) := by decide +kernel
theorem dX10_isDigit_5 : decode cX10_isDigit 5 = .ok (.aload_n 0, 1) := by decide +kernel
theorem dX10_isDigit_6 : decode cX10_isDigit 6 = .ok (.getfield 15, 3) := by decide +kernel
theorem dX10_isDigit_9 : decode cX10_isDigit 9 = .ok (.if_icmp .ge 29, 3) := by decide +kernel
theorem dX10_isDigit_12 : decode cX10_isDigit 12 = .ok (.aload_n 0, 1) := by decide +kernel
theorem dX10_isDigit_13 : decode cX10_isDigit 13 = .ok (.getfield 9, 3) := by decide +kernel
theorem dX10_isDigit_16 : decode cX10_isDigit 16 = .ok (.iload_n 1, 1) := by decide +kernel
theorem dX10_isDigit_17 : decode cX10_isDigit 17 = .ok (.iaload, 1) := by decide +kernel
theorem dX10_isDigit_18 : decode cX10_isDigit 18 = .ok (.bipush 48, 2) := by decide +kernel
theorem dX10_isDigit_20 : decode cX10_isDigit 20 = .ok (.if_icmp .lt 18, 3) := by decide +kernel
theorem dX10_isDigit_23 : decode cX10_isDigit 23 = .ok (.aload_n 0, 1) := by decide +kernel
theorem dX10_isDigit_24 : decode cX10_isDigit 24 = .ok (.getfield 9, 3) := by decide +kernel
theorem dX10_isDigit_27 : decode cX10_isDigit 27 = .ok (.iload_n 1, 1) := by decide +kernel
theorem dX10_isDigit_28 : decode cX10_isDigit 28 = .ok (.iaload, 1) := by decide +kernel
theorem dX10_isDigit_29 : decode cX10_isDigit 29 = .ok (.bipush 57, 2) := by decide +kernel
theorem dX10_isDigit_31 : decode cX10_isDigit 31 = .ok (.if_icmp .gt 7, 3) := by decide +kernel
theorem dX10_isDigit_34 : decode cX10_isDigit 34 = .ok (.iconst 1, 1) := by decide +kernel
theorem dX10_isDigit_35 : decode cX10_isDigit 35 = .ok (.goto 4, 3) := by decide +kernel
theorem dX10_isDigit_38 : decode cX10_isDigit 38 = .ok (.iconst 0, 1) := by decide +kernel
theorem dX10_isDigit_39 : decode cX10_isDigit 39 = .ok (.ireturn, 1) := by decide +kernel
theorem dX10_isSign_0 : decode cX10_isSign 0 = .ok (.iload_n 1, 1) := by decide +kernel
theorem dX10_isSign_1 : decode cX10_isSign 1 = .ok (.ifCond .lt 25, 3) := by decide +kernel
theorem dX10_isSign_4 : decode cX10_isSign 4 = .ok (.iload_n 1, 1) := by decide +kernel
theorem dX10_isSign_5 : decode cX10_isSign 5 = .ok (.aload_n 0, 1) := by decide +kernel
theorem dX10_isSign_6 : decode cX10_isSign 6 = .ok (.getfield 15, 3) := by decide +kernel
theorem dX10_isSign_9 : decode cX10_isSign 9 = .ok (.if_icmp .ge 17, 3) := by decide +kernel
theorem dX10_isSign_12 : decode cX10_isSign 12 = .ok (.aload_n 0, 1) := by decide +kernel
theorem dX10_isSign_13 : decode cX10_isSign 13 = .ok (.getfield 9, 3) := by decide +kernel
theorem dX10_isSign_16 : decode cX10_isSign 16 = .ok (.iload_n 1, 1) := by decide +kernel
theorem dX10_isSign_17 : decode cX10_isSign 17 = .ok (.iaload, 1) := by decide +kernel
theorem dX10_isSign_18 : decode cX10_isSign 18 = .ok (.iload_n 2, 1) := by decide +kernel
theorem dX10_isSign_19 : decode cX10_isSign 19 = .ok (.if_icmp .ne 7, 3) := by decide +kernel
theorem dX10_isSign_22 : decode cX10_isSign 22 = .ok (.iconst 1, 1) := by decide +kernel
theorem dX10_isSign_23 : decode cX10_isSign 23 = .ok (.goto 4, 3) := by decide +kernel
theorem dX10_isSign_26 : decode cX10_isSign 26 = .ok (.iconst 0, 1) := by decide +kernel
theorem dX10_isSign_27 : decode cX10_isSign 27 = .ok (.ireturn, 1) := by decide +kernel
theorem dX10_says_0 : decode cX10_says 0 = .ok (.iload_n 2, 1) := by decide +kernel
theorem dX10_says_1 : decode cX10_says 1 = .ok (.iload_n 1, 1) := by decide +kernel
theorem dX10_says_2 : decode cX10_says 2 = .ok (.isub, 1) := by decide +kernel
theorem dX10_says_3 : decode cX10_says 3 = .ok (.aload_n 3, 1) := by decide +kernel
theorem dX10_says_4 : decode cX10_says 4 = .ok (.invokevirtual 19, 3) := by decide +kernel
theorem dX10_says_7 : decode cX10_says 7 = .ok (.if_icmp .eq 5, 3) := by decide +kernel
theorem dX10_says_10 : decode cX10_says 10 = .ok (.iconst 0, 1) := by decide +kernel
theorem dX10_says_11 : decode cX10_says 11 = .ok (.ireturn, 1) := by decide +kernel
theorem dX10_says_12 : decode cX10_says 12 = .ok (.iconst 0, 1) := by decide +kernel
theorem dX10_says_13 : decode cX10_says 13 = .ok (.istore 4, 2) := by decide +kernel
theorem dX10_says_15 : decode cX10_says 15 = .ok (.iload 4, 2) := by decide +kernel
theorem dX10_says_17 : decode cX10_says 17 = .ok (.aload_n 3, 1) := by decide +kernel
theorem dX10_says_18 : decode cX10_says 18 = .ok (.invokevirtual 19, 3) := by decide +kernel
theorem dX10_says_21 : decode cX10_says 21 = .ok (.if_icmp .ge 28, 3) := by decide +kernel
theorem dX10_says_24 : decode cX10_says 24 = .ok (.aload_n 0, 1) := by decide +kernel
theorem dX10_says_25 : decode cX10_says 25 = .ok (.iload_n 1, 1) := by decide +kernel
theorem dX10_says_26 : decode cX10_says 26 = .ok (.iload 4, 2) := by decide +kernel
theorem dX10_says_28 : decode cX10_says 28 = .ok (.iadd, 1) := by decide +kernel
theorem dX10_says_29 : decode cX10_says 29 = .ok (.aload_n 3, 1) := by decide +kernel
theorem dX10_says_30 : decode cX10_says 30 = .ok (.iload 4, 2) := by decide +kernel
theorem dX10_says_32 : decode cX10_says 32 = .ok (.invokevirtual 24, 3) := by decide +kernel
theorem dX10_says_35 : decode cX10_says 35 = .ok (.invokevirtual 28, 3) := by decide +kernel
theorem dX10_says_38 : decode cX10_says 38 = .ok (.ifCond .ne 5, 3) := by decide +kernel
theorem dX10_says_41 : decode cX10_says 41 = .ok (.iconst 0, 1) := by decide +kernel
theorem dX10_says_42 : decode cX10_says 42 = .ok (.ireturn, 1) := by decide +kernel
theorem dX10_says_43 : decode cX10_says 43 = .ok (.iinc 4 1, 3) := by decide +kernel
theorem dX10_says_46 : decode cX10_says 46 = .ok (.goto (-31), 3) := by decide +kernel
theorem dX10_says_49 : decode cX10_says 49 = .ok (.iconst 1, 1) := by decide +kernel
theorem dX10_says_50 : decode cX10_says 50 = .ok (.ireturn, 1) := by decide +kernel
theorem dX10_wordAt_0 : decode cX10_wordAt 0 = .ok (.iload_n 2, 1) := by decide +kernel
theorem dX10_wordAt_1 : decode cX10_wordAt 1 = .ok (.iconst 0, 1) := by decide +kernel
theorem dX10_wordAt_2 : decode cX10_wordAt 2 = .ok (.bipush 12, 2) := by decide +kernel
theorem dX10_wordAt_4 : decode cX10_wordAt 4 = .ok (.invokestatic 32, 3) := by decide +kernel
theorem dX10_wordAt_7 : decode cX10_wordAt 7 = .ok (.ifCond .eq 7, 3) := by decide +kernel
theorem dX10_wordAt_10 : decode cX10_wordAt 10 = .ok (.iload_n 2, 1) := by decide +kernel
theorem dX10_wordAt_11 : decode cX10_wordAt 11 = .ok (.goto 4, 3) := by decide +kernel
theorem dX10_wordAt_14 : decode cX10_wordAt 14 = .ok (.iconst 0, 1) := by decide +kernel
theorem dX10_wordAt_15 : decode cX10_wordAt 15 = .ok (.newarray .int, 2) := by decide +kernel
theorem dX10_wordAt_17 : decode cX10_wordAt 17 = .ok (.astore_n 3, 1) := by decide +kernel
theorem dX10_wordAt_18 : decode cX10_wordAt 18 = .ok (.iconst 0, 1) := by decide +kernel
theorem dX10_wordAt_19 : decode cX10_wordAt 19 = .ok (.istore 4, 2) := by decide +kernel
theorem dX10_wordAt_21 : decode cX10_wordAt 21 = .ok (.iload 4, 2) := by decide +kernel
theorem dX10_wordAt_23 : decode cX10_wordAt 23 = .ok (.aload_n 3, 1) := by decide +kernel
theorem dX10_wordAt_24 : decode cX10_wordAt 24 = .ok (.arraylength, 1) := by decide +kernel
theorem dX10_wordAt_25 : decode cX10_wordAt 25 = .ok (.if_icmp .ge 40, 3) := by decide +kernel
theorem dX10_wordAt_28 : decode cX10_wordAt 28 = .ok (.aload_n 3, 1) := by decide +kernel
theorem dX10_wordAt_29 : decode cX10_wordAt 29 = .ok (.iload 4, 2) := by decide +kernel
theorem dX10_wordAt_31 : decode cX10_wordAt 31 = .ok (.aload_n 0, 1) := by decide +kernel
theorem dX10_wordAt_32 : decode cX10_wordAt 32 = .ok (.iload_n 1, 1) := by decide +kernel
theorem dX10_wordAt_33 : decode cX10_wordAt 33 = .ok (.iload 4, 2) := by decide +kernel
theorem dX10_wordAt_35 : decode cX10_wordAt 35 = .ok (.iadd, 1) := by decide +kernel
theorem dX10_wordAt_36 : decode cX10_wordAt 36 = .ok (.invokevirtual 36, 3) := by decide +kernel
theorem dX10_wordAt_39 : decode cX10_wordAt 39 = .ok (.ifCond .eq 18, 3) := by decide +kernel
theorem dX10_wordAt_42 : decode cX10_wordAt 42 = .ok (.aload_n 0, 1) := by decide +kernel
theorem dX10_wordAt_43 : decode cX10_wordAt 43 = .ok (.getfield 9, 3) := by decide +kernel
theorem dX10_wordAt_46 : decode cX10_wordAt 46 = .ok (.iload_n 1, 1) := by decide +kernel
theorem dX10_wordAt_47 : decode cX10_wordAt 47 = .ok (.iload 4, 2) := by decide +kernel
theorem dX10_wordAt_49 : decode cX10_wordAt 49 = .ok (.iadd, 1) := by decide +kernel
theorem dX10_wordAt_50 : decode cX10_wordAt 50 = .ok (.iaload, 1) := by decide +kernel
theorem dX10_wordAt_51 : decode cX10_wordAt 51 = .ok (.bipush 97, 2) := by decide +kernel
theorem dX10_wordAt_53 : decode cX10_wordAt 53 = .ok (.isub, 1) := by decide +kernel
theorem dX10_wordAt_54 : decode cX10_wordAt 54 = .ok (.goto 4, 3) := by decide +kernel
theorem dX10_wordAt_57 : decode cX10_wordAt 57 = .ok (.iconst 0, 1) := by decide +kernel
theorem dX10_wordAt_58 : decode cX10_wordAt 58 = .ok (.iastore, 1) := by decide +kernel
theorem dX10_wordAt_59 : decode cX10_wordAt 59 = .ok (.iinc 4 1, 3) := by decide +kernel
theorem dX10_wordAt_62 : decode cX10_wordAt 62 = .ok (.goto (-41), 3) := by decide +kernel
theorem dX10_wordAt_65 : decode cX10_wordAt 65 = .ok (.aload_n 3, 1) := by decide +kernel
theorem dX10_wordAt_66 : decode cX10_wordAt 66 = .ok (.areturn, 1) := by decide +kernel
theorem dX11_init_0 : decode cX11_init 0 = .ok (.aload_n 0, 1) := by decide +kernel
theorem dX11_init_1 : decode cX11_init 1 = .ok (.invokespecial 1, 3) := by decide +kernel
theorem dX11_init_4 : decode cX11_init 4 = .ok (.aload_n 0, 1) := by decide +kernel
theorem dX11_init_5 : decode cX11_init 5 = .ok (.new 7, 3) := by decide +kernel
theorem dX11_init_8 : decode cX11_init 8 = .ok (.dup, 1) := by decide +kernel
theorem dX11_init_9 : decode cX11_init 9 = .ok (.invokespecial 9, 3) := by decide +kernel
theorem dX11_init_12 : decode cX11_init 12 = .ok (.putfield 10, 3) := by decide +kernel
theorem dX11_init_15 : decode cX11_init 15 = .ok (.aload_n 0, 1) := by decide +kernel
theorem dX11_init_16 : decode cX11_init 16 = .ok (.new 16, 3) := by decide +kernel
theorem dX11_init_19 : decode cX11_init 19 = .ok (.dup, 1) := by decide +kernel
theorem dX11_init_20 : decode cX11_init 20 = .ok (.aload_n 0, 1) := by decide +kernel
theorem dX11_init_21 : decode cX11_init 21 = .ok (.getfield 10, 3) := by decide +kernel
theorem dX11_init_24 : decode cX11_init 24 = .ok (.invokespecial 18, 3) := by decide +kernel
theorem dX11_init_27 : decode cX11_init 27 = .ok (.putfield 21, 3) := by decide +kernel
theorem dX11_init_30 : decode cX11_init 30 = .ok (.aload_n 0, 1) := by decide +kernel
theorem dX11_init_31 : decode cX11_init 31 = .ok (.new 25, 3) := by decide +kernel
theorem dX11_init_34 : decode cX11_init 34 = .ok (.dup, 1) := by decide +kernel
theorem dX11_init_35 : decode cX11_init 35 = .ok (.invokespecial 27, 3) := by decide +kernel
theorem dX11_init_38 : decode cX11_init 38 = .ok (.putfield 28, 3) := by decide +kernel
theorem dX11_init_41 : decode cX11_init 41 = .ok (.aload_n 0, 1) := by decide +kernel
theorem dX11_init_42 : decode cX11_init 42 = .ok (.new 32, 3) := by decide +kernel
theorem dX11_init_45 : decode cX11_init 45 = .ok (.dup, 1) := by decide +kernel
theorem dX11_init_46 : decode cX11_init 46 = .ok (.invokespecial 34, 3) := by decide +kernel
theorem dX11_init_49 : decode cX11_init 49 = .ok (.putfield 35, 3) := by decide +kernel
theorem dX11_init_52 : decode cX11_init 52 = .ok (.aload_n 0, 1) := by decide +kernel
theorem dX11_init_53 : decode cX11_init 53 = .ok (.new 39, 3) := by decide +kernel
theorem dX11_init_56 : decode cX11_init 56 = .ok (.dup, 1) := by decide +kernel
theorem dX11_init_57 : decode cX11_init 57 = .ok (.invokespecial 41, 3) := by decide +kernel
theorem dX11_init_60 : decode cX11_init 60 = .ok (.putfield 42, 3) := by decide +kernel
theorem dX11_init_63 : decode cX11_init 63 = .ok (.aload_n 0, 1) := by decide +kernel
theorem dX11_init_64 : decode cX11_init 64 = .ok (.new 46, 3) := by decide +kernel
theorem dX11_init_67 : decode cX11_init 67 = .ok (.dup, 1) := by decide +kernel
theorem dX11_init_68 : decode cX11_init 68 = .ok (.aload_n 0, 1) := by decide +kernel
theorem dX11_init_69 : decode cX11_init 69 = .ok (.getfield 28, 3) := by decide +kernel
theorem dX11_init_72 : decode cX11_init 72 = .ok (.iconst 0, 1) := by decide +kernel
theorem dX11_init_73 : decode cX11_init 73 = .ok (.iconst 0, 1) := by decide +kernel
theorem dX11_init_74 : decode cX11_init 74 = .ok (.invokespecial 48, 3) := by decide +kernel
theorem dX11_init_77 : decode cX11_init 77 = .ok (.putfield 51, 3) := by decide +kernel
theorem dX11_init_80 : decode cX11_init 80 = .ok (.aload_n 0, 1) := by decide +kernel
theorem dX11_init_81 : decode cX11_init 81 = .ok (.new 55, 3) := by decide +kernel
theorem dX11_init_84 : decode cX11_init 84 = .ok (.dup, 1) := by decide +kernel
theorem dX11_init_85 : decode cX11_init 85 = .ok (.aload_n 0, 1) := by decide +kernel
theorem dX11_init_86 : decode cX11_init 86 = .ok (.getfield 51, 3) := by decide +kernel
theorem dX11_init_89 : decode cX11_init 89 = .ok (.invokespecial 57, 3) := by decide +kernel
theorem dX11_init_92 : decode cX11_init 92 = .ok (.putfield 60, 3) := by decide +kernel
theorem dX11_init_95 : decode cX11_init 95 = .ok (.return_, 1) := by decide +kernel
theorem dX11_write_0 : decode cX11_write 0 = .ok (.iload_n 1, 1) := by decide +kernel
theorem dX11_write_1 : decode cX11_write 1 = .ok (.iconst 0, 1) := by decide +kernel
theorem dX11_write_2 : decode cX11_write 2 = .ok (.sipush 255, 3) := by decide +kernel
theorem dX11_write_5 : decode cX11_write 5 = .ok (.invokestatic 64, 3) := by decide +kernel
theorem dX11_write_8 : decode cX11_write 8 = .ok (.ifCond .ne 6, 3) := by decide +kernel
theorem dX11_write_11 : decode cX11_write 11 = .ok (.bipush (-3), 2) := by decide +kernel
theorem dX11_write_13 : decode cX11_write 13 = .ok (.ireturn, 1) := by decide +kernel
theorem dX11_write_14 : decode cX11_write 14 = .ok (.aload_n 0, 1) := by decide +kernel
theorem dX11_write_15 : decode cX11_write 15 = .ok (.getfield 10, 3) := by decide +kernel
theorem dX11_write_18 : decode cX11_write 18 = .ok (.iload_n 1, 1) := by decide +kernel
theorem dX11_write_19 : decode cX11_write 19 = .ok (.invokevirtual 68, 3) := by decide +kernel
theorem dX11_write_22 : decode cX11_write 22 = .ok (.ifCond .eq 13, 3) := by decide +kernel
theorem dX11_write_25 : decode cX11_write 25 = .ok (.aload_n 0, 1) := by decide +kernel
theorem dX11_write_26 : decode cX11_write 26 = .ok (.getfield 10, 3) := by decide +kernel
theorem dX11_write_29 : decode cX11_write 29 = .ok (.getfield 72, 3) := by decide +kernel
theorem dX11_write_32 : decode cX11_write 32 = .ok (.goto 5, 3) := by decide +kernel
theorem dX11_write_35 : decode cX11_write 35 = .ok (.bipush (-5), 2) := by decide +kernel
theorem dX11_write_37 : decode cX11_write 37 = .ok (.ireturn, 1) := by decide +kernel
theorem dX11_erase_0 : decode cX11_erase 0 = .ok (.aload_n 0, 1) := by decide +kernel
theorem dX11_erase_1 : decode cX11_erase 1 = .ok (.getfield 10, 3) := by decide +kernel
theorem dX11_erase_4 : decode cX11_erase 4 = .ok (.getfield 72, 3) := by decide +kernel
theorem dX11_erase_7 : decode cX11_erase 7 = .ok (.istore_n 1, 1) := by decide +kernel
theorem dX11_erase_8 : decode cX11_erase 8 = .ok (.aload_n 0, 1) := by decide +kernel
theorem dX11_erase_9 : decode cX11_erase 9 = .ok (.getfield 10, 3) := by decide +kernel
theorem dX11_erase_12 : decode cX11_erase 12 = .ok (.iconst 0, 1) := by decide +kernel
theorem dX11_erase_13 : decode cX11_erase 13 = .ok (.putfield 72, 3) := by decide +kernel
theorem dX11_erase_16 : decode cX11_erase 16 = .ok (.iload_n 1, 1) := by decide +kernel
theorem dX11_erase_17 : decode cX11_erase 17 = .ok (.ireturn, 1) := by decide +kernel
theorem dX11_fault_0 : decode cX11_fault 0 = .ok (.aload_n 0, 1) := by decide +kernel
theorem dX11_fault_1 : decode cX11_fault 1 = .ok (.getfield 21, 3) := by decide +kernel
theorem dX11_fault_4 : decode cX11_fault 4 = .ok (.aload_n 0, 1) := by decide +kernel
theorem dX11_fault_5 : decode cX11_fault 5 = .ok (.getfield 28, 3) := by decide +kernel
theorem dX11_fault_8 : decode cX11_fault 8 = .ok (.getfield 76, 3) := by decide +kernel
theorem dX11_fault_11 : decode cX11_fault 11 = .ok (.invokevirtual 79, 3) := by decide +kernel
theorem dX11_fault_14 : decode cX11_fault 14 = .ok (.ireturn, 1) := by decide +kernel
theorem dX11_tell_0 : decode cX11_tell 0 = .ok (.aload_n 0, 1) := by decide +kernel
theorem dX11_tell_1 : decode cX11_tell 1 = .ok (.getfield 21, 3) := by decide +kernel
theorem dX11_tell_4 : decode cX11_tell 4 = .ok (.aload_n 0, 1) := by decide +kernel
theorem dX11_tell_5 : decode cX11_tell 5 = .ok (.getfield 28, 3) := by decide +kernel
theorem dX11_tell_8 : decode cX11_tell 8 = .ok (.getfield 76, 3) := by decide +kernel
theorem dX11_tell_11 : decode cX11_tell 11 = .ok (.invokevirtual 79, 3) := by decide +kernel
theorem dX11_tell_14 : decode cX11_tell 14 = .ok (.iconst (-1), 1) := by decide +kernel
theorem dX11_tell_15 : decode cX11_tell 15 = .ok (.if_icmp .eq 6, 3) := by decide +kernel
theorem dX11_tell_18 : decode cX11_tell 18 = .ok (.bipush (-4), 2) := by decide +kernel
theorem dX11_tell_20 : decode cX11_tell 20 = .ok (.ireturn, 1) := by decide +kernel
theorem dX11_tell_21 : decode cX11_tell 21 = .ok (.iconst 0, 1) := by decide +kernel
theorem dX11_tell_22 : decode cX11_tell 22 = .ok (.istore_n 1, 1) := by decide +kernel
theorem dX11_tell_23 : decode cX11_tell 23 = .ok (.iload_n 1, 1) := by decide +kernel
theorem dX11_tell_24 : decode cX11_tell 24 = .ok (.aload_n 0, 1) := by decide +kernel
theorem dX11_tell_25 : decode cX11_tell 25 = .ok (.getfield 21, 3) := by decide +kernel
theorem dX11_tell_28 : decode cX11_tell 28 = .ok (.getfield 83, 3) := by decide +kernel
theorem dX11_tell_31 : decode cX11_tell 31 = .ok (.if_icmp .ge 28, 3) := by decide +kernel
theorem dX11_tell_34 : decode cX11_tell 34 = .ok (.iload_n 1, 1) := by decide +kernel
theorem dX11_tell_35 : decode cX11_tell 35 = .ok (.bipush 24, 2) := by decide +kernel
theorem dX11_tell_37 : decode cX11_tell 37 = .ok (.if_icmp .ge 22, 3) := by decide +kernel
theorem dX11_tell_40 : decode cX11_tell 40 = .ok (.aload_n 0, 1) := by decide +kernel
theorem dX11_tell_41 : decode cX11_tell 41 = .ok (.aload_n 0, 1) := by decide +kernel
theorem dX11_tell_42 : decode cX11_tell 42 = .ok (.getfield 21, 3) := by decide +kernel
theorem dX11_tell_45 : decode cX11_tell 45 = .ok (.getfield 86, 3) := by decide +kernel
theorem dX11_tell_48 : decode cX11_tell 48 = .ok (.iload_n 1, 1) := by decide +kernel
theorem dX11_tell_49 : decode cX11_tell 49 = .ok (.aaload, 1) := by decide +kernel
theorem dX11_tell_50 : decode cX11_tell 50 = .ok (.invokevirtual 90, 3) := by decide +kernel
theorem dX11_tell_53 : decode cX11_tell 53 = .ok (.iinc 1 1, 3) := by decide +kernel
theorem dX11_tell_56 : decode cX11_tell 56 = .ok (.goto (-33), 3) := by decide +kernel
theorem dX11_tell_59 : decode cX11_tell 59 = .ok (.aload_n 0, 1) := by decide +kernel
theorem dX11_tell_60 : decode cX11_tell 60 = .ok (.getfield 60, 3) := by decide +kernel
theorem dX11_tell_63 : decode cX11_tell 63 = .ok (.invokevirtual 94, 3) := by decide +kernel
theorem dX11_tell_66 : decode cX11_tell 66 = .ok (.aload_n 0, 1) := by decide +kernel
theorem dX11_tell_67 : decode cX11_tell 67 = .ok (.getfield 10, 3) := by decide +kernel
theorem dX11_tell_70 : decode cX11_tell 70 = .ok (.iconst 0, 1) := by decide +kernel
theorem dX11_tell_71 : decode cX11_tell 71 = .ok (.putfield 72, 3) := by decide +kernel
theorem dX11_tell_74 : decode cX11_tell 74 = .ok (.aload_n 0, 1) := by decide +kernel
theorem dX11_tell_75 : decode cX11_tell 75 = .ok (.getfield 21, 3) := by decide +kernel
theorem dX11_tell_78 : decode cX11_tell 78 = .ok (.getfield 83, 3) := by decide +kernel
theorem dX11_tell_81 : decode cX11_tell 81 = .ok (.ireturn, 1) := by decide +kernel
theorem dX11_part_0 : decode cX11_part 0 = .ok (.aload_n 0, 1) := by decide +kernel
theorem dX11_part_1 : decode cX11_part 1 = .ok (.getfield 28, 3) := by decide +kernel
theorem dX11_part_4 : decode cX11_part 4 = .ok (.iload_n 1, 1) := by decide +kernel
theorem dX11_part_5 : decode cX11_part 5 = .ok (.invokevirtual 97, 3) := by decide +kernel
theorem dX11_part_8 : decode cX11_part 8 = .ok (.ifCond .ne 6, 3) := by decide +kernel
theorem dX11_part_11 : decode cX11_part 11 = .ok (.bipush (-2), 2) := by decide +kernel
theorem dX11_part_13 : decode cX11_part 13 = .ok (.ireturn, 1) := by decide +kernel
theorem dX11_part_14 : decode cX11_part 14 = .ok (.aload_n 0, 1) := by decide +kernel
theorem dX11_part_15 : decode cX11_part 15 = .ok (.getfield 28, 3) := by decide +kernel
theorem dX11_part_18 : decode cX11_part 18 = .ok (.getfield 100, 3) := by decide +kernel
theorem dX11_part_21 : decode cX11_part 21 = .ok (.iload_n 1, 1) := by decide +kernel
theorem dX11_part_22 : decode cX11_part 22 = .ok (.aaload, 1) := by decide +kernel
theorem dX11_part_23 : decode cX11_part 23 = .ok (.astore_n 3, 1) := by decide +kernel
theorem dX11_part_24 : decode cX11_part 24 = .ok (.iload_n 2, 1) := by decide +kernel
theorem dX11_part_25 : decode cX11_part 25 = .ok (.tableswitch 52 0 3 #[31, 37, 42, 47], 31) := by decide +kernel
theorem dX11_part_56 : decode cX11_part 56 = .ok (.aload_n 3, 1) := by decide +kernel
theorem dX11_part_57 : decode cX11_part 57 = .ok (.getfield 104, 3) := by decide +kernel
theorem dX11_part_60 : decode cX11_part 60 = .ok (.arraylength, 1) := by decide +kernel
theorem dX11_part_61 : decode cX11_part 61 = .ok (.ireturn, 1) := by decide +kernel
theorem dX11_part_62 : decode cX11_part 62 = .ok (.aload_n 3, 1) := by decide +kernel
theorem dX11_part_63 : decode cX11_part 63 = .ok (.getfield 110, 3) := by decide +kernel
theorem dX11_part_66 : decode cX11_part 66 = .ok (.ireturn, 1) := by decide +kernel
theorem dX11_part_67 : decode cX11_part 67 = .ok (.aload_n 3, 1) := by decide +kernel
theorem dX11_part_68 : decode cX11_part 68 = .ok (.getfield 113, 3) := by decide +kernel
theorem dX11_part_71 : decode cX11_part 71 = .ok (.ireturn, 1) := by decide +kernel
theorem dX11_part_72 : decode cX11_part 72 = .ok (.aload_n 3, 1) := by decide +kernel
theorem dX11_part_73 : decode cX11_part 73 = .ok (.invokevirtual 116, 3) := by decide +kernel
theorem dX11_part_76 : decode cX11_part 76 = .ok (.ireturn, 1) := by decide +kernel
theorem dX11_part_77 : decode cX11_part 77 = .ok (.bipush (-3), 2) := by decide +kernel
theorem dX11_part_79 : decode cX11_part 79 = .ok (.ireturn, 1) := by decide +kernel
theorem dX11_letter_0 : decode cX11_letter 0 = .ok (.aload_n 0, 1) := by decide +kernel
theorem dX11_letter_1 : decode cX11_letter 1 = .ok (.getfield 28, 3) := by decide +kernel
theorem dX11_letter_4 : decode cX11_letter 4 = .ok (.iload_n 1, 1) := by decide +kernel
theorem dX11_letter_5 : decode cX11_letter 5 = .ok (.invokevirtual 97, 3) := by decide +kernel
theorem dX11_letter_8 : decode cX11_letter 8 = .ok (.ifCond .eq 19, 3) := by decide +kernel
theorem dX11_letter_11 : decode cX11_letter 11 = .ok (.aload_n 0, 1) := by decide +kernel
theorem dX11_letter_12 : decode cX11_letter 12 = .ok (.getfield 28, 3) := by decide +kernel
theorem dX11_letter_15 : decode cX11_letter 15 = .ok (.getfield 100, 3) := by decide +kernel
theorem dX11_letter_18 : decode cX11_letter 18 = .ok (.iload_n 1, 1) := by decide +kernel
theorem dX11_letter_19 : decode cX11_letter 19 = .ok (.aaload, 1) := by decide +kernel
theorem dX11_letter_20 : decode cX11_letter 20 = .ok (.iload_n 2, 1) := by decide +kernel
theorem dX11_letter_21 : decode cX11_letter 21 = .ok (.invokevirtual 120, 3) := by decide +kernel
theorem dX11_letter_24 : decode cX11_letter 24 = .ok (.ifCond .ne 6, 3) := by decide +kernel
theorem dX11_letter_27 : decode cX11_letter 27 = .ok (.bipush (-2), 2) := by decide +kernel
theorem dX11_letter_29 : decode cX11_letter 29 = .ok (.ireturn, 1) := by decide +kernel
theorem dX11_letter_30 : decode cX11_letter 30 = .ok (.aload_n 0, 1) := by decide +kernel
theorem dX11_letter_31 : decode cX11_letter 31 = .ok (.getfield 28, 3) := by decide +kernel
theorem dX11_letter_34 : decode cX11_letter 34 = .ok (.getfield 100, 3) := by decide +kernel
theorem dX11_letter_37 : decode cX11_letter 37 = .ok (.iload_n 1, 1) := by decide +kernel
theorem dX11_letter_38 : decode cX11_letter 38 = .ok (.aaload, 1) := by decide +kernel
theorem dX11_letter_39 : decode cX11_letter 39 = .ok (.getfield 104, 3) := by decide +kernel
theorem dX11_letter_42 : decode cX11_letter 42 = .ok (.iload_n 2, 1) := by decide +kernel
theorem dX11_letter_43 : decode cX11_letter 43 = .ok (.iaload, 1) := by decide +kernel
theorem dX11_letter_44 : decode cX11_letter 44 = .ok (.ireturn, 1) := by decide +kernel
theorem dX11_packets_0 : decode cX11_packets 0 = .ok (.iload_n 1, 1) := by decide +kernel
theorem dX11_packets_1 : decode cX11_packets 1 = .ok (.iconst 1, 1) := by decide +kernel
theorem dX11_packets_2 : decode cX11_packets 2 = .ok (.bipush 8, 2) := by decide +kernel
theorem dX11_packets_4 : decode cX11_packets 4 = .ok (.invokestatic 64, 3) := by decide +kernel
theorem dX11_packets_7 : decode cX11_packets 7 = .ok (.ifCond .ne 6, 3) := by decide +kernel
theorem dX11_packets_10 : decode cX11_packets 10 = .ok (.bipush (-3), 2) := by decide +kernel
theorem dX11_packets_12 : decode cX11_packets 12 = .ok (.ireturn, 1) := by decide +kernel
theorem dX11_packets_13 : decode cX11_packets 13 = .ok (.aload_n 0, 1) := by decide +kernel
theorem dX11_packets_14 : decode cX11_packets 14 = .ok (.getfield 60, 3) := by decide +kernel
theorem dX11_packets_17 : decode cX11_packets 17 = .ok (.aload_n 0, 1) := by decide +kernel
theorem dX11_packets_18 : decode cX11_packets 18 = .ok (.getfield 28, 3) := by decide +kernel
theorem dX11_packets_21 : decode cX11_packets 21 = .ok (.aload_n 0, 1) := by decide +kernel
theorem dX11_packets_22 : decode cX11_packets 22 = .ok (.getfield 51, 3) := by decide +kernel
theorem dX11_packets_25 : decode cX11_packets 25 = .ok (.aconst_null, 1) := by decide +kernel
theorem dX11_packets_26 : decode cX11_packets 26 = .ok (.invokevirtual 123, 3) := by decide +kernel
theorem dX11_packets_29 : decode cX11_packets 29 = .ok (.aload_n 0, 1) := by decide +kernel
theorem dX11_packets_30 : decode cX11_packets 30 = .ok (.getfield 28, 3) := by decide +kernel
theorem dX11_packets_33 : decode cX11_packets 33 = .ok (.getfield 127, 3) := by decide +kernel
theorem dX11_packets_36 : decode cX11_packets 36 = .ok (.istore_n 2, 1) := by decide +kernel
theorem dX11_packets_37 : decode cX11_packets 37 = .ok (.aload_n 0, 1) := by decide +kernel
theorem dX11_packets_38 : decode cX11_packets 38 = .ok (.getfield 28, 3) := by decide +kernel
theorem dX11_packets_41 : decode cX11_packets 41 = .ok (.iload_n 1, 1) := by decide +kernel
theorem dX11_packets_42 : decode cX11_packets 42 = .ok (.putfield 127, 3) := by decide +kernel
theorem dX11_packets_45 : decode cX11_packets 45 = .ok (.iload_n 2, 1) := by decide +kernel
theorem dX11_packets_46 : decode cX11_packets 46 = .ok (.ireturn, 1) := by decide +kernel
theorem dX11_room_0 : decode cX11_room 0 = .ok (.iload_n 1, 1) := by decide +kernel
theorem dX11_room_1 : decode cX11_room 1 = .ok (.iconst 1, 1) := by decide +kernel
theorem dX11_room_2 : decode cX11_room 2 = .ok (.bipush 40, 2) := by decide +kernel
theorem dX11_room_4 : decode cX11_room 4 = .ok (.invokestatic 64, 3) := by decide +kernel
theorem dX11_room_7 : decode cX11_room 7 = .ok (.ifCond .ne 6, 3) := by decide +kernel
theorem dX11_room_10 : decode cX11_room 10 = .ok (.bipush (-3), 2) := by decide +kernel
theorem dX11_room_12 : decode cX11_room 12 = .ok (.ireturn, 1) := by decide +kernel
theorem dX11_room_13 : decode cX11_room 13 = .ok (.aload_n 0, 1) := by decide +kernel
theorem dX11_room_14 : decode cX11_room 14 = .ok (.getfield 60, 3) := by decide +kernel
theorem dX11_room_17 : decode cX11_room 17 = .ok (.aload_n 0, 1) := by decide +kernel
theorem dX11_room_18 : decode cX11_room 18 = .ok (.getfield 28, 3) := by decide +kernel
theorem dX11_room_21 : decode cX11_room 21 = .ok (.aload_n 0, 1) := by decide +kernel
theorem dX11_room_22 : decode cX11_room 22 = .ok (.getfield 51, 3) := by decide +kernel
theorem dX11_room_25 : decode cX11_room 25 = .ok (.aconst_null, 1) := by decide +kernel
theorem dX11_room_26 : decode cX11_room 26 = .ok (.invokevirtual 123, 3) := by decide +kernel
theorem dX11_room_29 : decode cX11_room 29 = .ok (.aload_n 0, 1) := by decide +kernel
theorem dX11_room_30 : decode cX11_room 30 = .ok (.getfield 28, 3) := by decide +kernel
theorem dX11_room_33 : decode cX11_room 33 = .ok (.getfield 130, 3) := by decide +kernel
theorem dX11_room_36 : decode cX11_room 36 = .ok (.istore_n 2, 1) := by decide +kernel
theorem dX11_room_37 : decode cX11_room 37 = .ok (.aload_n 0, 1) := by decide +kernel
theorem dX11_room_38 : decode cX11_room 38 = .ok (.getfield 28, 3) := by decide +kernel
theorem dX11_room_41 : decode cX11_room 41 = .ok (.iload_n 1, 1) := by decide +kernel
theorem dX11_room_42 : decode cX11_room 42 = .ok (.putfield 130, 3) := by decide +kernel
theorem dX11_room_45 : decode cX11_room 45 = .ok (.iload_n 2, 1) := by decide +kernel
theorem dX11_room_46 : decode cX11_room 46 = .ok (.ireturn, 1) := by decide +kernel
theorem dX11_need_0 : decode cX11_need 0 = .ok (.aload_n 0, 1) := by decide +kernel
theorem dX11_need_1 : decode cX11_need 1 = .ok (.getfield 28, 3) := by decide +kernel
theorem dX11_need_4 : decode cX11_need 4 = .ok (.iload_n 1, 1) := by decide +kernel
theorem dX11_need_5 : decode cX11_need 5 = .ok (.invokevirtual 97, 3) := by decide +kernel
theorem dX11_need_8 : decode cX11_need 8 = .ok (.ifCond .ne 6, 3) := by decide +kernel
theorem dX11_need_11 : decode cX11_need 11 = .ok (.bipush (-2), 2) := by decide +kernel
theorem dX11_need_13 : decode cX11_need 13 = .ok (.ireturn, 1) := by decide +kernel
theorem dX11_need_14 : decode cX11_need 14 = .ok (.iload_n 2, 1) := by decide +kernel
theorem dX11_need_15 : decode cX11_need 15 = .ok (.iconst 1, 1) := by decide +kernel
theorem dX11_need_16 : decode cX11_need 16 = .ok (.bipush 8, 2) := by decide +kernel
theorem dX11_need_18 : decode cX11_need 18 = .ok (.invokestatic 64, 3) := by decide +kernel
theorem dX11_need_21 : decode cX11_need 21 = .ok (.ifCond .ne 6, 3) := by decide +kernel
theorem dX11_need_24 : decode cX11_need 24 = .ok (.bipush (-3), 2) := by decide +kernel
theorem dX11_need_26 : decode cX11_need 26 = .ok (.ireturn, 1) := by decide +kernel
theorem dX11_need_27 : decode cX11_need 27 = .ok (.aload_n 0, 1) := by decide +kernel
theorem dX11_need_28 : decode cX11_need 28 = .ok (.getfield 60, 3) := by decide +kernel
theorem dX11_need_31 : decode cX11_need 31 = .ok (.aload_n 0, 1) := by decide +kernel
theorem dX11_need_32 : decode cX11_need 32 = .ok (.getfield 28, 3) := by decide +kernel
theorem dX11_need_35 : decode cX11_need 35 = .ok (.aload_n 0, 1) := by decide +kernel
theorem dX11_need_36 : decode cX11_need 36 = .ok (.getfield 51, 3) := by decide +kernel
theorem dX11_need_39 : decode cX11_need 39 = .ok (.aconst_null, 1) := by decide +kernel
theorem dX11_need_40 : decode cX11_need 40 = .ok (.invokevirtual 123, 3) := by decide +kernel
theorem dX11_need_43 : decode cX11_need 43 = .ok (.aload_n 0, 1) := by decide +kernel
theorem dX11_need_44 : decode cX11_need 44 = .ok (.getfield 28, 3) := by decide +kernel
theorem dX11_need_47 : decode cX11_need 47 = .ok (.getfield 100, 3) := by decide +kernel
theorem dX11_need_50 : decode cX11_need 50 = .ok (.iload_n 1, 1) := by decide +kernel
theorem dX11_need_51 : decode cX11_need 51 = .ok (.aaload, 1) := by decide +kernel
theorem dX11_need_52 : decode cX11_need 52 = .ok (.astore_n 3, 1) := by decide +kernel
theorem dX11_need_53 : decode cX11_need 53 = .ok (.aload_n 0, 1) := by decide +kernel
theorem dX11_need_54 : decode cX11_need 54 = .ok (.getfield 28, 3) := by decide +kernel
theorem dX11_need_57 : decode cX11_need 57 = .ok (.getfield 100, 3) := by decide +kernel
theorem dX11_need_60 : decode cX11_need 60 = .ok (.iload_n 1, 1) := by decide +kernel
theorem dX11_need_61 : decode cX11_need 61 = .ok (.new 105, 3) := by decide +kernel
theorem dX11_need_64 : decode cX11_need 64 = .ok (.dup, 1) := by decide +kernel
theorem dX11_need_65 : decode cX11_need 65 = .ok (.aload_n 3, 1) := by decide +kernel
theorem dX11_need_66 : decode cX11_need 66 = .ok (.getfield 104, 3) := by decide +kernel
theorem dX11_need_69 : decode cX11_need 69 = .ok (.iload_n 2, 1) := by decide +kernel
theorem dX11_need_70 : decode cX11_need 70 = .ok (.aload_n 3, 1) := by decide +kernel
theorem dX11_need_71 : decode cX11_need 71 = .ok (.getfield 113, 3) := by decide +kernel
theorem dX11_need_74 : decode cX11_need 74 = .ok (.invokespecial 133, 3) := by decide +kernel
theorem dX11_need_77 : decode cX11_need 77 = .ok (.aastore, 1) := by decide +kernel
theorem dX11_need_78 : decode cX11_need 78 = .ok (.aload_n 3, 1) := by decide +kernel
theorem dX11_need_79 : decode cX11_need 79 = .ok (.getfield 110, 3) := by decide +kernel
theorem dX11_need_82 : decode cX11_need 82 = .ok (.ireturn, 1) := by decide +kernel
theorem dX11_weigh_0 : decode cX11_weigh 0 = .ok (.aload_n 0, 1) := by decide +kernel
theorem dX11_weigh_1 : decode cX11_weigh 1 = .ok (.getfield 28, 3) := by decide +kernel
theorem dX11_weigh_4 : decode cX11_weigh 4 = .ok (.iload_n 1, 1) := by decide +kernel
theorem dX11_weigh_5 : decode cX11_weigh 5 = .ok (.invokevirtual 97, 3) := by decide +kernel
theorem dX11_weigh_8 : decode cX11_weigh 8 = .ok (.ifCond .ne 6, 3) := by decide +kernel
theorem dX11_weigh_11 : decode cX11_weigh 11 = .ok (.bipush (-2), 2) := by decide +kernel
theorem dX11_weigh_13 : decode cX11_weigh 13 = .ok (.ireturn, 1) := by decide +kernel
theorem dX11_weigh_14 : decode cX11_weigh 14 = .ok (.iload_n 2, 1) := by decide +kernel
theorem dX11_weigh_15 : decode cX11_weigh 15 = .ok (.iconst 1, 1) := by decide +kernel
theorem dX11_weigh_16 : decode cX11_weigh 16 = .ok (.bipush 9, 2) := by decide +kernel
theorem dX11_weigh_18 : decode cX11_weigh 18 = .ok (.invokestatic 64, 3) := by decide +kernel
theorem dX11_weigh_21 : decode cX11_weigh 21 = .ok (.ifCond .ne 6, 3) := by decide +kernel
theorem dX11_weigh_24 : decode cX11_weigh 24 = .ok (.bipush (-3), 2) := by decide +kernel
theorem dX11_weigh_26 : decode cX11_weigh 26 = .ok (.ireturn, 1) := by decide +kernel
theorem dX11_weigh_27 : decode cX11_weigh 27 = .ok (.aload_n 0, 1) := by decide +kernel
theorem dX11_weigh_28 : decode cX11_weigh 28 = .ok (.getfield 60, 3) := by decide +kernel
theorem dX11_weigh_31 : decode cX11_weigh 31 = .ok (.aload_n 0, 1) := by decide +kernel
theorem dX11_weigh_32 : decode cX11_weigh 32 = .ok (.getfield 28, 3) := by decide +kernel
theorem dX11_weigh_35 : decode cX11_weigh 35 = .ok (.aload_n 0, 1) := by decide +kernel
theorem dX11_weigh_36 : decode cX11_weigh 36 = .ok (.getfield 51, 3) := by decide +kernel
theorem dX11_weigh_39 : decode cX11_weigh 39 = .ok (.aconst_null, 1) := by decide +kernel
theorem dX11_weigh_40 : decode cX11_weigh 40 = .ok (.invokevirtual 123, 3) := by decide +kernel
theorem dX11_weigh_43 : decode cX11_weigh 43 = .ok (.aload_n 0, 1) := by decide +kernel
theorem dX11_weigh_44 : decode cX11_weigh 44 = .ok (.getfield 28, 3) := by decide +kernel
theorem dX11_weigh_47 : decode cX11_weigh 47 = .ok (.getfield 100, 3) := by decide +kernel
theorem dX11_weigh_50 : decode cX11_weigh 50 = .ok (.iload_n 1, 1) := by decide +kernel
theorem dX11_weigh_51 : decode cX11_weigh 51 = .ok (.aaload, 1) := by decide +kernel
theorem dX11_weigh_52 : decode cX11_weigh 52 = .ok (.astore_n 3, 1) := by decide +kernel
theorem dX11_weigh_53 : decode cX11_weigh 53 = .ok (.aload_n 0, 1) := by decide +kernel
theorem dX11_weigh_54 : decode cX11_weigh 54 = .ok (.getfield 28, 3) := by decide +kernel
theorem dX11_weigh_57 : decode cX11_weigh 57 = .ok (.getfield 100, 3) := by decide +kernel
theorem dX11_weigh_60 : decode cX11_weigh 60 = .ok (.iload_n 1, 1) := by decide +kernel
theorem dX11_weigh_61 : decode cX11_weigh 61 = .ok (.new 105, 3) := by decide +kernel
theorem dX11_weigh_64 : decode cX11_weigh 64 = .ok (.dup, 1) := by decide +kernel
theorem dX11_weigh_65 : decode cX11_weigh 65 = .ok (.aload_n 3, 1) := by decide +kernel
theorem dX11_weigh_66 : decode cX11_weigh 66 = .ok (.getfield 104, 3) := by decide +kernel
theorem dX11_weigh_69 : decode cX11_weigh 69 = .ok (.aload_n 3, 1) := by decide +kernel
theorem dX11_weigh_70 : decode cX11_weigh 70 = .ok (.getfield 110, 3) := by decide +kernel
theorem dX11_weigh_73 : decode cX11_weigh 73 = .ok (.iload_n 2, 1) := by decide +kernel
theorem dX11_weigh_74 : decode cX11_weigh 74 = .ok (.invokespecial 133, 3) := by decide +kernel
theorem dX11_weigh_77 : decode cX11_weigh 77 = .ok (.aastore, 1) := by decide +kernel
theorem dX11_weigh_78 : decode cX11_weigh 78 = .ok (.aload_n 3, 1) := by decide +kernel
theorem dX11_weigh_79 : decode cX11_weigh 79 = .ok (.getfield 113, 3) := by decide +kernel
theorem dX11_weigh_82 : decode cX11_weigh 82 = .ok (.ireturn, 1) := by decide +kernel
theorem dX11_drop_0 : decode cX11_drop 0 = .ok (.aload_n 0, 1) := by decide +kernel
theorem dX11_drop_1 : decode cX11_drop 1 = .ok (.getfield 28, 3) := by decide +kernel
theorem dX11_drop_4 : decode cX11_drop 4 = .ok (.iload_n 1, 1) := by decide +kernel
theorem dX11_drop_5 : decode cX11_drop 5 = .ok (.invokevirtual 97, 3) := by decide +kernel
theorem dX11_drop_8 : decode cX11_drop 8 = .ok (.ifCond .ne 6, 3) := by decide +kernel
theorem dX11_drop_11 : decode cX11_drop 11 = .ok (.bipush (-2), 2) := by decide +kernel
theorem dX11_drop_13 : decode cX11_drop 13 = .ok (.ireturn, 1) := by decide +kernel
theorem dX11_drop_14 : decode cX11_drop 14 = .ok (.aload_n 0, 1) := by decide +kernel
theorem dX11_drop_15 : decode cX11_drop 15 = .ok (.getfield 60, 3) := by decide +kernel
theorem dX11_drop_18 : decode cX11_drop 18 = .ok (.aload_n 0, 1) := by decide +kernel
theorem dX11_drop_19 : decode cX11_drop 19 = .ok (.getfield 28, 3) := by decide +kernel
theorem dX11_drop_22 : decode cX11_drop 22 = .ok (.aload_n 0, 1) := by decide +kernel
theorem dX11_drop_23 : decode cX11_drop 23 = .ok (.getfield 51, 3) := by decide +kernel
theorem dX11_drop_26 : decode cX11_drop 26 = .ok (.aconst_null, 1) := by decide +kernel
theorem dX11_drop_27 : decode cX11_drop 27 = .ok (.invokevirtual 123, 3) := by decide +kernel
theorem dX11_drop_30 : decode cX11_drop 30 = .ok (.aload_n 0, 1) := by decide +kernel
theorem dX11_drop_31 : decode cX11_drop 31 = .ok (.getfield 28, 3) := by decide +kernel
theorem dX11_drop_34 : decode cX11_drop 34 = .ok (.iload_n 1, 1) := by decide +kernel
theorem dX11_drop_35 : decode cX11_drop 35 = .ok (.invokevirtual 136, 3) := by decide +kernel
theorem dX11_drop_38 : decode cX11_drop 38 = .ok (.aload_n 0, 1) := by decide +kernel
theorem dX11_drop_39 : decode cX11_drop 39 = .ok (.getfield 28, 3) := by decide +kernel
theorem dX11_drop_42 : decode cX11_drop 42 = .ok (.getfield 76, 3) := by decide +kernel
theorem dX11_drop_45 : decode cX11_drop 45 = .ok (.ireturn, 1) := by decide +kernel
theorem dX11_pack_0 : decode cX11_pack 0 = .ok (.aload_n 0, 1) := by decide +kernel
theorem dX11_pack_1 : decode cX11_pack 1 = .ok (.getfield 28, 3) := by decide +kernel
theorem dX11_pack_4 : decode cX11_pack 4 = .ok (.getfield 76, 3) := by decide +kernel
theorem dX11_pack_7 : decode cX11_pack 7 = .ok (.ifCond .eq 13, 3) := by decide +kernel
theorem dX11_pack_10 : decode cX11_pack 10 = .ok (.aload_n 0, 1) := by decide +kernel
theorem dX11_pack_11 : decode cX11_pack 11 = .ok (.getfield 28, 3) := by decide +kernel
theorem dX11_pack_14 : decode cX11_pack 14 = .ok (.invokevirtual 140, 3) := by decide +kernel
theorem dX11_pack_17 : decode cX11_pack 17 = .ok (.ifCond .ne 6, 3) := by decide +kernel
theorem dX11_pack_20 : decode cX11_pack 20 = .ok (.bipush (-4), 2) := by decide +kernel
theorem dX11_pack_22 : decode cX11_pack 22 = .ok (.ireturn, 1) := by decide +kernel
theorem dX11_pack_23 : decode cX11_pack 23 = .ok (.aload_n 0, 1) := by decide +kernel
theorem dX11_pack_24 : decode cX11_pack 24 = .ok (.getfield 60, 3) := by decide +kernel
theorem dX11_pack_27 : decode cX11_pack 27 = .ok (.aload_n 0, 1) := by decide +kernel
theorem dX11_pack_28 : decode cX11_pack 28 = .ok (.getfield 28, 3) := by decide +kernel
theorem dX11_pack_31 : decode cX11_pack 31 = .ok (.aload_n 0, 1) := by decide +kernel
theorem dX11_pack_32 : decode cX11_pack 32 = .ok (.getfield 51, 3) := by decide +kernel
theorem dX11_pack_35 : decode cX11_pack 35 = .ok (.aconst_null, 1) := by decide +kernel
theorem dX11_pack_36 : decode cX11_pack 36 = .ok (.invokevirtual 123, 3) := by decide +kernel
theorem dX11_pack_39 : decode cX11_pack 39 = .ok (.aload_n 0, 1) := by decide +kernel
theorem dX11_pack_40 : decode cX11_pack 40 = .ok (.new 46, 3) := by decide +kernel
theorem dX11_pack_43 : decode cX11_pack 43 = .ok (.dup, 1) := by decide +kernel
theorem dX11_pack_44 : decode cX11_pack 44 = .ok (.aload_n 0, 1) := by decide +kernel
theorem dX11_pack_45 : decode cX11_pack 45 = .ok (.getfield 28, 3) := by decide +kernel
theorem dX11_pack_48 : decode cX11_pack 48 = .ok (.aload_n 0, 1) := by decide +kernel
theorem dX11_pack_49 : decode cX11_pack 49 = .ok (.getfield 28, 3) := by decide +kernel
theorem dX11_pack_52 : decode cX11_pack 52 = .ok (.getfield 76, 3) := by decide +kernel
theorem dX11_pack_55 : decode cX11_pack 55 = .ok (.aload_n 0, 1) := by decide +kernel
theorem dX11_pack_56 : decode cX11_pack 56 = .ok (.getfield 28, 3) := by decide +kernel
theorem dX11_pack_59 : decode cX11_pack 59 = .ok (.getfield 127, 3) := by decide +kernel
theorem dX11_pack_62 : decode cX11_pack 62 = .ok (.invokespecial 48, 3) := by decide +kernel
theorem dX11_pack_65 : decode cX11_pack 65 = .ok (.putfield 51, 3) := by decide +kernel
theorem dX11_pack_68 : decode cX11_pack 68 = .ok (.aload_n 0, 1) := by decide +kernel
theorem dX11_pack_69 : decode cX11_pack 69 = .ok (.getfield 51, 3) := by decide +kernel
theorem dX11_pack_72 : decode cX11_pack 72 = .ok (.getfield 144, 3) := by decide +kernel
theorem dX11_pack_75 : decode cX11_pack 75 = .ok (.ireturn, 1) := by decide +kernel
theorem dX11_lose_0 : decode cX11_lose 0 = .ok (.aload_n 0, 1) := by decide +kernel
theorem dX11_lose_1 : decode cX11_lose 1 = .ok (.getfield 51, 3) := by decide +kernel
theorem dX11_lose_4 : decode cX11_lose 4 = .ok (.iload_n 1, 1) := by decide +kernel
theorem dX11_lose_5 : decode cX11_lose 5 = .ok (.invokevirtual 145, 3) := by decide +kernel
theorem dX11_lose_8 : decode cX11_lose 8 = .ok (.ifCond .ne 6, 3) := by decide +kernel
theorem dX11_lose_11 : decode cX11_lose 11 = .ok (.bipush (-2), 2) := by decide +kernel
theorem dX11_lose_13 : decode cX11_lose 13 = .ok (.ireturn, 1) := by decide +kernel
theorem dX11_lose_14 : decode cX11_lose 14 = .ok (.aload_n 0, 1) := by decide +kernel
theorem dX11_lose_15 : decode cX11_lose 15 = .ok (.getfield 51, 3) := by decide +kernel
theorem dX11_lose_18 : decode cX11_lose 18 = .ok (.getfield 148, 3) := by decide +kernel
theorem dX11_lose_21 : decode cX11_lose 21 = .ok (.iload_n 1, 1) := by decide +kernel
theorem dX11_lose_22 : decode cX11_lose 22 = .ok (.aaload, 1) := by decide +kernel
theorem dX11_lose_23 : decode cX11_lose 23 = .ok (.astore_n 2, 1) := by decide +kernel
theorem dX11_lose_24 : decode cX11_lose 24 = .ok (.aload_n 2, 1) := by decide +kernel
theorem dX11_lose_25 : decode cX11_lose 25 = .ok (.getfield 151, 3) := by decide +kernel
theorem dX11_lose_28 : decode cX11_lose 28 = .ok (.ifCond .eq 6, 3) := by decide +kernel
theorem dX11_lose_31 : decode cX11_lose 31 = .ok (.bipush (-4), 2) := by decide +kernel
theorem dX11_lose_33 : decode cX11_lose 33 = .ok (.ireturn, 1) := by decide +kernel
theorem dX11_lose_34 : decode cX11_lose 34 = .ok (.aload_n 0, 1) := by decide +kernel
theorem dX11_lose_35 : decode cX11_lose 35 = .ok (.getfield 60, 3) := by decide +kernel
theorem dX11_lose_38 : decode cX11_lose 38 = .ok (.aload_n 0, 1) := by decide +kernel
theorem dX11_lose_39 : decode cX11_lose 39 = .ok (.getfield 28, 3) := by decide +kernel
theorem dX11_lose_42 : decode cX11_lose 42 = .ok (.aload_n 0, 1) := by decide +kernel
theorem dX11_lose_43 : decode cX11_lose 43 = .ok (.getfield 51, 3) := by decide +kernel
theorem dX11_lose_46 : decode cX11_lose 46 = .ok (.aload_n 2, 1) := by decide +kernel
theorem dX11_lose_47 : decode cX11_lose 47 = .ok (.invokevirtual 123, 3) := by decide +kernel
theorem dX11_lose_50 : decode cX11_lose 50 = .ok (.aload_n 2, 1) := by decide +kernel
theorem dX11_lose_51 : decode cX11_lose 51 = .ok (.iconst 1, 1) := by decide +kernel
theorem dX11_lose_52 : decode cX11_lose 52 = .ok (.putfield 151, 3) := by decide +kernel
theorem dX11_lose_55 : decode cX11_lose 55 = .ok (.aload_n 2, 1) := by decide +kernel
theorem dX11_lose_56 : decode cX11_lose 56 = .ok (.getfield 157, 3) := by decide +kernel
theorem dX11_lose_59 : decode cX11_lose 59 = .ok (.ireturn, 1) := by decide +kernel
theorem dX11_cut_0 : decode cX11_cut 0 = .ok (.aload_n 0, 1) := by decide +kernel
theorem dX11_cut_1 : decode cX11_cut 1 = .ok (.getfield 51, 3) := by decide +kernel
theorem dX11_cut_4 : decode cX11_cut 4 = .ok (.iload_n 1, 1) := by decide +kernel
theorem dX11_cut_5 : decode cX11_cut 5 = .ok (.invokevirtual 145, 3) := by decide +kernel
theorem dX11_cut_8 : decode cX11_cut 8 = .ok (.ifCond .ne 6, 3) := by decide +kernel
theorem dX11_cut_11 : decode cX11_cut 11 = .ok (.bipush (-2), 2) := by decide +kernel
theorem dX11_cut_13 : decode cX11_cut 13 = .ok (.ireturn, 1) := by decide +kernel
theorem dX11_cut_14 : decode cX11_cut 14 = .ok (.aload_n 0, 1) := by decide +kernel
theorem dX11_cut_15 : decode cX11_cut 15 = .ok (.getfield 51, 3) := by decide +kernel
theorem dX11_cut_18 : decode cX11_cut 18 = .ok (.getfield 148, 3) := by decide +kernel
theorem dX11_cut_21 : decode cX11_cut 21 = .ok (.iload_n 1, 1) := by decide +kernel
theorem dX11_cut_22 : decode cX11_cut 22 = .ok (.aaload, 1) := by decide +kernel
theorem dX11_cut_23 : decode cX11_cut 23 = .ok (.astore_n 3, 1) := by decide +kernel
theorem dX11_cut_24 : decode cX11_cut 24 = .ok (.iload_n 2, 1) := by decide +kernel
theorem dX11_cut_25 : decode cX11_cut 25 = .ok (.iconst 0, 1) := by decide +kernel
theorem dX11_cut_26 : decode cX11_cut 26 = .ok (.aload_n 3, 1) := by decide +kernel
theorem dX11_cut_27 : decode cX11_cut 27 = .ok (.getfield 157, 3) := by decide +kernel
theorem dX11_cut_30 : decode cX11_cut 30 = .ok (.invokestatic 64, 3) := by decide +kernel
theorem dX11_cut_33 : decode cX11_cut 33 = .ok (.ifCond .ne 6, 3) := by decide +kernel
theorem dX11_cut_36 : decode cX11_cut 36 = .ok (.bipush (-3), 2) := by decide +kernel
theorem dX11_cut_38 : decode cX11_cut 38 = .ok (.ireturn, 1) := by decide +kernel
theorem dX11_cut_39 : decode cX11_cut 39 = .ok (.aload_n 3, 1) := by decide +kernel
theorem dX11_cut_40 : decode cX11_cut 40 = .ok (.getfield 151, 3) := by decide +kernel
theorem dX11_cut_43 : decode cX11_cut 43 = .ok (.ifCond .eq 6, 3) := by decide +kernel
theorem dX11_cut_46 : decode cX11_cut 46 = .ok (.bipush (-4), 2) := by decide +kernel
theorem dX11_cut_48 : decode cX11_cut 48 = .ok (.ireturn, 1) := by decide +kernel
theorem dX11_cut_49 : decode cX11_cut 49 = .ok (.aload_n 0, 1) := by decide +kernel
theorem dX11_cut_50 : decode cX11_cut 50 = .ok (.getfield 60, 3) := by decide +kernel
theorem dX11_cut_53 : decode cX11_cut 53 = .ok (.aload_n 0, 1) := by decide +kernel
theorem dX11_cut_54 : decode cX11_cut 54 = .ok (.getfield 28, 3) := by decide +kernel
theorem dX11_cut_57 : decode cX11_cut 57 = .ok (.aload_n 0, 1) := by decide +kernel
theorem dX11_cut_58 : decode cX11_cut 58 = .ok (.getfield 51, 3) := by decide +kernel
theorem dX11_cut_61 : decode cX11_cut 61 = .ok (.aload_n 3, 1) := by decide +kernel
theorem dX11_cut_62 : decode cX11_cut 62 = .ok (.invokevirtual 123, 3) := by decide +kernel
theorem dX11_cut_65 : decode cX11_cut 65 = .ok (.aload_n 3, 1) := by decide +kernel
theorem dX11_cut_66 : decode cX11_cut 66 = .ok (.getfield 157, 3) := by decide +kernel
theorem dX11_cut_69 : decode cX11_cut 69 = .ok (.iload_n 2, 1) := by decide +kernel
theorem dX11_cut_70 : decode cX11_cut 70 = .ok (.isub, 1) := by decide +kernel
theorem dX11_cut_71 : decode cX11_cut 71 = .ok (.istore 4, 2) := by decide +kernel
theorem dX11_cut_73 : decode cX11_cut 73 = .ok (.aload_n 3, 1) := by decide +kernel
theorem dX11_cut_74 : decode cX11_cut 74 = .ok (.iload_n 2, 1) := by decide +kernel
theorem dX11_cut_75 : decode cX11_cut 75 = .ok (.putfield 157, 3) := by decide +kernel
theorem dX11_cut_78 : decode cX11_cut 78 = .ok (.iload 4, 2) := by decide +kernel
theorem dX11_cut_80 : decode cX11_cut 80 = .ok (.ireturn, 1) := by decide +kernel
theorem dX11_spoil_0 : decode cX11_spoil 0 = .ok (.aload_n 0, 1) := by decide +kernel
theorem dX11_spoil_1 : decode cX11_spoil 1 = .ok (.getfield 51, 3) := by decide +kernel
theorem dX11_spoil_4 : decode cX11_spoil 4 = .ok (.iload_n 1, 1) := by decide +kernel
theorem dX11_spoil_5 : decode cX11_spoil 5 = .ok (.invokevirtual 145, 3) := by decide +kernel
theorem dX11_spoil_8 : decode cX11_spoil 8 = .ok (.ifCond .eq 19, 3) := by decide +kernel
theorem dX11_spoil_11 : decode cX11_spoil 11 = .ok (.aload_n 0, 1) := by decide +kernel
theorem dX11_spoil_12 : decode cX11_spoil 12 = .ok (.getfield 51, 3) := by decide +kernel
theorem dX11_spoil_15 : decode cX11_spoil 15 = .ok (.getfield 148, 3) := by decide +kernel
theorem dX11_spoil_18 : decode cX11_spoil 18 = .ok (.iload_n 1, 1) := by decide +kernel
theorem dX11_spoil_19 : decode cX11_spoil 19 = .ok (.aaload, 1) := by decide +kernel
theorem dX11_spoil_20 : decode cX11_spoil 20 = .ok (.iload_n 2, 1) := by decide +kernel
theorem dX11_spoil_21 : decode cX11_spoil 21 = .ok (.invokevirtual 160, 3) := by decide +kernel
theorem dX11_spoil_24 : decode cX11_spoil 24 = .ok (.ifCond .ne 6, 3) := by decide +kernel
theorem dX11_spoil_27 : decode cX11_spoil 27 = .ok (.bipush (-2), 2) := by decide +kernel
theorem dX11_spoil_29 : decode cX11_spoil 29 = .ok (.ireturn, 1) := by decide +kernel
theorem dX11_spoil_30 : decode cX11_spoil 30 = .ok (.iload_n 3, 1) := by decide +kernel
theorem dX11_spoil_31 : decode cX11_spoil 31 = .ok (.iconst 0, 1) := by decide +kernel
theorem dX11_spoil_32 : decode cX11_spoil 32 = .ok (.bipush 28, 2) := by decide +kernel
theorem dX11_spoil_34 : decode cX11_spoil 34 = .ok (.invokestatic 64, 3) := by decide +kernel
theorem dX11_spoil_37 : decode cX11_spoil 37 = .ok (.ifCond .ne 6, 3) := by decide +kernel
theorem dX11_spoil_40 : decode cX11_spoil 40 = .ok (.bipush (-3), 2) := by decide +kernel
theorem dX11_spoil_42 : decode cX11_spoil 42 = .ok (.ireturn, 1) := by decide +kernel
theorem dX11_spoil_43 : decode cX11_spoil 43 = .ok (.aload_n 0, 1) := by decide +kernel
theorem dX11_spoil_44 : decode cX11_spoil 44 = .ok (.getfield 51, 3) := by decide +kernel
theorem dX11_spoil_47 : decode cX11_spoil 47 = .ok (.getfield 148, 3) := by decide +kernel
theorem dX11_spoil_50 : decode cX11_spoil 50 = .ok (.iload_n 1, 1) := by decide +kernel
theorem dX11_spoil_51 : decode cX11_spoil 51 = .ok (.aaload, 1) := by decide +kernel
theorem dX11_spoil_52 : decode cX11_spoil 52 = .ok (.astore 4, 2) := by decide +kernel
theorem dX11_spoil_54 : decode cX11_spoil 54 = .ok (.aload_n 0, 1) := by decide +kernel
theorem dX11_spoil_55 : decode cX11_spoil 55 = .ok (.getfield 60, 3) := by decide +kernel
theorem dX11_spoil_58 : decode cX11_spoil 58 = .ok (.aload_n 0, 1) := by decide +kernel
theorem dX11_spoil_59 : decode cX11_spoil 59 = .ok (.getfield 28, 3) := by decide +kernel
theorem dX11_spoil_62 : decode cX11_spoil 62 = .ok (.aload_n 0, 1) := by decide +kernel
theorem dX11_spoil_63 : decode cX11_spoil 63 = .ok (.getfield 51, 3) := by decide +kernel
theorem dX11_spoil_66 : decode cX11_spoil 66 = .ok (.aload 4, 2) := by decide +kernel
theorem dX11_spoil_68 : decode cX11_spoil 68 = .ok (.invokevirtual 123, 3) := by decide +kernel
theorem dX11_spoil_71 : decode cX11_spoil 71 = .ok (.aload 4, 2) := by decide +kernel
theorem dX11_spoil_73 : decode cX11_spoil 73 = .ok (.getfield 163, 3) := by decide +kernel
theorem dX11_spoil_76 : decode cX11_spoil 76 = .ok (.iload_n 2, 1) := by decide +kernel
theorem dX11_spoil_77 : decode cX11_spoil 77 = .ok (.iaload, 1) := by decide +kernel
theorem dX11_spoil_78 : decode cX11_spoil 78 = .ok (.istore 5, 2) := by decide +kernel
theorem dX11_spoil_80 : decode cX11_spoil 80 = .ok (.aload 4, 2) := by decide +kernel
theorem dX11_spoil_82 : decode cX11_spoil 82 = .ok (.getfield 163, 3) := by decide +kernel
theorem dX11_spoil_85 : decode cX11_spoil 85 = .ok (.iload_n 2, 1) := by decide +kernel
theorem dX11_spoil_86 : decode cX11_spoil 86 = .ok (.iload_n 3, 1) := by decide +kernel
theorem dX11_spoil_87 : decode cX11_spoil 87 = .ok (.iastore, 1) := by decide +kernel
theorem dX11_spoil_88 : decode cX11_spoil 88 = .ok (.iload 5, 2) := by decide +kernel
theorem dX11_spoil_90 : decode cX11_spoil 90 = .ok (.ireturn, 1) := by decide +kernel
theorem dX11_again_0 : decode cX11_again 0 = .ok (.aload_n 0, 1) := by decide +kernel
theorem dX11_again_1 : decode cX11_again 1 = .ok (.getfield 51, 3) := by decide +kernel
theorem dX11_again_4 : decode cX11_again 4 = .ok (.iload_n 1, 1) := by decide +kernel
theorem dX11_again_5 : decode cX11_again 5 = .ok (.invokevirtual 145, 3) := by decide +kernel
theorem dX11_again_8 : decode cX11_again 8 = .ok (.ifCond .ne 6, 3) := by decide +kernel
theorem dX11_again_11 : decode cX11_again 11 = .ok (.bipush (-2), 2) := by decide +kernel
theorem dX11_again_13 : decode cX11_again 13 = .ok (.ireturn, 1) := by decide +kernel
theorem dX11_again_14 : decode cX11_again 14 = .ok (.aload_n 0, 1) := by decide +kernel
theorem dX11_again_15 : decode cX11_again 15 = .ok (.getfield 60, 3) := by decide +kernel
theorem dX11_again_18 : decode cX11_again 18 = .ok (.aload_n 0, 1) := by decide +kernel
theorem dX11_again_19 : decode cX11_again 19 = .ok (.getfield 28, 3) := by decide +kernel
theorem dX11_again_22 : decode cX11_again 22 = .ok (.aload_n 0, 1) := by decide +kernel
theorem dX11_again_23 : decode cX11_again 23 = .ok (.getfield 51, 3) := by decide +kernel
theorem dX11_again_26 : decode cX11_again 26 = .ok (.aload_n 0, 1) := by decide +kernel
theorem dX11_again_27 : decode cX11_again 27 = .ok (.getfield 51, 3) := by decide +kernel
theorem dX11_again_30 : decode cX11_again 30 = .ok (.getfield 148, 3) := by decide +kernel
theorem dX11_again_33 : decode cX11_again 33 = .ok (.iload_n 1, 1) := by decide +kernel
theorem dX11_again_34 : decode cX11_again 34 = .ok (.aaload, 1) := by decide +kernel
theorem dX11_again_35 : decode cX11_again 35 = .ok (.invokevirtual 123, 3) := by decide +kernel
theorem dX11_again_38 : decode cX11_again 38 = .ok (.aload_n 0, 1) := by decide +kernel
theorem dX11_again_39 : decode cX11_again 39 = .ok (.getfield 51, 3) := by decide +kernel
theorem dX11_again_42 : decode cX11_again 42 = .ok (.getfield 148, 3) := by decide +kernel
theorem dX11_again_45 : decode cX11_again 45 = .ok (.iload_n 1, 1) := by decide +kernel
theorem dX11_again_46 : decode cX11_again 46 = .ok (.aaload, 1) := by decide +kernel
theorem dX11_again_47 : decode cX11_again 47 = .ok (.aload_n 0, 1) := by decide +kernel
theorem dX11_again_48 : decode cX11_again 48 = .ok (.getfield 51, 3) := by decide +kernel
theorem dX11_again_51 : decode cX11_again 51 = .ok (.getfield 144, 3) := by decide +kernel
theorem dX11_again_54 : decode cX11_again 54 = .ok (.invokevirtual 166, 3) := by decide +kernel
theorem dX11_again_57 : decode cX11_again 57 = .ok (.ireturn, 1) := by decide +kernel
theorem dX11_undo_0 : decode cX11_undo 0 = .ok (.aload_n 0, 1) := by decide +kernel
theorem dX11_undo_1 : decode cX11_undo 1 = .ok (.getfield 60, 3) := by decide +kernel
theorem dX11_undo_4 : decode cX11_undo 4 = .ok (.getfield 169, 3) := by decide +kernel
theorem dX11_undo_7 : decode cX11_undo 7 = .ok (.ifCond .ne 6, 3) := by decide +kernel
theorem dX11_undo_10 : decode cX11_undo 10 = .ok (.bipush (-4), 2) := by decide +kernel
theorem dX11_undo_12 : decode cX11_undo 12 = .ok (.ireturn, 1) := by decide +kernel
theorem dX11_undo_13 : decode cX11_undo 13 = .ok (.aload_n 0, 1) := by decide +kernel
theorem dX11_undo_14 : decode cX11_undo 14 = .ok (.getfield 60, 3) := by decide +kernel
theorem dX11_undo_17 : decode cX11_undo 17 = .ok (.invokevirtual 172, 3) := by decide +kernel
theorem dX11_undo_20 : decode cX11_undo 20 = .ok (.astore_n 1, 1) := by decide +kernel
theorem dX11_undo_21 : decode cX11_undo 21 = .ok (.aload_n 1, 1) := by decide +kernel
theorem dX11_undo_22 : decode cX11_undo 22 = .ok (.aload_n 0, 1) := by decide +kernel
theorem dX11_undo_23 : decode cX11_undo 23 = .ok (.getfield 28, 3) := by decide +kernel
theorem dX11_undo_26 : decode cX11_undo 26 = .ok (.invokevirtual 176, 3) := by decide +kernel
theorem dX11_undo_29 : decode cX11_undo 29 = .ok (.aload_n 0, 1) := by decide +kernel
theorem dX11_undo_30 : decode cX11_undo 30 = .ok (.aload_n 1, 1) := by decide +kernel
theorem dX11_undo_31 : decode cX11_undo 31 = .ok (.getfield 182, 3) := by decide +kernel
theorem dX11_undo_34 : decode cX11_undo 34 = .ok (.putfield 51, 3) := by decide +kernel
theorem dX11_undo_37 : decode cX11_undo 37 = .ok (.aload_n 0, 1) := by decide +kernel
theorem dX11_undo_38 : decode cX11_undo 38 = .ok (.getfield 60, 3) := by decide +kernel
theorem dX11_undo_41 : decode cX11_undo 41 = .ok (.getfield 169, 3) := by decide +kernel
theorem dX11_undo_44 : decode cX11_undo 44 = .ok (.ireturn, 1) := by decide +kernel
theorem dX11_number_0 : decode cX11_number 0 = .ok (.aload_n 0, 1) := by decide +kernel
theorem dX11_number_1 : decode cX11_number 1 = .ok (.getfield 51, 3) := by decide +kernel
theorem dX11_number_4 : decode cX11_number 4 = .ok (.iload_n 1, 1) := by decide +kernel
theorem dX11_number_5 : decode cX11_number 5 = .ok (.invokevirtual 145, 3) := by decide +kernel
theorem dX11_number_8 : decode cX11_number 8 = .ok (.ifCond .eq 20, 3) := by decide +kernel
theorem dX11_number_11 : decode cX11_number 11 = .ok (.iload_n 2, 1) := by decide +kernel
theorem dX11_number_12 : decode cX11_number 12 = .ok (.iconst 0, 1) := by decide +kernel
theorem dX11_number_13 : decode cX11_number 13 = .ok (.aload_n 0, 1) := by decide +kernel
theorem dX11_number_14 : decode cX11_number 14 = .ok (.getfield 51, 3) := by decide +kernel
theorem dX11_number_17 : decode cX11_number 17 = .ok (.getfield 144, 3) := by decide +kernel
theorem dX11_number_20 : decode cX11_number 20 = .ok (.iconst 1, 1) := by decide +kernel
theorem dX11_number_21 : decode cX11_number 21 = .ok (.isub, 1) := by decide +kernel
theorem dX11_number_22 : decode cX11_number 22 = .ok (.invokestatic 64, 3) := by decide +kernel
theorem dX11_number_25 : decode cX11_number 25 = .ok (.ifCond .ne 6, 3) := by decide +kernel
theorem dX11_number_28 : decode cX11_number 28 = .ok (.bipush (-2), 2) := by decide +kernel
theorem dX11_number_30 : decode cX11_number 30 = .ok (.ireturn, 1) := by decide +kernel
theorem dX11_number_31 : decode cX11_number 31 = .ok (.aload_n 0, 1) := by decide +kernel
theorem dX11_number_32 : decode cX11_number 32 = .ok (.getfield 51, 3) := by decide +kernel
theorem dX11_number_35 : decode cX11_number 35 = .ok (.getfield 148, 3) := by decide +kernel
theorem dX11_number_38 : decode cX11_number 38 = .ok (.iload_n 1, 1) := by decide +kernel
theorem dX11_number_39 : decode cX11_number 39 = .ok (.aaload, 1) := by decide +kernel
theorem dX11_number_40 : decode cX11_number 40 = .ok (.astore_n 3, 1) := by decide +kernel
theorem dX11_number_41 : decode cX11_number 41 = .ok (.aload_n 3, 1) := by decide +kernel
theorem dX11_number_42 : decode cX11_number 42 = .ok (.iload_n 2, 1) := by decide +kernel
theorem dX11_number_43 : decode cX11_number 43 = .ok (.invokevirtual 160, 3) := by decide +kernel
theorem dX11_number_46 : decode cX11_number 46 = .ok (.ifCond .eq 12, 3) := by decide +kernel
theorem dX11_number_49 : decode cX11_number 49 = .ok (.aload_n 3, 1) := by decide +kernel
theorem dX11_number_50 : decode cX11_number 50 = .ok (.getfield 163, 3) := by decide +kernel
theorem dX11_number_53 : decode cX11_number 53 = .ok (.iload_n 2, 1) := by decide +kernel
theorem dX11_number_54 : decode cX11_number 54 = .ok (.iaload, 1) := by decide +kernel
theorem dX11_number_55 : decode cX11_number 55 = .ok (.goto 4, 3) := by decide +kernel
theorem dX11_number_58 : decode cX11_number 58 = .ok (.iconst (-1), 1) := by decide +kernel
theorem dX11_number_59 : decode cX11_number 59 = .ok (.ireturn, 1) := by decide +kernel
theorem dX11_packed_0 : decode cX11_packed 0 = .ok (.aload_n 0, 1) := by decide +kernel
theorem dX11_packed_1 : decode cX11_packed 1 = .ok (.getfield 51, 3) := by decide +kernel
theorem dX11_packed_4 : decode cX11_packed 4 = .ok (.iload_n 1, 1) := by decide +kernel
theorem dX11_packed_5 : decode cX11_packed 5 = .ok (.invokevirtual 183, 3) := by decide +kernel
theorem dX11_packed_8 : decode cX11_packed 8 = .ok (.ifCond .ne 6, 3) := by decide +kernel
theorem dX11_packed_11 : decode cX11_packed 11 = .ok (.bipush (-2), 2) := by decide +kernel
theorem dX11_packed_13 : decode cX11_packed 13 = .ok (.ireturn, 1) := by decide +kernel
theorem dX11_packed_14 : decode cX11_packed 14 = .ok (.iload_n 2, 1) := by decide +kernel
theorem dX11_packed_15 : decode cX11_packed 15 = .ok (.tableswitch 105 0 5 #[37, 50, 63, 77, 87, 96], 37) := by decide +kernel
theorem dX11_packed_52 : decode cX11_packed 52 = .ok (.aload_n 0, 1) := by decide +kernel
theorem dX11_packed_53 : decode cX11_packed 53 = .ok (.getfield 51, 3) := by decide +kernel
theorem dX11_packed_56 : decode cX11_packed 56 = .ok (.iload_n 1, 1) := by decide +kernel
theorem dX11_packed_57 : decode cX11_packed 57 = .ok (.aload_n 0, 1) := by decide +kernel
theorem dX11_packed_58 : decode cX11_packed 58 = .ok (.getfield 42, 3) := by decide +kernel
theorem dX11_packed_61 : decode cX11_packed 61 = .ok (.invokevirtual 186, 3) := by decide +kernel
theorem dX11_packed_64 : decode cX11_packed 64 = .ok (.ireturn, 1) := by decide +kernel
theorem dX11_packed_65 : decode cX11_packed 65 = .ok (.aload_n 0, 1) := by decide +kernel
theorem dX11_packed_66 : decode cX11_packed 66 = .ok (.getfield 51, 3) := by decide +kernel
theorem dX11_packed_69 : decode cX11_packed 69 = .ok (.getfield 190, 3) := by decide +kernel
theorem dX11_packed_72 : decode cX11_packed 72 = .ok (.iload_n 1, 1) := by decide +kernel
theorem dX11_packed_73 : decode cX11_packed 73 = .ok (.aaload, 1) := by decide +kernel
theorem dX11_packed_74 : decode cX11_packed 74 = .ok (.getfield 110, 3) := by decide +kernel
theorem dX11_packed_77 : decode cX11_packed 77 = .ok (.ireturn, 1) := by decide +kernel
theorem dX11_packed_78 : decode cX11_packed 78 = .ok (.aload_n 0, 1) := by decide +kernel
theorem dX11_packed_79 : decode cX11_packed 79 = .ok (.getfield 51, 3) := by decide +kernel
theorem dX11_packed_82 : decode cX11_packed 82 = .ok (.getfield 190, 3) := by decide +kernel
theorem dX11_packed_85 : decode cX11_packed 85 = .ok (.iload_n 1, 1) := by decide +kernel
theorem dX11_packed_86 : decode cX11_packed 86 = .ok (.aaload, 1) := by decide +kernel
theorem dX11_packed_87 : decode cX11_packed 87 = .ok (.getfield 104, 3) := by decide +kernel
theorem dX11_packed_90 : decode cX11_packed 90 = .ok (.arraylength, 1) := by decide +kernel
theorem dX11_packed_91 : decode cX11_packed 91 = .ok (.ireturn, 1) := by decide +kernel
theorem dX11_packed_92 : decode cX11_packed 92 = .ok (.aload_n 0, 1) := by decide +kernel
theorem dX11_packed_93 : decode cX11_packed 93 = .ok (.getfield 51, 3) := by decide +kernel
theorem dX11_packed_96 : decode cX11_packed 96 = .ok (.getfield 191, 3) := by decide +kernel
theorem dX11_packed_99 : decode cX11_packed 99 = .ok (.iload_n 1, 1) := by decide +kernel
theorem dX11_packed_100 : decode cX11_packed 100 = .ok (.iaload, 1) := by decide +kernel
theorem dX11_packed_101 : decode cX11_packed 101 = .ok (.ireturn, 1) := by decide +kernel
theorem dX11_packed_102 : decode cX11_packed 102 = .ok (.aload_n 0, 1) := by decide +kernel
theorem dX11_packed_103 : decode cX11_packed 103 = .ok (.getfield 51, 3) := by decide +kernel
theorem dX11_packed_106 : decode cX11_packed 106 = .ok (.iload_n 1, 1) := by decide +kernel
theorem dX11_packed_107 : decode cX11_packed 107 = .ok (.invokevirtual 194, 3) := by decide +kernel
theorem dX11_packed_110 : decode cX11_packed 110 = .ok (.ireturn, 1) := by decide +kernel
theorem dX11_packed_111 : decode cX11_packed 111 = .ok (.aload_n 0, 1) := by decide +kernel
theorem dX11_packed_112 : decode cX11_packed 112 = .ok (.getfield 51, 3) := by decide +kernel
theorem dX11_packed_115 : decode cX11_packed 115 = .ok (.iload_n 1, 1) := by decide +kernel
theorem dX11_packed_116 : decode cX11_packed 116 = .ok (.invokevirtual 197, 3) := by decide +kernel
theorem dX11_packed_119 : decode cX11_packed 119 = .ok (.ireturn, 1) := by decide +kernel
theorem dX11_packed_120 : decode cX11_packed 120 = .ok (.bipush (-3), 2) := by decide +kernel
theorem dX11_packed_122 : decode cX11_packed 122 = .ok (.ireturn, 1) := by decide +kernel
theorem dX11_read_0 : decode cX11_read 0 = .ok (.aload_n 0, 1) := by decide +kernel
theorem dX11_read_1 : decode cX11_read 1 = .ok (.getfield 51, 3) := by decide +kernel
theorem dX11_read_4 : decode cX11_read 4 = .ok (.iload_n 1, 1) := by decide +kernel
theorem dX11_read_5 : decode cX11_read 5 = .ok (.invokevirtual 183, 3) := by decide +kernel
theorem dX11_read_8 : decode cX11_read 8 = .ok (.ifCond .eq 19, 3) := by decide +kernel
theorem dX11_read_11 : decode cX11_read 11 = .ok (.aload_n 0, 1) := by decide +kernel
theorem dX11_read_12 : decode cX11_read 12 = .ok (.getfield 51, 3) := by decide +kernel
theorem dX11_read_15 : decode cX11_read 15 = .ok (.getfield 190, 3) := by decide +kernel
theorem dX11_read_18 : decode cX11_read 18 = .ok (.iload_n 1, 1) := by decide +kernel
theorem dX11_read_19 : decode cX11_read 19 = .ok (.aaload, 1) := by decide +kernel
theorem dX11_read_20 : decode cX11_read 20 = .ok (.iload_n 2, 1) := by decide +kernel
theorem dX11_read_21 : decode cX11_read 21 = .ok (.invokevirtual 120, 3) := by decide +kernel
theorem dX11_read_24 : decode cX11_read 24 = .ok (.ifCond .ne 6, 3) := by decide +kernel
theorem dX11_read_27 : decode cX11_read 27 = .ok (.bipush (-2), 2) := by decide +kernel
theorem dX11_read_29 : decode cX11_read 29 = .ok (.ireturn, 1) := by decide +kernel
theorem dX11_read_30 : decode cX11_read 30 = .ok (.aload_n 0, 1) := by decide +kernel
theorem dX11_read_31 : decode cX11_read 31 = .ok (.getfield 51, 3) := by decide +kernel
theorem dX11_read_34 : decode cX11_read 34 = .ok (.iload_n 1, 1) := by decide +kernel
theorem dX11_read_35 : decode cX11_read 35 = .ok (.aload_n 0, 1) := by decide +kernel
theorem dX11_read_36 : decode cX11_read 36 = .ok (.getfield 51, 3) := by decide +kernel
theorem dX11_read_39 : decode cX11_read 39 = .ok (.getfield 190, 3) := by decide +kernel
theorem dX11_read_42 : decode cX11_read 42 = .ok (.iload_n 1, 1) := by decide +kernel
theorem dX11_read_43 : decode cX11_read 43 = .ok (.aaload, 1) := by decide +kernel
theorem dX11_read_44 : decode cX11_read 44 = .ok (.iload_n 2, 1) := by decide +kernel
theorem dX11_read_45 : decode cX11_read 45 = .ok (.invokevirtual 200, 3) := by decide +kernel
theorem dX11_read_48 : decode cX11_read 48 = .ok (.aload_n 0, 1) := by decide +kernel
theorem dX11_read_49 : decode cX11_read 49 = .ok (.getfield 42, 3) := by decide +kernel
theorem dX11_read_52 : decode cX11_read 52 = .ok (.invokevirtual 203, 3) := by decide +kernel
theorem dX11_read_55 : decode cX11_read 55 = .ok (.aload_n 0, 1) := by decide +kernel
theorem dX11_read_56 : decode cX11_read 56 = .ok (.getfield 42, 3) := by decide +kernel
theorem dX11_read_59 : decode cX11_read 59 = .ok (.invokevirtual 207, 3) := by decide +kernel
theorem dX11_read_62 : decode cX11_read 62 = .ok (.ifCond .ne 6, 3) := by decide +kernel
theorem dX11_read_65 : decode cX11_read 65 = .ok (.bipush (-4), 2) := by decide +kernel
theorem dX11_read_67 : decode cX11_read 67 = .ok (.ireturn, 1) := by decide +kernel
theorem dX11_read_68 : decode cX11_read 68 = .ok (.aload_n 0, 1) := by decide +kernel
theorem dX11_read_69 : decode cX11_read 69 = .ok (.getfield 42, 3) := by decide +kernel
theorem dX11_read_72 : decode cX11_read 72 = .ok (.invokevirtual 210, 3) := by decide +kernel
theorem dX11_read_75 : decode cX11_read 75 = .ok (.aload_n 0, 1) := by decide +kernel
theorem dX11_read_76 : decode cX11_read 76 = .ok (.getfield 42, 3) := by decide +kernel
theorem dX11_read_79 : decode cX11_read 79 = .ok (.aload_n 0, 1) := by decide +kernel
theorem dX11_read_80 : decode cX11_read 80 = .ok (.getfield 51, 3) := by decide +kernel
theorem dX11_read_83 : decode cX11_read 83 = .ok (.getfield 190, 3) := by decide +kernel
theorem dX11_read_86 : decode cX11_read 86 = .ok (.iload_n 1, 1) := by decide +kernel
theorem dX11_read_87 : decode cX11_read 87 = .ok (.aaload, 1) := by decide +kernel
theorem dX11_read_88 : decode cX11_read 88 = .ok (.iload_n 2, 1) := by decide +kernel
theorem dX11_read_89 : decode cX11_read 89 = .ok (.invokevirtual 213, 3) := by decide +kernel
theorem dX11_read_92 : decode cX11_read 92 = .ok (.invokevirtual 216, 3) := by decide +kernel
theorem dX11_read_95 : decode cX11_read 95 = .ok (.ireturn, 1) := by decide +kernel
theorem dX11_mended_0 : decode cX11_mended 0 = .ok (.aload_n 0, 1) := by decide +kernel
theorem dX11_mended_1 : decode cX11_mended 1 = .ok (.getfield 51, 3) := by decide +kernel
theorem dX11_mended_4 : decode cX11_mended 4 = .ok (.iload_n 1, 1) := by decide +kernel
theorem dX11_mended_5 : decode cX11_mended 5 = .ok (.invokevirtual 183, 3) := by decide +kernel
theorem dX11_mended_8 : decode cX11_mended 8 = .ok (.ifCond .eq 19, 3) := by decide +kernel
theorem dX11_mended_11 : decode cX11_mended 11 = .ok (.aload_n 0, 1) := by decide +kernel
theorem dX11_mended_12 : decode cX11_mended 12 = .ok (.getfield 51, 3) := by decide +kernel
theorem dX11_mended_15 : decode cX11_mended 15 = .ok (.getfield 190, 3) := by decide +kernel
theorem dX11_mended_18 : decode cX11_mended 18 = .ok (.iload_n 1, 1) := by decide +kernel
theorem dX11_mended_19 : decode cX11_mended 19 = .ok (.aaload, 1) := by decide +kernel
theorem dX11_mended_20 : decode cX11_mended 20 = .ok (.iload_n 2, 1) := by decide +kernel
theorem dX11_mended_21 : decode cX11_mended 21 = .ok (.invokevirtual 120, 3) := by decide +kernel
theorem dX11_mended_24 : decode cX11_mended 24 = .ok (.ifCond .ne 6, 3) := by decide +kernel
theorem dX11_mended_27 : decode cX11_mended 27 = .ok (.bipush (-2), 2) := by decide +kernel
theorem dX11_mended_29 : decode cX11_mended 29 = .ok (.ireturn, 1) := by decide +kernel
theorem dX11_mended_30 : decode cX11_mended 30 = .ok (.aload_n 0, 1) := by decide +kernel
theorem dX11_mended_31 : decode cX11_mended 31 = .ok (.getfield 51, 3) := by decide +kernel
theorem dX11_mended_34 : decode cX11_mended 34 = .ok (.iload_n 1, 1) := by decide +kernel
theorem dX11_mended_35 : decode cX11_mended 35 = .ok (.aload_n 0, 1) := by decide +kernel
theorem dX11_mended_36 : decode cX11_mended 36 = .ok (.getfield 51, 3) := by decide +kernel
theorem dX11_mended_39 : decode cX11_mended 39 = .ok (.getfield 190, 3) := by decide +kernel
theorem dX11_mended_42 : decode cX11_mended 42 = .ok (.iload_n 1, 1) := by decide +kernel
theorem dX11_mended_43 : decode cX11_mended 43 = .ok (.aaload, 1) := by decide +kernel
theorem dX11_mended_44 : decode cX11_mended 44 = .ok (.iload_n 2, 1) := by decide +kernel
theorem dX11_mended_45 : decode cX11_mended 45 = .ok (.invokevirtual 200, 3) := by decide +kernel
theorem dX11_mended_48 : decode cX11_mended 48 = .ok (.aload_n 0, 1) := by decide +kernel
theorem dX11_mended_49 : decode cX11_mended 49 = .ok (.getfield 42, 3) := by decide +kernel
theorem dX11_mended_52 : decode cX11_mended 52 = .ok (.invokevirtual 203, 3) := by decide +kernel
theorem dX11_mended_55 : decode cX11_mended 55 = .ok (.aload_n 0, 1) := by decide +kernel
theorem dX11_mended_56 : decode cX11_mended 56 = .ok (.getfield 42, 3) := by decide +kernel
theorem dX11_mended_59 : decode cX11_mended 59 = .ok (.invokevirtual 207, 3) := by decide +kernel
theorem dX11_mended_62 : decode cX11_mended 62 = .ok (.ifCond .ne 6, 3) := by decide +kernel
theorem dX11_mended_65 : decode cX11_mended 65 = .ok (.bipush (-4), 2) := by decide +kernel
theorem dX11_mended_67 : decode cX11_mended 67 = .ok (.ireturn, 1) := by decide +kernel
theorem dX11_mended_68 : decode cX11_mended 68 = .ok (.aload_n 0, 1) := by decide +kernel
theorem dX11_mended_69 : decode cX11_mended 69 = .ok (.getfield 42, 3) := by decide +kernel
theorem dX11_mended_72 : decode cX11_mended 72 = .ok (.invokevirtual 219, 3) := by decide +kernel
theorem dX11_mended_75 : decode cX11_mended 75 = .ok (.ifCond .eq 26, 3) := by decide +kernel
theorem dX11_mended_78 : decode cX11_mended 78 = .ok (.aload_n 0, 1) := by decide +kernel
theorem dX11_mended_79 : decode cX11_mended 79 = .ok (.getfield 42, 3) := by decide +kernel
theorem dX11_mended_82 : decode cX11_mended 82 = .ok (.aload_n 0, 1) := by decide +kernel
theorem dX11_mended_83 : decode cX11_mended 83 = .ok (.getfield 51, 3) := by decide +kernel
theorem dX11_mended_86 : decode cX11_mended 86 = .ok (.getfield 190, 3) := by decide +kernel
theorem dX11_mended_89 : decode cX11_mended 89 = .ok (.iload_n 1, 1) := by decide +kernel
theorem dX11_mended_90 : decode cX11_mended 90 = .ok (.aaload, 1) := by decide +kernel
theorem dX11_mended_91 : decode cX11_mended 91 = .ok (.iload_n 2, 1) := by decide +kernel
theorem dX11_mended_92 : decode cX11_mended 92 = .ok (.invokevirtual 213, 3) := by decide +kernel
theorem dX11_mended_95 : decode cX11_mended 95 = .ok (.invokevirtual 216, 3) := by decide +kernel
theorem dX11_mended_98 : decode cX11_mended 98 = .ok (.goto 4, 3) := by decide +kernel
theorem dX11_mended_101 : decode cX11_mended 101 = .ok (.iconst (-1), 1) := by decide +kernel
theorem dX11_mended_102 : decode cX11_mended 102 = .ok (.ireturn, 1) := by decide +kernel
theorem dX11_blamed_0 : decode cX11_blamed 0 = .ok (.aload_n 0, 1) := by decide +kernel
theorem dX11_blamed_1 : decode cX11_blamed 1 = .ok (.getfield 51, 3) := by decide +kernel
theorem dX11_blamed_4 : decode cX11_blamed 4 = .ok (.iload_n 1, 1) := by decide +kernel
theorem dX11_blamed_5 : decode cX11_blamed 5 = .ok (.invokevirtual 145, 3) := by decide +kernel
theorem dX11_blamed_8 : decode cX11_blamed 8 = .ok (.ifCond .eq 18, 3) := by decide +kernel
theorem dX11_blamed_11 : decode cX11_blamed 11 = .ok (.aload_n 0, 1) := by decide +kernel
theorem dX11_blamed_12 : decode cX11_blamed 12 = .ok (.getfield 51, 3) := by decide +kernel
theorem dX11_blamed_15 : decode cX11_blamed 15 = .ok (.iload_n 1, 1) := by decide +kernel
theorem dX11_blamed_16 : decode cX11_blamed 16 = .ok (.aload_n 0, 1) := by decide +kernel
theorem dX11_blamed_17 : decode cX11_blamed 17 = .ok (.getfield 42, 3) := by decide +kernel
theorem dX11_blamed_20 : decode cX11_blamed 20 = .ok (.invokevirtual 222, 3) := by decide +kernel
theorem dX11_blamed_23 : decode cX11_blamed 23 = .ok (.goto 5, 3) := by decide +kernel
theorem dX11_blamed_26 : decode cX11_blamed 26 = .ok (.bipush (-2), 2) := by decide +kernel
theorem dX11_blamed_28 : decode cX11_blamed 28 = .ok (.ireturn, 1) := by decide +kernel
theorem dX11_opened_0 : decode cX11_opened 0 = .ok (.iload_n 1, 1) := by decide +kernel
theorem dX11_opened_1 : decode cX11_opened 1 = .ok (.iconst 0, 1) := by decide +kernel
theorem dX11_opened_2 : decode cX11_opened 2 = .ok (.bipush 8, 2) := by decide +kernel
theorem dX11_opened_4 : decode cX11_opened 4 = .ok (.invokestatic 64, 3) := by decide +kernel
theorem dX11_opened_7 : decode cX11_opened 7 = .ok (.ifCond .eq 14, 3) := by decide +kernel
theorem dX11_opened_10 : decode cX11_opened 10 = .ok (.aload_n 0, 1) := by decide +kernel
theorem dX11_opened_11 : decode cX11_opened 11 = .ok (.getfield 51, 3) := by decide +kernel
theorem dX11_opened_14 : decode cX11_opened 14 = .ok (.iload_n 1, 1) := by decide +kernel
theorem dX11_opened_15 : decode cX11_opened 15 = .ok (.invokevirtual 225, 3) := by decide +kernel
theorem dX11_opened_18 : decode cX11_opened 18 = .ok (.goto 5, 3) := by decide +kernel
theorem dX11_opened_21 : decode cX11_opened 21 = .ok (.bipush (-3), 2) := by decide +kernel
theorem dX11_opened_23 : decode cX11_opened 23 = .ok (.ireturn, 1) := by decide +kernel
theorem dX11_plan_0 : decode cX11_plan 0 = .ok (.aload_n 0, 1) := by decide +kernel
theorem dX11_plan_1 : decode cX11_plan 1 = .ok (.getfield 28, 3) := by decide +kernel
theorem dX11_plan_4 : decode cX11_plan 4 = .ok (.iload_n 1, 1) := by decide +kernel
theorem dX11_plan_5 : decode cX11_plan 5 = .ok (.invokevirtual 97, 3) := by decide +kernel
theorem dX11_plan_8 : decode cX11_plan 8 = .ok (.ifCond .ne 6, 3) := by decide +kernel
theorem dX11_plan_11 : decode cX11_plan 11 = .ok (.bipush (-2), 2) := by decide +kernel
theorem dX11_plan_13 : decode cX11_plan 13 = .ok (.ireturn, 1) := by decide +kernel
theorem dX11_plan_14 : decode cX11_plan 14 = .ok (.aload_n 0, 1) := by decide +kernel
theorem dX11_plan_15 : decode cX11_plan 15 = .ok (.getfield 35, 3) := by decide +kernel
theorem dX11_plan_18 : decode cX11_plan 18 = .ok (.aload_n 0, 1) := by decide +kernel
theorem dX11_plan_19 : decode cX11_plan 19 = .ok (.getfield 28, 3) := by decide +kernel
theorem dX11_plan_22 : decode cX11_plan 22 = .ok (.invokevirtual 228, 3) := by decide +kernel
theorem dX11_plan_25 : decode cX11_plan 25 = .ok (.ifCond .eq 15, 3) := by decide +kernel
theorem dX11_plan_28 : decode cX11_plan 28 = .ok (.aload_n 0, 1) := by decide +kernel
theorem dX11_plan_29 : decode cX11_plan 29 = .ok (.getfield 35, 3) := by decide +kernel
theorem dX11_plan_32 : decode cX11_plan 32 = .ok (.getfield 232, 3) := by decide +kernel
theorem dX11_plan_35 : decode cX11_plan 35 = .ok (.iload_n 1, 1) := by decide +kernel
theorem dX11_plan_36 : decode cX11_plan 36 = .ok (.iaload, 1) := by decide +kernel
theorem dX11_plan_37 : decode cX11_plan 37 = .ok (.goto 4, 3) := by decide +kernel
theorem dX11_plan_40 : decode cX11_plan 40 = .ok (.iconst (-1), 1) := by decide +kernel
theorem dX11_plan_41 : decode cX11_plan 41 = .ok (.ireturn, 1) := by decide +kernel
theorem dX11_lesser_0 : decode cX11_lesser 0 = .ok (.iload_n 1, 1) := by decide +kernel
theorem dX11_lesser_1 : decode cX11_lesser 1 = .ok (.iconst 0, 1) := by decide +kernel
theorem dX11_lesser_2 : decode cX11_lesser 2 = .ok (.bipush 40, 2) := by decide +kernel
theorem dX11_lesser_4 : decode cX11_lesser 4 = .ok (.invokestatic 64, 3) := by decide +kernel
theorem dX11_lesser_7 : decode cX11_lesser 7 = .ok (.ifCond .eq 14, 3) := by decide +kernel
theorem dX11_lesser_10 : decode cX11_lesser 10 = .ok (.aload_n 0, 1) := by decide +kernel
theorem dX11_lesser_11 : decode cX11_lesser 11 = .ok (.getfield 28, 3) := by decide +kernel
theorem dX11_lesser_14 : decode cX11_lesser 14 = .ok (.iload_n 1, 1) := by decide +kernel
theorem dX11_lesser_15 : decode cX11_lesser 15 = .ok (.invokevirtual 235, 3) := by decide +kernel
theorem dX11_lesser_18 : decode cX11_lesser 18 = .ok (.goto 5, 3) := by decide +kernel
theorem dX11_lesser_21 : decode cX11_lesser 21 = .ok (.bipush (-3), 2) := by decide +kernel
theorem dX11_lesser_23 : decode cX11_lesser 23 = .ok (.ireturn, 1) := by decide +kernel
theorem dX11_count_0 : decode cX11_count 0 = .ok (.iload_n 1, 1) := by decide +kernel
theorem dX11_count_1 : decode cX11_count 1 = .ok (.tableswitch 231 0 14 #[75, 83, 91, 99, 107, 123, 131, 157, 165, 173, 181, 189, 202, 215, 223], 75) := by decide +kernel
theorem dX11_count_76 : decode cX11_count 76 = .ok (.aload_n 0, 1) := by decide +kernel
theorem dX11_count_77 : decode cX11_count 77 = .ok (.getfield 28, 3) := by decide +kernel
theorem dX11_count_80 : decode cX11_count 80 = .ok (.getfield 76, 3) := by decide +kernel
theorem dX11_count_83 : decode cX11_count 83 = .ok (.ireturn, 1) := by decide +kernel
theorem dX11_count_84 : decode cX11_count 84 = .ok (.aload_n 0, 1) := by decide +kernel
theorem dX11_count_85 : decode cX11_count 85 = .ok (.getfield 28, 3) := by decide +kernel
theorem dX11_count_88 : decode cX11_count 88 = .ok (.getfield 127, 3) := by decide +kernel
theorem dX11_count_91 : decode cX11_count 91 = .ok (.ireturn, 1) := by decide +kernel
theorem dX11_count_92 : decode cX11_count 92 = .ok (.aload_n 0, 1) := by decide +kernel
theorem dX11_count_93 : decode cX11_count 93 = .ok (.getfield 28, 3) := by decide +kernel
theorem dX11_count_96 : decode cX11_count 96 = .ok (.getfield 130, 3) := by decide +kernel
theorem dX11_count_99 : decode cX11_count 99 = .ok (.ireturn, 1) := by decide +kernel
theorem dX11_count_100 : decode cX11_count 100 = .ok (.aload_n 0, 1) := by decide +kernel
theorem dX11_count_101 : decode cX11_count 101 = .ok (.getfield 28, 3) := by decide +kernel
theorem dX11_count_104 : decode cX11_count 104 = .ok (.invokevirtual 238, 3) := by decide +kernel
theorem dX11_count_107 : decode cX11_count 107 = .ok (.ireturn, 1) := by decide +kernel
theorem dX11_count_108 : decode cX11_count 108 = .ok (.aload_n 0, 1) := by decide +kernel
theorem dX11_count_109 : decode cX11_count 109 = .ok (.getfield 28, 3) := by decide +kernel
theorem dX11_count_112 : decode cX11_count 112 = .ok (.invokevirtual 140, 3) := by decide +kernel
theorem dX11_count_115 : decode cX11_count 115 = .ok (.ifCond .eq 7, 3) := by decide +kernel
theorem dX11_count_118 : decode cX11_count 118 = .ok (.iconst 1, 1) := by decide +kernel
theorem dX11_count_119 : decode cX11_count 119 = .ok (.goto 4, 3) := by decide +kernel
theorem dX11_count_122 : decode cX11_count 122 = .ok (.iconst 0, 1) := by decide +kernel
theorem dX11_count_123 : decode cX11_count 123 = .ok (.ireturn, 1) := by decide +kernel
theorem dX11_count_124 : decode cX11_count 124 = .ok (.aload_n 0, 1) := by decide +kernel
theorem dX11_count_125 : decode cX11_count 125 = .ok (.getfield 28, 3) := by decide +kernel
theorem dX11_count_128 : decode cX11_count 128 = .ok (.invokevirtual 240, 3) := by decide +kernel
theorem dX11_count_131 : decode cX11_count 131 = .ok (.ireturn, 1) := by decide +kernel
theorem dX11_count_132 : decode cX11_count 132 = .ok (.aload_n 0, 1) := by decide +kernel
theorem dX11_count_133 : decode cX11_count 133 = .ok (.getfield 35, 3) := by decide +kernel
theorem dX11_count_136 : decode cX11_count 136 = .ok (.aload_n 0, 1) := by decide +kernel
theorem dX11_count_137 : decode cX11_count 137 = .ok (.getfield 28, 3) := by decide +kernel
theorem dX11_count_140 : decode cX11_count 140 = .ok (.invokevirtual 228, 3) := by decide +kernel
theorem dX11_count_143 : decode cX11_count 143 = .ok (.ifCond .eq 13, 3) := by decide +kernel
theorem dX11_count_146 : decode cX11_count 146 = .ok (.aload_n 0, 1) := by decide +kernel
theorem dX11_count_147 : decode cX11_count 147 = .ok (.getfield 35, 3) := by decide +kernel
theorem dX11_count_150 : decode cX11_count 150 = .ok (.getfield 243, 3) := by decide +kernel
theorem dX11_count_153 : decode cX11_count 153 = .ok (.goto 4, 3) := by decide +kernel
theorem dX11_count_156 : decode cX11_count 156 = .ok (.iconst (-1), 1) := by decide +kernel
theorem dX11_count_157 : decode cX11_count 157 = .ok (.ireturn, 1) := by decide +kernel
theorem dX11_count_158 : decode cX11_count 158 = .ok (.aload_n 0, 1) := by decide +kernel
theorem dX11_count_159 : decode cX11_count 159 = .ok (.getfield 51, 3) := by decide +kernel
theorem dX11_count_162 : decode cX11_count 162 = .ok (.getfield 245, 3) := by decide +kernel
theorem dX11_count_165 : decode cX11_count 165 = .ok (.ireturn, 1) := by decide +kernel
theorem dX11_count_166 : decode cX11_count 166 = .ok (.aload_n 0, 1) := by decide +kernel
theorem dX11_count_167 : decode cX11_count 167 = .ok (.getfield 51, 3) := by decide +kernel
theorem dX11_count_170 : decode cX11_count 170 = .ok (.getfield 246, 3) := by decide +kernel
theorem dX11_count_173 : decode cX11_count 173 = .ok (.ireturn, 1) := by decide +kernel
theorem dX11_count_174 : decode cX11_count 174 = .ok (.aload_n 0, 1) := by decide +kernel
theorem dX11_count_175 : decode cX11_count 175 = .ok (.getfield 51, 3) := by decide +kernel
theorem dX11_count_178 : decode cX11_count 178 = .ok (.getfield 144, 3) := by decide +kernel
theorem dX11_count_181 : decode cX11_count 181 = .ok (.ireturn, 1) := by decide +kernel
theorem dX11_count_182 : decode cX11_count 182 = .ok (.aload_n 0, 1) := by decide +kernel
theorem dX11_count_183 : decode cX11_count 183 = .ok (.getfield 51, 3) := by decide +kernel
theorem dX11_count_186 : decode cX11_count 186 = .ok (.invokevirtual 249, 3) := by decide +kernel
theorem dX11_count_189 : decode cX11_count 189 = .ok (.ireturn, 1) := by decide +kernel
theorem dX11_count_190 : decode cX11_count 190 = .ok (.aload_n 0, 1) := by decide +kernel
theorem dX11_count_191 : decode cX11_count 191 = .ok (.getfield 51, 3) := by decide +kernel
theorem dX11_count_194 : decode cX11_count 194 = .ok (.iconst 0, 1) := by decide +kernel
theorem dX11_count_195 : decode cX11_count 195 = .ok (.aload_n 0, 1) := by decide +kernel
theorem dX11_count_196 : decode cX11_count 196 = .ok (.getfield 42, 3) := by decide +kernel
theorem dX11_count_199 : decode cX11_count 199 = .ok (.invokevirtual 252, 3) := by decide +kernel
theorem dX11_count_202 : decode cX11_count 202 = .ok (.ireturn, 1) := by decide +kernel
theorem dX11_count_203 : decode cX11_count 203 = .ok (.aload_n 0, 1) := by decide +kernel
theorem dX11_count_204 : decode cX11_count 204 = .ok (.getfield 51, 3) := by decide +kernel
theorem dX11_count_207 : decode cX11_count 207 = .ok (.iconst 2, 1) := by decide +kernel
theorem dX11_count_208 : decode cX11_count 208 = .ok (.aload_n 0, 1) := by decide +kernel
theorem dX11_count_209 : decode cX11_count 209 = .ok (.getfield 42, 3) := by decide +kernel
theorem dX11_count_212 : decode cX11_count 212 = .ok (.invokevirtual 252, 3) := by decide +kernel
theorem dX11_count_215 : decode cX11_count 215 = .ok (.ireturn, 1) := by decide +kernel
theorem dX11_count_216 : decode cX11_count 216 = .ok (.aload_n 0, 1) := by decide +kernel
theorem dX11_count_217 : decode cX11_count 217 = .ok (.getfield 60, 3) := by decide +kernel
theorem dX11_count_220 : decode cX11_count 220 = .ok (.getfield 169, 3) := by decide +kernel
theorem dX11_count_223 : decode cX11_count 223 = .ok (.ireturn, 1) := by decide +kernel
theorem dX11_count_224 : decode cX11_count 224 = .ok (.aload_n 0, 1) := by decide +kernel
theorem dX11_count_225 : decode cX11_count 225 = .ok (.getfield 10, 3) := by decide +kernel
theorem dX11_count_228 : decode cX11_count 228 = .ok (.getfield 72, 3) := by decide +kernel
theorem dX11_count_231 : decode cX11_count 231 = .ok (.ireturn, 1) := by decide +kernel
theorem dX11_count_232 : decode cX11_count 232 = .ok (.bipush (-3), 2) := by decide +kernel
theorem dX11_count_234 : decode cX11_count 234 = .ok (.ireturn, 1) := by decide +kernel
theorem dX11_carryOut_0 : decode cX11_carryOut 0 = .ok (.aload_n 1, 1) := by decide +kernel
theorem dX11_carryOut_1 : decode cX11_carryOut 1 = .ok (.getfield 255, 3) := by decide +kernel
theorem dX11_carryOut_4 : decode cX11_carryOut 4 = .ok (.tableswitch 66 0 2 #[28, 38, 52], 28) := by decide +kernel
theorem dX11_carryOut_32 : decode cX11_carryOut 32 = .ok (.aload_n 0, 1) := by decide +kernel
theorem dX11_carryOut_33 : decode cX11_carryOut 33 = .ok (.getfield 28, 3) := by decide +kernel
theorem dX11_carryOut_36 : decode cX11_carryOut 36 = .ok (.invokevirtual 260, 3) := by decide +kernel
theorem dX11_carryOut_39 : decode cX11_carryOut 39 = .ok (.goto 43, 3) := by decide +kernel
theorem dX11_carryOut_42 : decode cX11_carryOut 42 = .ok (.aload_n 0, 1) := by decide +kernel
theorem dX11_carryOut_43 : decode cX11_carryOut 43 = .ok (.getfield 28, 3) := by decide +kernel
theorem dX11_carryOut_46 : decode cX11_carryOut 46 = .ok (.aload_n 1, 1) := by decide +kernel
theorem dX11_carryOut_47 : decode cX11_carryOut 47 = .ok (.getfield 263, 3) := by decide +kernel
theorem dX11_carryOut_50 : decode cX11_carryOut 50 = .ok (.putfield 127, 3) := by decide +kernel
theorem dX11_carryOut_53 : decode cX11_carryOut 53 = .ok (.goto 29, 3) := by decide +kernel
theorem dX11_carryOut_56 : decode cX11_carryOut 56 = .ok (.aload_n 0, 1) := by decide +kernel
theorem dX11_carryOut_57 : decode cX11_carryOut 57 = .ok (.getfield 28, 3) := by decide +kernel
theorem dX11_carryOut_60 : decode cX11_carryOut 60 = .ok (.aload_n 1, 1) := by decide +kernel
theorem dX11_carryOut_61 : decode cX11_carryOut 61 = .ok (.getfield 263, 3) := by decide +kernel
theorem dX11_carryOut_64 : decode cX11_carryOut 64 = .ok (.putfield 130, 3) := by decide +kernel
theorem dX11_carryOut_67 : decode cX11_carryOut 67 = .ok (.goto 15, 3) := by decide +kernel
theorem dX11_carryOut_70 : decode cX11_carryOut 70 = .ok (.aload_n 0, 1) := by decide +kernel
theorem dX11_carryOut_71 : decode cX11_carryOut 71 = .ok (.getfield 28, 3) := by decide +kernel
theorem dX11_carryOut_74 : decode cX11_carryOut 74 = .ok (.aload_n 0, 1) := by decide +kernel
theorem dX11_carryOut_75 : decode cX11_carryOut 75 = .ok (.aload_n 1, 1) := by decide +kernel
theorem dX11_carryOut_76 : decode cX11_carryOut 76 = .ok (.invokevirtual 265, 3) := by decide +kernel
theorem dX11_carryOut_79 : decode cX11_carryOut 79 = .ok (.invokevirtual 269, 3) := by decide +kernel
theorem dX11_carryOut_82 : decode cX11_carryOut 82 = .ok (.return_, 1) := by decide +kernel
theorem dX11_partOf_0 : decode cX11_partOf 0 = .ok (.aload_n 0, 1) := by decide +kernel
theorem dX11_partOf_1 : decode cX11_partOf 1 = .ok (.getfield 10, 3) := by decide +kernel
theorem dX11_partOf_4 : decode cX11_partOf 4 = .ok (.aload_n 1, 1) := by decide +kernel
theorem dX11_partOf_5 : decode cX11_partOf 5 = .ok (.getfield 273, 3) := by decide +kernel
theorem dX11_partOf_8 : decode cX11_partOf 8 = .ok (.aload_n 1, 1) := by decide +kernel
theorem dX11_partOf_9 : decode cX11_partOf 9 = .ok (.getfield 276, 3) := by decide +kernel
theorem dX11_partOf_12 : decode cX11_partOf 12 = .ok (.invokevirtual 279, 3) := by decide +kernel
theorem dX11_partOf_15 : decode cX11_partOf 15 = .ok (.astore_n 2, 1) := by decide +kernel
theorem dX11_partOf_16 : decode cX11_partOf 16 = .ok (.new 105, 3) := by decide +kernel
theorem dX11_partOf_19 : decode cX11_partOf 19 = .ok (.dup, 1) := by decide +kernel
theorem dX11_partOf_20 : decode cX11_partOf 20 = .ok (.aload_n 2, 1) := by decide +kernel
theorem dX11_partOf_21 : decode cX11_partOf 21 = .ok (.aload_n 1, 1) := by decide +kernel
theorem dX11_partOf_22 : decode cX11_partOf 22 = .ok (.getfield 263, 3) := by decide +kernel
theorem dX11_partOf_25 : decode cX11_partOf 25 = .ok (.aload_n 1, 1) := by decide +kernel
theorem dX11_partOf_26 : decode cX11_partOf 26 = .ok (.getfield 283, 3) := by decide +kernel
theorem dX11_partOf_29 : decode cX11_partOf 29 = .ok (.invokespecial 133, 3) := by decide +kernel
theorem dX11_partOf_32 : decode cX11_partOf 32 = .ok (.areturn, 1) := by decide +kernel
theorem dX11_within_0 : decode cX11_within 0 = .ok (.iload_n 0, 1) := by decide +kernel
theorem dX11_within_1 : decode cX11_within 1 = .ok (.iload_n 1, 1) := by decide +kernel
theorem dX11_within_2 : decode cX11_within 2 = .ok (.if_icmp .lt 12, 3) := by decide +kernel
theorem dX11_within_5 : decode cX11_within 5 = .ok (.iload_n 0, 1) := by decide +kernel
theorem dX11_within_6 : decode cX11_within 6 = .ok (.iload_n 2, 1) := by decide +kernel
theorem dX11_within_7 : decode cX11_within 7 = .ok (.if_icmp .gt 7, 3) := by decide +kernel
theorem dX11_within_10 : decode cX11_within 10 = .ok (.iconst 1, 1) := by decide +kernel
theorem dX11_within_11 : decode cX11_within 11 = .ok (.goto 4, 3) := by decide +kernel
theorem dX11_within_14 : decode cX11_within 14 = .ok (.iconst 0, 1) := by decide +kernel
theorem dX11_within_15 : decode cX11_within 15 = .ok (.ireturn, 1) := by decide +kernel
theorem dX11_stripesFor_0 : decode cX11_stripesFor 0 = .ok (.iload_n 1, 1) := by decide +kernel
theorem dX11_stripesFor_1 : decode cX11_stripesFor 1 = .ok (.iconst 1, 1) := by decide +kernel
theorem dX11_stripesFor_2 : decode cX11_stripesFor 2 = .ok (.if_icmp .ge 7, 3) := by decide +kernel
theorem dX11_stripesFor_5 : decode cX11_stripesFor 5 = .ok (.iconst 0, 1) := by decide +kernel
theorem dX11_stripesFor_6 : decode cX11_stripesFor 6 = .ok (.goto 10, 3) := by decide +kernel
theorem dX11_stripesFor_9 : decode cX11_stripesFor 9 = .ok (.iload_n 0, 1) := by decide +kernel
theorem dX11_stripesFor_10 : decode cX11_stripesFor 10 = .ok (.iload_n 1, 1) := by decide +kernel
theorem dX11_stripesFor_11 : decode cX11_stripesFor 11 = .ok (.iadd, 1) := by decide +kernel
theorem dX11_stripesFor_12 : decode cX11_stripesFor 12 = .ok (.iconst 1, 1) := by decide +kernel
theorem dX11_stripesFor_13 : decode cX11_stripesFor 13 = .ok (.isub, 1) := by decide +kernel
theorem dX11_stripesFor_14 : decode cX11_stripesFor 14 = .ok (.iload_n 1, 1) := by decide +kernel
theorem dX11_stripesFor_15 : decode cX11_stripesFor 15 = .ok (.idiv, 1) := by decide +kernel
theorem dX11_stripesFor_16 : decode cX11_stripesFor 16 = .ok (.ireturn, 1) := by decide +kernel
theorem dX11_valueAt_0 : decode cX11_valueAt 0 = .ok (.iconst 0, 1) := by decide +kernel
theorem dX11_valueAt_1 : decode cX11_valueAt 1 = .ok (.istore 4, 2) := by decide +kernel
theorem dX11_valueAt_3 : decode cX11_valueAt 3 = .ok (.iload_n 2, 1) := by decide +kernel
theorem dX11_valueAt_4 : decode cX11_valueAt 4 = .ok (.iconst 1, 1) := by decide +kernel
theorem dX11_valueAt_5 : decode cX11_valueAt 5 = .ok (.isub, 1) := by decide +kernel
theorem dX11_valueAt_6 : decode cX11_valueAt 6 = .ok (.istore 5, 2) := by decide +kernel
theorem dX11_valueAt_8 : decode cX11_valueAt 8 = .ok (.iload 5, 2) := by decide +kernel
theorem dX11_valueAt_10 : decode cX11_valueAt 10 = .ok (.ifCond .lt 50, 3) := by decide +kernel
theorem dX11_valueAt_13 : decode cX11_valueAt 13 = .ok (.iload_n 1, 1) := by decide +kernel
theorem dX11_valueAt_14 : decode cX11_valueAt 14 = .ok (.iload 5, 2) := by decide +kernel
theorem dX11_valueAt_16 : decode cX11_valueAt 16 = .ok (.iadd, 1) := by decide +kernel
theorem dX11_valueAt_17 : decode cX11_valueAt 17 = .ok (.iconst 0, 1) := by decide +kernel
theorem dX11_valueAt_18 : decode cX11_valueAt 18 = .ok (.aload_n 0, 1) := by decide +kernel
theorem dX11_valueAt_19 : decode cX11_valueAt 19 = .ok (.arraylength, 1) := by decide +kernel
theorem dX11_valueAt_20 : decode cX11_valueAt 20 = .ok (.iconst 1, 1) := by decide +kernel
theorem dX11_valueAt_21 : decode cX11_valueAt 21 = .ok (.isub, 1) := by decide +kernel
theorem dX11_valueAt_22 : decode cX11_valueAt 22 = .ok (.invokestatic 64, 3) := by decide +kernel
theorem dX11_valueAt_25 : decode cX11_valueAt 25 = .ok (.ifCond .eq 12, 3) := by decide +kernel
theorem dX11_valueAt_28 : decode cX11_valueAt 28 = .ok (.aload_n 0, 1) := by decide +kernel
theorem dX11_valueAt_29 : decode cX11_valueAt 29 = .ok (.iload_n 1, 1) := by decide +kernel
theorem dX11_valueAt_30 : decode cX11_valueAt 30 = .ok (.iload 5, 2) := by decide +kernel
theorem dX11_valueAt_32 : decode cX11_valueAt 32 = .ok (.iadd, 1) := by decide +kernel
theorem dX11_valueAt_33 : decode cX11_valueAt 33 = .ok (.iaload, 1) := by decide +kernel
theorem dX11_valueAt_34 : decode cX11_valueAt 34 = .ok (.goto 4, 3) := by decide +kernel
theorem dX11_valueAt_37 : decode cX11_valueAt 37 = .ok (.iconst 0, 1) := by decide +kernel
theorem dX11_valueAt_38 : decode cX11_valueAt 38 = .ok (.istore 6, 2) := by decide +kernel
theorem dX11_valueAt_40 : decode cX11_valueAt 40 = .ok (.iload 4, 2) := by decide +kernel
theorem dX11_valueAt_42 : decode cX11_valueAt 42 = .ok (.iload_n 3, 1) := by decide +kernel
theorem dX11_valueAt_43 : decode cX11_valueAt 43 = .ok (.imul, 1) := by decide +kernel
theorem dX11_valueAt_44 : decode cX11_valueAt 44 = .ok (.iload 6, 2) := by decide +kernel
theorem dX11_valueAt_46 : decode cX11_valueAt 46 = .ok (.iadd, 1) := by decide +kernel
theorem dX11_valueAt_47 : decode cX11_valueAt 47 = .ok (.bipush 29, 2) := by decide +kernel
theorem dX11_valueAt_49 : decode cX11_valueAt 49 = .ok (.invokestatic 286, 3) := by decide +kernel
theorem dX11_valueAt_52 : decode cX11_valueAt 52 = .ok (.istore 4, 2) := by decide +kernel
theorem dX11_valueAt_54 : decode cX11_valueAt 54 = .ok (.iinc 5 (-1), 3) := by decide +kernel
theorem dX11_valueAt_57 : decode cX11_valueAt 57 = .ok (.goto (-49), 3) := by decide +kernel
theorem dX11_valueAt_60 : decode cX11_valueAt 60 = .ok (.iload 4, 2) := by decide +kernel
theorem dX11_valueAt_62 : decode cX11_valueAt 62 = .ok (.ireturn, 1) := by decide +kernel
theorem dX12_init_0 : decode cX12_init 0 = .ok (.aload_n 0, 1) := by decide +kernel
theorem dX12_init_1 : decode cX12_init 1 = .ok (.invokespecial 1, 3) := by decide +kernel
theorem dX12_init_4 : decode cX12_init 4 = .ok (.aload_n 0, 1) := by decide +kernel
theorem dX12_init_5 : decode cX12_init 5 = .ok (.sipush 6930, 3) := by decide +kernel
theorem dX12_init_8 : decode cX12_init 8 = .ok (.newarray .int, 2) := by decide +kernel
theorem dX12_init_10 : decode cX12_init 10 = .ok (.putfield 7, 3) := by decide +kernel
theorem dX12_init_13 : decode cX12_init 13 = .ok (.aload_n 0, 1) := by decide +kernel
theorem dX12_init_14 : decode cX12_init 14 = .ok (.sipush 200, 3) := by decide +kernel
theorem dX12_init_17 : decode cX12_init 17 = .ok (.newarray .int, 2) := by decide +kernel
theorem dX12_init_19 : decode cX12_init 19 = .ok (.putfield 13, 3) := by decide +kernel
theorem dX12_init_22 : decode cX12_init 22 = .ok (.aload_n 0, 1) := by decide +kernel
theorem dX12_init_23 : decode cX12_init 23 = .ok (.iconst 2, 1) := by decide +kernel
theorem dX12_init_24 : decode cX12_init 24 = .ok (.newarray .int, 2) := by decide +kernel
theorem dX12_init_26 : decode cX12_init 26 = .ok (.putfield 16, 3) := by decide +kernel
theorem dX12_init_29 : decode cX12_init 29 = .ok (.aload_n 0, 1) := by decide +kernel
theorem dX12_init_30 : decode cX12_init 30 = .ok (.bipush 28, 2) := by decide +kernel
theorem dX12_init_32 : decode cX12_init 32 = .ok (.newarray .int, 2) := by decide +kernel
theorem dX12_init_34 : decode cX12_init 34 = .ok (.dup, 1) := by decide +kernel
theorem dX12_init_35 : decode cX12_init 35 = .ok (.iconst 0, 1) := by decide +kernel
theorem dX12_init_36 : decode cX12_init 36 = .ok (.bipush 97, 2) := by decide +kernel
theorem dX12_init_38 : decode cX12_init 38 = .ok (.iastore, 1) := by decide +kernel
theorem dX12_init_39 : decode cX12_init 39 = .ok (.dup, 1) := by decide +kernel
theorem dX12_init_40 : decode cX12_init 40 = .ok (.iconst 1, 1) := by decide +kernel
theorem dX12_init_41 : decode cX12_init 41 = .ok (.bipush 108, 2) := by decide +kernel
theorem dX12_init_43 : decode cX12_init 43 = .ok (.iastore, 1) := by decide +kernel
theorem dX12_init_44 : decode cX12_init 44 = .ok (.dup, 1) := by decide +kernel
theorem dX12_init_45 : decode cX12_init 45 = .ok (.iconst 2, 1) := by decide +kernel
theorem dX12_init_46 : decode cX12_init 46 = .ok (.bipush 108, 2) := by decide +kernel
theorem dX12_init_48 : decode cX12_init 48 = .ok (.iastore, 1) := by decide +kernel
theorem dX12_init_49 : decode cX12_init 49 = .ok (.dup, 1) := by decide +kernel
theorem dX12_init_50 : decode cX12_init 50 = .ok (.iconst 3, 1) := by decide +kernel
theorem dX12_init_51 : decode cX12_init 51 = .ok (.iconst 0, 1) := by decide +kernel
theorem dX12_init_52 : decode cX12_init 52 = .ok (.iastore, 1) := by decide +kernel
theorem dX12_init_53 : decode cX12_init 53 = .ok (.dup, 1) := by decide +kernel
theorem dX12_init_54 : decode cX12_init 54 = .ok (.iconst 4, 1) := by decide +kernel
theorem dX12_init_55 : decode cX12_init 55 = .ok (.iconst 0, 1) := by decide +kernel
theorem dX12_init_56 : decode cX12_init 56 = .ok (.iastore, 1) := by decide +kernel
theorem dX12_init_57 : decode cX12_init 57 = .ok (.dup, 1) := by decide +kernel
theorem dX12_init_58 : decode cX12_init 58 = .ok (.iconst 5, 1) := by decide +kernel
theorem dX12_init_59 : decode cX12_init 59 = .ok (.iconst 0, 1) := by decide +kernel
theorem dX12_init_60 : decode cX12_init 60 = .ok (.iastore, 1) := by decide +kernel
theorem dX12_init_61 : decode cX12_init 61 = .ok (.dup, 1) := by decide +kernel
theorem dX12_init_62 : decode cX12_init 62 = .ok (.bipush 6, 2) := by decide +kernel
theorem dX12_init_64 : decode cX12_init 64 = .ok (.iconst 0, 1) := by decide +kernel
theorem dX12_init_65 : decode cX12_init 65 = .ok (.iastore, 1) := by decide +kernel
theorem dX12_init_66 : decode cX12_init 66 = .ok (.dup, 1) := by decide +kernel
theorem dX12_init_67 : decode cX12_init 67 = .ok (.bipush 7, 2) := by decide +kernel
theorem dX12_init_69 : decode cX12_init 69 = .ok (.bipush 112, 2) := by decide +kernel
theorem dX12_init_71 : decode cX12_init 71 = .ok (.iastore, 1) := by decide +kernel
theorem dX12_init_72 : decode cX12_init 72 = .ok (.dup, 1) := by decide +kernel
theorem dX12_init_73 : decode cX12_init 73 = .ok (.bipush 8, 2) := by decide +kernel
theorem dX12_init_75 : decode cX12_init 75 = .ok (.bipush 97, 2) := by decide +kernel
theorem dX12_init_77 : decode cX12_init 77 = .ok (.iastore, 1) := by decide +kernel
theorem dX12_init_78 : decode cX12_init 78 = .ok (.dup, 1) := by decide +kernel
theorem dX12_init_79 : decode cX12_init 79 = .ok (.bipush 9, 2) := by decide +kernel
theorem dX12_init_81 : decode cX12_init 81 = .ok (.bipush 99, 2) := by decide +kernel
theorem dX12_init_83 : decode cX12_init 83 = .ok (.iastore, 1) := by decide +kernel
theorem dX12_init_84 : decode cX12_init 84 = .ok (.dup, 1) := by decide +kernel
theorem dX12_init_85 : decode cX12_init 85 = .ok (.bipush 10, 2) := by decide +kernel
theorem dX12_init_87 : decode cX12_init 87 = .ok (.bipush 107, 2) := by decide +kernel
theorem dX12_init_89 : decode cX12_init 89 = .ok (.iastore, 1) := by decide +kernel
theorem dX12_init_90 : decode cX12_init 90 = .ok (.dup, 1) := by decide +kernel
theorem dX12_init_91 : decode cX12_init 91 = .ok (.bipush 11, 2) := by decide +kernel
theorem dX12_init_93 : decode cX12_init 93 = .ok (.bipush 101, 2) := by decide +kernel
theorem dX12_init_95 : decode cX12_init 95 = .ok (.iastore, 1) := by decide +kernel
theorem dX12_init_96 : decode cX12_init 96 = .ok (.dup, 1) := by decide +kernel
theorem dX12_init_97 : decode cX12_init 97 = .ok (.bipush 12, 2) := by decide +kernel
theorem dX12_init_99 : decode cX12_init 99 = .ok (.bipush 116, 2) := by decide +kernel
theorem dX12_init_101 : decode cX12_init 101 = .ok (.iastore, 1) := by decide +kernel
theorem dX12_init_102 : decode cX12_init 102 = .ok (.dup, 1) := by decide +kernel
theorem dX12_init_103 : decode cX12_init 103 = .ok (.bipush 13, 2) := by decide +kernel
theorem dX12_init_105 : decode cX12_init 105 = .ok (.bipush 115, 2) := by decide +kernel
theorem dX12_init_107 : decode cX12_init 107 = .ok (.iastore, 1) := by decide +kernel
theorem dX12_init_108 : decode cX12_init 108 = .ok (.dup, 1) := by decide +kernel
theorem dX12_init_109 : decode cX12_init 109 = .ok (.bipush 14, 2) := by decide +kernel
theorem dX12_init_111 : decode cX12_init 111 = .ok (.bipush 114, 2) := by decide +kernel
theorem dX12_init_113 : decode cX12_init 113 = .ok (.iastore, 1) := by decide +kernel
theorem dX12_init_114 : decode cX12_init 114 = .ok (.dup, 1) := by decide +kernel
theorem dX12_init_115 : decode cX12_init 115 = .ok (.bipush 15, 2) := by decide +kernel
theorem dX12_init_117 : decode cX12_init 117 = .ok (.bipush 111, 2) := by decide +kernel
theorem dX12_init_119 : decode cX12_init 119 = .ok (.iastore, 1) := by decide +kernel
theorem dX12_init_120 : decode cX12_init 120 = .ok (.dup, 1) := by decide +kernel
theorem dX12_init_121 : decode cX12_init 121 = .ok (.bipush 16, 2) := by decide +kernel
theorem dX12_init_123 : decode cX12_init 123 = .ok (.bipush 111, 2) := by decide +kernel
theorem dX12_init_125 : decode cX12_init 125 = .ok (.iastore, 1) := by decide +kernel
theorem dX12_init_126 : decode cX12_init 126 = .ok (.dup, 1) := by decide +kernel
theorem dX12_init_127 : decode cX12_init 127 = .ok (.bipush 17, 2) := by decide +kernel
theorem dX12_init_129 : decode cX12_init 129 = .ok (.bipush 109, 2) := by decide +kernel
theorem dX12_init_131 : decode cX12_init 131 = .ok (.iastore, 1) := by decide +kernel
theorem dX12_init_132 : decode cX12_init 132 = .ok (.dup, 1) := by decide +kernel
theorem dX12_init_133 : decode cX12_init 133 = .ok (.bipush 18, 2) := by decide +kernel
theorem dX12_init_135 : decode cX12_init 135 = .ok (.iconst 0, 1) := by decide +kernel
theorem dX12_init_136 : decode cX12_init 136 = .ok (.iastore, 1) := by decide +kernel
theorem dX12_init_137 : decode cX12_init 137 = .ok (.dup, 1) := by decide +kernel
theorem dX12_init_138 : decode cX12_init 138 = .ok (.bipush 19, 2) := by decide +kernel
theorem dX12_init_140 : decode cX12_init 140 = .ok (.iconst 0, 1) := by decide +kernel
theorem dX12_init_141 : decode cX12_init 141 = .ok (.iastore, 1) := by decide +kernel
theorem dX12_init_142 : decode cX12_init 142 = .ok (.dup, 1) := by decide +kernel
theorem dX12_init_143 : decode cX12_init 143 = .ok (.bipush 20, 2) := by decide +kernel
theorem dX12_init_145 : decode cX12_init 145 = .ok (.iconst 0, 1) := by decide +kernel
theorem dX12_init_146 : decode cX12_init 146 = .ok (.iastore, 1) := by decide +kernel
theorem dX12_init_147 : decode cX12_init 147 = .ok (.dup, 1) := by decide +kernel
theorem dX12_init_148 : decode cX12_init 148 = .ok (.bipush 21, 2) := by decide +kernel
theorem dX12_init_150 : decode cX12_init 150 = .ok (.bipush 112, 2) := by decide +kernel
theorem dX12_init_152 : decode cX12_init 152 = .ok (.iastore, 1) := by decide +kernel
theorem dX12_init_153 : decode cX12_init 153 = .ok (.dup, 1) := by decide +kernel
theorem dX12_init_154 : decode cX12_init 154 = .ok (.bipush 22, 2) := by decide +kernel
theorem dX12_init_156 : decode cX12_init 156 = .ok (.bipush 97, 2) := by decide +kernel
theorem dX12_init_158 : decode cX12_init 158 = .ok (.iastore, 1) := by decide +kernel
theorem dX12_init_159 : decode cX12_init 159 = .ok (.dup, 1) := by decide +kernel
theorem dX12_init_160 : decode cX12_init 160 = .ok (.bipush 23, 2) := by decide +kernel
theorem dX12_init_162 : decode cX12_init 162 = .ok (.bipush 114, 2) := by decide +kernel
theorem dX12_init_164 : decode cX12_init 164 = .ok (.iastore, 1) := by decide +kernel
theorem dX12_init_165 : decode cX12_init 165 = .ok (.dup, 1) := by decide +kernel
theorem dX12_init_166 : decode cX12_init 166 = .ok (.bipush 24, 2) := by decide +kernel
theorem dX12_init_168 : decode cX12_init 168 = .ok (.bipush 116, 2) := by decide +kernel
theorem dX12_init_170 : decode cX12_init 170 = .ok (.iastore, 1) := by decide +kernel
theorem dX12_init_171 : decode cX12_init 171 = .ok (.dup, 1) := by decide +kernel
theorem dX12_init_172 : decode cX12_init 172 = .ok (.bipush 25, 2) := by decide +kernel
theorem dX12_init_174 : decode cX12_init 174 = .ok (.iconst 0, 1) := by decide +kernel
theorem dX12_init_175 : decode cX12_init 175 = .ok (.iastore, 1) := by decide +kernel
theorem dX12_init_176 : decode cX12_init 176 = .ok (.dup, 1) := by decide +kernel
theorem dX12_init_177 : decode cX12_init 177 = .ok (.bipush 26, 2) := by decide +kernel
theorem dX12_init_179 : decode cX12_init 179 = .ok (.iconst 0, 1) := by decide +kernel
theorem dX12_init_180 : decode cX12_init 180 = .ok (.iastore, 1) := by decide +kernel
theorem dX12_init_181 : decode cX12_init 181 = .ok (.dup, 1) := by decide +kernel
theorem dX12_init_182 : decode cX12_init 182 = .ok (.bipush 27, 2) := by decide +kernel
theorem dX12_init_184 : decode cX12_init 184 = .ok (.iconst 0, 1) := by decide +kernel
theorem dX12_init_185 : decode cX12_init 185 = .ok (.iastore, 1) := by decide +kernel
theorem dX12_init_186 : decode cX12_init 186 = .ok (.putfield 19, 3) := by decide +kernel
theorem dX12_init_189 : decode cX12_init 189 = .ok (.aload_n 0, 1) := by decide +kernel
theorem dX12_init_190 : decode cX12_init 190 = .ok (.bipush 8, 2) := by decide +kernel
theorem dX12_init_192 : decode cX12_init 192 = .ok (.newarray .int, 2) := by decide +kernel
theorem dX12_init_194 : decode cX12_init 194 = .ok (.putfield 22, 3) := by decide +kernel
theorem dX12_init_197 : decode cX12_init 197 = .ok (.aload_n 0, 1) := by decide +kernel
theorem dX12_init_198 : decode cX12_init 198 = .ok (.bipush 9, 2) := by decide +kernel
theorem dX12_init_200 : decode cX12_init 200 = .ok (.newarray .int, 2) := by decide +kernel
theorem dX12_init_202 : decode cX12_init 202 = .ok (.putfield 25, 3) := by decide +kernel
theorem dX12_init_205 : decode cX12_init 205 = .ok (.aload_n 0, 1) := by decide +kernel
theorem dX12_init_206 : decode cX12_init 206 = .ok (.sipush 287, 3) := by decide +kernel
theorem dX12_init_209 : decode cX12_init 209 = .ok (.newarray .int, 2) := by decide +kernel
theorem dX12_init_211 : decode cX12_init 211 = .ok (.putfield 28, 3) := by decide +kernel
theorem dX12_init_214 : decode cX12_init 214 = .ok (.aload_n 0, 1) := by decide +kernel
theorem dX12_init_215 : decode cX12_init 215 = .ok (.getfield 7, 3) := by decide +kernel
theorem dX12_init_218 : decode cX12_init 218 = .ok (.iconst 0, 1) := by decide +kernel
theorem dX12_init_219 : decode cX12_init 219 = .ok (.iconst 4, 1) := by decide +kernel
theorem dX12_init_220 : decode cX12_init 220 = .ok (.iastore, 1) := by decide +kernel
theorem dX12_init_221 : decode cX12_init 221 = .ok (.aload_n 0, 1) := by decide +kernel
theorem dX12_init_222 : decode cX12_init 222 = .ok (.getfield 7, 3) := by decide +kernel
theorem dX12_init_225 : decode cX12_init 225 = .ok (.iconst 1, 1) := by decide +kernel
end
section
theorem dX12_init_226 : decode cX12_init 226 = .ok (.bipush 20, 2) := by decide +kernel
theorem dX12_init_228 : decode cX12_init 228 = .ok (.iastore, 1) := by decide +kernel
theorem dX12_init_229 : decode cX12_init 229 = .ok (.return_, 1) := by decide +kernel
theorem dX12_in_0 : decode cX12_in 0 = .ok (.lload_n 0, 1) := by decide +kernel
theorem dX12_in_1 : decode cX12_in 1 = .ok (.lload_n 2, 1) := by decide +kernel
theorem dX12_in_2 : decode cX12_in 2 = .ok (.lcmp, 1) := by decide +kernel
theorem dX12_in_3 : decode cX12_in 3 = .ok (.ifCond .lt 14, 3) := by decide +kernel
theorem dX12_in_6 : decode cX12_in 6 = .ok (.lload_n 0, 1) := by decide +kernel
theorem dX12_in_7 : decode cX12_in 7 = .ok (.lload 4, 2) := by decide +kernel
theorem dX12_in_9 : decode cX12_in 9 = .ok (.lcmp, 1) := by decide +kernel
theorem dX12_in_10 : decode cX12_in 10 = .ok (.ifCond .gt 7, 3) := by decide +kernel
theorem dX12_in_13 : decode cX12_in 13 = .ok (.iconst 1, 1) := by decide +kernel
theorem dX12_in_14 : decode cX12_in 14 = .ok (.goto 4, 3) := by decide +kernel
theorem dX12_in_17 : decode cX12_in 17 = .ok (.iconst 0, 1) := by decide +kernel
theorem dX12_in_18 : decode cX12_in 18 = .ok (.ireturn, 1) := by decide +kernel
theorem dX12_isPart_0 : decode cX12_isPart 0 = .ok (.iload_n 1, 1) := by decide +kernel
theorem dX12_isPart_1 : decode cX12_isPart 1 = .ok (.i2l, 1) := by decide +kernel
theorem dX12_isPart_2 : decode cX12_isPart 2 = .ok (.lconst 0, 1) := by decide +kernel
theorem dX12_isPart_3 : decode cX12_isPart 3 = .ok (.aload_n 0, 1) := by decide +kernel
theorem dX12_isPart_4 : decode cX12_isPart 4 = .ok (.getfield 7, 3) := by decide +kernel
theorem dX12_isPart_7 : decode cX12_isPart 7 = .ok (.iconst 2, 1) := by decide +kernel
theorem dX12_isPart_8 : decode cX12_isPart 8 = .ok (.iaload, 1) := by decide +kernel
theorem dX12_isPart_9 : decode cX12_isPart 9 = .ok (.iconst 1, 1) := by decide +kernel
theorem dX12_isPart_10 : decode cX12_isPart 10 = .ok (.isub, 1) := by decide +kernel
theorem dX12_isPart_11 : decode cX12_isPart 11 = .ok (.i2l, 1) := by decide +kernel
theorem dX12_isPart_12 : decode cX12_isPart 12 = .ok (.invokestatic 31, 3) := by decide +kernel
theorem dX12_isPart_15 : decode cX12_isPart 15 = .ok (.ireturn, 1) := by decide +kernel
theorem dX12_at_0 : decode cX12_at 0 = .ok (.iconst 3, 1) := by decide +kernel
theorem dX12_at_1 : decode cX12_at 1 = .ok (.bipush 15, 2) := by decide +kernel
theorem dX12_at_3 : decode cX12_at 3 = .ok (.iload_n 0, 1) := by decide +kernel
theorem dX12_at_4 : decode cX12_at 4 = .ok (.imul, 1) := by decide +kernel
theorem dX12_at_5 : decode cX12_at 5 = .ok (.iadd, 1) := by decide +kernel
theorem dX12_at_6 : decode cX12_at 6 = .ok (.ireturn, 1) := by decide +kernel
theorem dX12_stripes_0 : decode cX12_stripes 0 = .ok (.iload_n 0, 1) := by decide +kernel
theorem dX12_stripes_1 : decode cX12_stripes 1 = .ok (.iload_n 1, 1) := by decide +kernel
theorem dX12_stripes_2 : decode cX12_stripes 2 = .ok (.iadd, 1) := by decide +kernel
theorem dX12_stripes_3 : decode cX12_stripes 3 = .ok (.iconst 1, 1) := by decide +kernel
theorem dX12_stripes_4 : decode cX12_stripes 4 = .ok (.isub, 1) := by decide +kernel
theorem dX12_stripes_5 : decode cX12_stripes 5 = .ok (.iload_n 1, 1) := by decide +kernel
theorem dX12_stripes_6 : decode cX12_stripes 6 = .ok (.idiv, 1) := by decide +kernel
theorem dX12_stripes_7 : decode cX12_stripes 7 = .ok (.ireturn, 1) := by decide +kernel
theorem dX12_stripesOf_0 : decode cX12_stripesOf 0 = .ok (.aload_n 0, 1) := by decide +kernel
theorem dX12_stripesOf_1 : decode cX12_stripesOf 1 = .ok (.getfield 7, 3) := by decide +kernel
theorem dX12_stripesOf_4 : decode cX12_stripesOf 4 = .ok (.iload_n 1, 1) := by decide +kernel
theorem dX12_stripesOf_5 : decode cX12_stripesOf 5 = .ok (.invokestatic 35, 3) := by decide +kernel
theorem dX12_stripesOf_8 : decode cX12_stripesOf 8 = .ok (.iconst 0, 1) := by decide +kernel
theorem dX12_stripesOf_9 : decode cX12_stripesOf 9 = .ok (.iadd, 1) := by decide +kernel
theorem dX12_stripesOf_10 : decode cX12_stripesOf 10 = .ok (.iaload, 1) := by decide +kernel
theorem dX12_stripesOf_11 : decode cX12_stripesOf 11 = .ok (.aload_n 0, 1) := by decide +kernel
theorem dX12_stripesOf_12 : decode cX12_stripesOf 12 = .ok (.getfield 7, 3) := by decide +kernel
theorem dX12_stripesOf_15 : decode cX12_stripesOf 15 = .ok (.iload_n 1, 1) := by decide +kernel
theorem dX12_stripesOf_16 : decode cX12_stripesOf 16 = .ok (.invokestatic 35, 3) := by decide +kernel
theorem dX12_stripesOf_19 : decode cX12_stripesOf 19 = .ok (.iconst 1, 1) := by decide +kernel
theorem dX12_stripesOf_20 : decode cX12_stripesOf 20 = .ok (.iadd, 1) := by decide +kernel
theorem dX12_stripesOf_21 : decode cX12_stripesOf 21 = .ok (.iaload, 1) := by decide +kernel
theorem dX12_stripesOf_22 : decode cX12_stripesOf 22 = .ok (.invokestatic 39, 3) := by decide +kernel
theorem dX12_stripesOf_25 : decode cX12_stripesOf 25 = .ok (.ireturn, 1) := by decide +kernel
theorem dX12_lengthOf_0 : decode cX12_lengthOf 0 = .ok (.iconst 0, 1) := by decide +kernel
theorem dX12_lengthOf_1 : decode cX12_lengthOf 1 = .ok (.istore_n 2, 1) := by decide +kernel
theorem dX12_lengthOf_2 : decode cX12_lengthOf 2 = .ok (.iconst 0, 1) := by decide +kernel
theorem dX12_lengthOf_3 : decode cX12_lengthOf 3 = .ok (.istore_n 3, 1) := by decide +kernel
theorem dX12_lengthOf_4 : decode cX12_lengthOf 4 = .ok (.iload_n 3, 1) := by decide +kernel
theorem dX12_lengthOf_5 : decode cX12_lengthOf 5 = .ok (.aload_n 0, 1) := by decide +kernel
theorem dX12_lengthOf_6 : decode cX12_lengthOf 6 = .ok (.getfield 7, 3) := by decide +kernel
theorem dX12_lengthOf_9 : decode cX12_lengthOf 9 = .ok (.iconst 2, 1) := by decide +kernel
theorem dX12_lengthOf_10 : decode cX12_lengthOf 10 = .ok (.iaload, 1) := by decide +kernel
theorem dX12_lengthOf_11 : decode cX12_lengthOf 11 = .ok (.if_icmp .ge 30, 3) := by decide +kernel
theorem dX12_lengthOf_14 : decode cX12_lengthOf 14 = .ok (.iload_n 2, 1) := by decide +kernel
theorem dX12_lengthOf_15 : decode cX12_lengthOf 15 = .ok (.iload_n 1, 1) := by decide +kernel
theorem dX12_lengthOf_16 : decode cX12_lengthOf 16 = .ok (.iload_n 3, 1) := by decide +kernel
theorem dX12_lengthOf_17 : decode cX12_lengthOf 17 = .ok (.ishr, 1) := by decide +kernel
theorem dX12_lengthOf_18 : decode cX12_lengthOf 18 = .ok (.iconst 1, 1) := by decide +kernel
theorem dX12_lengthOf_19 : decode cX12_lengthOf 19 = .ok (.iand, 1) := by decide +kernel
theorem dX12_lengthOf_20 : decode cX12_lengthOf 20 = .ok (.iconst 1, 1) := by decide +kernel
theorem dX12_lengthOf_21 : decode cX12_lengthOf 21 = .ok (.if_icmp .ne 11, 3) := by decide +kernel
theorem dX12_lengthOf_24 : decode cX12_lengthOf 24 = .ok (.aload_n 0, 1) := by decide +kernel
theorem dX12_lengthOf_25 : decode cX12_lengthOf 25 = .ok (.iload_n 3, 1) := by decide +kernel
theorem dX12_lengthOf_26 : decode cX12_lengthOf 26 = .ok (.invokevirtual 43, 3) := by decide +kernel
theorem dX12_lengthOf_29 : decode cX12_lengthOf 29 = .ok (.goto 4, 3) := by decide +kernel
theorem dX12_lengthOf_32 : decode cX12_lengthOf 32 = .ok (.iconst 0, 1) := by decide +kernel
theorem dX12_lengthOf_33 : decode cX12_lengthOf 33 = .ok (.iadd, 1) := by decide +kernel
theorem dX12_lengthOf_34 : decode cX12_lengthOf 34 = .ok (.istore_n 2, 1) := by decide +kernel
theorem dX12_lengthOf_35 : decode cX12_lengthOf 35 = .ok (.iinc 3 1, 3) := by decide +kernel
theorem dX12_lengthOf_38 : decode cX12_lengthOf 38 = .ok (.goto (-34), 3) := by decide +kernel
theorem dX12_lengthOf_41 : decode cX12_lengthOf 41 = .ok (.iload_n 2, 1) := by decide +kernel
theorem dX12_lengthOf_42 : decode cX12_lengthOf 42 = .ok (.ireturn, 1) := by decide +kernel
theorem dX12_isFit_0 : decode cX12_isFit 0 = .ok (.aload_n 0, 1) := by decide +kernel
theorem dX12_isFit_1 : decode cX12_isFit 1 = .ok (.bipush 63, 2) := by decide +kernel
theorem dX12_isFit_3 : decode cX12_isFit 3 = .ok (.invokevirtual 46, 3) := by decide +kernel
theorem dX12_isFit_6 : decode cX12_isFit 6 = .ok (.aload_n 0, 1) := by decide +kernel
theorem dX12_isFit_7 : decode cX12_isFit 7 = .ok (.getfield 7, 3) := by decide +kernel
theorem dX12_isFit_10 : decode cX12_isFit 10 = .ok (.iconst 1, 1) := by decide +kernel
theorem dX12_isFit_11 : decode cX12_isFit 11 = .ok (.iaload, 1) := by decide +kernel
theorem dX12_isFit_12 : decode cX12_isFit 12 = .ok (.if_icmp .gt 7, 3) := by decide +kernel
theorem dX12_isFit_15 : decode cX12_isFit 15 = .ok (.iconst 1, 1) := by decide +kernel
theorem dX12_isFit_16 : decode cX12_isFit 16 = .ok (.goto 4, 3) := by decide +kernel
theorem dX12_isFit_19 : decode cX12_isFit 19 = .ok (.iconst 0, 1) := by decide +kernel
theorem dX12_isFit_20 : decode cX12_isFit 20 = .ok (.istore_n 1, 1) := by decide +kernel
theorem dX12_isFit_21 : decode cX12_isFit 21 = .ok (.iconst 0, 1) := by decide +kernel
theorem dX12_isFit_22 : decode cX12_isFit 22 = .ok (.istore_n 2, 1) := by decide +kernel
theorem dX12_isFit_23 : decode cX12_isFit 23 = .ok (.iload_n 2, 1) := by decide +kernel
theorem dX12_isFit_24 : decode cX12_isFit 24 = .ok (.aload_n 0, 1) := by decide +kernel
theorem dX12_isFit_25 : decode cX12_isFit 25 = .ok (.getfield 7, 3) := by decide +kernel
theorem dX12_isFit_28 : decode cX12_isFit 28 = .ok (.iconst 2, 1) := by decide +kernel
theorem dX12_isFit_29 : decode cX12_isFit 29 = .ok (.iaload, 1) := by decide +kernel
theorem dX12_isFit_30 : decode cX12_isFit 30 = .ok (.if_icmp .ge 39, 3) := by decide +kernel
theorem dX12_isFit_33 : decode cX12_isFit 33 = .ok (.iload_n 1, 1) := by decide +kernel
theorem dX12_isFit_34 : decode cX12_isFit 34 = .ok (.ifCond .eq 27, 3) := by decide +kernel
theorem dX12_isFit_37 : decode cX12_isFit 37 = .ok (.aload_n 0, 1) := by decide +kernel
theorem dX12_isFit_38 : decode cX12_isFit 38 = .ok (.getfield 7, 3) := by decide +kernel
theorem dX12_isFit_41 : decode cX12_isFit 41 = .ok (.iload_n 2, 1) := by decide +kernel
theorem dX12_isFit_42 : decode cX12_isFit 42 = .ok (.invokestatic 35, 3) := by decide +kernel
theorem dX12_isFit_45 : decode cX12_isFit 45 = .ok (.iconst 1, 1) := by decide +kernel
theorem dX12_isFit_46 : decode cX12_isFit 46 = .ok (.iadd, 1) := by decide +kernel
theorem dX12_isFit_47 : decode cX12_isFit 47 = .ok (.iaload, 1) := by decide +kernel
theorem dX12_isFit_48 : decode cX12_isFit 48 = .ok (.aload_n 0, 1) := by decide +kernel
theorem dX12_isFit_49 : decode cX12_isFit 49 = .ok (.getfield 7, 3) := by decide +kernel
theorem dX12_isFit_52 : decode cX12_isFit 52 = .ok (.iconst 0, 1) := by decide +kernel
theorem dX12_isFit_53 : decode cX12_isFit 53 = .ok (.iaload, 1) := by decide +kernel
theorem dX12_isFit_54 : decode cX12_isFit 54 = .ok (.if_icmp .gt 7, 3) := by decide +kernel
theorem dX12_isFit_57 : decode cX12_isFit 57 = .ok (.iconst 1, 1) := by decide +kernel
theorem dX12_isFit_58 : decode cX12_isFit 58 = .ok (.goto 4, 3) := by decide +kernel
theorem dX12_isFit_61 : decode cX12_isFit 61 = .ok (.iconst 0, 1) := by decide +kernel
theorem dX12_isFit_62 : decode cX12_isFit 62 = .ok (.istore_n 1, 1) := by decide +kernel
theorem dX12_isFit_63 : decode cX12_isFit 63 = .ok (.iinc 2 1, 3) := by decide +kernel
theorem dX12_isFit_66 : decode cX12_isFit 66 = .ok (.goto (-43), 3) := by decide +kernel
theorem dX12_isFit_69 : decode cX12_isFit 69 = .ok (.iload_n 1, 1) := by decide +kernel
theorem dX12_isFit_70 : decode cX12_isFit 70 = .ok (.ireturn, 1) := by decide +kernel
theorem dX12_write_0 : decode cX12_write 0 = .ok (.iload_n 1, 1) := by decide +kernel
theorem dX12_write_1 : decode cX12_write 1 = .ok (.i2l, 1) := by decide +kernel
theorem dX12_write_2 : decode cX12_write 2 = .ok (.lconst 0, 1) := by decide +kernel
theorem dX12_write_3 : decode cX12_write 3 = .ok (.ldc2_w 49, 3) := by decide +kernel
theorem dX12_write_6 : decode cX12_write 6 = .ok (.invokestatic 31, 3) := by decide +kernel
theorem dX12_write_9 : decode cX12_write 9 = .ok (.ifCond .ne 6, 3) := by decide +kernel
theorem dX12_write_12 : decode cX12_write 12 = .ok (.bipush (-3), 2) := by decide +kernel
theorem dX12_write_14 : decode cX12_write 14 = .ok (.ireturn, 1) := by decide +kernel
theorem dX12_write_15 : decode cX12_write 15 = .ok (.aload_n 0, 1) := by decide +kernel
theorem dX12_write_16 : decode cX12_write 16 = .ok (.getfield 51, 3) := by decide +kernel
theorem dX12_write_19 : decode cX12_write 19 = .ok (.sipush 200, 3) := by decide +kernel
theorem dX12_write_22 : decode cX12_write 22 = .ok (.if_icmp .ne 6, 3) := by decide +kernel
theorem dX12_write_25 : decode cX12_write 25 = .ok (.bipush (-5), 2) := by decide +kernel
theorem dX12_write_27 : decode cX12_write 27 = .ok (.ireturn, 1) := by decide +kernel
theorem dX12_write_28 : decode cX12_write 28 = .ok (.aload_n 0, 1) := by decide +kernel
theorem dX12_write_29 : decode cX12_write 29 = .ok (.getfield 13, 3) := by decide +kernel
theorem dX12_write_32 : decode cX12_write 32 = .ok (.aload_n 0, 1) := by decide +kernel
theorem dX12_write_33 : decode cX12_write 33 = .ok (.getfield 51, 3) := by decide +kernel
theorem dX12_write_36 : decode cX12_write 36 = .ok (.iload_n 1, 1) := by decide +kernel
theorem dX12_write_37 : decode cX12_write 37 = .ok (.iastore, 1) := by decide +kernel
theorem dX12_write_38 : decode cX12_write 38 = .ok (.aload_n 0, 1) := by decide +kernel
theorem dX12_write_39 : decode cX12_write 39 = .ok (.dup, 1) := by decide +kernel
theorem dX12_write_40 : decode cX12_write 40 = .ok (.getfield 51, 3) := by decide +kernel
theorem dX12_write_43 : decode cX12_write 43 = .ok (.iconst 1, 1) := by decide +kernel
theorem dX12_write_44 : decode cX12_write 44 = .ok (.iadd, 1) := by decide +kernel
theorem dX12_write_45 : decode cX12_write 45 = .ok (.putfield 51, 3) := by decide +kernel
theorem dX12_write_48 : decode cX12_write 48 = .ok (.aload_n 0, 1) := by decide +kernel
theorem dX12_write_49 : decode cX12_write 49 = .ok (.getfield 51, 3) := by decide +kernel
theorem dX12_write_52 : decode cX12_write 52 = .ok (.ireturn, 1) := by decide +kernel
theorem dX12_erase_0 : decode cX12_erase 0 = .ok (.aload_n 0, 1) := by decide +kernel
theorem dX12_erase_1 : decode cX12_erase 1 = .ok (.getfield 51, 3) := by decide +kernel
theorem dX12_erase_4 : decode cX12_erase 4 = .ok (.istore_n 1, 1) := by decide +kernel
theorem dX12_erase_5 : decode cX12_erase 5 = .ok (.aload_n 0, 1) := by decide +kernel
theorem dX12_erase_6 : decode cX12_erase 6 = .ok (.iconst 0, 1) := by decide +kernel
theorem dX12_erase_7 : decode cX12_erase 7 = .ok (.putfield 51, 3) := by decide +kernel
theorem dX12_erase_10 : decode cX12_erase 10 = .ok (.iload_n 1, 1) := by decide +kernel
theorem dX12_erase_11 : decode cX12_erase 11 = .ok (.ireturn, 1) := by decide +kernel
theorem dX12_isSmall_0 : decode cX12_isSmall 0 = .ok (.iload_n 0, 1) := by decide +kernel
theorem dX12_isSmall_1 : decode cX12_isSmall 1 = .ok (.i2l, 1) := by decide +kernel
theorem dX12_isSmall_2 : decode cX12_isSmall 2 = .ok (.ldc2_w 55, 3) := by decide +kernel
theorem dX12_isSmall_5 : decode cX12_isSmall 5 = .ok (.ldc2_w 57, 3) := by decide +kernel
theorem dX12_isSmall_8 : decode cX12_isSmall 8 = .ok (.invokestatic 31, 3) := by decide +kernel
theorem dX12_isSmall_11 : decode cX12_isSmall 11 = .ok (.ireturn, 1) := by decide +kernel
theorem dX12_isDigit_0 : decode cX12_isDigit 0 = .ok (.iload_n 0, 1) := by decide +kernel
theorem dX12_isDigit_1 : decode cX12_isDigit 1 = .ok (.i2l, 1) := by decide +kernel
theorem dX12_isDigit_2 : decode cX12_isDigit 2 = .ok (.ldc2_w 59, 3) := by decide +kernel
theorem dX12_isDigit_5 : decode cX12_isDigit 5 = .ok (.ldc2_w 61, 3) := by decide +kernel
theorem dX12_isDigit_8 : decode cX12_isDigit 8 = .ok (.invokestatic 31, 3) := by decide +kernel
theorem dX12_isDigit_11 : decode cX12_isDigit 11 = .ok (.ireturn, 1) := by decide +kernel
theorem dX12_next_0 : decode cX12_next 0 = .ok (.aload_n 0, 1) := by decide +kernel
theorem dX12_next_1 : decode cX12_next 1 = .ok (.aload_n 0, 1) := by decide +kernel
theorem dX12_next_2 : decode cX12_next 2 = .ok (.getfield 63, 3) := by decide +kernel
theorem dX12_next_5 : decode cX12_next 5 = .ok (.putfield 66, 3) := by decide +kernel
theorem dX12_next_8 : decode cX12_next 8 = .ok (.aload_n 0, 1) := by decide +kernel
theorem dX12_next_9 : decode cX12_next 9 = .ok (.getfield 66, 3) := by decide +kernel
theorem dX12_next_12 : decode cX12_next 12 = .ok (.aload_n 0, 1) := by decide +kernel
theorem dX12_next_13 : decode cX12_next 13 = .ok (.getfield 51, 3) := by decide +kernel
theorem dX12_next_16 : decode cX12_next 16 = .ok (.if_icmp .ge 30, 3) := by decide +kernel
theorem dX12_next_19 : decode cX12_next 19 = .ok (.aload_n 0, 1) := by decide +kernel
theorem dX12_next_20 : decode cX12_next 20 = .ok (.getfield 13, 3) := by decide +kernel
theorem dX12_next_23 : decode cX12_next 23 = .ok (.aload_n 0, 1) := by decide +kernel
theorem dX12_next_24 : decode cX12_next 24 = .ok (.getfield 66, 3) := by decide +kernel
theorem dX12_next_27 : decode cX12_next 27 = .ok (.iaload, 1) := by decide +kernel
theorem dX12_next_28 : decode cX12_next 28 = .ok (.bipush 32, 2) := by decide +kernel
theorem dX12_next_30 : decode cX12_next 30 = .ok (.if_icmp .ne 16, 3) := by decide +kernel
theorem dX12_next_33 : decode cX12_next 33 = .ok (.aload_n 0, 1) := by decide +kernel
theorem dX12_next_34 : decode cX12_next 34 = .ok (.dup, 1) := by decide +kernel
theorem dX12_next_35 : decode cX12_next 35 = .ok (.getfield 66, 3) := by decide +kernel
theorem dX12_next_38 : decode cX12_next 38 = .ok (.iconst 1, 1) := by decide +kernel
theorem dX12_next_39 : decode cX12_next 39 = .ok (.iadd, 1) := by decide +kernel
theorem dX12_next_40 : decode cX12_next 40 = .ok (.putfield 66, 3) := by decide +kernel
theorem dX12_next_43 : decode cX12_next 43 = .ok (.goto (-35), 3) := by decide +kernel
theorem dX12_next_46 : decode cX12_next 46 = .ok (.aload_n 0, 1) := by decide +kernel
theorem dX12_next_47 : decode cX12_next 47 = .ok (.aload_n 0, 1) := by decide +kernel
theorem dX12_next_48 : decode cX12_next 48 = .ok (.getfield 66, 3) := by decide +kernel
theorem dX12_next_51 : decode cX12_next 51 = .ok (.aload_n 0, 1) := by decide +kernel
theorem dX12_next_52 : decode cX12_next 52 = .ok (.getfield 51, 3) := by decide +kernel
theorem dX12_next_55 : decode cX12_next 55 = .ok (.if_icmp .ge 12, 3) := by decide +kernel
theorem dX12_next_58 : decode cX12_next 58 = .ok (.aload_n 0, 1) := by decide +kernel
theorem dX12_next_59 : decode cX12_next 59 = .ok (.getfield 66, 3) := by decide +kernel
theorem dX12_next_62 : decode cX12_next 62 = .ok (.iconst 1, 1) := by decide +kernel
theorem dX12_next_63 : decode cX12_next 63 = .ok (.iadd, 1) := by decide +kernel
theorem dX12_next_64 : decode cX12_next 64 = .ok (.goto 7, 3) := by decide +kernel
theorem dX12_next_67 : decode cX12_next 67 = .ok (.aload_n 0, 1) := by decide +kernel
theorem dX12_next_68 : decode cX12_next 68 = .ok (.getfield 66, 3) := by decide +kernel
theorem dX12_next_71 : decode cX12_next 71 = .ok (.putfield 63, 3) := by decide +kernel
theorem dX12_next_74 : decode cX12_next 74 = .ok (.aload_n 0, 1) := by decide +kernel
theorem dX12_next_75 : decode cX12_next 75 = .ok (.getfield 66, 3) := by decide +kernel
theorem dX12_next_78 : decode cX12_next 78 = .ok (.aload_n 0, 1) := by decide +kernel
theorem dX12_next_79 : decode cX12_next 79 = .ok (.getfield 51, 3) := by decide +kernel
theorem dX12_next_82 : decode cX12_next 82 = .ok (.if_icmp .ge 22, 3) := by decide +kernel
theorem dX12_next_85 : decode cX12_next 85 = .ok (.aload_n 0, 1) := by decide +kernel
theorem dX12_next_86 : decode cX12_next 86 = .ok (.getfield 13, 3) := by decide +kernel
theorem dX12_next_89 : decode cX12_next 89 = .ok (.aload_n 0, 1) := by decide +kernel
theorem dX12_next_90 : decode cX12_next 90 = .ok (.getfield 66, 3) := by decide +kernel
theorem dX12_next_93 : decode cX12_next 93 = .ok (.iaload, 1) := by decide +kernel
theorem dX12_next_94 : decode cX12_next 94 = .ok (.invokestatic 69, 3) := by decide +kernel
theorem dX12_next_97 : decode cX12_next 97 = .ok (.ifCond .eq 7, 3) := by decide +kernel
theorem dX12_next_100 : decode cX12_next 100 = .ok (.iconst 1, 1) := by decide +kernel
theorem dX12_next_101 : decode cX12_next 101 = .ok (.goto 4, 3) := by decide +kernel
theorem dX12_next_104 : decode cX12_next 104 = .ok (.iconst 0, 1) := by decide +kernel
theorem dX12_next_105 : decode cX12_next 105 = .ok (.istore_n 1, 1) := by decide +kernel
theorem dX12_next_106 : decode cX12_next 106 = .ok (.aload_n 0, 1) := by decide +kernel
theorem dX12_next_107 : decode cX12_next 107 = .ok (.getfield 66, 3) := by decide +kernel
theorem dX12_next_110 : decode cX12_next 110 = .ok (.aload_n 0, 1) := by decide +kernel
theorem dX12_next_111 : decode cX12_next 111 = .ok (.getfield 51, 3) := by decide +kernel
theorem dX12_next_114 : decode cX12_next 114 = .ok (.if_icmp .ge 22, 3) := by decide +kernel
theorem dX12_next_117 : decode cX12_next 117 = .ok (.aload_n 0, 1) := by decide +kernel
theorem dX12_next_118 : decode cX12_next 118 = .ok (.getfield 13, 3) := by decide +kernel
theorem dX12_next_121 : decode cX12_next 121 = .ok (.aload_n 0, 1) := by decide +kernel
theorem dX12_next_122 : decode cX12_next 122 = .ok (.getfield 66, 3) := by decide +kernel
theorem dX12_next_125 : decode cX12_next 125 = .ok (.iaload, 1) := by decide +kernel
theorem dX12_next_126 : decode cX12_next 126 = .ok (.invokestatic 73, 3) := by decide +kernel
theorem dX12_next_129 : decode cX12_next 129 = .ok (.ifCond .eq 7, 3) := by decide +kernel
theorem dX12_next_132 : decode cX12_next 132 = .ok (.iconst 1, 1) := by decide +kernel
theorem dX12_next_133 : decode cX12_next 133 = .ok (.goto 4, 3) := by decide +kernel
theorem dX12_next_136 : decode cX12_next 136 = .ok (.iconst 0, 1) := by decide +kernel
theorem dX12_next_137 : decode cX12_next 137 = .ok (.istore_n 2, 1) := by decide +kernel
theorem dX12_next_138 : decode cX12_next 138 = .ok (.aload_n 0, 1) := by decide +kernel
theorem dX12_next_139 : decode cX12_next 139 = .ok (.getfield 63, 3) := by decide +kernel
theorem dX12_next_142 : decode cX12_next 142 = .ok (.aload_n 0, 1) := by decide +kernel
theorem dX12_next_143 : decode cX12_next 143 = .ok (.getfield 51, 3) := by decide +kernel
theorem dX12_next_146 : decode cX12_next 146 = .ok (.if_icmp .ge 54, 3) := by decide +kernel
theorem dX12_next_149 : decode cX12_next 149 = .ok (.iload_n 1, 1) := by decide +kernel
theorem dX12_next_150 : decode cX12_next 150 = .ok (.ifCond .eq 18, 3) := by decide +kernel
theorem dX12_next_153 : decode cX12_next 153 = .ok (.aload_n 0, 1) := by decide +kernel
theorem dX12_next_154 : decode cX12_next 154 = .ok (.getfield 13, 3) := by decide +kernel
theorem dX12_next_157 : decode cX12_next 157 = .ok (.aload_n 0, 1) := by decide +kernel
theorem dX12_next_158 : decode cX12_next 158 = .ok (.getfield 63, 3) := by decide +kernel
theorem dX12_next_161 : decode cX12_next 161 = .ok (.iaload, 1) := by decide +kernel
theorem dX12_next_162 : decode cX12_next 162 = .ok (.invokestatic 69, 3) := by decide +kernel
theorem dX12_next_165 : decode cX12_next 165 = .ok (.ifCond .ne 22, 3) := by decide +kernel
theorem dX12_next_168 : decode cX12_next 168 = .ok (.iload_n 2, 1) := by decide +kernel
theorem dX12_next_169 : decode cX12_next 169 = .ok (.ifCond .eq 31, 3) := by decide +kernel
theorem dX12_next_172 : decode cX12_next 172 = .ok (.aload_n 0, 1) := by decide +kernel
theorem dX12_next_173 : decode cX12_next 173 = .ok (.getfield 13, 3) := by decide +kernel
theorem dX12_next_176 : decode cX12_next 176 = .ok (.aload_n 0, 1) := by decide +kernel
theorem dX12_next_177 : decode cX12_next 177 = .ok (.getfield 63, 3) := by decide +kernel
theorem dX12_next_180 : decode cX12_next 180 = .ok (.iaload, 1) := by decide +kernel
theorem dX12_next_181 : decode cX12_next 181 = .ok (.invokestatic 73, 3) := by decide +kernel
theorem dX12_next_184 : decode cX12_next 184 = .ok (.ifCond .eq 16, 3) := by decide +kernel
theorem dX12_next_187 : decode cX12_next 187 = .ok (.aload_n 0, 1) := by decide +kernel
theorem dX12_next_188 : decode cX12_next 188 = .ok (.dup, 1) := by decide +kernel
theorem dX12_next_189 : decode cX12_next 189 = .ok (.getfield 63, 3) := by decide +kernel
theorem dX12_next_192 : decode cX12_next 192 = .ok (.iconst 1, 1) := by decide +kernel
theorem dX12_next_193 : decode cX12_next 193 = .ok (.iadd, 1) := by decide +kernel
theorem dX12_next_194 : decode cX12_next 194 = .ok (.putfield 63, 3) := by decide +kernel
theorem dX12_next_197 : decode cX12_next 197 = .ok (.goto (-59), 3) := by decide +kernel
theorem dX12_next_200 : decode cX12_next 200 = .ok (.return_, 1) := by decide +kernel
theorem dX12_wordHere_0 : decode cX12_wordHere 0 = .ok (.iconst 0, 1) := by decide +kernel
theorem dX12_wordHere_1 : decode cX12_wordHere 1 = .ok (.istore_n 1, 1) := by decide +kernel
theorem dX12_wordHere_2 : decode cX12_wordHere 2 = .ok (.iload_n 1, 1) := by decide +kernel
theorem dX12_wordHere_3 : decode cX12_wordHere 3 = .ok (.iconst 4, 1) := by decide +kernel
theorem dX12_wordHere_4 : decode cX12_wordHere 4 = .ok (.if_icmp .ge 112, 3) := by decide +kernel
theorem dX12_wordHere_7 : decode cX12_wordHere 7 = .ok (.aload_n 0, 1) := by decide +kernel
theorem dX12_wordHere_8 : decode cX12_wordHere 8 = .ok (.getfield 63, 3) := by decide +kernel
theorem dX12_wordHere_11 : decode cX12_wordHere 11 = .ok (.aload_n 0, 1) := by decide +kernel
theorem dX12_wordHere_12 : decode cX12_wordHere 12 = .ok (.getfield 66, 3) := by decide +kernel
theorem dX12_wordHere_15 : decode cX12_wordHere 15 = .ok (.if_icmp .le 21, 3) := by decide +kernel
theorem dX12_wordHere_18 : decode cX12_wordHere 18 = .ok (.aload_n 0, 1) := by decide +kernel
theorem dX12_wordHere_19 : decode cX12_wordHere 19 = .ok (.getfield 63, 3) := by decide +kernel
theorem dX12_wordHere_22 : decode cX12_wordHere 22 = .ok (.aload_n 0, 1) := by decide +kernel
theorem dX12_wordHere_23 : decode cX12_wordHere 23 = .ok (.getfield 66, 3) := by decide +kernel
theorem dX12_wordHere_26 : decode cX12_wordHere 26 = .ok (.isub, 1) := by decide +kernel
theorem dX12_wordHere_27 : decode cX12_wordHere 27 = .ok (.bipush 8, 2) := by decide +kernel
theorem dX12_wordHere_29 : decode cX12_wordHere 29 = .ok (.if_icmp .ge 7, 3) := by decide +kernel
theorem dX12_wordHere_32 : decode cX12_wordHere 32 = .ok (.iconst 1, 1) := by decide +kernel
theorem dX12_wordHere_33 : decode cX12_wordHere 33 = .ok (.goto 4, 3) := by decide +kernel
theorem dX12_wordHere_36 : decode cX12_wordHere 36 = .ok (.iconst 0, 1) := by decide +kernel
theorem dX12_wordHere_37 : decode cX12_wordHere 37 = .ok (.istore_n 2, 1) := by decide +kernel
theorem dX12_wordHere_38 : decode cX12_wordHere 38 = .ok (.iconst 0, 1) := by decide +kernel
theorem dX12_wordHere_39 : decode cX12_wordHere 39 = .ok (.istore_n 3, 1) := by decide +kernel
theorem dX12_wordHere_40 : decode cX12_wordHere 40 = .ok (.iload_n 3, 1) := by decide +kernel
theorem dX12_wordHere_41 : decode cX12_wordHere 41 = .ok (.bipush 7, 2) := by decide +kernel
theorem dX12_wordHere_43 : decode cX12_wordHere 43 = .ok (.if_icmp .ge 61, 3) := by decide +kernel
theorem dX12_wordHere_46 : decode cX12_wordHere 46 = .ok (.iload_n 2, 1) := by decide +kernel
theorem dX12_wordHere_47 : decode cX12_wordHere 47 = .ok (.ifCond .eq 57, 3) := by decide +kernel
theorem dX12_wordHere_50 : decode cX12_wordHere 50 = .ok (.aload_n 0, 1) := by decide +kernel
theorem dX12_wordHere_51 : decode cX12_wordHere 51 = .ok (.getfield 19, 3) := by decide +kernel
theorem dX12_wordHere_54 : decode cX12_wordHere 54 = .ok (.bipush 7, 2) := by decide +kernel
theorem dX12_wordHere_56 : decode cX12_wordHere 56 = .ok (.iload_n 1, 1) := by decide +kernel
theorem dX12_wordHere_57 : decode cX12_wordHere 57 = .ok (.imul, 1) := by decide +kernel
theorem dX12_wordHere_58 : decode cX12_wordHere 58 = .ok (.iload_n 3, 1) := by decide +kernel
theorem dX12_wordHere_59 : decode cX12_wordHere 59 = .ok (.iadd, 1) := by decide +kernel
theorem dX12_wordHere_60 : decode cX12_wordHere 60 = .ok (.iaload, 1) := by decide +kernel
theorem dX12_wordHere_61 : decode cX12_wordHere 61 = .ok (.aload_n 0, 1) := by decide +kernel
theorem dX12_wordHere_62 : decode cX12_wordHere 62 = .ok (.getfield 66, 3) := by decide +kernel
theorem dX12_wordHere_65 : decode cX12_wordHere 65 = .ok (.iload_n 3, 1) := by decide +kernel
theorem dX12_wordHere_66 : decode cX12_wordHere 66 = .ok (.iadd, 1) := by decide +kernel
theorem dX12_wordHere_67 : decode cX12_wordHere 67 = .ok (.aload_n 0, 1) := by decide +kernel
theorem dX12_wordHere_68 : decode cX12_wordHere 68 = .ok (.getfield 63, 3) := by decide +kernel
theorem dX12_wordHere_71 : decode cX12_wordHere 71 = .ok (.if_icmp .ge 17, 3) := by decide +kernel
theorem dX12_wordHere_74 : decode cX12_wordHere 74 = .ok (.aload_n 0, 1) := by decide +kernel
theorem dX12_wordHere_75 : decode cX12_wordHere 75 = .ok (.getfield 13, 3) := by decide +kernel
theorem dX12_wordHere_78 : decode cX12_wordHere 78 = .ok (.aload_n 0, 1) := by decide +kernel
theorem dX12_wordHere_79 : decode cX12_wordHere 79 = .ok (.getfield 66, 3) := by decide +kernel
theorem dX12_wordHere_82 : decode cX12_wordHere 82 = .ok (.iload_n 3, 1) := by decide +kernel
theorem dX12_wordHere_83 : decode cX12_wordHere 83 = .ok (.iadd, 1) := by decide +kernel
theorem dX12_wordHere_84 : decode cX12_wordHere 84 = .ok (.iaload, 1) := by decide +kernel
theorem dX12_wordHere_85 : decode cX12_wordHere 85 = .ok (.goto 4, 3) := by decide +kernel
theorem dX12_wordHere_88 : decode cX12_wordHere 88 = .ok (.iconst 0, 1) := by decide +kernel
theorem dX12_wordHere_89 : decode cX12_wordHere 89 = .ok (.if_icmp .ne 7, 3) := by decide +kernel
theorem dX12_wordHere_92 : decode cX12_wordHere 92 = .ok (.iconst 1, 1) := by decide +kernel
theorem dX12_wordHere_93 : decode cX12_wordHere 93 = .ok (.goto 4, 3) := by decide +kernel
theorem dX12_wordHere_96 : decode cX12_wordHere 96 = .ok (.iconst 0, 1) := by decide +kernel
theorem dX12_wordHere_97 : decode cX12_wordHere 97 = .ok (.istore_n 2, 1) := by decide +kernel
theorem dX12_wordHere_98 : decode cX12_wordHere 98 = .ok (.iinc 3 1, 3) := by decide +kernel
theorem dX12_wordHere_101 : decode cX12_wordHere 101 = .ok (.goto (-61), 3) := by decide +kernel
theorem dX12_wordHere_104 : decode cX12_wordHere 104 = .ok (.iload_n 2, 1) := by decide +kernel
theorem dX12_wordHere_105 : decode cX12_wordHere 105 = .ok (.ifCond .eq 5, 3) := by decide +kernel
theorem dX12_wordHere_108 : decode cX12_wordHere 108 = .ok (.iload_n 1, 1) := by decide +kernel
theorem dX12_wordHere_109 : decode cX12_wordHere 109 = .ok (.ireturn, 1) := by decide +kernel
theorem dX12_wordHere_110 : decode cX12_wordHere 110 = .ok (.iinc 1 1, 3) := by decide +kernel
theorem dX12_wordHere_113 : decode cX12_wordHere 113 = .ok (.goto (-111), 3) := by decide +kernel
theorem dX12_wordHere_116 : decode cX12_wordHere 116 = .ok (.iconst (-1), 1) := by decide +kernel
theorem dX12_wordHere_117 : decode cX12_wordHere 117 = .ok (.ireturn, 1) := by decide +kernel
theorem dX12_reads_0 : decode cX12_reads 0 = .ok (.aload_n 0, 1) := by decide +kernel
theorem dX12_reads_1 : decode cX12_reads 1 = .ok (.getfield 66, 3) := by decide +kernel
theorem dX12_reads_4 : decode cX12_reads 4 = .ok (.aload_n 0, 1) := by decide +kernel
theorem dX12_reads_5 : decode cX12_reads 5 = .ok (.getfield 51, 3) := by decide +kernel
theorem dX12_reads_8 : decode cX12_reads 8 = .ok (.if_icmp .eq 31, 3) := by decide +kernel
theorem dX12_reads_11 : decode cX12_reads 11 = .ok (.aload_n 0, 1) := by decide +kernel
theorem dX12_reads_12 : decode cX12_reads 12 = .ok (.getfield 13, 3) := by decide +kernel
theorem dX12_reads_15 : decode cX12_reads 15 = .ok (.aload_n 0, 1) := by decide +kernel
theorem dX12_reads_16 : decode cX12_reads 16 = .ok (.getfield 66, 3) := by decide +kernel
theorem dX12_reads_19 : decode cX12_reads 19 = .ok (.iaload, 1) := by decide +kernel
theorem dX12_reads_20 : decode cX12_reads 20 = .ok (.invokestatic 73, 3) := by decide +kernel
theorem dX12_reads_23 : decode cX12_reads 23 = .ok (.ifCond .eq 16, 3) := by decide +kernel
theorem dX12_reads_26 : decode cX12_reads 26 = .ok (.aload_n 0, 1) := by decide +kernel
theorem dX12_reads_27 : decode cX12_reads 27 = .ok (.getfield 63, 3) := by decide +kernel
theorem dX12_reads_30 : decode cX12_reads 30 = .ok (.aload_n 0, 1) := by decide +kernel
theorem dX12_reads_31 : decode cX12_reads 31 = .ok (.getfield 66, 3) := by decide +kernel
theorem dX12_reads_34 : decode cX12_reads 34 = .ok (.isub, 1) := by decide +kernel
theorem dX12_reads_35 : decode cX12_reads 35 = .ok (.iconst 2, 1) := by decide +kernel
theorem dX12_reads_36 : decode cX12_reads 36 = .ok (.if_icmp .le 5, 3) := by decide +kernel
theorem dX12_reads_39 : decode cX12_reads 39 = .ok (.iconst 0, 1) := by decide +kernel
theorem dX12_reads_40 : decode cX12_reads 40 = .ok (.ireturn, 1) := by decide +kernel
theorem dX12_reads_41 : decode cX12_reads 41 = .ok (.iconst 0, 1) := by decide +kernel
theorem dX12_reads_42 : decode cX12_reads 42 = .ok (.istore 4, 2) := by decide +kernel
theorem dX12_reads_44 : decode cX12_reads 44 = .ok (.aload_n 0, 1) := by decide +kernel
theorem dX12_reads_45 : decode cX12_reads 45 = .ok (.getfield 66, 3) := by decide +kernel
theorem dX12_reads_48 : decode cX12_reads 48 = .ok (.istore 5, 2) := by decide +kernel
theorem dX12_reads_50 : decode cX12_reads 50 = .ok (.iload 5, 2) := by decide +kernel
theorem dX12_reads_52 : decode cX12_reads 52 = .ok (.aload_n 0, 1) := by decide +kernel
theorem dX12_reads_53 : decode cX12_reads 53 = .ok (.getfield 63, 3) := by decide +kernel
theorem dX12_reads_56 : decode cX12_reads 56 = .ok (.if_icmp .ge 27, 3) := by decide +kernel
theorem dX12_reads_59 : decode cX12_reads 59 = .ok (.bipush 10, 2) := by decide +kernel
theorem dX12_reads_61 : decode cX12_reads 61 = .ok (.iload 4, 2) := by decide +kernel
theorem dX12_reads_63 : decode cX12_reads 63 = .ok (.imul, 1) := by decide +kernel
theorem dX12_reads_64 : decode cX12_reads 64 = .ok (.aload_n 0, 1) := by decide +kernel
theorem dX12_reads_65 : decode cX12_reads 65 = .ok (.getfield 13, 3) := by decide +kernel
theorem dX12_reads_68 : decode cX12_reads 68 = .ok (.iload 5, 2) := by decide +kernel
theorem dX12_reads_70 : decode cX12_reads 70 = .ok (.iaload, 1) := by decide +kernel
theorem dX12_reads_71 : decode cX12_reads 71 = .ok (.iadd, 1) := by decide +kernel
theorem dX12_reads_72 : decode cX12_reads 72 = .ok (.bipush 48, 2) := by decide +kernel
theorem dX12_reads_74 : decode cX12_reads 74 = .ok (.isub, 1) := by decide +kernel
theorem dX12_reads_75 : decode cX12_reads 75 = .ok (.istore 4, 2) := by decide +kernel
theorem dX12_reads_77 : decode cX12_reads 77 = .ok (.iinc 5 1, 3) := by decide +kernel
theorem dX12_reads_80 : decode cX12_reads 80 = .ok (.goto (-30), 3) := by decide +kernel
theorem dX12_reads_83 : decode cX12_reads 83 = .ok (.iload 4, 2) := by decide +kernel
theorem dX12_reads_85 : decode cX12_reads 85 = .ok (.i2l, 1) := by decide +kernel
theorem dX12_reads_86 : decode cX12_reads 86 = .ok (.iload_n 2, 1) := by decide +kernel
theorem dX12_reads_87 : decode cX12_reads 87 = .ok (.i2l, 1) := by decide +kernel
theorem dX12_reads_88 : decode cX12_reads 88 = .ok (.iload_n 3, 1) := by decide +kernel
theorem dX12_reads_89 : decode cX12_reads 89 = .ok (.i2l, 1) := by decide +kernel
theorem dX12_reads_90 : decode cX12_reads 90 = .ok (.invokestatic 31, 3) := by decide +kernel
theorem dX12_reads_93 : decode cX12_reads 93 = .ok (.ifCond .ne 5, 3) := by decide +kernel
theorem dX12_reads_96 : decode cX12_reads 96 = .ok (.iconst 0, 1) := by decide +kernel
theorem dX12_reads_97 : decode cX12_reads 97 = .ok (.ireturn, 1) := by decide +kernel
theorem dX12_reads_98 : decode cX12_reads 98 = .ok (.aload_n 0, 1) := by decide +kernel
theorem dX12_reads_99 : decode cX12_reads 99 = .ok (.getfield 16, 3) := by decide +kernel
theorem dX12_reads_102 : decode cX12_reads 102 = .ok (.iload_n 1, 1) := by decide +kernel
theorem dX12_reads_103 : decode cX12_reads 103 = .ok (.iload 4, 2) := by decide +kernel
theorem dX12_reads_105 : decode cX12_reads 105 = .ok (.iastore, 1) := by decide +kernel
theorem dX12_reads_106 : decode cX12_reads 106 = .ok (.aload_n 0, 1) := by decide +kernel
theorem dX12_reads_107 : decode cX12_reads 107 = .ok (.invokevirtual 76, 3) := by decide +kernel
theorem dX12_reads_110 : decode cX12_reads 110 = .ok (.iconst 1, 1) := by decide +kernel
theorem dX12_reads_111 : decode cX12_reads 111 = .ok (.ireturn, 1) := by decide +kernel
theorem dX12_readsPart_0 : decode cX12_readsPart 0 = .ok (.aload_n 0, 1) := by decide +kernel
theorem dX12_readsPart_1 : decode cX12_readsPart 1 = .ok (.getfield 66, 3) := by decide +kernel
theorem dX12_readsPart_4 : decode cX12_readsPart 4 = .ok (.aload_n 0, 1) := by decide +kernel
theorem dX12_readsPart_5 : decode cX12_readsPart 5 = .ok (.getfield 51, 3) := by decide +kernel
theorem dX12_readsPart_8 : decode cX12_readsPart 8 = .ok (.if_icmp .eq 32, 3) := by decide +kernel
theorem dX12_readsPart_11 : decode cX12_readsPart 11 = .ok (.aload_n 0, 1) := by decide +kernel
theorem dX12_readsPart_12 : decode cX12_readsPart 12 = .ok (.getfield 13, 3) := by decide +kernel
theorem dX12_readsPart_15 : decode cX12_readsPart 15 = .ok (.aload_n 0, 1) := by decide +kernel
theorem dX12_readsPart_16 : decode cX12_readsPart 16 = .ok (.getfield 66, 3) := by decide +kernel
theorem dX12_readsPart_19 : decode cX12_readsPart 19 = .ok (.iaload, 1) := by decide +kernel
theorem dX12_readsPart_20 : decode cX12_readsPart 20 = .ok (.invokestatic 69, 3) := by decide +kernel
theorem dX12_readsPart_23 : decode cX12_readsPart 23 = .ok (.ifCond .eq 17, 3) := by decide +kernel
theorem dX12_readsPart_26 : decode cX12_readsPart 26 = .ok (.aload_n 0, 1) := by decide +kernel
theorem dX12_readsPart_27 : decode cX12_readsPart 27 = .ok (.getfield 63, 3) := by decide +kernel
theorem dX12_readsPart_30 : decode cX12_readsPart 30 = .ok (.aload_n 0, 1) := by decide +kernel
theorem dX12_readsPart_31 : decode cX12_readsPart 31 = .ok (.getfield 66, 3) := by decide +kernel
theorem dX12_readsPart_34 : decode cX12_readsPart 34 = .ok (.isub, 1) := by decide +kernel
theorem dX12_readsPart_35 : decode cX12_readsPart 35 = .ok (.bipush 12, 2) := by decide +kernel
theorem dX12_readsPart_37 : decode cX12_readsPart 37 = .ok (.if_icmp .le 5, 3) := by decide +kernel
theorem dX12_readsPart_40 : decode cX12_readsPart 40 = .ok (.iconst 0, 1) := by decide +kernel
theorem dX12_readsPart_41 : decode cX12_readsPart 41 = .ok (.ireturn, 1) := by decide +kernel
theorem dX12_readsPart_42 : decode cX12_readsPart 42 = .ok (.aload_n 0, 1) := by decide +kernel
theorem dX12_readsPart_43 : decode cX12_readsPart 43 = .ok (.getfield 66, 3) := by decide +kernel
theorem dX12_readsPart_46 : decode cX12_readsPart 46 = .ok (.istore_n 1, 1) := by decide +kernel
theorem dX12_readsPart_47 : decode cX12_readsPart 47 = .ok (.aload_n 0, 1) := by decide +kernel
theorem dX12_readsPart_48 : decode cX12_readsPart 48 = .ok (.getfield 63, 3) := by decide +kernel
theorem dX12_readsPart_51 : decode cX12_readsPart 51 = .ok (.aload_n 0, 1) := by decide +kernel
theorem dX12_readsPart_52 : decode cX12_readsPart 52 = .ok (.getfield 66, 3) := by decide +kernel
theorem dX12_readsPart_55 : decode cX12_readsPart 55 = .ok (.isub, 1) := by decide +kernel
theorem dX12_readsPart_56 : decode cX12_readsPart 56 = .ok (.istore_n 2, 1) := by decide +kernel
theorem dX12_readsPart_57 : decode cX12_readsPart 57 = .ok (.aload_n 0, 1) := by decide +kernel
theorem dX12_readsPart_58 : decode cX12_readsPart 58 = .ok (.invokevirtual 76, 3) := by decide +kernel
theorem dX12_readsPart_61 : decode cX12_readsPart 61 = .ok (.aload_n 0, 1) := by decide +kernel
theorem dX12_readsPart_62 : decode cX12_readsPart 62 = .ok (.iconst 0, 1) := by decide +kernel
theorem dX12_readsPart_63 : decode cX12_readsPart 63 = .ok (.iconst 1, 1) := by decide +kernel
theorem dX12_readsPart_64 : decode cX12_readsPart 64 = .ok (.bipush 8, 2) := by decide +kernel
theorem dX12_readsPart_66 : decode cX12_readsPart 66 = .ok (.invokevirtual 79, 3) := by decide +kernel
theorem dX12_readsPart_69 : decode cX12_readsPart 69 = .ok (.ifCond .eq 14, 3) := by decide +kernel
theorem dX12_readsPart_72 : decode cX12_readsPart 72 = .ok (.aload_n 0, 1) := by decide +kernel
theorem dX12_readsPart_73 : decode cX12_readsPart 73 = .ok (.iconst 1, 1) := by decide +kernel
theorem dX12_readsPart_74 : decode cX12_readsPart 74 = .ok (.iconst 1, 1) := by decide +kernel
theorem dX12_readsPart_75 : decode cX12_readsPart 75 = .ok (.bipush 9, 2) := by decide +kernel
theorem dX12_readsPart_77 : decode cX12_readsPart 77 = .ok (.invokevirtual 79, 3) := by decide +kernel
theorem dX12_readsPart_80 : decode cX12_readsPart 80 = .ok (.ifCond .ne 5, 3) := by decide +kernel
theorem dX12_readsPart_83 : decode cX12_readsPart 83 = .ok (.iconst 0, 1) := by decide +kernel
theorem dX12_readsPart_84 : decode cX12_readsPart 84 = .ok (.ireturn, 1) := by decide +kernel
theorem dX12_readsPart_85 : decode cX12_readsPart 85 = .ok (.aload_n 0, 1) := by decide +kernel
theorem dX12_readsPart_86 : decode cX12_readsPart 86 = .ok (.dup, 1) := by decide +kernel
theorem dX12_readsPart_87 : decode cX12_readsPart 87 = .ok (.getfield 83, 3) := by decide +kernel
theorem dX12_readsPart_90 : decode cX12_readsPart 90 = .ok (.iconst 1, 1) := by decide +kernel
theorem dX12_readsPart_91 : decode cX12_readsPart 91 = .ok (.iadd, 1) := by decide +kernel
theorem dX12_readsPart_92 : decode cX12_readsPart 92 = .ok (.putfield 83, 3) := by decide +kernel
theorem dX12_readsPart_95 : decode cX12_readsPart 95 = .ok (.aload_n 0, 1) := by decide +kernel
theorem dX12_readsPart_96 : decode cX12_readsPart 96 = .ok (.getfield 86, 3) := by decide +kernel
theorem dX12_readsPart_99 : decode cX12_readsPart 99 = .ok (.ifCond .eq 98, 3) := by decide +kernel
theorem dX12_readsPart_102 : decode cX12_readsPart 102 = .ok (.aload_n 0, 1) := by decide +kernel
theorem dX12_readsPart_103 : decode cX12_readsPart 103 = .ok (.getfield 7, 3) := by decide +kernel
theorem dX12_readsPart_106 : decode cX12_readsPart 106 = .ok (.iconst 2, 1) := by decide +kernel
theorem dX12_readsPart_107 : decode cX12_readsPart 107 = .ok (.iaload, 1) := by decide +kernel
theorem dX12_readsPart_108 : decode cX12_readsPart 108 = .ok (.invokestatic 35, 3) := by decide +kernel
theorem dX12_readsPart_111 : decode cX12_readsPart 111 = .ok (.istore_n 3, 1) := by decide +kernel
theorem dX12_readsPart_112 : decode cX12_readsPart 112 = .ok (.aload_n 0, 1) := by decide +kernel
theorem dX12_readsPart_113 : decode cX12_readsPart 113 = .ok (.getfield 7, 3) := by decide +kernel
theorem dX12_readsPart_116 : decode cX12_readsPart 116 = .ok (.iconst 2, 1) := by decide +kernel
theorem dX12_readsPart_117 : decode cX12_readsPart 117 = .ok (.dup2, 1) := by decide +kernel
theorem dX12_readsPart_118 : decode cX12_readsPart 118 = .ok (.iaload, 1) := by decide +kernel
theorem dX12_readsPart_119 : decode cX12_readsPart 119 = .ok (.iconst 1, 1) := by decide +kernel
theorem dX12_readsPart_120 : decode cX12_readsPart 120 = .ok (.iadd, 1) := by decide +kernel
theorem dX12_readsPart_121 : decode cX12_readsPart 121 = .ok (.iastore, 1) := by decide +kernel
theorem dX12_readsPart_122 : decode cX12_readsPart 122 = .ok (.aload_n 0, 1) := by decide +kernel
theorem dX12_readsPart_123 : decode cX12_readsPart 123 = .ok (.getfield 7, 3) := by decide +kernel
theorem dX12_readsPart_126 : decode cX12_readsPart 126 = .ok (.iload_n 3, 1) := by decide +kernel
theorem dX12_readsPart_127 : decode cX12_readsPart 127 = .ok (.iconst 0, 1) := by decide +kernel
theorem dX12_readsPart_128 : decode cX12_readsPart 128 = .ok (.iadd, 1) := by decide +kernel
theorem dX12_readsPart_129 : decode cX12_readsPart 129 = .ok (.iload_n 2, 1) := by decide +kernel
theorem dX12_readsPart_130 : decode cX12_readsPart 130 = .ok (.iastore, 1) := by decide +kernel
theorem dX12_readsPart_131 : decode cX12_readsPart 131 = .ok (.aload_n 0, 1) := by decide +kernel
theorem dX12_readsPart_132 : decode cX12_readsPart 132 = .ok (.getfield 7, 3) := by decide +kernel
theorem dX12_readsPart_135 : decode cX12_readsPart 135 = .ok (.iload_n 3, 1) := by decide +kernel
theorem dX12_readsPart_136 : decode cX12_readsPart 136 = .ok (.iconst 1, 1) := by decide +kernel
theorem dX12_readsPart_137 : decode cX12_readsPart 137 = .ok (.iadd, 1) := by decide +kernel
theorem dX12_readsPart_138 : decode cX12_readsPart 138 = .ok (.aload_n 0, 1) := by decide +kernel
theorem dX12_readsPart_139 : decode cX12_readsPart 139 = .ok (.getfield 16, 3) := by decide +kernel
theorem dX12_readsPart_142 : decode cX12_readsPart 142 = .ok (.iconst 0, 1) := by decide +kernel
theorem dX12_readsPart_143 : decode cX12_readsPart 143 = .ok (.iaload, 1) := by decide +kernel
theorem dX12_readsPart_144 : decode cX12_readsPart 144 = .ok (.iastore, 1) := by decide +kernel
theorem dX12_readsPart_145 : decode cX12_readsPart 145 = .ok (.aload_n 0, 1) := by decide +kernel
theorem dX12_readsPart_146 : decode cX12_readsPart 146 = .ok (.getfield 7, 3) := by decide +kernel
theorem dX12_readsPart_149 : decode cX12_readsPart 149 = .ok (.iload_n 3, 1) := by decide +kernel
theorem dX12_readsPart_150 : decode cX12_readsPart 150 = .ok (.iconst 2, 1) := by decide +kernel
theorem dX12_readsPart_151 : decode cX12_readsPart 151 = .ok (.iadd, 1) := by decide +kernel
theorem dX12_readsPart_152 : decode cX12_readsPart 152 = .ok (.aload_n 0, 1) := by decide +kernel
theorem dX12_readsPart_153 : decode cX12_readsPart 153 = .ok (.getfield 16, 3) := by decide +kernel
theorem dX12_readsPart_156 : decode cX12_readsPart 156 = .ok (.iconst 1, 1) := by decide +kernel
theorem dX12_readsPart_157 : decode cX12_readsPart 157 = .ok (.iaload, 1) := by decide +kernel
theorem dX12_readsPart_158 : decode cX12_readsPart 158 = .ok (.iastore, 1) := by decide +kernel
theorem dX12_readsPart_159 : decode cX12_readsPart 159 = .ok (.iconst 0, 1) := by decide +kernel
theorem dX12_readsPart_160 : decode cX12_readsPart 160 = .ok (.istore 4, 2) := by decide +kernel
theorem dX12_readsPart_162 : decode cX12_readsPart 162 = .ok (.iload 4, 2) := by decide +kernel
theorem dX12_readsPart_164 : decode cX12_readsPart 164 = .ok (.iload_n 2, 1) := by decide +kernel
theorem dX12_readsPart_165 : decode cX12_readsPart 165 = .ok (.if_icmp .ge 32, 3) := by decide +kernel
theorem dX12_readsPart_168 : decode cX12_readsPart 168 = .ok (.aload_n 0, 1) := by decide +kernel
theorem dX12_readsPart_169 : decode cX12_readsPart 169 = .ok (.getfield 7, 3) := by decide +kernel
theorem dX12_readsPart_172 : decode cX12_readsPart 172 = .ok (.iload_n 3, 1) := by decide +kernel
theorem dX12_readsPart_173 : decode cX12_readsPart 173 = .ok (.iconst 3, 1) := by decide +kernel
theorem dX12_readsPart_174 : decode cX12_readsPart 174 = .ok (.iadd, 1) := by decide +kernel
theorem dX12_readsPart_175 : decode cX12_readsPart 175 = .ok (.iload 4, 2) := by decide +kernel
theorem dX12_readsPart_177 : decode cX12_readsPart 177 = .ok (.iadd, 1) := by decide +kernel
theorem dX12_readsPart_178 : decode cX12_readsPart 178 = .ok (.aload_n 0, 1) := by decide +kernel
theorem dX12_readsPart_179 : decode cX12_readsPart 179 = .ok (.getfield 13, 3) := by decide +kernel
theorem dX12_readsPart_182 : decode cX12_readsPart 182 = .ok (.iload_n 1, 1) := by decide +kernel
theorem dX12_readsPart_183 : decode cX12_readsPart 183 = .ok (.iload 4, 2) := by decide +kernel
theorem dX12_readsPart_185 : decode cX12_readsPart 185 = .ok (.iadd, 1) := by decide +kernel
theorem dX12_readsPart_186 : decode cX12_readsPart 186 = .ok (.iaload, 1) := by decide +kernel
theorem dX12_readsPart_187 : decode cX12_readsPart 187 = .ok (.bipush 97, 2) := by decide +kernel
theorem dX12_readsPart_189 : decode cX12_readsPart 189 = .ok (.isub, 1) := by decide +kernel
theorem dX12_readsPart_190 : decode cX12_readsPart 190 = .ok (.iastore, 1) := by decide +kernel
theorem dX12_readsPart_191 : decode cX12_readsPart 191 = .ok (.iinc 4 1, 3) := by decide +kernel
theorem dX12_readsPart_194 : decode cX12_readsPart 194 = .ok (.goto (-32), 3) := by decide +kernel
theorem dX12_readsPart_197 : decode cX12_readsPart 197 = .ok (.iconst 1, 1) := by decide +kernel
theorem dX12_readsPart_198 : decode cX12_readsPart 198 = .ok (.ireturn, 1) := by decide +kernel
theorem dX12_readsClause_0 : decode cX12_readsClause 0 = .ok (.aload_n 0, 1) := by decide +kernel
theorem dX12_readsClause_1 : decode cX12_readsClause 1 = .ok (.invokevirtual 90, 3) := by decide +kernel
theorem dX12_readsClause_4 : decode cX12_readsClause 4 = .ok (.istore_n 1, 1) := by decide +kernel
theorem dX12_readsClause_5 : decode cX12_readsClause 5 = .ok (.iload_n 1, 1) := by decide +kernel
theorem dX12_readsClause_6 : decode cX12_readsClause 6 = .ok (.iconst (-1), 1) := by decide +kernel
theorem dX12_readsClause_7 : decode cX12_readsClause 7 = .ok (.if_icmp .eq 17, 3) := by decide +kernel
theorem dX12_readsClause_10 : decode cX12_readsClause 10 = .ok (.iload_n 1, 1) := by decide +kernel
theorem dX12_readsClause_11 : decode cX12_readsClause 11 = .ok (.iconst 3, 1) := by decide +kernel
theorem dX12_readsClause_12 : decode cX12_readsClause 12 = .ok (.if_icmp .ne 14, 3) := by decide +kernel
theorem dX12_readsClause_15 : decode cX12_readsClause 15 = .ok (.aload_n 0, 1) := by decide +kernel
theorem dX12_readsClause_16 : decode cX12_readsClause 16 = .ok (.getfield 83, 3) := by decide +kernel
theorem dX12_readsClause_19 : decode cX12_readsClause 19 = .ok (.bipush 6, 2) := by decide +kernel
theorem dX12_readsClause_21 : decode cX12_readsClause 21 = .ok (.if_icmp .ne 5, 3) := by decide +kernel
theorem dX12_readsClause_24 : decode cX12_readsClause 24 = .ok (.iconst 0, 1) := by decide +kernel
theorem dX12_readsClause_25 : decode cX12_readsClause 25 = .ok (.ireturn, 1) := by decide +kernel
theorem dX12_readsClause_26 : decode cX12_readsClause 26 = .ok (.aload_n 0, 1) := by decide +kernel
theorem dX12_readsClause_27 : decode cX12_readsClause 27 = .ok (.invokevirtual 76, 3) := by decide +kernel
theorem dX12_readsClause_30 : decode cX12_readsClause 30 = .ok (.iload_n 1, 1) := by decide +kernel
theorem dX12_readsClause_31 : decode cX12_readsClause 31 = .ok (.iconst 3, 1) := by decide +kernel
theorem dX12_readsClause_32 : decode cX12_readsClause 32 = .ok (.if_icmp .ne 8, 3) := by decide +kernel
theorem dX12_readsClause_35 : decode cX12_readsClause 35 = .ok (.aload_n 0, 1) := by decide +kernel
theorem dX12_readsClause_36 : decode cX12_readsClause 36 = .ok (.invokevirtual 94, 3) := by decide +kernel
theorem dX12_readsClause_39 : decode cX12_readsClause 39 = .ok (.ireturn, 1) := by decide +kernel
theorem dX12_readsClause_40 : decode cX12_readsClause 40 = .ok (.iload_n 1, 1) := by decide +kernel
theorem dX12_readsClause_41 : decode cX12_readsClause 41 = .ok (.ifCond .ne 39, 3) := by decide +kernel
theorem dX12_readsClause_44 : decode cX12_readsClause 44 = .ok (.aload_n 0, 1) := by decide +kernel
theorem dX12_readsClause_45 : decode cX12_readsClause 45 = .ok (.iconst 0, 1) := by decide +kernel
theorem dX12_readsClause_46 : decode cX12_readsClause 46 = .ok (.putfield 83, 3) := by decide +kernel
theorem dX12_readsClause_49 : decode cX12_readsClause 49 = .ok (.aload_n 0, 1) := by decide +kernel
theorem dX12_readsClause_50 : decode cX12_readsClause 50 = .ok (.getfield 86, 3) := by decide +kernel
theorem dX12_readsClause_53 : decode cX12_readsClause 53 = .ok (.ifCond .eq 25, 3) := by decide +kernel
theorem dX12_readsClause_56 : decode cX12_readsClause 56 = .ok (.aload_n 0, 1) := by decide +kernel
theorem dX12_readsClause_57 : decode cX12_readsClause 57 = .ok (.getfield 7, 3) := by decide +kernel
theorem dX12_readsClause_60 : decode cX12_readsClause 60 = .ok (.iconst 0, 1) := by decide +kernel
theorem dX12_readsClause_61 : decode cX12_readsClause 61 = .ok (.iconst 4, 1) := by decide +kernel
theorem dX12_readsClause_62 : decode cX12_readsClause 62 = .ok (.iastore, 1) := by decide +kernel
theorem dX12_readsClause_63 : decode cX12_readsClause 63 = .ok (.aload_n 0, 1) := by decide +kernel
theorem dX12_readsClause_64 : decode cX12_readsClause 64 = .ok (.getfield 7, 3) := by decide +kernel
theorem dX12_readsClause_67 : decode cX12_readsClause 67 = .ok (.iconst 1, 1) := by decide +kernel
theorem dX12_readsClause_68 : decode cX12_readsClause 68 = .ok (.bipush 20, 2) := by decide +kernel
theorem dX12_readsClause_70 : decode cX12_readsClause 70 = .ok (.iastore, 1) := by decide +kernel
theorem dX12_readsClause_71 : decode cX12_readsClause 71 = .ok (.aload_n 0, 1) := by decide +kernel
theorem dX12_readsClause_72 : decode cX12_readsClause 72 = .ok (.getfield 7, 3) := by decide +kernel
theorem dX12_readsClause_75 : decode cX12_readsClause 75 = .ok (.iconst 2, 1) := by decide +kernel
theorem dX12_readsClause_76 : decode cX12_readsClause 76 = .ok (.iconst 0, 1) := by decide +kernel
theorem dX12_readsClause_77 : decode cX12_readsClause 77 = .ok (.iastore, 1) := by decide +kernel
theorem dX12_readsClause_78 : decode cX12_readsClause 78 = .ok (.iconst 1, 1) := by decide +kernel
theorem dX12_readsClause_79 : decode cX12_readsClause 79 = .ok (.ireturn, 1) := by decide +kernel
theorem dX12_readsClause_80 : decode cX12_readsClause 80 = .ok (.aload_n 0, 1) := by decide +kernel
theorem dX12_readsClause_81 : decode cX12_readsClause 81 = .ok (.iconst 0, 1) := by decide +kernel
theorem dX12_readsClause_82 : decode cX12_readsClause 82 = .ok (.iconst 1, 1) := by decide +kernel
theorem dX12_readsClause_83 : decode cX12_readsClause 83 = .ok (.iload_n 1, 1) := by decide +kernel
theorem dX12_readsClause_84 : decode cX12_readsClause 84 = .ok (.iconst 1, 1) := by decide +kernel
theorem dX12_readsClause_85 : decode cX12_readsClause 85 = .ok (.if_icmp .ne 8, 3) := by decide +kernel
theorem dX12_readsClause_88 : decode cX12_readsClause 88 = .ok (.bipush 8, 2) := by decide +kernel
theorem dX12_readsClause_90 : decode cX12_readsClause 90 = .ok (.goto 5, 3) := by decide +kernel
theorem dX12_readsClause_93 : decode cX12_readsClause 93 = .ok (.bipush 40, 2) := by decide +kernel
theorem dX12_readsClause_95 : decode cX12_readsClause 95 = .ok (.invokevirtual 79, 3) := by decide +kernel
theorem dX12_readsClause_98 : decode cX12_readsClause 98 = .ok (.istore_n 2, 1) := by decide +kernel
theorem dX12_readsClause_99 : decode cX12_readsClause 99 = .ok (.iload_n 2, 1) := by decide +kernel
theorem dX12_readsClause_100 : decode cX12_readsClause 100 = .ok (.ifCond .eq 31, 3) := by decide +kernel
theorem dX12_readsClause_103 : decode cX12_readsClause 103 = .ok (.aload_n 0, 1) := by decide +kernel
theorem dX12_readsClause_104 : decode cX12_readsClause 104 = .ok (.getfield 86, 3) := by decide +kernel
theorem dX12_readsClause_107 : decode cX12_readsClause 107 = .ok (.ifCond .eq 24, 3) := by decide +kernel
theorem dX12_readsClause_110 : decode cX12_readsClause 110 = .ok (.aload_n 0, 1) := by decide +kernel
theorem dX12_readsClause_111 : decode cX12_readsClause 111 = .ok (.getfield 7, 3) := by decide +kernel
theorem dX12_readsClause_114 : decode cX12_readsClause 114 = .ok (.iload_n 1, 1) := by decide +kernel
theorem dX12_readsClause_115 : decode cX12_readsClause 115 = .ok (.iconst 1, 1) := by decide +kernel
theorem dX12_readsClause_116 : decode cX12_readsClause 116 = .ok (.if_icmp .ne 7, 3) := by decide +kernel
theorem dX12_readsClause_119 : decode cX12_readsClause 119 = .ok (.iconst 0, 1) := by decide +kernel
theorem dX12_readsClause_120 : decode cX12_readsClause 120 = .ok (.goto 4, 3) := by decide +kernel
theorem dX12_readsClause_123 : decode cX12_readsClause 123 = .ok (.iconst 1, 1) := by decide +kernel
theorem dX12_readsClause_124 : decode cX12_readsClause 124 = .ok (.aload_n 0, 1) := by decide +kernel
theorem dX12_readsClause_125 : decode cX12_readsClause 125 = .ok (.getfield 16, 3) := by decide +kernel
theorem dX12_readsClause_128 : decode cX12_readsClause 128 = .ok (.iconst 0, 1) := by decide +kernel
theorem dX12_readsClause_129 : decode cX12_readsClause 129 = .ok (.iaload, 1) := by decide +kernel
theorem dX12_readsClause_130 : decode cX12_readsClause 130 = .ok (.iastore, 1) := by decide +kernel
theorem dX12_readsClause_131 : decode cX12_readsClause 131 = .ok (.iload_n 2, 1) := by decide +kernel
theorem dX12_readsClause_132 : decode cX12_readsClause 132 = .ok (.ireturn, 1) := by decide +kernel
theorem dX12_readsAll_0 : decode cX12_readsAll 0 = .ok (.aload_n 0, 1) := by decide +kernel
theorem dX12_readsAll_1 : decode cX12_readsAll 1 = .ok (.iload_n 1, 1) := by decide +kernel
theorem dX12_readsAll_2 : decode cX12_readsAll 2 = .ok (.putfield 86, 3) := by decide +kernel
theorem dX12_readsAll_5 : decode cX12_readsAll 5 = .ok (.aload_n 0, 1) := by decide +kernel
theorem dX12_readsAll_6 : decode cX12_readsAll 6 = .ok (.iconst 0, 1) := by decide +kernel
theorem dX12_readsAll_7 : decode cX12_readsAll 7 = .ok (.putfield 63, 3) := by decide +kernel
theorem dX12_readsAll_10 : decode cX12_readsAll 10 = .ok (.aload_n 0, 1) := by decide +kernel
theorem dX12_readsAll_11 : decode cX12_readsAll 11 = .ok (.iconst 1, 1) := by decide +kernel
theorem dX12_readsAll_12 : decode cX12_readsAll 12 = .ok (.putfield 98, 3) := by decide +kernel
theorem dX12_readsAll_15 : decode cX12_readsAll 15 = .ok (.aload_n 0, 1) := by decide +kernel
theorem dX12_readsAll_16 : decode cX12_readsAll 16 = .ok (.aload_n 0, 1) := by decide +kernel
theorem dX12_readsAll_17 : decode cX12_readsAll 17 = .ok (.getfield 7, 3) := by decide +kernel
theorem dX12_readsAll_20 : decode cX12_readsAll 20 = .ok (.iconst 2, 1) := by decide +kernel
theorem dX12_readsAll_21 : decode cX12_readsAll 21 = .ok (.iaload, 1) := by decide +kernel
theorem dX12_readsAll_22 : decode cX12_readsAll 22 = .ok (.putfield 83, 3) := by decide +kernel
theorem dX12_readsAll_25 : decode cX12_readsAll 25 = .ok (.aload_n 0, 1) := by decide +kernel
theorem dX12_readsAll_26 : decode cX12_readsAll 26 = .ok (.invokevirtual 76, 3) := by decide +kernel
theorem dX12_readsAll_29 : decode cX12_readsAll 29 = .ok (.aload_n 0, 1) := by decide +kernel
theorem dX12_readsAll_30 : decode cX12_readsAll 30 = .ok (.invokevirtual 101, 3) := by decide +kernel
theorem dX12_readsAll_33 : decode cX12_readsAll 33 = .ok (.istore_n 2, 1) := by decide +kernel
theorem dX12_readsAll_34 : decode cX12_readsAll 34 = .ok (.iload_n 2, 1) := by decide +kernel
theorem dX12_readsAll_35 : decode cX12_readsAll 35 = .ok (.ifCond .eq 69, 3) := by decide +kernel
theorem dX12_readsAll_38 : decode cX12_readsAll 38 = .ok (.aload_n 0, 1) := by decide +kernel
theorem dX12_readsAll_39 : decode cX12_readsAll 39 = .ok (.getfield 66, 3) := by decide +kernel
theorem dX12_readsAll_42 : decode cX12_readsAll 42 = .ok (.aload_n 0, 1) := by decide +kernel
theorem dX12_readsAll_43 : decode cX12_readsAll 43 = .ok (.getfield 51, 3) := by decide +kernel
theorem dX12_readsAll_46 : decode cX12_readsAll 46 = .ok (.if_icmp .ge 58, 3) := by decide +kernel
theorem dX12_readsAll_49 : decode cX12_readsAll 49 = .ok (.aload_n 0, 1) := by decide +kernel
theorem dX12_readsAll_50 : decode cX12_readsAll 50 = .ok (.getfield 98, 3) := by decide +kernel
theorem dX12_readsAll_53 : decode cX12_readsAll 53 = .ok (.bipush 24, 2) := by decide +kernel
theorem dX12_readsAll_55 : decode cX12_readsAll 55 = .ok (.if_icmp .ge 21, 3) := by decide +kernel
theorem dX12_readsAll_58 : decode cX12_readsAll 58 = .ok (.aload_n 0, 1) := by decide +kernel
theorem dX12_readsAll_59 : decode cX12_readsAll 59 = .ok (.getfield 13, 3) := by decide +kernel
theorem dX12_readsAll_62 : decode cX12_readsAll 62 = .ok (.aload_n 0, 1) := by decide +kernel
theorem dX12_readsAll_63 : decode cX12_readsAll 63 = .ok (.getfield 66, 3) := by decide +kernel
theorem dX12_readsAll_66 : decode cX12_readsAll 66 = .ok (.iaload, 1) := by decide +kernel
theorem dX12_readsAll_67 : decode cX12_readsAll 67 = .ok (.bipush 59, 2) := by decide +kernel
theorem dX12_readsAll_69 : decode cX12_readsAll 69 = .ok (.if_icmp .ne 7, 3) := by decide +kernel
theorem dX12_readsAll_72 : decode cX12_readsAll 72 = .ok (.iconst 1, 1) := by decide +kernel
theorem dX12_readsAll_73 : decode cX12_readsAll 73 = .ok (.goto 4, 3) := by decide +kernel
theorem dX12_readsAll_76 : decode cX12_readsAll 76 = .ok (.iconst 0, 1) := by decide +kernel
theorem dX12_readsAll_77 : decode cX12_readsAll 77 = .ok (.istore_n 2, 1) := by decide +kernel
theorem dX12_readsAll_78 : decode cX12_readsAll 78 = .ok (.iload_n 2, 1) := by decide +kernel
theorem dX12_readsAll_79 : decode cX12_readsAll 79 = .ok (.ifCond .eq (-45), 3) := by decide +kernel
theorem dX12_readsAll_82 : decode cX12_readsAll 82 = .ok (.aload_n 0, 1) := by decide +kernel
theorem dX12_readsAll_83 : decode cX12_readsAll 83 = .ok (.invokevirtual 76, 3) := by decide +kernel
theorem dX12_readsAll_86 : decode cX12_readsAll 86 = .ok (.aload_n 0, 1) := by decide +kernel
theorem dX12_readsAll_87 : decode cX12_readsAll 87 = .ok (.invokevirtual 101, 3) := by decide +kernel
theorem dX12_readsAll_90 : decode cX12_readsAll 90 = .ok (.istore_n 2, 1) := by decide +kernel
theorem dX12_readsAll_91 : decode cX12_readsAll 91 = .ok (.aload_n 0, 1) := by decide +kernel
theorem dX12_readsAll_92 : decode cX12_readsAll 92 = .ok (.dup, 1) := by decide +kernel
theorem dX12_readsAll_93 : decode cX12_readsAll 93 = .ok (.getfield 98, 3) := by decide +kernel
theorem dX12_readsAll_96 : decode cX12_readsAll 96 = .ok (.iconst 1, 1) := by decide +kernel
theorem dX12_readsAll_97 : decode cX12_readsAll 97 = .ok (.iadd, 1) := by decide +kernel
theorem dX12_readsAll_98 : decode cX12_readsAll 98 = .ok (.putfield 98, 3) := by decide +kernel
theorem dX12_readsAll_101 : decode cX12_readsAll 101 = .ok (.goto (-67), 3) := by decide +kernel
theorem dX12_readsAll_104 : decode cX12_readsAll 104 = .ok (.iload_n 2, 1) := by decide +kernel
theorem dX12_readsAll_105 : decode cX12_readsAll 105 = .ok (.ireturn, 1) := by decide +kernel
theorem dX12_fault_0 : decode cX12_fault 0 = .ok (.aload_n 0, 1) := by decide +kernel
theorem dX12_fault_1 : decode cX12_fault 1 = .ok (.iconst 0, 1) := by decide +kernel
theorem dX12_fault_2 : decode cX12_fault 2 = .ok (.invokevirtual 104, 3) := by decide +kernel
theorem dX12_fault_5 : decode cX12_fault 5 = .ok (.ifCond .eq 7, 3) := by decide +kernel
theorem dX12_fault_8 : decode cX12_fault 8 = .ok (.iconst (-1), 1) := by decide +kernel
theorem dX12_fault_9 : decode cX12_fault 9 = .ok (.goto 7, 3) := by decide +kernel
theorem dX12_fault_12 : decode cX12_fault 12 = .ok (.aload_n 0, 1) := by decide +kernel
theorem dX12_fault_13 : decode cX12_fault 13 = .ok (.getfield 66, 3) := by decide +kernel
theorem dX12_fault_16 : decode cX12_fault 16 = .ok (.ireturn, 1) := by decide +kernel
theorem dX12_tell_0 : decode cX12_tell 0 = .ok (.aload_n 0, 1) := by decide +kernel
theorem dX12_tell_1 : decode cX12_tell 1 = .ok (.iconst 0, 1) := by decide +kernel
theorem dX12_tell_2 : decode cX12_tell 2 = .ok (.invokevirtual 104, 3) := by decide +kernel
theorem dX12_tell_5 : decode cX12_tell 5 = .ok (.ifCond .ne 6, 3) := by decide +kernel
theorem dX12_tell_8 : decode cX12_tell 8 = .ok (.bipush (-4), 2) := by decide +kernel
theorem dX12_tell_10 : decode cX12_tell 10 = .ok (.ireturn, 1) := by decide +kernel
theorem dX12_tell_11 : decode cX12_tell 11 = .ok (.aload_n 0, 1) := by decide +kernel
theorem dX12_tell_12 : decode cX12_tell 12 = .ok (.iconst 1, 1) := by decide +kernel
theorem dX12_tell_13 : decode cX12_tell 13 = .ok (.invokevirtual 104, 3) := by decide +kernel
theorem dX12_tell_16 : decode cX12_tell 16 = .ok (.pop, 1) := by decide +kernel
theorem dX12_tell_17 : decode cX12_tell 17 = .ok (.aload_n 0, 1) := by decide +kernel
theorem dX12_tell_18 : decode cX12_tell 18 = .ok (.iconst 0, 1) := by decide +kernel
theorem dX12_tell_19 : decode cX12_tell 19 = .ok (.putfield 51, 3) := by decide +kernel
theorem dX12_tell_22 : decode cX12_tell 22 = .ok (.aload_n 0, 1) := by decide +kernel
theorem dX12_tell_23 : decode cX12_tell 23 = .ok (.iconst 0, 1) := by decide +kernel
theorem dX12_tell_24 : decode cX12_tell 24 = .ok (.putfield 108, 3) := by decide +kernel
theorem dX12_tell_27 : decode cX12_tell 27 = .ok (.aload_n 0, 1) := by decide +kernel
theorem dX12_tell_28 : decode cX12_tell 28 = .ok (.getfield 98, 3) := by decide +kernel
theorem dX12_tell_31 : decode cX12_tell 31 = .ok (.ireturn, 1) := by decide +kernel
theorem dX12_part_0 : decode cX12_part 0 = .ok (.aload_n 0, 1) := by decide +kernel
theorem dX12_part_1 : decode cX12_part 1 = .ok (.iload_n 1, 1) := by decide +kernel
theorem dX12_part_2 : decode cX12_part 2 = .ok (.invokevirtual 111, 3) := by decide +kernel
theorem dX12_part_5 : decode cX12_part 5 = .ok (.ifCond .ne 6, 3) := by decide +kernel
theorem dX12_part_8 : decode cX12_part 8 = .ok (.bipush (-2), 2) := by decide +kernel
theorem dX12_part_10 : decode cX12_part 10 = .ok (.ireturn, 1) := by decide +kernel
theorem dX12_part_11 : decode cX12_part 11 = .ok (.iload_n 2, 1) := by decide +kernel
theorem dX12_part_12 : decode cX12_part 12 = .ok (.i2l, 1) := by decide +kernel
theorem dX12_part_13 : decode cX12_part 13 = .ok (.lconst 0, 1) := by decide +kernel
theorem dX12_part_14 : decode cX12_part 14 = .ok (.ldc2_w 114, 3) := by decide +kernel
theorem dX12_part_17 : decode cX12_part 17 = .ok (.invokestatic 31, 3) := by decide +kernel
theorem dX12_part_20 : decode cX12_part 20 = .ok (.ifCond .eq 17, 3) := by decide +kernel
theorem dX12_part_23 : decode cX12_part 23 = .ok (.aload_n 0, 1) := by decide +kernel
theorem dX12_part_24 : decode cX12_part 24 = .ok (.getfield 7, 3) := by decide +kernel
theorem dX12_part_27 : decode cX12_part 27 = .ok (.iload_n 1, 1) := by decide +kernel
theorem dX12_part_28 : decode cX12_part 28 = .ok (.invokestatic 35, 3) := by decide +kernel
theorem dX12_part_31 : decode cX12_part 31 = .ok (.iload_n 2, 1) := by decide +kernel
theorem dX12_part_32 : decode cX12_part 32 = .ok (.iadd, 1) := by decide +kernel
theorem dX12_part_33 : decode cX12_part 33 = .ok (.iaload, 1) := by decide +kernel
theorem dX12_part_34 : decode cX12_part 34 = .ok (.goto 18, 3) := by decide +kernel
theorem dX12_part_37 : decode cX12_part 37 = .ok (.iload_n 2, 1) := by decide +kernel
theorem dX12_part_38 : decode cX12_part 38 = .ok (.iconst 3, 1) := by decide +kernel
theorem dX12_part_39 : decode cX12_part 39 = .ok (.if_icmp .ne 11, 3) := by decide +kernel
theorem dX12_part_42 : decode cX12_part 42 = .ok (.aload_n 0, 1) := by decide +kernel
theorem dX12_part_43 : decode cX12_part 43 = .ok (.iload_n 1, 1) := by decide +kernel
theorem dX12_part_44 : decode cX12_part 44 = .ok (.invokevirtual 43, 3) := by decide +kernel
theorem dX12_part_47 : decode cX12_part 47 = .ok (.goto 5, 3) := by decide +kernel
theorem dX12_part_50 : decode cX12_part 50 = .ok (.bipush (-3), 2) := by decide +kernel
theorem dX12_part_52 : decode cX12_part 52 = .ok (.ireturn, 1) := by decide +kernel
theorem dX12_letter_0 : decode cX12_letter 0 = .ok (.aload_n 0, 1) := by decide +kernel
theorem dX12_letter_1 : decode cX12_letter 1 = .ok (.iload_n 1, 1) := by decide +kernel
theorem dX12_letter_2 : decode cX12_letter 2 = .ok (.invokevirtual 111, 3) := by decide +kernel
theorem dX12_letter_5 : decode cX12_letter 5 = .ok (.ifCond .eq 42, 3) := by decide +kernel
theorem dX12_letter_8 : decode cX12_letter 8 = .ok (.iload_n 2, 1) := by decide +kernel
theorem dX12_letter_9 : decode cX12_letter 9 = .ok (.i2l, 1) := by decide +kernel
theorem dX12_letter_10 : decode cX12_letter 10 = .ok (.lconst 0, 1) := by decide +kernel
theorem dX12_letter_11 : decode cX12_letter 11 = .ok (.aload_n 0, 1) := by decide +kernel
theorem dX12_letter_12 : decode cX12_letter 12 = .ok (.getfield 7, 3) := by decide +kernel
theorem dX12_letter_15 : decode cX12_letter 15 = .ok (.iload_n 1, 1) := by decide +kernel
theorem dX12_letter_16 : decode cX12_letter 16 = .ok (.invokestatic 35, 3) := by decide +kernel
theorem dX12_letter_19 : decode cX12_letter 19 = .ok (.iconst 0, 1) := by decide +kernel
theorem dX12_letter_20 : decode cX12_letter 20 = .ok (.iadd, 1) := by decide +kernel
theorem dX12_letter_21 : decode cX12_letter 21 = .ok (.iaload, 1) := by decide +kernel
theorem dX12_letter_22 : decode cX12_letter 22 = .ok (.iconst 1, 1) := by decide +kernel
theorem dX12_letter_23 : decode cX12_letter 23 = .ok (.isub, 1) := by decide +kernel
theorem dX12_letter_24 : decode cX12_letter 24 = .ok (.i2l, 1) := by decide +kernel
theorem dX12_letter_25 : decode cX12_letter 25 = .ok (.invokestatic 31, 3) := by decide +kernel
theorem dX12_letter_28 : decode cX12_letter 28 = .ok (.ifCond .eq 19, 3) := by decide +kernel
theorem dX12_letter_31 : decode cX12_letter 31 = .ok (.aload_n 0, 1) := by decide +kernel
theorem dX12_letter_32 : decode cX12_letter 32 = .ok (.getfield 7, 3) := by decide +kernel
theorem dX12_letter_35 : decode cX12_letter 35 = .ok (.iload_n 1, 1) := by decide +kernel
theorem dX12_letter_36 : decode cX12_letter 36 = .ok (.invokestatic 35, 3) := by decide +kernel
theorem dX12_letter_39 : decode cX12_letter 39 = .ok (.iconst 3, 1) := by decide +kernel
theorem dX12_letter_40 : decode cX12_letter 40 = .ok (.iadd, 1) := by decide +kernel
theorem dX12_letter_41 : decode cX12_letter 41 = .ok (.iload_n 2, 1) := by decide +kernel
theorem dX12_letter_42 : decode cX12_letter 42 = .ok (.iadd, 1) := by decide +kernel
theorem dX12_letter_43 : decode cX12_letter 43 = .ok (.iaload, 1) := by decide +kernel
theorem dX12_letter_44 : decode cX12_letter 44 = .ok (.goto 5, 3) := by decide +kernel
theorem dX12_letter_47 : decode cX12_letter 47 = .ok (.bipush (-2), 2) := by decide +kernel
theorem dX12_letter_49 : decode cX12_letter 49 = .ok (.ireturn, 1) := by decide +kernel
theorem dX12_copyRow_0 : decode cX12_copyRow 0 = .ok (.iconst 0, 1) := by decide +kernel
theorem dX12_copyRow_1 : decode cX12_copyRow 1 = .ok (.istore_n 3, 1) := by decide +kernel
theorem dX12_copyRow_2 : decode cX12_copyRow 2 = .ok (.iload_n 3, 1) := by decide +kernel
theorem dX12_copyRow_3 : decode cX12_copyRow 3 = .ok (.sipush 770, 3) := by decide +kernel
theorem dX12_copyRow_6 : decode cX12_copyRow 6 = .ok (.if_icmp .ge 25, 3) := by decide +kernel
theorem dX12_copyRow_9 : decode cX12_copyRow 9 = .ok (.aload_n 0, 1) := by decide +kernel
theorem dX12_copyRow_10 : decode cX12_copyRow 10 = .ok (.getfield 7, 3) := by decide +kernel
theorem dX12_copyRow_13 : decode cX12_copyRow 13 = .ok (.iload_n 2, 1) := by decide +kernel
theorem dX12_copyRow_14 : decode cX12_copyRow 14 = .ok (.iload_n 3, 1) := by decide +kernel
theorem dX12_copyRow_15 : decode cX12_copyRow 15 = .ok (.iadd, 1) := by decide +kernel
theorem dX12_copyRow_16 : decode cX12_copyRow 16 = .ok (.aload_n 0, 1) := by decide +kernel
theorem dX12_copyRow_17 : decode cX12_copyRow 17 = .ok (.getfield 7, 3) := by decide +kernel
theorem dX12_copyRow_20 : decode cX12_copyRow 20 = .ok (.iload_n 1, 1) := by decide +kernel
theorem dX12_copyRow_21 : decode cX12_copyRow 21 = .ok (.iload_n 3, 1) := by decide +kernel
theorem dX12_copyRow_22 : decode cX12_copyRow 22 = .ok (.iadd, 1) := by decide +kernel
theorem dX12_copyRow_23 : decode cX12_copyRow 23 = .ok (.iaload, 1) := by decide +kernel
theorem dX12_copyRow_24 : decode cX12_copyRow 24 = .ok (.iastore, 1) := by decide +kernel
theorem dX12_copyRow_25 : decode cX12_copyRow 25 = .ok (.iinc 3 1, 3) := by decide +kernel
theorem dX12_copyRow_28 : decode cX12_copyRow 28 = .ok (.goto (-26), 3) := by decide +kernel
theorem dX12_copyRow_31 : decode cX12_copyRow 31 = .ok (.return_, 1) := by decide +kernel
theorem dX12_notes_0 : decode cX12_notes 0 = .ok (.iconst 0, 1) := by decide +kernel
theorem dX12_notes_1 : decode cX12_notes 1 = .ok (.istore_n 1, 1) := by decide +kernel
theorem dX12_notes_2 : decode cX12_notes 2 = .ok (.iload_n 1, 1) := by decide +kernel
theorem dX12_notes_3 : decode cX12_notes 3 = .ok (.sipush 5390, 3) := by decide +kernel
theorem dX12_notes_6 : decode cX12_notes 6 = .ok (.if_icmp .ge 38, 3) := by decide +kernel
theorem dX12_notes_9 : decode cX12_notes 9 = .ok (.aload_n 0, 1) := by decide +kernel
theorem dX12_notes_10 : decode cX12_notes 10 = .ok (.getfield 108, 3) := by decide +kernel
theorem dX12_notes_13 : decode cX12_notes 13 = .ok (.bipush 8, 2) := by decide +kernel
theorem dX12_notes_15 : decode cX12_notes 15 = .ok (.if_icmp .ne 29, 3) := by decide +kernel
theorem dX12_notes_18 : decode cX12_notes 18 = .ok (.aload_n 0, 1) := by decide +kernel
theorem dX12_notes_19 : decode cX12_notes 19 = .ok (.getfield 7, 3) := by decide +kernel
theorem dX12_notes_22 : decode cX12_notes 22 = .ok (.sipush 770, 3) := by decide +kernel
theorem dX12_notes_25 : decode cX12_notes 25 = .ok (.iload_n 1, 1) := by decide +kernel
theorem dX12_notes_26 : decode cX12_notes 26 = .ok (.iadd, 1) := by decide +kernel
theorem dX12_notes_27 : decode cX12_notes 27 = .ok (.aload_n 0, 1) := by decide +kernel
theorem dX12_notes_28 : decode cX12_notes 28 = .ok (.getfield 7, 3) := by decide +kernel
theorem dX12_notes_31 : decode cX12_notes 31 = .ok (.sipush 1540, 3) := by decide +kernel
theorem dX12_notes_34 : decode cX12_notes 34 = .ok (.iload_n 1, 1) := by decide +kernel
theorem dX12_notes_35 : decode cX12_notes 35 = .ok (.iadd, 1) := by decide +kernel
theorem dX12_notes_36 : decode cX12_notes 36 = .ok (.iaload, 1) := by decide +kernel
theorem dX12_notes_37 : decode cX12_notes 37 = .ok (.iastore, 1) := by decide +kernel
theorem dX12_notes_38 : decode cX12_notes 38 = .ok (.iinc 1 1, 3) := by decide +kernel
theorem dX12_notes_41 : decode cX12_notes 41 = .ok (.goto (-39), 3) := by decide +kernel
theorem dX12_notes_44 : decode cX12_notes 44 = .ok (.aload_n 0, 1) := by decide +kernel
theorem dX12_notes_45 : decode cX12_notes 45 = .ok (.dup, 1) := by decide +kernel
theorem dX12_notes_46 : decode cX12_notes 46 = .ok (.getfield 108, 3) := by decide +kernel
theorem dX12_notes_49 : decode cX12_notes 49 = .ok (.aload_n 0, 1) := by decide +kernel
theorem dX12_notes_50 : decode cX12_notes 50 = .ok (.getfield 108, 3) := by decide +kernel
theorem dX12_notes_53 : decode cX12_notes 53 = .ok (.bipush 8, 2) := by decide +kernel
theorem dX12_notes_55 : decode cX12_notes 55 = .ok (.if_icmp .ne 7, 3) := by decide +kernel
theorem dX12_notes_58 : decode cX12_notes 58 = .ok (.iconst 1, 1) := by decide +kernel
theorem dX12_notes_59 : decode cX12_notes 59 = .ok (.goto 4, 3) := by decide +kernel
theorem dX12_notes_62 : decode cX12_notes 62 = .ok (.iconst 0, 1) := by decide +kernel
theorem dX12_notes_63 : decode cX12_notes 63 = .ok (.isub, 1) := by decide +kernel
theorem dX12_notes_64 : decode cX12_notes 64 = .ok (.putfield 108, 3) := by decide +kernel
theorem dX12_notes_67 : decode cX12_notes 67 = .ok (.aload_n 0, 1) := by decide +kernel
theorem dX12_notes_68 : decode cX12_notes 68 = .ok (.iconst 0, 1) := by decide +kernel
theorem dX12_notes_69 : decode cX12_notes 69 = .ok (.sipush 770, 3) := by decide +kernel
theorem dX12_notes_72 : decode cX12_notes 72 = .ok (.sipush 770, 3) := by decide +kernel
theorem dX12_notes_75 : decode cX12_notes 75 = .ok (.aload_n 0, 1) := by decide +kernel
theorem dX12_notes_76 : decode cX12_notes 76 = .ok (.getfield 108, 3) := by decide +kernel
theorem dX12_notes_79 : decode cX12_notes 79 = .ok (.imul, 1) := by decide +kernel
theorem dX12_notes_80 : decode cX12_notes 80 = .ok (.iadd, 1) := by decide +kernel
theorem dX12_notes_81 : decode cX12_notes 81 = .ok (.invokevirtual 116, 3) := by decide +kernel
theorem dX12_notes_84 : decode cX12_notes 84 = .ok (.aload_n 0, 1) := by decide +kernel
theorem dX12_notes_85 : decode cX12_notes 85 = .ok (.dup, 1) := by decide +kernel
theorem dX12_notes_86 : decode cX12_notes 86 = .ok (.getfield 108, 3) := by decide +kernel
theorem dX12_notes_89 : decode cX12_notes 89 = .ok (.iconst 1, 1) := by decide +kernel
theorem dX12_notes_90 : decode cX12_notes 90 = .ok (.iadd, 1) := by decide +kernel
theorem dX12_notes_91 : decode cX12_notes 91 = .ok (.putfield 108, 3) := by decide +kernel
theorem dX12_notes_94 : decode cX12_notes 94 = .ok (.return_, 1) := by decide +kernel
theorem dX12_changes_0 : decode cX12_changes 0 = .ok (.aload_n 0, 1) := by decide +kernel
theorem dX12_changes_1 : decode cX12_changes 1 = .ok (.invokevirtual 120, 3) := by decide +kernel
theorem dX12_changes_4 : decode cX12_changes 4 = .ok (.aload_n 0, 1) := by decide +kernel
theorem dX12_changes_5 : decode cX12_changes 5 = .ok (.getfield 7, 3) := by decide +kernel
theorem dX12_changes_8 : decode cX12_changes 8 = .ok (.iload_n 1, 1) := by decide +kernel
theorem dX12_changes_9 : decode cX12_changes 9 = .ok (.iaload, 1) := by decide +kernel
theorem dX12_changes_10 : decode cX12_changes 10 = .ok (.istore_n 3, 1) := by decide +kernel
theorem dX12_changes_11 : decode cX12_changes 11 = .ok (.aload_n 0, 1) := by decide +kernel
theorem dX12_changes_12 : decode cX12_changes 12 = .ok (.getfield 7, 3) := by decide +kernel
theorem dX12_changes_15 : decode cX12_changes 15 = .ok (.iload_n 1, 1) := by decide +kernel
theorem dX12_changes_16 : decode cX12_changes 16 = .ok (.iload_n 2, 1) := by decide +kernel
theorem dX12_changes_17 : decode cX12_changes 17 = .ok (.iastore, 1) := by decide +kernel
theorem dX12_changes_18 : decode cX12_changes 18 = .ok (.iload_n 3, 1) := by decide +kernel
theorem dX12_changes_19 : decode cX12_changes 19 = .ok (.ireturn, 1) := by decide +kernel
theorem dX12_packets_0 : decode cX12_packets 0 = .ok (.iload_n 1, 1) := by decide +kernel
theorem dX12_packets_1 : decode cX12_packets 1 = .ok (.i2l, 1) := by decide +kernel
theorem dX12_packets_2 : decode cX12_packets 2 = .ok (.lconst 1, 1) := by decide +kernel
theorem dX12_packets_3 : decode cX12_packets 3 = .ok (.ldc2_w 123, 3) := by decide +kernel
theorem dX12_packets_6 : decode cX12_packets 6 = .ok (.invokestatic 31, 3) := by decide +kernel
theorem dX12_packets_9 : decode cX12_packets 9 = .ok (.ifCond .eq 12, 3) := by decide +kernel
theorem dX12_packets_12 : decode cX12_packets 12 = .ok (.aload_n 0, 1) := by decide +kernel
theorem dX12_packets_13 : decode cX12_packets 13 = .ok (.iconst 0, 1) := by decide +kernel
theorem dX12_packets_14 : decode cX12_packets 14 = .ok (.iload_n 1, 1) := by decide +kernel
theorem dX12_packets_15 : decode cX12_packets 15 = .ok (.invokevirtual 125, 3) := by decide +kernel
theorem dX12_packets_18 : decode cX12_packets 18 = .ok (.goto 5, 3) := by decide +kernel
theorem dX12_packets_21 : decode cX12_packets 21 = .ok (.bipush (-3), 2) := by decide +kernel
theorem dX12_packets_23 : decode cX12_packets 23 = .ok (.ireturn, 1) := by decide +kernel
theorem dX12_room_0 : decode cX12_room 0 = .ok (.iload_n 1, 1) := by decide +kernel
theorem dX12_room_1 : decode cX12_room 1 = .ok (.i2l, 1) := by decide +kernel
theorem dX12_room_2 : decode cX12_room 2 = .ok (.lconst 1, 1) := by decide +kernel
theorem dX12_room_3 : decode cX12_room 3 = .ok (.ldc2_w 128, 3) := by decide +kernel
theorem dX12_room_6 : decode cX12_room 6 = .ok (.invokestatic 31, 3) := by decide +kernel
theorem dX12_room_9 : decode cX12_room 9 = .ok (.ifCond .eq 12, 3) := by decide +kernel
theorem dX12_room_12 : decode cX12_room 12 = .ok (.aload_n 0, 1) := by decide +kernel
theorem dX12_room_13 : decode cX12_room 13 = .ok (.iconst 1, 1) := by decide +kernel
theorem dX12_room_14 : decode cX12_room 14 = .ok (.iload_n 1, 1) := by decide +kernel
theorem dX12_room_15 : decode cX12_room 15 = .ok (.invokevirtual 125, 3) := by decide +kernel
theorem dX12_room_18 : decode cX12_room 18 = .ok (.goto 5, 3) := by decide +kernel
theorem dX12_room_21 : decode cX12_room 21 = .ok (.bipush (-3), 2) := by decide +kernel
theorem dX12_room_23 : decode cX12_room 23 = .ok (.ireturn, 1) := by decide +kernel
theorem dX12_need_0 : decode cX12_need 0 = .ok (.aload_n 0, 1) := by decide +kernel
theorem dX12_need_1 : decode cX12_need 1 = .ok (.iload_n 1, 1) := by decide +kernel
theorem dX12_need_2 : decode cX12_need 2 = .ok (.invokevirtual 111, 3) := by decide +kernel
theorem dX12_need_5 : decode cX12_need 5 = .ok (.ifCond .ne 8, 3) := by decide +kernel
theorem dX12_need_8 : decode cX12_need 8 = .ok (.bipush (-2), 2) := by decide +kernel
theorem dX12_need_10 : decode cX12_need 10 = .ok (.goto 31, 3) := by decide +kernel
theorem dX12_need_13 : decode cX12_need 13 = .ok (.iload_n 2, 1) := by decide +kernel
theorem dX12_need_14 : decode cX12_need 14 = .ok (.i2l, 1) := by decide +kernel
theorem dX12_need_15 : decode cX12_need 15 = .ok (.lconst 1, 1) := by decide +kernel
theorem dX12_need_16 : decode cX12_need 16 = .ok (.ldc2_w 123, 3) := by decide +kernel
theorem dX12_need_19 : decode cX12_need 19 = .ok (.invokestatic 31, 3) := by decide +kernel
theorem dX12_need_22 : decode cX12_need 22 = .ok (.ifCond .eq 17, 3) := by decide +kernel
theorem dX12_need_25 : decode cX12_need 25 = .ok (.aload_n 0, 1) := by decide +kernel
theorem dX12_need_26 : decode cX12_need 26 = .ok (.iload_n 1, 1) := by decide +kernel
theorem dX12_need_27 : decode cX12_need 27 = .ok (.invokestatic 35, 3) := by decide +kernel
theorem dX12_need_30 : decode cX12_need 30 = .ok (.iconst 1, 1) := by decide +kernel
theorem dX12_need_31 : decode cX12_need 31 = .ok (.iadd, 1) := by decide +kernel
theorem dX12_need_32 : decode cX12_need 32 = .ok (.iload_n 2, 1) := by decide +kernel
theorem dX12_need_33 : decode cX12_need 33 = .ok (.invokevirtual 125, 3) := by decide +kernel
theorem dX12_need_36 : decode cX12_need 36 = .ok (.goto 5, 3) := by decide +kernel
theorem dX12_need_39 : decode cX12_need 39 = .ok (.bipush (-3), 2) := by decide +kernel
theorem dX12_need_41 : decode cX12_need 41 = .ok (.ireturn, 1) := by decide +kernel
theorem dX12_weigh_0 : decode cX12_weigh 0 = .ok (.aload_n 0, 1) := by decide +kernel
theorem dX12_weigh_1 : decode cX12_weigh 1 = .ok (.iload_n 1, 1) := by decide +kernel
theorem dX12_weigh_2 : decode cX12_weigh 2 = .ok (.invokevirtual 111, 3) := by decide +kernel
theorem dX12_weigh_5 : decode cX12_weigh 5 = .ok (.ifCond .ne 8, 3) := by decide +kernel
theorem dX12_weigh_8 : decode cX12_weigh 8 = .ok (.bipush (-2), 2) := by decide +kernel
theorem dX12_weigh_10 : decode cX12_weigh 10 = .ok (.goto 31, 3) := by decide +kernel
theorem dX12_weigh_13 : decode cX12_weigh 13 = .ok (.iload_n 2, 1) := by decide +kernel
theorem dX12_weigh_14 : decode cX12_weigh 14 = .ok (.i2l, 1) := by decide +kernel
theorem dX12_weigh_15 : decode cX12_weigh 15 = .ok (.lconst 1, 1) := by decide +kernel
theorem dX12_weigh_16 : decode cX12_weigh 16 = .ok (.ldc2_w 130, 3) := by decide +kernel
theorem dX12_weigh_19 : decode cX12_weigh 19 = .ok (.invokestatic 31, 3) := by decide +kernel
theorem dX12_weigh_22 : decode cX12_weigh 22 = .ok (.ifCond .eq 17, 3) := by decide +kernel
theorem dX12_weigh_25 : decode cX12_weigh 25 = .ok (.aload_n 0, 1) := by decide +kernel
theorem dX12_weigh_26 : decode cX12_weigh 26 = .ok (.iload_n 1, 1) := by decide +kernel
theorem dX12_weigh_27 : decode cX12_weigh 27 = .ok (.invokestatic 35, 3) := by decide +kernel
theorem dX12_weigh_30 : decode cX12_weigh 30 = .ok (.iconst 2, 1) := by decide +kernel
theorem dX12_weigh_31 : decode cX12_weigh 31 = .ok (.iadd, 1) := by decide +kernel
theorem dX12_weigh_32 : decode cX12_weigh 32 = .ok (.iload_n 2, 1) := by decide +kernel
theorem dX12_weigh_33 : decode cX12_weigh 33 = .ok (.invokevirtual 125, 3) := by decide +kernel
theorem dX12_weigh_36 : decode cX12_weigh 36 = .ok (.goto 5, 3) := by decide +kernel
theorem dX12_weigh_39 : decode cX12_weigh 39 = .ok (.bipush (-3), 2) := by decide +kernel
theorem dX12_weigh_41 : decode cX12_weigh 41 = .ok (.ireturn, 1) := by decide +kernel
theorem dX12_drop_0 : decode cX12_drop 0 = .ok (.aload_n 0, 1) := by decide +kernel
theorem dX12_drop_1 : decode cX12_drop 1 = .ok (.iload_n 1, 1) := by decide +kernel
theorem dX12_drop_2 : decode cX12_drop 2 = .ok (.invokevirtual 111, 3) := by decide +kernel
theorem dX12_drop_5 : decode cX12_drop 5 = .ok (.ifCond .ne 6, 3) := by decide +kernel
theorem dX12_drop_8 : decode cX12_drop 8 = .ok (.bipush (-2), 2) := by decide +kernel
theorem dX12_drop_10 : decode cX12_drop 10 = .ok (.ireturn, 1) := by decide +kernel
theorem dX12_drop_11 : decode cX12_drop 11 = .ok (.aload_n 0, 1) := by decide +kernel
theorem dX12_drop_12 : decode cX12_drop 12 = .ok (.invokevirtual 120, 3) := by decide +kernel
theorem dX12_drop_15 : decode cX12_drop 15 = .ok (.aload_n 0, 1) := by decide +kernel
theorem dX12_drop_16 : decode cX12_drop 16 = .ok (.getfield 7, 3) := by decide +kernel
theorem dX12_drop_19 : decode cX12_drop 19 = .ok (.iconst 2, 1) := by decide +kernel
theorem dX12_drop_20 : decode cX12_drop 20 = .ok (.dup2, 1) := by decide +kernel
theorem dX12_drop_21 : decode cX12_drop 21 = .ok (.iaload, 1) := by decide +kernel
theorem dX12_drop_22 : decode cX12_drop 22 = .ok (.iconst 1, 1) := by decide +kernel
theorem dX12_drop_23 : decode cX12_drop 23 = .ok (.isub, 1) := by decide +kernel
theorem dX12_drop_24 : decode cX12_drop 24 = .ok (.iastore, 1) := by decide +kernel
theorem dX12_drop_25 : decode cX12_drop 25 = .ok (.iload_n 1, 1) := by decide +kernel
theorem dX12_drop_26 : decode cX12_drop 26 = .ok (.invokestatic 35, 3) := by decide +kernel
theorem dX12_drop_29 : decode cX12_drop 29 = .ok (.istore_n 2, 1) := by decide +kernel
theorem dX12_drop_30 : decode cX12_drop 30 = .ok (.iload_n 2, 1) := by decide +kernel
theorem dX12_drop_31 : decode cX12_drop 31 = .ok (.aload_n 0, 1) := by decide +kernel
theorem dX12_drop_32 : decode cX12_drop 32 = .ok (.getfield 7, 3) := by decide +kernel
theorem dX12_drop_35 : decode cX12_drop 35 = .ok (.iconst 2, 1) := by decide +kernel
theorem dX12_drop_36 : decode cX12_drop 36 = .ok (.iaload, 1) := by decide +kernel
theorem dX12_drop_37 : decode cX12_drop 37 = .ok (.invokestatic 35, 3) := by decide +kernel
theorem dX12_drop_40 : decode cX12_drop 40 = .ok (.if_icmp .ge 24, 3) := by decide +kernel
theorem dX12_drop_43 : decode cX12_drop 43 = .ok (.aload_n 0, 1) := by decide +kernel
theorem dX12_drop_44 : decode cX12_drop 44 = .ok (.getfield 7, 3) := by decide +kernel
theorem dX12_drop_47 : decode cX12_drop 47 = .ok (.iload_n 2, 1) := by decide +kernel
theorem dX12_drop_48 : decode cX12_drop 48 = .ok (.aload_n 0, 1) := by decide +kernel
theorem dX12_drop_49 : decode cX12_drop 49 = .ok (.getfield 7, 3) := by decide +kernel
theorem dX12_drop_52 : decode cX12_drop 52 = .ok (.iload_n 2, 1) := by decide +kernel
theorem dX12_drop_53 : decode cX12_drop 53 = .ok (.bipush 15, 2) := by decide +kernel
theorem dX12_drop_55 : decode cX12_drop 55 = .ok (.iadd, 1) := by decide +kernel
theorem dX12_drop_56 : decode cX12_drop 56 = .ok (.iaload, 1) := by decide +kernel
theorem dX12_drop_57 : decode cX12_drop 57 = .ok (.iastore, 1) := by decide +kernel
theorem dX12_drop_58 : decode cX12_drop 58 = .ok (.iinc 2 1, 3) := by decide +kernel
theorem dX12_drop_61 : decode cX12_drop 61 = .ok (.goto (-31), 3) := by decide +kernel
theorem dX12_drop_64 : decode cX12_drop 64 = .ok (.aload_n 0, 1) := by decide +kernel
theorem dX12_drop_65 : decode cX12_drop 65 = .ok (.getfield 7, 3) := by decide +kernel
theorem dX12_drop_68 : decode cX12_drop 68 = .ok (.iconst 2, 1) := by decide +kernel
theorem dX12_drop_69 : decode cX12_drop 69 = .ok (.iaload, 1) := by decide +kernel
theorem dX12_drop_70 : decode cX12_drop 70 = .ok (.ireturn, 1) := by decide +kernel
theorem dX12_value_0 : decode cX12_value 0 = .ok (.iload_n 0, 1) := by decide +kernel
theorem dX12_value_1 : decode cX12_value 1 = .ok (.iload_n 1, 1) := by decide +kernel
theorem dX12_value_2 : decode cX12_value 2 = .ok (.imul, 1) := by decide +kernel
theorem dX12_value_3 : decode cX12_value 3 = .ok (.iload_n 2, 1) := by decide +kernel
theorem dX12_value_4 : decode cX12_value 4 = .ok (.iadd, 1) := by decide +kernel
theorem dX12_value_5 : decode cX12_value 5 = .ok (.bipush 29, 2) := by decide +kernel
theorem dX12_value_7 : decode cX12_value 7 = .ok (.irem, 1) := by decide +kernel
theorem dX12_value_8 : decode cX12_value 8 = .ok (.ireturn, 1) := by decide +kernel
theorem dX12_packs_0 : decode cX12_packs 0 = .ok (.iload_n 1, 1) := by decide +kernel
theorem dX12_packs_1 : decode cX12_packs 1 = .ok (.invokestatic 35, 3) := by decide +kernel
theorem dX12_packs_4 : decode cX12_packs 4 = .ok (.istore_n 3, 1) := by decide +kernel
theorem dX12_packs_5 : decode cX12_packs 5 = .ok (.aload_n 0, 1) := by decide +kernel
theorem dX12_packs_6 : decode cX12_packs 6 = .ok (.getfield 7, 3) := by decide +kernel
theorem dX12_packs_9 : decode cX12_packs 9 = .ok (.iload_n 3, 1) := by decide +kernel
theorem dX12_packs_10 : decode cX12_packs 10 = .ok (.iconst 1, 1) := by decide +kernel
theorem dX12_packs_11 : decode cX12_packs 11 = .ok (.iadd, 1) := by decide +kernel
theorem dX12_packs_12 : decode cX12_packs 12 = .ok (.iaload, 1) := by decide +kernel
theorem dX12_packs_13 : decode cX12_packs 13 = .ok (.istore 4, 2) := by decide +kernel
theorem dX12_packs_15 : decode cX12_packs 15 = .ok (.iconst 0, 1) := by decide +kernel
theorem dX12_packs_16 : decode cX12_packs 16 = .ok (.istore 5, 2) := by decide +kernel
theorem dX12_packs_18 : decode cX12_packs 18 = .ok (.iload 5, 2) := by decide +kernel
theorem dX12_packs_20 : decode cX12_packs 20 = .ok (.aload_n 0, 1) := by decide +kernel
theorem dX12_packs_21 : decode cX12_packs 21 = .ok (.iload_n 1, 1) := by decide +kernel
theorem dX12_packs_22 : decode cX12_packs 22 = .ok (.invokevirtual 43, 3) := by decide +kernel
theorem dX12_packs_25 : decode cX12_packs 25 = .ok (.if_icmp .ge 140, 3) := by decide +kernel
theorem dX12_packs_28 : decode cX12_packs 28 = .ok (.iconst 0, 1) := by decide +kernel
theorem dX12_packs_29 : decode cX12_packs 29 = .ok (.istore 6, 2) := by decide +kernel
theorem dX12_packs_31 : decode cX12_packs 31 = .ok (.iload 6, 2) := by decide +kernel
theorem dX12_packs_33 : decode cX12_packs 33 = .ok (.aload_n 0, 1) := by decide +kernel
theorem dX12_packs_34 : decode cX12_packs 34 = .ok (.getfield 7, 3) := by decide +kernel
theorem dX12_packs_37 : decode cX12_packs 37 = .ok (.iconst 0, 1) := by decide +kernel
theorem dX12_packs_38 : decode cX12_packs 38 = .ok (.iaload, 1) := by decide +kernel
theorem dX12_packs_39 : decode cX12_packs 39 = .ok (.if_icmp .ge 120, 3) := by decide +kernel
theorem dX12_packs_42 : decode cX12_packs 42 = .ok (.iconst 0, 1) := by decide +kernel
theorem dX12_packs_43 : decode cX12_packs 43 = .ok (.istore 7, 2) := by decide +kernel
theorem dX12_packs_45 : decode cX12_packs 45 = .ok (.iload 4, 2) := by decide +kernel
theorem dX12_packs_47 : decode cX12_packs 47 = .ok (.iconst 1, 1) := by decide +kernel
theorem dX12_packs_48 : decode cX12_packs 48 = .ok (.isub, 1) := by decide +kernel
theorem dX12_packs_49 : decode cX12_packs 49 = .ok (.istore 8, 2) := by decide +kernel
theorem dX12_packs_51 : decode cX12_packs 51 = .ok (.iload 8, 2) := by decide +kernel
theorem dX12_packs_53 : decode cX12_packs 53 = .ok (.ifCond .lt 58, 3) := by decide +kernel
theorem dX12_packs_56 : decode cX12_packs 56 = .ok (.iload 4, 2) := by decide +kernel
theorem dX12_packs_58 : decode cX12_packs 58 = .ok (.iload 5, 2) := by decide +kernel
theorem dX12_packs_60 : decode cX12_packs 60 = .ok (.imul, 1) := by decide +kernel
theorem dX12_packs_61 : decode cX12_packs 61 = .ok (.iload 8, 2) := by decide +kernel
theorem dX12_packs_63 : decode cX12_packs 63 = .ok (.iadd, 1) := by decide +kernel
theorem dX12_packs_64 : decode cX12_packs 64 = .ok (.istore 9, 2) := by decide +kernel
theorem dX12_packs_66 : decode cX12_packs 66 = .ok (.iload 7, 2) := by decide +kernel
theorem dX12_packs_68 : decode cX12_packs 68 = .ok (.iload 6, 2) := by decide +kernel
theorem dX12_packs_70 : decode cX12_packs 70 = .ok (.iconst 1, 1) := by decide +kernel
theorem dX12_packs_71 : decode cX12_packs 71 = .ok (.iadd, 1) := by decide +kernel
theorem dX12_packs_72 : decode cX12_packs 72 = .ok (.iload 9, 2) := by decide +kernel
theorem dX12_packs_74 : decode cX12_packs 74 = .ok (.aload_n 0, 1) := by decide +kernel
theorem dX12_packs_75 : decode cX12_packs 75 = .ok (.getfield 7, 3) := by decide +kernel
theorem dX12_packs_78 : decode cX12_packs 78 = .ok (.iload_n 3, 1) := by decide +kernel
theorem dX12_packs_79 : decode cX12_packs 79 = .ok (.iconst 0, 1) := by decide +kernel
theorem dX12_packs_80 : decode cX12_packs 80 = .ok (.iadd, 1) := by decide +kernel
theorem dX12_packs_81 : decode cX12_packs 81 = .ok (.iaload, 1) := by decide +kernel
theorem dX12_packs_82 : decode cX12_packs 82 = .ok (.if_icmp .ge 17, 3) := by decide +kernel
theorem dX12_packs_85 : decode cX12_packs 85 = .ok (.aload_n 0, 1) := by decide +kernel
theorem dX12_packs_86 : decode cX12_packs 86 = .ok (.getfield 7, 3) := by decide +kernel
theorem dX12_packs_89 : decode cX12_packs 89 = .ok (.iload_n 3, 1) := by decide +kernel
theorem dX12_packs_90 : decode cX12_packs 90 = .ok (.iconst 3, 1) := by decide +kernel
theorem dX12_packs_91 : decode cX12_packs 91 = .ok (.iadd, 1) := by decide +kernel
theorem dX12_packs_92 : decode cX12_packs 92 = .ok (.iload 9, 2) := by decide +kernel
theorem dX12_packs_94 : decode cX12_packs 94 = .ok (.iadd, 1) := by decide +kernel
theorem dX12_packs_95 : decode cX12_packs 95 = .ok (.iaload, 1) := by decide +kernel
theorem dX12_packs_96 : decode cX12_packs 96 = .ok (.goto 4, 3) := by decide +kernel
theorem dX12_packs_99 : decode cX12_packs 99 = .ok (.iconst 0, 1) := by decide +kernel
theorem dX12_packs_100 : decode cX12_packs 100 = .ok (.invokestatic 132, 3) := by decide +kernel
theorem dX12_packs_103 : decode cX12_packs 103 = .ok (.istore 7, 2) := by decide +kernel
theorem dX12_packs_105 : decode cX12_packs 105 = .ok (.iinc 8 (-1), 3) := by decide +kernel
theorem dX12_packs_108 : decode cX12_packs 108 = .ok (.goto (-57), 3) := by decide +kernel
theorem dX12_packs_111 : decode cX12_packs 111 = .ok (.aload_n 0, 1) := by decide +kernel
theorem dX12_packs_112 : decode cX12_packs 112 = .ok (.getfield 7, 3) := by decide +kernel
theorem dX12_packs_115 : decode cX12_packs 115 = .ok (.sipush 130, 3) := by decide +kernel
theorem dX12_packs_118 : decode cX12_packs 118 = .ok (.bipush 40, 2) := by decide +kernel
theorem dX12_packs_120 : decode cX12_packs 120 = .ok (.iload 6, 2) := by decide +kernel
theorem dX12_packs_122 : decode cX12_packs 122 = .ok (.imul, 1) := by decide +kernel
theorem dX12_packs_123 : decode cX12_packs 123 = .ok (.iadd, 1) := by decide +kernel
theorem dX12_packs_124 : decode cX12_packs 124 = .ok (.iload_n 2, 1) := by decide +kernel
theorem dX12_packs_125 : decode cX12_packs 125 = .ok (.iadd, 1) := by decide +kernel
theorem dX12_packs_126 : decode cX12_packs 126 = .ok (.iload 5, 2) := by decide +kernel
theorem dX12_packs_128 : decode cX12_packs 128 = .ok (.iadd, 1) := by decide +kernel
theorem dX12_packs_129 : decode cX12_packs 129 = .ok (.iload 7, 2) := by decide +kernel
theorem dX12_packs_131 : decode cX12_packs 131 = .ok (.iastore, 1) := by decide +kernel
theorem dX12_packs_132 : decode cX12_packs 132 = .ok (.aload_n 0, 1) := by decide +kernel
theorem dX12_packs_133 : decode cX12_packs 133 = .ok (.getfield 7, 3) := by decide +kernel
theorem dX12_packs_136 : decode cX12_packs 136 = .ok (.sipush 450, 3) := by decide +kernel
theorem dX12_packs_139 : decode cX12_packs 139 = .ok (.bipush 40, 2) := by decide +kernel
theorem dX12_packs_141 : decode cX12_packs 141 = .ok (.iload 6, 2) := by decide +kernel
theorem dX12_packs_143 : decode cX12_packs 143 = .ok (.imul, 1) := by decide +kernel
theorem dX12_packs_144 : decode cX12_packs 144 = .ok (.iadd, 1) := by decide +kernel
theorem dX12_packs_145 : decode cX12_packs 145 = .ok (.iload_n 2, 1) := by decide +kernel
theorem dX12_packs_146 : decode cX12_packs 146 = .ok (.iadd, 1) := by decide +kernel
theorem dX12_packs_147 : decode cX12_packs 147 = .ok (.iload 5, 2) := by decide +kernel
theorem dX12_packs_149 : decode cX12_packs 149 = .ok (.iadd, 1) := by decide +kernel
theorem dX12_packs_150 : decode cX12_packs 150 = .ok (.iload 7, 2) := by decide +kernel
theorem dX12_packs_152 : decode cX12_packs 152 = .ok (.iastore, 1) := by decide +kernel
theorem dX12_packs_153 : decode cX12_packs 153 = .ok (.iinc 6 1, 3) := by decide +kernel
theorem dX12_packs_156 : decode cX12_packs 156 = .ok (.goto (-125), 3) := by decide +kernel
theorem dX12_packs_159 : decode cX12_packs 159 = .ok (.iinc 5 1, 3) := by decide +kernel
theorem dX12_packs_162 : decode cX12_packs 162 = .ok (.goto (-144), 3) := by decide +kernel
theorem dX12_packs_165 : decode cX12_packs 165 = .ok (.return_, 1) := by decide +kernel
theorem dX12_pack_0 : decode cX12_pack 0 = .ok (.aload_n 0, 1) := by decide +kernel
theorem dX12_pack_1 : decode cX12_pack 1 = .ok (.getfield 7, 3) := by decide +kernel
theorem dX12_pack_4 : decode cX12_pack 4 = .ok (.iconst 2, 1) := by decide +kernel
theorem dX12_pack_5 : decode cX12_pack 5 = .ok (.iaload, 1) := by decide +kernel
theorem dX12_pack_6 : decode cX12_pack 6 = .ok (.ifCond .eq 10, 3) := by decide +kernel
theorem dX12_pack_9 : decode cX12_pack 9 = .ok (.aload_n 0, 1) := by decide +kernel
theorem dX12_pack_10 : decode cX12_pack 10 = .ok (.invokevirtual 136, 3) := by decide +kernel
theorem dX12_pack_13 : decode cX12_pack 13 = .ok (.ifCond .ne 6, 3) := by decide +kernel
theorem dX12_pack_16 : decode cX12_pack 16 = .ok (.bipush (-4), 2) := by decide +kernel
theorem dX12_pack_18 : decode cX12_pack 18 = .ok (.ireturn, 1) := by decide +kernel
theorem dX12_pack_19 : decode cX12_pack 19 = .ok (.aload_n 0, 1) := by decide +kernel
theorem dX12_pack_20 : decode cX12_pack 20 = .ok (.invokevirtual 120, 3) := by decide +kernel
theorem dX12_pack_23 : decode cX12_pack 23 = .ok (.aload_n 0, 1) := by decide +kernel
theorem dX12_pack_24 : decode cX12_pack 24 = .ok (.getfield 7, 3) := by decide +kernel
theorem dX12_pack_27 : decode cX12_pack 27 = .ok (.bipush 93, 2) := by decide +kernel
theorem dX12_pack_29 : decode cX12_pack 29 = .ok (.aload_n 0, 1) := by decide +kernel
theorem dX12_pack_30 : decode cX12_pack 30 = .ok (.getfield 7, 3) := by decide +kernel
theorem dX12_pack_33 : decode cX12_pack 33 = .ok (.iconst 2, 1) := by decide +kernel
theorem dX12_pack_34 : decode cX12_pack 34 = .ok (.iaload, 1) := by decide +kernel
theorem dX12_pack_35 : decode cX12_pack 35 = .ok (.iastore, 1) := by decide +kernel
theorem dX12_pack_36 : decode cX12_pack 36 = .ok (.aload_n 0, 1) := by decide +kernel
theorem dX12_pack_37 : decode cX12_pack 37 = .ok (.getfield 7, 3) := by decide +kernel
theorem dX12_pack_40 : decode cX12_pack 40 = .ok (.bipush 94, 2) := by decide +kernel
theorem dX12_pack_42 : decode cX12_pack 42 = .ok (.aload_n 0, 1) := by decide +kernel
theorem dX12_pack_43 : decode cX12_pack 43 = .ok (.getfield 7, 3) := by decide +kernel
theorem dX12_pack_46 : decode cX12_pack 46 = .ok (.iconst 0, 1) := by decide +kernel
theorem dX12_pack_47 : decode cX12_pack 47 = .ok (.iaload, 1) := by decide +kernel
theorem dX12_pack_48 : decode cX12_pack 48 = .ok (.iastore, 1) := by decide +kernel
theorem dX12_pack_49 : decode cX12_pack 49 = .ok (.iconst 0, 1) := by decide +kernel
theorem dX12_pack_50 : decode cX12_pack 50 = .ok (.istore_n 1, 1) := by decide +kernel
theorem dX12_pack_51 : decode cX12_pack 51 = .ok (.iconst 1, 1) := by decide +kernel
theorem dX12_pack_52 : decode cX12_pack 52 = .ok (.istore_n 2, 1) := by decide +kernel
theorem dX12_pack_53 : decode cX12_pack 53 = .ok (.iload_n 2, 1) := by decide +kernel
theorem dX12_pack_54 : decode cX12_pack 54 = .ok (.bipush 9, 2) := by decide +kernel
theorem dX12_pack_56 : decode cX12_pack 56 = .ok (.if_icmp .ge 106, 3) := by decide +kernel
theorem dX12_pack_59 : decode cX12_pack 59 = .ok (.iconst 0, 1) := by decide +kernel
theorem dX12_pack_60 : decode cX12_pack 60 = .ok (.istore_n 3, 1) := by decide +kernel
theorem dX12_pack_61 : decode cX12_pack 61 = .ok (.iload_n 3, 1) := by decide +kernel
theorem dX12_pack_62 : decode cX12_pack 62 = .ok (.aload_n 0, 1) := by decide +kernel
theorem dX12_pack_63 : decode cX12_pack 63 = .ok (.getfield 7, 3) := by decide +kernel
theorem dX12_pack_66 : decode cX12_pack 66 = .ok (.iconst 2, 1) := by decide +kernel
theorem dX12_pack_67 : decode cX12_pack 67 = .ok (.iaload, 1) := by decide +kernel
theorem dX12_pack_68 : decode cX12_pack 68 = .ok (.if_icmp .ge 88, 3) := by decide +kernel
theorem dX12_pack_71 : decode cX12_pack 71 = .ok (.aload_n 0, 1) := by decide +kernel
theorem dX12_pack_72 : decode cX12_pack 72 = .ok (.getfield 7, 3) := by decide +kernel
theorem dX12_pack_75 : decode cX12_pack 75 = .ok (.iload_n 3, 1) := by decide +kernel
theorem dX12_pack_76 : decode cX12_pack 76 = .ok (.invokestatic 35, 3) := by decide +kernel
theorem dX12_pack_79 : decode cX12_pack 79 = .ok (.iconst 1, 1) := by decide +kernel
theorem dX12_pack_80 : decode cX12_pack 80 = .ok (.iadd, 1) := by decide +kernel
theorem dX12_pack_81 : decode cX12_pack 81 = .ok (.iaload, 1) := by decide +kernel
theorem dX12_pack_82 : decode cX12_pack 82 = .ok (.iload_n 2, 1) := by decide +kernel
theorem dX12_pack_83 : decode cX12_pack 83 = .ok (.if_icmp .ne 67, 3) := by decide +kernel
theorem dX12_pack_86 : decode cX12_pack 86 = .ok (.aload_n 0, 1) := by decide +kernel
theorem dX12_pack_87 : decode cX12_pack 87 = .ok (.getfield 7, 3) := by decide +kernel
theorem dX12_pack_90 : decode cX12_pack 90 = .ok (.bipush 96, 2) := by decide +kernel
theorem dX12_pack_92 : decode cX12_pack 92 = .ok (.iconst 3, 1) := by decide +kernel
theorem dX12_pack_93 : decode cX12_pack 93 = .ok (.iload_n 3, 1) := by decide +kernel
theorem dX12_pack_94 : decode cX12_pack 94 = .ok (.imul, 1) := by decide +kernel
theorem dX12_pack_95 : decode cX12_pack 95 = .ok (.iadd, 1) := by decide +kernel
theorem dX12_pack_96 : decode cX12_pack 96 = .ok (.aload_n 0, 1) := by decide +kernel
theorem dX12_pack_97 : decode cX12_pack 97 = .ok (.getfield 7, 3) := by decide +kernel
theorem dX12_pack_100 : decode cX12_pack 100 = .ok (.iload_n 3, 1) := by decide +kernel
theorem dX12_pack_101 : decode cX12_pack 101 = .ok (.invokestatic 35, 3) := by decide +kernel
theorem dX12_pack_104 : decode cX12_pack 104 = .ok (.iconst 0, 1) := by decide +kernel
theorem dX12_pack_105 : decode cX12_pack 105 = .ok (.iadd, 1) := by decide +kernel
theorem dX12_pack_106 : decode cX12_pack 106 = .ok (.iaload, 1) := by decide +kernel
theorem dX12_pack_107 : decode cX12_pack 107 = .ok (.iastore, 1) := by decide +kernel
theorem dX12_pack_108 : decode cX12_pack 108 = .ok (.aload_n 0, 1) := by decide +kernel
theorem dX12_pack_109 : decode cX12_pack 109 = .ok (.getfield 7, 3) := by decide +kernel
theorem dX12_pack_112 : decode cX12_pack 112 = .ok (.bipush 96, 2) := by decide +kernel
theorem dX12_pack_114 : decode cX12_pack 114 = .ok (.iconst 3, 1) := by decide +kernel
theorem dX12_pack_115 : decode cX12_pack 115 = .ok (.iload_n 3, 1) := by decide +kernel
theorem dX12_pack_116 : decode cX12_pack 116 = .ok (.imul, 1) := by decide +kernel
theorem dX12_pack_117 : decode cX12_pack 117 = .ok (.iadd, 1) := by decide +kernel
theorem dX12_pack_118 : decode cX12_pack 118 = .ok (.iconst 1, 1) := by decide +kernel
theorem dX12_pack_119 : decode cX12_pack 119 = .ok (.iadd, 1) := by decide +kernel
theorem dX12_pack_120 : decode cX12_pack 120 = .ok (.iload_n 2, 1) := by decide +kernel
theorem dX12_pack_121 : decode cX12_pack 121 = .ok (.iastore, 1) := by decide +kernel
theorem dX12_pack_122 : decode cX12_pack 122 = .ok (.aload_n 0, 1) := by decide +kernel
theorem dX12_pack_123 : decode cX12_pack 123 = .ok (.getfield 7, 3) := by decide +kernel
theorem dX12_pack_126 : decode cX12_pack 126 = .ok (.bipush 96, 2) := by decide +kernel
theorem dX12_pack_128 : decode cX12_pack 128 = .ok (.iconst 3, 1) := by decide +kernel
theorem dX12_pack_129 : decode cX12_pack 129 = .ok (.iload_n 3, 1) := by decide +kernel
theorem dX12_pack_130 : decode cX12_pack 130 = .ok (.imul, 1) := by decide +kernel
theorem dX12_pack_131 : decode cX12_pack 131 = .ok (.iadd, 1) := by decide +kernel
theorem dX12_pack_132 : decode cX12_pack 132 = .ok (.iconst 2, 1) := by decide +kernel
theorem dX12_pack_133 : decode cX12_pack 133 = .ok (.iadd, 1) := by decide +kernel
theorem dX12_pack_134 : decode cX12_pack 134 = .ok (.iload_n 1, 1) := by decide +kernel
theorem dX12_pack_135 : decode cX12_pack 135 = .ok (.iastore, 1) := by decide +kernel
theorem dX12_pack_136 : decode cX12_pack 136 = .ok (.aload_n 0, 1) := by decide +kernel
theorem dX12_pack_137 : decode cX12_pack 137 = .ok (.iload_n 3, 1) := by decide +kernel
theorem dX12_pack_138 : decode cX12_pack 138 = .ok (.iload_n 1, 1) := by decide +kernel
theorem dX12_pack_139 : decode cX12_pack 139 = .ok (.invokevirtual 139, 3) := by decide +kernel
theorem dX12_pack_142 : decode cX12_pack 142 = .ok (.iload_n 1, 1) := by decide +kernel
theorem dX12_pack_143 : decode cX12_pack 143 = .ok (.aload_n 0, 1) := by decide +kernel
theorem dX12_pack_144 : decode cX12_pack 144 = .ok (.iload_n 3, 1) := by decide +kernel
theorem dX12_pack_145 : decode cX12_pack 145 = .ok (.invokevirtual 43, 3) := by decide +kernel
theorem dX12_pack_148 : decode cX12_pack 148 = .ok (.iadd, 1) := by decide +kernel
theorem dX12_pack_149 : decode cX12_pack 149 = .ok (.istore_n 1, 1) := by decide +kernel
theorem dX12_pack_150 : decode cX12_pack 150 = .ok (.iinc 3 1, 3) := by decide +kernel
theorem dX12_pack_153 : decode cX12_pack 153 = .ok (.goto (-92), 3) := by decide +kernel
theorem dX12_pack_156 : decode cX12_pack 156 = .ok (.iinc 2 1, 3) := by decide +kernel
theorem dX12_pack_159 : decode cX12_pack 159 = .ok (.goto (-106), 3) := by decide +kernel
theorem dX12_pack_162 : decode cX12_pack 162 = .ok (.aload_n 0, 1) := by decide +kernel
theorem dX12_pack_163 : decode cX12_pack 163 = .ok (.getfield 7, 3) := by decide +kernel
theorem dX12_pack_166 : decode cX12_pack 166 = .ok (.bipush 95, 2) := by decide +kernel
theorem dX12_pack_168 : decode cX12_pack 168 = .ok (.iload_n 1, 1) := by decide +kernel
theorem dX12_pack_169 : decode cX12_pack 169 = .ok (.iastore, 1) := by decide +kernel
theorem dX12_pack_170 : decode cX12_pack 170 = .ok (.iconst 0, 1) := by decide +kernel
theorem dX12_pack_171 : decode cX12_pack 171 = .ok (.istore_n 2, 1) := by decide +kernel
theorem dX12_pack_172 : decode cX12_pack 172 = .ok (.iload_n 2, 1) := by decide +kernel
theorem dX12_pack_173 : decode cX12_pack 173 = .ok (.bipush 8, 2) := by decide +kernel
theorem dX12_pack_175 : decode cX12_pack 175 = .ok (.if_icmp .ge 29, 3) := by decide +kernel
theorem dX12_pack_178 : decode cX12_pack 178 = .ok (.aload_n 0, 1) := by decide +kernel
theorem dX12_pack_179 : decode cX12_pack 179 = .ok (.getfield 7, 3) := by decide +kernel
theorem dX12_pack_182 : decode cX12_pack 182 = .ok (.bipush 114, 2) := by decide +kernel
theorem dX12_pack_184 : decode cX12_pack 184 = .ok (.iload_n 2, 1) := by decide +kernel
theorem dX12_pack_185 : decode cX12_pack 185 = .ok (.iadd, 1) := by decide +kernel
theorem dX12_pack_186 : decode cX12_pack 186 = .ok (.iconst 0, 1) := by decide +kernel
theorem dX12_pack_187 : decode cX12_pack 187 = .ok (.iastore, 1) := by decide +kernel
theorem dX12_pack_188 : decode cX12_pack 188 = .ok (.aload_n 0, 1) := by decide +kernel
theorem dX12_pack_189 : decode cX12_pack 189 = .ok (.getfield 7, 3) := by decide +kernel
theorem dX12_pack_192 : decode cX12_pack 192 = .ok (.bipush 122, 2) := by decide +kernel
theorem dX12_pack_194 : decode cX12_pack 194 = .ok (.iload_n 2, 1) := by decide +kernel
theorem dX12_pack_195 : decode cX12_pack 195 = .ok (.iadd, 1) := by decide +kernel
theorem dX12_pack_196 : decode cX12_pack 196 = .ok (.iload_n 1, 1) := by decide +kernel
theorem dX12_pack_197 : decode cX12_pack 197 = .ok (.iastore, 1) := by decide +kernel
theorem dX12_pack_198 : decode cX12_pack 198 = .ok (.iinc 2 1, 3) := by decide +kernel
theorem dX12_pack_201 : decode cX12_pack 201 = .ok (.goto (-29), 3) := by decide +kernel
theorem dX12_pack_204 : decode cX12_pack 204 = .ok (.iload_n 1, 1) := by decide +kernel
theorem dX12_pack_205 : decode cX12_pack 205 = .ok (.ireturn, 1) := by decide +kernel
theorem dX12_isPacket_0 : decode cX12_isPacket 0 = .ok (.iload_n 1, 1) := by decide +kernel
theorem dX12_isPacket_1 : decode cX12_isPacket 1 = .ok (.i2l, 1) := by decide +kernel
theorem dX12_isPacket_2 : decode cX12_isPacket 2 = .ok (.lconst 0, 1) := by decide +kernel
theorem dX12_isPacket_3 : decode cX12_isPacket 3 = .ok (.aload_n 0, 1) := by decide +kernel
theorem dX12_isPacket_4 : decode cX12_isPacket 4 = .ok (.getfield 7, 3) := by decide +kernel
theorem dX12_isPacket_7 : decode cX12_isPacket 7 = .ok (.bipush 94, 2) := by decide +kernel
theorem dX12_isPacket_9 : decode cX12_isPacket 9 = .ok (.iaload, 1) := by decide +kernel
theorem dX12_isPacket_10 : decode cX12_isPacket 10 = .ok (.iconst 1, 1) := by decide +kernel
theorem dX12_isPacket_11 : decode cX12_isPacket 11 = .ok (.isub, 1) := by decide +kernel
theorem dX12_isPacket_12 : decode cX12_isPacket 12 = .ok (.i2l, 1) := by decide +kernel
theorem dX12_isPacket_13 : decode cX12_isPacket 13 = .ok (.invokestatic 31, 3) := by decide +kernel
theorem dX12_isPacket_16 : decode cX12_isPacket 16 = .ok (.ireturn, 1) := by decide +kernel
theorem dX12_lose_0 : decode cX12_lose 0 = .ok (.aload_n 0, 1) := by decide +kernel
theorem dX12_lose_1 : decode cX12_lose 1 = .ok (.iload_n 1, 1) := by decide +kernel
theorem dX12_lose_2 : decode cX12_lose 2 = .ok (.invokevirtual 142, 3) := by decide +kernel
theorem dX12_lose_5 : decode cX12_lose 5 = .ok (.ifCond .ne 6, 3) := by decide +kernel
theorem dX12_lose_8 : decode cX12_lose 8 = .ok (.bipush (-2), 2) := by decide +kernel
theorem dX12_lose_10 : decode cX12_lose 10 = .ok (.ireturn, 1) := by decide +kernel
theorem dX12_lose_11 : decode cX12_lose 11 = .ok (.aload_n 0, 1) := by decide +kernel
theorem dX12_lose_12 : decode cX12_lose 12 = .ok (.getfield 7, 3) := by decide +kernel
theorem dX12_lose_15 : decode cX12_lose 15 = .ok (.bipush 114, 2) := by decide +kernel
theorem dX12_lose_17 : decode cX12_lose 17 = .ok (.iload_n 1, 1) := by decide +kernel
theorem dX12_lose_18 : decode cX12_lose 18 = .ok (.iadd, 1) := by decide +kernel
theorem dX12_lose_19 : decode cX12_lose 19 = .ok (.iaload, 1) := by decide +kernel
theorem dX12_lose_20 : decode cX12_lose 20 = .ok (.iconst 1, 1) := by decide +kernel
theorem dX12_lose_21 : decode cX12_lose 21 = .ok (.if_icmp .ne 6, 3) := by decide +kernel
theorem dX12_lose_24 : decode cX12_lose 24 = .ok (.bipush (-4), 2) := by decide +kernel
theorem dX12_lose_26 : decode cX12_lose 26 = .ok (.ireturn, 1) := by decide +kernel
theorem dX12_lose_27 : decode cX12_lose 27 = .ok (.aload_n 0, 1) := by decide +kernel
theorem dX12_lose_28 : decode cX12_lose 28 = .ok (.bipush 114, 2) := by decide +kernel
theorem dX12_lose_30 : decode cX12_lose 30 = .ok (.iload_n 1, 1) := by decide +kernel
theorem dX12_lose_31 : decode cX12_lose 31 = .ok (.iadd, 1) := by decide +kernel
theorem dX12_lose_32 : decode cX12_lose 32 = .ok (.iconst 1, 1) := by decide +kernel
theorem dX12_lose_33 : decode cX12_lose 33 = .ok (.invokevirtual 125, 3) := by decide +kernel
theorem dX12_lose_36 : decode cX12_lose 36 = .ok (.pop, 1) := by decide +kernel
theorem dX12_lose_37 : decode cX12_lose 37 = .ok (.aload_n 0, 1) := by decide +kernel
theorem dX12_lose_38 : decode cX12_lose 38 = .ok (.getfield 7, 3) := by decide +kernel
theorem dX12_lose_41 : decode cX12_lose 41 = .ok (.bipush 122, 2) := by decide +kernel
theorem dX12_lose_43 : decode cX12_lose 43 = .ok (.iload_n 1, 1) := by decide +kernel
theorem dX12_lose_44 : decode cX12_lose 44 = .ok (.iadd, 1) := by decide +kernel
theorem dX12_lose_45 : decode cX12_lose 45 = .ok (.iaload, 1) := by decide +kernel
theorem dX12_lose_46 : decode cX12_lose 46 = .ok (.ireturn, 1) := by decide +kernel
theorem dX12_cut_0 : decode cX12_cut 0 = .ok (.aload_n 0, 1) := by decide +kernel
theorem dX12_cut_1 : decode cX12_cut 1 = .ok (.iload_n 1, 1) := by decide +kernel
theorem dX12_cut_2 : decode cX12_cut 2 = .ok (.invokevirtual 142, 3) := by decide +kernel
theorem dX12_cut_5 : decode cX12_cut 5 = .ok (.ifCond .ne 6, 3) := by decide +kernel
theorem dX12_cut_8 : decode cX12_cut 8 = .ok (.bipush (-2), 2) := by decide +kernel
theorem dX12_cut_10 : decode cX12_cut 10 = .ok (.ireturn, 1) := by decide +kernel
theorem dX12_cut_11 : decode cX12_cut 11 = .ok (.iload_n 2, 1) := by decide +kernel
theorem dX12_cut_12 : decode cX12_cut 12 = .ok (.i2l, 1) := by decide +kernel
theorem dX12_cut_13 : decode cX12_cut 13 = .ok (.lconst 0, 1) := by decide +kernel
theorem dX12_cut_14 : decode cX12_cut 14 = .ok (.aload_n 0, 1) := by decide +kernel
theorem dX12_cut_15 : decode cX12_cut 15 = .ok (.getfield 7, 3) := by decide +kernel
theorem dX12_cut_18 : decode cX12_cut 18 = .ok (.bipush 122, 2) := by decide +kernel
theorem dX12_cut_20 : decode cX12_cut 20 = .ok (.iload_n 1, 1) := by decide +kernel
theorem dX12_cut_21 : decode cX12_cut 21 = .ok (.iadd, 1) := by decide +kernel
theorem dX12_cut_22 : decode cX12_cut 22 = .ok (.iaload, 1) := by decide +kernel
theorem dX12_cut_23 : decode cX12_cut 23 = .ok (.i2l, 1) := by decide +kernel
theorem dX12_cut_24 : decode cX12_cut 24 = .ok (.invokestatic 31, 3) := by decide +kernel
theorem dX12_cut_27 : decode cX12_cut 27 = .ok (.ifCond .ne 6, 3) := by decide +kernel
theorem dX12_cut_30 : decode cX12_cut 30 = .ok (.bipush (-3), 2) := by decide +kernel
theorem dX12_cut_32 : decode cX12_cut 32 = .ok (.ireturn, 1) := by decide +kernel
theorem dX12_cut_33 : decode cX12_cut 33 = .ok (.aload_n 0, 1) := by decide +kernel
theorem dX12_cut_34 : decode cX12_cut 34 = .ok (.getfield 7, 3) := by decide +kernel
theorem dX12_cut_37 : decode cX12_cut 37 = .ok (.bipush 114, 2) := by decide +kernel
theorem dX12_cut_39 : decode cX12_cut 39 = .ok (.iload_n 1, 1) := by decide +kernel
theorem dX12_cut_40 : decode cX12_cut 40 = .ok (.iadd, 1) := by decide +kernel
theorem dX12_cut_41 : decode cX12_cut 41 = .ok (.iaload, 1) := by decide +kernel
theorem dX12_cut_42 : decode cX12_cut 42 = .ok (.iconst 1, 1) := by decide +kernel
theorem dX12_cut_43 : decode cX12_cut 43 = .ok (.if_icmp .ne 6, 3) := by decide +kernel
theorem dX12_cut_46 : decode cX12_cut 46 = .ok (.bipush (-4), 2) := by decide +kernel
theorem dX12_cut_48 : decode cX12_cut 48 = .ok (.ireturn, 1) := by decide +kernel
theorem dX12_cut_49 : decode cX12_cut 49 = .ok (.aload_n 0, 1) := by decide +kernel
theorem dX12_cut_50 : decode cX12_cut 50 = .ok (.bipush 122, 2) := by decide +kernel
theorem dX12_cut_52 : decode cX12_cut 52 = .ok (.iload_n 1, 1) := by decide +kernel
theorem dX12_cut_53 : decode cX12_cut 53 = .ok (.iadd, 1) := by decide +kernel
theorem dX12_cut_54 : decode cX12_cut 54 = .ok (.iload_n 2, 1) := by decide +kernel
theorem dX12_cut_55 : decode cX12_cut 55 = .ok (.invokevirtual 125, 3) := by decide +kernel
theorem dX12_cut_58 : decode cX12_cut 58 = .ok (.iload_n 2, 1) := by decide +kernel
theorem dX12_cut_59 : decode cX12_cut 59 = .ok (.isub, 1) := by decide +kernel
theorem dX12_cut_60 : decode cX12_cut 60 = .ok (.ireturn, 1) := by decide +kernel
theorem dX12_hasNumber_0 : decode cX12_hasNumber 0 = .ok (.aload_n 0, 1) := by decide +kernel
theorem dX12_hasNumber_1 : decode cX12_hasNumber 1 = .ok (.getfield 7, 3) := by decide +kernel
theorem dX12_hasNumber_4 : decode cX12_hasNumber 4 = .ok (.bipush 114, 2) := by decide +kernel
theorem dX12_hasNumber_6 : decode cX12_hasNumber 6 = .ok (.iload_n 1, 1) := by decide +kernel
theorem dX12_hasNumber_7 : decode cX12_hasNumber 7 = .ok (.iadd, 1) := by decide +kernel
theorem dX12_hasNumber_8 : decode cX12_hasNumber 8 = .ok (.iaload, 1) := by decide +kernel
theorem dX12_hasNumber_9 : decode cX12_hasNumber 9 = .ok (.ifCond .ne 28, 3) := by decide +kernel
theorem dX12_hasNumber_12 : decode cX12_hasNumber 12 = .ok (.iload_n 2, 1) := by decide +kernel
theorem dX12_hasNumber_13 : decode cX12_hasNumber 13 = .ok (.i2l, 1) := by decide +kernel
theorem dX12_hasNumber_14 : decode cX12_hasNumber 14 = .ok (.lconst 0, 1) := by decide +kernel
theorem dX12_hasNumber_15 : decode cX12_hasNumber 15 = .ok (.aload_n 0, 1) := by decide +kernel
theorem dX12_hasNumber_16 : decode cX12_hasNumber 16 = .ok (.getfield 7, 3) := by decide +kernel
theorem dX12_hasNumber_19 : decode cX12_hasNumber 19 = .ok (.bipush 122, 2) := by decide +kernel
theorem dX12_hasNumber_21 : decode cX12_hasNumber 21 = .ok (.iload_n 1, 1) := by decide +kernel
theorem dX12_hasNumber_22 : decode cX12_hasNumber 22 = .ok (.iadd, 1) := by decide +kernel
theorem dX12_hasNumber_23 : decode cX12_hasNumber 23 = .ok (.iaload, 1) := by decide +kernel
theorem dX12_hasNumber_24 : decode cX12_hasNumber 24 = .ok (.iconst 1, 1) := by decide +kernel
theorem dX12_hasNumber_25 : decode cX12_hasNumber 25 = .ok (.isub, 1) := by decide +kernel
theorem dX12_hasNumber_26 : decode cX12_hasNumber 26 = .ok (.i2l, 1) := by decide +kernel
theorem dX12_hasNumber_27 : decode cX12_hasNumber 27 = .ok (.invokestatic 31, 3) := by decide +kernel
theorem dX12_hasNumber_30 : decode cX12_hasNumber 30 = .ok (.ifCond .eq 7, 3) := by decide +kernel
theorem dX12_hasNumber_33 : decode cX12_hasNumber 33 = .ok (.iconst 1, 1) := by decide +kernel
theorem dX12_hasNumber_34 : decode cX12_hasNumber 34 = .ok (.goto 4, 3) := by decide +kernel
theorem dX12_hasNumber_37 : decode cX12_hasNumber 37 = .ok (.iconst 0, 1) := by decide +kernel
theorem dX12_hasNumber_38 : decode cX12_hasNumber 38 = .ok (.ireturn, 1) := by decide +kernel
theorem dX12_spoil_0 : decode cX12_spoil 0 = .ok (.aload_n 0, 1) := by decide +kernel
theorem dX12_spoil_1 : decode cX12_spoil 1 = .ok (.iload_n 1, 1) := by decide +kernel
theorem dX12_spoil_2 : decode cX12_spoil 2 = .ok (.invokevirtual 142, 3) := by decide +kernel
theorem dX12_spoil_5 : decode cX12_spoil 5 = .ok (.ifCond .eq 12, 3) := by decide +kernel
theorem dX12_spoil_8 : decode cX12_spoil 8 = .ok (.aload_n 0, 1) := by decide +kernel
theorem dX12_spoil_9 : decode cX12_spoil 9 = .ok (.iload_n 1, 1) := by decide +kernel
theorem dX12_spoil_10 : decode cX12_spoil 10 = .ok (.iload_n 2, 1) := by decide +kernel
theorem dX12_spoil_11 : decode cX12_spoil 11 = .ok (.invokevirtual 145, 3) := by decide +kernel
theorem dX12_spoil_14 : decode cX12_spoil 14 = .ok (.ifCond .ne 6, 3) := by decide +kernel
theorem dX12_spoil_17 : decode cX12_spoil 17 = .ok (.bipush (-2), 2) := by decide +kernel
theorem dX12_spoil_19 : decode cX12_spoil 19 = .ok (.ireturn, 1) := by decide +kernel
theorem dX12_spoil_20 : decode cX12_spoil 20 = .ok (.iload_n 3, 1) := by decide +kernel
theorem dX12_spoil_21 : decode cX12_spoil 21 = .ok (.i2l, 1) := by decide +kernel
theorem dX12_spoil_22 : decode cX12_spoil 22 = .ok (.lconst 0, 1) := by decide +kernel
theorem dX12_spoil_23 : decode cX12_spoil 23 = .ok (.ldc2_w 149, 3) := by decide +kernel
theorem dX12_spoil_26 : decode cX12_spoil 26 = .ok (.invokestatic 31, 3) := by decide +kernel
theorem dX12_spoil_29 : decode cX12_spoil 29 = .ok (.ifCond .eq 21, 3) := by decide +kernel
theorem dX12_spoil_32 : decode cX12_spoil 32 = .ok (.aload_n 0, 1) := by decide +kernel
theorem dX12_spoil_33 : decode cX12_spoil 33 = .ok (.sipush 450, 3) := by decide +kernel
theorem dX12_spoil_36 : decode cX12_spoil 36 = .ok (.bipush 40, 2) := by decide +kernel
theorem dX12_spoil_38 : decode cX12_spoil 38 = .ok (.iload_n 1, 1) := by decide +kernel
theorem dX12_spoil_39 : decode cX12_spoil 39 = .ok (.imul, 1) := by decide +kernel
theorem dX12_spoil_40 : decode cX12_spoil 40 = .ok (.iadd, 1) := by decide +kernel
theorem dX12_spoil_41 : decode cX12_spoil 41 = .ok (.iload_n 2, 1) := by decide +kernel
theorem dX12_spoil_42 : decode cX12_spoil 42 = .ok (.iadd, 1) := by decide +kernel
theorem dX12_spoil_43 : decode cX12_spoil 43 = .ok (.iload_n 3, 1) := by decide +kernel
theorem dX12_spoil_44 : decode cX12_spoil 44 = .ok (.invokevirtual 125, 3) := by decide +kernel
theorem dX12_spoil_47 : decode cX12_spoil 47 = .ok (.goto 5, 3) := by decide +kernel
theorem dX12_spoil_50 : decode cX12_spoil 50 = .ok (.bipush (-3), 2) := by decide +kernel
theorem dX12_spoil_52 : decode cX12_spoil 52 = .ok (.ireturn, 1) := by decide +kernel
theorem dX12_again_0 : decode cX12_again 0 = .ok (.aload_n 0, 1) := by decide +kernel
theorem dX12_again_1 : decode cX12_again 1 = .ok (.iload_n 1, 1) := by decide +kernel
theorem dX12_again_2 : decode cX12_again 2 = .ok (.invokevirtual 142, 3) := by decide +kernel
theorem dX12_again_5 : decode cX12_again 5 = .ok (.ifCond .ne 6, 3) := by decide +kernel
theorem dX12_again_8 : decode cX12_again 8 = .ok (.bipush (-2), 2) := by decide +kernel
theorem dX12_again_10 : decode cX12_again 10 = .ok (.ireturn, 1) := by decide +kernel
theorem dX12_again_11 : decode cX12_again 11 = .ok (.aload_n 0, 1) := by decide +kernel
theorem dX12_again_12 : decode cX12_again 12 = .ok (.invokevirtual 120, 3) := by decide +kernel
theorem dX12_again_15 : decode cX12_again 15 = .ok (.iconst 0, 1) := by decide +kernel
theorem dX12_again_16 : decode cX12_again 16 = .ok (.istore_n 2, 1) := by decide +kernel
theorem dX12_again_17 : decode cX12_again 17 = .ok (.iconst 0, 1) := by decide +kernel
theorem dX12_again_18 : decode cX12_again 18 = .ok (.istore_n 3, 1) := by decide +kernel
theorem dX12_again_19 : decode cX12_again 19 = .ok (.iload_n 3, 1) := by decide +kernel
theorem dX12_again_20 : decode cX12_again 20 = .ok (.aload_n 0, 1) := by decide +kernel
theorem dX12_again_21 : decode cX12_again 21 = .ok (.getfield 7, 3) := by decide +kernel
theorem dX12_again_24 : decode cX12_again 24 = .ok (.bipush 95, 2) := by decide +kernel
theorem dX12_again_26 : decode cX12_again 26 = .ok (.iaload, 1) := by decide +kernel
theorem dX12_again_27 : decode cX12_again 27 = .ok (.if_icmp .ge 81, 3) := by decide +kernel
theorem dX12_again_30 : decode cX12_again 30 = .ok (.bipush 40, 2) := by decide +kernel
theorem dX12_again_32 : decode cX12_again 32 = .ok (.iload_n 1, 1) := by decide +kernel
theorem dX12_again_33 : decode cX12_again 33 = .ok (.imul, 1) := by decide +kernel
theorem dX12_again_34 : decode cX12_again 34 = .ok (.iload_n 3, 1) := by decide +kernel
theorem dX12_again_35 : decode cX12_again 35 = .ok (.iadd, 1) := by decide +kernel
theorem dX12_again_36 : decode cX12_again 36 = .ok (.istore 4, 2) := by decide +kernel
theorem dX12_again_38 : decode cX12_again 38 = .ok (.iload_n 2, 1) := by decide +kernel
theorem dX12_again_39 : decode cX12_again 39 = .ok (.aload_n 0, 1) := by decide +kernel
theorem dX12_again_40 : decode cX12_again 40 = .ok (.iload_n 1, 1) := by decide +kernel
theorem dX12_again_41 : decode cX12_again 41 = .ok (.iload_n 3, 1) := by decide +kernel
theorem dX12_again_42 : decode cX12_again 42 = .ok (.invokevirtual 145, 3) := by decide +kernel
theorem dX12_again_45 : decode cX12_again 45 = .ok (.ifCond .eq 28, 3) := by decide +kernel
theorem dX12_again_48 : decode cX12_again 48 = .ok (.aload_n 0, 1) := by decide +kernel
theorem dX12_again_49 : decode cX12_again 49 = .ok (.getfield 7, 3) := by decide +kernel
theorem dX12_again_52 : decode cX12_again 52 = .ok (.sipush 450, 3) := by decide +kernel
theorem dX12_again_55 : decode cX12_again 55 = .ok (.iload 4, 2) := by decide +kernel
theorem dX12_again_57 : decode cX12_again 57 = .ok (.iadd, 1) := by decide +kernel
theorem dX12_again_58 : decode cX12_again 58 = .ok (.iaload, 1) := by decide +kernel
theorem dX12_again_59 : decode cX12_again 59 = .ok (.aload_n 0, 1) := by decide +kernel
theorem dX12_again_60 : decode cX12_again 60 = .ok (.getfield 7, 3) := by decide +kernel
theorem dX12_again_63 : decode cX12_again 63 = .ok (.sipush 130, 3) := by decide +kernel
theorem dX12_again_66 : decode cX12_again 66 = .ok (.iload 4, 2) := by decide +kernel
theorem dX12_again_68 : decode cX12_again 68 = .ok (.iadd, 1) := by decide +kernel
theorem dX12_again_69 : decode cX12_again 69 = .ok (.iaload, 1) := by decide +kernel
theorem dX12_again_70 : decode cX12_again 70 = .ok (.if_icmp .eq 7, 3) := by decide +kernel
theorem dX12_again_73 : decode cX12_again 73 = .ok (.iconst 1, 1) := by decide +kernel
theorem dX12_again_74 : decode cX12_again 74 = .ok (.goto 4, 3) := by decide +kernel
theorem dX12_again_77 : decode cX12_again 77 = .ok (.iconst 0, 1) := by decide +kernel
theorem dX12_again_78 : decode cX12_again 78 = .ok (.iadd, 1) := by decide +kernel
theorem dX12_again_79 : decode cX12_again 79 = .ok (.istore_n 2, 1) := by decide +kernel
theorem dX12_again_80 : decode cX12_again 80 = .ok (.aload_n 0, 1) := by decide +kernel
theorem dX12_again_81 : decode cX12_again 81 = .ok (.getfield 7, 3) := by decide +kernel
theorem dX12_again_84 : decode cX12_again 84 = .ok (.sipush 450, 3) := by decide +kernel
theorem dX12_again_87 : decode cX12_again 87 = .ok (.iload 4, 2) := by decide +kernel
theorem dX12_again_89 : decode cX12_again 89 = .ok (.iadd, 1) := by decide +kernel
theorem dX12_again_90 : decode cX12_again 90 = .ok (.aload_n 0, 1) := by decide +kernel
theorem dX12_again_91 : decode cX12_again 91 = .ok (.getfield 7, 3) := by decide +kernel
theorem dX12_again_94 : decode cX12_again 94 = .ok (.sipush 130, 3) := by decide +kernel
theorem dX12_again_97 : decode cX12_again 97 = .ok (.iload 4, 2) := by decide +kernel
theorem dX12_again_99 : decode cX12_again 99 = .ok (.iadd, 1) := by decide +kernel
theorem dX12_again_100 : decode cX12_again 100 = .ok (.iaload, 1) := by decide +kernel
theorem dX12_again_101 : decode cX12_again 101 = .ok (.iastore, 1) := by decide +kernel
theorem dX12_again_102 : decode cX12_again 102 = .ok (.iinc 3 1, 3) := by decide +kernel
theorem dX12_again_105 : decode cX12_again 105 = .ok (.goto (-86), 3) := by decide +kernel
theorem dX12_again_108 : decode cX12_again 108 = .ok (.aload_n 0, 1) := by decide +kernel
theorem dX12_again_109 : decode cX12_again 109 = .ok (.getfield 7, 3) := by decide +kernel
theorem dX12_again_112 : decode cX12_again 112 = .ok (.bipush 114, 2) := by decide +kernel
theorem dX12_again_114 : decode cX12_again 114 = .ok (.iload_n 1, 1) := by decide +kernel
theorem dX12_again_115 : decode cX12_again 115 = .ok (.iadd, 1) := by decide +kernel
theorem dX12_again_116 : decode cX12_again 116 = .ok (.iconst 0, 1) := by decide +kernel
theorem dX12_again_117 : decode cX12_again 117 = .ok (.iastore, 1) := by decide +kernel
theorem dX12_again_118 : decode cX12_again 118 = .ok (.aload_n 0, 1) := by decide +kernel
theorem dX12_again_119 : decode cX12_again 119 = .ok (.getfield 7, 3) := by decide +kernel
theorem dX12_again_122 : decode cX12_again 122 = .ok (.bipush 122, 2) := by decide +kernel
theorem dX12_again_124 : decode cX12_again 124 = .ok (.iload_n 1, 1) := by decide +kernel
theorem dX12_again_125 : decode cX12_again 125 = .ok (.iadd, 1) := by decide +kernel
theorem dX12_again_126 : decode cX12_again 126 = .ok (.aload_n 0, 1) := by decide +kernel
theorem dX12_again_127 : decode cX12_again 127 = .ok (.getfield 7, 3) := by decide +kernel
theorem dX12_again_130 : decode cX12_again 130 = .ok (.bipush 95, 2) := by decide +kernel
theorem dX12_again_132 : decode cX12_again 132 = .ok (.iaload, 1) := by decide +kernel
theorem dX12_again_133 : decode cX12_again 133 = .ok (.iastore, 1) := by decide +kernel
theorem dX12_again_134 : decode cX12_again 134 = .ok (.iload_n 2, 1) := by decide +kernel
theorem dX12_again_135 : decode cX12_again 135 = .ok (.ireturn, 1) := by decide +kernel
theorem dX12_undo_0 : decode cX12_undo 0 = .ok (.aload_n 0, 1) := by decide +kernel
theorem dX12_undo_1 : decode cX12_undo 1 = .ok (.getfield 108, 3) := by decide +kernel
theorem dX12_undo_4 : decode cX12_undo 4 = .ok (.ifCond .ne 6, 3) := by decide +kernel
theorem dX12_undo_7 : decode cX12_undo 7 = .ok (.bipush (-4), 2) := by decide +kernel
theorem dX12_undo_9 : decode cX12_undo 9 = .ok (.ireturn, 1) := by decide +kernel
theorem dX12_undo_10 : decode cX12_undo 10 = .ok (.aload_n 0, 1) := by decide +kernel
theorem dX12_undo_11 : decode cX12_undo 11 = .ok (.dup, 1) := by decide +kernel
theorem dX12_undo_12 : decode cX12_undo 12 = .ok (.getfield 108, 3) := by decide +kernel
theorem dX12_undo_15 : decode cX12_undo 15 = .ok (.iconst 1, 1) := by decide +kernel
theorem dX12_undo_16 : decode cX12_undo 16 = .ok (.isub, 1) := by decide +kernel
theorem dX12_undo_17 : decode cX12_undo 17 = .ok (.putfield 108, 3) := by decide +kernel
theorem dX12_undo_20 : decode cX12_undo 20 = .ok (.aload_n 0, 1) := by decide +kernel
theorem dX12_undo_21 : decode cX12_undo 21 = .ok (.sipush 770, 3) := by decide +kernel
theorem dX12_undo_24 : decode cX12_undo 24 = .ok (.sipush 770, 3) := by decide +kernel
theorem dX12_undo_27 : decode cX12_undo 27 = .ok (.aload_n 0, 1) := by decide +kernel
theorem dX12_undo_28 : decode cX12_undo 28 = .ok (.getfield 108, 3) := by decide +kernel
theorem dX12_undo_31 : decode cX12_undo 31 = .ok (.imul, 1) := by decide +kernel
theorem dX12_undo_32 : decode cX12_undo 32 = .ok (.iadd, 1) := by decide +kernel
theorem dX12_undo_33 : decode cX12_undo 33 = .ok (.iconst 0, 1) := by decide +kernel
theorem dX12_undo_34 : decode cX12_undo 34 = .ok (.invokevirtual 116, 3) := by decide +kernel
theorem dX12_undo_37 : decode cX12_undo 37 = .ok (.aload_n 0, 1) := by decide +kernel
theorem dX12_undo_38 : decode cX12_undo 38 = .ok (.getfield 108, 3) := by decide +kernel
theorem dX12_undo_41 : decode cX12_undo 41 = .ok (.ireturn, 1) := by decide +kernel
theorem dX12_number_0 : decode cX12_number 0 = .ok (.aload_n 0, 1) := by decide +kernel
theorem dX12_number_1 : decode cX12_number 1 = .ok (.iload_n 1, 1) := by decide +kernel
theorem dX12_number_2 : decode cX12_number 2 = .ok (.invokevirtual 142, 3) := by decide +kernel
theorem dX12_number_5 : decode cX12_number 5 = .ok (.ifCond .eq 22, 3) := by decide +kernel
theorem dX12_number_8 : decode cX12_number 8 = .ok (.iload_n 2, 1) := by decide +kernel
theorem dX12_number_9 : decode cX12_number 9 = .ok (.i2l, 1) := by decide +kernel
theorem dX12_number_10 : decode cX12_number 10 = .ok (.lconst 0, 1) := by decide +kernel
theorem dX12_number_11 : decode cX12_number 11 = .ok (.aload_n 0, 1) := by decide +kernel
theorem dX12_number_12 : decode cX12_number 12 = .ok (.getfield 7, 3) := by decide +kernel
theorem dX12_number_15 : decode cX12_number 15 = .ok (.bipush 95, 2) := by decide +kernel
theorem dX12_number_17 : decode cX12_number 17 = .ok (.iaload, 1) := by decide +kernel
theorem dX12_number_18 : decode cX12_number 18 = .ok (.iconst 1, 1) := by decide +kernel
theorem dX12_number_19 : decode cX12_number 19 = .ok (.isub, 1) := by decide +kernel
theorem dX12_number_20 : decode cX12_number 20 = .ok (.i2l, 1) := by decide +kernel
theorem dX12_number_21 : decode cX12_number 21 = .ok (.invokestatic 31, 3) := by decide +kernel
theorem dX12_number_24 : decode cX12_number 24 = .ok (.ifCond .ne 6, 3) := by decide +kernel
theorem dX12_number_27 : decode cX12_number 27 = .ok (.bipush (-2), 2) := by decide +kernel
theorem dX12_number_29 : decode cX12_number 29 = .ok (.ireturn, 1) := by decide +kernel
theorem dX12_number_30 : decode cX12_number 30 = .ok (.aload_n 0, 1) := by decide +kernel
theorem dX12_number_31 : decode cX12_number 31 = .ok (.iload_n 1, 1) := by decide +kernel
theorem dX12_number_32 : decode cX12_number 32 = .ok (.iload_n 2, 1) := by decide +kernel
theorem dX12_number_33 : decode cX12_number 33 = .ok (.invokevirtual 145, 3) := by decide +kernel
theorem dX12_number_36 : decode cX12_number 36 = .ok (.ifCond .eq 21, 3) := by decide +kernel
theorem dX12_number_39 : decode cX12_number 39 = .ok (.aload_n 0, 1) := by decide +kernel
theorem dX12_number_40 : decode cX12_number 40 = .ok (.getfield 7, 3) := by decide +kernel
theorem dX12_number_43 : decode cX12_number 43 = .ok (.sipush 450, 3) := by decide +kernel
theorem dX12_number_46 : decode cX12_number 46 = .ok (.bipush 40, 2) := by decide +kernel
theorem dX12_number_48 : decode cX12_number 48 = .ok (.iload_n 1, 1) := by decide +kernel
theorem dX12_number_49 : decode cX12_number 49 = .ok (.imul, 1) := by decide +kernel
theorem dX12_number_50 : decode cX12_number 50 = .ok (.iadd, 1) := by decide +kernel
theorem dX12_number_51 : decode cX12_number 51 = .ok (.iload_n 2, 1) := by decide +kernel
theorem dX12_number_52 : decode cX12_number 52 = .ok (.iadd, 1) := by decide +kernel
theorem dX12_number_53 : decode cX12_number 53 = .ok (.iaload, 1) := by decide +kernel
theorem dX12_number_54 : decode cX12_number 54 = .ok (.goto 4, 3) := by decide +kernel
theorem dX12_number_57 : decode cX12_number 57 = .ok (.iconst (-1), 1) := by decide +kernel
theorem dX12_number_58 : decode cX12_number 58 = .ok (.ireturn, 1) := by decide +kernel
theorem dX12_isPacked_0 : decode cX12_isPacked 0 = .ok (.iload_n 1, 1) := by decide +kernel
theorem dX12_isPacked_1 : decode cX12_isPacked 1 = .ok (.i2l, 1) := by decide +kernel
theorem dX12_isPacked_2 : decode cX12_isPacked 2 = .ok (.lconst 0, 1) := by decide +kernel
theorem dX12_isPacked_3 : decode cX12_isPacked 3 = .ok (.aload_n 0, 1) := by decide +kernel
theorem dX12_isPacked_4 : decode cX12_isPacked 4 = .ok (.getfield 7, 3) := by decide +kernel
theorem dX12_isPacked_7 : decode cX12_isPacked 7 = .ok (.bipush 93, 2) := by decide +kernel
theorem dX12_isPacked_9 : decode cX12_isPacked 9 = .ok (.iaload, 1) := by decide +kernel
theorem dX12_isPacked_10 : decode cX12_isPacked 10 = .ok (.iconst 1, 1) := by decide +kernel
theorem dX12_isPacked_11 : decode cX12_isPacked 11 = .ok (.isub, 1) := by decide +kernel
theorem dX12_isPacked_12 : decode cX12_isPacked 12 = .ok (.i2l, 1) := by decide +kernel
theorem dX12_isPacked_13 : decode cX12_isPacked 13 = .ok (.invokestatic 31, 3) := by decide +kernel
theorem dX12_isPacked_16 : decode cX12_isPacked 16 = .ok (.ireturn, 1) := by decide +kernel
theorem dX12_packedNeed_0 : decode cX12_packedNeed 0 = .ok (.aload_n 0, 1) := by decide +kernel
theorem dX12_packedNeed_1 : decode cX12_packedNeed 1 = .ok (.getfield 7, 3) := by decide +kernel
theorem dX12_packedNeed_4 : decode cX12_packedNeed 4 = .ok (.bipush 96, 2) := by decide +kernel
theorem dX12_packedNeed_6 : decode cX12_packedNeed 6 = .ok (.iconst 3, 1) := by decide +kernel
theorem dX12_packedNeed_7 : decode cX12_packedNeed 7 = .ok (.iload_n 1, 1) := by decide +kernel
theorem dX12_packedNeed_8 : decode cX12_packedNeed 8 = .ok (.imul, 1) := by decide +kernel
theorem dX12_packedNeed_9 : decode cX12_packedNeed 9 = .ok (.iadd, 1) := by decide +kernel
theorem dX12_packedNeed_10 : decode cX12_packedNeed 10 = .ok (.iconst 1, 1) := by decide +kernel
theorem dX12_packedNeed_11 : decode cX12_packedNeed 11 = .ok (.iadd, 1) := by decide +kernel
theorem dX12_packedNeed_12 : decode cX12_packedNeed 12 = .ok (.iaload, 1) := by decide +kernel
theorem dX12_packedNeed_13 : decode cX12_packedNeed 13 = .ok (.ireturn, 1) := by decide +kernel
theorem dX12_packedFirst_0 : decode cX12_packedFirst 0 = .ok (.aload_n 0, 1) := by decide +kernel
theorem dX12_packedFirst_1 : decode cX12_packedFirst 1 = .ok (.getfield 7, 3) := by decide +kernel
theorem dX12_packedFirst_4 : decode cX12_packedFirst 4 = .ok (.bipush 96, 2) := by decide +kernel
theorem dX12_packedFirst_6 : decode cX12_packedFirst 6 = .ok (.iconst 3, 1) := by decide +kernel
theorem dX12_packedFirst_7 : decode cX12_packedFirst 7 = .ok (.iload_n 1, 1) := by decide +kernel
theorem dX12_packedFirst_8 : decode cX12_packedFirst 8 = .ok (.imul, 1) := by decide +kernel
theorem dX12_packedFirst_9 : decode cX12_packedFirst 9 = .ok (.iadd, 1) := by decide +kernel
theorem dX12_packedFirst_10 : decode cX12_packedFirst 10 = .ok (.iconst 2, 1) := by decide +kernel
theorem dX12_packedFirst_11 : decode cX12_packedFirst 11 = .ok (.iadd, 1) := by decide +kernel
theorem dX12_packedFirst_12 : decode cX12_packedFirst 12 = .ok (.iaload, 1) := by decide +kernel
theorem dX12_packedFirst_13 : decode cX12_packedFirst 13 = .ok (.ireturn, 1) := by decide +kernel
theorem dX12_packedStripes_0 : decode cX12_packedStripes 0 = .ok (.aload_n 0, 1) := by decide +kernel
theorem dX12_packedStripes_1 : decode cX12_packedStripes 1 = .ok (.getfield 7, 3) := by decide +kernel
theorem dX12_packedStripes_4 : decode cX12_packedStripes 4 = .ok (.bipush 96, 2) := by decide +kernel
theorem dX12_packedStripes_6 : decode cX12_packedStripes 6 = .ok (.iconst 3, 1) := by decide +kernel
theorem dX12_packedStripes_7 : decode cX12_packedStripes 7 = .ok (.iload_n 1, 1) := by decide +kernel
theorem dX12_packedStripes_8 : decode cX12_packedStripes 8 = .ok (.imul, 1) := by decide +kernel
theorem dX12_packedStripes_9 : decode cX12_packedStripes 9 = .ok (.iadd, 1) := by decide +kernel
theorem dX12_packedStripes_10 : decode cX12_packedStripes 10 = .ok (.iaload, 1) := by decide +kernel
theorem dX12_packedStripes_11 : decode cX12_packedStripes 11 = .ok (.aload_n 0, 1) := by decide +kernel
theorem dX12_packedStripes_12 : decode cX12_packedStripes 12 = .ok (.iload_n 1, 1) := by decide +kernel
theorem dX12_packedStripes_13 : decode cX12_packedStripes 13 = .ok (.invokevirtual 151, 3) := by decide +kernel
theorem dX12_packedStripes_16 : decode cX12_packedStripes 16 = .ok (.invokestatic 39, 3) := by decide +kernel
theorem dX12_packedStripes_19 : decode cX12_packedStripes 19 = .ok (.ireturn, 1) := by decide +kernel
theorem dX12_holders_0 : decode cX12_holders 0 = .ok (.iconst 0, 1) := by decide +kernel
theorem dX12_holders_1 : decode cX12_holders 1 = .ok (.istore_n 2, 1) := by decide +kernel
theorem dX12_holders_2 : decode cX12_holders 2 = .ok (.iconst 0, 1) := by decide +kernel
theorem dX12_holders_3 : decode cX12_holders 3 = .ok (.istore_n 3, 1) := by decide +kernel
theorem dX12_holders_4 : decode cX12_holders 4 = .ok (.iload_n 3, 1) := by decide +kernel
theorem dX12_holders_5 : decode cX12_holders 5 = .ok (.aload_n 0, 1) := by decide +kernel
theorem dX12_holders_6 : decode cX12_holders 6 = .ok (.getfield 7, 3) := by decide +kernel
theorem dX12_holders_9 : decode cX12_holders 9 = .ok (.bipush 94, 2) := by decide +kernel
theorem dX12_holders_11 : decode cX12_holders 11 = .ok (.iaload, 1) := by decide +kernel
theorem dX12_holders_12 : decode cX12_holders 12 = .ok (.if_icmp .ge 28, 3) := by decide +kernel
theorem dX12_holders_15 : decode cX12_holders 15 = .ok (.iload_n 2, 1) := by decide +kernel
theorem dX12_holders_16 : decode cX12_holders 16 = .ok (.aload_n 0, 1) := by decide +kernel
theorem dX12_holders_17 : decode cX12_holders 17 = .ok (.iload_n 3, 1) := by decide +kernel
theorem dX12_holders_18 : decode cX12_holders 18 = .ok (.iload_n 1, 1) := by decide +kernel
theorem dX12_holders_19 : decode cX12_holders 19 = .ok (.invokevirtual 145, 3) := by decide +kernel
theorem dX12_holders_22 : decode cX12_holders 22 = .ok (.ifCond .eq 9, 3) := by decide +kernel
theorem dX12_holders_25 : decode cX12_holders 25 = .ok (.iconst 1, 1) := by decide +kernel
theorem dX12_holders_26 : decode cX12_holders 26 = .ok (.iload_n 3, 1) := by decide +kernel
theorem dX12_holders_27 : decode cX12_holders 27 = .ok (.ishl, 1) := by decide +kernel
theorem dX12_holders_28 : decode cX12_holders 28 = .ok (.goto 4, 3) := by decide +kernel
theorem dX12_holders_31 : decode cX12_holders 31 = .ok (.iconst 0, 1) := by decide +kernel
theorem dX12_holders_32 : decode cX12_holders 32 = .ok (.ior, 1) := by decide +kernel
theorem dX12_holders_33 : decode cX12_holders 33 = .ok (.istore_n 2, 1) := by decide +kernel
theorem dX12_holders_34 : decode cX12_holders 34 = .ok (.iinc 3 1, 3) := by decide +kernel
theorem dX12_holders_37 : decode cX12_holders 37 = .ok (.goto (-33), 3) := by decide +kernel
theorem dX12_holders_40 : decode cX12_holders 40 = .ok (.iload_n 2, 1) := by decide +kernel
theorem dX12_holders_41 : decode cX12_holders 41 = .ok (.ireturn, 1) := by decide +kernel
theorem dX12_ones_0 : decode cX12_ones 0 = .ok (.iconst 0, 1) := by decide +kernel
theorem dX12_ones_1 : decode cX12_ones 1 = .ok (.istore_n 1, 1) := by decide +kernel
theorem dX12_ones_2 : decode cX12_ones 2 = .ok (.iconst 0, 1) := by decide +kernel
theorem dX12_ones_3 : decode cX12_ones 3 = .ok (.istore_n 2, 1) := by decide +kernel
theorem dX12_ones_4 : decode cX12_ones 4 = .ok (.iload_n 2, 1) := by decide +kernel
theorem dX12_ones_5 : decode cX12_ones 5 = .ok (.bipush 8, 2) := by decide +kernel
theorem dX12_ones_7 : decode cX12_ones 7 = .ok (.if_icmp .ge 17, 3) := by decide +kernel
theorem dX12_ones_10 : decode cX12_ones 10 = .ok (.iload_n 1, 1) := by decide +kernel
theorem dX12_ones_11 : decode cX12_ones 11 = .ok (.iload_n 0, 1) := by decide +kernel
theorem dX12_ones_12 : decode cX12_ones 12 = .ok (.iload_n 2, 1) := by decide +kernel
theorem dX12_ones_13 : decode cX12_ones 13 = .ok (.ishr, 1) := by decide +kernel
theorem dX12_ones_14 : decode cX12_ones 14 = .ok (.iconst 1, 1) := by decide +kernel
theorem dX12_ones_15 : decode cX12_ones 15 = .ok (.iand, 1) := by decide +kernel
theorem dX12_ones_16 : decode cX12_ones 16 = .ok (.iadd, 1) := by decide +kernel
theorem dX12_ones_17 : decode cX12_ones 17 = .ok (.istore_n 1, 1) := by decide +kernel
theorem dX12_ones_18 : decode cX12_ones 18 = .ok (.iinc 2 1, 3) := by decide +kernel
theorem dX12_ones_21 : decode cX12_ones 21 = .ok (.goto (-17), 3) := by decide +kernel
theorem dX12_ones_24 : decode cX12_ones 24 = .ok (.iload_n 1, 1) := by decide +kernel
theorem dX12_ones_25 : decode cX12_ones 25 = .ok (.ireturn, 1) := by decide +kernel
theorem dX12_over_0 : decode cX12_over 0 = .ok (.iconst 1, 1) := by decide +kernel
theorem dX12_over_1 : decode cX12_over 1 = .ok (.istore_n 1, 1) := by decide +kernel
theorem dX12_over_2 : decode cX12_over 2 = .ok (.iload_n 0, 1) := by decide +kernel
theorem dX12_over_3 : decode cX12_over 3 = .ok (.iload_n 1, 1) := by decide +kernel
theorem dX12_over_4 : decode cX12_over 4 = .ok (.imul, 1) := by decide +kernel
theorem dX12_over_5 : decode cX12_over 5 = .ok (.bipush 29, 2) := by decide +kernel
theorem dX12_over_7 : decode cX12_over 7 = .ok (.irem, 1) := by decide +kernel
theorem dX12_over_8 : decode cX12_over 8 = .ok (.iconst 1, 1) := by decide +kernel
theorem dX12_over_9 : decode cX12_over 9 = .ok (.if_icmp .eq 9, 3) := by decide +kernel
theorem dX12_over_12 : decode cX12_over 12 = .ok (.iinc 1 1, 3) := by decide +kernel
theorem dX12_over_15 : decode cX12_over 15 = .ok (.goto (-13), 3) := by decide +kernel
theorem dX12_over_18 : decode cX12_over 18 = .ok (.iload_n 1, 1) := by decide +kernel
theorem dX12_over_19 : decode cX12_over 19 = .ok (.ireturn, 1) := by decide +kernel
theorem dX12_firsts_0 : decode cX12_firsts 0 = .ok (.iconst 0, 1) := by decide +kernel
theorem dX12_firsts_1 : decode cX12_firsts 1 = .ok (.istore_n 2, 1) := by decide +kernel
theorem dX12_firsts_2 : decode cX12_firsts 2 = .ok (.iload_n 0, 1) := by decide +kernel
theorem dX12_firsts_3 : decode cX12_firsts 3 = .ok (.istore_n 3, 1) := by decide +kernel
theorem dX12_firsts_4 : decode cX12_firsts 4 = .ok (.iconst 0, 1) := by decide +kernel
theorem dX12_firsts_5 : decode cX12_firsts 5 = .ok (.istore 4, 2) := by decide +kernel
theorem dX12_firsts_7 : decode cX12_firsts 7 = .ok (.iload 4, 2) := by decide +kernel
theorem dX12_firsts_9 : decode cX12_firsts 9 = .ok (.iload_n 1, 1) := by decide +kernel
theorem dX12_firsts_10 : decode cX12_firsts 10 = .ok (.if_icmp .ge 22, 3) := by decide +kernel
theorem dX12_firsts_13 : decode cX12_firsts 13 = .ok (.iload_n 2, 1) := by decide +kernel
theorem dX12_firsts_14 : decode cX12_firsts 14 = .ok (.iload_n 3, 1) := by decide +kernel
theorem dX12_firsts_15 : decode cX12_firsts 15 = .ok (.iload_n 3, 1) := by decide +kernel
theorem dX12_firsts_16 : decode cX12_firsts 16 = .ok (.ineg, 1) := by decide +kernel
theorem dX12_firsts_17 : decode cX12_firsts 17 = .ok (.iand, 1) := by decide +kernel
theorem dX12_firsts_18 : decode cX12_firsts 18 = .ok (.ior, 1) := by decide +kernel
theorem dX12_firsts_19 : decode cX12_firsts 19 = .ok (.istore_n 2, 1) := by decide +kernel
theorem dX12_firsts_20 : decode cX12_firsts 20 = .ok (.iload_n 3, 1) := by decide +kernel
theorem dX12_firsts_21 : decode cX12_firsts 21 = .ok (.iload_n 3, 1) := by decide +kernel
theorem dX12_firsts_22 : decode cX12_firsts 22 = .ok (.iconst 1, 1) := by decide +kernel
theorem dX12_firsts_23 : decode cX12_firsts 23 = .ok (.isub, 1) := by decide +kernel
theorem dX12_firsts_24 : decode cX12_firsts 24 = .ok (.iand, 1) := by decide +kernel
theorem dX12_firsts_25 : decode cX12_firsts 25 = .ok (.istore_n 3, 1) := by decide +kernel
theorem dX12_firsts_26 : decode cX12_firsts 26 = .ok (.iinc 4 1, 3) := by decide +kernel
theorem dX12_firsts_29 : decode cX12_firsts 29 = .ok (.goto (-22), 3) := by decide +kernel
theorem dX12_firsts_32 : decode cX12_firsts 32 = .ok (.iload_n 2, 1) := by decide +kernel
theorem dX12_firsts_33 : decode cX12_firsts 33 = .ok (.ireturn, 1) := by decide +kernel
theorem dX12_at__0 : decode cX12_at_ 0 = .ok (.iconst 0, 1) := by decide +kernel
theorem dX12_at__1 : decode cX12_at_ 1 = .ok (.istore 4, 2) := by decide +kernel
theorem dX12_at__3 : decode cX12_at_ 3 = .ok (.iload_n 2, 1) := by decide +kernel
theorem dX12_at__4 : decode cX12_at_ 4 = .ok (.iconst 1, 1) := by decide +kernel
theorem dX12_at__5 : decode cX12_at_ 5 = .ok (.isub, 1) := by decide +kernel
theorem dX12_at__6 : decode cX12_at_ 6 = .ok (.istore 5, 2) := by decide +kernel
theorem dX12_at__8 : decode cX12_at_ 8 = .ok (.iload 5, 2) := by decide +kernel
end
section
theorem dX12_at__10 : decode cX12_at_ 10 = .ok (.ifCond .lt 21, 3) := by decide +kernel
theorem dX12_at__13 : decode cX12_at_ 13 = .ok (.iload 4, 2) := by decide +kernel
theorem dX12_at__15 : decode cX12_at_ 15 = .ok (.iload_n 3, 1) := by decide +kernel
theorem dX12_at__16 : decode cX12_at_ 16 = .ok (.aload_n 1, 1) := by decide +kernel
theorem dX12_at__17 : decode cX12_at_ 17 = .ok (.iload 5, 2) := by decide +kernel
theorem dX12_at__19 : decode cX12_at_ 19 = .ok (.iaload, 1) := by decide +kernel
theorem dX12_at__20 : decode cX12_at_ 20 = .ok (.invokestatic 132, 3) := by decide +kernel
theorem dX12_at__23 : decode cX12_at_ 23 = .ok (.istore 4, 2) := by decide +kernel
theorem dX12_at__25 : decode cX12_at_ 25 = .ok (.iinc 5 (-1), 3) := by decide +kernel
theorem dX12_at__28 : decode cX12_at_ 28 = .ok (.goto (-20), 3) := by decide +kernel
theorem dX12_at__31 : decode cX12_at_ 31 = .ok (.iload 4, 2) := by decide +kernel
theorem dX12_at__33 : decode cX12_at_ 33 = .ok (.ireturn, 1) := by decide +kernel
theorem dX12_lays_0 : decode cX12_lays 0 = .ok (.iconst 0, 1) := by decide +kernel
theorem dX12_lays_1 : decode cX12_lays 1 = .ok (.istore_n 3, 1) := by decide +kernel
theorem dX12_lays_2 : decode cX12_lays 2 = .ok (.iload_n 3, 1) := by decide +kernel
theorem dX12_lays_3 : decode cX12_lays 3 = .ok (.bipush 9, 2) := by decide +kernel
theorem dX12_lays_5 : decode cX12_lays 5 = .ok (.if_icmp .ge 34, 3) := by decide +kernel
theorem dX12_lays_8 : decode cX12_lays 8 = .ok (.aload_n 0, 1) := by decide +kernel
theorem dX12_lays_9 : decode cX12_lays 9 = .ok (.getfield 25, 3) := by decide +kernel
theorem dX12_lays_12 : decode cX12_lays 12 = .ok (.iload_n 3, 1) := by decide +kernel
theorem dX12_lays_13 : decode cX12_lays 13 = .ok (.iload_n 3, 1) := by decide +kernel
theorem dX12_lays_14 : decode cX12_lays 14 = .ok (.ifCond .ne 7, 3) := by decide +kernel
theorem dX12_lays_17 : decode cX12_lays 17 = .ok (.iconst 1, 1) := by decide +kernel
theorem dX12_lays_18 : decode cX12_lays 18 = .ok (.goto 4, 3) := by decide +kernel
theorem dX12_lays_21 : decode cX12_lays 21 = .ok (.iconst 0, 1) := by decide +kernel
theorem dX12_lays_22 : decode cX12_lays 22 = .ok (.iastore, 1) := by decide +kernel
theorem dX12_lays_23 : decode cX12_lays 23 = .ok (.aload_n 0, 1) := by decide +kernel
theorem dX12_lays_24 : decode cX12_lays 24 = .ok (.getfield 22, 3) := by decide +kernel
theorem dX12_lays_27 : decode cX12_lays 27 = .ok (.iload_n 3, 1) := by decide +kernel
theorem dX12_lays_28 : decode cX12_lays 28 = .ok (.bipush 8, 2) := by decide +kernel
theorem dX12_lays_30 : decode cX12_lays 30 = .ok (.irem, 1) := by decide +kernel
theorem dX12_lays_31 : decode cX12_lays 31 = .ok (.iconst 0, 1) := by decide +kernel
theorem dX12_lays_32 : decode cX12_lays 32 = .ok (.iastore, 1) := by decide +kernel
theorem dX12_lays_33 : decode cX12_lays 33 = .ok (.iinc 3 1, 3) := by decide +kernel
theorem dX12_lays_36 : decode cX12_lays 36 = .ok (.goto (-34), 3) := by decide +kernel
theorem dX12_lays_39 : decode cX12_lays 39 = .ok (.iconst 0, 1) := by decide +kernel
theorem dX12_lays_40 : decode cX12_lays 40 = .ok (.istore_n 3, 1) := by decide +kernel
theorem dX12_lays_41 : decode cX12_lays 41 = .ok (.iload_n 3, 1) := by decide +kernel
theorem dX12_lays_42 : decode cX12_lays 42 = .ok (.bipush 8, 2) := by decide +kernel
theorem dX12_lays_44 : decode cX12_lays 44 = .ok (.if_icmp .ge 183, 3) := by decide +kernel
theorem dX12_lays_47 : decode cX12_lays 47 = .ok (.iload_n 2, 1) := by decide +kernel
theorem dX12_lays_48 : decode cX12_lays 48 = .ok (.iload_n 3, 1) := by decide +kernel
theorem dX12_lays_49 : decode cX12_lays 49 = .ok (.ishr, 1) := by decide +kernel
theorem dX12_lays_50 : decode cX12_lays 50 = .ok (.iconst 1, 1) := by decide +kernel
theorem dX12_lays_51 : decode cX12_lays 51 = .ok (.iand, 1) := by decide +kernel
theorem dX12_lays_52 : decode cX12_lays 52 = .ok (.iconst 1, 1) := by decide +kernel
theorem dX12_lays_53 : decode cX12_lays 53 = .ok (.if_icmp .ne 168, 3) := by decide +kernel
theorem dX12_lays_56 : decode cX12_lays 56 = .ok (.iload_n 3, 1) := by decide +kernel
theorem dX12_lays_57 : decode cX12_lays 57 = .ok (.iconst 1, 1) := by decide +kernel
theorem dX12_lays_58 : decode cX12_lays 58 = .ok (.iadd, 1) := by decide +kernel
theorem dX12_lays_59 : decode cX12_lays 59 = .ok (.istore 4, 2) := by decide +kernel
theorem dX12_lays_61 : decode cX12_lays 61 = .ok (.aload_n 0, 1) := by decide +kernel
theorem dX12_lays_62 : decode cX12_lays 62 = .ok (.getfield 7, 3) := by decide +kernel
theorem dX12_lays_65 : decode cX12_lays 65 = .ok (.sipush 450, 3) := by decide +kernel
theorem dX12_lays_68 : decode cX12_lays 68 = .ok (.bipush 40, 2) := by decide +kernel
theorem dX12_lays_70 : decode cX12_lays 70 = .ok (.iload_n 3, 1) := by decide +kernel
theorem dX12_lays_71 : decode cX12_lays 71 = .ok (.imul, 1) := by decide +kernel
theorem dX12_lays_72 : decode cX12_lays 72 = .ok (.iadd, 1) := by decide +kernel
theorem dX12_lays_73 : decode cX12_lays 73 = .ok (.iload_n 1, 1) := by decide +kernel
theorem dX12_lays_74 : decode cX12_lays 74 = .ok (.iadd, 1) := by decide +kernel
theorem dX12_lays_75 : decode cX12_lays 75 = .ok (.iaload, 1) := by decide +kernel
theorem dX12_lays_76 : decode cX12_lays 76 = .ok (.bipush 29, 2) := by decide +kernel
theorem dX12_lays_78 : decode cX12_lays 78 = .ok (.iadd, 1) := by decide +kernel
theorem dX12_lays_79 : decode cX12_lays 79 = .ok (.aload_n 0, 1) := by decide +kernel
theorem dX12_lays_80 : decode cX12_lays 80 = .ok (.aload_n 0, 1) := by decide +kernel
theorem dX12_lays_81 : decode cX12_lays 81 = .ok (.getfield 22, 3) := by decide +kernel
theorem dX12_lays_84 : decode cX12_lays 84 = .ok (.bipush 8, 2) := by decide +kernel
theorem dX12_lays_86 : decode cX12_lays 86 = .ok (.iload 4, 2) := by decide +kernel
theorem dX12_lays_88 : decode cX12_lays 88 = .ok (.invokevirtual 154, 3) := by decide +kernel
theorem dX12_lays_91 : decode cX12_lays 91 = .ok (.isub, 1) := by decide +kernel
theorem dX12_lays_92 : decode cX12_lays 92 = .ok (.bipush 29, 2) := by decide +kernel
theorem dX12_lays_94 : decode cX12_lays 94 = .ok (.irem, 1) := by decide +kernel
theorem dX12_lays_95 : decode cX12_lays 95 = .ok (.istore 5, 2) := by decide +kernel
theorem dX12_lays_97 : decode cX12_lays 97 = .ok (.iload 5, 2) := by decide +kernel
theorem dX12_lays_99 : decode cX12_lays 99 = .ok (.aload_n 0, 1) := by decide +kernel
theorem dX12_lays_100 : decode cX12_lays 100 = .ok (.aload_n 0, 1) := by decide +kernel
theorem dX12_lays_101 : decode cX12_lays 101 = .ok (.getfield 25, 3) := by decide +kernel
theorem dX12_lays_104 : decode cX12_lays 104 = .ok (.bipush 9, 2) := by decide +kernel
theorem dX12_lays_106 : decode cX12_lays 106 = .ok (.iload 4, 2) := by decide +kernel
theorem dX12_lays_108 : decode cX12_lays 108 = .ok (.invokevirtual 154, 3) := by decide +kernel
theorem dX12_lays_111 : decode cX12_lays 111 = .ok (.invokestatic 157, 3) := by decide +kernel
theorem dX12_lays_114 : decode cX12_lays 114 = .ok (.imul, 1) := by decide +kernel
theorem dX12_lays_115 : decode cX12_lays 115 = .ok (.bipush 29, 2) := by decide +kernel
theorem dX12_lays_117 : decode cX12_lays 117 = .ok (.irem, 1) := by decide +kernel
theorem dX12_lays_118 : decode cX12_lays 118 = .ok (.istore 6, 2) := by decide +kernel
theorem dX12_lays_120 : decode cX12_lays 120 = .ok (.iconst 0, 1) := by decide +kernel
theorem dX12_lays_121 : decode cX12_lays 121 = .ok (.istore 7, 2) := by decide +kernel
theorem dX12_lays_123 : decode cX12_lays 123 = .ok (.iload 7, 2) := by decide +kernel
theorem dX12_lays_125 : decode cX12_lays 125 = .ok (.bipush 8, 2) := by decide +kernel
theorem dX12_lays_127 : decode cX12_lays 127 = .ok (.if_icmp .ge 37, 3) := by decide +kernel
theorem dX12_lays_130 : decode cX12_lays 130 = .ok (.aload_n 0, 1) := by decide +kernel
theorem dX12_lays_131 : decode cX12_lays 131 = .ok (.getfield 22, 3) := by decide +kernel
theorem dX12_lays_134 : decode cX12_lays 134 = .ok (.iload 7, 2) := by decide +kernel
theorem dX12_lays_136 : decode cX12_lays 136 = .ok (.aload_n 0, 1) := by decide +kernel
theorem dX12_lays_137 : decode cX12_lays 137 = .ok (.getfield 22, 3) := by decide +kernel
theorem dX12_lays_140 : decode cX12_lays 140 = .ok (.iload 7, 2) := by decide +kernel
theorem dX12_lays_142 : decode cX12_lays 142 = .ok (.iaload, 1) := by decide +kernel
theorem dX12_lays_143 : decode cX12_lays 143 = .ok (.iload 6, 2) := by decide +kernel
theorem dX12_lays_145 : decode cX12_lays 145 = .ok (.aload_n 0, 1) := by decide +kernel
theorem dX12_lays_146 : decode cX12_lays 146 = .ok (.getfield 25, 3) := by decide +kernel
theorem dX12_lays_149 : decode cX12_lays 149 = .ok (.iload 7, 2) := by decide +kernel
theorem dX12_lays_151 : decode cX12_lays 151 = .ok (.iaload, 1) := by decide +kernel
theorem dX12_lays_152 : decode cX12_lays 152 = .ok (.imul, 1) := by decide +kernel
theorem dX12_lays_153 : decode cX12_lays 153 = .ok (.iadd, 1) := by decide +kernel
theorem dX12_lays_154 : decode cX12_lays 154 = .ok (.bipush 29, 2) := by decide +kernel
theorem dX12_lays_156 : decode cX12_lays 156 = .ok (.irem, 1) := by decide +kernel
theorem dX12_lays_157 : decode cX12_lays 157 = .ok (.iastore, 1) := by decide +kernel
theorem dX12_lays_158 : decode cX12_lays 158 = .ok (.iinc 7 1, 3) := by decide +kernel
theorem dX12_lays_161 : decode cX12_lays 161 = .ok (.goto (-38), 3) := by decide +kernel
theorem dX12_lays_164 : decode cX12_lays 164 = .ok (.bipush 8, 2) := by decide +kernel
theorem dX12_lays_166 : decode cX12_lays 166 = .ok (.istore 7, 2) := by decide +kernel
theorem dX12_lays_168 : decode cX12_lays 168 = .ok (.iload 7, 2) := by decide +kernel
theorem dX12_lays_170 : decode cX12_lays 170 = .ok (.ifCond .lt 51, 3) := by decide +kernel
theorem dX12_lays_173 : decode cX12_lays 173 = .ok (.aload_n 0, 1) := by decide +kernel
theorem dX12_lays_174 : decode cX12_lays 174 = .ok (.getfield 25, 3) := by decide +kernel
theorem dX12_lays_177 : decode cX12_lays 177 = .ok (.iload 7, 2) := by decide +kernel
theorem dX12_lays_179 : decode cX12_lays 179 = .ok (.iload 7, 2) := by decide +kernel
theorem dX12_lays_181 : decode cX12_lays 181 = .ok (.ifCond .le 15, 3) := by decide +kernel
theorem dX12_lays_184 : decode cX12_lays 184 = .ok (.aload_n 0, 1) := by decide +kernel
theorem dX12_lays_185 : decode cX12_lays 185 = .ok (.getfield 25, 3) := by decide +kernel
theorem dX12_lays_188 : decode cX12_lays 188 = .ok (.iload 7, 2) := by decide +kernel
theorem dX12_lays_190 : decode cX12_lays 190 = .ok (.iconst 1, 1) := by decide +kernel
theorem dX12_lays_191 : decode cX12_lays 191 = .ok (.isub, 1) := by decide +kernel
theorem dX12_lays_192 : decode cX12_lays 192 = .ok (.iaload, 1) := by decide +kernel
theorem dX12_lays_193 : decode cX12_lays 193 = .ok (.goto 4, 3) := by decide +kernel
theorem dX12_lays_196 : decode cX12_lays 196 = .ok (.iconst 0, 1) := by decide +kernel
theorem dX12_lays_197 : decode cX12_lays 197 = .ok (.bipush 29, 2) := by decide +kernel
theorem dX12_lays_199 : decode cX12_lays 199 = .ok (.iload 4, 2) := by decide +kernel
theorem dX12_lays_201 : decode cX12_lays 201 = .ok (.isub, 1) := by decide +kernel
theorem dX12_lays_202 : decode cX12_lays 202 = .ok (.aload_n 0, 1) := by decide +kernel
theorem dX12_lays_203 : decode cX12_lays 203 = .ok (.getfield 25, 3) := by decide +kernel
theorem dX12_lays_206 : decode cX12_lays 206 = .ok (.iload 7, 2) := by decide +kernel
theorem dX12_lays_208 : decode cX12_lays 208 = .ok (.iaload, 1) := by decide +kernel
theorem dX12_lays_209 : decode cX12_lays 209 = .ok (.imul, 1) := by decide +kernel
theorem dX12_lays_210 : decode cX12_lays 210 = .ok (.iadd, 1) := by decide +kernel
theorem dX12_lays_211 : decode cX12_lays 211 = .ok (.bipush 29, 2) := by decide +kernel
theorem dX12_lays_213 : decode cX12_lays 213 = .ok (.irem, 1) := by decide +kernel
theorem dX12_lays_214 : decode cX12_lays 214 = .ok (.iastore, 1) := by decide +kernel
theorem dX12_lays_215 : decode cX12_lays 215 = .ok (.iinc 7 (-1), 3) := by decide +kernel
theorem dX12_lays_218 : decode cX12_lays 218 = .ok (.goto (-50), 3) := by decide +kernel
theorem dX12_lays_221 : decode cX12_lays 221 = .ok (.iinc 3 1, 3) := by decide +kernel
theorem dX12_lays_224 : decode cX12_lays 224 = .ok (.goto (-183), 3) := by decide +kernel
theorem dX12_lays_227 : decode cX12_lays 227 = .ok (.return_, 1) := by decide +kernel
theorem dX12_on_0 : decode cX12_on 0 = .ok (.iconst 0, 1) := by decide +kernel
theorem dX12_on_1 : decode cX12_on 1 = .ok (.istore_n 3, 1) := by decide +kernel
theorem dX12_on_2 : decode cX12_on 2 = .ok (.iconst 0, 1) := by decide +kernel
theorem dX12_on_3 : decode cX12_on 3 = .ok (.istore 4, 2) := by decide +kernel
theorem dX12_on_5 : decode cX12_on 5 = .ok (.iload 4, 2) := by decide +kernel
theorem dX12_on_7 : decode cX12_on 7 = .ok (.bipush 8, 2) := by decide +kernel
theorem dX12_on_9 : decode cX12_on 9 = .ok (.if_icmp .ge 75, 3) := by decide +kernel
theorem dX12_on_12 : decode cX12_on 12 = .ok (.iload_n 2, 1) := by decide +kernel
theorem dX12_on_13 : decode cX12_on 13 = .ok (.iload 4, 2) := by decide +kernel
theorem dX12_on_15 : decode cX12_on 15 = .ok (.ishr, 1) := by decide +kernel
theorem dX12_on_16 : decode cX12_on 16 = .ok (.iconst 1, 1) := by decide +kernel
theorem dX12_on_17 : decode cX12_on 17 = .ok (.iand, 1) := by decide +kernel
theorem dX12_on_18 : decode cX12_on 18 = .ok (.iconst 1, 1) := by decide +kernel
theorem dX12_on_19 : decode cX12_on 19 = .ok (.if_icmp .ne 40, 3) := by decide +kernel
theorem dX12_on_22 : decode cX12_on 22 = .ok (.aload_n 0, 1) := by decide +kernel
theorem dX12_on_23 : decode cX12_on 23 = .ok (.getfield 7, 3) := by decide +kernel
theorem dX12_on_26 : decode cX12_on 26 = .ok (.sipush 450, 3) := by decide +kernel
theorem dX12_on_29 : decode cX12_on 29 = .ok (.bipush 40, 2) := by decide +kernel
theorem dX12_on_31 : decode cX12_on 31 = .ok (.iload 4, 2) := by decide +kernel
theorem dX12_on_33 : decode cX12_on 33 = .ok (.imul, 1) := by decide +kernel
theorem dX12_on_34 : decode cX12_on 34 = .ok (.iadd, 1) := by decide +kernel
theorem dX12_on_35 : decode cX12_on 35 = .ok (.iload_n 1, 1) := by decide +kernel
theorem dX12_on_36 : decode cX12_on 36 = .ok (.iadd, 1) := by decide +kernel
theorem dX12_on_37 : decode cX12_on 37 = .ok (.iaload, 1) := by decide +kernel
theorem dX12_on_38 : decode cX12_on 38 = .ok (.aload_n 0, 1) := by decide +kernel
theorem dX12_on_39 : decode cX12_on 39 = .ok (.aload_n 0, 1) := by decide +kernel
theorem dX12_on_40 : decode cX12_on 40 = .ok (.getfield 22, 3) := by decide +kernel
theorem dX12_on_43 : decode cX12_on 43 = .ok (.bipush 8, 2) := by decide +kernel
theorem dX12_on_45 : decode cX12_on 45 = .ok (.iload 4, 2) := by decide +kernel
theorem dX12_on_47 : decode cX12_on 47 = .ok (.iconst 1, 1) := by decide +kernel
theorem dX12_on_48 : decode cX12_on 48 = .ok (.iadd, 1) := by decide +kernel
theorem dX12_on_49 : decode cX12_on 49 = .ok (.invokevirtual 154, 3) := by decide +kernel
theorem dX12_on_52 : decode cX12_on 52 = .ok (.if_icmp .ne 7, 3) := by decide +kernel
theorem dX12_on_55 : decode cX12_on 55 = .ok (.iconst 1, 1) := by decide +kernel
theorem dX12_on_56 : decode cX12_on 56 = .ok (.goto 4, 3) := by decide +kernel
theorem dX12_on_59 : decode cX12_on 59 = .ok (.iconst 0, 1) := by decide +kernel
theorem dX12_on_60 : decode cX12_on 60 = .ok (.istore 5, 2) := by decide +kernel
theorem dX12_on_62 : decode cX12_on 62 = .ok (.iload_n 3, 1) := by decide +kernel
theorem dX12_on_63 : decode cX12_on 63 = .ok (.iload 5, 2) := by decide +kernel
theorem dX12_on_65 : decode cX12_on 65 = .ok (.ifCond .eq 10, 3) := by decide +kernel
theorem dX12_on_68 : decode cX12_on 68 = .ok (.iconst 1, 1) := by decide +kernel
theorem dX12_on_69 : decode cX12_on 69 = .ok (.iload 4, 2) := by decide +kernel
theorem dX12_on_71 : decode cX12_on 71 = .ok (.ishl, 1) := by decide +kernel
theorem dX12_on_72 : decode cX12_on 72 = .ok (.goto 4, 3) := by decide +kernel
theorem dX12_on_75 : decode cX12_on 75 = .ok (.iconst 0, 1) := by decide +kernel
theorem dX12_on_76 : decode cX12_on 76 = .ok (.ior, 1) := by decide +kernel
theorem dX12_on_77 : decode cX12_on 77 = .ok (.istore_n 3, 1) := by decide +kernel
theorem dX12_on_78 : decode cX12_on 78 = .ok (.iinc 4 1, 3) := by decide +kernel
theorem dX12_on_81 : decode cX12_on 81 = .ok (.goto (-76), 3) := by decide +kernel
theorem dX12_on_84 : decode cX12_on 84 = .ok (.iload_n 3, 1) := by decide +kernel
theorem dX12_on_85 : decode cX12_on 85 = .ok (.ireturn, 1) := by decide +kernel
theorem dX12_mends_0 : decode cX12_mends 0 = .ok (.aload_n 0, 1) := by decide +kernel
theorem dX12_mends_1 : decode cX12_mends 1 = .ok (.iload_n 1, 1) := by decide +kernel
theorem dX12_mends_2 : decode cX12_mends 2 = .ok (.invokevirtual 160, 3) := by decide +kernel
theorem dX12_mends_5 : decode cX12_mends 5 = .ok (.istore_n 3, 1) := by decide +kernel
theorem dX12_mends_6 : decode cX12_mends 6 = .ok (.iload_n 3, 1) := by decide +kernel
theorem dX12_mends_7 : decode cX12_mends 7 = .ok (.invokestatic 163, 3) := by decide +kernel
theorem dX12_mends_10 : decode cX12_mends 10 = .ok (.iload_n 2, 1) := by decide +kernel
theorem dX12_mends_11 : decode cX12_mends 11 = .ok (.isub, 1) := by decide +kernel
theorem dX12_mends_12 : decode cX12_mends 12 = .ok (.iconst 2, 1) := by decide +kernel
theorem dX12_mends_13 : decode cX12_mends 13 = .ok (.idiv, 1) := by decide +kernel
theorem dX12_mends_14 : decode cX12_mends 14 = .ok (.istore 4, 2) := by decide +kernel
theorem dX12_mends_16 : decode cX12_mends 16 = .ok (.iconst 0, 1) := by decide +kernel
theorem dX12_mends_17 : decode cX12_mends 17 = .ok (.istore 5, 2) := by decide +kernel
theorem dX12_mends_19 : decode cX12_mends 19 = .ok (.iload 5, 2) := by decide +kernel
theorem dX12_mends_21 : decode cX12_mends 21 = .ok (.sipush 256, 3) := by decide +kernel
theorem dX12_mends_24 : decode cX12_mends 24 = .ok (.if_icmp .ge 55, 3) := by decide +kernel
theorem dX12_mends_27 : decode cX12_mends 27 = .ok (.iload 5, 2) := by decide +kernel
theorem dX12_mends_29 : decode cX12_mends 29 = .ok (.iload_n 3, 1) := by decide +kernel
theorem dX12_mends_30 : decode cX12_mends 30 = .ok (.iconst (-1), 1) := by decide +kernel
theorem dX12_mends_31 : decode cX12_mends 31 = .ok (.ixor, 1) := by decide +kernel
theorem dX12_mends_32 : decode cX12_mends 32 = .ok (.iand, 1) := by decide +kernel
theorem dX12_mends_33 : decode cX12_mends 33 = .ok (.ifCond .ne 40, 3) := by decide +kernel
theorem dX12_mends_36 : decode cX12_mends 36 = .ok (.iload 5, 2) := by decide +kernel
theorem dX12_mends_38 : decode cX12_mends 38 = .ok (.invokestatic 163, 3) := by decide +kernel
theorem dX12_mends_41 : decode cX12_mends 41 = .ok (.iload_n 2, 1) := by decide +kernel
theorem dX12_mends_42 : decode cX12_mends 42 = .ok (.if_icmp .ne 31, 3) := by decide +kernel
theorem dX12_mends_45 : decode cX12_mends 45 = .ok (.aload_n 0, 1) := by decide +kernel
theorem dX12_mends_46 : decode cX12_mends 46 = .ok (.iload_n 1, 1) := by decide +kernel
theorem dX12_mends_47 : decode cX12_mends 47 = .ok (.iload 5, 2) := by decide +kernel
theorem dX12_mends_49 : decode cX12_mends 49 = .ok (.invokevirtual 166, 3) := by decide +kernel
theorem dX12_mends_52 : decode cX12_mends 52 = .ok (.iload_n 3, 1) := by decide +kernel
theorem dX12_mends_53 : decode cX12_mends 53 = .ok (.invokestatic 163, 3) := by decide +kernel
theorem dX12_mends_56 : decode cX12_mends 56 = .ok (.aload_n 0, 1) := by decide +kernel
theorem dX12_mends_57 : decode cX12_mends 57 = .ok (.iload_n 1, 1) := by decide +kernel
theorem dX12_mends_58 : decode cX12_mends 58 = .ok (.iload_n 3, 1) := by decide +kernel
theorem dX12_mends_59 : decode cX12_mends 59 = .ok (.invokevirtual 169, 3) := by decide +kernel
theorem dX12_mends_62 : decode cX12_mends 62 = .ok (.invokestatic 163, 3) := by decide +kernel
theorem dX12_mends_65 : decode cX12_mends 65 = .ok (.isub, 1) := by decide +kernel
theorem dX12_mends_66 : decode cX12_mends 66 = .ok (.iload 4, 2) := by decide +kernel
theorem dX12_mends_68 : decode cX12_mends 68 = .ok (.if_icmp .gt 5, 3) := by decide +kernel
theorem dX12_mends_71 : decode cX12_mends 71 = .ok (.iconst 1, 1) := by decide +kernel
theorem dX12_mends_72 : decode cX12_mends 72 = .ok (.ireturn, 1) := by decide +kernel
theorem dX12_mends_73 : decode cX12_mends 73 = .ok (.iinc 5 1, 3) := by decide +kernel
theorem dX12_mends_76 : decode cX12_mends 76 = .ok (.goto (-57), 3) := by decide +kernel
theorem dX12_mends_79 : decode cX12_mends 79 = .ok (.iconst 0, 1) := by decide +kernel
theorem dX12_mends_80 : decode cX12_mends 80 = .ok (.ireturn, 1) := by decide +kernel
theorem dX12_fewest_0 : decode cX12_fewest 0 = .ok (.bipush 8, 2) := by decide +kernel
theorem dX12_fewest_2 : decode cX12_fewest 2 = .ok (.istore_n 2, 1) := by decide +kernel
theorem dX12_fewest_3 : decode cX12_fewest 3 = .ok (.iconst 0, 1) := by decide +kernel
theorem dX12_fewest_4 : decode cX12_fewest 4 = .ok (.istore_n 3, 1) := by decide +kernel
theorem dX12_fewest_5 : decode cX12_fewest 5 = .ok (.iload_n 3, 1) := by decide +kernel
theorem dX12_fewest_6 : decode cX12_fewest 6 = .ok (.aload_n 0, 1) := by decide +kernel
theorem dX12_fewest_7 : decode cX12_fewest 7 = .ok (.iload_n 1, 1) := by decide +kernel
theorem dX12_fewest_8 : decode cX12_fewest 8 = .ok (.invokevirtual 172, 3) := by decide +kernel
theorem dX12_fewest_11 : decode cX12_fewest 11 = .ok (.if_icmp .ge 38, 3) := by decide +kernel
theorem dX12_fewest_14 : decode cX12_fewest 14 = .ok (.aload_n 0, 1) := by decide +kernel
theorem dX12_fewest_15 : decode cX12_fewest 15 = .ok (.aload_n 0, 1) := by decide +kernel
theorem dX12_fewest_16 : decode cX12_fewest 16 = .ok (.iload_n 1, 1) := by decide +kernel
theorem dX12_fewest_17 : decode cX12_fewest 17 = .ok (.invokevirtual 175, 3) := by decide +kernel
theorem dX12_fewest_20 : decode cX12_fewest 20 = .ok (.iload_n 3, 1) := by decide +kernel
theorem dX12_fewest_21 : decode cX12_fewest 21 = .ok (.iadd, 1) := by decide +kernel
theorem dX12_fewest_22 : decode cX12_fewest 22 = .ok (.invokevirtual 160, 3) := by decide +kernel
theorem dX12_fewest_25 : decode cX12_fewest 25 = .ok (.invokestatic 163, 3) := by decide +kernel
theorem dX12_fewest_28 : decode cX12_fewest 28 = .ok (.istore 4, 2) := by decide +kernel
theorem dX12_fewest_30 : decode cX12_fewest 30 = .ok (.iload 4, 2) := by decide +kernel
theorem dX12_fewest_32 : decode cX12_fewest 32 = .ok (.iload_n 2, 1) := by decide +kernel
theorem dX12_fewest_33 : decode cX12_fewest 33 = .ok (.if_icmp .ge 8, 3) := by decide +kernel
theorem dX12_fewest_36 : decode cX12_fewest 36 = .ok (.iload 4, 2) := by decide +kernel
theorem dX12_fewest_38 : decode cX12_fewest 38 = .ok (.goto 4, 3) := by decide +kernel
theorem dX12_fewest_41 : decode cX12_fewest 41 = .ok (.iload_n 2, 1) := by decide +kernel
theorem dX12_fewest_42 : decode cX12_fewest 42 = .ok (.istore_n 2, 1) := by decide +kernel
theorem dX12_fewest_43 : decode cX12_fewest 43 = .ok (.iinc 3 1, 3) := by decide +kernel
theorem dX12_fewest_46 : decode cX12_fewest 46 = .ok (.goto (-41), 3) := by decide +kernel
theorem dX12_fewest_49 : decode cX12_fewest 49 = .ok (.iload_n 2, 1) := by decide +kernel
theorem dX12_fewest_50 : decode cX12_fewest 50 = .ok (.ireturn, 1) := by decide +kernel
theorem dX12_isDoubted_0 : decode cX12_isDoubted 0 = .ok (.iconst 0, 1) := by decide +kernel
theorem dX12_isDoubted_1 : decode cX12_isDoubted 1 = .ok (.istore_n 2, 1) := by decide +kernel
theorem dX12_isDoubted_2 : decode cX12_isDoubted 2 = .ok (.iconst 0, 1) := by decide +kernel
theorem dX12_isDoubted_3 : decode cX12_isDoubted 3 = .ok (.istore_n 3, 1) := by decide +kernel
theorem dX12_isDoubted_4 : decode cX12_isDoubted 4 = .ok (.iload_n 3, 1) := by decide +kernel
theorem dX12_isDoubted_5 : decode cX12_isDoubted 5 = .ok (.aload_n 0, 1) := by decide +kernel
theorem dX12_isDoubted_6 : decode cX12_isDoubted 6 = .ok (.iload_n 1, 1) := by decide +kernel
theorem dX12_isDoubted_7 : decode cX12_isDoubted 7 = .ok (.invokevirtual 172, 3) := by decide +kernel
theorem dX12_isDoubted_10 : decode cX12_isDoubted 10 = .ok (.if_icmp .ge 65, 3) := by decide +kernel
theorem dX12_isDoubted_13 : decode cX12_isDoubted 13 = .ok (.aload_n 0, 1) := by decide +kernel
theorem dX12_isDoubted_14 : decode cX12_isDoubted 14 = .ok (.iload_n 1, 1) := by decide +kernel
theorem dX12_isDoubted_15 : decode cX12_isDoubted 15 = .ok (.invokevirtual 175, 3) := by decide +kernel
theorem dX12_isDoubted_18 : decode cX12_isDoubted 18 = .ok (.iload_n 3, 1) := by decide +kernel
theorem dX12_isDoubted_19 : decode cX12_isDoubted 19 = .ok (.iadd, 1) := by decide +kernel
theorem dX12_isDoubted_20 : decode cX12_isDoubted 20 = .ok (.istore 4, 2) := by decide +kernel
theorem dX12_isDoubted_22 : decode cX12_isDoubted 22 = .ok (.aload_n 0, 1) := by decide +kernel
theorem dX12_isDoubted_23 : decode cX12_isDoubted 23 = .ok (.iload 4, 2) := by decide +kernel
theorem dX12_isDoubted_25 : decode cX12_isDoubted 25 = .ok (.invokevirtual 160, 3) := by decide +kernel
theorem dX12_isDoubted_28 : decode cX12_isDoubted 28 = .ok (.istore 5, 2) := by decide +kernel
theorem dX12_isDoubted_30 : decode cX12_isDoubted 30 = .ok (.aload_n 0, 1) := by decide +kernel
theorem dX12_isDoubted_31 : decode cX12_isDoubted 31 = .ok (.iload 4, 2) := by decide +kernel
theorem dX12_isDoubted_33 : decode cX12_isDoubted 33 = .ok (.iload 5, 2) := by decide +kernel
theorem dX12_isDoubted_35 : decode cX12_isDoubted 35 = .ok (.aload_n 0, 1) := by decide +kernel
theorem dX12_isDoubted_36 : decode cX12_isDoubted 36 = .ok (.iload_n 1, 1) := by decide +kernel
theorem dX12_isDoubted_37 : decode cX12_isDoubted 37 = .ok (.invokevirtual 151, 3) := by decide +kernel
theorem dX12_isDoubted_40 : decode cX12_isDoubted 40 = .ok (.invokestatic 178, 3) := by decide +kernel
theorem dX12_isDoubted_43 : decode cX12_isDoubted 43 = .ok (.invokevirtual 166, 3) := by decide +kernel
theorem dX12_isDoubted_46 : decode cX12_isDoubted 46 = .ok (.iload_n 2, 1) := by decide +kernel
theorem dX12_isDoubted_47 : decode cX12_isDoubted 47 = .ok (.ifCond .ne 16, 3) := by decide +kernel
theorem dX12_isDoubted_50 : decode cX12_isDoubted 50 = .ok (.aload_n 0, 1) := by decide +kernel
theorem dX12_isDoubted_51 : decode cX12_isDoubted 51 = .ok (.iload 4, 2) := by decide +kernel
theorem dX12_isDoubted_53 : decode cX12_isDoubted 53 = .ok (.iload 5, 2) := by decide +kernel
theorem dX12_isDoubted_55 : decode cX12_isDoubted 55 = .ok (.invokevirtual 169, 3) := by decide +kernel
theorem dX12_isDoubted_58 : decode cX12_isDoubted 58 = .ok (.iload 5, 2) := by decide +kernel
theorem dX12_isDoubted_60 : decode cX12_isDoubted 60 = .ok (.if_icmp .eq 7, 3) := by decide +kernel
theorem dX12_isDoubted_63 : decode cX12_isDoubted 63 = .ok (.iconst 1, 1) := by decide +kernel
theorem dX12_isDoubted_64 : decode cX12_isDoubted 64 = .ok (.goto 4, 3) := by decide +kernel
theorem dX12_isDoubted_67 : decode cX12_isDoubted 67 = .ok (.iconst 0, 1) := by decide +kernel
theorem dX12_isDoubted_68 : decode cX12_isDoubted 68 = .ok (.istore_n 2, 1) := by decide +kernel
theorem dX12_isDoubted_69 : decode cX12_isDoubted 69 = .ok (.iinc 3 1, 3) := by decide +kernel
theorem dX12_isDoubted_72 : decode cX12_isDoubted 72 = .ok (.goto (-68), 3) := by decide +kernel
theorem dX12_isDoubted_75 : decode cX12_isDoubted 75 = .ok (.iload_n 2, 1) := by decide +kernel
theorem dX12_isDoubted_76 : decode cX12_isDoubted 76 = .ok (.ireturn, 1) := by decide +kernel
theorem dX12_stateOf_0 : decode cX12_stateOf 0 = .ok (.aload_n 0, 1) := by decide +kernel
theorem dX12_stateOf_1 : decode cX12_stateOf 1 = .ok (.iload_n 1, 1) := by decide +kernel
theorem dX12_stateOf_2 : decode cX12_stateOf 2 = .ok (.invokevirtual 181, 3) := by decide +kernel
theorem dX12_stateOf_5 : decode cX12_stateOf 5 = .ok (.aload_n 0, 1) := by decide +kernel
theorem dX12_stateOf_6 : decode cX12_stateOf 6 = .ok (.iload_n 1, 1) := by decide +kernel
theorem dX12_stateOf_7 : decode cX12_stateOf 7 = .ok (.invokevirtual 151, 3) := by decide +kernel
theorem dX12_stateOf_10 : decode cX12_stateOf 10 = .ok (.if_icmp .ge 7, 3) := by decide +kernel
theorem dX12_stateOf_13 : decode cX12_stateOf 13 = .ok (.iconst 0, 1) := by decide +kernel
theorem dX12_stateOf_14 : decode cX12_stateOf 14 = .ok (.goto 16, 3) := by decide +kernel
theorem dX12_stateOf_17 : decode cX12_stateOf 17 = .ok (.aload_n 0, 1) := by decide +kernel
theorem dX12_stateOf_18 : decode cX12_stateOf 18 = .ok (.iload_n 1, 1) := by decide +kernel
theorem dX12_stateOf_19 : decode cX12_stateOf 19 = .ok (.invokevirtual 184, 3) := by decide +kernel
theorem dX12_stateOf_22 : decode cX12_stateOf 22 = .ok (.ifCond .eq 7, 3) := by decide +kernel
theorem dX12_stateOf_25 : decode cX12_stateOf 25 = .ok (.iconst 2, 1) := by decide +kernel
theorem dX12_stateOf_26 : decode cX12_stateOf 26 = .ok (.goto 4, 3) := by decide +kernel
theorem dX12_stateOf_29 : decode cX12_stateOf 29 = .ok (.iconst 1, 1) := by decide +kernel
theorem dX12_stateOf_30 : decode cX12_stateOf 30 = .ok (.ireturn, 1) := by decide +kernel
theorem dX12_opening_0 : decode cX12_opening 0 = .ok (.iconst 0, 1) := by decide +kernel
theorem dX12_opening_1 : decode cX12_opening 1 = .ok (.istore_n 2, 1) := by decide +kernel
theorem dX12_opening_2 : decode cX12_opening 2 = .ok (.iconst 0, 1) := by decide +kernel
theorem dX12_opening_3 : decode cX12_opening 3 = .ok (.istore_n 3, 1) := by decide +kernel
theorem dX12_opening_4 : decode cX12_opening 4 = .ok (.iload_n 3, 1) := by decide +kernel
theorem dX12_opening_5 : decode cX12_opening 5 = .ok (.iconst 1, 1) := by decide +kernel
theorem dX12_opening_6 : decode cX12_opening 6 = .ok (.aload_n 0, 1) := by decide +kernel
theorem dX12_opening_7 : decode cX12_opening 7 = .ok (.getfield 7, 3) := by decide +kernel
theorem dX12_opening_10 : decode cX12_opening 10 = .ok (.bipush 94, 2) := by decide +kernel
theorem dX12_opening_12 : decode cX12_opening 12 = .ok (.iaload, 1) := by decide +kernel
theorem dX12_opening_13 : decode cX12_opening 13 = .ok (.ishl, 1) := by decide +kernel
theorem dX12_opening_14 : decode cX12_opening 14 = .ok (.if_icmp .ge 29, 3) := by decide +kernel
theorem dX12_opening_17 : decode cX12_opening 17 = .ok (.iload_n 2, 1) := by decide +kernel
theorem dX12_opening_18 : decode cX12_opening 18 = .ok (.iload_n 3, 1) := by decide +kernel
theorem dX12_opening_19 : decode cX12_opening 19 = .ok (.invokestatic 163, 3) := by decide +kernel
theorem dX12_opening_22 : decode cX12_opening 22 = .ok (.aload_n 0, 1) := by decide +kernel
theorem dX12_opening_23 : decode cX12_opening 23 = .ok (.iload_n 1, 1) := by decide +kernel
theorem dX12_opening_24 : decode cX12_opening 24 = .ok (.invokevirtual 151, 3) := by decide +kernel
theorem dX12_opening_27 : decode cX12_opening 27 = .ok (.if_icmp .lt 7, 3) := by decide +kernel
theorem dX12_opening_30 : decode cX12_opening 30 = .ok (.iconst 1, 1) := by decide +kernel
theorem dX12_opening_31 : decode cX12_opening 31 = .ok (.goto 4, 3) := by decide +kernel
theorem dX12_opening_34 : decode cX12_opening 34 = .ok (.iconst 0, 1) := by decide +kernel
theorem dX12_opening_35 : decode cX12_opening 35 = .ok (.iadd, 1) := by decide +kernel
theorem dX12_opening_36 : decode cX12_opening 36 = .ok (.istore_n 2, 1) := by decide +kernel
theorem dX12_opening_37 : decode cX12_opening 37 = .ok (.iinc 3 1, 3) := by decide +kernel
theorem dX12_opening_40 : decode cX12_opening 40 = .ok (.goto (-36), 3) := by decide +kernel
theorem dX12_opening_43 : decode cX12_opening 43 = .ok (.iload_n 2, 1) := by decide +kernel
theorem dX12_opening_44 : decode cX12_opening 44 = .ok (.ireturn, 1) := by decide +kernel
theorem dX12_packed_0 : decode cX12_packed 0 = .ok (.aload_n 0, 1) := by decide +kernel
theorem dX12_packed_1 : decode cX12_packed 1 = .ok (.iload_n 1, 1) := by decide +kernel
theorem dX12_packed_2 : decode cX12_packed 2 = .ok (.invokevirtual 187, 3) := by decide +kernel
theorem dX12_packed_5 : decode cX12_packed 5 = .ok (.ifCond .ne 6, 3) := by decide +kernel
theorem dX12_packed_8 : decode cX12_packed 8 = .ok (.bipush (-2), 2) := by decide +kernel
theorem dX12_packed_10 : decode cX12_packed 10 = .ok (.ireturn, 1) := by decide +kernel
theorem dX12_packed_11 : decode cX12_packed 11 = .ok (.iload_n 2, 1) := by decide +kernel
theorem dX12_packed_12 : decode cX12_packed 12 = .ok (.tableswitch 82 0 5 #[40, 46, 52, 64, 70, 76], 40) := by decide +kernel
theorem dX12_packed_52 : decode cX12_packed 52 = .ok (.aload_n 0, 1) := by decide +kernel
theorem dX12_packed_53 : decode cX12_packed 53 = .ok (.iload_n 1, 1) := by decide +kernel
theorem dX12_packed_54 : decode cX12_packed 54 = .ok (.invokevirtual 190, 3) := by decide +kernel
theorem dX12_packed_57 : decode cX12_packed 57 = .ok (.ireturn, 1) := by decide +kernel
theorem dX12_packed_58 : decode cX12_packed 58 = .ok (.aload_n 0, 1) := by decide +kernel
theorem dX12_packed_59 : decode cX12_packed 59 = .ok (.iload_n 1, 1) := by decide +kernel
theorem dX12_packed_60 : decode cX12_packed 60 = .ok (.invokevirtual 151, 3) := by decide +kernel
theorem dX12_packed_63 : decode cX12_packed 63 = .ok (.ireturn, 1) := by decide +kernel
theorem dX12_packed_64 : decode cX12_packed 64 = .ok (.aload_n 0, 1) := by decide +kernel
theorem dX12_packed_65 : decode cX12_packed 65 = .ok (.getfield 7, 3) := by decide +kernel
theorem dX12_packed_68 : decode cX12_packed 68 = .ok (.bipush 96, 2) := by decide +kernel
theorem dX12_packed_70 : decode cX12_packed 70 = .ok (.iconst 3, 1) := by decide +kernel
theorem dX12_packed_71 : decode cX12_packed 71 = .ok (.iload_n 1, 1) := by decide +kernel
theorem dX12_packed_72 : decode cX12_packed 72 = .ok (.imul, 1) := by decide +kernel
theorem dX12_packed_73 : decode cX12_packed 73 = .ok (.iadd, 1) := by decide +kernel
theorem dX12_packed_74 : decode cX12_packed 74 = .ok (.iaload, 1) := by decide +kernel
theorem dX12_packed_75 : decode cX12_packed 75 = .ok (.ireturn, 1) := by decide +kernel
theorem dX12_packed_76 : decode cX12_packed 76 = .ok (.aload_n 0, 1) := by decide +kernel
theorem dX12_packed_77 : decode cX12_packed 77 = .ok (.iload_n 1, 1) := by decide +kernel
theorem dX12_packed_78 : decode cX12_packed 78 = .ok (.invokevirtual 175, 3) := by decide +kernel
theorem dX12_packed_81 : decode cX12_packed 81 = .ok (.ireturn, 1) := by decide +kernel
theorem dX12_packed_82 : decode cX12_packed 82 = .ok (.aload_n 0, 1) := by decide +kernel
theorem dX12_packed_83 : decode cX12_packed 83 = .ok (.iload_n 1, 1) := by decide +kernel
theorem dX12_packed_84 : decode cX12_packed 84 = .ok (.invokevirtual 181, 3) := by decide +kernel
theorem dX12_packed_87 : decode cX12_packed 87 = .ok (.ireturn, 1) := by decide +kernel
theorem dX12_packed_88 : decode cX12_packed 88 = .ok (.aload_n 0, 1) := by decide +kernel
theorem dX12_packed_89 : decode cX12_packed 89 = .ok (.iload_n 1, 1) := by decide +kernel
theorem dX12_packed_90 : decode cX12_packed 90 = .ok (.invokevirtual 193, 3) := by decide +kernel
theorem dX12_packed_93 : decode cX12_packed 93 = .ok (.ireturn, 1) := by decide +kernel
theorem dX12_packed_94 : decode cX12_packed 94 = .ok (.bipush (-3), 2) := by decide +kernel
theorem dX12_packed_96 : decode cX12_packed 96 = .ok (.ireturn, 1) := by decide +kernel
theorem dX12_read_0 : decode cX12_read 0 = .ok (.aload_n 0, 1) := by decide +kernel
theorem dX12_read_1 : decode cX12_read 1 = .ok (.iload_n 1, 1) := by decide +kernel
theorem dX12_read_2 : decode cX12_read 2 = .ok (.invokevirtual 187, 3) := by decide +kernel
theorem dX12_read_5 : decode cX12_read 5 = .ok (.ifCond .eq 26, 3) := by decide +kernel
theorem dX12_read_8 : decode cX12_read 8 = .ok (.iload_n 2, 1) := by decide +kernel
theorem dX12_read_9 : decode cX12_read 9 = .ok (.i2l, 1) := by decide +kernel
theorem dX12_read_10 : decode cX12_read 10 = .ok (.lconst 0, 1) := by decide +kernel
theorem dX12_read_11 : decode cX12_read 11 = .ok (.aload_n 0, 1) := by decide +kernel
theorem dX12_read_12 : decode cX12_read 12 = .ok (.getfield 7, 3) := by decide +kernel
theorem dX12_read_15 : decode cX12_read 15 = .ok (.bipush 96, 2) := by decide +kernel
theorem dX12_read_17 : decode cX12_read 17 = .ok (.iconst 3, 1) := by decide +kernel
theorem dX12_read_18 : decode cX12_read 18 = .ok (.iload_n 1, 1) := by decide +kernel
theorem dX12_read_19 : decode cX12_read 19 = .ok (.imul, 1) := by decide +kernel
theorem dX12_read_20 : decode cX12_read 20 = .ok (.iadd, 1) := by decide +kernel
theorem dX12_read_21 : decode cX12_read 21 = .ok (.iaload, 1) := by decide +kernel
theorem dX12_read_22 : decode cX12_read 22 = .ok (.iconst 1, 1) := by decide +kernel
theorem dX12_read_23 : decode cX12_read 23 = .ok (.isub, 1) := by decide +kernel
theorem dX12_read_24 : decode cX12_read 24 = .ok (.i2l, 1) := by decide +kernel
theorem dX12_read_25 : decode cX12_read 25 = .ok (.invokestatic 31, 3) := by decide +kernel
theorem dX12_read_28 : decode cX12_read 28 = .ok (.ifCond .ne 6, 3) := by decide +kernel
theorem dX12_read_31 : decode cX12_read 31 = .ok (.bipush (-2), 2) := by decide +kernel
theorem dX12_read_33 : decode cX12_read 33 = .ok (.ireturn, 1) := by decide +kernel
theorem dX12_read_34 : decode cX12_read 34 = .ok (.aload_n 0, 1) := by decide +kernel
theorem dX12_read_35 : decode cX12_read 35 = .ok (.iload_n 1, 1) := by decide +kernel
theorem dX12_read_36 : decode cX12_read 36 = .ok (.invokevirtual 151, 3) := by decide +kernel
theorem dX12_read_39 : decode cX12_read 39 = .ok (.istore_n 3, 1) := by decide +kernel
theorem dX12_read_40 : decode cX12_read 40 = .ok (.aload_n 0, 1) := by decide +kernel
theorem dX12_read_41 : decode cX12_read 41 = .ok (.iload_n 1, 1) := by decide +kernel
theorem dX12_read_42 : decode cX12_read 42 = .ok (.invokevirtual 175, 3) := by decide +kernel
theorem dX12_read_45 : decode cX12_read 45 = .ok (.iload_n 2, 1) := by decide +kernel
theorem dX12_read_46 : decode cX12_read 46 = .ok (.iload_n 3, 1) := by decide +kernel
theorem dX12_read_47 : decode cX12_read 47 = .ok (.idiv, 1) := by decide +kernel
theorem dX12_read_48 : decode cX12_read 48 = .ok (.iadd, 1) := by decide +kernel
theorem dX12_read_49 : decode cX12_read 49 = .ok (.istore 4, 2) := by decide +kernel
theorem dX12_read_51 : decode cX12_read 51 = .ok (.aload_n 0, 1) := by decide +kernel
theorem dX12_read_52 : decode cX12_read 52 = .ok (.iload 4, 2) := by decide +kernel
theorem dX12_read_54 : decode cX12_read 54 = .ok (.invokevirtual 160, 3) := by decide +kernel
theorem dX12_read_57 : decode cX12_read 57 = .ok (.istore 5, 2) := by decide +kernel
theorem dX12_read_59 : decode cX12_read 59 = .ok (.iload 5, 2) := by decide +kernel
theorem dX12_read_61 : decode cX12_read 61 = .ok (.invokestatic 163, 3) := by decide +kernel
theorem dX12_read_64 : decode cX12_read 64 = .ok (.iload_n 3, 1) := by decide +kernel
theorem dX12_read_65 : decode cX12_read 65 = .ok (.if_icmp .ge 6, 3) := by decide +kernel
theorem dX12_read_68 : decode cX12_read 68 = .ok (.bipush (-4), 2) := by decide +kernel
theorem dX12_read_70 : decode cX12_read 70 = .ok (.ireturn, 1) := by decide +kernel
theorem dX12_read_71 : decode cX12_read 71 = .ok (.aload_n 0, 1) := by decide +kernel
theorem dX12_read_72 : decode cX12_read 72 = .ok (.iload 4, 2) := by decide +kernel
theorem dX12_read_74 : decode cX12_read 74 = .ok (.iload 5, 2) := by decide +kernel
theorem dX12_read_76 : decode cX12_read 76 = .ok (.iload_n 3, 1) := by decide +kernel
theorem dX12_read_77 : decode cX12_read 77 = .ok (.invokestatic 178, 3) := by decide +kernel
theorem dX12_read_80 : decode cX12_read 80 = .ok (.invokevirtual 166, 3) := by decide +kernel
theorem dX12_read_83 : decode cX12_read 83 = .ok (.aload_n 0, 1) := by decide +kernel
theorem dX12_read_84 : decode cX12_read 84 = .ok (.getfield 22, 3) := by decide +kernel
theorem dX12_read_87 : decode cX12_read 87 = .ok (.iload_n 2, 1) := by decide +kernel
theorem dX12_read_88 : decode cX12_read 88 = .ok (.iload_n 3, 1) := by decide +kernel
theorem dX12_read_89 : decode cX12_read 89 = .ok (.irem, 1) := by decide +kernel
theorem dX12_read_90 : decode cX12_read 90 = .ok (.iaload, 1) := by decide +kernel
theorem dX12_read_91 : decode cX12_read 91 = .ok (.ireturn, 1) := by decide +kernel
theorem dX12_mended_0 : decode cX12_mended 0 = .ok (.aload_n 0, 1) := by decide +kernel
theorem dX12_mended_1 : decode cX12_mended 1 = .ok (.iload_n 1, 1) := by decide +kernel
theorem dX12_mended_2 : decode cX12_mended 2 = .ok (.invokevirtual 187, 3) := by decide +kernel
theorem dX12_mended_5 : decode cX12_mended 5 = .ok (.ifCond .eq 26, 3) := by decide +kernel
theorem dX12_mended_8 : decode cX12_mended 8 = .ok (.iload_n 2, 1) := by decide +kernel
theorem dX12_mended_9 : decode cX12_mended 9 = .ok (.i2l, 1) := by decide +kernel
theorem dX12_mended_10 : decode cX12_mended 10 = .ok (.lconst 0, 1) := by decide +kernel
theorem dX12_mended_11 : decode cX12_mended 11 = .ok (.aload_n 0, 1) := by decide +kernel
theorem dX12_mended_12 : decode cX12_mended 12 = .ok (.getfield 7, 3) := by decide +kernel
theorem dX12_mended_15 : decode cX12_mended 15 = .ok (.bipush 96, 2) := by decide +kernel
theorem dX12_mended_17 : decode cX12_mended 17 = .ok (.iconst 3, 1) := by decide +kernel
theorem dX12_mended_18 : decode cX12_mended 18 = .ok (.iload_n 1, 1) := by decide +kernel
theorem dX12_mended_19 : decode cX12_mended 19 = .ok (.imul, 1) := by decide +kernel
theorem dX12_mended_20 : decode cX12_mended 20 = .ok (.iadd, 1) := by decide +kernel
theorem dX12_mended_21 : decode cX12_mended 21 = .ok (.iaload, 1) := by decide +kernel
theorem dX12_mended_22 : decode cX12_mended 22 = .ok (.iconst 1, 1) := by decide +kernel
theorem dX12_mended_23 : decode cX12_mended 23 = .ok (.isub, 1) := by decide +kernel
theorem dX12_mended_24 : decode cX12_mended 24 = .ok (.i2l, 1) := by decide +kernel
theorem dX12_mended_25 : decode cX12_mended 25 = .ok (.invokestatic 31, 3) := by decide +kernel
theorem dX12_mended_28 : decode cX12_mended 28 = .ok (.ifCond .ne 6, 3) := by decide +kernel
theorem dX12_mended_31 : decode cX12_mended 31 = .ok (.bipush (-2), 2) := by decide +kernel
theorem dX12_mended_33 : decode cX12_mended 33 = .ok (.ireturn, 1) := by decide +kernel
theorem dX12_mended_34 : decode cX12_mended 34 = .ok (.aload_n 0, 1) := by decide +kernel
theorem dX12_mended_35 : decode cX12_mended 35 = .ok (.iload_n 1, 1) := by decide +kernel
theorem dX12_mended_36 : decode cX12_mended 36 = .ok (.invokevirtual 151, 3) := by decide +kernel
theorem dX12_mended_39 : decode cX12_mended 39 = .ok (.istore_n 3, 1) := by decide +kernel
theorem dX12_mended_40 : decode cX12_mended 40 = .ok (.aload_n 0, 1) := by decide +kernel
theorem dX12_mended_41 : decode cX12_mended 41 = .ok (.iload_n 1, 1) := by decide +kernel
theorem dX12_mended_42 : decode cX12_mended 42 = .ok (.invokevirtual 175, 3) := by decide +kernel
theorem dX12_mended_45 : decode cX12_mended 45 = .ok (.iload_n 2, 1) := by decide +kernel
theorem dX12_mended_46 : decode cX12_mended 46 = .ok (.iload_n 3, 1) := by decide +kernel
theorem dX12_mended_47 : decode cX12_mended 47 = .ok (.idiv, 1) := by decide +kernel
theorem dX12_mended_48 : decode cX12_mended 48 = .ok (.iadd, 1) := by decide +kernel
theorem dX12_mended_49 : decode cX12_mended 49 = .ok (.istore 4, 2) := by decide +kernel
theorem dX12_mended_51 : decode cX12_mended 51 = .ok (.aload_n 0, 1) := by decide +kernel
theorem dX12_mended_52 : decode cX12_mended 52 = .ok (.iload 4, 2) := by decide +kernel
theorem dX12_mended_54 : decode cX12_mended 54 = .ok (.invokevirtual 160, 3) := by decide +kernel
theorem dX12_mended_57 : decode cX12_mended 57 = .ok (.invokestatic 163, 3) := by decide +kernel
theorem dX12_mended_60 : decode cX12_mended 60 = .ok (.iload_n 3, 1) := by decide +kernel
theorem dX12_mended_61 : decode cX12_mended 61 = .ok (.if_icmp .ge 6, 3) := by decide +kernel
theorem dX12_mended_64 : decode cX12_mended 64 = .ok (.bipush (-4), 2) := by decide +kernel
theorem dX12_mended_66 : decode cX12_mended 66 = .ok (.ireturn, 1) := by decide +kernel
theorem dX12_mended_67 : decode cX12_mended 67 = .ok (.aload_n 0, 1) := by decide +kernel
theorem dX12_mended_68 : decode cX12_mended 68 = .ok (.iload 4, 2) := by decide +kernel
theorem dX12_mended_70 : decode cX12_mended 70 = .ok (.iload_n 3, 1) := by decide +kernel
theorem dX12_mended_71 : decode cX12_mended 71 = .ok (.invokevirtual 196, 3) := by decide +kernel
theorem dX12_mended_74 : decode cX12_mended 74 = .ok (.ifCond .eq 14, 3) := by decide +kernel
theorem dX12_mended_77 : decode cX12_mended 77 = .ok (.aload_n 0, 1) := by decide +kernel
theorem dX12_mended_78 : decode cX12_mended 78 = .ok (.getfield 22, 3) := by decide +kernel
theorem dX12_mended_81 : decode cX12_mended 81 = .ok (.iload_n 2, 1) := by decide +kernel
theorem dX12_mended_82 : decode cX12_mended 82 = .ok (.iload_n 3, 1) := by decide +kernel
theorem dX12_mended_83 : decode cX12_mended 83 = .ok (.irem, 1) := by decide +kernel
theorem dX12_mended_84 : decode cX12_mended 84 = .ok (.iaload, 1) := by decide +kernel
theorem dX12_mended_85 : decode cX12_mended 85 = .ok (.goto 4, 3) := by decide +kernel
theorem dX12_mended_88 : decode cX12_mended 88 = .ok (.iconst (-1), 1) := by decide +kernel
theorem dX12_mended_89 : decode cX12_mended 89 = .ok (.ireturn, 1) := by decide +kernel
theorem dX12_blamed_0 : decode cX12_blamed 0 = .ok (.aload_n 0, 1) := by decide +kernel
theorem dX12_blamed_1 : decode cX12_blamed 1 = .ok (.iload_n 1, 1) := by decide +kernel
theorem dX12_blamed_2 : decode cX12_blamed 2 = .ok (.invokevirtual 142, 3) := by decide +kernel
theorem dX12_blamed_5 : decode cX12_blamed 5 = .ok (.ifCond .ne 6, 3) := by decide +kernel
theorem dX12_blamed_8 : decode cX12_blamed 8 = .ok (.bipush (-2), 2) := by decide +kernel
theorem dX12_blamed_10 : decode cX12_blamed 10 = .ok (.ireturn, 1) := by decide +kernel
theorem dX12_blamed_11 : decode cX12_blamed 11 = .ok (.iconst 0, 1) := by decide +kernel
theorem dX12_blamed_12 : decode cX12_blamed 12 = .ok (.istore_n 2, 1) := by decide +kernel
theorem dX12_blamed_13 : decode cX12_blamed 13 = .ok (.iconst 0, 1) := by decide +kernel
theorem dX12_blamed_14 : decode cX12_blamed 14 = .ok (.istore_n 3, 1) := by decide +kernel
theorem dX12_blamed_15 : decode cX12_blamed 15 = .ok (.iload_n 3, 1) := by decide +kernel
theorem dX12_blamed_16 : decode cX12_blamed 16 = .ok (.aload_n 0, 1) := by decide +kernel
theorem dX12_blamed_17 : decode cX12_blamed 17 = .ok (.getfield 7, 3) := by decide +kernel
theorem dX12_blamed_20 : decode cX12_blamed 20 = .ok (.bipush 93, 2) := by decide +kernel
theorem dX12_blamed_22 : decode cX12_blamed 22 = .ok (.iaload, 1) := by decide +kernel
theorem dX12_blamed_23 : decode cX12_blamed 23 = .ok (.if_icmp .ge 111, 3) := by decide +kernel
theorem dX12_blamed_26 : decode cX12_blamed 26 = .ok (.iconst 0, 1) := by decide +kernel
theorem dX12_blamed_27 : decode cX12_blamed 27 = .ok (.istore 4, 2) := by decide +kernel
theorem dX12_blamed_29 : decode cX12_blamed 29 = .ok (.iload 4, 2) := by decide +kernel
theorem dX12_blamed_31 : decode cX12_blamed 31 = .ok (.aload_n 0, 1) := by decide +kernel
theorem dX12_blamed_32 : decode cX12_blamed 32 = .ok (.iload_n 3, 1) := by decide +kernel
theorem dX12_blamed_33 : decode cX12_blamed 33 = .ok (.invokevirtual 172, 3) := by decide +kernel
theorem dX12_blamed_36 : decode cX12_blamed 36 = .ok (.if_icmp .ge 92, 3) := by decide +kernel
theorem dX12_blamed_39 : decode cX12_blamed 39 = .ok (.aload_n 0, 1) := by decide +kernel
theorem dX12_blamed_40 : decode cX12_blamed 40 = .ok (.iload_n 3, 1) := by decide +kernel
theorem dX12_blamed_41 : decode cX12_blamed 41 = .ok (.invokevirtual 175, 3) := by decide +kernel
theorem dX12_blamed_44 : decode cX12_blamed 44 = .ok (.iload 4, 2) := by decide +kernel
theorem dX12_blamed_46 : decode cX12_blamed 46 = .ok (.iadd, 1) := by decide +kernel
theorem dX12_blamed_47 : decode cX12_blamed 47 = .ok (.istore 5, 2) := by decide +kernel
theorem dX12_blamed_49 : decode cX12_blamed 49 = .ok (.aload_n 0, 1) := by decide +kernel
theorem dX12_blamed_50 : decode cX12_blamed 50 = .ok (.iload_n 1, 1) := by decide +kernel
theorem dX12_blamed_51 : decode cX12_blamed 51 = .ok (.iload 5, 2) := by decide +kernel
theorem dX12_blamed_53 : decode cX12_blamed 53 = .ok (.invokevirtual 145, 3) := by decide +kernel
theorem dX12_blamed_56 : decode cX12_blamed 56 = .ok (.ifCond .eq 38, 3) := by decide +kernel
theorem dX12_blamed_59 : decode cX12_blamed 59 = .ok (.aload_n 0, 1) := by decide +kernel
theorem dX12_blamed_60 : decode cX12_blamed 60 = .ok (.iload 5, 2) := by decide +kernel
theorem dX12_blamed_62 : decode cX12_blamed 62 = .ok (.invokevirtual 160, 3) := by decide +kernel
theorem dX12_blamed_65 : decode cX12_blamed 65 = .ok (.invokestatic 163, 3) := by decide +kernel
theorem dX12_blamed_68 : decode cX12_blamed 68 = .ok (.aload_n 0, 1) := by decide +kernel
theorem dX12_blamed_69 : decode cX12_blamed 69 = .ok (.iload_n 3, 1) := by decide +kernel
theorem dX12_blamed_70 : decode cX12_blamed 70 = .ok (.invokevirtual 151, 3) := by decide +kernel
theorem dX12_blamed_73 : decode cX12_blamed 73 = .ok (.if_icmp .lt 21, 3) := by decide +kernel
theorem dX12_blamed_76 : decode cX12_blamed 76 = .ok (.aload_n 0, 1) := by decide +kernel
theorem dX12_blamed_77 : decode cX12_blamed 77 = .ok (.iload 5, 2) := by decide +kernel
theorem dX12_blamed_79 : decode cX12_blamed 79 = .ok (.aload_n 0, 1) := by decide +kernel
theorem dX12_blamed_80 : decode cX12_blamed 80 = .ok (.iload_n 3, 1) := by decide +kernel
theorem dX12_blamed_81 : decode cX12_blamed 81 = .ok (.invokevirtual 151, 3) := by decide +kernel
theorem dX12_blamed_84 : decode cX12_blamed 84 = .ok (.invokevirtual 196, 3) := by decide +kernel
theorem dX12_blamed_87 : decode cX12_blamed 87 = .ok (.ifCond .eq 7, 3) := by decide +kernel
theorem dX12_blamed_90 : decode cX12_blamed 90 = .ok (.iconst 1, 1) := by decide +kernel
theorem dX12_blamed_91 : decode cX12_blamed 91 = .ok (.goto 4, 3) := by decide +kernel
theorem dX12_blamed_94 : decode cX12_blamed 94 = .ok (.iconst 0, 1) := by decide +kernel
theorem dX12_blamed_95 : decode cX12_blamed 95 = .ok (.istore 6, 2) := by decide +kernel
theorem dX12_blamed_97 : decode cX12_blamed 97 = .ok (.iload_n 2, 1) := by decide +kernel
theorem dX12_blamed_98 : decode cX12_blamed 98 = .ok (.iload 6, 2) := by decide +kernel
theorem dX12_blamed_100 : decode cX12_blamed 100 = .ok (.ifCond .eq 19, 3) := by decide +kernel
theorem dX12_blamed_103 : decode cX12_blamed 103 = .ok (.aload_n 0, 1) := by decide +kernel
theorem dX12_blamed_104 : decode cX12_blamed 104 = .ok (.iload 5, 2) := by decide +kernel
theorem dX12_blamed_106 : decode cX12_blamed 106 = .ok (.iconst 1, 1) := by decide +kernel
theorem dX12_blamed_107 : decode cX12_blamed 107 = .ok (.iload_n 1, 1) := by decide +kernel
theorem dX12_blamed_108 : decode cX12_blamed 108 = .ok (.ishl, 1) := by decide +kernel
theorem dX12_blamed_109 : decode cX12_blamed 109 = .ok (.invokevirtual 169, 3) := by decide +kernel
theorem dX12_blamed_112 : decode cX12_blamed 112 = .ok (.ifCond .ne 7, 3) := by decide +kernel
theorem dX12_blamed_115 : decode cX12_blamed 115 = .ok (.iconst 1, 1) := by decide +kernel
theorem dX12_blamed_116 : decode cX12_blamed 116 = .ok (.goto 4, 3) := by decide +kernel
theorem dX12_blamed_119 : decode cX12_blamed 119 = .ok (.iconst 0, 1) := by decide +kernel
theorem dX12_blamed_120 : decode cX12_blamed 120 = .ok (.iadd, 1) := by decide +kernel
theorem dX12_blamed_121 : decode cX12_blamed 121 = .ok (.istore_n 2, 1) := by decide +kernel
theorem dX12_blamed_122 : decode cX12_blamed 122 = .ok (.iinc 4 1, 3) := by decide +kernel
theorem dX12_blamed_125 : decode cX12_blamed 125 = .ok (.goto (-96), 3) := by decide +kernel
theorem dX12_blamed_128 : decode cX12_blamed 128 = .ok (.iinc 3 1, 3) := by decide +kernel
theorem dX12_blamed_131 : decode cX12_blamed 131 = .ok (.goto (-116), 3) := by decide +kernel
theorem dX12_blamed_134 : decode cX12_blamed 134 = .ok (.iload_n 2, 1) := by decide +kernel
theorem dX12_blamed_135 : decode cX12_blamed 135 = .ok (.ireturn, 1) := by decide +kernel
theorem dX12_opened_0 : decode cX12_opened 0 = .ok (.iload_n 1, 1) := by decide +kernel
theorem dX12_opened_1 : decode cX12_opened 1 = .ok (.i2l, 1) := by decide +kernel
theorem dX12_opened_2 : decode cX12_opened 2 = .ok (.lconst 0, 1) := by decide +kernel
theorem dX12_opened_3 : decode cX12_opened 3 = .ok (.ldc2_w 123, 3) := by decide +kernel
theorem dX12_opened_6 : decode cX12_opened 6 = .ok (.invokestatic 31, 3) := by decide +kernel
theorem dX12_opened_9 : decode cX12_opened 9 = .ok (.ifCond .ne 6, 3) := by decide +kernel
theorem dX12_opened_12 : decode cX12_opened 12 = .ok (.bipush (-3), 2) := by decide +kernel
theorem dX12_opened_14 : decode cX12_opened 14 = .ok (.ireturn, 1) := by decide +kernel
theorem dX12_opened_15 : decode cX12_opened 15 = .ok (.iconst 0, 1) := by decide +kernel
theorem dX12_opened_16 : decode cX12_opened 16 = .ok (.istore_n 2, 1) := by decide +kernel
theorem dX12_opened_17 : decode cX12_opened 17 = .ok (.iconst 0, 1) := by decide +kernel
theorem dX12_opened_18 : decode cX12_opened 18 = .ok (.istore_n 3, 1) := by decide +kernel
theorem dX12_opened_19 : decode cX12_opened 19 = .ok (.iload_n 3, 1) := by decide +kernel
theorem dX12_opened_20 : decode cX12_opened 20 = .ok (.aload_n 0, 1) := by decide +kernel
theorem dX12_opened_21 : decode cX12_opened 21 = .ok (.getfield 7, 3) := by decide +kernel
theorem dX12_opened_24 : decode cX12_opened 24 = .ok (.bipush 93, 2) := by decide +kernel
theorem dX12_opened_26 : decode cX12_opened 26 = .ok (.iaload, 1) := by decide +kernel
theorem dX12_opened_27 : decode cX12_opened 27 = .ok (.if_icmp .ge 28, 3) := by decide +kernel
theorem dX12_opened_30 : decode cX12_opened 30 = .ok (.iload_n 2, 1) := by decide +kernel
theorem dX12_opened_31 : decode cX12_opened 31 = .ok (.aload_n 0, 1) := by decide +kernel
theorem dX12_opened_32 : decode cX12_opened 32 = .ok (.iload_n 3, 1) := by decide +kernel
theorem dX12_opened_33 : decode cX12_opened 33 = .ok (.invokevirtual 151, 3) := by decide +kernel
theorem dX12_opened_36 : decode cX12_opened 36 = .ok (.iload_n 1, 1) := by decide +kernel
theorem dX12_opened_37 : decode cX12_opened 37 = .ok (.if_icmp .gt 9, 3) := by decide +kernel
theorem dX12_opened_40 : decode cX12_opened 40 = .ok (.iconst 1, 1) := by decide +kernel
theorem dX12_opened_41 : decode cX12_opened 41 = .ok (.iload_n 3, 1) := by decide +kernel
theorem dX12_opened_42 : decode cX12_opened 42 = .ok (.ishl, 1) := by decide +kernel
theorem dX12_opened_43 : decode cX12_opened 43 = .ok (.goto 4, 3) := by decide +kernel
theorem dX12_opened_46 : decode cX12_opened 46 = .ok (.iconst 0, 1) := by decide +kernel
theorem dX12_opened_47 : decode cX12_opened 47 = .ok (.ior, 1) := by decide +kernel
theorem dX12_opened_48 : decode cX12_opened 48 = .ok (.istore_n 2, 1) := by decide +kernel
theorem dX12_opened_49 : decode cX12_opened 49 = .ok (.iinc 3 1, 3) := by decide +kernel
theorem dX12_opened_52 : decode cX12_opened 52 = .ok (.goto (-33), 3) := by decide +kernel
theorem dX12_opened_55 : decode cX12_opened 55 = .ok (.iload_n 2, 1) := by decide +kernel
theorem dX12_opened_56 : decode cX12_opened 56 = .ok (.ireturn, 1) := by decide +kernel
theorem dX12_cost_0 : decode cX12_cost 0 = .ok (.iload_n 3, 1) := by decide +kernel
theorem dX12_cost_1 : decode cX12_cost 1 = .ok (.aload_n 0, 1) := by decide +kernel
theorem dX12_cost_2 : decode cX12_cost 2 = .ok (.getfield 7, 3) := by decide +kernel
theorem dX12_cost_5 : decode cX12_cost 5 = .ok (.iload_n 1, 1) := by decide +kernel
theorem dX12_cost_6 : decode cX12_cost 6 = .ok (.invokestatic 35, 3) := by decide +kernel
theorem dX12_cost_9 : decode cX12_cost 9 = .ok (.iconst 0, 1) := by decide +kernel
theorem dX12_cost_10 : decode cX12_cost 10 = .ok (.iadd, 1) := by decide +kernel
theorem dX12_cost_11 : decode cX12_cost 11 = .ok (.iaload, 1) := by decide +kernel
theorem dX12_cost_12 : decode cX12_cost 12 = .ok (.iload_n 2, 1) := by decide +kernel
theorem dX12_cost_13 : decode cX12_cost 13 = .ok (.invokestatic 39, 3) := by decide +kernel
theorem dX12_cost_16 : decode cX12_cost 16 = .ok (.isub, 1) := by decide +kernel
theorem dX12_cost_17 : decode cX12_cost 17 = .ok (.istore 4, 2) := by decide +kernel
theorem dX12_cost_19 : decode cX12_cost 19 = .ok (.iload 4, 2) := by decide +kernel
theorem dX12_cost_21 : decode cX12_cost 21 = .ok (.ifCond .ge 8, 3) := by decide +kernel
theorem dX12_cost_24 : decode cX12_cost 24 = .ok (.ldc 199, 2) := by decide +kernel
theorem dX12_cost_26 : decode cX12_cost 26 = .ok (.goto 31, 3) := by decide +kernel
theorem dX12_cost_29 : decode cX12_cost 29 = .ok (.aload_n 0, 1) := by decide +kernel
theorem dX12_cost_30 : decode cX12_cost 30 = .ok (.getfield 7, 3) := by decide +kernel
theorem dX12_cost_33 : decode cX12_cost 33 = .ok (.iload_n 1, 1) := by decide +kernel
theorem dX12_cost_34 : decode cX12_cost 34 = .ok (.invokestatic 35, 3) := by decide +kernel
theorem dX12_cost_37 : decode cX12_cost 37 = .ok (.iconst 2, 1) := by decide +kernel
theorem dX12_cost_38 : decode cX12_cost 38 = .ok (.iadd, 1) := by decide +kernel
theorem dX12_cost_39 : decode cX12_cost 39 = .ok (.iaload, 1) := by decide +kernel
theorem dX12_cost_40 : decode cX12_cost 40 = .ok (.iload_n 2, 1) := by decide +kernel
theorem dX12_cost_41 : decode cX12_cost 41 = .ok (.imul, 1) := by decide +kernel
theorem dX12_cost_42 : decode cX12_cost 42 = .ok (.aload_n 0, 1) := by decide +kernel
theorem dX12_cost_43 : decode cX12_cost 43 = .ok (.getfield 28, 3) := by decide +kernel
theorem dX12_cost_46 : decode cX12_cost 46 = .ok (.bipush 41, 2) := by decide +kernel
theorem dX12_cost_48 : decode cX12_cost 48 = .ok (.iload_n 1, 1) := by decide +kernel
theorem dX12_cost_49 : decode cX12_cost 49 = .ok (.iconst 1, 1) := by decide +kernel
theorem dX12_cost_50 : decode cX12_cost 50 = .ok (.iadd, 1) := by decide +kernel
theorem dX12_cost_51 : decode cX12_cost 51 = .ok (.imul, 1) := by decide +kernel
theorem dX12_cost_52 : decode cX12_cost 52 = .ok (.iload 4, 2) := by decide +kernel
theorem dX12_cost_54 : decode cX12_cost 54 = .ok (.iadd, 1) := by decide +kernel
theorem dX12_cost_55 : decode cX12_cost 55 = .ok (.iaload, 1) := by decide +kernel
theorem dX12_cost_56 : decode cX12_cost 56 = .ok (.iadd, 1) := by decide +kernel
theorem dX12_cost_57 : decode cX12_cost 57 = .ok (.ireturn, 1) := by decide +kernel
theorem dX12_plans_0 : decode cX12_plans 0 = .ok (.iconst 0, 1) := by decide +kernel
theorem dX12_plans_1 : decode cX12_plans 1 = .ok (.istore_n 1, 1) := by decide +kernel
theorem dX12_plans_2 : decode cX12_plans 2 = .ok (.iload_n 1, 1) := by decide +kernel
theorem dX12_plans_3 : decode cX12_plans 3 = .ok (.bipush 41, 2) := by decide +kernel
theorem dX12_plans_5 : decode cX12_plans 5 = .ok (.if_icmp .ge 26, 3) := by decide +kernel
theorem dX12_plans_8 : decode cX12_plans 8 = .ok (.aload_n 0, 1) := by decide +kernel
theorem dX12_plans_9 : decode cX12_plans 9 = .ok (.getfield 28, 3) := by decide +kernel
theorem dX12_plans_12 : decode cX12_plans 12 = .ok (.bipush 41, 2) := by decide +kernel
theorem dX12_plans_14 : decode cX12_plans 14 = .ok (.aload_n 0, 1) := by decide +kernel
theorem dX12_plans_15 : decode cX12_plans 15 = .ok (.getfield 7, 3) := by decide +kernel
theorem dX12_plans_18 : decode cX12_plans 18 = .ok (.iconst 2, 1) := by decide +kernel
theorem dX12_plans_19 : decode cX12_plans 19 = .ok (.iaload, 1) := by decide +kernel
theorem dX12_plans_20 : decode cX12_plans 20 = .ok (.imul, 1) := by decide +kernel
theorem dX12_plans_21 : decode cX12_plans 21 = .ok (.iload_n 1, 1) := by decide +kernel
theorem dX12_plans_22 : decode cX12_plans 22 = .ok (.iadd, 1) := by decide +kernel
theorem dX12_plans_23 : decode cX12_plans 23 = .ok (.iconst 0, 1) := by decide +kernel
theorem dX12_plans_24 : decode cX12_plans 24 = .ok (.iastore, 1) := by decide +kernel
theorem dX12_plans_25 : decode cX12_plans 25 = .ok (.iinc 1 1, 3) := by decide +kernel
theorem dX12_plans_28 : decode cX12_plans 28 = .ok (.goto (-26), 3) := by decide +kernel
theorem dX12_plans_31 : decode cX12_plans 31 = .ok (.aload_n 0, 1) := by decide +kernel
theorem dX12_plans_32 : decode cX12_plans 32 = .ok (.getfield 7, 3) := by decide +kernel
theorem dX12_plans_35 : decode cX12_plans 35 = .ok (.iconst 2, 1) := by decide +kernel
theorem dX12_plans_36 : decode cX12_plans 36 = .ok (.iaload, 1) := by decide +kernel
theorem dX12_plans_37 : decode cX12_plans 37 = .ok (.iconst 1, 1) := by decide +kernel
theorem dX12_plans_38 : decode cX12_plans 38 = .ok (.isub, 1) := by decide +kernel
theorem dX12_plans_39 : decode cX12_plans 39 = .ok (.istore_n 1, 1) := by decide +kernel
theorem dX12_plans_40 : decode cX12_plans 40 = .ok (.iload_n 1, 1) := by decide +kernel
theorem dX12_plans_41 : decode cX12_plans 41 = .ok (.ifCond .lt 81, 3) := by decide +kernel
theorem dX12_plans_44 : decode cX12_plans 44 = .ok (.iconst 0, 1) := by decide +kernel
theorem dX12_plans_45 : decode cX12_plans 45 = .ok (.istore_n 2, 1) := by decide +kernel
theorem dX12_plans_46 : decode cX12_plans 46 = .ok (.iload_n 2, 1) := by decide +kernel
theorem dX12_plans_47 : decode cX12_plans 47 = .ok (.bipush 41, 2) := by decide +kernel
theorem dX12_plans_49 : decode cX12_plans 49 = .ok (.if_icmp .ge 67, 3) := by decide +kernel
theorem dX12_plans_52 : decode cX12_plans 52 = .ok (.ldc 199, 2) := by decide +kernel
theorem dX12_plans_54 : decode cX12_plans 54 = .ok (.istore_n 3, 1) := by decide +kernel
theorem dX12_plans_55 : decode cX12_plans 55 = .ok (.iconst 1, 1) := by decide +kernel
theorem dX12_plans_56 : decode cX12_plans 56 = .ok (.istore 4, 2) := by decide +kernel
theorem dX12_plans_58 : decode cX12_plans 58 = .ok (.iload 4, 2) := by decide +kernel
theorem dX12_plans_60 : decode cX12_plans 60 = .ok (.aload_n 0, 1) := by decide +kernel
theorem dX12_plans_61 : decode cX12_plans 61 = .ok (.getfield 7, 3) := by decide +kernel
theorem dX12_plans_64 : decode cX12_plans 64 = .ok (.iconst 0, 1) := by decide +kernel
theorem dX12_plans_65 : decode cX12_plans 65 = .ok (.iaload, 1) := by decide +kernel
theorem dX12_plans_66 : decode cX12_plans 66 = .ok (.if_icmp .gt 32, 3) := by decide +kernel
theorem dX12_plans_69 : decode cX12_plans 69 = .ok (.aload_n 0, 1) := by decide +kernel
theorem dX12_plans_70 : decode cX12_plans 70 = .ok (.iload_n 1, 1) := by decide +kernel
theorem dX12_plans_71 : decode cX12_plans 71 = .ok (.iload 4, 2) := by decide +kernel
theorem dX12_plans_73 : decode cX12_plans 73 = .ok (.iload_n 2, 1) := by decide +kernel
theorem dX12_plans_74 : decode cX12_plans 74 = .ok (.invokevirtual 200, 3) := by decide +kernel
theorem dX12_plans_77 : decode cX12_plans 77 = .ok (.istore 5, 2) := by decide +kernel
theorem dX12_plans_79 : decode cX12_plans 79 = .ok (.iload 5, 2) := by decide +kernel
theorem dX12_plans_81 : decode cX12_plans 81 = .ok (.iload_n 3, 1) := by decide +kernel
theorem dX12_plans_82 : decode cX12_plans 82 = .ok (.if_icmp .ge 8, 3) := by decide +kernel
theorem dX12_plans_85 : decode cX12_plans 85 = .ok (.iload 5, 2) := by decide +kernel
theorem dX12_plans_87 : decode cX12_plans 87 = .ok (.goto 4, 3) := by decide +kernel
theorem dX12_plans_90 : decode cX12_plans 90 = .ok (.iload_n 3, 1) := by decide +kernel
theorem dX12_plans_91 : decode cX12_plans 91 = .ok (.istore_n 3, 1) := by decide +kernel
theorem dX12_plans_92 : decode cX12_plans 92 = .ok (.iinc 4 1, 3) := by decide +kernel
theorem dX12_plans_95 : decode cX12_plans 95 = .ok (.goto (-37), 3) := by decide +kernel
theorem dX12_plans_98 : decode cX12_plans 98 = .ok (.aload_n 0, 1) := by decide +kernel
theorem dX12_plans_99 : decode cX12_plans 99 = .ok (.getfield 28, 3) := by decide +kernel
theorem dX12_plans_102 : decode cX12_plans 102 = .ok (.bipush 41, 2) := by decide +kernel
theorem dX12_plans_104 : decode cX12_plans 104 = .ok (.iload_n 1, 1) := by decide +kernel
theorem dX12_plans_105 : decode cX12_plans 105 = .ok (.imul, 1) := by decide +kernel
theorem dX12_plans_106 : decode cX12_plans 106 = .ok (.iload_n 2, 1) := by decide +kernel
theorem dX12_plans_107 : decode cX12_plans 107 = .ok (.iadd, 1) := by decide +kernel
theorem dX12_plans_108 : decode cX12_plans 108 = .ok (.iload_n 3, 1) := by decide +kernel
theorem dX12_plans_109 : decode cX12_plans 109 = .ok (.iastore, 1) := by decide +kernel
theorem dX12_plans_110 : decode cX12_plans 110 = .ok (.iinc 2 1, 3) := by decide +kernel
theorem dX12_plans_113 : decode cX12_plans 113 = .ok (.goto (-67), 3) := by decide +kernel
theorem dX12_plans_116 : decode cX12_plans 116 = .ok (.iinc 1 (-1), 3) := by decide +kernel
theorem dX12_plans_119 : decode cX12_plans 119 = .ok (.goto (-79), 3) := by decide +kernel
theorem dX12_plans_122 : decode cX12_plans 122 = .ok (.aload_n 0, 1) := by decide +kernel
theorem dX12_plans_123 : decode cX12_plans 123 = .ok (.getfield 28, 3) := by decide +kernel
theorem dX12_plans_126 : decode cX12_plans 126 = .ok (.aload_n 0, 1) := by decide +kernel
theorem dX12_plans_127 : decode cX12_plans 127 = .ok (.getfield 7, 3) := by decide +kernel
theorem dX12_plans_130 : decode cX12_plans 130 = .ok (.iconst 1, 1) := by decide +kernel
theorem dX12_plans_131 : decode cX12_plans 131 = .ok (.iaload, 1) := by decide +kernel
theorem dX12_plans_132 : decode cX12_plans 132 = .ok (.iaload, 1) := by decide +kernel
theorem dX12_plans_133 : decode cX12_plans 133 = .ok (.istore_n 1, 1) := by decide +kernel
theorem dX12_plans_134 : decode cX12_plans 134 = .ok (.iload_n 1, 1) := by decide +kernel
theorem dX12_plans_135 : decode cX12_plans 135 = .ok (.ldc 199, 2) := by decide +kernel
theorem dX12_plans_137 : decode cX12_plans 137 = .ok (.if_icmp .ge 7, 3) := by decide +kernel
theorem dX12_plans_140 : decode cX12_plans 140 = .ok (.iload_n 1, 1) := by decide +kernel
theorem dX12_plans_141 : decode cX12_plans 141 = .ok (.goto 4, 3) := by decide +kernel
theorem dX12_plans_144 : decode cX12_plans 144 = .ok (.iconst (-1), 1) := by decide +kernel
theorem dX12_plans_145 : decode cX12_plans 145 = .ok (.ireturn, 1) := by decide +kernel
theorem dX12_plan_0 : decode cX12_plan 0 = .ok (.aload_n 0, 1) := by decide +kernel
theorem dX12_plan_1 : decode cX12_plan 1 = .ok (.iload_n 1, 1) := by decide +kernel
theorem dX12_plan_2 : decode cX12_plan 2 = .ok (.invokevirtual 111, 3) := by decide +kernel
theorem dX12_plan_5 : decode cX12_plan 5 = .ok (.ifCond .ne 6, 3) := by decide +kernel
theorem dX12_plan_8 : decode cX12_plan 8 = .ok (.bipush (-2), 2) := by decide +kernel
theorem dX12_plan_10 : decode cX12_plan 10 = .ok (.ireturn, 1) := by decide +kernel
theorem dX12_plan_11 : decode cX12_plan 11 = .ok (.aload_n 0, 1) := by decide +kernel
theorem dX12_plan_12 : decode cX12_plan 12 = .ok (.invokevirtual 203, 3) := by decide +kernel
theorem dX12_plan_15 : decode cX12_plan 15 = .ok (.iconst (-1), 1) := by decide +kernel
theorem dX12_plan_16 : decode cX12_plan 16 = .ok (.if_icmp .ne 5, 3) := by decide +kernel
theorem dX12_plan_19 : decode cX12_plan 19 = .ok (.iconst (-1), 1) := by decide +kernel
theorem dX12_plan_20 : decode cX12_plan 20 = .ok (.ireturn, 1) := by decide +kernel
theorem dX12_plan_21 : decode cX12_plan 21 = .ok (.aload_n 0, 1) := by decide +kernel
theorem dX12_plan_22 : decode cX12_plan 22 = .ok (.getfield 7, 3) := by decide +kernel
theorem dX12_plan_25 : decode cX12_plan 25 = .ok (.iconst 1, 1) := by decide +kernel
theorem dX12_plan_26 : decode cX12_plan 26 = .ok (.iaload, 1) := by decide +kernel
theorem dX12_plan_27 : decode cX12_plan 27 = .ok (.istore_n 2, 1) := by decide +kernel
theorem dX12_plan_28 : decode cX12_plan 28 = .ok (.iconst 0, 1) := by decide +kernel
theorem dX12_plan_29 : decode cX12_plan 29 = .ok (.istore_n 3, 1) := by decide +kernel
theorem dX12_plan_30 : decode cX12_plan 30 = .ok (.iconst 0, 1) := by decide +kernel
theorem dX12_plan_31 : decode cX12_plan 31 = .ok (.istore 4, 2) := by decide +kernel
theorem dX12_plan_33 : decode cX12_plan 33 = .ok (.iload 4, 2) := by decide +kernel
theorem dX12_plan_35 : decode cX12_plan 35 = .ok (.iload_n 1, 1) := by decide +kernel
theorem dX12_plan_36 : decode cX12_plan 36 = .ok (.if_icmp .gt 59, 3) := by decide +kernel
theorem dX12_plan_39 : decode cX12_plan 39 = .ok (.iconst 1, 1) := by decide +kernel
theorem dX12_plan_40 : decode cX12_plan 40 = .ok (.istore_n 3, 1) := by decide +kernel
theorem dX12_plan_41 : decode cX12_plan 41 = .ok (.aload_n 0, 1) := by decide +kernel
theorem dX12_plan_42 : decode cX12_plan 42 = .ok (.iload 4, 2) := by decide +kernel
theorem dX12_plan_44 : decode cX12_plan 44 = .ok (.iload_n 3, 1) := by decide +kernel
theorem dX12_plan_45 : decode cX12_plan 45 = .ok (.iload_n 2, 1) := by decide +kernel
theorem dX12_plan_46 : decode cX12_plan 46 = .ok (.invokevirtual 200, 3) := by decide +kernel
theorem dX12_plan_49 : decode cX12_plan 49 = .ok (.aload_n 0, 1) := by decide +kernel
theorem dX12_plan_50 : decode cX12_plan 50 = .ok (.getfield 28, 3) := by decide +kernel
theorem dX12_plan_53 : decode cX12_plan 53 = .ok (.bipush 41, 2) := by decide +kernel
theorem dX12_plan_55 : decode cX12_plan 55 = .ok (.iload 4, 2) := by decide +kernel
theorem dX12_plan_57 : decode cX12_plan 57 = .ok (.imul, 1) := by decide +kernel
theorem dX12_plan_58 : decode cX12_plan 58 = .ok (.iload_n 2, 1) := by decide +kernel
theorem dX12_plan_59 : decode cX12_plan 59 = .ok (.iadd, 1) := by decide +kernel
theorem dX12_plan_60 : decode cX12_plan 60 = .ok (.iaload, 1) := by decide +kernel
theorem dX12_plan_61 : decode cX12_plan 61 = .ok (.if_icmp .eq 9, 3) := by decide +kernel
theorem dX12_plan_64 : decode cX12_plan 64 = .ok (.iinc 3 1, 3) := by decide +kernel
theorem dX12_plan_67 : decode cX12_plan 67 = .ok (.goto (-26), 3) := by decide +kernel
theorem dX12_plan_70 : decode cX12_plan 70 = .ok (.iload_n 2, 1) := by decide +kernel
theorem dX12_plan_71 : decode cX12_plan 71 = .ok (.aload_n 0, 1) := by decide +kernel
theorem dX12_plan_72 : decode cX12_plan 72 = .ok (.getfield 7, 3) := by decide +kernel
theorem dX12_plan_75 : decode cX12_plan 75 = .ok (.iload 4, 2) := by decide +kernel
theorem dX12_plan_77 : decode cX12_plan 77 = .ok (.invokestatic 35, 3) := by decide +kernel
theorem dX12_plan_80 : decode cX12_plan 80 = .ok (.iconst 0, 1) := by decide +kernel
theorem dX12_plan_81 : decode cX12_plan 81 = .ok (.iadd, 1) := by decide +kernel
theorem dX12_plan_82 : decode cX12_plan 82 = .ok (.iaload, 1) := by decide +kernel
theorem dX12_plan_83 : decode cX12_plan 83 = .ok (.iload_n 3, 1) := by decide +kernel
theorem dX12_plan_84 : decode cX12_plan 84 = .ok (.invokestatic 39, 3) := by decide +kernel
theorem dX12_plan_87 : decode cX12_plan 87 = .ok (.isub, 1) := by decide +kernel
theorem dX12_plan_88 : decode cX12_plan 88 = .ok (.istore_n 2, 1) := by decide +kernel
theorem dX12_plan_89 : decode cX12_plan 89 = .ok (.iinc 4 1, 3) := by decide +kernel
theorem dX12_plan_92 : decode cX12_plan 92 = .ok (.goto (-59), 3) := by decide +kernel
theorem dX12_plan_95 : decode cX12_plan 95 = .ok (.iload_n 3, 1) := by decide +kernel
theorem dX12_plan_96 : decode cX12_plan 96 = .ok (.ireturn, 1) := by decide +kernel
theorem dX12_lesser_0 : decode cX12_lesser 0 = .ok (.iload_n 1, 1) := by decide +kernel
theorem dX12_lesser_1 : decode cX12_lesser 1 = .ok (.i2l, 1) := by decide +kernel
theorem dX12_lesser_2 : decode cX12_lesser 2 = .ok (.lconst 0, 1) := by decide +kernel
theorem dX12_lesser_3 : decode cX12_lesser 3 = .ok (.ldc2_w 128, 3) := by decide +kernel
theorem dX12_lesser_6 : decode cX12_lesser 6 = .ok (.invokestatic 31, 3) := by decide +kernel
theorem dX12_lesser_9 : decode cX12_lesser 9 = .ok (.ifCond .ne 6, 3) := by decide +kernel
theorem dX12_lesser_12 : decode cX12_lesser 12 = .ok (.bipush (-3), 2) := by decide +kernel
theorem dX12_lesser_14 : decode cX12_lesser 14 = .ok (.ireturn, 1) := by decide +kernel
theorem dX12_lesser_15 : decode cX12_lesser 15 = .ok (.iconst 0, 1) := by decide +kernel
theorem dX12_lesser_16 : decode cX12_lesser 16 = .ok (.istore_n 2, 1) := by decide +kernel
theorem dX12_lesser_17 : decode cX12_lesser 17 = .ok (.iconst (-1), 1) := by decide +kernel
theorem dX12_lesser_18 : decode cX12_lesser 18 = .ok (.istore_n 3, 1) := by decide +kernel
theorem dX12_lesser_19 : decode cX12_lesser 19 = .ok (.iconst 0, 1) := by decide +kernel
theorem dX12_lesser_20 : decode cX12_lesser 20 = .ok (.istore 4, 2) := by decide +kernel
theorem dX12_lesser_22 : decode cX12_lesser 22 = .ok (.iload 4, 2) := by decide +kernel
theorem dX12_lesser_24 : decode cX12_lesser 24 = .ok (.iconst 1, 1) := by decide +kernel
theorem dX12_lesser_25 : decode cX12_lesser 25 = .ok (.aload_n 0, 1) := by decide +kernel
theorem dX12_lesser_26 : decode cX12_lesser 26 = .ok (.getfield 7, 3) := by decide +kernel
theorem dX12_lesser_29 : decode cX12_lesser 29 = .ok (.iconst 2, 1) := by decide +kernel
theorem dX12_lesser_30 : decode cX12_lesser 30 = .ok (.iaload, 1) := by decide +kernel
theorem dX12_lesser_31 : decode cX12_lesser 31 = .ok (.ishl, 1) := by decide +kernel
theorem dX12_lesser_32 : decode cX12_lesser 32 = .ok (.if_icmp .ge 86, 3) := by decide +kernel
theorem dX12_lesser_35 : decode cX12_lesser 35 = .ok (.iconst 0, 1) := by decide +kernel
theorem dX12_lesser_36 : decode cX12_lesser 36 = .ok (.istore 5, 2) := by decide +kernel
theorem dX12_lesser_38 : decode cX12_lesser 38 = .ok (.iconst 0, 1) := by decide +kernel
theorem dX12_lesser_39 : decode cX12_lesser 39 = .ok (.istore 6, 2) := by decide +kernel
theorem dX12_lesser_41 : decode cX12_lesser 41 = .ok (.iload 6, 2) := by decide +kernel
theorem dX12_lesser_43 : decode cX12_lesser 43 = .ok (.aload_n 0, 1) := by decide +kernel
theorem dX12_lesser_44 : decode cX12_lesser 44 = .ok (.getfield 7, 3) := by decide +kernel
theorem dX12_lesser_47 : decode cX12_lesser 47 = .ok (.iconst 2, 1) := by decide +kernel
theorem dX12_lesser_48 : decode cX12_lesser 48 = .ok (.iaload, 1) := by decide +kernel
theorem dX12_lesser_49 : decode cX12_lesser 49 = .ok (.if_icmp .ge 41, 3) := by decide +kernel
theorem dX12_lesser_52 : decode cX12_lesser 52 = .ok (.iload 5, 2) := by decide +kernel
theorem dX12_lesser_54 : decode cX12_lesser 54 = .ok (.iload 4, 2) := by decide +kernel
theorem dX12_lesser_56 : decode cX12_lesser 56 = .ok (.iload 6, 2) := by decide +kernel
theorem dX12_lesser_58 : decode cX12_lesser 58 = .ok (.ishr, 1) := by decide +kernel
theorem dX12_lesser_59 : decode cX12_lesser 59 = .ok (.iconst 1, 1) := by decide +kernel
theorem dX12_lesser_60 : decode cX12_lesser 60 = .ok (.iand, 1) := by decide +kernel
theorem dX12_lesser_61 : decode cX12_lesser 61 = .ok (.iconst 1, 1) := by decide +kernel
theorem dX12_lesser_62 : decode cX12_lesser 62 = .ok (.if_icmp .ne 18, 3) := by decide +kernel
theorem dX12_lesser_65 : decode cX12_lesser 65 = .ok (.aload_n 0, 1) := by decide +kernel
theorem dX12_lesser_66 : decode cX12_lesser 66 = .ok (.getfield 7, 3) := by decide +kernel
theorem dX12_lesser_69 : decode cX12_lesser 69 = .ok (.iload 6, 2) := by decide +kernel
theorem dX12_lesser_71 : decode cX12_lesser 71 = .ok (.invokestatic 35, 3) := by decide +kernel
theorem dX12_lesser_74 : decode cX12_lesser 74 = .ok (.iconst 2, 1) := by decide +kernel
theorem dX12_lesser_75 : decode cX12_lesser 75 = .ok (.iadd, 1) := by decide +kernel
theorem dX12_lesser_76 : decode cX12_lesser 76 = .ok (.iaload, 1) := by decide +kernel
theorem dX12_lesser_77 : decode cX12_lesser 77 = .ok (.goto 4, 3) := by decide +kernel
theorem dX12_lesser_80 : decode cX12_lesser 80 = .ok (.iconst 0, 1) := by decide +kernel
theorem dX12_lesser_81 : decode cX12_lesser 81 = .ok (.iadd, 1) := by decide +kernel
theorem dX12_lesser_82 : decode cX12_lesser 82 = .ok (.istore 5, 2) := by decide +kernel
theorem dX12_lesser_84 : decode cX12_lesser 84 = .ok (.iinc 6 1, 3) := by decide +kernel
theorem dX12_lesser_87 : decode cX12_lesser 87 = .ok (.goto (-46), 3) := by decide +kernel
theorem dX12_lesser_90 : decode cX12_lesser 90 = .ok (.aload_n 0, 1) := by decide +kernel
theorem dX12_lesser_91 : decode cX12_lesser 91 = .ok (.iload 4, 2) := by decide +kernel
theorem dX12_lesser_93 : decode cX12_lesser 93 = .ok (.invokevirtual 46, 3) := by decide +kernel
theorem dX12_lesser_96 : decode cX12_lesser 96 = .ok (.iload_n 1, 1) := by decide +kernel
theorem dX12_lesser_97 : decode cX12_lesser 97 = .ok (.if_icmp .gt 15, 3) := by decide +kernel
theorem dX12_lesser_100 : decode cX12_lesser 100 = .ok (.iload 5, 2) := by decide +kernel
theorem dX12_lesser_102 : decode cX12_lesser 102 = .ok (.iload_n 3, 1) := by decide +kernel
theorem dX12_lesser_103 : decode cX12_lesser 103 = .ok (.if_icmp .lt 9, 3) := by decide +kernel
theorem dX12_lesser_106 : decode cX12_lesser 106 = .ok (.iload 5, 2) := by decide +kernel
theorem dX12_lesser_108 : decode cX12_lesser 108 = .ok (.istore_n 3, 1) := by decide +kernel
theorem dX12_lesser_109 : decode cX12_lesser 109 = .ok (.iload 4, 2) := by decide +kernel
theorem dX12_lesser_111 : decode cX12_lesser 111 = .ok (.istore_n 2, 1) := by decide +kernel
theorem dX12_lesser_112 : decode cX12_lesser 112 = .ok (.iinc 4 1, 3) := by decide +kernel
theorem dX12_lesser_115 : decode cX12_lesser 115 = .ok (.goto (-93), 3) := by decide +kernel
theorem dX12_lesser_118 : decode cX12_lesser 118 = .ok (.iload_n 2, 1) := by decide +kernel
theorem dX12_lesser_119 : decode cX12_lesser 119 = .ok (.ireturn, 1) := by decide +kernel
theorem dX12_weights_0 : decode cX12_weights 0 = .ok (.iconst 0, 1) := by decide +kernel
theorem dX12_weights_1 : decode cX12_weights 1 = .ok (.istore_n 1, 1) := by decide +kernel
theorem dX12_weights_2 : decode cX12_weights 2 = .ok (.iconst 0, 1) := by decide +kernel
theorem dX12_weights_3 : decode cX12_weights 3 = .ok (.istore_n 2, 1) := by decide +kernel
theorem dX12_weights_4 : decode cX12_weights 4 = .ok (.iload_n 2, 1) := by decide +kernel
theorem dX12_weights_5 : decode cX12_weights 5 = .ok (.aload_n 0, 1) := by decide +kernel
theorem dX12_weights_6 : decode cX12_weights 6 = .ok (.getfield 7, 3) := by decide +kernel
theorem dX12_weights_9 : decode cX12_weights 9 = .ok (.iconst 2, 1) := by decide +kernel
theorem dX12_weights_10 : decode cX12_weights 10 = .ok (.iaload, 1) := by decide +kernel
theorem dX12_weights_11 : decode cX12_weights 11 = .ok (.if_icmp .ge 35, 3) := by decide +kernel
theorem dX12_weights_14 : decode cX12_weights 14 = .ok (.iload_n 1, 1) := by decide +kernel
theorem dX12_weights_15 : decode cX12_weights 15 = .ok (.aload_n 0, 1) := by decide +kernel
theorem dX12_weights_16 : decode cX12_weights 16 = .ok (.getfield 7, 3) := by decide +kernel
theorem dX12_weights_19 : decode cX12_weights 19 = .ok (.iload_n 2, 1) := by decide +kernel
theorem dX12_weights_20 : decode cX12_weights 20 = .ok (.invokestatic 35, 3) := by decide +kernel
theorem dX12_weights_23 : decode cX12_weights 23 = .ok (.iconst 2, 1) := by decide +kernel
theorem dX12_weights_24 : decode cX12_weights 24 = .ok (.iadd, 1) := by decide +kernel
theorem dX12_weights_25 : decode cX12_weights 25 = .ok (.iaload, 1) := by decide +kernel
theorem dX12_weights_26 : decode cX12_weights 26 = .ok (.aload_n 0, 1) := by decide +kernel
theorem dX12_weights_27 : decode cX12_weights 27 = .ok (.getfield 7, 3) := by decide +kernel
theorem dX12_weights_30 : decode cX12_weights 30 = .ok (.iload_n 2, 1) := by decide +kernel
theorem dX12_weights_31 : decode cX12_weights 31 = .ok (.invokestatic 35, 3) := by decide +kernel
theorem dX12_weights_34 : decode cX12_weights 34 = .ok (.iconst 1, 1) := by decide +kernel
theorem dX12_weights_35 : decode cX12_weights 35 = .ok (.iadd, 1) := by decide +kernel
theorem dX12_weights_36 : decode cX12_weights 36 = .ok (.iaload, 1) := by decide +kernel
theorem dX12_weights_37 : decode cX12_weights 37 = .ok (.imul, 1) := by decide +kernel
theorem dX12_weights_38 : decode cX12_weights 38 = .ok (.iadd, 1) := by decide +kernel
theorem dX12_weights_39 : decode cX12_weights 39 = .ok (.istore_n 1, 1) := by decide +kernel
theorem dX12_weights_40 : decode cX12_weights 40 = .ok (.iinc 2 1, 3) := by decide +kernel
theorem dX12_weights_43 : decode cX12_weights 43 = .ok (.goto (-39), 3) := by decide +kernel
theorem dX12_weights_46 : decode cX12_weights 46 = .ok (.iload_n 1, 1) := by decide +kernel
theorem dX12_weights_47 : decode cX12_weights 47 = .ok (.ireturn, 1) := by decide +kernel
theorem dX12_lostMany_0 : decode cX12_lostMany 0 = .ok (.iconst 0, 1) := by decide +kernel
theorem dX12_lostMany_1 : decode cX12_lostMany 1 = .ok (.istore_n 1, 1) := by decide +kernel
theorem dX12_lostMany_2 : decode cX12_lostMany 2 = .ok (.iconst 0, 1) := by decide +kernel
theorem dX12_lostMany_3 : decode cX12_lostMany 3 = .ok (.istore_n 2, 1) := by decide +kernel
theorem dX12_lostMany_4 : decode cX12_lostMany 4 = .ok (.iload_n 2, 1) := by decide +kernel
theorem dX12_lostMany_5 : decode cX12_lostMany 5 = .ok (.aload_n 0, 1) := by decide +kernel
theorem dX12_lostMany_6 : decode cX12_lostMany 6 = .ok (.getfield 7, 3) := by decide +kernel
theorem dX12_lostMany_9 : decode cX12_lostMany 9 = .ok (.bipush 94, 2) := by decide +kernel
theorem dX12_lostMany_11 : decode cX12_lostMany 11 = .ok (.iaload, 1) := by decide +kernel
theorem dX12_lostMany_12 : decode cX12_lostMany 12 = .ok (.if_icmp .ge 21, 3) := by decide +kernel
theorem dX12_lostMany_15 : decode cX12_lostMany 15 = .ok (.iload_n 1, 1) := by decide +kernel
theorem dX12_lostMany_16 : decode cX12_lostMany 16 = .ok (.aload_n 0, 1) := by decide +kernel
theorem dX12_lostMany_17 : decode cX12_lostMany 17 = .ok (.getfield 7, 3) := by decide +kernel
theorem dX12_lostMany_20 : decode cX12_lostMany 20 = .ok (.bipush 114, 2) := by decide +kernel
theorem dX12_lostMany_22 : decode cX12_lostMany 22 = .ok (.iload_n 2, 1) := by decide +kernel
theorem dX12_lostMany_23 : decode cX12_lostMany 23 = .ok (.iadd, 1) := by decide +kernel
theorem dX12_lostMany_24 : decode cX12_lostMany 24 = .ok (.iaload, 1) := by decide +kernel
theorem dX12_lostMany_25 : decode cX12_lostMany 25 = .ok (.iadd, 1) := by decide +kernel
theorem dX12_lostMany_26 : decode cX12_lostMany 26 = .ok (.istore_n 1, 1) := by decide +kernel
theorem dX12_lostMany_27 : decode cX12_lostMany 27 = .ok (.iinc 2 1, 3) := by decide +kernel
theorem dX12_lostMany_30 : decode cX12_lostMany 30 = .ok (.goto (-26), 3) := by decide +kernel
theorem dX12_lostMany_33 : decode cX12_lostMany 33 = .ok (.iload_n 1, 1) := by decide +kernel
theorem dX12_lostMany_34 : decode cX12_lostMany 34 = .ok (.ireturn, 1) := by decide +kernel
theorem dX12_inState_0 : decode cX12_inState 0 = .ok (.iconst 0, 1) := by decide +kernel
theorem dX12_inState_1 : decode cX12_inState 1 = .ok (.istore_n 2, 1) := by decide +kernel
theorem dX12_inState_2 : decode cX12_inState 2 = .ok (.iconst 0, 1) := by decide +kernel
theorem dX12_inState_3 : decode cX12_inState 3 = .ok (.istore_n 3, 1) := by decide +kernel
theorem dX12_inState_4 : decode cX12_inState 4 = .ok (.iload_n 3, 1) := by decide +kernel
theorem dX12_inState_5 : decode cX12_inState 5 = .ok (.aload_n 0, 1) := by decide +kernel
theorem dX12_inState_6 : decode cX12_inState 6 = .ok (.getfield 7, 3) := by decide +kernel
theorem dX12_inState_9 : decode cX12_inState 9 = .ok (.bipush 93, 2) := by decide +kernel
theorem dX12_inState_11 : decode cX12_inState 11 = .ok (.iaload, 1) := by decide +kernel
theorem dX12_inState_12 : decode cX12_inState 12 = .ok (.if_icmp .ge 26, 3) := by decide +kernel
theorem dX12_inState_15 : decode cX12_inState 15 = .ok (.iload_n 2, 1) := by decide +kernel
theorem dX12_inState_16 : decode cX12_inState 16 = .ok (.aload_n 0, 1) := by decide +kernel
theorem dX12_inState_17 : decode cX12_inState 17 = .ok (.iload_n 3, 1) := by decide +kernel
theorem dX12_inState_18 : decode cX12_inState 18 = .ok (.invokevirtual 190, 3) := by decide +kernel
theorem dX12_inState_21 : decode cX12_inState 21 = .ok (.iload_n 1, 1) := by decide +kernel
theorem dX12_inState_22 : decode cX12_inState 22 = .ok (.if_icmp .ne 7, 3) := by decide +kernel
theorem dX12_inState_25 : decode cX12_inState 25 = .ok (.iconst 1, 1) := by decide +kernel
theorem dX12_inState_26 : decode cX12_inState 26 = .ok (.goto 4, 3) := by decide +kernel
theorem dX12_inState_29 : decode cX12_inState 29 = .ok (.iconst 0, 1) := by decide +kernel
theorem dX12_inState_30 : decode cX12_inState 30 = .ok (.iadd, 1) := by decide +kernel
theorem dX12_inState_31 : decode cX12_inState 31 = .ok (.istore_n 2, 1) := by decide +kernel
theorem dX12_inState_32 : decode cX12_inState 32 = .ok (.iinc 3 1, 3) := by decide +kernel
theorem dX12_inState_35 : decode cX12_inState 35 = .ok (.goto (-31), 3) := by decide +kernel
theorem dX12_inState_38 : decode cX12_inState 38 = .ok (.iload_n 2, 1) := by decide +kernel
theorem dX12_inState_39 : decode cX12_inState 39 = .ok (.ireturn, 1) := by decide +kernel
theorem dX12_count_0 : decode cX12_count 0 = .ok (.iload_n 1, 1) := by decide +kernel
theorem dX12_count_1 : decode cX12_count 1 = .ok (.tableswitch 177 0 14 #[75, 82, 89, 96, 103, 116, 121, 126, 134, 142, 150, 155, 161, 167, 172], 75) := by decide +kernel
theorem dX12_count_76 : decode cX12_count 76 = .ok (.aload_n 0, 1) := by decide +kernel
theorem dX12_count_77 : decode cX12_count 77 = .ok (.getfield 7, 3) := by decide +kernel
theorem dX12_count_80 : decode cX12_count 80 = .ok (.iconst 2, 1) := by decide +kernel
theorem dX12_count_81 : decode cX12_count 81 = .ok (.iaload, 1) := by decide +kernel
theorem dX12_count_82 : decode cX12_count 82 = .ok (.ireturn, 1) := by decide +kernel
theorem dX12_count_83 : decode cX12_count 83 = .ok (.aload_n 0, 1) := by decide +kernel
theorem dX12_count_84 : decode cX12_count 84 = .ok (.getfield 7, 3) := by decide +kernel
theorem dX12_count_87 : decode cX12_count 87 = .ok (.iconst 0, 1) := by decide +kernel
theorem dX12_count_88 : decode cX12_count 88 = .ok (.iaload, 1) := by decide +kernel
theorem dX12_count_89 : decode cX12_count 89 = .ok (.ireturn, 1) := by decide +kernel
theorem dX12_count_90 : decode cX12_count 90 = .ok (.aload_n 0, 1) := by decide +kernel
theorem dX12_count_91 : decode cX12_count 91 = .ok (.getfield 7, 3) := by decide +kernel
theorem dX12_count_94 : decode cX12_count 94 = .ok (.iconst 1, 1) := by decide +kernel
theorem dX12_count_95 : decode cX12_count 95 = .ok (.iaload, 1) := by decide +kernel
theorem dX12_count_96 : decode cX12_count 96 = .ok (.ireturn, 1) := by decide +kernel
theorem dX12_count_97 : decode cX12_count 97 = .ok (.aload_n 0, 1) := by decide +kernel
theorem dX12_count_98 : decode cX12_count 98 = .ok (.bipush 63, 2) := by decide +kernel
theorem dX12_count_100 : decode cX12_count 100 = .ok (.invokevirtual 46, 3) := by decide +kernel
theorem dX12_count_103 : decode cX12_count 103 = .ok (.ireturn, 1) := by decide +kernel
theorem dX12_count_104 : decode cX12_count 104 = .ok (.aload_n 0, 1) := by decide +kernel
theorem dX12_count_105 : decode cX12_count 105 = .ok (.invokevirtual 136, 3) := by decide +kernel
theorem dX12_count_108 : decode cX12_count 108 = .ok (.ifCond .eq 7, 3) := by decide +kernel
theorem dX12_count_111 : decode cX12_count 111 = .ok (.iconst 1, 1) := by decide +kernel
theorem dX12_count_112 : decode cX12_count 112 = .ok (.goto 4, 3) := by decide +kernel
theorem dX12_count_115 : decode cX12_count 115 = .ok (.iconst 0, 1) := by decide +kernel
theorem dX12_count_116 : decode cX12_count 116 = .ok (.ireturn, 1) := by decide +kernel
theorem dX12_count_117 : decode cX12_count 117 = .ok (.aload_n 0, 1) := by decide +kernel
theorem dX12_count_118 : decode cX12_count 118 = .ok (.invokevirtual 206, 3) := by decide +kernel
theorem dX12_count_121 : decode cX12_count 121 = .ok (.ireturn, 1) := by decide +kernel
theorem dX12_count_122 : decode cX12_count 122 = .ok (.aload_n 0, 1) := by decide +kernel
theorem dX12_count_123 : decode cX12_count 123 = .ok (.invokevirtual 203, 3) := by decide +kernel
theorem dX12_count_126 : decode cX12_count 126 = .ok (.ireturn, 1) := by decide +kernel
theorem dX12_count_127 : decode cX12_count 127 = .ok (.aload_n 0, 1) := by decide +kernel
theorem dX12_count_128 : decode cX12_count 128 = .ok (.getfield 7, 3) := by decide +kernel
theorem dX12_count_131 : decode cX12_count 131 = .ok (.bipush 93, 2) := by decide +kernel
theorem dX12_count_133 : decode cX12_count 133 = .ok (.iaload, 1) := by decide +kernel
theorem dX12_count_134 : decode cX12_count 134 = .ok (.ireturn, 1) := by decide +kernel
theorem dX12_count_135 : decode cX12_count 135 = .ok (.aload_n 0, 1) := by decide +kernel
theorem dX12_count_136 : decode cX12_count 136 = .ok (.getfield 7, 3) := by decide +kernel
theorem dX12_count_139 : decode cX12_count 139 = .ok (.bipush 94, 2) := by decide +kernel
theorem dX12_count_141 : decode cX12_count 141 = .ok (.iaload, 1) := by decide +kernel
theorem dX12_count_142 : decode cX12_count 142 = .ok (.ireturn, 1) := by decide +kernel
theorem dX12_count_143 : decode cX12_count 143 = .ok (.aload_n 0, 1) := by decide +kernel
theorem dX12_count_144 : decode cX12_count 144 = .ok (.getfield 7, 3) := by decide +kernel
theorem dX12_count_147 : decode cX12_count 147 = .ok (.bipush 95, 2) := by decide +kernel
theorem dX12_count_149 : decode cX12_count 149 = .ok (.iaload, 1) := by decide +kernel
theorem dX12_count_150 : decode cX12_count 150 = .ok (.ireturn, 1) := by decide +kernel
theorem dX12_count_151 : decode cX12_count 151 = .ok (.aload_n 0, 1) := by decide +kernel
theorem dX12_count_152 : decode cX12_count 152 = .ok (.invokevirtual 209, 3) := by decide +kernel
theorem dX12_count_155 : decode cX12_count 155 = .ok (.ireturn, 1) := by decide +kernel
theorem dX12_count_156 : decode cX12_count 156 = .ok (.aload_n 0, 1) := by decide +kernel
theorem dX12_count_157 : decode cX12_count 157 = .ok (.iconst 0, 1) := by decide +kernel
theorem dX12_count_158 : decode cX12_count 158 = .ok (.invokevirtual 212, 3) := by decide +kernel
theorem dX12_count_161 : decode cX12_count 161 = .ok (.ireturn, 1) := by decide +kernel
theorem dX12_count_162 : decode cX12_count 162 = .ok (.aload_n 0, 1) := by decide +kernel
theorem dX12_count_163 : decode cX12_count 163 = .ok (.iconst 2, 1) := by decide +kernel
theorem dX12_count_164 : decode cX12_count 164 = .ok (.invokevirtual 212, 3) := by decide +kernel
theorem dX12_count_167 : decode cX12_count 167 = .ok (.ireturn, 1) := by decide +kernel
theorem dX12_count_168 : decode cX12_count 168 = .ok (.aload_n 0, 1) := by decide +kernel
theorem dX12_count_169 : decode cX12_count 169 = .ok (.getfield 108, 3) := by decide +kernel
theorem dX12_count_172 : decode cX12_count 172 = .ok (.ireturn, 1) := by decide +kernel
theorem dX12_count_173 : decode cX12_count 173 = .ok (.aload_n 0, 1) := by decide +kernel
theorem dX12_count_174 : decode cX12_count 174 = .ok (.getfield 51, 3) := by decide +kernel
theorem dX12_count_177 : decode cX12_count 177 = .ok (.ireturn, 1) := by decide +kernel
theorem dX12_count_178 : decode cX12_count 178 = .ok (.bipush (-3), 2) := by decide +kernel
theorem dX12_count_180 : decode cX12_count 180 = .ok (.ireturn, 1) := by decide +kernel
theorem dJ6_bitCount_0f7a4_0 : decode cJ6_bitCount_0f7a4 0 = .ok (.iload_n 0, 1) := by decide +kernel
theorem dJ6_bitCount_0f7a4_1 : decode cJ6_bitCount_0f7a4 1 = .ok (.iload_n 0, 1) := by decide +kernel
theorem dJ6_bitCount_0f7a4_2 : decode cJ6_bitCount_0f7a4 2 = .ok (.iconst 1, 1) := by decide +kernel
theorem dJ6_bitCount_0f7a4_3 : decode cJ6_bitCount_0f7a4 3 = .ok (.iushr, 1) := by decide +kernel
theorem dJ6_bitCount_0f7a4_4 : decode cJ6_bitCount_0f7a4 4 = .ok (.ldc_w 265, 3) := by decide +kernel
theorem dJ6_bitCount_0f7a4_7 : decode cJ6_bitCount_0f7a4 7 = .ok (.iand, 1) := by decide +kernel
theorem dJ6_bitCount_0f7a4_8 : decode cJ6_bitCount_0f7a4 8 = .ok (.isub, 1) := by decide +kernel
theorem dJ6_bitCount_0f7a4_9 : decode cJ6_bitCount_0f7a4 9 = .ok (.istore_n 0, 1) := by decide +kernel
theorem dJ6_bitCount_0f7a4_10 : decode cJ6_bitCount_0f7a4 10 = .ok (.iload_n 0, 1) := by decide +kernel
theorem dJ6_bitCount_0f7a4_11 : decode cJ6_bitCount_0f7a4 11 = .ok (.ldc_w 266, 3) := by decide +kernel
theorem dJ6_bitCount_0f7a4_14 : decode cJ6_bitCount_0f7a4 14 = .ok (.iand, 1) := by decide +kernel
theorem dJ6_bitCount_0f7a4_15 : decode cJ6_bitCount_0f7a4 15 = .ok (.iload_n 0, 1) := by decide +kernel
theorem dJ6_bitCount_0f7a4_16 : decode cJ6_bitCount_0f7a4 16 = .ok (.iconst 2, 1) := by decide +kernel
theorem dJ6_bitCount_0f7a4_17 : decode cJ6_bitCount_0f7a4 17 = .ok (.iushr, 1) := by decide +kernel
theorem dJ6_bitCount_0f7a4_18 : decode cJ6_bitCount_0f7a4 18 = .ok (.ldc_w 266, 3) := by decide +kernel
theorem dJ6_bitCount_0f7a4_21 : decode cJ6_bitCount_0f7a4 21 = .ok (.iand, 1) := by decide +kernel
theorem dJ6_bitCount_0f7a4_22 : decode cJ6_bitCount_0f7a4 22 = .ok (.iadd, 1) := by decide +kernel
theorem dJ6_bitCount_0f7a4_23 : decode cJ6_bitCount_0f7a4 23 = .ok (.istore_n 0, 1) := by decide +kernel
theorem dJ6_bitCount_0f7a4_24 : decode cJ6_bitCount_0f7a4 24 = .ok (.iload_n 0, 1) := by decide +kernel
theorem dJ6_bitCount_0f7a4_25 : decode cJ6_bitCount_0f7a4 25 = .ok (.iload_n 0, 1) := by decide +kernel
theorem dJ6_bitCount_0f7a4_26 : decode cJ6_bitCount_0f7a4 26 = .ok (.iconst 4, 1) := by decide +kernel
theorem dJ6_bitCount_0f7a4_27 : decode cJ6_bitCount_0f7a4 27 = .ok (.iushr, 1) := by decide +kernel
theorem dJ6_bitCount_0f7a4_28 : decode cJ6_bitCount_0f7a4 28 = .ok (.iadd, 1) := by decide +kernel
theorem dJ6_bitCount_0f7a4_29 : decode cJ6_bitCount_0f7a4 29 = .ok (.ldc_w 267, 3) := by decide +kernel
theorem dJ6_bitCount_0f7a4_32 : decode cJ6_bitCount_0f7a4 32 = .ok (.iand, 1) := by decide +kernel
theorem dJ6_bitCount_0f7a4_33 : decode cJ6_bitCount_0f7a4 33 = .ok (.istore_n 0, 1) := by decide +kernel
theorem dJ6_bitCount_0f7a4_34 : decode cJ6_bitCount_0f7a4 34 = .ok (.iload_n 0, 1) := by decide +kernel
theorem dJ6_bitCount_0f7a4_35 : decode cJ6_bitCount_0f7a4 35 = .ok (.iload_n 0, 1) := by decide +kernel
theorem dJ6_bitCount_0f7a4_36 : decode cJ6_bitCount_0f7a4 36 = .ok (.bipush 8, 2) := by decide +kernel
theorem dJ6_bitCount_0f7a4_38 : decode cJ6_bitCount_0f7a4 38 = .ok (.iushr, 1) := by decide +kernel
theorem dJ6_bitCount_0f7a4_39 : decode cJ6_bitCount_0f7a4 39 = .ok (.iadd, 1) := by decide +kernel
theorem dJ6_bitCount_0f7a4_40 : decode cJ6_bitCount_0f7a4 40 = .ok (.istore_n 0, 1) := by decide +kernel
theorem dJ6_bitCount_0f7a4_41 : decode cJ6_bitCount_0f7a4 41 = .ok (.iload_n 0, 1) := by decide +kernel
theorem dJ6_bitCount_0f7a4_42 : decode cJ6_bitCount_0f7a4 42 = .ok (.iload_n 0, 1) := by decide +kernel
theorem dJ6_bitCount_0f7a4_43 : decode cJ6_bitCount_0f7a4 43 = .ok (.bipush 16, 2) := by decide +kernel
theorem dJ6_bitCount_0f7a4_45 : decode cJ6_bitCount_0f7a4 45 = .ok (.iushr, 1) := by decide +kernel
theorem dJ6_bitCount_0f7a4_46 : decode cJ6_bitCount_0f7a4 46 = .ok (.iadd, 1) := by decide +kernel
theorem dJ6_bitCount_0f7a4_47 : decode cJ6_bitCount_0f7a4 47 = .ok (.istore_n 0, 1) := by decide +kernel
theorem dJ6_bitCount_0f7a4_48 : decode cJ6_bitCount_0f7a4 48 = .ok (.iload_n 0, 1) := by decide +kernel
theorem dJ6_bitCount_0f7a4_49 : decode cJ6_bitCount_0f7a4 49 = .ok (.bipush 63, 2) := by decide +kernel
theorem dJ6_bitCount_0f7a4_51 : decode cJ6_bitCount_0f7a4 51 = .ok (.iand, 1) := by decide +kernel
theorem dJ6_bitCount_0f7a4_52 : decode cJ6_bitCount_0f7a4 52 = .ok (.ireturn, 1) := by decide +kernel
theorem dJ9_floorMod_7cf53_0 : decode cJ9_floorMod_7cf53 0 = .ok (.iload_n 0, 1) := by decide +kernel
theorem dJ9_floorMod_7cf53_1 : decode cJ9_floorMod_7cf53 1 = .ok (.iload_n 1, 1) := by decide +kernel
theorem dJ9_floorMod_7cf53_2 : decode cJ9_floorMod_7cf53 2 = .ok (.irem, 1) := by decide +kernel
theorem dJ9_floorMod_7cf53_3 : decode cJ9_floorMod_7cf53 3 = .ok (.istore_n 2, 1) := by decide +kernel
theorem dJ9_floorMod_7cf53_4 : decode cJ9_floorMod_7cf53 4 = .ok (.iload_n 0, 1) := by decide +kernel
theorem dJ9_floorMod_7cf53_5 : decode cJ9_floorMod_7cf53 5 = .ok (.iload_n 1, 1) := by decide +kernel
theorem dJ9_floorMod_7cf53_6 : decode cJ9_floorMod_7cf53 6 = .ok (.ixor, 1) := by decide +kernel
theorem dJ9_floorMod_7cf53_7 : decode cJ9_floorMod_7cf53 7 = .ok (.ifCond .ge 11, 3) := by decide +kernel
theorem dJ9_floorMod_7cf53_10 : decode cJ9_floorMod_7cf53 10 = .ok (.iload_n 2, 1) := by decide +kernel
theorem dJ9_floorMod_7cf53_11 : decode cJ9_floorMod_7cf53 11 = .ok (.ifCond .eq 7, 3) := by decide +kernel
theorem dJ9_floorMod_7cf53_14 : decode cJ9_floorMod_7cf53 14 = .ok (.iload_n 2, 1) := by decide +kernel
theorem dJ9_floorMod_7cf53_15 : decode cJ9_floorMod_7cf53 15 = .ok (.iload_n 1, 1) := by decide +kernel
theorem dJ9_floorMod_7cf53_16 : decode cJ9_floorMod_7cf53 16 = .ok (.iadd, 1) := by decide +kernel
theorem dJ9_floorMod_7cf53_17 : decode cJ9_floorMod_7cf53 17 = .ok (.ireturn, 1) := by decide +kernel
theorem dJ9_floorMod_7cf53_18 : decode cJ9_floorMod_7cf53 18 = .ok (.iload_n 2, 1) := by decide +kernel
theorem dJ9_floorMod_7cf53_19 : decode cJ9_floorMod_7cf53 19 = .ok (.ireturn, 1) := by decide +kernel
theorem dJ9_max_7cf53_0 : decode cJ9_max_7cf53 0 = .ok (.iload_n 0, 1) := by decide +kernel
theorem dJ9_max_7cf53_1 : decode cJ9_max_7cf53 1 = .ok (.iload_n 1, 1) := by decide +kernel
theorem dJ9_max_7cf53_2 : decode cJ9_max_7cf53 2 = .ok (.if_icmp .lt 7, 3) := by decide +kernel
theorem dJ9_max_7cf53_5 : decode cJ9_max_7cf53 5 = .ok (.iload_n 0, 1) := by decide +kernel
theorem dJ9_max_7cf53_6 : decode cJ9_max_7cf53 6 = .ok (.goto 4, 3) := by decide +kernel
theorem dJ9_max_7cf53_9 : decode cJ9_max_7cf53 9 = .ok (.iload_n 1, 1) := by decide +kernel
theorem dJ9_max_7cf53_10 : decode cJ9_max_7cf53 10 = .ok (.ireturn, 1) := by decide +kernel
theorem dJ9_min_7cf53_0 : decode cJ9_min_7cf53 0 = .ok (.iload_n 0, 1) := by decide +kernel
theorem dJ9_min_7cf53_1 : decode cJ9_min_7cf53 1 = .ok (.iload_n 1, 1) := by decide +kernel
theorem dJ9_min_7cf53_2 : decode cJ9_min_7cf53 2 = .ok (.if_icmp .gt 7, 3) := by decide +kernel
theorem dJ9_min_7cf53_5 : decode cJ9_min_7cf53 5 = .ok (.iload_n 0, 1) := by decide +kernel
theorem dJ9_min_7cf53_6 : decode cJ9_min_7cf53 6 = .ok (.goto 4, 3) := by decide +kernel
theorem dJ9_min_7cf53_9 : decode cJ9_min_7cf53 9 = .ok (.iload_n 1, 1) := by decide +kernel
theorem dJ9_min_7cf53_10 : decode cJ9_min_7cf53 10 = .ok (.ireturn, 1) := by decide +kernel
theorem dJ0_length_8abf5_0 : decode cJ0_length_8abf5 0 = .ok (.aload_n 0, 1) := by decide +kernel
theorem dJ0_length_8abf5_1 : decode cJ0_length_8abf5 1 = .ok (.getfield 9, 3) := by decide +kernel
theorem dJ0_length_8abf5_4 : decode cJ0_length_8abf5 4 = .ok (.arraylength, 1) := by decide +kernel
theorem dJ0_length_8abf5_5 : decode cJ0_length_8abf5 5 = .ok (.aload_n 0, 1) := by decide +kernel
theorem dJ0_length_8abf5_6 : decode cJ0_length_8abf5 6 = .ok (.invokevirtual 335, 3) := by decide +kernel
theorem dJ0_length_8abf5_9 : decode cJ0_length_8abf5 9 = .ok (.ishr, 1) := by decide +kernel
theorem dJ0_length_8abf5_10 : decode cJ0_length_8abf5 10 = .ok (.ireturn, 1) := by decide +kernel
theorem dJ0_charAt_5068e_0 : decode cJ0_charAt_5068e 0 = .ok (.aload_n 0, 1) := by decide +kernel
theorem dJ0_charAt_5068e_1 : decode cJ0_charAt_5068e 1 = .ok (.invokevirtual 492, 3) := by decide +kernel
theorem dJ0_charAt_5068e_4 : decode cJ0_charAt_5068e 4 = .ok (.ifCond .eq 12, 3) := by decide +kernel
theorem dJ0_charAt_5068e_7 : decode cJ0_charAt_5068e 7 = .ok (.aload_n 0, 1) := by decide +kernel
theorem dJ0_charAt_5068e_8 : decode cJ0_charAt_5068e 8 = .ok (.getfield 9, 3) := by decide +kernel
theorem dJ0_charAt_5068e_11 : decode cJ0_charAt_5068e 11 = .ok (.iload_n 1, 1) := by decide +kernel
theorem dJ0_charAt_5068e_12 : decode cJ0_charAt_5068e 12 = .ok (.invokestatic 495, 3) := by decide +kernel
theorem dJ0_charAt_5068e_15 : decode cJ0_charAt_5068e 15 = .ok (.ireturn, 1) := by decide +kernel
theorem dJ0_charAt_5068e_16 : decode cJ0_charAt_5068e 16 = .ok (.aload_n 0, 1) := by decide +kernel
theorem dJ0_charAt_5068e_17 : decode cJ0_charAt_5068e 17 = .ok (.getfield 9, 3) := by decide +kernel
theorem dJ0_charAt_5068e_20 : decode cJ0_charAt_5068e 20 = .ok (.iload_n 1, 1) := by decide +kernel
theorem dJ0_charAt_5068e_21 : decode cJ0_charAt_5068e 21 = .ok (.invokestatic 498, 3) := by decide +kernel
theorem dJ0_charAt_5068e_24 : decode cJ0_charAt_5068e 24 = .ok (.ireturn, 1) := by decide +kernel
theorem dJ0_coder_7d493_0 : decode cJ0_coder_7d493 0 = .ok (.getstatic 38, 3) := by decide +kernel
theorem dJ0_coder_7d493_3 : decode cJ0_coder_7d493 3 = .ok (.ifCond .eq 10, 3) := by decide +kernel
theorem dJ0_coder_7d493_6 : decode cJ0_coder_7d493 6 = .ok (.aload_n 0, 1) := by decide +kernel
theorem dJ0_coder_7d493_7 : decode cJ0_coder_7d493 7 = .ok (.getfield 15, 3) := by decide +kernel
theorem dJ0_coder_7d493_10 : decode cJ0_coder_7d493 10 = .ok (.goto 4, 3) := by decide +kernel
theorem dJ0_coder_7d493_13 : decode cJ0_coder_7d493 13 = .ok (.iconst 1, 1) := by decide +kernel
theorem dJ0_coder_7d493_14 : decode cJ0_coder_7d493 14 = .ok (.ireturn, 1) := by decide +kernel
theorem dJ0_isLatin1_aae02_0 : decode cJ0_isLatin1_aae02 0 = .ok (.getstatic 38, 3) := by decide +kernel
theorem dJ0_isLatin1_aae02_3 : decode cJ0_isLatin1_aae02 3 = .ok (.ifCond .eq 14, 3) := by decide +kernel
theorem dJ0_isLatin1_aae02_6 : decode cJ0_isLatin1_aae02 6 = .ok (.aload_n 0, 1) := by decide +kernel
theorem dJ0_isLatin1_aae02_7 : decode cJ0_isLatin1_aae02 7 = .ok (.getfield 15, 3) := by decide +kernel
theorem dJ0_isLatin1_aae02_10 : decode cJ0_isLatin1_aae02 10 = .ok (.ifCond .ne 7, 3) := by decide +kernel
theorem dJ0_isLatin1_aae02_13 : decode cJ0_isLatin1_aae02 13 = .ok (.iconst 1, 1) := by decide +kernel
theorem dJ0_isLatin1_aae02_14 : decode cJ0_isLatin1_aae02 14 = .ok (.goto 4, 3) := by decide +kernel
theorem dJ0_isLatin1_aae02_17 : decode cJ0_isLatin1_aae02 17 = .ok (.iconst 0, 1) := by decide +kernel
theorem dJ0_isLatin1_aae02_18 : decode cJ0_isLatin1_aae02 18 = .ok (.ireturn, 1) := by decide +kernel
theorem dJ0_checkIndex_df160_0 : decode cJ0_checkIndex_df160 0 = .ok (.iload_n 0, 1) := by decide +kernel
theorem dJ0_checkIndex_df160_1 : decode cJ0_checkIndex_df160 1 = .ok (.iload_n 1, 1) := by decide +kernel
theorem dJ0_checkIndex_df160_2 : decode cJ0_checkIndex_df160 2 = .ok (.getstatic 1053, 3) := by decide +kernel
theorem dJ0_checkIndex_df160_5 : decode cJ0_checkIndex_df160 5 = .ok (.invokestatic 1059, 3) := by decide +kernel
theorem dJ0_checkIndex_df160_8 : decode cJ0_checkIndex_df160 8 = .ok (.pop, 1) := by decide +kernel
theorem dJ0_checkIndex_df160_9 : decode cJ0_checkIndex_df160 9 = .ok (.return_, 1) := by decide +kernel
theorem dJ1_charAt_3b067_0 : decode cJ1_charAt_3b067 0 = .ok (.iload_n 1, 1) := by decide +kernel
theorem dJ1_charAt_3b067_1 : decode cJ1_charAt_3b067 1 = .ok (.aload_n 0, 1) := by decide +kernel
theorem dJ1_charAt_3b067_2 : decode cJ1_charAt_3b067 2 = .ok (.arraylength, 1) := by decide +kernel
theorem dJ1_charAt_3b067_3 : decode cJ1_charAt_3b067 3 = .ok (.invokestatic 9, 3) := by decide +kernel
theorem dJ1_charAt_3b067_6 : decode cJ1_charAt_3b067 6 = .ok (.aload_n 0, 1) := by decide +kernel
theorem dJ1_charAt_3b067_7 : decode cJ1_charAt_3b067 7 = .ok (.iload_n 1, 1) := by decide +kernel
theorem dJ1_charAt_3b067_8 : decode cJ1_charAt_3b067 8 = .ok (.baload, 1) := by decide +kernel
theorem dJ1_charAt_3b067_9 : decode cJ1_charAt_3b067 9 = .ok (.sipush 255, 3) := by decide +kernel
theorem dJ1_charAt_3b067_12 : decode cJ1_charAt_3b067 12 = .ok (.iand, 1) := by decide +kernel
theorem dJ1_charAt_3b067_13 : decode cJ1_charAt_3b067 13 = .ok (.i2c, 1) := by decide +kernel
theorem dJ1_charAt_3b067_14 : decode cJ1_charAt_3b067 14 = .ok (.ireturn, 1) := by decide +kernel
theorem dJ2_getChar_3b067_0 : decode cJ2_getChar_3b067 0 = .ok (.getstatic 44, 3) := by decide +kernel
theorem dJ2_getChar_3b067_3 : decode cJ2_getChar_3b067 3 = .ok (.ifCond .ne 25, 3) := by decide +kernel
theorem dJ2_getChar_3b067_6 : decode cJ2_getChar_3b067 6 = .ok (.iload_n 1, 1) := by decide +kernel
theorem dJ2_getChar_3b067_7 : decode cJ2_getChar_3b067 7 = .ok (.ifCond .lt 11, 3) := by decide +kernel
theorem dJ2_getChar_3b067_10 : decode cJ2_getChar_3b067 10 = .ok (.iload_n 1, 1) := by decide +kernel
theorem dJ2_getChar_3b067_11 : decode cJ2_getChar_3b067 11 = .ok (.aload_n 0, 1) := by decide +kernel
theorem dJ2_getChar_3b067_12 : decode cJ2_getChar_3b067 12 = .ok (.invokestatic 48, 3) := by decide +kernel
theorem dJ2_getChar_3b067_15 : decode cJ2_getChar_3b067 15 = .ok (.if_icmp .lt 13, 3) := by decide +kernel
theorem dJ2_getChar_3b067_18 : decode cJ2_getChar_3b067 18 = .ok (.new 52, 3) := by decide +kernel
theorem dJ2_getChar_3b067_21 : decode cJ2_getChar_3b067 21 = .ok (.dup, 1) := by decide +kernel
theorem dJ2_getChar_3b067_22 : decode cJ2_getChar_3b067 22 = .ok (.ldc 54, 2) := by decide +kernel
theorem dJ2_getChar_3b067_24 : decode cJ2_getChar_3b067 24 = .ok (.invokespecial 56, 3) := by decide +kernel
theorem dJ2_getChar_3b067_27 : decode cJ2_getChar_3b067 27 = .ok (.athrow, 1) := by decide +kernel
theorem dJ2_getChar_3b067_28 : decode cJ2_getChar_3b067 28 = .ok (.iload_n 1, 1) := by decide +kernel
theorem dJ2_getChar_3b067_29 : decode cJ2_getChar_3b067 29 = .ok (.iconst 1, 1) := by decide +kernel
theorem dJ2_getChar_3b067_30 : decode cJ2_getChar_3b067 30 = .ok (.ishl, 1) := by decide +kernel
theorem dJ2_getChar_3b067_31 : decode cJ2_getChar_3b067 31 = .ok (.istore_n 1, 1) := by decide +kernel
theorem dJ2_getChar_3b067_32 : decode cJ2_getChar_3b067 32 = .ok (.aload_n 0, 1) := by decide +kernel
theorem dJ2_getChar_3b067_33 : decode cJ2_getChar_3b067 33 = .ok (.iload_n 1, 1) := by decide +kernel
theorem dJ2_getChar_3b067_34 : decode cJ2_getChar_3b067 34 = .ok (.iinc 1 1, 3) := by decide +kernel
theorem dJ2_getChar_3b067_37 : decode cJ2_getChar_3b067 37 = .ok (.baload, 1) := by decide +kernel
theorem dJ2_getChar_3b067_38 : decode cJ2_getChar_3b067 38 = .ok (.sipush 255, 3) := by decide +kernel
theorem dJ2_getChar_3b067_41 : decode cJ2_getChar_3b067 41 = .ok (.iand, 1) := by decide +kernel
theorem dJ2_getChar_3b067_42 : decode cJ2_getChar_3b067 42 = .ok (.getstatic 59, 3) := by decide +kernel
theorem dJ2_getChar_3b067_45 : decode cJ2_getChar_3b067 45 = .ok (.ishl, 1) := by decide +kernel
theorem dJ2_getChar_3b067_46 : decode cJ2_getChar_3b067 46 = .ok (.aload_n 0, 1) := by decide +kernel
theorem dJ2_getChar_3b067_47 : decode cJ2_getChar_3b067 47 = .ok (.iload_n 1, 1) := by decide +kernel
theorem dJ2_getChar_3b067_48 : decode cJ2_getChar_3b067 48 = .ok (.baload, 1) := by decide +kernel
theorem dJ2_getChar_3b067_49 : decode cJ2_getChar_3b067 49 = .ok (.sipush 255, 3) := by decide +kernel
theorem dJ2_getChar_3b067_52 : decode cJ2_getChar_3b067 52 = .ok (.iand, 1) := by decide +kernel
theorem dJ2_getChar_3b067_53 : decode cJ2_getChar_3b067 53 = .ok (.getstatic 63, 3) := by decide +kernel
theorem dJ2_getChar_3b067_56 : decode cJ2_getChar_3b067 56 = .ok (.ishl, 1) := by decide +kernel
theorem dJ2_getChar_3b067_57 : decode cJ2_getChar_3b067 57 = .ok (.ior, 1) := by decide +kernel
theorem dJ2_getChar_3b067_58 : decode cJ2_getChar_3b067 58 = .ok (.i2c, 1) := by decide +kernel
theorem dJ2_getChar_3b067_59 : decode cJ2_getChar_3b067 59 = .ok (.ireturn, 1) := by decide +kernel
theorem dJ2_length_9d52b_0 : decode cJ2_length_9d52b 0 = .ok (.aload_n 0, 1) := by decide +kernel
theorem dJ2_length_9d52b_1 : decode cJ2_length_9d52b 1 = .ok (.arraylength, 1) := by decide +kernel
theorem dJ2_length_9d52b_2 : decode cJ2_length_9d52b 2 = .ok (.iconst 1, 1) := by decide +kernel
theorem dJ2_length_9d52b_3 : decode cJ2_length_9d52b 3 = .ok (.ishr, 1) := by decide +kernel
theorem dJ2_length_9d52b_4 : decode cJ2_length_9d52b 4 = .ok (.ireturn, 1) := by decide +kernel
theorem dJ2_charAt_3b067_0 : decode cJ2_charAt_3b067 0 = .ok (.iload_n 1, 1) := by decide +kernel
theorem dJ2_charAt_3b067_1 : decode cJ2_charAt_3b067 1 = .ok (.aload_n 0, 1) := by decide +kernel
theorem dJ2_charAt_3b067_2 : decode cJ2_charAt_3b067 2 = .ok (.invokestatic 67, 3) := by decide +kernel
theorem dJ2_charAt_3b067_5 : decode cJ2_charAt_3b067 5 = .ok (.aload_n 0, 1) := by decide +kernel
theorem dJ2_charAt_3b067_6 : decode cJ2_charAt_3b067 6 = .ok (.iload_n 1, 1) := by decide +kernel
theorem dJ2_charAt_3b067_7 : decode cJ2_charAt_3b067 7 = .ok (.invokestatic 71, 3) := by decide +kernel
theorem dJ2_charAt_3b067_10 : decode cJ2_charAt_3b067 10 = .ok (.ireturn, 1) := by decide +kernel
theorem dJ2_checkIndex_2214a_0 : decode cJ2_checkIndex_2214a 0 = .ok (.iload_n 0, 1) := by decide +kernel
theorem dJ2_checkIndex_2214a_1 : decode cJ2_checkIndex_2214a 1 = .ok (.aload_n 1, 1) := by decide +kernel
theorem dJ2_checkIndex_2214a_2 : decode cJ2_checkIndex_2214a 2 = .ok (.invokestatic 48, 3) := by decide +kernel
theorem dJ2_checkIndex_2214a_5 : decode cJ2_checkIndex_2214a 5 = .ok (.invokestatic 414, 3) := by decide +kernel
theorem dJ2_checkIndex_2214a_8 : decode cJ2_checkIndex_2214a 8 = .ok (.return_, 1) := by decide +kernel
theorem dJ3_checkIndex_8e157_0 : decode cJ3_checkIndex_8e157 0 = .ok (.iload_n 0, 1) := by decide +kernel
theorem dJ3_checkIndex_8e157_1 : decode cJ3_checkIndex_8e157 1 = .ok (.ifCond .lt 8, 3) := by decide +kernel
theorem dJ3_checkIndex_8e157_4 : decode cJ3_checkIndex_8e157 4 = .ok (.iload_n 0, 1) := by decide +kernel
theorem dJ3_checkIndex_8e157_5 : decode cJ3_checkIndex_8e157 5 = .ok (.iload_n 1, 1) := by decide +kernel
theorem dJ3_checkIndex_8e157_6 : decode cJ3_checkIndex_8e157 6 = .ok (.if_icmp .lt 10, 3) := by decide +kernel
theorem dJ3_checkIndex_8e157_9 : decode cJ3_checkIndex_8e157 9 = .ok (.aload_n 2, 1) := by decide +kernel
theorem dJ3_checkIndex_8e157_10 : decode cJ3_checkIndex_8e157 10 = .ok (.iload_n 0, 1) := by decide +kernel
theorem dJ3_checkIndex_8e157_11 : decode cJ3_checkIndex_8e157 11 = .ok (.iload_n 1, 1) := by decide +kernel
theorem dJ3_checkIndex_8e157_12 : decode cJ3_checkIndex_8e157 12 = .ok (.invokestatic 95, 3) := by decide +kernel
theorem dJ3_checkIndex_8e157_15 : decode cJ3_checkIndex_8e157 15 = .ok (.athrow, 1) := by decide +kernel
theorem dJ3_checkIndex_8e157_16 : decode cJ3_checkIndex_8e157 16 = .ok (.iload_n 0, 1) := by decide +kernel
theorem dJ3_checkIndex_8e157_17 : decode cJ3_checkIndex_8e157 17 = .ok (.ireturn, 1) := by decide +kernel
theorem dL_law_0 : decode cL_law 0 = .ok (.new 7, 3) := by decide +kernel
theorem dL_law_3 : decode cL_law 3 = .ok (.dup, 1) := by decide +kernel
theorem dL_law_4 : decode cL_law 4 = .ok (.invokespecial 9, 3) := by decide +kernel
theorem dL_law_7 : decode cL_law 7 = .ok (.astore_n 1, 1) := by decide +kernel
theorem dL_law_8 : decode cL_law 8 = .ok (.new 10, 3) := by decide +kernel
theorem dL_law_11 : decode cL_law 11 = .ok (.dup, 1) := by decide +kernel
theorem dL_law_12 : decode cL_law 12 = .ok (.invokespecial 12, 3) := by decide +kernel
theorem dL_law_15 : decode cL_law 15 = .ok (.astore_n 2, 1) := by decide +kernel
theorem dL_law_16 : decode cL_law 16 = .ok (.iconst 0, 1) := by decide +kernel
theorem dL_law_17 : decode cL_law 17 = .ok (.istore_n 3, 1) := by decide +kernel
theorem dL_law_18 : decode cL_law 18 = .ok (.iload_n 3, 1) := by decide +kernel
theorem dL_law_19 : decode cL_law 19 = .ok (.aload_n 0, 1) := by decide +kernel
theorem dL_law_20 : decode cL_law 20 = .ok (.arraylength, 1) := by decide +kernel
theorem dL_law_21 : decode cL_law 21 = .ok (.iconst 4, 1) := by decide +kernel
theorem dL_law_22 : decode cL_law 22 = .ok (.isub, 1) := by decide +kernel
theorem dL_law_23 : decode cL_law 23 = .ok (.if_icmp .gt 793, 3) := by decide +kernel
theorem dL_law_26 : decode cL_law 26 = .ok (.aload_n 0, 1) := by decide +kernel
theorem dL_law_27 : decode cL_law 27 = .ok (.iload_n 3, 1) := by decide +kernel
theorem dL_law_28 : decode cL_law 28 = .ok (.iaload, 1) := by decide +kernel
theorem dL_law_29 : decode cL_law 29 = .ok (.bipush 31, 2) := by decide +kernel
theorem dL_law_31 : decode cL_law 31 = .ok (.iand, 1) := by decide +kernel
theorem dL_law_32 : decode cL_law 32 = .ok (.tableswitch 778 0 25 #[120, 143, 156, 169, 182, 215, 248, 271, 294, 327, 360, 383, 396, 419, 452, 495, 518, 531, 564, 597, 630, 663, 686, 709, 732, 755], 120) := by decide +kernel
theorem dL_law_152 : decode cL_law 152 = .ok (.aload_n 1, 1) := by decide +kernel
theorem dL_law_153 : decode cL_law 153 = .ok (.aload_n 0, 1) := by decide +kernel
theorem dL_law_154 : decode cL_law 154 = .ok (.iload_n 3, 1) := by decide +kernel
theorem dL_law_155 : decode cL_law 155 = .ok (.iconst 1, 1) := by decide +kernel
theorem dL_law_156 : decode cL_law 156 = .ok (.iadd, 1) := by decide +kernel
theorem dL_law_157 : decode cL_law 157 = .ok (.iaload, 1) := by decide +kernel
theorem dL_law_158 : decode cL_law 158 = .ok (.invokevirtual 13, 3) := by decide +kernel
theorem dL_law_161 : decode cL_law 161 = .ok (.aload_n 2, 1) := by decide +kernel
theorem dL_law_162 : decode cL_law 162 = .ok (.aload_n 0, 1) := by decide +kernel
theorem dL_law_163 : decode cL_law 163 = .ok (.iload_n 3, 1) := by decide +kernel
theorem dL_law_164 : decode cL_law 164 = .ok (.iconst 1, 1) := by decide +kernel
theorem dL_law_165 : decode cL_law 165 = .ok (.iadd, 1) := by decide +kernel
theorem dL_law_166 : decode cL_law 166 = .ok (.iaload, 1) := by decide +kernel
theorem dL_law_167 : decode cL_law 167 = .ok (.invokevirtual 17, 3) := by decide +kernel
theorem dL_law_170 : decode cL_law 170 = .ok (.if_icmp .eq 640, 3) := by decide +kernel
theorem dL_law_173 : decode cL_law 173 = .ok (.iconst 0, 1) := by decide +kernel
theorem dL_law_174 : decode cL_law 174 = .ok (.ireturn, 1) := by decide +kernel
theorem dL_law_175 : decode cL_law 175 = .ok (.aload_n 1, 1) := by decide +kernel
theorem dL_law_176 : decode cL_law 176 = .ok (.invokevirtual 18, 3) := by decide +kernel
theorem dL_law_179 : decode cL_law 179 = .ok (.aload_n 2, 1) := by decide +kernel
theorem dL_law_180 : decode cL_law 180 = .ok (.invokevirtual 22, 3) := by decide +kernel
theorem dL_law_183 : decode cL_law 183 = .ok (.if_icmp .eq 627, 3) := by decide +kernel
theorem dL_law_186 : decode cL_law 186 = .ok (.iconst 0, 1) := by decide +kernel
theorem dL_law_187 : decode cL_law 187 = .ok (.ireturn, 1) := by decide +kernel
theorem dL_law_188 : decode cL_law 188 = .ok (.aload_n 1, 1) := by decide +kernel
theorem dL_law_189 : decode cL_law 189 = .ok (.invokevirtual 23, 3) := by decide +kernel
theorem dL_law_192 : decode cL_law 192 = .ok (.aload_n 2, 1) := by decide +kernel
theorem dL_law_193 : decode cL_law 193 = .ok (.invokevirtual 26, 3) := by decide +kernel
theorem dL_law_196 : decode cL_law 196 = .ok (.if_icmp .eq 614, 3) := by decide +kernel
theorem dL_law_199 : decode cL_law 199 = .ok (.iconst 0, 1) := by decide +kernel
theorem dL_law_200 : decode cL_law 200 = .ok (.ireturn, 1) := by decide +kernel
theorem dL_law_201 : decode cL_law 201 = .ok (.aload_n 1, 1) := by decide +kernel
theorem dL_law_202 : decode cL_law 202 = .ok (.invokevirtual 27, 3) := by decide +kernel
theorem dL_law_205 : decode cL_law 205 = .ok (.aload_n 2, 1) := by decide +kernel
theorem dL_law_206 : decode cL_law 206 = .ok (.invokevirtual 30, 3) := by decide +kernel
theorem dL_law_209 : decode cL_law 209 = .ok (.if_icmp .eq 601, 3) := by decide +kernel
theorem dL_law_212 : decode cL_law 212 = .ok (.iconst 0, 1) := by decide +kernel
theorem dL_law_213 : decode cL_law 213 = .ok (.ireturn, 1) := by decide +kernel
theorem dL_law_214 : decode cL_law 214 = .ok (.aload_n 1, 1) := by decide +kernel
theorem dL_law_215 : decode cL_law 215 = .ok (.aload_n 0, 1) := by decide +kernel
theorem dL_law_216 : decode cL_law 216 = .ok (.iload_n 3, 1) := by decide +kernel
theorem dL_law_217 : decode cL_law 217 = .ok (.iconst 1, 1) := by decide +kernel
theorem dL_law_218 : decode cL_law 218 = .ok (.iadd, 1) := by decide +kernel
theorem dL_law_219 : decode cL_law 219 = .ok (.iaload, 1) := by decide +kernel
theorem dL_law_220 : decode cL_law 220 = .ok (.aload_n 0, 1) := by decide +kernel
theorem dL_law_221 : decode cL_law 221 = .ok (.iload_n 3, 1) := by decide +kernel
theorem dL_law_222 : decode cL_law 222 = .ok (.iconst 2, 1) := by decide +kernel
theorem dL_law_223 : decode cL_law 223 = .ok (.iadd, 1) := by decide +kernel
theorem dL_law_224 : decode cL_law 224 = .ok (.iaload, 1) := by decide +kernel
theorem dL_law_225 : decode cL_law 225 = .ok (.invokevirtual 31, 3) := by decide +kernel
theorem dL_law_228 : decode cL_law 228 = .ok (.aload_n 2, 1) := by decide +kernel
theorem dL_law_229 : decode cL_law 229 = .ok (.aload_n 0, 1) := by decide +kernel
theorem dL_law_230 : decode cL_law 230 = .ok (.iload_n 3, 1) := by decide +kernel
theorem dL_law_231 : decode cL_law 231 = .ok (.iconst 1, 1) := by decide +kernel
theorem dL_law_232 : decode cL_law 232 = .ok (.iadd, 1) := by decide +kernel
theorem dL_law_233 : decode cL_law 233 = .ok (.iaload, 1) := by decide +kernel
theorem dL_law_234 : decode cL_law 234 = .ok (.aload_n 0, 1) := by decide +kernel
theorem dL_law_235 : decode cL_law 235 = .ok (.iload_n 3, 1) := by decide +kernel
theorem dL_law_236 : decode cL_law 236 = .ok (.iconst 2, 1) := by decide +kernel
theorem dL_law_237 : decode cL_law 237 = .ok (.iadd, 1) := by decide +kernel
theorem dL_law_238 : decode cL_law 238 = .ok (.iaload, 1) := by decide +kernel
theorem dL_law_239 : decode cL_law 239 = .ok (.invokevirtual 35, 3) := by decide +kernel
theorem dL_law_242 : decode cL_law 242 = .ok (.if_icmp .eq 568, 3) := by decide +kernel
theorem dL_law_245 : decode cL_law 245 = .ok (.iconst 0, 1) := by decide +kernel
theorem dL_law_246 : decode cL_law 246 = .ok (.ireturn, 1) := by decide +kernel
theorem dL_law_247 : decode cL_law 247 = .ok (.aload_n 1, 1) := by decide +kernel
theorem dL_law_248 : decode cL_law 248 = .ok (.aload_n 0, 1) := by decide +kernel
theorem dL_law_249 : decode cL_law 249 = .ok (.iload_n 3, 1) := by decide +kernel
theorem dL_law_250 : decode cL_law 250 = .ok (.iconst 1, 1) := by decide +kernel
theorem dL_law_251 : decode cL_law 251 = .ok (.iadd, 1) := by decide +kernel
theorem dL_law_252 : decode cL_law 252 = .ok (.iaload, 1) := by decide +kernel
theorem dL_law_253 : decode cL_law 253 = .ok (.aload_n 0, 1) := by decide +kernel
theorem dL_law_254 : decode cL_law 254 = .ok (.iload_n 3, 1) := by decide +kernel
theorem dL_law_255 : decode cL_law 255 = .ok (.iconst 2, 1) := by decide +kernel
theorem dL_law_256 : decode cL_law 256 = .ok (.iadd, 1) := by decide +kernel
theorem dL_law_257 : decode cL_law 257 = .ok (.iaload, 1) := by decide +kernel
theorem dL_law_258 : decode cL_law 258 = .ok (.invokevirtual 36, 3) := by decide +kernel
theorem dL_law_261 : decode cL_law 261 = .ok (.aload_n 2, 1) := by decide +kernel
theorem dL_law_262 : decode cL_law 262 = .ok (.aload_n 0, 1) := by decide +kernel
theorem dL_law_263 : decode cL_law 263 = .ok (.iload_n 3, 1) := by decide +kernel
theorem dL_law_264 : decode cL_law 264 = .ok (.iconst 1, 1) := by decide +kernel
theorem dL_law_265 : decode cL_law 265 = .ok (.iadd, 1) := by decide +kernel
theorem dL_law_266 : decode cL_law 266 = .ok (.iaload, 1) := by decide +kernel
theorem dL_law_267 : decode cL_law 267 = .ok (.aload_n 0, 1) := by decide +kernel
theorem dL_law_268 : decode cL_law 268 = .ok (.iload_n 3, 1) := by decide +kernel
theorem dL_law_269 : decode cL_law 269 = .ok (.iconst 2, 1) := by decide +kernel
theorem dL_law_270 : decode cL_law 270 = .ok (.iadd, 1) := by decide +kernel
theorem dL_law_271 : decode cL_law 271 = .ok (.iaload, 1) := by decide +kernel
theorem dL_law_272 : decode cL_law 272 = .ok (.invokevirtual 39, 3) := by decide +kernel
theorem dL_law_275 : decode cL_law 275 = .ok (.if_icmp .eq 535, 3) := by decide +kernel
theorem dL_law_278 : decode cL_law 278 = .ok (.iconst 0, 1) := by decide +kernel
theorem dL_law_279 : decode cL_law 279 = .ok (.ireturn, 1) := by decide +kernel
theorem dL_law_280 : decode cL_law 280 = .ok (.aload_n 1, 1) := by decide +kernel
theorem dL_law_281 : decode cL_law 281 = .ok (.aload_n 0, 1) := by decide +kernel
theorem dL_law_282 : decode cL_law 282 = .ok (.iload_n 3, 1) := by decide +kernel
theorem dL_law_283 : decode cL_law 283 = .ok (.iconst 1, 1) := by decide +kernel
theorem dL_law_284 : decode cL_law 284 = .ok (.iadd, 1) := by decide +kernel
theorem dL_law_285 : decode cL_law 285 = .ok (.iaload, 1) := by decide +kernel
theorem dL_law_286 : decode cL_law 286 = .ok (.invokevirtual 40, 3) := by decide +kernel
theorem dL_law_289 : decode cL_law 289 = .ok (.aload_n 2, 1) := by decide +kernel
theorem dL_law_290 : decode cL_law 290 = .ok (.aload_n 0, 1) := by decide +kernel
theorem dL_law_291 : decode cL_law 291 = .ok (.iload_n 3, 1) := by decide +kernel
theorem dL_law_292 : decode cL_law 292 = .ok (.iconst 1, 1) := by decide +kernel
theorem dL_law_293 : decode cL_law 293 = .ok (.iadd, 1) := by decide +kernel
theorem dL_law_294 : decode cL_law 294 = .ok (.iaload, 1) := by decide +kernel
theorem dL_law_295 : decode cL_law 295 = .ok (.invokevirtual 43, 3) := by decide +kernel
theorem dL_law_298 : decode cL_law 298 = .ok (.if_icmp .eq 512, 3) := by decide +kernel
theorem dL_law_301 : decode cL_law 301 = .ok (.iconst 0, 1) := by decide +kernel
theorem dL_law_302 : decode cL_law 302 = .ok (.ireturn, 1) := by decide +kernel
theorem dL_law_303 : decode cL_law 303 = .ok (.aload_n 1, 1) := by decide +kernel
theorem dL_law_304 : decode cL_law 304 = .ok (.aload_n 0, 1) := by decide +kernel
theorem dL_law_305 : decode cL_law 305 = .ok (.iload_n 3, 1) := by decide +kernel
theorem dL_law_306 : decode cL_law 306 = .ok (.iconst 1, 1) := by decide +kernel
theorem dL_law_307 : decode cL_law 307 = .ok (.iadd, 1) := by decide +kernel
theorem dL_law_308 : decode cL_law 308 = .ok (.iaload, 1) := by decide +kernel
theorem dL_law_309 : decode cL_law 309 = .ok (.invokevirtual 44, 3) := by decide +kernel
theorem dL_law_312 : decode cL_law 312 = .ok (.aload_n 2, 1) := by decide +kernel
theorem dL_law_313 : decode cL_law 313 = .ok (.aload_n 0, 1) := by decide +kernel
theorem dL_law_314 : decode cL_law 314 = .ok (.iload_n 3, 1) := by decide +kernel
theorem dL_law_315 : decode cL_law 315 = .ok (.iconst 1, 1) := by decide +kernel
theorem dL_law_316 : decode cL_law 316 = .ok (.iadd, 1) := by decide +kernel
theorem dL_law_317 : decode cL_law 317 = .ok (.iaload, 1) := by decide +kernel
theorem dL_law_318 : decode cL_law 318 = .ok (.invokevirtual 47, 3) := by decide +kernel
theorem dL_law_321 : decode cL_law 321 = .ok (.if_icmp .eq 489, 3) := by decide +kernel
theorem dL_law_324 : decode cL_law 324 = .ok (.iconst 0, 1) := by decide +kernel
theorem dL_law_325 : decode cL_law 325 = .ok (.ireturn, 1) := by decide +kernel
theorem dL_law_326 : decode cL_law 326 = .ok (.aload_n 1, 1) := by decide +kernel
theorem dL_law_327 : decode cL_law 327 = .ok (.aload_n 0, 1) := by decide +kernel
theorem dL_law_328 : decode cL_law 328 = .ok (.iload_n 3, 1) := by decide +kernel
theorem dL_law_329 : decode cL_law 329 = .ok (.iconst 1, 1) := by decide +kernel
theorem dL_law_330 : decode cL_law 330 = .ok (.iadd, 1) := by decide +kernel
theorem dL_law_331 : decode cL_law 331 = .ok (.iaload, 1) := by decide +kernel
theorem dL_law_332 : decode cL_law 332 = .ok (.aload_n 0, 1) := by decide +kernel
theorem dL_law_333 : decode cL_law 333 = .ok (.iload_n 3, 1) := by decide +kernel
theorem dL_law_334 : decode cL_law 334 = .ok (.iconst 2, 1) := by decide +kernel
theorem dL_law_335 : decode cL_law 335 = .ok (.iadd, 1) := by decide +kernel
theorem dL_law_336 : decode cL_law 336 = .ok (.iaload, 1) := by decide +kernel
theorem dL_law_337 : decode cL_law 337 = .ok (.invokevirtual 48, 3) := by decide +kernel
theorem dL_law_340 : decode cL_law 340 = .ok (.aload_n 2, 1) := by decide +kernel
theorem dL_law_341 : decode cL_law 341 = .ok (.aload_n 0, 1) := by decide +kernel
theorem dL_law_342 : decode cL_law 342 = .ok (.iload_n 3, 1) := by decide +kernel
theorem dL_law_343 : decode cL_law 343 = .ok (.iconst 1, 1) := by decide +kernel
theorem dL_law_344 : decode cL_law 344 = .ok (.iadd, 1) := by decide +kernel
theorem dL_law_345 : decode cL_law 345 = .ok (.iaload, 1) := by decide +kernel
theorem dL_law_346 : decode cL_law 346 = .ok (.aload_n 0, 1) := by decide +kernel
theorem dL_law_347 : decode cL_law 347 = .ok (.iload_n 3, 1) := by decide +kernel
theorem dL_law_348 : decode cL_law 348 = .ok (.iconst 2, 1) := by decide +kernel
theorem dL_law_349 : decode cL_law 349 = .ok (.iadd, 1) := by decide +kernel
theorem dL_law_350 : decode cL_law 350 = .ok (.iaload, 1) := by decide +kernel
theorem dL_law_351 : decode cL_law 351 = .ok (.invokevirtual 51, 3) := by decide +kernel
theorem dL_law_354 : decode cL_law 354 = .ok (.if_icmp .eq 456, 3) := by decide +kernel
theorem dL_law_357 : decode cL_law 357 = .ok (.iconst 0, 1) := by decide +kernel
theorem dL_law_358 : decode cL_law 358 = .ok (.ireturn, 1) := by decide +kernel
theorem dL_law_359 : decode cL_law 359 = .ok (.aload_n 1, 1) := by decide +kernel
theorem dL_law_360 : decode cL_law 360 = .ok (.aload_n 0, 1) := by decide +kernel
theorem dL_law_361 : decode cL_law 361 = .ok (.iload_n 3, 1) := by decide +kernel
theorem dL_law_362 : decode cL_law 362 = .ok (.iconst 1, 1) := by decide +kernel
theorem dL_law_363 : decode cL_law 363 = .ok (.iadd, 1) := by decide +kernel
theorem dL_law_364 : decode cL_law 364 = .ok (.iaload, 1) := by decide +kernel
theorem dL_law_365 : decode cL_law 365 = .ok (.aload_n 0, 1) := by decide +kernel
theorem dL_law_366 : decode cL_law 366 = .ok (.iload_n 3, 1) := by decide +kernel
theorem dL_law_367 : decode cL_law 367 = .ok (.iconst 2, 1) := by decide +kernel
theorem dL_law_368 : decode cL_law 368 = .ok (.iadd, 1) := by decide +kernel
theorem dL_law_369 : decode cL_law 369 = .ok (.iaload, 1) := by decide +kernel
theorem dL_law_370 : decode cL_law 370 = .ok (.invokevirtual 52, 3) := by decide +kernel
theorem dL_law_373 : decode cL_law 373 = .ok (.aload_n 2, 1) := by decide +kernel
theorem dL_law_374 : decode cL_law 374 = .ok (.aload_n 0, 1) := by decide +kernel
theorem dL_law_375 : decode cL_law 375 = .ok (.iload_n 3, 1) := by decide +kernel
theorem dL_law_376 : decode cL_law 376 = .ok (.iconst 1, 1) := by decide +kernel
theorem dL_law_377 : decode cL_law 377 = .ok (.iadd, 1) := by decide +kernel
theorem dL_law_378 : decode cL_law 378 = .ok (.iaload, 1) := by decide +kernel
theorem dL_law_379 : decode cL_law 379 = .ok (.aload_n 0, 1) := by decide +kernel
theorem dL_law_380 : decode cL_law 380 = .ok (.iload_n 3, 1) := by decide +kernel
theorem dL_law_381 : decode cL_law 381 = .ok (.iconst 2, 1) := by decide +kernel
theorem dL_law_382 : decode cL_law 382 = .ok (.iadd, 1) := by decide +kernel
theorem dL_law_383 : decode cL_law 383 = .ok (.iaload, 1) := by decide +kernel
theorem dL_law_384 : decode cL_law 384 = .ok (.invokevirtual 55, 3) := by decide +kernel
theorem dL_law_387 : decode cL_law 387 = .ok (.if_icmp .eq 423, 3) := by decide +kernel
theorem dL_law_390 : decode cL_law 390 = .ok (.iconst 0, 1) := by decide +kernel
theorem dL_law_391 : decode cL_law 391 = .ok (.ireturn, 1) := by decide +kernel
theorem dL_law_392 : decode cL_law 392 = .ok (.aload_n 1, 1) := by decide +kernel
theorem dL_law_393 : decode cL_law 393 = .ok (.aload_n 0, 1) := by decide +kernel
theorem dL_law_394 : decode cL_law 394 = .ok (.iload_n 3, 1) := by decide +kernel
theorem dL_law_395 : decode cL_law 395 = .ok (.iconst 1, 1) := by decide +kernel
theorem dL_law_396 : decode cL_law 396 = .ok (.iadd, 1) := by decide +kernel
theorem dL_law_397 : decode cL_law 397 = .ok (.iaload, 1) := by decide +kernel
theorem dL_law_398 : decode cL_law 398 = .ok (.invokevirtual 56, 3) := by decide +kernel
theorem dL_law_401 : decode cL_law 401 = .ok (.aload_n 2, 1) := by decide +kernel
theorem dL_law_402 : decode cL_law 402 = .ok (.aload_n 0, 1) := by decide +kernel
theorem dL_law_403 : decode cL_law 403 = .ok (.iload_n 3, 1) := by decide +kernel
theorem dL_law_404 : decode cL_law 404 = .ok (.iconst 1, 1) := by decide +kernel
theorem dL_law_405 : decode cL_law 405 = .ok (.iadd, 1) := by decide +kernel
theorem dL_law_406 : decode cL_law 406 = .ok (.iaload, 1) := by decide +kernel
theorem dL_law_407 : decode cL_law 407 = .ok (.invokevirtual 59, 3) := by decide +kernel
theorem dL_law_410 : decode cL_law 410 = .ok (.if_icmp .eq 400, 3) := by decide +kernel
theorem dL_law_413 : decode cL_law 413 = .ok (.iconst 0, 1) := by decide +kernel
theorem dL_law_414 : decode cL_law 414 = .ok (.ireturn, 1) := by decide +kernel
theorem dL_law_415 : decode cL_law 415 = .ok (.aload_n 1, 1) := by decide +kernel
theorem dL_law_416 : decode cL_law 416 = .ok (.invokevirtual 60, 3) := by decide +kernel
theorem dL_law_419 : decode cL_law 419 = .ok (.aload_n 2, 1) := by decide +kernel
theorem dL_law_420 : decode cL_law 420 = .ok (.invokevirtual 63, 3) := by decide +kernel
theorem dL_law_423 : decode cL_law 423 = .ok (.if_icmp .eq 387, 3) := by decide +kernel
theorem dL_law_426 : decode cL_law 426 = .ok (.iconst 0, 1) := by decide +kernel
theorem dL_law_427 : decode cL_law 427 = .ok (.ireturn, 1) := by decide +kernel
theorem dL_law_428 : decode cL_law 428 = .ok (.aload_n 1, 1) := by decide +kernel
theorem dL_law_429 : decode cL_law 429 = .ok (.aload_n 0, 1) := by decide +kernel
theorem dL_law_430 : decode cL_law 430 = .ok (.iload_n 3, 1) := by decide +kernel
theorem dL_law_431 : decode cL_law 431 = .ok (.iconst 1, 1) := by decide +kernel
theorem dL_law_432 : decode cL_law 432 = .ok (.iadd, 1) := by decide +kernel
theorem dL_law_433 : decode cL_law 433 = .ok (.iaload, 1) := by decide +kernel
theorem dL_law_434 : decode cL_law 434 = .ok (.invokevirtual 64, 3) := by decide +kernel
theorem dL_law_437 : decode cL_law 437 = .ok (.aload_n 2, 1) := by decide +kernel
theorem dL_law_438 : decode cL_law 438 = .ok (.aload_n 0, 1) := by decide +kernel
theorem dL_law_439 : decode cL_law 439 = .ok (.iload_n 3, 1) := by decide +kernel
theorem dL_law_440 : decode cL_law 440 = .ok (.iconst 1, 1) := by decide +kernel
theorem dL_law_441 : decode cL_law 441 = .ok (.iadd, 1) := by decide +kernel
theorem dL_law_442 : decode cL_law 442 = .ok (.iaload, 1) := by decide +kernel
theorem dL_law_443 : decode cL_law 443 = .ok (.invokevirtual 67, 3) := by decide +kernel
theorem dL_law_446 : decode cL_law 446 = .ok (.if_icmp .eq 364, 3) := by decide +kernel
theorem dL_law_449 : decode cL_law 449 = .ok (.iconst 0, 1) := by decide +kernel
theorem dL_law_450 : decode cL_law 450 = .ok (.ireturn, 1) := by decide +kernel
theorem dL_law_451 : decode cL_law 451 = .ok (.aload_n 1, 1) := by decide +kernel
theorem dL_law_452 : decode cL_law 452 = .ok (.aload_n 0, 1) := by decide +kernel
theorem dL_law_453 : decode cL_law 453 = .ok (.iload_n 3, 1) := by decide +kernel
theorem dL_law_454 : decode cL_law 454 = .ok (.iconst 1, 1) := by decide +kernel
theorem dL_law_455 : decode cL_law 455 = .ok (.iadd, 1) := by decide +kernel
theorem dL_law_456 : decode cL_law 456 = .ok (.iaload, 1) := by decide +kernel
theorem dL_law_457 : decode cL_law 457 = .ok (.aload_n 0, 1) := by decide +kernel
theorem dL_law_458 : decode cL_law 458 = .ok (.iload_n 3, 1) := by decide +kernel
theorem dL_law_459 : decode cL_law 459 = .ok (.iconst 2, 1) := by decide +kernel
theorem dL_law_460 : decode cL_law 460 = .ok (.iadd, 1) := by decide +kernel
theorem dL_law_461 : decode cL_law 461 = .ok (.iaload, 1) := by decide +kernel
theorem dL_law_462 : decode cL_law 462 = .ok (.invokevirtual 68, 3) := by decide +kernel
theorem dL_law_465 : decode cL_law 465 = .ok (.aload_n 2, 1) := by decide +kernel
theorem dL_law_466 : decode cL_law 466 = .ok (.aload_n 0, 1) := by decide +kernel
theorem dL_law_467 : decode cL_law 467 = .ok (.iload_n 3, 1) := by decide +kernel
theorem dL_law_468 : decode cL_law 468 = .ok (.iconst 1, 1) := by decide +kernel
theorem dL_law_469 : decode cL_law 469 = .ok (.iadd, 1) := by decide +kernel
theorem dL_law_470 : decode cL_law 470 = .ok (.iaload, 1) := by decide +kernel
theorem dL_law_471 : decode cL_law 471 = .ok (.aload_n 0, 1) := by decide +kernel
theorem dL_law_472 : decode cL_law 472 = .ok (.iload_n 3, 1) := by decide +kernel
theorem dL_law_473 : decode cL_law 473 = .ok (.iconst 2, 1) := by decide +kernel
theorem dL_law_474 : decode cL_law 474 = .ok (.iadd, 1) := by decide +kernel
theorem dL_law_475 : decode cL_law 475 = .ok (.iaload, 1) := by decide +kernel
theorem dL_law_476 : decode cL_law 476 = .ok (.invokevirtual 71, 3) := by decide +kernel
theorem dL_law_479 : decode cL_law 479 = .ok (.if_icmp .eq 331, 3) := by decide +kernel
theorem dL_law_482 : decode cL_law 482 = .ok (.iconst 0, 1) := by decide +kernel
theorem dL_law_483 : decode cL_law 483 = .ok (.ireturn, 1) := by decide +kernel
theorem dL_law_484 : decode cL_law 484 = .ok (.aload_n 1, 1) := by decide +kernel
theorem dL_law_485 : decode cL_law 485 = .ok (.aload_n 0, 1) := by decide +kernel
theorem dL_law_486 : decode cL_law 486 = .ok (.iload_n 3, 1) := by decide +kernel
theorem dL_law_487 : decode cL_law 487 = .ok (.iconst 1, 1) := by decide +kernel
theorem dL_law_488 : decode cL_law 488 = .ok (.iadd, 1) := by decide +kernel
theorem dL_law_489 : decode cL_law 489 = .ok (.iaload, 1) := by decide +kernel
theorem dL_law_490 : decode cL_law 490 = .ok (.aload_n 0, 1) := by decide +kernel
theorem dL_law_491 : decode cL_law 491 = .ok (.iload_n 3, 1) := by decide +kernel
theorem dL_law_492 : decode cL_law 492 = .ok (.iconst 2, 1) := by decide +kernel
theorem dL_law_493 : decode cL_law 493 = .ok (.iadd, 1) := by decide +kernel
theorem dL_law_494 : decode cL_law 494 = .ok (.iaload, 1) := by decide +kernel
theorem dL_law_495 : decode cL_law 495 = .ok (.aload_n 0, 1) := by decide +kernel
theorem dL_law_496 : decode cL_law 496 = .ok (.iload_n 3, 1) := by decide +kernel
theorem dL_law_497 : decode cL_law 497 = .ok (.iconst 3, 1) := by decide +kernel
theorem dL_law_498 : decode cL_law 498 = .ok (.iadd, 1) := by decide +kernel
theorem dL_law_499 : decode cL_law 499 = .ok (.iaload, 1) := by decide +kernel
theorem dL_law_500 : decode cL_law 500 = .ok (.invokevirtual 72, 3) := by decide +kernel
theorem dL_law_503 : decode cL_law 503 = .ok (.aload_n 2, 1) := by decide +kernel
theorem dL_law_504 : decode cL_law 504 = .ok (.aload_n 0, 1) := by decide +kernel
theorem dL_law_505 : decode cL_law 505 = .ok (.iload_n 3, 1) := by decide +kernel
theorem dL_law_506 : decode cL_law 506 = .ok (.iconst 1, 1) := by decide +kernel
theorem dL_law_507 : decode cL_law 507 = .ok (.iadd, 1) := by decide +kernel
theorem dL_law_508 : decode cL_law 508 = .ok (.iaload, 1) := by decide +kernel
theorem dL_law_509 : decode cL_law 509 = .ok (.aload_n 0, 1) := by decide +kernel
theorem dL_law_510 : decode cL_law 510 = .ok (.iload_n 3, 1) := by decide +kernel
theorem dL_law_511 : decode cL_law 511 = .ok (.iconst 2, 1) := by decide +kernel
theorem dL_law_512 : decode cL_law 512 = .ok (.iadd, 1) := by decide +kernel
theorem dL_law_513 : decode cL_law 513 = .ok (.iaload, 1) := by decide +kernel
theorem dL_law_514 : decode cL_law 514 = .ok (.aload_n 0, 1) := by decide +kernel
theorem dL_law_515 : decode cL_law 515 = .ok (.iload_n 3, 1) := by decide +kernel
theorem dL_law_516 : decode cL_law 516 = .ok (.iconst 3, 1) := by decide +kernel
theorem dL_law_517 : decode cL_law 517 = .ok (.iadd, 1) := by decide +kernel
theorem dL_law_518 : decode cL_law 518 = .ok (.iaload, 1) := by decide +kernel
theorem dL_law_519 : decode cL_law 519 = .ok (.invokevirtual 76, 3) := by decide +kernel
theorem dL_law_522 : decode cL_law 522 = .ok (.if_icmp .eq 288, 3) := by decide +kernel
theorem dL_law_525 : decode cL_law 525 = .ok (.iconst 0, 1) := by decide +kernel
theorem dL_law_526 : decode cL_law 526 = .ok (.ireturn, 1) := by decide +kernel
theorem dL_law_527 : decode cL_law 527 = .ok (.aload_n 1, 1) := by decide +kernel
theorem dL_law_528 : decode cL_law 528 = .ok (.aload_n 0, 1) := by decide +kernel
theorem dL_law_529 : decode cL_law 529 = .ok (.iload_n 3, 1) := by decide +kernel
theorem dL_law_530 : decode cL_law 530 = .ok (.iconst 1, 1) := by decide +kernel
theorem dL_law_531 : decode cL_law 531 = .ok (.iadd, 1) := by decide +kernel
theorem dL_law_532 : decode cL_law 532 = .ok (.iaload, 1) := by decide +kernel
theorem dL_law_533 : decode cL_law 533 = .ok (.invokevirtual 77, 3) := by decide +kernel
theorem dL_law_536 : decode cL_law 536 = .ok (.aload_n 2, 1) := by decide +kernel
theorem dL_law_537 : decode cL_law 537 = .ok (.aload_n 0, 1) := by decide +kernel
theorem dL_law_538 : decode cL_law 538 = .ok (.iload_n 3, 1) := by decide +kernel
theorem dL_law_539 : decode cL_law 539 = .ok (.iconst 1, 1) := by decide +kernel
theorem dL_law_540 : decode cL_law 540 = .ok (.iadd, 1) := by decide +kernel
theorem dL_law_541 : decode cL_law 541 = .ok (.iaload, 1) := by decide +kernel
theorem dL_law_542 : decode cL_law 542 = .ok (.invokevirtual 80, 3) := by decide +kernel
theorem dL_law_545 : decode cL_law 545 = .ok (.if_icmp .eq 265, 3) := by decide +kernel
theorem dL_law_548 : decode cL_law 548 = .ok (.iconst 0, 1) := by decide +kernel
theorem dL_law_549 : decode cL_law 549 = .ok (.ireturn, 1) := by decide +kernel
theorem dL_law_550 : decode cL_law 550 = .ok (.aload_n 1, 1) := by decide +kernel
theorem dL_law_551 : decode cL_law 551 = .ok (.invokevirtual 81, 3) := by decide +kernel
theorem dL_law_554 : decode cL_law 554 = .ok (.aload_n 2, 1) := by decide +kernel
theorem dL_law_555 : decode cL_law 555 = .ok (.invokevirtual 84, 3) := by decide +kernel
theorem dL_law_558 : decode cL_law 558 = .ok (.if_icmp .eq 252, 3) := by decide +kernel
theorem dL_law_561 : decode cL_law 561 = .ok (.iconst 0, 1) := by decide +kernel
theorem dL_law_562 : decode cL_law 562 = .ok (.ireturn, 1) := by decide +kernel
theorem dL_law_563 : decode cL_law 563 = .ok (.aload_n 1, 1) := by decide +kernel
theorem dL_law_564 : decode cL_law 564 = .ok (.aload_n 0, 1) := by decide +kernel
theorem dL_law_565 : decode cL_law 565 = .ok (.iload_n 3, 1) := by decide +kernel
theorem dL_law_566 : decode cL_law 566 = .ok (.iconst 1, 1) := by decide +kernel
theorem dL_law_567 : decode cL_law 567 = .ok (.iadd, 1) := by decide +kernel
theorem dL_law_568 : decode cL_law 568 = .ok (.iaload, 1) := by decide +kernel
theorem dL_law_569 : decode cL_law 569 = .ok (.aload_n 0, 1) := by decide +kernel
theorem dL_law_570 : decode cL_law 570 = .ok (.iload_n 3, 1) := by decide +kernel
theorem dL_law_571 : decode cL_law 571 = .ok (.iconst 2, 1) := by decide +kernel
theorem dL_law_572 : decode cL_law 572 = .ok (.iadd, 1) := by decide +kernel
theorem dL_law_573 : decode cL_law 573 = .ok (.iaload, 1) := by decide +kernel
theorem dL_law_574 : decode cL_law 574 = .ok (.invokevirtual 85, 3) := by decide +kernel
theorem dL_law_577 : decode cL_law 577 = .ok (.aload_n 2, 1) := by decide +kernel
theorem dL_law_578 : decode cL_law 578 = .ok (.aload_n 0, 1) := by decide +kernel
theorem dL_law_579 : decode cL_law 579 = .ok (.iload_n 3, 1) := by decide +kernel
theorem dL_law_580 : decode cL_law 580 = .ok (.iconst 1, 1) := by decide +kernel
theorem dL_law_581 : decode cL_law 581 = .ok (.iadd, 1) := by decide +kernel
theorem dL_law_582 : decode cL_law 582 = .ok (.iaload, 1) := by decide +kernel
theorem dL_law_583 : decode cL_law 583 = .ok (.aload_n 0, 1) := by decide +kernel
theorem dL_law_584 : decode cL_law 584 = .ok (.iload_n 3, 1) := by decide +kernel
theorem dL_law_585 : decode cL_law 585 = .ok (.iconst 2, 1) := by decide +kernel
theorem dL_law_586 : decode cL_law 586 = .ok (.iadd, 1) := by decide +kernel
theorem dL_law_587 : decode cL_law 587 = .ok (.iaload, 1) := by decide +kernel
theorem dL_law_588 : decode cL_law 588 = .ok (.invokevirtual 88, 3) := by decide +kernel
theorem dL_law_591 : decode cL_law 591 = .ok (.if_icmp .eq 219, 3) := by decide +kernel
theorem dL_law_594 : decode cL_law 594 = .ok (.iconst 0, 1) := by decide +kernel
theorem dL_law_595 : decode cL_law 595 = .ok (.ireturn, 1) := by decide +kernel
theorem dL_law_596 : decode cL_law 596 = .ok (.aload_n 1, 1) := by decide +kernel
theorem dL_law_597 : decode cL_law 597 = .ok (.aload_n 0, 1) := by decide +kernel
theorem dL_law_598 : decode cL_law 598 = .ok (.iload_n 3, 1) := by decide +kernel
theorem dL_law_599 : decode cL_law 599 = .ok (.iconst 1, 1) := by decide +kernel
theorem dL_law_600 : decode cL_law 600 = .ok (.iadd, 1) := by decide +kernel
theorem dL_law_601 : decode cL_law 601 = .ok (.iaload, 1) := by decide +kernel
theorem dL_law_602 : decode cL_law 602 = .ok (.aload_n 0, 1) := by decide +kernel
theorem dL_law_603 : decode cL_law 603 = .ok (.iload_n 3, 1) := by decide +kernel
theorem dL_law_604 : decode cL_law 604 = .ok (.iconst 2, 1) := by decide +kernel
theorem dL_law_605 : decode cL_law 605 = .ok (.iadd, 1) := by decide +kernel
theorem dL_law_606 : decode cL_law 606 = .ok (.iaload, 1) := by decide +kernel
theorem dL_law_607 : decode cL_law 607 = .ok (.invokevirtual 89, 3) := by decide +kernel
theorem dL_law_610 : decode cL_law 610 = .ok (.aload_n 2, 1) := by decide +kernel
theorem dL_law_611 : decode cL_law 611 = .ok (.aload_n 0, 1) := by decide +kernel
theorem dL_law_612 : decode cL_law 612 = .ok (.iload_n 3, 1) := by decide +kernel
theorem dL_law_613 : decode cL_law 613 = .ok (.iconst 1, 1) := by decide +kernel
theorem dL_law_614 : decode cL_law 614 = .ok (.iadd, 1) := by decide +kernel
theorem dL_law_615 : decode cL_law 615 = .ok (.iaload, 1) := by decide +kernel
theorem dL_law_616 : decode cL_law 616 = .ok (.aload_n 0, 1) := by decide +kernel
theorem dL_law_617 : decode cL_law 617 = .ok (.iload_n 3, 1) := by decide +kernel
theorem dL_law_618 : decode cL_law 618 = .ok (.iconst 2, 1) := by decide +kernel
theorem dL_law_619 : decode cL_law 619 = .ok (.iadd, 1) := by decide +kernel
theorem dL_law_620 : decode cL_law 620 = .ok (.iaload, 1) := by decide +kernel
theorem dL_law_621 : decode cL_law 621 = .ok (.invokevirtual 92, 3) := by decide +kernel
theorem dL_law_624 : decode cL_law 624 = .ok (.if_icmp .eq 186, 3) := by decide +kernel
theorem dL_law_627 : decode cL_law 627 = .ok (.iconst 0, 1) := by decide +kernel
theorem dL_law_628 : decode cL_law 628 = .ok (.ireturn, 1) := by decide +kernel
theorem dL_law_629 : decode cL_law 629 = .ok (.aload_n 1, 1) := by decide +kernel
theorem dL_law_630 : decode cL_law 630 = .ok (.aload_n 0, 1) := by decide +kernel
theorem dL_law_631 : decode cL_law 631 = .ok (.iload_n 3, 1) := by decide +kernel
theorem dL_law_632 : decode cL_law 632 = .ok (.iconst 1, 1) := by decide +kernel
theorem dL_law_633 : decode cL_law 633 = .ok (.iadd, 1) := by decide +kernel
theorem dL_law_634 : decode cL_law 634 = .ok (.iaload, 1) := by decide +kernel
theorem dL_law_635 : decode cL_law 635 = .ok (.aload_n 0, 1) := by decide +kernel
theorem dL_law_636 : decode cL_law 636 = .ok (.iload_n 3, 1) := by decide +kernel
theorem dL_law_637 : decode cL_law 637 = .ok (.iconst 2, 1) := by decide +kernel
theorem dL_law_638 : decode cL_law 638 = .ok (.iadd, 1) := by decide +kernel
end
section
theorem dL_law_639 : decode cL_law 639 = .ok (.iaload, 1) := by decide +kernel
theorem dL_law_640 : decode cL_law 640 = .ok (.invokevirtual 93, 3) := by decide +kernel
theorem dL_law_643 : decode cL_law 643 = .ok (.aload_n 2, 1) := by decide +kernel
theorem dL_law_644 : decode cL_law 644 = .ok (.aload_n 0, 1) := by decide +kernel
theorem dL_law_645 : decode cL_law 645 = .ok (.iload_n 3, 1) := by decide +kernel
theorem dL_law_646 : decode cL_law 646 = .ok (.iconst 1, 1) := by decide +kernel
theorem dL_law_647 : decode cL_law 647 = .ok (.iadd, 1) := by decide +kernel
theorem dL_law_648 : decode cL_law 648 = .ok (.iaload, 1) := by decide +kernel
theorem dL_law_649 : decode cL_law 649 = .ok (.aload_n 0, 1) := by decide +kernel
theorem dL_law_650 : decode cL_law 650 = .ok (.iload_n 3, 1) := by decide +kernel
theorem dL_law_651 : decode cL_law 651 = .ok (.iconst 2, 1) := by decide +kernel
theorem dL_law_652 : decode cL_law 652 = .ok (.iadd, 1) := by decide +kernel
theorem dL_law_653 : decode cL_law 653 = .ok (.iaload, 1) := by decide +kernel
theorem dL_law_654 : decode cL_law 654 = .ok (.invokevirtual 96, 3) := by decide +kernel
theorem dL_law_657 : decode cL_law 657 = .ok (.if_icmp .eq 153, 3) := by decide +kernel
theorem dL_law_660 : decode cL_law 660 = .ok (.iconst 0, 1) := by decide +kernel
theorem dL_law_661 : decode cL_law 661 = .ok (.ireturn, 1) := by decide +kernel
theorem dL_law_662 : decode cL_law 662 = .ok (.aload_n 1, 1) := by decide +kernel
theorem dL_law_663 : decode cL_law 663 = .ok (.aload_n 0, 1) := by decide +kernel
theorem dL_law_664 : decode cL_law 664 = .ok (.iload_n 3, 1) := by decide +kernel
theorem dL_law_665 : decode cL_law 665 = .ok (.iconst 1, 1) := by decide +kernel
theorem dL_law_666 : decode cL_law 666 = .ok (.iadd, 1) := by decide +kernel
theorem dL_law_667 : decode cL_law 667 = .ok (.iaload, 1) := by decide +kernel
theorem dL_law_668 : decode cL_law 668 = .ok (.aload_n 0, 1) := by decide +kernel
theorem dL_law_669 : decode cL_law 669 = .ok (.iload_n 3, 1) := by decide +kernel
theorem dL_law_670 : decode cL_law 670 = .ok (.iconst 2, 1) := by decide +kernel
theorem dL_law_671 : decode cL_law 671 = .ok (.iadd, 1) := by decide +kernel
theorem dL_law_672 : decode cL_law 672 = .ok (.iaload, 1) := by decide +kernel
theorem dL_law_673 : decode cL_law 673 = .ok (.invokevirtual 97, 3) := by decide +kernel
theorem dL_law_676 : decode cL_law 676 = .ok (.aload_n 2, 1) := by decide +kernel
theorem dL_law_677 : decode cL_law 677 = .ok (.aload_n 0, 1) := by decide +kernel
theorem dL_law_678 : decode cL_law 678 = .ok (.iload_n 3, 1) := by decide +kernel
theorem dL_law_679 : decode cL_law 679 = .ok (.iconst 1, 1) := by decide +kernel
theorem dL_law_680 : decode cL_law 680 = .ok (.iadd, 1) := by decide +kernel
theorem dL_law_681 : decode cL_law 681 = .ok (.iaload, 1) := by decide +kernel
theorem dL_law_682 : decode cL_law 682 = .ok (.aload_n 0, 1) := by decide +kernel
theorem dL_law_683 : decode cL_law 683 = .ok (.iload_n 3, 1) := by decide +kernel
theorem dL_law_684 : decode cL_law 684 = .ok (.iconst 2, 1) := by decide +kernel
theorem dL_law_685 : decode cL_law 685 = .ok (.iadd, 1) := by decide +kernel
theorem dL_law_686 : decode cL_law 686 = .ok (.iaload, 1) := by decide +kernel
theorem dL_law_687 : decode cL_law 687 = .ok (.invokevirtual 100, 3) := by decide +kernel
theorem dL_law_690 : decode cL_law 690 = .ok (.if_icmp .eq 120, 3) := by decide +kernel
theorem dL_law_693 : decode cL_law 693 = .ok (.iconst 0, 1) := by decide +kernel
theorem dL_law_694 : decode cL_law 694 = .ok (.ireturn, 1) := by decide +kernel
theorem dL_law_695 : decode cL_law 695 = .ok (.aload_n 1, 1) := by decide +kernel
theorem dL_law_696 : decode cL_law 696 = .ok (.aload_n 0, 1) := by decide +kernel
theorem dL_law_697 : decode cL_law 697 = .ok (.iload_n 3, 1) := by decide +kernel
theorem dL_law_698 : decode cL_law 698 = .ok (.iconst 1, 1) := by decide +kernel
theorem dL_law_699 : decode cL_law 699 = .ok (.iadd, 1) := by decide +kernel
theorem dL_law_700 : decode cL_law 700 = .ok (.iaload, 1) := by decide +kernel
theorem dL_law_701 : decode cL_law 701 = .ok (.invokevirtual 101, 3) := by decide +kernel
theorem dL_law_704 : decode cL_law 704 = .ok (.aload_n 2, 1) := by decide +kernel
theorem dL_law_705 : decode cL_law 705 = .ok (.aload_n 0, 1) := by decide +kernel
theorem dL_law_706 : decode cL_law 706 = .ok (.iload_n 3, 1) := by decide +kernel
theorem dL_law_707 : decode cL_law 707 = .ok (.iconst 1, 1) := by decide +kernel
theorem dL_law_708 : decode cL_law 708 = .ok (.iadd, 1) := by decide +kernel
theorem dL_law_709 : decode cL_law 709 = .ok (.iaload, 1) := by decide +kernel
theorem dL_law_710 : decode cL_law 710 = .ok (.invokevirtual 104, 3) := by decide +kernel
theorem dL_law_713 : decode cL_law 713 = .ok (.if_icmp .eq 97, 3) := by decide +kernel
theorem dL_law_716 : decode cL_law 716 = .ok (.iconst 0, 1) := by decide +kernel
theorem dL_law_717 : decode cL_law 717 = .ok (.ireturn, 1) := by decide +kernel
theorem dL_law_718 : decode cL_law 718 = .ok (.aload_n 1, 1) := by decide +kernel
theorem dL_law_719 : decode cL_law 719 = .ok (.aload_n 0, 1) := by decide +kernel
theorem dL_law_720 : decode cL_law 720 = .ok (.iload_n 3, 1) := by decide +kernel
theorem dL_law_721 : decode cL_law 721 = .ok (.iconst 1, 1) := by decide +kernel
theorem dL_law_722 : decode cL_law 722 = .ok (.iadd, 1) := by decide +kernel
theorem dL_law_723 : decode cL_law 723 = .ok (.iaload, 1) := by decide +kernel
theorem dL_law_724 : decode cL_law 724 = .ok (.invokevirtual 105, 3) := by decide +kernel
theorem dL_law_727 : decode cL_law 727 = .ok (.aload_n 2, 1) := by decide +kernel
theorem dL_law_728 : decode cL_law 728 = .ok (.aload_n 0, 1) := by decide +kernel
theorem dL_law_729 : decode cL_law 729 = .ok (.iload_n 3, 1) := by decide +kernel
theorem dL_law_730 : decode cL_law 730 = .ok (.iconst 1, 1) := by decide +kernel
theorem dL_law_731 : decode cL_law 731 = .ok (.iadd, 1) := by decide +kernel
theorem dL_law_732 : decode cL_law 732 = .ok (.iaload, 1) := by decide +kernel
theorem dL_law_733 : decode cL_law 733 = .ok (.invokevirtual 108, 3) := by decide +kernel
theorem dL_law_736 : decode cL_law 736 = .ok (.if_icmp .eq 74, 3) := by decide +kernel
theorem dL_law_739 : decode cL_law 739 = .ok (.iconst 0, 1) := by decide +kernel
theorem dL_law_740 : decode cL_law 740 = .ok (.ireturn, 1) := by decide +kernel
theorem dL_law_741 : decode cL_law 741 = .ok (.aload_n 1, 1) := by decide +kernel
theorem dL_law_742 : decode cL_law 742 = .ok (.aload_n 0, 1) := by decide +kernel
theorem dL_law_743 : decode cL_law 743 = .ok (.iload_n 3, 1) := by decide +kernel
theorem dL_law_744 : decode cL_law 744 = .ok (.iconst 1, 1) := by decide +kernel
theorem dL_law_745 : decode cL_law 745 = .ok (.iadd, 1) := by decide +kernel
theorem dL_law_746 : decode cL_law 746 = .ok (.iaload, 1) := by decide +kernel
theorem dL_law_747 : decode cL_law 747 = .ok (.invokevirtual 109, 3) := by decide +kernel
theorem dL_law_750 : decode cL_law 750 = .ok (.aload_n 2, 1) := by decide +kernel
theorem dL_law_751 : decode cL_law 751 = .ok (.aload_n 0, 1) := by decide +kernel
theorem dL_law_752 : decode cL_law 752 = .ok (.iload_n 3, 1) := by decide +kernel
theorem dL_law_753 : decode cL_law 753 = .ok (.iconst 1, 1) := by decide +kernel
theorem dL_law_754 : decode cL_law 754 = .ok (.iadd, 1) := by decide +kernel
theorem dL_law_755 : decode cL_law 755 = .ok (.iaload, 1) := by decide +kernel
theorem dL_law_756 : decode cL_law 756 = .ok (.invokevirtual 112, 3) := by decide +kernel
theorem dL_law_759 : decode cL_law 759 = .ok (.if_icmp .eq 51, 3) := by decide +kernel
theorem dL_law_762 : decode cL_law 762 = .ok (.iconst 0, 1) := by decide +kernel
theorem dL_law_763 : decode cL_law 763 = .ok (.ireturn, 1) := by decide +kernel
theorem dL_law_764 : decode cL_law 764 = .ok (.aload_n 1, 1) := by decide +kernel
theorem dL_law_765 : decode cL_law 765 = .ok (.aload_n 0, 1) := by decide +kernel
theorem dL_law_766 : decode cL_law 766 = .ok (.iload_n 3, 1) := by decide +kernel
theorem dL_law_767 : decode cL_law 767 = .ok (.iconst 1, 1) := by decide +kernel
theorem dL_law_768 : decode cL_law 768 = .ok (.iadd, 1) := by decide +kernel
theorem dL_law_769 : decode cL_law 769 = .ok (.iaload, 1) := by decide +kernel
theorem dL_law_770 : decode cL_law 770 = .ok (.invokevirtual 113, 3) := by decide +kernel
theorem dL_law_773 : decode cL_law 773 = .ok (.aload_n 2, 1) := by decide +kernel
theorem dL_law_774 : decode cL_law 774 = .ok (.aload_n 0, 1) := by decide +kernel
theorem dL_law_775 : decode cL_law 775 = .ok (.iload_n 3, 1) := by decide +kernel
theorem dL_law_776 : decode cL_law 776 = .ok (.iconst 1, 1) := by decide +kernel
theorem dL_law_777 : decode cL_law 777 = .ok (.iadd, 1) := by decide +kernel
theorem dL_law_778 : decode cL_law 778 = .ok (.iaload, 1) := by decide +kernel
theorem dL_law_779 : decode cL_law 779 = .ok (.invokevirtual 116, 3) := by decide +kernel
theorem dL_law_782 : decode cL_law 782 = .ok (.if_icmp .eq 28, 3) := by decide +kernel
theorem dL_law_785 : decode cL_law 785 = .ok (.iconst 0, 1) := by decide +kernel
theorem dL_law_786 : decode cL_law 786 = .ok (.ireturn, 1) := by decide +kernel
theorem dL_law_787 : decode cL_law 787 = .ok (.aload_n 1, 1) := by decide +kernel
theorem dL_law_788 : decode cL_law 788 = .ok (.aload_n 0, 1) := by decide +kernel
theorem dL_law_789 : decode cL_law 789 = .ok (.iload_n 3, 1) := by decide +kernel
theorem dL_law_790 : decode cL_law 790 = .ok (.iconst 1, 1) := by decide +kernel
theorem dL_law_791 : decode cL_law 791 = .ok (.iadd, 1) := by decide +kernel
theorem dL_law_792 : decode cL_law 792 = .ok (.iaload, 1) := by decide +kernel
theorem dL_law_793 : decode cL_law 793 = .ok (.invokevirtual 117, 3) := by decide +kernel
theorem dL_law_796 : decode cL_law 796 = .ok (.aload_n 2, 1) := by decide +kernel
theorem dL_law_797 : decode cL_law 797 = .ok (.aload_n 0, 1) := by decide +kernel
theorem dL_law_798 : decode cL_law 798 = .ok (.iload_n 3, 1) := by decide +kernel
theorem dL_law_799 : decode cL_law 799 = .ok (.iconst 1, 1) := by decide +kernel
theorem dL_law_800 : decode cL_law 800 = .ok (.iadd, 1) := by decide +kernel
theorem dL_law_801 : decode cL_law 801 = .ok (.iaload, 1) := by decide +kernel
theorem dL_law_802 : decode cL_law 802 = .ok (.invokevirtual 120, 3) := by decide +kernel
theorem dL_law_805 : decode cL_law 805 = .ok (.if_icmp .eq 5, 3) := by decide +kernel
theorem dL_law_808 : decode cL_law 808 = .ok (.iconst 0, 1) := by decide +kernel
theorem dL_law_809 : decode cL_law 809 = .ok (.ireturn, 1) := by decide +kernel
theorem dL_law_810 : decode cL_law 810 = .ok (.iinc 3 4, 3) := by decide +kernel
theorem dL_law_813 : decode cL_law 813 = .ok (.goto (-795), 3) := by decide +kernel
theorem dL_law_816 : decode cL_law 816 = .ok (.iconst 1, 1) := by decide +kernel
theorem dL_law_817 : decode cL_law 817 = .ok (.ireturn, 1) := by decide +kernel
end
section
/-! ===== the words that every method takes: all good ones of the tables ===== -/
def gt : List Cond := lw_tbl.filter goodWord
theorem gt_of {w : Cond} (h : w ∈ lw_tbl) (g : goodWord w = true) : w ∈ gt := List.mem_filter.mpr ⟨h, g⟩
theorem gt_t {w : Cond} (i : Nat) (h : tables_1[i]? = some w) (g : goodWord w = true) : w ∈ gt := gt_of (List.mem_append_right _ (List.mem_of_getElem? h)) g
theorem gt_s {w : Cond} (i : Nat) (h : (k2_sels lw_privs)[i]? = some w) (g : goodWord w = true) : w ∈ gt := gt_of (List.mem_append_left _ (List.mem_of_getElem? h)) g
theorem gt_good {w : Cond} (h : w ∈ gt) : (w.onTables && w.keeps) = true ∨ ∃ ty, w = .arrayClass ty := good_of_word (List.mem_filter.mp h).2
theorem gt_in {ws : List Cond} (h : ∀ w ∈ ws, w ∈ gt) : GoodIn gt ws := fun w hw => ⟨h w hw, gt_good (h w hw)⟩
/-- a method's words: its code, and all -/
def mws (y : MethodName) (b : ByteArray) (n : Nat) (r : Option FieldType) : List Cond := .code y b n r :: gt
theorem mws_in {y : MethodName} {b : ByteArray} {n : Nat} {r : Option FieldType} (h : Cond.code y b n r ∈ gt) : GoodIn gt (mws y b n r) := gt_in fun w hw => (List.mem_cons.mp hw).elim (fun e => e ▸ h) id
/-! ===== the heap as tables: kinds, lengths, ints, references; its size ===== -/
abbrev Hp : Type := (Nat → Nat) × (Nat → Nat) × (Nat → Nat → Nat → Int32) × (Nat → Nat → Nat → Option Nat) × Nat
def kd (S : Hp) (a : Nat) : Nat := S.1 a
def ln (S : Hp) (a : Nat) : Nat := S.2.1 a
def gI (S : Hp) (f a i : Nat) : Int32 := S.2.2.1 f a i
def gR (S : Hp) (f a i : Nat) : Option Nat := S.2.2.2.1 f a i
def sz (S : Hp) : Nat := S.2.2.2.2
def up3 {α : Type} (g : Nat → Nat → Nat → α) (f a i : Nat) (v : α) : Nat → Nat → Nat → α := fun f' a' i' => if f' = f ∧ a' = a ∧ i' = i then v else g f' a' i'
def sI (S : Hp) (f a i : Nat) (v : Int32) : Hp := (S.1, S.2.1, up3 S.2.2.1 f a i v, S.2.2.2.1, S.2.2.2.2)
def sR (S : Hp) (f a i : Nat) (v : Option Nat) : Hp := (S.1, S.2.1, S.2.2.1, up3 S.2.2.2.1 f a i v, S.2.2.2.2)
def nw (S : Hp) (k n : Nat) : Hp := (fun a => if a = S.2.2.2.2 then k else S.1 a, fun a => if a = S.2.2.2.2 then n else S.2.1 a, fun f a i => if a = S.2.2.2.2 then 0 else S.2.2.1 f a i, fun f a i => if a = S.2.2.2.2 then none else S.2.2.2.1 f a i, S.2.2.2.2 + 1)
theorem kd_sI (S : Hp) (f a i : Nat) (v : Int32) (b : Nat) : kd (sI S f a i v) b = kd S b := rfl
theorem kd_sR (S : Hp) (f a i : Nat) (v : Option Nat) (b : Nat) : kd (sR S f a i v) b = kd S b := rfl
theorem ln_sI (S : Hp) (f a i : Nat) (v : Int32) (b : Nat) : ln (sI S f a i v) b = ln S b := rfl
theorem ln_sR (S : Hp) (f a i : Nat) (v : Option Nat) (b : Nat) : ln (sR S f a i v) b = ln S b := rfl
theorem sz_sI (S : Hp) (f a i : Nat) (v : Int32) : sz (sI S f a i v) = sz S := rfl
theorem sz_sR (S : Hp) (f a i : Nat) (v : Option Nat) : sz (sR S f a i v) = sz S := rfl
theorem gI_sI (S : Hp) (f a i : Nat) (v : Int32) (f' a' i' : Nat) : gI (sI S f a i v) f' a' i' = if f' = f ∧ a' = a ∧ i' = i then v else gI S f' a' i' := rfl
theorem gI_sR (S : Hp) (f a i : Nat) (v : Option Nat) (f' a' i' : Nat) : gI (sR S f a i v) f' a' i' = gI S f' a' i' := rfl
theorem gR_sI (S : Hp) (f a i : Nat) (v : Int32) (f' a' i' : Nat) : gR (sI S f a i v) f' a' i' = gR S f' a' i' := rfl
theorem gR_sR (S : Hp) (f a i : Nat) (v : Option Nat) (f' a' i' : Nat) : gR (sR S f a i v) f' a' i' = if f' = f ∧ a' = a ∧ i' = i then v else gR S f' a' i' := rfl
theorem kd_nw (S : Hp) (k n b : Nat) : kd (nw S k n) b = if b = sz S then k else kd S b := rfl
theorem ln_nw (S : Hp) (k n b : Nat) : ln (nw S k n) b = if b = sz S then n else ln S b := rfl
theorem gI_nw (S : Hp) (k n f a i : Nat) : gI (nw S k n) f a i = if a = sz S then 0 else gI S f a i := rfl
theorem gR_nw (S : Hp) (k n f a i : Nat) : gR (nw S k n) f a i = if a = sz S then none else gR S f a i := rfl
theorem sz_nw (S : Hp) (k n : Nat) : sz (nw S k n) = sz S + 1 := rfl
/-! ===== the launch's constants: classes, array classes, the first own address, INVERSE, the texts ===== -/
abbrev Zt : Type := va_G × (Nat → ClassId) × Nat × Nat × (Nat → Nat) × (Nat → Nat)
def zD (z : Zt) : va_G := z.1
def zA (z : Zt) : Nat → ClassId := z.2.1
def zb (z : Zt) : Nat := z.2.2.1
def zI (z : Zt) : Nat := z.2.2.2.1
def zK (z : Zt) : Nat → Nat := z.2.2.2.2.1
def zV (z : Zt) : Nat → Nat := z.2.2.2.2.2
def own (z : Zt) : Nat → Prop := fun q => zb z ≤ q
/-- how many fields a class of vwCl has, and which of them are ints -/
def nFl : List Nat := [5, 7, 4, 6, 4, 3, 3, 8, 6, 3, 2, 7, 14]
def isIl : List (List Bool) := [[true, true, true, true, true], [false, false, true, true, false, false, false], [false, true, true, true], [false, true, false, false, true, true], [false, false, true, true], [false, true, true], [false, false, true], [false, false, true, true, true, true, true, true], [false, false, false, false, true, true], [false, true, true], [false, true], [false, false, false, false, false, false, false], [false, true, false, true, true, true, true, true, true, false, false, false, false, false]]
def fV (S : Hp) (ci k a : Nat) : Value := if (isIl.getD ci []).getD k true then .int (gI S (16 * ci + k + 1) a 0) else va_rf (gR S (16 * ci + k + 1) a 0)
def Pic (z : Zt) (S : Hp) (H : Heap) : Prop :=
  H.size = sz S ∧ ∀ a, kd S a ≠ 0 → (zb z ≤ a ∧ a < sz S) ∧ (∀ ci N, kd S a = ci + 1 → nFl[ci]? = some N → t_OB a ((zD z).1 ci) N ((zD z).2 ci) H (fun k => fV S ci k a)) ∧ (kd S a = 20 → H[a]? = some (arrV (zA z 0) (ln S a) (fun j => .int (gI S 0 a j)))) ∧ (∀ j, 0 < j → kd S a = 20 + j → H[a]? = some (arrV (zA z j) (ln S a) (fun i => va_rf (gR S 0 a i))))
def tyl (z : Zt) : List (ClassId × FieldType) := [(zA z 0, .int), (zA z 1, .object "FirstParts$Clause"), (zA z 2, .object "FirstParts$Packet"), (zA z 3, .object "FirstParts$Part"), (zA z 4, .object "FirstParts$Step"), (zA z 5, .array .int)]
def nestL : List (String × Nat × MethodName) := [("FirstParts$Reader", 21, ⟨"FirstParts$Clause", "<init>", "()V"⟩), ("FirstParts$Part", 26, ⟨"FirstParts", "stripesFor", "(II)I"⟩), ("FirstParts$Packed", 69, ⟨"FirstParts", "valueAt", "([IIII)I"⟩), ("FirstParts$Packet", 32, ⟨"FirstParts", "within", "(III)Z"⟩), ("FirstParts$Reader", 102, ⟨"FirstParts", "within", "(III)Z"⟩), ("FirstParts$Text", 32, ⟨"FirstParts", "within", "(III)Z"⟩), ("FirstParts$Line", 30, ⟨"FirstParts", "within", "(III)Z"⟩), ("FirstParts$Part", 20, ⟨"FirstParts", "within", "(III)Z"⟩), ("FirstParts$Packed", 77, ⟨"FirstParts", "within", "(III)Z"⟩), ("FirstParts$Curve", 61, ⟨"FirstParts", "valueAt", "([IIII)I"⟩), ("FirstParts$Curve", 57, ⟨"FirstParts", "within", "(III)Z"⟩), ("FirstParts$Planner", 63, ⟨"FirstParts", "stripesFor", "(II)I"⟩)]
def aoL : List String := ["FirstParts$Clause", "FirstParts$Packet", "FirstParts$Part", "FirstParts$Step"]
def invT (j : Nat) : Int32 := ([0, 1, 15, 10, 22, 6, 5, 25, 11, 13, 3, 8, 17, 9, 27, 2, 20, 12, 21, 26, 16, 18, 4, 24, 23, 7, 19, 14, 28] : List Int32).getD j 0
def txL : List (Nat × String) := [(51, "all"), (60, "packets"), (66, "room"), (68, "part")]
def txN : List Nat := [3, 7, 4, 4]
def txB : List (List Int32) := [[97, 108, 108], [112, 97, 99, 107, 101, 116, 115], [114, 111, 111, 109], [112, 97, 114, 116]]
/-- the array class over int[] -/
def aoA (U : State) : Prop := (Cond.arrayOver (.array .int)).before #[] U = true
theorem aoA_moved {u U : State} (hvm : u.vm.Alike U.vm) (h : aoA u) : aoA U := by
  have h2 : (Cond.arrayOver (.array .int)).before #[] (u.setVm U.vm) = true := by
    rw [Cond.arrayOver_setVmC hvm]
    exact h
  exact h2
/-- what stays true of the launch, at a state and a heap -/
def Ev (z : Zt) (U : State) (H : Heap) : Prop :=
  va_K (zD z) vwCl (tyl z) U ∧ (∀ q ∈ nestL, va_Nw (.methodLinkNest q.1 q.2.1 q.2.2 "FirstParts") U) ∧ (∀ C ∈ aoL, va_AO C U) ∧ va_Z "FirstParts$Curve" "INVERSE" "[I" (.ref (zI z)) (own z) U H ∧ va_T .int (zI z) 29 (fun j => .int (invT j)) (own z) U H ∧ vk_S 4 txN txB (zK z) (zV z) (own z) U H ∧ (∀ i q, txL[i]? = some q → vk_R "FirstParts$Reader" q.1 q.2 (zK z i) U) ∧ aoA U ∧ va_Z "java/lang/String" "COMPACT_STRINGS" "Z" (.int 1) (own z) U H ∧ va_Zq "jdk/internal/util/Preconditions" "SIOOBE_FORMATTER" "Ljava/util/function/BiFunction;" (own z) U H
theorem Ev.warm {z : Zt} {s U : State} {H H1 : Heap} (h : Ev z s H) (hW : s.WarmedH U.vm) (hq : ∀ a : Nat, a < H.size → ¬ own z a → H1[a]? = H[a]?) : Ev z U H1 :=
  ⟨va_K.moved hW.alike h.1, fun q hm => va_Nw.warmM hW (h.2.1 q hm), fun C hC => va_AO.moved hW.alike (h.2.2.1 C hC), (va_Z.moved hW.alike h.2.2.2.1).kept hq, (va_T.moved hW.alike h.2.2.2.2.1).kept hq, (vk_S.moved hW.alike h.2.2.2.2.2.1).kept hq, fun i q hi => vk_R.warm hW (h.2.2.2.2.2.2.1 i q hi), aoA_moved hW.alike h.2.2.2.2.2.2.2.1, (va_Z.moved hW.alike h.2.2.2.2.2.2.2.2.1).kept hq, (va_Zq.moved hW.alike h.2.2.2.2.2.2.2.2.2).kept hq⟩
theorem Ev.same {z : Zt} {s U : State} {H : Heap} (h : Ev z s H) (hv : U.vm = s.vm) : Ev z U H :=
  have ha : s.vm.Alike U.vm := by rw [hv]; exact Vm.Alike.refl s.vm
  ⟨va_K.moved ha h.1, fun q hm => va_Nw.same rfl hv.symm (h.2.1 q hm), fun C hC => va_AO.moved ha (h.2.2.1 C hC), va_Z.moved ha h.2.2.2.1, va_T.moved ha h.2.2.2.2.1, vk_S.moved ha h.2.2.2.2.2.1, fun i q hi => vk_R.same hv (h.2.2.2.2.2.2.1 i q hi), aoA_moved ha h.2.2.2.2.2.2.2.1, va_Z.moved ha h.2.2.2.2.2.2.2.2.1, va_Zq.moved ha h.2.2.2.2.2.2.2.2.2⟩
end
section
/-! ===== the judgement: from this place, with these locals, this stack, this heap and this allowance, the machine comes to Q ===== -/
def Cx (p : Program) (s : State) (m : MethodId) (args : Array Value) (meth : Method) (c : Code) (z : Zt) (cc : ByteArray) (nL : Nat) (ow : String) (ret : Option FieldType) (nm : String) : Prop :=
  p.tables.exec = Jvm.exec ∧ c.code = cc ∧ c.maxLocals = nL ∧ s.vm.findClass ow = some m.cls ∧ (∀ w ∈ gt, w.before args s = true) ∧ Ev z s s.heap ∧ zb z ≤ s.heap.size ∧ meth.locks = false ∧ meth.sig.returnType = ret ∧ meth.name = nm
def Go (p : Program) (l : Launch) (e : Env) (R : Room) (s : State) (m : MethodId) (args : Array Value) (below : List Frame) (meth : Method) (c : Code) (z : Zt) (nL : Nat) (Q : State → Prop) (bc bs : Nat) (pc : Nat) (lv : List (Nat × Value)) (st : List Value) (S : Hp) : Prop :=
  ∀ (H : Heap) (locs : List Loc) (ls : Array Slot) (cells slots : Nat), lv_has ls nL lv → Pic z S H → va_S (own z) s.heap H locs → cells + bc ≤ R.cells → slots + bs ≤ R.slots → W p l e R s m args below meth c H locs cells slots Q (F0 m pc ls st)
/-- a method's end: what it answers, the heap's tables behind it -/
def Qx (z : Zt) (post : Option Value → Hp → Prop) : Array Value → State → Outcome → State → Prop := fun _ st o t =>
  ∃ (v : Option Value) (S' : Hp), o = .returned v ∧ post v S' ∧ Pic z S' t.heap ∧ va_F (own z) st t
/-- a contract: called with these arguments on this heap, the method returns with post; f frames, so many words of locals, mc cells of ms slots -/
def Ct (l : Launch) (z : Zt) (y : MethodName) (cc : ByteArray) (nL : Nat) (ret : Option FieldType) (f loc mc ms : Nat) (av : List Value) (S : Hp) (post : Option Value → Hp → Prop) : Prop :=
  Met l y (mws y cc nL ret) { frames := f, cells := mc, slots := ms, locals := loc } (va_Pc av (fun U => Pic z S U.heap ∧ Ev z U U.heap ∧ zb z ≤ U.heap.size)) (Qx z post) mc ms (own z)
theorem pic_sz {z : Zt} {S : Hp} {H : Heap} (h : Pic z S H) : H.size = sz S := h.1
theorem pic_obj {z : Zt} {S : Hp} {H : Heap} (h : Pic z S H) {a ci N : Nat} (hk : kd S a = ci + 1) (hN : nFl[ci]? = some N) : t_OB a ((zD z).1 ci) N ((zD z).2 ci) H (fun k => fV S ci k a) := (h.2 a (by rw [hk]; omega)).2.1 ci N hk hN
theorem pic_arr {z : Zt} {S : Hp} {H : Heap} (h : Pic z S H) {a : Nat} (hk : kd S a = 20) : H[a]? = some (arrV (zA z 0) (ln S a) (fun j => .int (gI S 0 a j))) := (h.2 a (by rw [hk]; omega)).2.2.1 hk
theorem pic_arq {z : Zt} {S : Hp} {H : Heap} (h : Pic z S H) {a j : Nat} (hj : 0 < j) (hk : kd S a = 20 + j) : H[a]? = some (arrV (zA z j) (ln S a) (fun i => va_rf (gR S 0 a i))) := (h.2 a (by rw [hk]; omega)).2.2.2 j hj hk
theorem pic_own {z : Zt} {S : Hp} {H : Heap} (h : Pic z S H) {a : Nat} (hk : kd S a ≠ 0) : own z a := (h.2 a hk).1.1
theorem fV_keep {S S' : Hp} {ci k a : Nat} (hI : gI S' (16 * ci + k + 1) a 0 = gI S (16 * ci + k + 1) a 0) (hR : gR S' (16 * ci + k + 1) a 0 = gR S (16 * ci + k + 1) a 0) : fV S' ci k a = fV S ci k a := by
  unfold fV
  rw [hI, hR]
theorem fV_I {S : Hp} {ci k a : Nat} (h : (isIl.getD ci []).getD k true = true) : fV S ci k a = .int (gI S (16 * ci + k + 1) a 0) := by
  unfold fV
  rw [if_pos h]
theorem fV_R {S : Hp} {ci k a : Nat} (h : (isIl.getD ci []).getD k true = false) : fV S ci k a = va_rf (gR S (16 * ci + k + 1) a 0) := by
  unfold fV
  rw [if_neg (by rw [h]; decide)]
theorem nFl_lt {ci N : Nat} (h : nFl[ci]? = some N) : N ≤ 15 := by
  have hm := List.mem_of_getElem? h
  have : ∀ x ∈ nFl, x ≤ 15 := by decide
  exact this N hm
/-- a field of ints is written -/
theorem pic_putI {z : Zt} {S : Hp} {H H1 : Heap} (h : Pic z S H) {a ci N k : Nat} {v : Int32} {cell : Cell} (hk : kd S a = ci + 1) (hN : nFl[ci]? = some N) (hkN : k < N) (hi : (isIl.getD ci []).getD k true = true)
    (hq : t_OB a ((zD z).1 ci) N ((zD z).2 ci) H1 (updV (fun j => fV S ci j a) k (.int v))) (e2 : H1.size = H.size) (e3 : ∀ q, q ≠ a → H1[q]? = H[q]?) : Pic z (sI S (16 * ci + k + 1) a 0 v) H1 := by
  have hN15 := nFl_lt hN
  refine ⟨e2.trans h.1, fun b hb => ?_⟩
  obtain ⟨g1, g2, g3, g4⟩ := h.2 b hb
  refine ⟨g1, fun cj M hj hM => ?_, fun hj => ?_, fun j hj0 hj => ?_⟩
  · by_cases hba : b = a
    · subst hba
      have hcc : cj = ci := by have h1 : kd S b = cj + 1 := hj; omega
      subst hcc
      obtain rfl : M = N := Option.some.inj (hM.symm.trans hN)
      refine hq.to fun j hj => ?_
      by_cases hjk : j = k
      · subst hjk
        rw [fV_I hi]
        simp [updV, gI_sI]
      · have h5 : ¬ (16 * cj + j + 1 = 16 * cj + k + 1) := by omega
        simp only [updV, if_neg hjk]
        exact Eq.symm (fV_keep (by rw [gI_sI, if_neg (fun q => h5 q.1)]) (by rfl))
    · refine ((g2 cj M hj hM).kept (e3 b hba)).to fun j hj => ?_
      exact Eq.symm (fV_keep (by rw [gI_sI, if_neg (fun q => hba q.2.1)]) (by rfl))
  · have hba : b ≠ a := fun q => by subst q; have h1 : kd S b = 20 := hj; rw [hk] at h1; have : ci = 19 := by omega
                                    subst this; simp [nFl] at hN
    rw [e3 b hba, g3 hj]
    simp [gI_sI, ln_sI, hba]
  · have hba : b ≠ a := fun q => by subst q; have h1 : kd S b = 20 + j := hj; rw [hk] at h1; have : ci = 19 + j := by omega
                                    subst this; have := (List.getElem?_eq_some_iff.mp hN).1; simp [nFl] at this; omega
    rw [e3 b hba, g4 j hj0 hj]
    rfl
/-- a field of references is written -/
theorem pic_putR {z : Zt} {S : Hp} {H H1 : Heap} (h : Pic z S H) {a ci N k : Nat} {v : Option Nat} (hk : kd S a = ci + 1) (hN : nFl[ci]? = some N) (hkN : k < N) (hi : (isIl.getD ci []).getD k true = false)
    (hq : t_OB a ((zD z).1 ci) N ((zD z).2 ci) H1 (updV (fun j => fV S ci j a) k (va_rf v))) (e2 : H1.size = H.size) (e3 : ∀ q, q ≠ a → H1[q]? = H[q]?) : Pic z (sR S (16 * ci + k + 1) a 0 v) H1 := by
  refine ⟨e2.trans h.1, fun b hb => ?_⟩
  obtain ⟨g1, g2, g3, g4⟩ := h.2 b hb
  refine ⟨g1, fun cj M hj hM => ?_, fun hj => ?_, fun j hj0 hj => ?_⟩
  · by_cases hba : b = a
    · subst hba
      have hcc : cj = ci := by have h1 : kd S b = cj + 1 := hj; omega
      subst hcc
      obtain rfl : M = N := Option.some.inj (hM.symm.trans hN)
      refine hq.to fun j hj => ?_
      by_cases hjk : j = k
      · subst hjk
        rw [fV_R hi]
        simp [updV, gR_sR]
      · have h5 : ¬ (16 * cj + j + 1 = 16 * cj + k + 1) := by omega
        simp only [updV, if_neg hjk]
        exact Eq.symm (fV_keep (by rfl) (by rw [gR_sR, if_neg (fun q => h5 q.1)]))
    · refine ((g2 cj M hj hM).kept (e3 b hba)).to fun j hj => ?_
      exact Eq.symm (fV_keep (by rfl) (by rw [gR_sR, if_neg (fun q => hba q.2.1)]))
  · have hba : b ≠ a := fun q => by subst q; have h1 : kd S b = 20 := hj; rw [hk] at h1; have : ci = 19 := by omega
                                    subst this; simp [nFl] at hN
    rw [e3 b hba, g3 hj]
    rfl
  · have hba : b ≠ a := fun q => by subst q; have h1 : kd S b = 20 + j := hj; rw [hk] at h1; have : ci = 19 + j := by omega
                                    subst this; have := (List.getElem?_eq_some_iff.mp hN).1; simp [nFl] at this; omega
    rw [e3 b hba, g4 j hj0 hj]
    simp [gR_sR, ln_sR, hba]
/-- a place of an array of ints is written -/
theorem pic_putA {z : Zt} {S : Hp} {H H1 : Heap} (h : Pic z S H) {a i : Nat} {v : Int32} (hk : kd S a = 20) (e1 : H1[a]? = some (arrV (zA z 0) (ln S a) (updV (fun j => .int (gI S 0 a j)) i (.int v)))) (e2 : H1.size = H.size) (e3 : ∀ q, q ≠ a → H1[q]? = H[q]?) : Pic z (sI S 0 a i v) H1 := by
  refine ⟨e2.trans h.1, fun b hb => ?_⟩
  obtain ⟨g1, g2, g3, g4⟩ := h.2 b hb
  refine ⟨g1, fun cj M hj hM => ?_, fun hj => ?_, fun j hj0 hj => ?_⟩
  · have hba : b ≠ a := fun q => by subst q; have h1 : kd S b = cj + 1 := hj; rw [hk] at h1; have : cj = 19 := by omega
                                    subst this; simp [nFl] at hM
    refine ((g2 cj M hj hM).kept (e3 b hba)).to fun j hj => ?_
    exact Eq.symm (fV_keep (by rw [gI_sI, if_neg (fun q => by have := q.1; omega)]) (by rfl))
  · by_cases hba : b = a
    · subst hba
      rw [e1]
      congr 2
      funext j
      by_cases hji : j = i
      · subst hji; simp [updV, gI_sI]
      · simp [updV, gI_sI, hji]
    · rw [e3 b hba, g3 hj]
      simp [gI_sI, ln_sI, hba]
  · have hba : b ≠ a := fun q => by subst q; have h1 : kd S b = 20 + j := hj; rw [hk] at h1; omega
    rw [e3 b hba, g4 j hj0 hj]
    rfl
/-- a place of an array of references is written -/
theorem pic_putQ {z : Zt} {S : Hp} {H H1 : Heap} (h : Pic z S H) {a i j0 : Nat} {v : Option Nat} (hj0 : 0 < j0) (hk : kd S a = 20 + j0) (e1 : H1[a]? = some (arrV (zA z j0) (ln S a) (updV (fun j => va_rf (gR S 0 a j)) i (va_rf v)))) (e2 : H1.size = H.size) (e3 : ∀ q, q ≠ a → H1[q]? = H[q]?) : Pic z (sR S 0 a i v) H1 := by
  refine ⟨e2.trans h.1, fun b hb => ?_⟩
  obtain ⟨g1, g2, g3, g4⟩ := h.2 b hb
  refine ⟨g1, fun cj M hj hM => ?_, fun hj => ?_, fun j hj1 hj => ?_⟩
  · have hba : b ≠ a := fun q => by subst q; have h1 : kd S b = cj + 1 := hj; rw [hk] at h1; have : cj = 19 + j0 := by omega
                                    subst this; have := (List.getElem?_eq_some_iff.mp hM).1; simp [nFl] at this; omega
    refine ((g2 cj M hj hM).kept (e3 b hba)).to fun j hj => ?_
    exact Eq.symm (fV_keep (by rfl) (by rw [gR_sR, if_neg (fun q => by have := q.1; omega)]))
  · have hba : b ≠ a := fun q => by subst q; have h1 : kd S b = 20 := hj; rw [hk] at h1; omega
    rw [e3 b hba, g3 hj]
    rfl
  · by_cases hba : b = a
    · subst hba
      have hjj : j = j0 := by have h1 : kd S b = 20 + j := hj; omega
      subst hjj
      rw [e1]
      congr 2
      funext q
      by_cases hji : q = i
      · subst hji; simp [updV, gR_sR]
      · simp [updV, gR_sR, hji]
    · rw [e3 b hba, g4 j hj1 hj]
      simp [gR_sR, ln_sR, hba]
/-- a cell is made -/
theorem pic_new {z : Zt} {S : Hp} {H H1 : Heap} (h : Pic z S H) {k n : Nat} (hz : zb z ≤ H.size) (e2 : H1.size = H.size + 1) (e3 : ∀ q, q < H.size → H1[q]? = H[q]?)
    (ho : ∀ ci N, k = ci + 1 → nFl[ci]? = some N → t_OB H.size ((zD z).1 ci) N ((zD z).2 ci) H1 (fun j => if (isIl.getD ci []).getD j true then .int 0 else .null))
    (ha : k = 20 → H1[H.size]? = some (arrV (zA z 0) n (fun _ => .int 0))) (hq : ∀ j, 0 < j → k = 20 + j → H1[H.size]? = some (arrV (zA z j) n (fun _ => .null))) : Pic z (nw S k n) H1 := by
  have hs : H.size = sz S := h.1
  refine ⟨by rw [e2, hs]; rfl, fun b hb => ?_⟩
  by_cases hbs : b = sz S
  · subst hbs
    have hkb : kd (nw S k n) (sz S) = k := by simp [kd_nw]
    refine ⟨⟨by omega, by rw [sz_nw]; omega⟩, fun cj M hj hM => ?_, fun hj => ?_, fun j hj0 hj => ?_⟩
    · rw [hkb] at hj
      rw [← hs]
      refine (ho cj M hj hM).to fun j _ => ?_
      simp only [fV, gI_nw, gR_nw, hs, if_true]
      split <;> rfl
    · rw [hkb] at hj
      rw [← hs, ha hj]
      simp [gI_nw, ln_nw, hs]
    · rw [hkb] at hj
      rw [← hs, hq j hj0 hj]
      simp [gR_nw, ln_nw, hs, va_rf]
  · have hkb : kd (nw S k n) b = kd S b := by simp [kd_nw, hbs]
    rw [hkb] at hb
    obtain ⟨g1, g2, g3, g4⟩ := h.2 b hb
    have e3b : H1[b]? = H[b]? := e3 b (by omega)
    refine ⟨⟨g1.1, by rw [sz_nw]; omega⟩, fun cj M hj hM => ?_, fun hj => ?_, fun j hj0 hj => ?_⟩
    · rw [hkb] at hj
      refine ((g2 cj M hj hM).kept e3b).to fun j _ => ?_
      refine (fV_keep ?_ ?_).symm
      · rw [gI_nw, if_neg hbs]
      · rw [gR_nw, if_neg hbs]
    · rw [hkb] at hj
      rw [e3b, g3 hj]
      simp [gI_nw, ln_nw, hbs]
    · rw [hkb] at hj
      rw [e3b, g4 j hj0 hj]
      simp [gR_nw, ln_nw, hbs]
end
section
section RULES
variable {p : Program} {l : Launch} {e : Env} {R : Room} {s : State} {m : MethodId} {args : Array Value} {below : List Frame} {meth : Method} {c : Code} {z : Zt} {cc : ByteArray} {nL : Nat} {ow : String} {ret : Option FieldType} {nm : String} {Q : State → Prop} {bc bs pc : Nat} {lv : List (Nat × Value)} {st : List Value} {S : Hp}
theorem G_iconst (C : Cx p s m args meth c z cc nL ow ret nm) {n : Int} {v : Int32} (hd : decode cc pc = .ok (.iconst n, 1)) (hv : Int32.ofInt n = v) (k : Go p l e R s m args below meth c z nL Q bc bs (pc + 1) lv (.int v :: st) S) : Go p l e R s m args below meth c z nL Q bc bs pc lv (st) S := fun H locs ls cells slots hl hP hS h1 h2 => lv_iconst C.1 C.2.1 hd hv (k H locs ls cells slots hl hP hS h1 h2)
theorem G_bipush (C : Cx p s m args meth c z cc nL ow ret nm) {n : Int} {v : Int32} (hd : decode cc pc = .ok (.bipush n, 2)) (hv : (Int8.ofInt n).toInt32 = v) (k : Go p l e R s m args below meth c z nL Q bc bs (pc + 2) lv (.int v :: st) S) : Go p l e R s m args below meth c z nL Q bc bs pc lv (st) S := fun H locs ls cells slots hl hP hS h1 h2 => lv_bipush C.1 C.2.1 hd hv (k H locs ls cells slots hl hP hS h1 h2)
theorem G_sipush (C : Cx p s m args meth c z cc nL ow ret nm) {n : Int} {v : Int32} (hd : decode cc pc = .ok (.sipush n, 3)) (hv : (Int16.ofInt n).toInt32 = v) (k : Go p l e R s m args below meth c z nL Q bc bs (pc + 3) lv (.int v :: st) S) : Go p l e R s m args below meth c z nL Q bc bs pc lv (st) S := fun H locs ls cells slots hl hP hS h1 h2 => lv_sipush C.1 C.2.1 hd hv (k H locs ls cells slots hl hP hS h1 h2)
theorem G_lconst (C : Cx p s m args meth c z cc nL ow ret nm) {n : Fin 2} {v : Int64} (hd : decode cc pc = .ok (.lconst n, 1)) (hv : Int64.ofNat (n : Nat) = v) (k : Go p l e R s m args below meth c z nL Q bc bs (pc + 1) lv (.long v :: st) S) : Go p l e R s m args below meth c z nL Q bc bs pc lv (st) S := fun H locs ls cells slots hl hP hS h1 h2 => lv_lconst C.1 C.2.1 hd hv (k H locs ls cells slots hl hP hS h1 h2)
theorem G_null (C : Cx p s m args meth c z cc nL ow ret nm)  (hd : decode cc pc = .ok (.aconst_null, 1))  (k : Go p l e R s m args below meth c z nL Q bc bs (pc + 1) lv (.null :: st) S) : Go p l e R s m args below meth c z nL Q bc bs pc lv (st) S := fun H locs ls cells slots hl hP hS h1 h2 => lv_null C.1 C.2.1 hd  (k H locs ls cells slots hl hP hS h1 h2)
theorem G_iadd (C : Cx p s m args meth c z cc nL ow ret nm) {x y : Int32} (hd : decode cc pc = .ok (.iadd, 1))  (k : Go p l e R s m args below meth c z nL Q bc bs (pc + 1) lv (.int (x + y) :: st) S) : Go p l e R s m args below meth c z nL Q bc bs pc lv (.int y :: .int x :: st) S := fun H locs ls cells slots hl hP hS h1 h2 => lv_iadd C.1 C.2.1 hd  (k H locs ls cells slots hl hP hS h1 h2)
theorem G_isub (C : Cx p s m args meth c z cc nL ow ret nm) {x y : Int32} (hd : decode cc pc = .ok (.isub, 1))  (k : Go p l e R s m args below meth c z nL Q bc bs (pc + 1) lv (.int (x - y) :: st) S) : Go p l e R s m args below meth c z nL Q bc bs pc lv (.int y :: .int x :: st) S := fun H locs ls cells slots hl hP hS h1 h2 => lv_isub C.1 C.2.1 hd  (k H locs ls cells slots hl hP hS h1 h2)
theorem G_imul (C : Cx p s m args meth c z cc nL ow ret nm) {x y : Int32} (hd : decode cc pc = .ok (.imul, 1))  (k : Go p l e R s m args below meth c z nL Q bc bs (pc + 1) lv (.int (x * y) :: st) S) : Go p l e R s m args below meth c z nL Q bc bs pc lv (.int y :: .int x :: st) S := fun H locs ls cells slots hl hP hS h1 h2 => lv_imul C.1 C.2.1 hd  (k H locs ls cells slots hl hP hS h1 h2)
theorem G_iand (C : Cx p s m args meth c z cc nL ow ret nm) {x y : Int32} (hd : decode cc pc = .ok (.iand, 1))  (k : Go p l e R s m args below meth c z nL Q bc bs (pc + 1) lv (.int (x &&& y) :: st) S) : Go p l e R s m args below meth c z nL Q bc bs pc lv (.int y :: .int x :: st) S := fun H locs ls cells slots hl hP hS h1 h2 => lv_iand C.1 C.2.1 hd  (k H locs ls cells slots hl hP hS h1 h2)
theorem G_ior (C : Cx p s m args meth c z cc nL ow ret nm) {x y : Int32} (hd : decode cc pc = .ok (.ior, 1))  (k : Go p l e R s m args below meth c z nL Q bc bs (pc + 1) lv (.int (x ||| y) :: st) S) : Go p l e R s m args below meth c z nL Q bc bs pc lv (.int y :: .int x :: st) S := fun H locs ls cells slots hl hP hS h1 h2 => lv_ior C.1 C.2.1 hd  (k H locs ls cells slots hl hP hS h1 h2)
theorem G_ixor (C : Cx p s m args meth c z cc nL ow ret nm) {x y : Int32} (hd : decode cc pc = .ok (.ixor, 1))  (k : Go p l e R s m args below meth c z nL Q bc bs (pc + 1) lv (.int (x ^^^ y) :: st) S) : Go p l e R s m args below meth c z nL Q bc bs pc lv (.int y :: .int x :: st) S := fun H locs ls cells slots hl hP hS h1 h2 => lv_ixor C.1 C.2.1 hd  (k H locs ls cells slots hl hP hS h1 h2)
theorem G_idiv (C : Cx p s m args meth c z cc nL ow ret nm) {x y : Int32} (hd : decode cc pc = .ok (.idiv, 1)) (hne : ¬ y = 0) (k : Go p l e R s m args below meth c z nL Q bc bs (pc + 1) lv (.int (x / y) :: st) S) : Go p l e R s m args below meth c z nL Q bc bs pc lv (.int y :: .int x :: st) S := fun H locs ls cells slots hl hP hS h1 h2 => lv_idiv C.1 C.2.1 hd hne (k H locs ls cells slots hl hP hS h1 h2)
theorem G_irem (C : Cx p s m args meth c z cc nL ow ret nm) {x y : Int32} (hd : decode cc pc = .ok (.irem, 1)) (hne : ¬ y = 0) (k : Go p l e R s m args below meth c z nL Q bc bs (pc + 1) lv (.int (x - x / y * y) :: st) S) : Go p l e R s m args below meth c z nL Q bc bs pc lv (.int y :: .int x :: st) S := fun H locs ls cells slots hl hP hS h1 h2 => lv_irem C.1 C.2.1 hd hne (k H locs ls cells slots hl hP hS h1 h2)
theorem G_ishl (C : Cx p s m args meth c z cc nL ow ret nm) {x y : Int32} (hd : decode cc pc = .ok (.ishl, 1))  (k : Go p l e R s m args below meth c z nL Q bc bs (pc + 1) lv (.int (x <<< (y &&& 31)) :: st) S) : Go p l e R s m args below meth c z nL Q bc bs pc lv (.int y :: .int x :: st) S := fun H locs ls cells slots hl hP hS h1 h2 => lv_ishl C.1 C.2.1 hd  (k H locs ls cells slots hl hP hS h1 h2)
theorem G_ishr (C : Cx p s m args meth c z cc nL ow ret nm) {x y : Int32} (hd : decode cc pc = .ok (.ishr, 1))  (k : Go p l e R s m args below meth c z nL Q bc bs (pc + 1) lv (.int (x >>> (y &&& 31)) :: st) S) : Go p l e R s m args below meth c z nL Q bc bs pc lv (.int y :: .int x :: st) S := fun H locs ls cells slots hl hP hS h1 h2 => lv_ishr C.1 C.2.1 hd  (k H locs ls cells slots hl hP hS h1 h2)
theorem G_iushr (C : Cx p s m args meth c z cc nL ow ret nm) {x y : Int32} (hd : decode cc pc = .ok (.iushr, 1))  (k : Go p l e R s m args below meth c z nL Q bc bs (pc + 1) lv (.int ((x.toUInt32 >>> (y.toUInt32 &&& Int32.toUInt32 31)).toInt32) :: st) S) : Go p l e R s m args below meth c z nL Q bc bs pc lv (.int y :: .int x :: st) S := fun H locs ls cells slots hl hP hS h1 h2 => lv_iushr C.1 C.2.1 hd rfl (k H locs ls cells slots hl hP hS h1 h2)
theorem G_ineg (C : Cx p s m args meth c z cc nL ow ret nm) {x : Int32} (hd : decode cc pc = .ok (.ineg, 1))  (k : Go p l e R s m args below meth c z nL Q bc bs (pc + 1) lv (.int (-x) :: st) S) : Go p l e R s m args below meth c z nL Q bc bs pc lv (.int x :: st) S := fun H locs ls cells slots hl hP hS h1 h2 => lv_ineg C.1 C.2.1 hd  (k H locs ls cells slots hl hP hS h1 h2)
theorem G_i2l (C : Cx p s m args meth c z cc nL ow ret nm) {x : Int32} (hd : decode cc pc = .ok (.i2l, 1))  (k : Go p l e R s m args below meth c z nL Q bc bs (pc + 1) lv (.long x.toInt64 :: st) S) : Go p l e R s m args below meth c z nL Q bc bs pc lv (.int x :: st) S := fun H locs ls cells slots hl hP hS h1 h2 => lv_i2l C.1 C.2.1 hd rfl (k H locs ls cells slots hl hP hS h1 h2)
theorem G_dup (C : Cx p s m args meth c z cc nL ow ret nm) {va : Value} (hd : decode cc pc = .ok (.dup, 1)) (h : va.category = 1) (k : Go p l e R s m args below meth c z nL Q bc bs (pc + 1) lv (va :: va :: st) S) : Go p l e R s m args below meth c z nL Q bc bs pc lv (va :: st) S := fun H locs ls cells slots hl hP hS h1 h2 => lv_dup C.1 C.2.1 hd h (k H locs ls cells slots hl hP hS h1 h2)
theorem G_pop (C : Cx p s m args meth c z cc nL ow ret nm) {va : Value} (hd : decode cc pc = .ok (.pop, 1)) (h : va.category = 1) (k : Go p l e R s m args below meth c z nL Q bc bs (pc + 1) lv (st) S) : Go p l e R s m args below meth c z nL Q bc bs pc lv (va :: st) S := fun H locs ls cells slots hl hP hS h1 h2 => lv_pop C.1 C.2.1 hd h (k H locs ls cells slots hl hP hS h1 h2)
theorem G_dup2 (C : Cx p s m args meth c z cc nL ow ret nm) {va vb : Value} (hd : decode cc pc = .ok (.dup2, 1)) (h : va.category = 1) (h' : vb.category = 1) (k : Go p l e R s m args below meth c z nL Q bc bs (pc + 1) lv (va :: vb :: va :: vb :: st) S) : Go p l e R s m args below meth c z nL Q bc bs pc lv (va :: vb :: st) S := fun H locs ls cells slots hl hP hS h1 h2 => lv_dup2_11 C.1 C.2.1 hd h h' (k H locs ls cells slots hl hP hS h1 h2)
theorem G_iload_n (C : Cx p s m args meth c z cc nL ow ret nm) {k : Fin 4} (j : Nat) {i : Nat} {x : Int32} (hd : decode cc pc = .ok (.iload_n k, 1)) (hi : (k : Nat) = i) (hx : lv[j]? = some (i, .int x)) (kk : Go p l e R s m args below meth c z nL Q bc bs (pc + 1) lv (.int x :: st) S) : Go p l e R s m args below meth c z nL Q bc bs pc lv st S := fun H locs ls cells slots hl hP hS h1 h2 => lv_iload_n C.1 C.2.1 hd hi (lv_at hl j hx) (kk H locs ls cells slots hl hP hS h1 h2)
theorem G_iload (C : Cx p s m args meth c z cc nL ow ret nm) (j : Nat) {i : Nat} {x : Int32} (hd : decode cc pc = .ok (.iload i, 2)) (hx : lv[j]? = some (i, .int x)) (kk : Go p l e R s m args below meth c z nL Q bc bs (pc + 2) lv (.int x :: st) S) : Go p l e R s m args below meth c z nL Q bc bs pc lv st S := fun H locs ls cells slots hl hP hS h1 h2 => lv_iload C.1 C.2.1 hd (lv_at hl j hx) (kk H locs ls cells slots hl hP hS h1 h2)
theorem G_aload_n (C : Cx p s m args meth c z cc nL ow ret nm) {k : Fin 4} (j : Nat) {i : Nat} {x : Nat} (hd : decode cc pc = .ok (.aload_n k, 1)) (hi : (k : Nat) = i) (hx : lv[j]? = some (i, .ref x)) (kk : Go p l e R s m args below meth c z nL Q bc bs (pc + 1) lv (.ref x :: st) S) : Go p l e R s m args below meth c z nL Q bc bs pc lv st S := fun H locs ls cells slots hl hP hS h1 h2 => lv_aload_n C.1 C.2.1 hd hi (lv_at hl j hx) (kk H locs ls cells slots hl hP hS h1 h2)
theorem G_aload (C : Cx p s m args meth c z cc nL ow ret nm) (j : Nat) {i : Nat} {x : Nat} (hd : decode cc pc = .ok (.aload i, 2)) (hx : lv[j]? = some (i, .ref x)) (kk : Go p l e R s m args below meth c z nL Q bc bs (pc + 2) lv (.ref x :: st) S) : Go p l e R s m args below meth c z nL Q bc bs pc lv st S := fun H locs ls cells slots hl hP hS h1 h2 => lv_aload C.1 C.2.1 hd (lv_at hl j hx) (kk H locs ls cells slots hl hP hS h1 h2)
theorem G_lload_n (C : Cx p s m args meth c z cc nL ow ret nm) {k : Fin 4} (j : Nat) {i : Nat} {x : Int64} (hd : decode cc pc = .ok (.lload_n k, 1)) (hi : (k : Nat) = i) (hx : lv[j]? = some (i, .long x)) (kk : Go p l e R s m args below meth c z nL Q bc bs (pc + 1) lv (.long x :: st) S) : Go p l e R s m args below meth c z nL Q bc bs pc lv st S := fun H locs ls cells slots hl hP hS h1 h2 => lv_lload_n C.1 C.2.1 hd hi (lv_at hl j hx) (kk H locs ls cells slots hl hP hS h1 h2)
theorem G_lload (C : Cx p s m args meth c z cc nL ow ret nm) (j : Nat) {i : Nat} {x : Int64} (hd : decode cc pc = .ok (.lload i, 2)) (hx : lv[j]? = some (i, .long x)) (kk : Go p l e R s m args below meth c z nL Q bc bs (pc + 2) lv (.long x :: st) S) : Go p l e R s m args below meth c z nL Q bc bs pc lv st S := fun H locs ls cells slots hl hP hS h1 h2 => lv_lload C.1 C.2.1 hd (lv_at hl j hx) (kk H locs ls cells slots hl hP hS h1 h2)
theorem G_aload_nQ (C : Cx p s m args meth c z cc nL ow ret nm) {k : Fin 4} (j : Nat) {i : Nat} {r : Option Nat} (hd : decode cc pc = .ok (.aload_n k, 1)) (hi : (k : Nat) = i) (hx : lv[j]? = some (i, va_rf r)) (kk : Go p l e R s m args below meth c z nL Q bc bs (pc + 1) lv (va_rf r :: st) S) : Go p l e R s m args below meth c z nL Q bc bs pc lv st S := fun H locs ls cells slots hl hP hS h1 h2 => by
  cases r with
  | none => exact lv_aload_nN C.1 C.2.1 hd hi (lv_at hl j hx) (kk H locs ls cells slots hl hP hS h1 h2)
  | some x => exact lv_aload_n C.1 C.2.1 hd hi (lv_at hl j hx) (kk H locs ls cells slots hl hP hS h1 h2)
theorem G_istore_n (C : Cx p s m args meth c z cc nL ow ret nm) (lv' : List (Nat × Value)) {k : Fin 4} {i : Nat} {x : Int32} (hd : decode cc pc = .ok (.istore_n k, 1)) (hi : (k : Nat) = i) (hn : i < nL) (hf : (i, Value.int x) :: lv.filter (fun q => !(q.1 == i) && !(q.1 + 1 == i && q.2.category == 2)) = lv') (kk : Go p l e R s m args below meth c z nL Q bc bs (pc + 1) lv' st S) : Go p l e R s m args below meth c z nL Q bc bs pc lv (.int x :: st) S := fun H locs ls cells slots hl hP hS h1 h2 => lv_istore_n C.1 C.2.1 hd hi hl hn hf (fun ls' hl' => kk H locs ls' cells slots hl' hP hS h1 h2)
theorem G_istore (C : Cx p s m args meth c z cc nL ow ret nm) (lv' : List (Nat × Value)) {i : Nat} {x : Int32} (hd : decode cc pc = .ok (.istore i, 2)) (hn : i < nL) (hf : (i, Value.int x) :: lv.filter (fun q => !(q.1 == i) && !(q.1 + 1 == i && q.2.category == 2)) = lv') (kk : Go p l e R s m args below meth c z nL Q bc bs (pc + 2) lv' st S) : Go p l e R s m args below meth c z nL Q bc bs pc lv (.int x :: st) S := fun H locs ls cells slots hl hP hS h1 h2 => lv_istore C.1 C.2.1 hd hl hn hf (fun ls' hl' => kk H locs ls' cells slots hl' hP hS h1 h2)
theorem G_astore_n (C : Cx p s m args meth c z cc nL ow ret nm) (lv' : List (Nat × Value)) {k : Fin 4} {i : Nat} {x : Nat} (hd : decode cc pc = .ok (.astore_n k, 1)) (hi : (k : Nat) = i) (hn : i < nL) (hf : (i, Value.ref x) :: lv.filter (fun q => !(q.1 == i) && !(q.1 + 1 == i && q.2.category == 2)) = lv') (kk : Go p l e R s m args below meth c z nL Q bc bs (pc + 1) lv' st S) : Go p l e R s m args below meth c z nL Q bc bs pc lv (.ref x :: st) S := fun H locs ls cells slots hl hP hS h1 h2 => lv_astore_n C.1 C.2.1 hd hi hl hn hf (fun ls' hl' => kk H locs ls' cells slots hl' hP hS h1 h2)
theorem G_astore (C : Cx p s m args meth c z cc nL ow ret nm) (lv' : List (Nat × Value)) {i : Nat} {x : Nat} (hd : decode cc pc = .ok (.astore i, 2)) (hn : i < nL) (hf : (i, Value.ref x) :: lv.filter (fun q => !(q.1 == i) && !(q.1 + 1 == i && q.2.category == 2)) = lv') (kk : Go p l e R s m args below meth c z nL Q bc bs (pc + 2) lv' st S) : Go p l e R s m args below meth c z nL Q bc bs pc lv (.ref x :: st) S := fun H locs ls cells slots hl hP hS h1 h2 => lv_astore C.1 C.2.1 hd hl hn hf (fun ls' hl' => kk H locs ls' cells slots hl' hP hS h1 h2)
theorem G_iinc (C : Cx p s m args meth c z cc nL ow ret nm) (lv' : List (Nat × Value)) (j : Nat) {i : Nat} {n : Int} {x v : Int32} (hd : decode cc pc = .ok (.iinc i n, 3)) (hx : lv[j]? = some (i, .int x)) (hv : x + Int32.ofInt n = v) (hn : i < nL) (hf : (i, Value.int v) :: lv.filter (fun q => !(q.1 == i) && !(q.1 + 1 == i && q.2.category == 2)) = lv') (kk : Go p l e R s m args below meth c z nL Q bc bs (pc + 3) lv' st S) : Go p l e R s m args below meth c z nL Q bc bs pc lv st S := fun H locs ls cells slots hl hP hS h1 h2 => lv_iinc C.1 C.2.1 hd hl hx hv hn hf (fun ls' hl' => kk H locs ls' cells slots hl' hP hS h1 h2)
theorem G_icmp_eq (C : Cx p s m args meth c z cc nL ow ret nm) {x y : Int32} {off : Int} (tgt : Nat) (hd : decode cc pc = .ok (.if_icmp .eq off, 3)) (ht : (pc : Int) + off = (tgt : Int)) (kt : x = y → Go p l e R s m args below meth c z nL Q bc bs tgt lv st S) (kf : ¬ x = y → Go p l e R s m args below meth c z nL Q bc bs (pc + 3) lv st S) : Go p l e R s m args below meth c z nL Q bc bs pc lv (.int y :: .int x :: st) S := fun H locs ls cells slots hl hP hS h1 h2 => lv_icmp_eq C.1 C.2.1 hd ht (fun q => kt q H locs ls cells slots hl hP hS h1 h2) (fun q => kf q H locs ls cells slots hl hP hS h1 h2)
theorem G_if_eq (C : Cx p s m args meth c z cc nL ow ret nm) {x : Int32} {off : Int} (tgt : Nat) (hd : decode cc pc = .ok (.ifCond .eq off, 3)) (ht : (pc : Int) + off = (tgt : Int)) (kt : x = 0 → Go p l e R s m args below meth c z nL Q bc bs tgt lv st S) (kf : ¬ x = 0 → Go p l e R s m args below meth c z nL Q bc bs (pc + 3) lv st S) : Go p l e R s m args below meth c z nL Q bc bs pc lv (.int x :: st) S := fun H locs ls cells slots hl hP hS h1 h2 => lv_if_eq C.1 C.2.1 hd ht (fun q => kt q H locs ls cells slots hl hP hS h1 h2) (fun q => kf q H locs ls cells slots hl hP hS h1 h2)
theorem G_icmp_ne (C : Cx p s m args meth c z cc nL ow ret nm) {x y : Int32} {off : Int} (tgt : Nat) (hd : decode cc pc = .ok (.if_icmp .ne off, 3)) (ht : (pc : Int) + off = (tgt : Int)) (kt : x ≠ y → Go p l e R s m args below meth c z nL Q bc bs tgt lv st S) (kf : x = y → Go p l e R s m args below meth c z nL Q bc bs (pc + 3) lv st S) : Go p l e R s m args below meth c z nL Q bc bs pc lv (.int y :: .int x :: st) S := fun H locs ls cells slots hl hP hS h1 h2 => lv_icmp_ne C.1 C.2.1 hd ht (fun q => kt q H locs ls cells slots hl hP hS h1 h2) (fun q => kf q H locs ls cells slots hl hP hS h1 h2)
theorem G_if_ne (C : Cx p s m args meth c z cc nL ow ret nm) {x : Int32} {off : Int} (tgt : Nat) (hd : decode cc pc = .ok (.ifCond .ne off, 3)) (ht : (pc : Int) + off = (tgt : Int)) (kt : x ≠ 0 → Go p l e R s m args below meth c z nL Q bc bs tgt lv st S) (kf : x = 0 → Go p l e R s m args below meth c z nL Q bc bs (pc + 3) lv st S) : Go p l e R s m args below meth c z nL Q bc bs pc lv (.int x :: st) S := fun H locs ls cells slots hl hP hS h1 h2 => lv_if_ne C.1 C.2.1 hd ht (fun q => kt q H locs ls cells slots hl hP hS h1 h2) (fun q => kf q H locs ls cells slots hl hP hS h1 h2)
theorem G_icmp_lt (C : Cx p s m args meth c z cc nL ow ret nm) {x y : Int32} {off : Int} (tgt : Nat) (hd : decode cc pc = .ok (.if_icmp .lt off, 3)) (ht : (pc : Int) + off = (tgt : Int)) (kt : x < y → Go p l e R s m args below meth c z nL Q bc bs tgt lv st S) (kf : ¬ x < y → Go p l e R s m args below meth c z nL Q bc bs (pc + 3) lv st S) : Go p l e R s m args below meth c z nL Q bc bs pc lv (.int y :: .int x :: st) S := fun H locs ls cells slots hl hP hS h1 h2 => lv_icmp_lt C.1 C.2.1 hd ht (fun q => kt q H locs ls cells slots hl hP hS h1 h2) (fun q => kf q H locs ls cells slots hl hP hS h1 h2)
theorem G_if_lt (C : Cx p s m args meth c z cc nL ow ret nm) {x : Int32} {off : Int} (tgt : Nat) (hd : decode cc pc = .ok (.ifCond .lt off, 3)) (ht : (pc : Int) + off = (tgt : Int)) (kt : x < 0 → Go p l e R s m args below meth c z nL Q bc bs tgt lv st S) (kf : ¬ x < 0 → Go p l e R s m args below meth c z nL Q bc bs (pc + 3) lv st S) : Go p l e R s m args below meth c z nL Q bc bs pc lv (.int x :: st) S := fun H locs ls cells slots hl hP hS h1 h2 => lv_if_lt C.1 C.2.1 hd ht (fun q => kt q H locs ls cells slots hl hP hS h1 h2) (fun q => kf q H locs ls cells slots hl hP hS h1 h2)
theorem G_icmp_ge (C : Cx p s m args meth c z cc nL ow ret nm) {x y : Int32} {off : Int} (tgt : Nat) (hd : decode cc pc = .ok (.if_icmp .ge off, 3)) (ht : (pc : Int) + off = (tgt : Int)) (kt : y ≤ x → Go p l e R s m args below meth c z nL Q bc bs tgt lv st S) (kf : ¬ y ≤ x → Go p l e R s m args below meth c z nL Q bc bs (pc + 3) lv st S) : Go p l e R s m args below meth c z nL Q bc bs pc lv (.int y :: .int x :: st) S := fun H locs ls cells slots hl hP hS h1 h2 => lv_icmp_ge C.1 C.2.1 hd ht (fun q => kt q H locs ls cells slots hl hP hS h1 h2) (fun q => kf q H locs ls cells slots hl hP hS h1 h2)
theorem G_if_ge (C : Cx p s m args meth c z cc nL ow ret nm) {x : Int32} {off : Int} (tgt : Nat) (hd : decode cc pc = .ok (.ifCond .ge off, 3)) (ht : (pc : Int) + off = (tgt : Int)) (kt : 0 ≤ x → Go p l e R s m args below meth c z nL Q bc bs tgt lv st S) (kf : ¬ 0 ≤ x → Go p l e R s m args below meth c z nL Q bc bs (pc + 3) lv st S) : Go p l e R s m args below meth c z nL Q bc bs pc lv (.int x :: st) S := fun H locs ls cells slots hl hP hS h1 h2 => lv_if_ge C.1 C.2.1 hd ht (fun q => kt q H locs ls cells slots hl hP hS h1 h2) (fun q => kf q H locs ls cells slots hl hP hS h1 h2)
theorem G_icmp_gt (C : Cx p s m args meth c z cc nL ow ret nm) {x y : Int32} {off : Int} (tgt : Nat) (hd : decode cc pc = .ok (.if_icmp .gt off, 3)) (ht : (pc : Int) + off = (tgt : Int)) (kt : y < x → Go p l e R s m args below meth c z nL Q bc bs tgt lv st S) (kf : ¬ y < x → Go p l e R s m args below meth c z nL Q bc bs (pc + 3) lv st S) : Go p l e R s m args below meth c z nL Q bc bs pc lv (.int y :: .int x :: st) S := fun H locs ls cells slots hl hP hS h1 h2 => lv_icmp_gt C.1 C.2.1 hd ht (fun q => kt q H locs ls cells slots hl hP hS h1 h2) (fun q => kf q H locs ls cells slots hl hP hS h1 h2)
theorem G_if_gt (C : Cx p s m args meth c z cc nL ow ret nm) {x : Int32} {off : Int} (tgt : Nat) (hd : decode cc pc = .ok (.ifCond .gt off, 3)) (ht : (pc : Int) + off = (tgt : Int)) (kt : 0 < x → Go p l e R s m args below meth c z nL Q bc bs tgt lv st S) (kf : ¬ 0 < x → Go p l e R s m args below meth c z nL Q bc bs (pc + 3) lv st S) : Go p l e R s m args below meth c z nL Q bc bs pc lv (.int x :: st) S := fun H locs ls cells slots hl hP hS h1 h2 => lv_if_gt C.1 C.2.1 hd ht (fun q => kt q H locs ls cells slots hl hP hS h1 h2) (fun q => kf q H locs ls cells slots hl hP hS h1 h2)
theorem G_icmp_le (C : Cx p s m args meth c z cc nL ow ret nm) {x y : Int32} {off : Int} (tgt : Nat) (hd : decode cc pc = .ok (.if_icmp .le off, 3)) (ht : (pc : Int) + off = (tgt : Int)) (kt : x ≤ y → Go p l e R s m args below meth c z nL Q bc bs tgt lv st S) (kf : ¬ x ≤ y → Go p l e R s m args below meth c z nL Q bc bs (pc + 3) lv st S) : Go p l e R s m args below meth c z nL Q bc bs pc lv (.int y :: .int x :: st) S := fun H locs ls cells slots hl hP hS h1 h2 => lv_icmp_le C.1 C.2.1 hd ht (fun q => kt q H locs ls cells slots hl hP hS h1 h2) (fun q => kf q H locs ls cells slots hl hP hS h1 h2)
theorem G_if_le (C : Cx p s m args meth c z cc nL ow ret nm) {x : Int32} {off : Int} (tgt : Nat) (hd : decode cc pc = .ok (.ifCond .le off, 3)) (ht : (pc : Int) + off = (tgt : Int)) (kt : x ≤ 0 → Go p l e R s m args below meth c z nL Q bc bs tgt lv st S) (kf : ¬ x ≤ 0 → Go p l e R s m args below meth c z nL Q bc bs (pc + 3) lv st S) : Go p l e R s m args below meth c z nL Q bc bs pc lv (.int x :: st) S := fun H locs ls cells slots hl hP hS h1 h2 => lv_if_le C.1 C.2.1 hd ht (fun q => kt q H locs ls cells slots hl hP hS h1 h2) (fun q => kf q H locs ls cells slots hl hP hS h1 h2)
theorem G_goto (C : Cx p s m args meth c z cc nL ow ret nm) {off : Int} (tgt : Nat) (hd : decode cc pc = .ok (.goto off, 3)) (ht : (pc : Int) + off = (tgt : Int)) (k : Go p l e R s m args below meth c z nL Q bc bs tgt lv st S) : Go p l e R s m args below meth c z nL Q bc bs pc lv st S := fun H locs ls cells slots hl hP hS h1 h2 => lv_goto C.1 C.2.1 hd ht (k H locs ls cells slots hl hP hS h1 h2)
theorem G_ifnull (C : Cx p s m args meth c z cc nL ow ret nm) {r : Option Nat} {off : Int} (tgt : Nat) (hd : decode cc pc = .ok (.ifnull off, 3)) (ht : (pc : Int) + off = (tgt : Int)) (kt : r = none → Go p l e R s m args below meth c z nL Q bc bs tgt lv st S) (kf : ∀ a, r = some a → Go p l e R s m args below meth c z nL Q bc bs (pc + 3) lv st S) : Go p l e R s m args below meth c z nL Q bc bs pc lv (va_rf r :: st) S := fun H locs ls cells slots hl hP hS h1 h2 => by
  cases r with
  | none => exact lv_ifnullN C.1 C.2.1 hd ht (kt rfl H locs ls cells slots hl hP hS h1 h2)
  | some x => exact lv_ifnull C.1 C.2.1 hd (kf x rfl H locs ls cells slots hl hP hS h1 h2)
theorem G_lcmp (C : Cx p s m args meth c z cc nL ow ret nm) {x y : Int64} (hd : decode cc pc = .ok (.lcmp, 1))  (k : Go p l e R s m args below meth c z nL Q bc bs (pc + 1) lv (.int (lg_cmp x y) :: st) S) : Go p l e R s m args below meth c z nL Q bc bs pc lv (.long y :: .long x :: st) S := fun H locs ls cells slots hl hP hS h1 h2 => W.lcmp C.1 C.2.1 hd  (k H locs ls cells slots hl hP hS h1 h2)
theorem G_ldc (C : Cx p s m args meth c z cc nL ow ret nm) {ix : Nat} {v : Int32} (hw : Cond.constant ow ix v ∈ gt) (hd : decode cc pc = .ok (.ldc ix, 2)) (k : Go p l e R s m args below meth c z nL Q bc bs (pc + 2) lv (.int v :: st) S) : Go p l e R s m args below meth c z nL Q bc bs pc lv st S := fun H locs ls cells slots hl hP hS h1 h2 => lv_ldc C.1 C.2.1 C.2.2.2.1 (C.2.2.2.2.1 _ hw) hd (k H locs ls cells slots hl hP hS h1 h2)
theorem G_ldcw (C : Cx p s m args meth c z cc nL ow ret nm) {ix : Nat} {v : Int32} (hw : Cond.constant ow ix v ∈ gt) (hd : decode cc pc = .ok (.ldc_w ix, 3)) (k : Go p l e R s m args below meth c z nL Q bc bs (pc + 3) lv (.int v :: st) S) : Go p l e R s m args below meth c z nL Q bc bs pc lv st S := fun H locs ls cells slots hl hP hS h1 h2 => lv_ldcw C.1 C.2.1 C.2.2.2.1 (C.2.2.2.2.1 _ hw) hd (k H locs ls cells slots hl hP hS h1 h2)
theorem G_ldc2 (C : Cx p s m args meth c z cc nL ow ret nm) {ix : Nat} {v : Int64} (hw : Cond.constantLong ow ix v ∈ gt) (hd : decode cc pc = .ok (.ldc2_w ix, 3)) (k : Go p l e R s m args below meth c z nL Q bc bs (pc + 3) lv (.long v :: st) S) : Go p l e R s m args below meth c z nL Q bc bs pc lv st S := fun H locs ls cells slots hl hP hS h1 h2 => lv_ldc2 C.1 C.2.1 C.2.2.2.1 (C.2.2.2.2.1 _ hw) hd (k H locs ls cells slots hl hP hS h1 h2)
theorem G_ldcS (C : Cx p s m args meth c z cc nL ow ret nm) (i : Nat) {ix : Nat} {tx : String} (ho : ow = "FirstParts$Reader") (hi : txL[i]? = some (ix, tx)) (hd : decode cc pc = .ok (.ldc ix, 2)) (k : Go p l e R s m args below meth c z nL Q bc bs (pc + 2) lv (.ref (zK z i) :: st) S) : Go p l e R s m args below meth c z nL Q bc bs pc lv st S := fun H locs ls cells slots hl hP hS h1 h2 => by
  subst ho
  exact va_ldcS C.1 C.2.1 C.2.2.2.1 (C.2.2.2.2.2.1.2.2.2.2.2.2.1 i _ hi) hd (k H locs ls cells slots hl hP hS h1 h2)
theorem G_tableOut (C : Cx p s m args meth c z cc nL ow ret nm) {dflt lo hi : Int} {offs : Array Int} {len : Nat} {x : Int32} (tgt : Nat) (hd : decode cc pc = .ok (.tableswitch dflt lo hi offs, len)) (h : x.toInt < lo ∨ hi < x.toInt) (ht : (pc : Int) + dflt = (tgt : Int)) (k : Go p l e R s m args below meth c z nL Q bc bs tgt lv st S) : Go p l e R s m args below meth c z nL Q bc bs pc lv (.int x :: st) S := fun H locs ls cells slots hl hP hS h1 h2 => lv_tableOut C.1 C.2.1 hd h ht (k H locs ls cells slots hl hP hS h1 h2)
theorem G_tableIn (C : Cx p s m args meth c z cc nL ow ret nm) {dflt lo hi : Int} {offs : Array Int} {len : Nat} {x : Int32} {off : Int} (tgt : Nat) (hd : decode cc pc = .ok (.tableswitch dflt lo hi offs, len)) (h1 : ¬ x.toInt < lo) (h2 : ¬ hi < x.toInt) (ho : offs[(x.toInt - lo).toNat]? = some off) (ht : (pc : Int) + off = (tgt : Int)) (k : Go p l e R s m args below meth c z nL Q bc bs tgt lv st S) : Go p l e R s m args below meth c z nL Q bc bs pc lv (.int x :: st) S := fun H locs ls cells slots hl hP hS g1 g2 => lv_tableIn C.1 C.2.1 hd h1 h2 ho ht (k H locs ls cells slots hl hP hS g1 g2)
theorem G_sub {lv' : List (Nat × Value)} (is : List Nat) (hs : lv_pick lv is = lv') (k : Go p l e R s m args below meth c z nL Q bc bs pc lv' st S) : Go p l e R s m args below meth c z nL Q bc bs pc lv st S := fun H locs ls cells slots hl hP hS h1 h2 => k H locs ls cells slots (lv_sub hl is hs) hP hS h1 h2
theorem G_less {bc' bs' : Nat} (h1 : bc' ≤ bc) (h2 : bs' ≤ bs) (k : Go p l e R s m args below meth c z nL Q bc' bs' pc lv st S) : Go p l e R s m args below meth c z nL Q bc bs pc lv st S := fun H locs ls cells slots hl hP hS g1 g2 => k H locs ls cells slots hl hP hS (by omega) (by omega)
end RULES
end
section
section RULES2
variable {p : Program} {l : Launch} {e : Env} {R : Room} {s : State} {m : MethodId} {args : Array Value} {below : List Frame} {meth : Method} {c : Code} {z : Zt} {cc : ByteArray} {nL : Nat} {ow : String} {ret : Option FieldType} {nm : String} {Q : State → Prop} {bc bs pc : Nat} {lv : List (Nat × Value)} {st : List Value} {S : Hp}
/-! arrays -/
theorem G_iald (C : Cx p s m args meth c z cc nL ow ret nm) {a : Nat} {i : Int32} (hk : kd S a = 20) (hin : vp_in i (ln S a)) (hd : decode cc pc = .ok (.iaload, 1)) (k : Go p l e R s m args below meth c z nL Q bc bs (pc + 1) lv (.int (gI S 0 a i.toNatClampNeg) :: st) S) : Go p l e R s m args below meth c z nL Q bc bs pc lv (.int i :: .ref a :: st) S := fun H locs ls cells slots hl hP hS h1 h2 => by
  have hlt : i.toNatClampNeg < ln S a := Nat.not_le.mp fun q => hin (Or.inr q)
  exact W.iald (v := .int (gI S 0 a i.toNatClampNeg)) C.1 C.2.1 (pic_arr hP hk) ((C.2.2.2.2.2.1.1.2 0 _ rfl).1 (ln S a) (fun j => .int (gI S 0 a j))) (fun q => by cases q) (by rw [arrV_size]; exact hin) (by rw [arrV_read _ _ hlt]) rfl rfl hd (k H locs ls cells slots hl hP hS h1 h2)
theorem G_iast (C : Cx p s m args meth c z cc nL ow ret nm) {a : Nat} {i x : Int32} (hk : kd S a = 20) (hin : vp_in i (ln S a)) (hd : decode cc pc = .ok (.iastore, 1)) (k : Go p l e R s m args below meth c z nL Q bc bs (pc + 1) lv st (sI S 0 a i.toNatClampNeg x)) : Go p l e R s m args below meth c z nL Q bc bs pc lv (.int x :: .int i :: .ref a :: st) S := fun H locs ls cells slots hl hP hS h1 h2 => by
  refine W.iast C.1 C.2.1 (pic_arr hP hk) ((C.2.2.2.2.2.1.1.2 0 _ rfl).1 (ln S a) (fun j => .int (gI S 0 a j))) (fun q => by cases q) (by rw [arrV_size]; exact hin) rfl rfl hd fun H1 e z1 oq => ?_
  rw [arrV_store] at e
  exact k H1 _ ls cells slots hl (pic_putA hP hk e z1 oq) (hS.put z1 oq (pic_own hP (by rw [hk]; decide))) h1 h2
theorem G_alenI (C : Cx p s m args meth c z cc nL ow ret nm) {a : Nat} (hk : kd S a = 20) (hd : decode cc pc = .ok (.arraylength, 1)) (k : Go p l e R s m args below meth c z nL Q bc bs (pc + 1) lv (.int (Int32.ofNat (ln S a)) :: st) S) : Go p l e R s m args below meth c z nL Q bc bs pc lv (.ref a :: st) S := fun H locs ls cells slots hl hP hS h1 h2 => by
  exact W.alen C.1 C.2.1 (pic_arr hP hk) ((C.2.2.2.2.2.1.1.2 0 _ rfl).1 (ln S a) (fun j => .int (gI S 0 a j))) (by rw [arrV_size]) rfl rfl hd (k H locs ls cells slots hl hP hS h1 h2)
theorem G_aald (C : Cx p s m args meth c z cc nL ow ret nm) {a : Nat} {i : Int32} (j : Nat) {ty : FieldType} (hj : (tyl z)[j]? = some (zA z j, ty)) (hj0 : 0 < j) (hty : ty.isReference = true) (hk : kd S a = 20 + j) (hin : vp_in i (ln S a)) (hd : decode cc pc = .ok (.aaload, 1)) (k : Go p l e R s m args below meth c z nL Q bc bs (pc + 1) lv (va_rf (gR S 0 a i.toNatClampNeg) :: st) S) : Go p l e R s m args below meth c z nL Q bc bs pc lv (.int i :: .ref a :: st) S := fun H locs ls cells slots hl hP hS h1 h2 => by
  have hlt : i.toNatClampNeg < ln S a := Nat.not_le.mp fun q => hin (Or.inr q)
  exact W.aald (v := va_rf (gR S 0 a i.toNatClampNeg)) (ty := ty) C.1 C.2.1 (pic_arq hP hj0 hk) ((C.2.2.2.2.2.1.1.2 j _ hj).1 (ln S a) (fun j => va_rf (gR S 0 a j))) hty (fun q => by cases q) (by rw [arrV_size]; exact hin) (by rw [arrV_read _ _ hlt]) rfl rfl hd (k H locs ls cells slots hl hP hS h1 h2)
/-- a reference to an object of the array's own component goes into it -/
theorem G_aast (C : Cx p s m args meth c z cc nL ow ret nm) {a v : Nat} {i : Int32} (j ci N : Nat) {Cn : String} {T : u_T} (hj : (tyl z)[j]? = some (zA z j, .object Cn)) (hj0 : 0 < j) (hc : vwCl[ci]? = some (Cn, T, N)) (hN : nFl[ci]? = some N) (hk : kd S a = 20 + j) (hv : kd S v = ci + 1) (hin : vp_in i (ln S a)) (hd : decode cc pc = .ok (.aastore, 1)) (k : Go p l e R s m args below meth c z nL Q bc bs (pc + 1) lv st (sR S 0 a i.toNatClampNeg (some v))) : Go p l e R s m args below meth c z nL Q bc bs pc lv (.ref v :: .int i :: .ref a :: st) S := fun H locs ls cells slots hl hP hS h1 h2 => by
  have hlt : i.toNatClampNeg < ln S a := Nat.not_le.mp fun q => hin (Or.inr q)
  have h0 : ¬ i < 0 := fun q => hin (Or.inl q)
  obtain ⟨cellV, g1, g2, g3, -⟩ := pic_obj hP hv hN
  have hcls := (C.2.2.2.2.2.1.1.1 ci _ hc).2
  obtain ⟨kA, comp, k1, k2, k3, -⟩ := (C.2.2.2.2.2.1.1.2 j _ hj).2
  have hcomp : comp = (zD z).1 ci := Option.some.inj (k3.symm.trans hcls.1)
  subst hcomp
  obtain ⟨kC, hkC, -⟩ := hcls.2
  refine W.aast C.1 C.2.1 (pic_arq hP hj0 hk) (fun q h => by cases h) (fun h => by cases h) k1 k2 rfl hkC ⟨h0, by rw [arrV_size]; exact hlt⟩ g1 (fun q h => by rw [g3] at h; cases h) (by rw [g2]; exact hkC) (by rw [g2]; exact va_assign hcls) rfl rfl hd fun H1 e z1 oq => ?_
  rw [arrV_store] at e
  exact k H1 _ ls cells slots hl (pic_putQ hP hj0 hk e z1 oq) (hS.put z1 oq (pic_own hP (by rw [hk]; omega))) h1 h2
/-! fields -/
theorem G_getI (C : Cx p s m args meth c z cc nL ow ret nm) {a : Nat} (ci k N : Nat) {Cn : String} {T : u_T} {ix : Nat} (hc : vwCl[ci]? = some (Cn, T, N)) (hN : nFl[ci]? = some N) (hk : k < N) (hin : ∀ w ∈ u_ws Cn T N, w ∈ gt) (hi : (isIl.getD ci []).getD k true = true) (hr : (T k).1 = Cn) (hw : Cond.fieldLink ow ix Cn (T k).2.1 (T k).2.2.1 ∈ gt) (hd : decode cc pc = .ok (.getfield ix, 3)) (hkd : kd S a = ci + 1)
    (kk : Go p l e R s m args below meth c z nL Q bc bs (pc + 3) lv (.int (gI S (16 * ci + k + 1) a 0) :: st) S) : Go p l e R s m args below meth c z nL Q bc bs pc lv (.ref a :: st) S := fun H locs ls cells slots hl hP hS h1 h2 => by
  obtain ⟨cell, q1, q2, q3, q4⟩ := pic_obj hP hkd hN
  obtain ⟨hSl, hfc, kC, hkC, hkind⟩ := C.2.2.2.2.2.1.1.1 ci _ hc
  obtain ⟨cf, kf, fi, f, hfi, hsl⟩ := hSl k hk
  refine W.getf C.1 C.2.1 C.2.2.2.1 (C.2.2.2.2.1 _ hw) (by rw [hr] at hfi; exact hfi) (u_facts hfc hkC (u_lays C.2.2.2.2.1 hin hk) hfi).1 q1 (by rw [q3]; exact fun h => by cases h) (v := .int (gI S (16 * ci + k + 1) a 0)) ?_ rfl rfl hd (kk H locs ls cells slots hl hP hS h1 h2)
  rw [hsl, q4 k hk]
  exact congrArg some (fV_I hi)
theorem G_getR (C : Cx p s m args meth c z cc nL ow ret nm) {a : Nat} (ci k N : Nat) {Cn : String} {T : u_T} {ix : Nat} (hc : vwCl[ci]? = some (Cn, T, N)) (hN : nFl[ci]? = some N) (hk : k < N) (hin : ∀ w ∈ u_ws Cn T N, w ∈ gt) (hi : (isIl.getD ci []).getD k true = false) (hr : (T k).1 = Cn) (hw : Cond.fieldLink ow ix Cn (T k).2.1 (T k).2.2.1 ∈ gt) (hd : decode cc pc = .ok (.getfield ix, 3)) (hkd : kd S a = ci + 1)
    (kk : Go p l e R s m args below meth c z nL Q bc bs (pc + 3) lv (va_rf (gR S (16 * ci + k + 1) a 0) :: st) S) : Go p l e R s m args below meth c z nL Q bc bs pc lv (.ref a :: st) S := fun H locs ls cells slots hl hP hS h1 h2 => by
  obtain ⟨cell, q1, q2, q3, q4⟩ := pic_obj hP hkd hN
  obtain ⟨hSl, hfc, kC, hkC, hkind⟩ := C.2.2.2.2.2.1.1.1 ci _ hc
  obtain ⟨cf, kf, fi, f, hfi, hsl⟩ := hSl k hk
  refine W.getf C.1 C.2.1 C.2.2.2.1 (C.2.2.2.2.1 _ hw) (by rw [hr] at hfi; exact hfi) (u_facts hfc hkC (u_lays C.2.2.2.2.1 hin hk) hfi).1 q1 (by rw [q3]; exact fun h => by cases h) (v := va_rf (gR S (16 * ci + k + 1) a 0)) ?_ rfl rfl hd (kk H locs ls cells slots hl hP hS h1 h2)
  rw [hsl, q4 k hk]
  exact congrArg some (fV_R hi)
/-- what a put does to an object's cell: not final, or final in a constructor of its own class -/
theorem G_put0 (C : Cx p s m args meth c z cc nL ow ret nm) {a : Nat} (ci k N : Nat) {Cn : String} {T : u_T} {ix : Nat} (hc : vwCl[ci]? = some (Cn, T, N)) (hN : nFl[ci]? = some N) (hk : k < N) (hin : ∀ w ∈ u_ws Cn T N, w ∈ gt) (ty0 : Nat → FieldType) (hty : ∀ k, k < N → parseFieldDescriptor (T k).2.2.1 = some (ty0 k)) (hnm : ∀ a, a < N → ∀ b, b < N → a ≠ b → (T a).2.1 ≠ (T b).2.1) (hr : (T k).1 = Cn) (hw : Cond.fieldLink ow ix Cn (T k).2.1 (T k).2.2.1 ∈ gt) (hfin : (T k).2.2.2 = false ∨ ((T k).2.2.2 = true ∧ nm = "<init>" ∧ Cn = ow)) {v : Value} (hn : narrow (ty0 k) v = v) (hfit : fits (ty0 k) v = true) (hd : decode cc pc = .ok (.putfield ix, 3)) (hkd : kd S a = ci + 1) {H : Heap} {locs : List Loc} {ls : Array Slot} {cells slots : Nat} (hP : Pic z S H) (hS : va_S (own z) s.heap H locs)
    (kk : ∀ (H1 : Heap) (locs1 : List Loc), t_OB a ((zD z).1 ci) N ((zD z).2 ci) H1 (updV (fun j => fV S ci j a) k v) → H1.size = H.size → (∀ q, q ≠ a → H1[q]? = H[q]?) → va_S (own z) s.heap H1 locs1 → W p l e R s m args below meth c H1 locs1 cells slots Q (F0 m (pc + 3) ls st)) : W p l e R s m args below meth c H locs cells slots Q (F0 m pc ls (v :: .ref a :: st)) := by
  have hap := va_apart (own := ow) C.2.2.2.2.1 hin ty0 hty hnm C.2.2.2.2.2.1.1 hc
  obtain ⟨cell, q1, q2, q3, q4⟩ := pic_obj hP hkd hN
  obtain ⟨hSl, hfc, kC, hkC, hkind⟩ := C.2.2.2.2.2.1.1.1 ci _ hc
  obtain ⟨cf, kf, fi, f, hfi, hsl⟩ := hSl k hk
  have hlay := C.2.2.2.2.1 _ (hin _ (u_in_lay hk))
  unfold u_lay at hlay
  have hst := (u_facts hfc hkC (u_lays C.2.2.2.2.1 hin hk) hfi).1
  have hfi' : s.fieldFound? Cn (T k).2.1 (T k).2.2.1 = some (cf, kf, fi, f) := by rw [hr] at hfi; exact hfi
  have hown := pic_own hP (a := a) (by rw [hkd]; omega)
  rcases hfin with hfin | ⟨hfin, hin2, hdecl⟩
  · rw [if_neg (by rw [hfin]; decide)] at hlay
    have h6 := u_store hfc hkC hkind hlay hfi (hty k hk) hn hfit
    refine W.putK C.1 C.2.1 (f := f) ⟨C.2.2.2.1, C.2.2.2.2.1 _ hw, ⟨_, _, _, hfi'⟩, hst⟩ (by rw [q2]; exact h6) q1 q3 (by rw [hsl]; exact k2_hasslot (q4 k hk)) rfl rfl hd fun H' e1 e2 e3 => ?_
    rw [hsl] at e1 ⊢
    exact kk H' _ ⟨_, e1, q2, q3, t_set q4 hap hk v⟩ e2 e3 (hS.put e2 e3 hown)
  · rw [if_pos hfin] at hlay
    have hcf : m.cls = cf := by
      obtain ⟨_, _, c', _, _, _, -, -, hf', -, -, -, hown2, -⟩ := Cond.laysFinal_spec hlay
      have e1 : c' = cf := by have := hfi.symm.trans hf'; simp at this; exact this.1.symm
      rw [hr, hdecl] at hown2
      rw [← e1]; exact Option.some.inj (C.2.2.2.1.symm.trans hown2)
    have h6 := u_fits hfc hkC hkind (Or.inr hlay) hfi (hty k hk) hn hfit
    refine W.putFinK C.1 C.2.1 C.2.2.2.1 (C.2.2.2.2.1 _ hw) hfi' hst hcf (by rw [C.2.2.2.2.2.2.2.2.2]; exact hin2) (by rw [q2]; exact h6) q1 q3 (by rw [hsl]; exact k2_hasslot (q4 k hk)) rfl rfl hd fun H' e1 e2 e3 => ?_
    rw [hsl] at e1 ⊢
    exact kk H' _ ⟨_, e1, q2, q3, t_set q4 hap hk v⟩ e2 e3 (hS.put e2 e3 hown)
theorem G_putI (C : Cx p s m args meth c z cc nL ow ret nm) {a : Nat} (ci k N : Nat) {Cn : String} {T : u_T} {ix : Nat} (hc : vwCl[ci]? = some (Cn, T, N)) (hN : nFl[ci]? = some N) (hk : k < N) (hin : ∀ w ∈ u_ws Cn T N, w ∈ gt) (ty0 : Nat → FieldType) (hty : ∀ k, k < N → parseFieldDescriptor (T k).2.2.1 = some (ty0 k)) (hnm : ∀ a, a < N → ∀ b, b < N → a ≠ b → (T a).2.1 ≠ (T b).2.1) (hi : (isIl.getD ci []).getD k true = true) (hr : (T k).1 = Cn) (hw : Cond.fieldLink ow ix Cn (T k).2.1 (T k).2.2.1 ∈ gt) (hfin : (T k).2.2.2 = false ∨ ((T k).2.2.2 = true ∧ nm = "<init>" ∧ Cn = ow)) {v : Int32} (hn : narrow (ty0 k) (.int v) = .int v) (hfit : fits (ty0 k) (.int v) = true) (hd : decode cc pc = .ok (.putfield ix, 3)) (hkd : kd S a = ci + 1)
    (kk : Go p l e R s m args below meth c z nL Q bc bs (pc + 3) lv st (sI S (16 * ci + k + 1) a 0 v)) : Go p l e R s m args below meth c z nL Q bc bs pc lv (.int v :: .ref a :: st) S := fun H locs ls cells slots hl hP hS h1 h2 =>
  G_put0 C ci k N hc hN hk hin ty0 hty hnm hr hw hfin hn hfit hd hkd hP hS fun H1 locs1 hq e2 e3 hS1 => kk H1 locs1 ls cells slots hl (pic_putI (cell := default) hP hkd hN hk hi hq e2 e3) hS1 h1 h2
theorem G_putR (C : Cx p s m args meth c z cc nL ow ret nm) {a : Nat} (ci k N : Nat) {Cn : String} {T : u_T} {ix : Nat} (hc : vwCl[ci]? = some (Cn, T, N)) (hN : nFl[ci]? = some N) (hk : k < N) (hin : ∀ w ∈ u_ws Cn T N, w ∈ gt) (ty0 : Nat → FieldType) (hty : ∀ k, k < N → parseFieldDescriptor (T k).2.2.1 = some (ty0 k)) (hnm : ∀ a, a < N → ∀ b, b < N → a ≠ b → (T a).2.1 ≠ (T b).2.1) (hi : (isIl.getD ci []).getD k true = false) (hr : (T k).1 = Cn) (hw : Cond.fieldLink ow ix Cn (T k).2.1 (T k).2.2.1 ∈ gt) (hfin : (T k).2.2.2 = false ∨ ((T k).2.2.2 = true ∧ nm = "<init>" ∧ Cn = ow)) {v : Option Nat} (hn : ∀ a, narrow (ty0 k) (.ref a) = .ref a) (hn0 : narrow (ty0 k) .null = .null) (hfit : ∀ a, fits (ty0 k) (.ref a) = true) (hfit0 : fits (ty0 k) .null = true) (hd : decode cc pc = .ok (.putfield ix, 3)) (hkd : kd S a = ci + 1)
    (kk : Go p l e R s m args below meth c z nL Q bc bs (pc + 3) lv st (sR S (16 * ci + k + 1) a 0 v)) : Go p l e R s m args below meth c z nL Q bc bs pc lv (va_rf v :: .ref a :: st) S := fun H locs ls cells slots hl hP hS h1 h2 =>
  G_put0 C ci k N hc hN hk hin ty0 hty hnm hr hw hfin (v := va_rf v) (by cases v with | none => exact hn0 | some x => exact hn x) (by cases v with | none => exact hfit0 | some x => exact hfit x) hd hkd hP hS fun H1 locs1 hq e2 e3 hS1 => kk H1 locs1 ls cells slots hl (pic_putR hP hkd hN hk hi hq e2 e3) hS1 h1 h2
/-! new cells -/
theorem G_new (C : Cx p s m args meth c z cc nL ow ret nm) (ci N : Nat) {Cn : String} {T : u_T} {ix : Nat} (hc : vwCl[ci]? = some (Cn, T, N)) (hN : nFl[ci]? = some N) (hin : ∀ w ∈ u_ws Cn T N, w ∈ gt) (ty0 : Nat → FieldType) (hty : ∀ k, k < N → parseFieldDescriptor (T k).2.2.1 = some (ty0 k)) (hdf : ∀ j, j < N → defaultValue (ty0 j) = if (isIl.getD ci []).getD j true then .int 0 else .null) (hw : Cond.classLink ow ix Cn ∈ gt) (hw2 : Cond.instantiable Cn N ∈ gt) (hw3 : Cond.initialized Cn ∈ gt) (hd : decode cc pc = .ok (.new ix, 3))
    (kk : Go p l e R s m args below meth c z nL Q bc bs (pc + 3) lv (.ref (sz S) :: st) (nw S (ci + 1) 0)) : Go p l e R s m args below meth c z nL Q (bc + 1) (bs + N) pc lv st S := fun H locs ls cells slots hl hP hS h1 h2 => by
  have hKn := C.2.2.2.2.2.1.1.1 ci _ hc
  refine W.newcK C.1 C.2.1 C.2.2.2.1 (C.2.2.2.2.1 _ hw) (C.2.2.2.2.1 _ hw2) (C.2.2.2.2.1 _ hw3) rfl hd (by omega) (by omega) hKn.2.1 rfl fun H1 kC hkC e1 z1 o1 => ?_
  have hb : zb z ≤ H.size := Nat.le_trans C.2.2.2.2.2.2.1 hS.1
  have hP1 : Pic z (nw S (ci + 1) 0) H1 := by
    refine pic_new hP hb z1 o1 (fun cj M hj hM => ?_) (fun hj => ?_) (fun j hj0 hj => ?_)
    · have hcc : cj = ci := by omega
      subst hcc
      obtain rfl : M = N := Option.some.inj (hM.symm.trans hN)
      exact (u_born ty0 C.2.2.2.2.1 hin hKn hkC e1 hty).to hdf
    · have : ci = 19 := by omega
      subst this; simp [nFl] at hN
    · have : ci = 19 + j := by omega
      subst this; have := (List.getElem?_eq_some_iff.mp hN).1; simp [nFl] at this; omega
  rw [hP.1]
  exact kk H1 locs ls (cells + 1) (slots + N) hl hP1 ⟨Nat.le_trans hS.1 (by omega), fun x g1 g2 => (o1 x (Nat.lt_of_lt_of_le g1 hS.1)).trans (hS.2.1 x g1 g2), hS.2.2⟩ (by omega) (by omega)
theorem G_newa (C : Cx p s m args meth c z cc nL ow ret nm) {n : Int32} (N : Nat) (hw : Cond.arrayClass .int ∈ gt) (hn : ¬ n < 0) (hN : n.toNatClampNeg = N) (hby : N * 4 ≤ 536870912) (hd : decode cc pc = .ok (.newarray .int, 2))
    (kk : Go p l e R s m args below meth c z nL Q bc bs (pc + 2) lv (.ref (sz S) :: st) (nw S 20 N)) : Go p l e R s m args below meth c z nL Q (bc + 1) (bs + N) pc lv (.int n :: st) S := fun H locs ls cells slots hl hP hS h1 h2 => by
  refine va_newaK (atype := .int) C.1 C.2.1 (C.2.2.2.2.1 _ hw) rfl hd rfl hn hN hby (by omega) (by omega) rfl fun H1 cA e1 z1 o1 hAr hNm => ?_
  have hb : zb z ≤ H.size := Nat.le_trans C.2.2.2.2.2.2.1 hS.1
  have hcA : cA = zA z 0 := Option.some.inj (hNm.symm.trans (C.2.2.2.2.2.1.1.2 0 _ rfl).2)
  subst hcA
  have hP1 : Pic z (nw S 20 N) H1 := by
    refine pic_new hP hb z1 o1 (fun cj M hj hM => ?_) (fun hj => e1) (fun j hj0 hj => by omega)
    have : cj = 19 := by omega
    subst this; simp [nFl] at hM
  rw [hP.1]
  exact kk H1 locs ls (cells + 1) (slots + N) hl hP1 ⟨Nat.le_trans hS.1 (by omega), fun x g1 g2 => (o1 x (Nat.lt_of_lt_of_le g1 hS.1)).trans (hS.2.1 x g1 g2), hS.2.2⟩ (by omega) (by omega)
theorem G_anew (C : Cx p s m args meth c z cc nL ow ret nm) {n : Int32} (j N : Nat) {Cn : String} {ix : Nat} (hj : (tyl z)[j]? = some (zA z j, .object Cn)) (hj0 : 0 < j) (hao : Cn ∈ aoL) (hw : Cond.classLink ow ix Cn ∈ gt) (hn : ¬ n < 0) (hN : n.toNatClampNeg = N) (hby : N * 4 ≤ 536870912) (hd : decode cc pc = .ok (.anewarray ix, 3))
    (kk : Go p l e R s m args below meth c z nL Q bc bs (pc + 3) lv (.ref (sz S) :: st) (nw S (20 + j) N)) : Go p l e R s m args below meth c z nL Q (bc + 1) (bs + N) pc lv (.int n :: st) S := fun H locs ls cells slots hl hP hS h1 h2 => by
  subst hN
  refine W.anew C.1 C.2.1 C.2.2.2.1 (C.2.2.2.2.1 _ hw) (va_AO.use (C.2.2.2.2.2.1.2.2.1 _ hao)) rfl hd rfl hn hby (by omega) (by omega) fun cA kA comp f1 f2 f3 f4 => ?_
  generalize hH1 : H.push ({ cls := cA, slots := Array.replicate n.toNatClampNeg .null, vm := .none } : Cell) = H1
  have z1 : H1.size = H.size + 1 := by rw [← hH1, Array.size_push]
  have e1 : H1[H.size]? = some (arrV cA n.toNatClampNeg (fun _ => .null)) := by rw [← hH1, Array.getElem?_push_size, ← arrV_new]
  have o1 : ∀ q : Nat, q < H.size → H1[q]? = H[q]? := fun q hq => by rw [← hH1, Array.getElem?_push, if_neg (Nat.ne_of_lt hq)]
  have hb : zb z ≤ H.size := Nat.le_trans C.2.2.2.2.2.2.1 hS.1
  obtain ⟨-, -, -, -, -, hNm⟩ := (C.2.2.2.2.2.1.1.2 j _ hj).2
  have hcA : cA = zA z j := Option.some.inj (f1.symm.trans hNm)
  subst hcA
  have hP1 : Pic z (nw S (20 + j) n.toNatClampNeg) H1 := by
    refine pic_new hP hb z1 o1 (fun cj M hj hM => ?_) (fun hj => by omega) (fun i hi0 hi => ?_)
    · have : cj = 19 + j := by omega
      subst this; have := (List.getElem?_eq_some_iff.mp hM).1; simp [nFl] at this; omega
    · have : i = j := by omega
      subst this; exact e1
  rw [hP.1]
  exact kk H1 locs ls (cells + 1) (slots + n.toNatClampNeg) hl hP1 ⟨Nat.le_trans hS.1 (by omega), fun x g1 g2 => (o1 x (Nat.lt_of_lt_of_le g1 hS.1)).trans (hS.2.1 x g1 g2), hS.2.2⟩ (by omega) (by omega)
/-! ends -/
theorem G_iret (C : Cx p s m args meth c z cc nL ow ret nm) {x : Int32} {post : Option Value → Hp → Prop} (hr : ret = some .int) (hd : decode cc pc = .ok (.ireturn, 1)) (hq : post (some (.int x)) S) : Go p l e R s m args below meth c z nL (MQ below (Qx z post) args s R.cells R.slots (own z)) bc bs pc lv [.int x] S := fun H locs ls cells slots hl hP hS h1 h2 => by
  refine W.widen (k := R.cells) (n := R.slots) (by omega) (by omega) ?_
  exact W.iret C.1 C.2.1 (by rw [C.2.2.2.2.2.2.2.2.1]; exact hr) (fun t ht _ => ⟨_, S, rfl, hq, by rw [ht]; exact hP, hS.F ht⟩) hS.2.2 hd C.2.2.2.2.2.2.2.1
theorem G_zret (C : Cx p s m args meth c z cc nL ow ret nm) {x : Int32} {post : Option Value → Hp → Prop} (hr : ret = some .boolean) (hx : x = 0 ∨ x = 1) (hd : decode cc pc = .ok (.ireturn, 1)) (hq : post (some (.int x)) S) : Go p l e R s m args below meth c z nL (MQ below (Qx z post) args s R.cells R.slots (own z)) bc bs pc lv [.int x] S := fun H locs ls cells slots hl hP hS h1 h2 => by
  refine W.widen (k := R.cells) (n := R.slots) (by omega) (by omega) ?_
  exact W.zret C.1 C.2.1 (by rw [C.2.2.2.2.2.2.2.2.1]; exact hr) (by rcases hx with rfl | rfl <;> rfl) (fun t ht _ => ⟨_, S, rfl, hq, by rw [ht]; exact hP, hS.F ht⟩) hS.2.2 hd C.2.2.2.2.2.2.2.1
theorem G_vret (C : Cx p s m args meth c z cc nL ow ret nm) {post : Option Value → Hp → Prop} (hr : ret = none) (hd : decode cc pc = .ok (.return_, 1)) (hq : post none S) : Go p l e R s m args below meth c z nL (MQ below (Qx z post) args s R.cells R.slots (own z)) bc bs pc lv [] S := fun H locs ls cells slots hl hP hS h1 h2 => by
  refine W.widen (k := R.cells) (n := R.slots) (by omega) (by omega) ?_
  exact W.vret C.1 C.2.1 (by rw [C.2.2.2.2.2.2.2.2.1]; exact hr) (fun t ht _ => ⟨_, S, rfl, hq, by rw [ht]; exact hP, hS.F ht⟩) hS.2.2 hd C.2.2.2.2.2.2.2.1
theorem G_aret (C : Cx p s m args meth c z cc nL ow ret nm) {a : Nat} {post : Option Value → Hp → Prop} {rt : FieldType} (hr : ret = some rt) (hrt : (∃ n, rt = .object n) ∨ ∃ t, rt = .array t) (hd : decode cc pc = .ok (.areturn, 1)) (hq : post (some (.ref a)) S) : Go p l e R s m args below meth c z nL (MQ below (Qx z post) args s R.cells R.slots (own z)) bc bs pc lv [.ref a] S := fun H locs ls cells slots hl hP hS h1 h2 => by
  refine W.widen (k := R.cells) (n := R.slots) (by omega) (by omega) ?_
  exact W.aret C.1 C.2.1 (by rw [C.2.2.2.2.2.2.2.2.1]; exact hr) hrt (Or.inr ⟨_, rfl⟩) (fun t ht _ => ⟨_, S, rfl, hq, by rw [ht]; exact hP, hS.F ht⟩) hS.2.2 hd C.2.2.2.2.2.2.2.1
/-! a method's contract out of its body -/
theorem Ct_of {y : MethodName} {f loc mc ms : Nat} {av : List Value} {post : Option Value → Hp → Prop} (hy : plainName y.cls = true) (hlen : (lg_sl av).length ≤ nL)
    (body : ∀ (p : Program) (e : Env) (s : State) (m : MethodId) (args : Array Value) (below : List Frame) (meth : Method) (c : Code), Cx p s m args meth c z cc nL y.cls ret y.name → Go p l e { frames := f, cells := mc, slots := ms, locals := loc } s m args below meth c z nL (MQ below (Qx z post) args s mc ms (own z)) mc ms 0 (lv_args 0 av) [] S) : Ct l z y cc nL ret f loc mc ms av S post := by
  refine Met.ofW (cc := cc) (maxL := nL) (ret := ret) hy rfl ?_
  intro p e s m args below meth c s₁ B hml hv
  obtain ⟨rfl, hP, hE, hbz⟩ := hv
  have hts := atoms_spec (ws := mws y cc nL ret) B.pre
  have C : Cx p s m av.toArray meth c z cc nL y.cls ret y.name := ⟨B.exec, B.bytes, hml, findClass_of_methodNamed B.named, fun w hw => hts w (List.mem_cons_of_mem _ hw), hE, hbz, B.notSynchronized, B.returns, (name_of_methodNamed B.named B.method).1⟩
  have hl := lv_entry av (n := nL) hlen
  rw [lg_entry_eq]
  exact body p e s m av.toArray below meth c C s.heap [] _ 0 0 hl hP va_S.rf (Nat.le_of_eq (Nat.zero_add _)) (Nat.le_of_eq (Nat.zero_add _))
end RULES2
end
section
section CALLS
variable {p : Program} {l : Launch} {e : Env} {R : Room} {s : State} {m : MethodId} {args : Array Value} {below : List Frame} {meth : Method} {c : Code} {z : Zt} {cc : ByteArray} {nL : Nat} {ow : String} {ret : Option FieldType} {nm : String} {Q : State → Prop} {bc bs pc : Nat} {lv : List (Nat × Value)} {st : List Value} {S : Hp}
variable {y : MethodName} {cd : ByteArray} {n2 : Nat} {rt : Option FieldType} {f loc mc ms a ix np : Nat} {As rest st0 : List Value} {post : Option Value → Hp → Prop}
theorem G_run {av : Array Value} (hrun : ∀ (H : Heap) (locs : List Loc) (ls : Array Slot) (cells slots : Nat), lv_has ls nL lv → Pic z S H → va_S (own z) s.heap H locs → cells + mc ≤ R.cells ∧ slots + ms ≤ R.slots → va_Run p l e R s m args below meth c H locs cells slots mc ms (F0 m pc ls st0) rest (Qx z post av) (own z))
    (k : ∀ (v : Option Value) (S' : Hp), post v S' → Go p l e R s m args below meth c z nL Q bc bs (pc + 3) lv (v.toList ++ rest) S') : Go p l e R s m args below meth c z nL Q (bc + mc) (bs + ms) pc lv st0 S := fun H locs ls cells slots hl hP hS h1 h2 => by
  have hr := hrun H locs ls cells slots hl hP hS ⟨by omega, by omega⟩
  intro T hT X
  obtain ⟨v, st₀, t, T', L, h0, X', hL, e1, e2, ⟨v', S', hv, hp, hP1, hF⟩, st⟩ := hr T hT X
  cases hv
  have hF1 := hF.1
  have hF2 := hF.2
  rw [h0] at hF1 hF2
  obtain ⟨t2, a1, b1⟩ := k v S' hp T'.heap (locs ++ L) ls (cells + mc) (slots + ms) hl (by rw [e1]; exact hP1)
    ⟨by rw [e1]; exact Nat.le_trans hS.1 hF1, fun q g1 g2 => by rw [e1, hF2 q (Nat.lt_of_lt_of_le g1 hS.1) g2]; exact hS.2.1 q g1 g2, fun q hq => by
      rcases List.mem_append.mp hq with h | h
      · exact hS.2.2 q h
      · exact hL q h⟩ (by omega) (by omega) T' rfl X'
  exact ⟨t2, st t2 a1, b1⟩
def dsc (y : MethodName) (n : Nat) : Prop := y.cls ≠ "java/lang/invoke/MethodHandle" ∧ y.cls ≠ "java/lang/invoke/VarHandle" ∧ (parseMethodDescriptor y.desc).map (fun d => d.parameters.length) = some n
theorem pc_blind {av : List Value} : FrameBlind (va_Pc av (fun U => Pic z S U.heap ∧ Ev z U U.heap ∧ zb z ≤ U.heap.size)) := fun a U g mk q => ⟨q.1, q.2.1, q.2.2.1.same (U := U.calling g mk a) rfl, q.2.2.2⟩
theorem pc_at (C : Cx p s m args meth c z cc nL ow ret nm) {H : Heap} {locs : List Loc} (hP : Pic z S H) (hS : va_S (own z) s.heap H locs) (av : List Value) : ∀ U : State, U.heap = H → s.WarmedH U.vm → va_Pc av (fun U => Pic z S U.heap ∧ Ev z U U.heap ∧ zb z ≤ U.heap.size) av.toArray U := fun U hU hW => ⟨rfl, by rw [hU]; exact hP, C.2.2.2.2.2.1.warm hW (fun q g1 g2 => by rw [hU]; exact hS.2.1 q g1 g2), by rw [hU]; exact Nat.le_trans C.2.2.2.2.2.2.1 hS.1⟩
theorem G_callV (C : Cx p s m args meth c z cc nL ow ret nm) (ci N : Nat) {T : u_T} (hc : vwCl[ci]? = some (y.cls, T, N)) (hN : nFl[ci]? = some N) (w1 : Cond.methodLink ow ix y ∈ gt) (w2 : Cond.instanceMethod y ∈ gt) (w3 : Cond.selects y.cls y y ∈ gt) (w4 : Cond.initialized y.cls ∈ gt) (w5 : Cond.code y cd n2 rt ∈ gt) (hy : dsc y np) (hm : Ct l z y cd n2 rt f loc mc ms (.ref a :: As) S post) (hnp : As.length = np) (hR : f + 1 ≤ R.frames ∧ 8 + (n2 + 11) + loc ≤ R.locals) (hkd : kd S a = ci + 1) (hst : st0 = As.reverse ++ .ref a :: rest) (hW : (rest.map fun v => v.category).sum ≤ 8) (hd : decode cc pc = .ok (.invokevirtual ix, 3))
    (k : ∀ (v : Option Value) (S' : Hp), post v S' → Go p l e R s m args below meth c z nL Q bc bs (pc + 3) lv (v.toList ++ rest) S') : Go p l e R s m args below meth c z nL Q (bc + mc) (bs + ms) pc lv st0 S := by
  refine G_run (av := (Value.ref a :: As).toArray) (fun H locs ls cells slots hl hP hS hf => ?_) k
  obtain ⟨cell, q1, q2, q3, -⟩ := pic_obj hP hkd hN
  refine va_runV (Ts := gt) (C := y.cls) (As := As) ⟨C.1, C.2.1, C.2.2.1, C.2.2.2.1, C.2.2.2.2.1⟩ hm (cwV np C.2.2.2.2.1 (gt_in fun w hw => ?_) rfl rfl rfl ⟨rfl, hy⟩ hR) ⟨pc_blind, ⟨cell, q1, by rw [q3]; rfl, by rw [q2]; exact (C.2.2.2.2.2.1.1.1 ci _ hc).2.1⟩, pc_at C hP hS (.ref a :: As)⟩ rfl hnp hl.1 hst (lv_room hW) hd hf
  rcases List.mem_append.mp hw with h | h
  · simp only [List.mem_cons, List.not_mem_nil, or_false] at h
    rcases h with rfl | rfl | rfl | rfl
    · exact w1
    · exact w2
    · exact w3
    · exact w4
  · exact (mws_in w5 w h).1
theorem G_callS (C : Cx p s m args meth c z cc nL ow ret nm) (w1 : Cond.methodLink ow ix y ∈ gt) (w2 : Cond.static y ∈ gt) (w4 : Cond.initialized y.cls ∈ gt) (w5 : Cond.code y cd n2 rt ∈ gt) (hy : dsc y np) (hm : Ct l z y cd n2 rt f loc mc ms As S post) (hnp : As.length = np) (hR : f + 1 ≤ R.frames ∧ 8 + (n2 + 11) + loc ≤ R.locals) (hst : st0 = As.reverse ++ rest) (hW : (rest.map fun v => v.category).sum ≤ 8) (hd : decode cc pc = .ok (.invokestatic ix, 3))
    (k : ∀ (v : Option Value) (S' : Hp), post v S' → Go p l e R s m args below meth c z nL Q bc bs (pc + 3) lv (v.toList ++ rest) S') : Go p l e R s m args below meth c z nL Q (bc + mc) (bs + ms) pc lv st0 S := by
  refine G_run (av := As.toArray) (fun H locs ls cells slots hl hP hS hf => ?_) k
  refine va_runS (Ts := gt) (As := As) ⟨C.1, C.2.1, C.2.2.1, C.2.2.2.1, C.2.2.2.2.1⟩ hm (va_cwS np C.2.2.2.2.1 (gt_in fun w hw => ?_) rfl rfl rfl hy hR) ⟨pc_blind, pc_at C hP hS As⟩ rfl hnp hl.1 hst (lv_room hW) hd hf
  rcases List.mem_append.mp hw with h | h
  · simp only [List.mem_cons, List.not_mem_nil, or_false] at h
    rcases h with rfl | rfl | rfl
    · exact w1
    · exact w2
    · exact w4
  · exact (mws_in w5 w h).1
theorem G_callN (C : Cx p s m args meth c z cc nL ow ret nm) (w1 : (ow, ix, y) ∈ nestL) (w2 : Cond.static y ∈ gt) (w4 : Cond.initialized y.cls ∈ gt) (w5 : Cond.code y cd n2 rt ∈ gt) (hy : dsc y np) (hm : Ct l z y cd n2 rt f loc mc ms As S post) (hnp : As.length = np) (hR : f + 1 ≤ R.frames ∧ 8 + (n2 + 11) + loc ≤ R.locals) (hst : st0 = As.reverse ++ rest) (hW : (rest.map fun v => v.category).sum ≤ 8) (hd : decode cc pc = .ok (.invokestatic ix, 3))
    (k : ∀ (v : Option Value) (S' : Hp), post v S' → Go p l e R s m args below meth c z nL Q bc bs (pc + 3) lv (v.toList ++ rest) S') : Go p l e R s m args below meth c z nL Q (bc + mc) (bs + ms) pc lv st0 S := by
  refine G_run (av := As.toArray) (fun H locs ls cells slots hl hP hS hf => ?_) k
  exact va_runSN (Ts := gt) (As := As) ⟨C.1, C.2.1, C.2.2.1, C.2.2.2.1, C.2.2.2.2.1⟩ hm ⟨va_cnB (host := "FirstParts") np C.2.2.2.2.1 (mws_in w5) rfl rfl rfl (C.2.2.2.2.2.1.2.1 _ w1) (C.2.2.2.2.1 _ w4) hy hR, C.2.2.2.2.1 _ w2, trivial⟩ ⟨pc_blind, pc_at C hP hS As⟩ rfl hnp hl.1 hst (lv_room hW) hd hf
theorem G_callI (C : Cx p s m args meth c z cc nL ow ret nm) (hin : y.name = "<init>") (w1 : Cond.methodLink ow ix y ∈ gt) (w2 : Cond.instanceMethod y ∈ gt) (w4 : Cond.initialized y.cls ∈ gt) (w5 : Cond.code y cd n2 none ∈ gt) (hy : dsc y np) (hm : Ct l z y cd n2 none f loc mc ms (.ref a :: As) S post) (hnp : As.length = np) (hR : f + 1 ≤ R.frames ∧ 8 + (n2 + 11) + loc ≤ R.locals) (hst : st0 = As.reverse ++ .ref a :: rest) (hW : (rest.map fun v => v.category).sum ≤ 8) (hd : decode cc pc = .ok (.invokespecial ix, 3))
    (k : ∀ (v : Option Value) (S' : Hp), post v S' → Go p l e R s m args below meth c z nL Q bc bs (pc + 3) lv (v.toList ++ rest) S') : Go p l e R s m args below meth c z nL Q (bc + mc) (bs + ms) pc lv st0 S := by
  refine G_run (av := (Value.ref a :: As).toArray) (fun H locs ls cells slots hl hP hS hf => ?_) k
  exact va_runI (Ts := gt) (As := As) ⟨C.1, C.2.1, C.2.2.1, C.2.2.2.1, C.2.2.2.2.1⟩ hm (cwI np C.2.2.2.2.1 (mws_in w5) rfl rfl rfl (C.2.2.2.2.1 _ w4) (C.2.2.2.2.1 _ w1) (C.2.2.2.2.1 _ w2) hin hy hR) ⟨pc_blind, pc_at C hP hS (.ref a :: As)⟩ rfl hnp hl.1 hst (lv_room hW) hd hf
theorem G_callIN (C : Cx p s m args meth c z cc nL ow ret nm) (hin : y.name = "<init>") (w1 : (ow, ix, y) ∈ nestL) (w2 : Cond.instanceMethod y ∈ gt) (w4 : Cond.initialized y.cls ∈ gt) (w5 : Cond.code y cd n2 none ∈ gt) (hy : dsc y np) (hm : Ct l z y cd n2 none f loc mc ms (.ref a :: As) S post) (hnp : As.length = np) (hR : f + 1 ≤ R.frames ∧ 8 + (n2 + 11) + loc ≤ R.locals) (hst : st0 = As.reverse ++ .ref a :: rest) (hW : (rest.map fun v => v.category).sum ≤ 8) (hd : decode cc pc = .ok (.invokespecial ix, 3))
    (k : ∀ (v : Option Value) (S' : Hp), post v S' → Go p l e R s m args below meth c z nL Q bc bs (pc + 3) lv (v.toList ++ rest) S') : Go p l e R s m args below meth c z nL Q (bc + mc) (bs + ms) pc lv st0 S := by
  refine G_run (av := (Value.ref a :: As).toArray) (fun H locs ls cells slots hl hP hS hf => ?_) k
  exact va_runIN (Ts := gt) (As := As) ⟨C.1, C.2.1, C.2.2.1, C.2.2.2.1, C.2.2.2.2.1⟩ hm ⟨va_cnB (host := "FirstParts") np C.2.2.2.2.1 (mws_in w5) rfl rfl rfl (C.2.2.2.2.2.1.2.1 _ w1) (C.2.2.2.2.1 _ w4) hy hR, hin, C.2.2.2.2.1 _ w2⟩ ⟨pc_blind, pc_at C hP hS (.ref a :: As)⟩ rfl hnp hl.1 hst (lv_room hW) hd hf
/-! loops: what is left is well founded by a measure -/
def Lp {X : Type} (B : (X → Prop) → X → Prop) (x : X) : Prop := ∃ (I : X → Prop) (μ : X → Nat), I x ∧ ∀ y, I y → B (fun w => I w ∧ μ w < μ y) y
theorem Lp_go {X : Type} {B : (X → Prop) → X → Prop} {G : X → Prop} (hs : ∀ (K : X → Prop) (y : X), (∀ w, K w → G w) → B K y → G y) {x : X} (h : Lp B x) : G x := by
  obtain ⟨I, μ, hx, hI⟩ := h
  have key : ∀ n y, μ y < n → I y → G y := by
    intro n
    induction n with
    | zero => intro y hy; omega
    | succ n ih => intro y hy hIy; exact hs _ y (fun w hw => ih w (by omega) hw.1) (hI y hIy)
  exact key _ x (Nat.lt_succ_self _) hx
end CALLS
end
section
section HELP
variable {p : Program} {l : Launch} {e : Env} {R : Room} {s : State} {m : MethodId} {args : Array Value} {below : List Frame} {meth : Method} {c : Code} {z : Zt} {cc : ByteArray} {nL : Nat} {ow : String} {ret : Option FieldType} {nm : String} {Q : State → Prop} {bc bs pc : Nat} {lv : List (Nat × Value)} {st : List Value} {S : Hp}
/-! posts -/
def pI (S : Hp) (Q : Int32 → Prop) : Option Value → Hp → Prop := fun v S' => S' = S ∧ ∃ x : Int32, v = some (.int x) ∧ Q x
def pA (S : Hp) (Q : Nat → Prop) : Option Value → Hp → Prop := fun v S' => S' = S ∧ ∃ x : Nat, v = some (.ref x) ∧ Q x
def wI (Q : Int32 → Hp → Prop) : Option Value → Hp → Prop := fun v S' => ∃ x : Int32, v = some (.int x) ∧ Q x S'
def wA (Q : Nat → Hp → Prop) : Option Value → Hp → Prop := fun v S' => ∃ x : Nat, v = some (.ref x) ∧ Q x S'
def wV (Q : Hp → Prop) : Option Value → Hp → Prop := fun v S' => v = none ∧ Q S'
theorem G_topi {x : Int32} (k : ∀ y : Int32, y = x → Go p l e R s m args below meth c z nL Q bc bs pc lv (.int y :: st) S) : Go p l e R s m args below meth c z nL Q bc bs pc lv (.int x :: st) S := k x rfl
theorem G_nullQ (C : Cx p s m args meth c z cc nL ow ret nm) (hd : decode cc pc = .ok (.aconst_null, 1)) (k : Go p l e R s m args below meth c z nL Q bc bs (pc + 1) lv (va_rf none :: st) S) : Go p l e R s m args below meth c z nL Q bc bs pc lv st S := G_null C hd k
theorem w_oi : Cond.instanceMethod Lib.objectInit ∈ gt := gt_t 27 (by decide +kernel) rfl
theorem w_oc : Cond.code Lib.objectInit ⟨#[0xb1]⟩ 1 none ∈ gt := gt_t 28 (by decide +kernel) rfl
theorem w_aI : Cond.arrayClass .int ∈ gt := gt_t 45 (by decide +kernel) rfl
theorem G_objInit (C : Cx p s m args meth c z cc nL ow ret nm) {ix a : Nat} (w1 : Cond.methodLink ow ix Lib.objectInit ∈ gt) (h1 : 1 ≤ R.frames) (h2 : 20 ≤ R.locals) (hd : decode cc pc = .ok (.invokespecial ix, 3)) (k : Go p l e R s m args below meth c z nL Q bc bs (pc + 3) lv [] S) : Go p l e R s m args below meth c z nL Q bc bs pc lv [.ref a] S := fun H locs ls cells slots hl hP hS g1 g2 =>
  W.objInit C.1 C.2.1 C.2.2.2.1 (C.2.2.2.2.1 _ w1) (C.2.2.2.2.1 _ w_oi) (C.2.2.2.2.1 _ w_oc) rfl (by rw [C.2.2.1]; exact hl.1) rfl hd h1 (Nat.le_trans (Nat.add_le_add_right (lv_room (st := []) (by decide)) 12) h2) (k H locs ls cells slots hl hP hS g1 g2)
theorem ne_ti {x k : Int32} {n : Int} (h : ¬ x = k) (hk : k.toInt = n) : ¬ x.toInt = n := fun q => h (Int32.toInt_inj.mp (q.trans hk.symm))
theorem G_inv (C : Cx p s m args meth c z cc nL ow ret nm) {ix : Nat} (w1 : Cond.fieldLink ow ix "FirstParts$Curve" "INVERSE" "[I" ∈ gt) (hd : decode cc pc = .ok (.getstatic ix, 3)) (k : Go p l e R s m args below meth c z nL Q bc bs (pc + 3) lv (.ref (zI z) :: st) S) : Go p l e R s m args below meth c z nL Q bc bs pc lv st S := fun H locs ls cells slots hl hP hS g1 g2 =>
  va_gets C.1 C.2.1 C.2.2.2.2.2.1.2.2.2.1 hS C.2.2.2.1 (C.2.2.2.2.1 _ w1) (fun x h => h) hd (k H locs ls cells slots hl hP hS g1 g2)
theorem G_invld (C : Cx p s m args meth c z cc nL ow ret nm) {i : Int32} (hi : vp_in i 29) (hd : decode cc pc = .ok (.iaload, 1)) (k : Go p l e R s m args below meth c z nL Q bc bs (pc + 1) lv (.int (invT i.toNatClampNeg) :: st) S) : Go p l e R s m args below meth c z nL Q bc bs pc lv (.int i :: .ref (zI z) :: st) S := fun H locs ls cells slots hl hP hS g1 g2 =>
  va_ti C.1 C.2.1 C.2.2.2.2.2.1.2.2.2.2.1 hS hi rfl hd (k H locs ls cells slots hl hP hS g1 g2)
theorem in_X0 : ∀ w ∈ u_ws RX0 TX0 5, w ∈ gt := fun w hw => have h : (u_ws RX0 TX0 5).all (fun w => decide (w ∈ lw_tbl) && goodWord w) = true := by decide +kernel
  have h1 := List.all_eq_true.mp h w hw
  gt_of (of_decide_eq_true (Bool.and_eq_true_iff.mp h1).1) (Bool.and_eq_true_iff.mp h1).2
theorem in_X1 : ∀ w ∈ u_ws RX1 TX1 7, w ∈ gt := fun w hw => have h : (u_ws RX1 TX1 7).all (fun w => decide (w ∈ lw_tbl) && goodWord w) = true := by decide +kernel
  have h1 := List.all_eq_true.mp h w hw
  gt_of (of_decide_eq_true (Bool.and_eq_true_iff.mp h1).1) (Bool.and_eq_true_iff.mp h1).2
theorem in_X2 : ∀ w ∈ u_ws RX2 TX2 4, w ∈ gt := fun w hw => have h : (u_ws RX2 TX2 4).all (fun w => decide (w ∈ lw_tbl) && goodWord w) = true := by decide +kernel
  have h1 := List.all_eq_true.mp h w hw
  gt_of (of_decide_eq_true (Bool.and_eq_true_iff.mp h1).1) (Bool.and_eq_true_iff.mp h1).2
theorem in_X3 : ∀ w ∈ u_ws RX3 TX3 6, w ∈ gt := fun w hw => have h : (u_ws RX3 TX3 6).all (fun w => decide (w ∈ lw_tbl) && goodWord w) = true := by decide +kernel
  have h1 := List.all_eq_true.mp h w hw
  gt_of (of_decide_eq_true (Bool.and_eq_true_iff.mp h1).1) (Bool.and_eq_true_iff.mp h1).2
theorem in_X4 : ∀ w ∈ u_ws RX4 TX4 4, w ∈ gt := fun w hw => have h : (u_ws RX4 TX4 4).all (fun w => decide (w ∈ lw_tbl) && goodWord w) = true := by decide +kernel
  have h1 := List.all_eq_true.mp h w hw
  gt_of (of_decide_eq_true (Bool.and_eq_true_iff.mp h1).1) (Bool.and_eq_true_iff.mp h1).2
theorem in_X5 : ∀ w ∈ u_ws RX5 TX5 3, w ∈ gt := fun w hw => have h : (u_ws RX5 TX5 3).all (fun w => decide (w ∈ lw_tbl) && goodWord w) = true := by decide +kernel
  have h1 := List.all_eq_true.mp h w hw
  gt_of (of_decide_eq_true (Bool.and_eq_true_iff.mp h1).1) (Bool.and_eq_true_iff.mp h1).2
theorem in_X6 : ∀ w ∈ u_ws RX6 TX6 3, w ∈ gt := fun w hw => have h : (u_ws RX6 TX6 3).all (fun w => decide (w ∈ lw_tbl) && goodWord w) = true := by decide +kernel
  have h1 := List.all_eq_true.mp h w hw
  gt_of (of_decide_eq_true (Bool.and_eq_true_iff.mp h1).1) (Bool.and_eq_true_iff.mp h1).2
theorem in_X7 : ∀ w ∈ u_ws RX7 TX7 8, w ∈ gt := fun w hw => have h : (u_ws RX7 TX7 8).all (fun w => decide (w ∈ lw_tbl) && goodWord w) = true := by decide +kernel
  have h1 := List.all_eq_true.mp h w hw
  gt_of (of_decide_eq_true (Bool.and_eq_true_iff.mp h1).1) (Bool.and_eq_true_iff.mp h1).2
theorem in_X8 : ∀ w ∈ u_ws RX8 TX8 6, w ∈ gt := fun w hw => have h : (u_ws RX8 TX8 6).all (fun w => decide (w ∈ lw_tbl) && goodWord w) = true := by decide +kernel
  have h1 := List.all_eq_true.mp h w hw
  gt_of (of_decide_eq_true (Bool.and_eq_true_iff.mp h1).1) (Bool.and_eq_true_iff.mp h1).2
theorem in_X9 : ∀ w ∈ u_ws RX9 TX9 3, w ∈ gt := fun w hw => have h : (u_ws RX9 TX9 3).all (fun w => decide (w ∈ lw_tbl) && goodWord w) = true := by decide +kernel
  have h1 := List.all_eq_true.mp h w hw
  gt_of (of_decide_eq_true (Bool.and_eq_true_iff.mp h1).1) (Bool.and_eq_true_iff.mp h1).2
theorem in_X10 : ∀ w ∈ u_ws RX10 TX10 2, w ∈ gt := fun w hw => have h : (u_ws RX10 TX10 2).all (fun w => decide (w ∈ lw_tbl) && goodWord w) = true := by decide +kernel
  have h1 := List.all_eq_true.mp h w hw
  gt_of (of_decide_eq_true (Bool.and_eq_true_iff.mp h1).1) (Bool.and_eq_true_iff.mp h1).2
theorem in_X11 : ∀ w ∈ u_ws RX11 TX11 7, w ∈ gt := fun w hw => have h : (u_ws RX11 TX11 7).all (fun w => decide (w ∈ lw_tbl) && goodWord w) = true := by decide +kernel
  have h1 := List.all_eq_true.mp h w hw
  gt_of (of_decide_eq_true (Bool.and_eq_true_iff.mp h1).1) (Bool.and_eq_true_iff.mp h1).2
theorem in_X12 : ∀ w ∈ u_ws RX12 TX12 14, w ∈ gt := fun w hw => have h : (u_ws RX12 TX12 14).all (fun w => decide (w ∈ lw_tbl) && goodWord w) = true := by decide +kernel
  have h1 := List.all_eq_true.mp h w hw
  gt_of (of_decide_eq_true (Bool.and_eq_true_iff.mp h1).1) (Bool.and_eq_true_iff.mp h1).2
theorem Ct_ofF {y : MethodName} {f loc mc ms : Nat} {av : List Value} {post : Option Value → Hp → Prop} (hy : plainFor y = true) (hlen : (lg_sl av).length ≤ nL)
    (body : ∀ (p : Program) (e : Env) (s : State) (m : MethodId) (args : Array Value) (below : List Frame) (meth : Method) (c : Code), Cx p s m args meth c z cc nL y.cls ret y.name → Go p l e { frames := f, cells := mc, slots := ms, locals := loc } s m args below meth c z nL (MQ below (Qx z post) args s mc ms (own z)) mc ms 0 (lv_args 0 av) [] S) : Ct l z y cc nL ret f loc mc ms av S post := by
  refine va_MetF (cc := cc) (maxL := nL) (ret := ret) hy rfl ?_
  intro p e s m args below meth c s₁ B hml hv
  obtain ⟨rfl, hP, hE, hbz⟩ := hv
  have hts := atoms_spec (ws := mws y cc nL ret) B.pre
  have C : Cx p s m av.toArray meth c z cc nL y.cls ret y.name := ⟨B.exec, B.bytes, hml, findClass_of_methodNamed B.named, fun w hw => hts w (List.mem_cons_of_mem _ hw), hE, hbz, B.notSynchronized, B.returns, (name_of_methodNamed B.named B.method).1⟩
  have hl := lv_entry av (n := nL) hlen
  rw [lg_entry_eq]
  exact body p e s m av.toArray below meth c C s.heap [] _ 0 0 hl hP va_S.rf (Nat.le_of_eq (Nat.zero_add _)) (Nat.le_of_eq (Nat.zero_add _))
end HELP
end
section
section SPECIAL
variable {p : Program} {l : Launch} {e : Env} {R : Room} {s : State} {m : MethodId} {args : Array Value} {below : List Frame} {meth : Method} {c : Code} {z : Zt} {cc : ByteArray} {nL : Nat} {ow : String} {ret : Option FieldType} {nm : String} {Q : State → Prop} {bc bs pc : Nat} {lv : List (Nat × Value)} {st : List Value} {S : Hp}
/-! System.arraycopy from place 0 to place 0 -/
def cpA (S : Hp) (a b n : Nat) : Hp := (S.1, S.2.1, fun f' a' i' => if f' = 0 ∧ a' = b ∧ i' < n then S.2.2.1 0 a i' else S.2.2.1 f' a' i', S.2.2.2.1, S.2.2.2.2)
theorem kd_cpA (S : Hp) (a b n q : Nat) : kd (cpA S a b n) q = kd S q := rfl
theorem ln_cpA (S : Hp) (a b n q : Nat) : ln (cpA S a b n) q = ln S q := rfl
theorem sz_cpA (S : Hp) (a b n : Nat) : sz (cpA S a b n) = sz S := rfl
theorem gR_cpA (S : Hp) (a b n f' a' i' : Nat) : gR (cpA S a b n) f' a' i' = gR S f' a' i' := rfl
theorem gI_cpA (S : Hp) (a b n f' a' i' : Nat) : gI (cpA S a b n) f' a' i' = if f' = 0 ∧ a' = b ∧ i' < n then gI S 0 a i' else gI S f' a' i' := rfl
theorem pic_cpA {H H1 : Heap} {a b n : Nat} (h : Pic z S H) (hk : kd S b = 20) (e1 : H1[b]? = some (arrV (zA z 0) (ln S b) (fun j => .int (if j < n then gI S 0 a j else gI S 0 b j)))) (e2 : H1.size = H.size) (e3 : ∀ q, q ≠ b → H1[q]? = H[q]?) : Pic z (cpA S a b n) H1 := by
  refine ⟨e2.trans h.1, fun q hb => ?_⟩
  obtain ⟨g1, g2, g3, g4⟩ := h.2 q hb
  refine ⟨g1, fun cj M hj hM => ?_, fun hj => ?_, fun j hj0 hj => ?_⟩
  · have hba : q ≠ b := fun x => by subst x; have h1 : kd S q = cj + 1 := hj; rw [hk] at h1; have : cj = 19 := by omega
                                    subst this; simp [nFl] at hM
    refine ((g2 cj M hj hM).kept (e3 q hba)).to fun j hj => ?_
    exact Eq.symm (fV_keep (by rw [gI_cpA, if_neg (fun x => by have := x.1; omega)]) (by rfl))
  · by_cases hba : q = b
    · subst hba
      rw [e1]
      congr 2
      funext j
      simp [gI_cpA]
    · rw [e3 q hba, g3 hj]
      simp [gI_cpA, ln_cpA, hba]
  · have hba : q ≠ b := fun x => by subst x; have h1 : kd S q = 20 + j := hj; rw [hk] at h1; omega
    rw [e3 q hba, g4 j hj0 hj]
    rfl
theorem w_cpn : Cond.native arraycopyName ∈ lw_tbl := List.mem_append_right _ (List.mem_of_getElem? (i := 558) (by decide +kernel))
theorem w_cpg : goodWord (Cond.native arraycopyName) = true := by decide +kernel
theorem w_cps : Cond.static arraycopyName ∈ gt := gt_t 557 (by decide +kernel) rfl
theorem w_sys : Cond.initialized "java/lang/System" ∈ gt := gt_t 19 (by decide +kernel) rfl
theorem G_copy (C : Cx p s m args meth c z cc nL ow ret nm) {ix a0 a : Nat} (n : Nat) (w1 : Cond.methodLink ow ix arraycopyName ∈ gt) (hn : n < 2 ^ 31) (hk0 : kd S a0 = 20) (hk1 : kd S a = 20) (hne : a0 ≠ a) (h4 : n ≤ ln S a0) (h5 : n ≤ ln S a) (hf : 1 ≤ R.frames) (hlo : 32 ≤ R.locals) (hd : decode cc pc = .ok (.invokestatic ix, 3)) (k : Go p l e R s m args below meth c z nL Q bc bs (pc + 3) lv [] (cpA S a0 a n)) : Go p l e R s m args below meth c z nL Q bc bs pc lv [.int (Int32.ofNat n), .int 0, .ref a, .int 0, .ref a0] S := fun H locs ls cells slots hl hP hS g1 g2 => by
  have hn0 : ¬ (Int32.ofNat n) < 0 := nI_pos hn
  have hnn : (Int32.ofNat n).toNatClampNeg = n := nI_clamp hn
  have hnt : (Int32.ofNat n).toInt = (n : Int) := nI_toInt hn
  intro T hT X
  have hc0 := pic_arr hP hk0
  have hc1 := pic_arr hP hk1
  have hK := C.2.2.2.2.2.1.1
  obtain ⟨-, k0, hk0', cm0, hkk0⟩ := (hK.2 0 _ rfl).1 (ln S a0) (fun j => .int (gI S 0 a0 j))
  obtain ⟨-, k1, hk1', cm1, hkk1⟩ := (hK.2 0 _ rfl).1 (ln S a) (fun j => .int (gI S 0 a j))
  obtain ⟨vm', X', step⟩ := X.arraycopy C.1 C.2.2.2.1 (C.2.2.2.2.1 _ w1) (C.2.2.2.2.1 _ (gt_of w_cpn w_cpg)) (C.2.2.2.2.1 _ w_cps) (C.2.2.2.2.1 _ w_sys) (src := a0) (dst := a) (cs := arrV (zA z 0) (ln S a0) (fun j => .int (gI S 0 a0 j))) (cd := arrV (zA z 0) (ln S a) (fun j => .int (gI S 0 a j))) (srcPos := 0) (destPos := 0) (n := Int32.ofNat n) (by rw [hT]; exact hc0) (by rw [hT]; exact hc1)
    (fun _ h => by cases h) (fun _ h => by cases h) (fun h => by cases h) (fun h => by cases h) hk0' hk1' hkk0 hkk1 rfl (by decide) (by decide) hn0
    (by rw [hnt, arrV_size]; show ¬ (0 : Int) + _ > _; omega)
    (by rw [hnt, arrV_size]; show ¬ (0 : Int) + _ > _; omega)
    (fun vm₁ _ i hi => by
      rw [hnn] at hi
      have e : (arrV (zA z 0) (ln S a0) (fun j => .int (gI S 0 a0 j))).slots.getD ((0 : Int32).toNatClampNeg + i) .null = .int (gI S 0 a0 i) := by
        rw [show (0 : Int32).toNatClampNeg + i = i from Nat.zero_add i, Array.getD_eq_getD_getElem?, arrV_read _ _ (by omega)]
        rfl
      refine ⟨?_, ?_⟩
      · rw [e]
        rfl
      · rw [e]
        exact trivial)
    (g := F0 m pc ls [.int (Int32.ofNat n), .int 0, .ref a, .int 0, .ref a0]) rfl (by rw [C.2.2.1]; exact hl.1) (rest := []) rfl (by rw [C.2.1]; exact hd) hf (Nat.le_trans (show 2 * 0 + 0 + (nativeFrameWords "java/lang/System" "arraycopy" 5 + 11) ≤ 32 by decide +kernel) hlo)
  have e1 : copied (arrV (zA z 0) (ln S a0) (fun j => .int (gI S 0 a0 j))) (arrV (zA z 0) (ln S a) (fun j => .int (gI S 0 a j))) 0 0 (Int32.ofNat n) = arrV (zA z 0) (ln S a) (fun j => .int (va_cpy (fun j => gI S 0 a0 j) (fun j => gI S 0 a j) (0 : Int32).toNatClampNeg (0 : Int32).toNatClampNeg (Int32.ofNat n).toNatClampNeg j)) := va_copied (fun z => .int z) (zA z 0) (zA z 0) (fun j => gI S 0 a0 j) (fun j => gI S 0 a j) (by rw [hnn]; show 0 + n ≤ _; omega)
  rw [e1] at X' step
  have hlt : a < H.size := (Array.getElem?_eq_some_iff.mp hc1).1
  generalize hcv : arrV (zA z 0) (ln S a) (fun j => .int (va_cpy (fun j => gI S 0 a0 j) (fun j => gI S 0 a j) (0 : Int32).toNatClampNeg (0 : Int32).toNatClampNeg (Int32.ofNat n).toNatClampNeg j)) = cv at X' step
  have hheap : ((T.setVm vm').setCell a cv).heap = H.setIfInBounds a cv := by rw [← hT]; rfl
  have oq : ∀ q : Nat, q ≠ a → (H.setIfInBounds a cv)[q]? = H[q]? := fun q hq => by simp [Array.getElem?_setIfInBounds, Ne.symm hq]
  have ea : (H.setIfInBounds a cv)[a]? = some (arrV (zA z 0) (ln S a) (fun j => .int (if j < n then gI S 0 a0 j else gI S 0 a j))) := by
    rw [← hcv]
    simp only [Array.getElem?_setIfInBounds, hlt, if_true]
    congr 2
    funext j
    rw [hnn]
    show Value.int (va_cpy _ _ 0 0 n j) = _
    simp [va_cpy]
  have hSz : (H.setIfInBounds a cv).size = H.size := by simp
  obtain ⟨t, a1, b1⟩ := k (H.setIfInBounds a cv) _ ls cells slots hl (pic_cpA hP hk1 ea hSz oq) ⟨by rw [hSz]; exact hS.1, fun q r1 r2 => by
      rw [oq q (fun x => r2 (by rw [x]; exact pic_own hP (by rw [hk1]; decide)))]
      exact hS.2.1 q r1 r2, fun q hq => by
      rcases List.mem_append.mp hq with h | h
      · exact hS.2.2 q h
      · obtain ⟨w, -, hw⟩ := List.mem_map.mp h
        rw [← hw]
        exact pic_own hP (by rw [hk1]; decide)⟩ g1 g2 _ hheap X'
  exact ⟨t, step t a1, b1⟩
/-! texts -/
theorem G_gets (C : Cx p s m args meth c z cc nL ow ret nm) {Cn n d : String} {v : Value} {ix : Nat} (hZ : va_Z Cn n d v (own z) s s.heap) (w1 : Cond.fieldLink ow ix Cn n d ∈ gt) (hd : decode cc pc = .ok (.getstatic ix, 3)) (k : Go p l e R s m args below meth c z nL Q bc bs (pc + 3) lv (v :: st) S) : Go p l e R s m args below meth c z nL Q bc bs pc lv st S := fun H locs ls cells slots hl hP hS g1 g2 =>
  va_gets C.1 C.2.1 hZ hS C.2.2.2.1 (C.2.2.2.2.1 _ w1) (fun x h => h) hd (k H locs ls cells slots hl hP hS g1 g2)
theorem G_kget (C : Cx p s m args meth c z cc nL ow ret nm) {n d : String} {v : Value} {ix q : Nat} (hE : va_OF "java/lang/String" n d v q (own z) s s.heap) (w1 : Cond.fieldLink ow ix "java/lang/String" n d ∈ gt) (hd : decode cc pc = .ok (.getfield ix, 3)) (k : Go p l e R s m args below meth c z nL Q bc bs (pc + 3) lv (v :: st) S) : Go p l e R s m args below meth c z nL Q bc bs pc lv (.ref q :: st) S := fun H locs ls cells slots hl hP hS g1 g2 =>
  vk_getf C.1 C.2.1 hE hS C.2.2.2.1 (C.2.2.2.2.1 _ w1) (fun x h => h) hd (k H locs ls cells slots hl hP hS g1 g2)
theorem G_klen (C : Cx p s m args meth c z cc nL ow ret nm) {t N : Nat} {f : Nat → Value} {ty : FieldType} (hT : va_T ty t N f (own z) s s.heap) (hd : decode cc pc = .ok (.arraylength, 1)) (k : Go p l e R s m args below meth c z nL Q bc bs (pc + 1) lv (.int (Int32.ofNat N) :: st) S) : Go p l e R s m args below meth c z nL Q bc bs pc lv (.ref t :: st) S := fun H locs ls cells slots hl hP hS g1 g2 =>
  va_tlen C.1 C.2.1 hT hS rfl hd (k H locs ls cells slots hl hP hS g1 g2)
theorem G_kbald (C : Cx p s m args meth c z cc nL ow ret nm) {t N : Nat} {f : Nat → Value} {i : Int32} (hT : va_T .byte t N f (own z) s s.heap) (hi : vp_in i N) (hd : decode cc pc = .ok (.baload, 1)) (k : Go p l e R s m args below meth c z nL Q bc bs (pc + 1) lv (f i.toNatClampNeg :: st) S) : Go p l e R s m args below meth c z nL Q bc bs pc lv (.int i :: .ref t :: st) S := fun H locs ls cells slots hl hP hS g1 g2 =>
  va_tb C.1 C.2.1 hT hS hi rfl hd (k H locs ls cells slots hl hP hS g1 g2)
theorem G_i2c (C : Cx p s m args meth c z cc nL ow ret nm) {x : Int32} (hd : decode cc pc = .ok (.i2c, 1)) (k : Go p l e R s m args below meth c z nL Q bc bs (pc + 1) lv (.int (x.toUInt32 % 65536).toInt32 :: st) S) : Go p l e R s m args below meth c z nL Q bc bs pc lv (.int x :: st) S := fun H locs ls cells slots hl hP hS g1 g2 =>
  lv_i2c C.1 C.2.1 hd rfl (k H locs ls cells slots hl hP hS g1 g2)
theorem G_tret (C : Cx p s m args meth c z cc nL ow ret nm) {x : Int32} {ty : FieldType} {post : Option Value → Hp → Prop} (hr : ret = some ty) (hn : narrow ty (.int x) = .int x) (hd : decode cc pc = .ok (.ireturn, 1)) (hq : post (some (.int x)) S) : Go p l e R s m args below meth c z nL (MQ below (Qx z post) args s R.cells R.slots (own z)) bc bs pc lv [.int x] S := fun H locs ls cells slots hl hP hS h1 h2 => by
  refine W.widen (k := R.cells) (n := R.slots) (by omega) (by omega) ?_
  exact W.zret C.1 C.2.1 (by rw [C.2.2.2.2.2.2.2.2.1]; exact hr) hn (fun t ht _ => ⟨_, S, rfl, hq, by rw [ht]; exact hP, hS.F ht⟩) hS.2.2 hd C.2.2.2.2.2.2.2.1
theorem G_callVr {y : MethodName} {cd : ByteArray} {n2 : Nat} {rt : Option FieldType} {f loc mc ms a ix np : Nat} {As rest st0 : List Value} {post : Option Value → Hp → Prop} (C : Cx p s m args meth c z cc nL ow ret nm) (hrec : ∀ (H : Heap) (locs : List Loc), va_S (own z) s.heap H locs → ∃ cell : Cell, H[a]? = some cell ∧ cell.vm.isStatics = false ∧ s.vm.findClass y.cls = some cell.cls) (w1 : Cond.methodLink ow ix y ∈ gt) (w2 : Cond.instanceMethod y ∈ gt) (w3 : Cond.selects y.cls y y ∈ gt) (w4 : Cond.initialized y.cls ∈ gt) (w5 : Cond.code y cd n2 rt ∈ gt) (hy : dsc y np) (hm : Ct l z y cd n2 rt f loc mc ms (.ref a :: As) S post) (hnp : As.length = np) (hR : f + 1 ≤ R.frames ∧ 8 + (n2 + 11) + loc ≤ R.locals) (hst : st0 = As.reverse ++ .ref a :: rest) (hW : (rest.map fun v => v.category).sum ≤ 8) (hd : decode cc pc = .ok (.invokevirtual ix, 3))
    (k : ∀ (v : Option Value) (S' : Hp), post v S' → Go p l e R s m args below meth c z nL Q bc bs (pc + 3) lv (v.toList ++ rest) S') : Go p l e R s m args below meth c z nL Q (bc + mc) (bs + ms) pc lv st0 S := by
  refine G_run (av := (Value.ref a :: As).toArray) (fun H locs ls cells slots hl hP hS hf => ?_) k
  refine va_runV (Ts := gt) (C := y.cls) (As := As) ⟨C.1, C.2.1, C.2.2.1, C.2.2.2.1, C.2.2.2.2.1⟩ hm (cwV np C.2.2.2.2.1 (gt_in fun w hw => ?_) rfl rfl rfl ⟨rfl, hy⟩ hR) ⟨pc_blind, hrec H locs hS, pc_at C hP hS (.ref a :: As)⟩ rfl hnp hl.1 hst (lv_room hW) hd hf
  rcases List.mem_append.mp hw with h | h
  · simp only [List.mem_cons, List.not_mem_nil, or_false] at h
    rcases h with rfl | rfl | rfl | rfl
    · exact w1
    · exact w2
    · exact w3
    · exact w4
  · exact (mws_in w5 w h).1
theorem w_sv : Cond.fieldLink RJ0 9 "java/lang/String" "value" "[B" ∈ gt := gt_t 1149 (by decide +kernel) rfl
theorem w_sc : Cond.fieldLink RJ0 15 "java/lang/String" "coder" "B" ∈ gt := gt_t 1150 (by decide +kernel) rfl
theorem w_cst : Cond.fieldLink RJ0 38 "java/lang/String" "COMPACT_STRINGS" "Z" ∈ gt := gt_t 427 (by decide +kernel) rfl
theorem w_sio : Cond.fieldLink RJ0 1053 "jdk/internal/util/Preconditions" "SIOOBE_FORMATTER" "Ljava/util/function/BiFunction;" ∈ gt := gt_t 443 (by decide +kernel) rfl
theorem w_si : Cond.initialized RJ0 ∈ gt := gt_t 15 (by decide +kernel) rfl
theorem c_coder (l : Launch) (z : Zt) (i : Nat) (S : Hp) (hi : i < 4) : Ct l z yJ0_coder_7d493 cJ0_coder_7d493 1 (some .byte) 0 0 0 0 [.ref (zK z i)] S (pI S (fun x => x = 0)) := by
  refine Ct_ofF (by decide +kernel) (Nat.le_of_ble_eq_true rfl) ?_
  intro p e s m args below meth c C
  have C : Cx p s m args meth c z cJ0_coder_7d493 1 RJ0 (some .byte) "coder" := C
  have hs := C.2.2.2.2.2.1.2.2.2.2.2.1.1 i hi
  refine G_sub (lv' := [(0, .ref (zK z i))]) [0] rfl ?_
  refine G_gets (pc := 0) C C.2.2.2.2.2.1.2.2.2.2.2.2.2.2.1 w_cst dJ0_coder_7d493_0 ?_
  refine G_if_eq (pc := 3) C 13 dJ0_coder_7d493_3 (by decide) (fun hc => absurd hc (by decide)) (fun _ => ?_)
  refine G_aload_n (pc := 6) C 0 dJ0_coder_7d493_6 rfl rfl ?_
  refine G_kget (pc := 7) C hs.2.1 w_sc dJ0_coder_7d493_7 ?_
  refine G_goto (pc := 10) C 14 dJ0_coder_7d493_10 (by decide) ?_
  exact G_tret (pc := 14) C rfl rfl dJ0_coder_7d493_14 ⟨rfl, _, rfl, rfl⟩
theorem c_isLatin1 (l : Launch) (z : Zt) (i : Nat) (S : Hp) (hi : i < 4) : Ct l z yJ0_isLatin1_aae02 cJ0_isLatin1_aae02 1 (some .boolean) 0 0 0 0 [.ref (zK z i)] S (pI S (fun x => x = 1)) := by
  refine Ct_ofF (by decide +kernel) (Nat.le_of_ble_eq_true rfl) ?_
  intro p e s m args below meth c C
  have C : Cx p s m args meth c z cJ0_isLatin1_aae02 1 RJ0 (some .boolean) "isLatin1" := C
  have hs := C.2.2.2.2.2.1.2.2.2.2.2.1.1 i hi
  refine G_sub (lv' := [(0, .ref (zK z i))]) [0] rfl ?_
  refine G_gets (pc := 0) C C.2.2.2.2.2.1.2.2.2.2.2.2.2.2.1 w_cst dJ0_isLatin1_aae02_0 ?_
  refine G_if_eq (pc := 3) C 17 dJ0_isLatin1_aae02_3 (by decide) (fun hc => absurd hc (by decide)) (fun _ => ?_)
  refine G_aload_n (pc := 6) C 0 dJ0_isLatin1_aae02_6 rfl rfl ?_
  refine G_kget (pc := 7) C hs.2.1 w_sc dJ0_isLatin1_aae02_7 ?_
  refine G_if_ne (pc := 10) C 17 dJ0_isLatin1_aae02_10 (by decide) (fun hc => absurd rfl hc) (fun _ => ?_)
  refine G_iconst (pc := 13) C (v := 1) dJ0_isLatin1_aae02_13 (by decide) ?_
  refine G_goto (pc := 14) C 18 dJ0_isLatin1_aae02_14 (by decide) ?_
  exact G_zret (pc := 18) C rfl (by decide) dJ0_isLatin1_aae02_18 ⟨rfl, _, rfl, rfl⟩
theorem dsc_coder : dsc yJ0_coder_7d493 0 := ⟨by decide, by decide, by decide +kernel⟩
theorem dsc_isLatin1 : dsc yJ0_isLatin1_aae02 0 := ⟨by decide, by decide, by decide +kernel⟩
theorem dsc_slen : dsc yJ0_length_8abf5 0 := ⟨by decide, by decide, by decide +kernel⟩
theorem dsc_sch : dsc yJ0_charAt_5068e 1 := ⟨by decide, by decide, by decide +kernel⟩
theorem dsc_lch : dsc yJ1_charAt_3b067 2 := ⟨by decide, by decide, by decide +kernel⟩
theorem dsc_sck : dsc yJ0_checkIndex_df160 2 := ⟨by decide, by decide, by decide +kernel⟩
theorem dsc_pck : dsc yJ3_checkIndex_8e157 3 := ⟨by decide, by decide, by decide +kernel⟩
theorem tx_lt {i : Nat} (hi : i < 4) : txN.getD i 0 < 2 ^ 31 := by
  have : ∀ i, i < 4 → txN.getD i 0 < 2 ^ 31 := by decide
  exact this i hi
theorem c_String_length (l : Launch) (z : Zt) (i : Nat) (S : Hp) (hi : i < 4) : Ct l z yJ0_length_8abf5 cJ0_length_8abf5 1 (some .int) 1 20 0 0 [.ref (zK z i)] S (pI S (fun x => x = Int32.ofNat (txN.getD i 0))) := by
  refine Ct_ofF (by decide +kernel) (Nat.le_of_ble_eq_true rfl) ?_
  intro p e s m args below meth c C
  have C : Cx p s m args meth c z cJ0_length_8abf5 1 RJ0 (some .int) "length" := C
  have hE := C.2.2.2.2.2.1.2.2.2.2.2.1
  have hs := hE.1 i hi
  refine G_sub (lv' := [(0, .ref (zK z i))]) [0] rfl ?_
  refine G_aload_n (pc := 0) C 0 dJ0_length_8abf5_0 rfl rfl ?_
  refine G_kget (pc := 1) C hs.2.2.1 w_sv dJ0_length_8abf5_1 ?_
  refine G_klen (pc := 4) C hs.2.2.2 dJ0_length_8abf5_4 ?_
  refine G_aload_n (pc := 5) C 0 dJ0_length_8abf5_5 rfl rfl ?_
  refine G_callVr (pc := 6) (As := []) (rest := [.int (Int32.ofNat (txN.getD i 0))]) C (fun H locs hS => vk_recv hE hi hS) (gt_t 423 (by decide +kernel) rfl) (gt_t 424 (by decide +kernel) rfl) (gt_t 425 (by decide +kernel) rfl) w_si (gt_t 426 (by decide +kernel) rfl) dsc_coder (c_coder l z i S hi) rfl ⟨Nat.le_of_ble_eq_true rfl, Nat.le_of_ble_eq_true rfl⟩ rfl (Nat.le_of_ble_eq_true rfl) dJ0_length_8abf5_6 (fun v S' hp => ?_)
  obtain ⟨hS, x, rfl, rfl⟩ := hp
  subst S'
  refine G_ishr (pc := 9) C dJ0_length_8abf5_9 ?_
  exact G_iret (pc := 10) C rfl dJ0_length_8abf5_10 ⟨rfl, _, rfl, sc_shr0 (tx_lt hi)⟩
theorem c_pck (l : Launch) (z : Zt) (x n : Int32) (r : Option Nat) (S : Hp) (h0 : ¬ x < 0) (h1 : x < n) : Ct l z yJ3_checkIndex_8e157 cJ3_checkIndex_8e157 3 (some .int) 0 0 0 0 [.int x, .int n, va_rf r] S (pI S (fun y => y = x)) := by
  refine Ct_ofF (by decide +kernel) (by cases r <;> exact Nat.le_of_ble_eq_true rfl) ?_
  intro p e s m args below meth c C
  have C : Cx p s m args meth c z cJ3_checkIndex_8e157 3 RJ3 (some .int) "checkIndex" := C
  refine G_sub (lv' := [(0, .int x), (1, .int n)]) [0, 1] rfl ?_
  refine G_iload_n (pc := 0) C 0 dJ3_checkIndex_8e157_0 rfl rfl ?_
  refine G_if_lt (pc := 1) C 9 dJ3_checkIndex_8e157_1 (by decide) (fun hc => absurd hc h0) (fun _ => ?_)
  refine G_iload_n (pc := 4) C 0 dJ3_checkIndex_8e157_4 rfl rfl ?_
  refine G_iload_n (pc := 5) C 1 dJ3_checkIndex_8e157_5 rfl rfl ?_
  refine G_icmp_lt (pc := 6) C 16 dJ3_checkIndex_8e157_6 (by decide) (fun _ => ?_) (fun hc => absurd h1 hc)
  refine G_iload_n (pc := 16) C 0 dJ3_checkIndex_8e157_16 rfl rfl ?_
  exact G_iret (pc := 17) C rfl dJ3_checkIndex_8e157_17 ⟨rfl, _, rfl, rfl⟩
theorem c_sck (l : Launch) (z : Zt) (x n : Int32) (S : Hp) (h0 : ¬ x < 0) (h1 : x < n) : Ct l z yJ0_checkIndex_df160 cJ0_checkIndex_df160 2 none 1 22 0 0 [.int x, .int n] S (wV (fun S' => S' = S)) := by
  refine Ct_ofF (by decide +kernel) (Nat.le_of_ble_eq_true rfl) ?_
  intro p e s m args below meth c C
  have C : Cx p s m args meth c z cJ0_checkIndex_df160 2 RJ0 none "checkIndex" := C
  refine G_sub (lv' := [(0, .int x), (1, .int n)]) [0, 1] rfl ?_
  refine G_iload_n (pc := 0) C 0 dJ0_checkIndex_df160_0 rfl rfl ?_
  refine G_iload_n (pc := 1) C 1 dJ0_checkIndex_df160_1 rfl rfl ?_
  obtain ⟨r, hZ⟩ : ∃ r : Option Nat, va_Z "jdk/internal/util/Preconditions" "SIOOBE_FORMATTER" "Ljava/util/function/BiFunction;" (va_rf r) (own z) s s.heap := by
    rcases C.2.2.2.2.2.1.2.2.2.2.2.2.2.2.2 with h | ⟨t, h⟩
    · exact ⟨none, h⟩
    · exact ⟨some t, h⟩
  refine G_gets (pc := 2) C hZ w_sio dJ0_checkIndex_df160_2 ?_
  refine G_callS (pc := 5) (As := [.int x, .int n, va_rf r]) (rest := []) C (gt_t 445 (by decide +kernel) rfl) (gt_t 446 (by decide +kernel) rfl) (gt_t 17 (by decide +kernel) rfl) (gt_t 447 (by decide +kernel) rfl) dsc_pck (c_pck l z x n r S h0 h1) rfl ⟨Nat.le_of_ble_eq_true rfl, Nat.le_of_ble_eq_true rfl⟩ rfl (Nat.le_of_ble_eq_true rfl) dJ0_checkIndex_df160_5 (fun v S' hp => ?_)
  obtain ⟨hS, w, rfl, rfl⟩ := hp
  subst S'
  refine G_pop (pc := 8) C dJ0_checkIndex_df160_8 rfl ?_
  exact G_vret (pc := 9) C rfl dJ0_checkIndex_df160_9 ⟨rfl, rfl⟩
theorem tx_ch {i k : Nat} (hi : i < 4) (hk : k < txN.getD i 0) : ((((txB.getD i []).getD k 0) &&& 255).toUInt32 % 65536).toInt32 = (txB.getD i []).getD k 0 ∧ narrow .char (.int ((txB.getD i []).getD k 0)) = .int ((txB.getD i []).getD k 0) := by
  have h : ∀ i, i < 4 → ∀ k, k < txN.getD i 0 → ((((txB.getD i []).getD k 0) &&& 255).toUInt32 % 65536).toInt32 = (txB.getD i []).getD k 0 ∧ ((txB.getD i []).getD k 0) &&& 255 = (txB.getD i []).getD k 0 := by decide +kernel
  refine ⟨(h i hi k hk).1, ?_⟩
  have h2 := sc_nar ((txB.getD i []).getD k 0)
  rw [(h i hi k hk).2] at h2
  exact h2
theorem c_lch (l : Launch) (z : Zt) (i : Nat) (x : Int32) (S : Hp) (hi : i < 4) (hx : vp_in x (txN.getD i 0)) : Ct l z yJ1_charAt_3b067 cJ1_charAt_3b067 2 (some .char) 2 43 0 0 [.ref (zV z i), .int x] S (pI S (fun y => y = (txB.getD i []).getD x.toNatClampNeg 0)) := by
  refine Ct_ofF (by decide +kernel) (Nat.le_of_ble_eq_true rfl) ?_
  intro p e s m args below meth c C
  have C : Cx p s m args meth c z cJ1_charAt_3b067 2 RJ1 (some .char) "charAt" := C
  have hs := C.2.2.2.2.2.1.2.2.2.2.2.1.1 i hi
  have h0 : ¬ x < 0 := fun q => hx (Or.inl q)
  have hlt : x.toNatClampNeg < txN.getD i 0 := Nat.not_le.mp fun q => hx (Or.inr q)
  have h1 : x < Int32.ofNat (txN.getD i 0) := by
    obtain ⟨j, hj, rfl⟩ := nI_of h0
    rw [nI_clamp hj] at hlt
    exact nI_lt hlt (tx_lt hi)
  refine G_sub (lv' := [(0, .ref (zV z i)), (1, .int x)]) [0, 1] rfl ?_
  refine G_iload_n (pc := 0) C 1 dJ1_charAt_3b067_0 rfl rfl ?_
  refine G_aload_n (pc := 1) C 0 dJ1_charAt_3b067_1 rfl rfl ?_
  refine G_klen (pc := 2) C hs.2.2.2 dJ1_charAt_3b067_2 ?_
  refine G_callS (pc := 3) (As := [.int x, .int (Int32.ofNat (txN.getD i 0))]) (rest := []) C (gt_t 440 (by decide +kernel) rfl) (gt_t 441 (by decide +kernel) rfl) w_si (gt_t 442 (by decide +kernel) rfl) dsc_sck (c_sck l z x _ S h0 h1) rfl ⟨Nat.le_of_ble_eq_true rfl, Nat.le_of_ble_eq_true rfl⟩ rfl (Nat.le_of_ble_eq_true rfl) dJ1_charAt_3b067_3 (fun v S' hp => ?_)
  obtain ⟨rfl, hS⟩ := hp
  subst S'
  refine G_aload_n (pc := 6) C 0 dJ1_charAt_3b067_6 rfl rfl ?_
  refine G_iload_n (pc := 7) C 1 dJ1_charAt_3b067_7 rfl rfl ?_
  refine G_kbald (pc := 8) C hs.2.2.2 hx dJ1_charAt_3b067_8 ?_
  refine G_sipush (pc := 9) C (v := 255) dJ1_charAt_3b067_9 (by decide) ?_
  refine G_iand (pc := 12) C dJ1_charAt_3b067_12 ?_
  refine G_i2c (pc := 13) C dJ1_charAt_3b067_13 ?_
  rw [(tx_ch hi hlt).1]
  exact G_tret (pc := 14) C rfl (tx_ch hi hlt).2 dJ1_charAt_3b067_14 ⟨rfl, _, rfl, rfl⟩
theorem c_String_charAt (l : Launch) (z : Zt) (i : Nat) (x : Int32) (S : Hp) (hi : i < 4) (hx : vp_in x (txN.getD i 0)) : Ct l z yJ0_charAt_5068e cJ0_charAt_5068e 2 (some .char) 3 64 0 0 [.ref (zK z i), .int x] S (pI S (fun y => y = (txB.getD i []).getD x.toNatClampNeg 0)) := by
  refine Ct_ofF (by decide +kernel) (Nat.le_of_ble_eq_true rfl) ?_
  intro p e s m args below meth c C
  have C : Cx p s m args meth c z cJ0_charAt_5068e 2 RJ0 (some .char) "charAt" := C
  have hE := C.2.2.2.2.2.1.2.2.2.2.2.1
  have hs := hE.1 i hi
  have hlt : x.toNatClampNeg < txN.getD i 0 := Nat.not_le.mp fun q => hx (Or.inr q)
  refine G_sub (lv' := [(0, .ref (zK z i)), (1, .int x)]) [0, 1] rfl ?_
  refine G_aload_n (pc := 0) C 0 dJ0_charAt_5068e_0 rfl rfl ?_
  refine G_callVr (pc := 1) (As := []) (rest := []) C (fun H locs hS => vk_recv hE hi hS) (gt_t 433 (by decide +kernel) rfl) (gt_t 434 (by decide +kernel) rfl) (gt_t 435 (by decide +kernel) rfl) w_si (gt_t 436 (by decide +kernel) rfl) dsc_isLatin1 (c_isLatin1 l z i S hi) rfl ⟨Nat.le_of_ble_eq_true rfl, Nat.le_of_ble_eq_true rfl⟩ rfl (Nat.le_of_ble_eq_true rfl) dJ0_charAt_5068e_1 (fun v S' hp => ?_)
  obtain ⟨hS, w, rfl, rfl⟩ := hp
  subst S'
  refine G_if_eq (pc := 4) C 16 dJ0_charAt_5068e_4 (by decide) (fun hc => absurd hc (by decide)) (fun _ => ?_)
  refine G_aload_n (pc := 7) C 0 dJ0_charAt_5068e_7 rfl rfl ?_
  refine G_kget (pc := 8) C hs.2.2.1 w_sv dJ0_charAt_5068e_8 ?_
  refine G_iload_n (pc := 11) C 1 dJ0_charAt_5068e_11 rfl rfl ?_
  refine G_callS (pc := 12) (As := [.ref (zV z i), .int x]) (rest := []) C (gt_t 437 (by decide +kernel) rfl) (gt_t 438 (by decide +kernel) rfl) (gt_t 16 (by decide +kernel) rfl) (gt_t 439 (by decide +kernel) rfl) dsc_lch (c_lch l z i x S hi hx) rfl ⟨Nat.le_of_ble_eq_true rfl, Nat.le_of_ble_eq_true rfl⟩ rfl (Nat.le_of_ble_eq_true rfl) dJ0_charAt_5068e_12 (fun v S' hp => ?_)
  obtain ⟨hS, w, rfl, rfl⟩ := hp
  subst S'
  exact G_tret (pc := 15) C rfl (tx_ch hi hlt).2 dJ0_charAt_5068e_15 ⟨rfl, _, rfl, rfl⟩
theorem cl_RX10_19 (C : Cx p s m args meth c z cc nL RX10 ret nm) {i : Nat} {rest : List Value} (hm : Ct l z yJ0_length_8abf5 cJ0_length_8abf5 1 (some .int) 1 20 0 0 [.ref (zK z i)] S (pI S (fun x => x = Int32.ofNat (txN.getD i 0)))) (hR : 1 + 1 ≤ R.frames ∧ 8 + (1 + 11) + 20 ≤ R.locals) (hi : i < 4) (hd : decode cc pc = .ok (.invokevirtual 19, 3)) (hW : (rest.map fun v => v.category).sum ≤ 8) (k : Go p l e R s m args below meth c z nL Q bc bs (pc + 3) lv (.int (Int32.ofNat (txN.getD i 0)) :: rest) S) : Go p l e R s m args below meth c z nL Q bc bs pc lv (.ref (zK z i) :: rest) S := by
  refine G_callVr (As := []) (rest := rest) C (fun H locs hS => vk_recv C.2.2.2.2.2.1.2.2.2.2.2.1 hi hS) (gt_t 419 (by decide +kernel) rfl) (gt_t 420 (by decide +kernel) rfl) (gt_t 421 (by decide +kernel) rfl) w_si (gt_t 422 (by decide +kernel) rfl) dsc_slen hm rfl hR rfl hW hd (fun v S' hp => ?_)
  obtain ⟨hS, w, rfl, rfl⟩ := hp
  subst S'
  exact k
theorem cl_RX10_24 (C : Cx p s m args meth c z cc nL RX10 ret nm) {i : Nat} {x : Int32} {rest : List Value} (hm : Ct l z yJ0_charAt_5068e cJ0_charAt_5068e 2 (some .char) 3 64 0 0 [.ref (zK z i), .int x] S (pI S (fun y => y = (txB.getD i []).getD x.toNatClampNeg 0))) (hR : 3 + 1 ≤ R.frames ∧ 8 + (2 + 11) + 64 ≤ R.locals) (hi : i < 4) (hd : decode cc pc = .ok (.invokevirtual 24, 3)) (hW : (rest.map fun v => v.category).sum ≤ 8) (k : Go p l e R s m args below meth c z nL Q bc bs (pc + 3) lv (.int ((txB.getD i []).getD x.toNatClampNeg 0) :: rest) S) : Go p l e R s m args below meth c z nL Q bc bs pc lv (.int x :: .ref (zK z i) :: rest) S := by
  refine G_callVr (As := [.int x]) (rest := rest) C (fun H locs hS => vk_recv C.2.2.2.2.2.1.2.2.2.2.2.1 hi hS) (gt_t 429 (by decide +kernel) rfl) (gt_t 430 (by decide +kernel) rfl) (gt_t 431 (by decide +kernel) rfl) w_si (gt_t 432 (by decide +kernel) rfl) dsc_sch hm rfl hR rfl hW hd (fun v S' hp => ?_)
  obtain ⟨hS, w, rfl, rfl⟩ := hp
  subst S'
  exact k
end SPECIAL
end
