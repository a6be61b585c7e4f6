section
-- ===== PART A: goes FIRST, ahead of the names: the tables' words, and 'selects' of the private methods out of them =====
/-- a private method of a class that the tables say can be made, by its rows of tables_1 -/
def lw_okq (q : MethodName × Nat) : Prop := (q.1.cls ≠ "java/lang/invoke/MethodHandle" ∧ q.1.cls ≠ "java/lang/invoke/VarHandle") ∧ Cond.instantiable q.1.cls q.2 ∈ tables_1 ∧ Cond.privateMethod q.1 ∈ tables_1 ∧ Cond.instanceMethod q.1 ∈ tables_1
theorem lw_p0 : lw_okq (⟨"ClockWires", "refresh", "()V"⟩, 9) := ⟨⟨by decide +kernel, by decide +kernel⟩, List.mem_of_getElem? (i := 14) (by decide +kernel), List.mem_of_getElem? (i := 344) (by decide +kernel), List.mem_of_getElem? (i := 345) (by decide +kernel)⟩
theorem lw_p1 : lw_okq (⟨"ClockWires$Wires", "listDownward", "(LClockWires$Tree;)V"⟩, 7) := ⟨⟨by decide +kernel, by decide +kernel⟩, List.mem_of_getElem? (i := 88) (by decide +kernel), List.mem_of_getElem? (i := 352) (by decide +kernel), List.mem_of_getElem? (i := 353) (by decide +kernel)⟩
theorem lw_p2 : lw_okq (⟨"ClockWires$Wires", "list", "(I)V"⟩, 7) := ⟨⟨by decide +kernel, by decide +kernel⟩, List.mem_of_getElem? (i := 88) (by decide +kernel), List.mem_of_getElem? (i := 364) (by decide +kernel), List.mem_of_getElem? (i := 365) (by decide +kernel)⟩
theorem lw_p3 : lw_okq (⟨"ClockWires$Merge", "gapBetween", "(LClockWires$Part;LClockWires$Part;)I"⟩, 4) := ⟨⟨by decide +kernel, by decide +kernel⟩, List.mem_of_getElem? (i := 157) (by decide +kernel), List.mem_of_getElem? (i := 392) (by decide +kernel), List.mem_of_getElem? (i := 393) (by decide +kernel)⟩
theorem lw_p4 : lw_okq (⟨"ClockWires$Merge", "leadOf", "(LClockWires$Part;LClockWires$Part;I)I"⟩, 4) := ⟨⟨by decide +kernel, by decide +kernel⟩, List.mem_of_getElem? (i := 157) (by decide +kernel), List.mem_of_getElem? (i := 399) (by decide +kernel), List.mem_of_getElem? (i := 400) (by decide +kernel)⟩
theorem lw_p5 : lw_okq (⟨"ClockWires$Places", "setTop", "(LClockWires$Tree;LClockWires$Wires;I)V"⟩, 10) := ⟨⟨by decide +kernel, by decide +kernel⟩, List.mem_of_getElem? (i := 210) (by decide +kernel), List.mem_of_getElem? (i := 424) (by decide +kernel), List.mem_of_getElem? (i := 425) (by decide +kernel)⟩
theorem lw_p6 : lw_okq (⟨"ClockWires$Places", "setChild", "(LClockWires$Part;II)V"⟩, 10) := ⟨⟨by decide +kernel, by decide +kernel⟩, List.mem_of_getElem? (i := 210) (by decide +kernel), List.mem_of_getElem? (i := 454) (by decide +kernel), List.mem_of_getElem? (i := 455) (by decide +kernel)⟩
theorem lw_p7 : lw_okq (⟨"ClockWires$Places", "setSpread", "(LClockWires$Tree;)V"⟩, 10) := ⟨⟨by decide +kernel, by decide +kernel⟩, List.mem_of_getElem? (i := 210) (by decide +kernel), List.mem_of_getElem? (i := 458) (by decide +kernel), List.mem_of_getElem? (i := 459) (by decide +kernel)⟩
theorem lw_p8 : lw_okq (⟨"ClockWires", "refuse", "(I)I"⟩, 9) := ⟨⟨by decide +kernel, by decide +kernel⟩, List.mem_of_getElem? (i := 14) (by decide +kernel), List.mem_of_getElem? (i := 502) (by decide +kernel), List.mem_of_getElem? (i := 503) (by decide +kernel)⟩
theorem lw_p9 : lw_okq (⟨"ClockWires", "exchangeAndCompare", "(II)I"⟩, 9) := ⟨⟨by decide +kernel, by decide +kernel⟩, List.mem_of_getElem? (i := 14) (by decide +kernel), List.mem_of_getElem? (i := 661) (by decide +kernel), List.mem_of_getElem? (i := 662) (by decide +kernel)⟩
theorem lw_p10 : lw_okq (⟨"ClockWires", "nodeValue", "(II)I"⟩, 9) := ⟨⟨by decide +kernel, by decide +kernel⟩, List.mem_of_getElem? (i := 14) (by decide +kernel), List.mem_of_getElem? (i := 683) (by decide +kernel), List.mem_of_getElem? (i := 684) (by decide +kernel)⟩
theorem lw_p11 : lw_okq (⟨"ClockWires$Search", "growTrees", "(I)V"⟩, 5) := ⟨⟨by decide +kernel, by decide +kernel⟩, List.mem_of_getElem? (i := 257) (by decide +kernel), List.mem_of_getElem? (i := 713) (by decide +kernel), List.mem_of_getElem? (i := 714) (by decide +kernel)⟩
theorem lw_p12 : lw_okq (⟨"ClockWires$Search", "countTree", "(I)V"⟩, 5) := ⟨⟨by decide +kernel, by decide +kernel⟩, List.mem_of_getElem? (i := 257) (by decide +kernel), List.mem_of_getElem? (i := 717) (by decide +kernel), List.mem_of_getElem? (i := 718) (by decide +kernel)⟩
theorem lw_p13 : lw_okq (⟨"ClockWires", "totalValue", "(I)I"⟩, 9) := ⟨⟨by decide +kernel, by decide +kernel⟩, List.mem_of_getElem? (i := 14) (by decide +kernel), List.mem_of_getElem? (i := 739) (by decide +kernel), List.mem_of_getElem? (i := 740) (by decide +kernel)⟩
theorem lw_p14 : lw_okq (⟨"ClockWires$Text", "accepts", "(II)Z"⟩, 9) := ⟨⟨by decide +kernel, by decide +kernel⟩, List.mem_of_getElem? (i := 306) (by decide +kernel), List.mem_of_getElem? (i := 763) (by decide +kernel), List.mem_of_getElem? (i := 764) (by decide +kernel)⟩
theorem lw_p15 : lw_okq (⟨"ClockWires$Text", "opens", "()Z"⟩, 9) := ⟨⟨by decide +kernel, by decide +kernel⟩, List.mem_of_getElem? (i := 306) (by decide +kernel), List.mem_of_getElem? (i := 767) (by decide +kernel), List.mem_of_getElem? (i := 768) (by decide +kernel)⟩
def lw_privs_1 : List (MethodName × Nat) := [(⟨"ClockWires", "refresh", "()V"⟩, 9), (⟨"ClockWires$Wires", "listDownward", "(LClockWires$Tree;)V"⟩, 7), (⟨"ClockWires$Wires", "list", "(I)V"⟩, 7), (⟨"ClockWires$Merge", "gapBetween", "(LClockWires$Part;LClockWires$Part;)I"⟩, 4), (⟨"ClockWires$Merge", "leadOf", "(LClockWires$Part;LClockWires$Part;I)I"⟩, 4), (⟨"ClockWires$Places", "setTop", "(LClockWires$Tree;LClockWires$Wires;I)V"⟩, 10), (⟨"ClockWires$Places", "setChild", "(LClockWires$Part;II)V"⟩, 10), (⟨"ClockWires$Places", "setSpread", "(LClockWires$Tree;)V"⟩, 10), (⟨"ClockWires", "refuse", "(I)I"⟩, 9), (⟨"ClockWires", "exchangeAndCompare", "(II)I"⟩, 9), (⟨"ClockWires", "nodeValue", "(II)I"⟩, 9), (⟨"ClockWires$Search", "growTrees", "(I)V"⟩, 5), (⟨"ClockWires$Search", "countTree", "(I)V"⟩, 5), (⟨"ClockWires", "totalValue", "(I)I"⟩, 9), (⟨"ClockWires$Text", "accepts", "(II)Z"⟩, 9), (⟨"ClockWires$Text", "opens", "()Z"⟩, 9)]
theorem lw_r1 : ∀ q ∈ lw_privs_1, lw_okq q := List.forall_mem_cons.mpr ⟨lw_p0, List.forall_mem_cons.mpr ⟨lw_p1, List.forall_mem_cons.mpr ⟨lw_p2, List.forall_mem_cons.mpr ⟨lw_p3, List.forall_mem_cons.mpr ⟨lw_p4, List.forall_mem_cons.mpr ⟨lw_p5, List.forall_mem_cons.mpr ⟨lw_p6, List.forall_mem_cons.mpr ⟨lw_p7, List.forall_mem_cons.mpr ⟨lw_p8, List.forall_mem_cons.mpr ⟨lw_p9, List.forall_mem_cons.mpr ⟨lw_p10, List.forall_mem_cons.mpr ⟨lw_p11, List.forall_mem_cons.mpr ⟨lw_p12, List.forall_mem_cons.mpr ⟨lw_p13, List.forall_mem_cons.mpr ⟨lw_p14, List.forall_mem_cons.mpr ⟨lw_p15, fun _ h => absurd h List.not_mem_nil⟩⟩⟩⟩⟩⟩⟩⟩⟩⟩⟩⟩⟩⟩⟩⟩
theorem lw_p16 : lw_okq (⟨"ClockWires$Text", "wantsPart", "()Z"⟩, 9) := ⟨⟨by decide +kernel, by decide +kernel⟩, List.mem_of_getElem? (i := 306) (by decide +kernel), List.mem_of_getElem? (i := 771) (by decide +kernel), List.mem_of_getElem? (i := 772) (by decide +kernel)⟩
theorem lw_p17 : lw_okq (⟨"ClockWires$Text", "closes", "()Z"⟩, 9) := ⟨⟨by decide +kernel, by decide +kernel⟩, List.mem_of_getElem? (i := 306) (by decide +kernel), List.mem_of_getElem? (i := 775) (by decide +kernel), List.mem_of_getElem? (i := 776) (by decide +kernel)⟩
theorem lw_p18 : lw_okq (⟨"ClockWires$Text", "addPart", "(I)V"⟩, 9) := ⟨⟨by decide +kernel, by decide +kernel⟩, List.mem_of_getElem? (i := 306) (by decide +kernel), List.mem_of_getElem? (i := 779) (by decide +kernel), List.mem_of_getElem? (i := 780) (by decide +kernel)⟩
theorem lw_p19 : lw_okq (⟨"ClockWires$Text", "takesSink", "(II)Z"⟩, 9) := ⟨⟨by decide +kernel, by decide +kernel⟩, List.mem_of_getElem? (i := 306) (by decide +kernel), List.mem_of_getElem? (i := 783) (by decide +kernel), List.mem_of_getElem? (i := 784) (by decide +kernel)⟩
theorem lw_p20 : lw_okq (⟨"ClockWires", "shownByte", "(II)I"⟩, 9) := ⟨⟨by decide +kernel, by decide +kernel⟩, List.mem_of_getElem? (i := 14) (by decide +kernel), List.mem_of_getElem? (i := 791) (by decide +kernel), List.mem_of_getElem? (i := 792) (by decide +kernel)⟩
theorem lw_p21 : lw_okq (⟨"ClockWires", "shownLength", "(I)I"⟩, 9) := ⟨⟨by decide +kernel, by decide +kernel⟩, List.mem_of_getElem? (i := 14) (by decide +kernel), List.mem_of_getElem? (i := 795) (by decide +kernel), List.mem_of_getElem? (i := 796) (by decide +kernel)⟩
theorem lw_p22 : lw_okq (⟨"ClockWires", "toldValue", "(I)I"⟩, 9) := ⟨⟨by decide +kernel, by decide +kernel⟩, List.mem_of_getElem? (i := 14) (by decide +kernel), List.mem_of_getElem? (i := 811) (by decide +kernel), List.mem_of_getElem? (i := 812) (by decide +kernel)⟩
theorem lw_p23 : lw_okq (⟨"ClockWiresModel", "no", "()I"⟩, 45) := ⟨⟨by decide +kernel, by decide +kernel⟩, List.mem_of_getElem? (i := 821) (by decide +kernel), List.mem_of_getElem? (i := 967) (by decide +kernel), List.mem_of_getElem? (i := 968) (by decide +kernel)⟩
theorem lw_p24 : lw_okq (⟨"ClockWiresModel", "bad", "()I"⟩, 45) := ⟨⟨by decide +kernel, by decide +kernel⟩, List.mem_of_getElem? (i := 821) (by decide +kernel), List.mem_of_getElem? (i := 981) (by decide +kernel), List.mem_of_getElem? (i := 982) (by decide +kernel)⟩
theorem lw_p25 : lw_okq (⟨"ClockWiresModel", "isAt", "(II)I"⟩, 45) := ⟨⟨by decide +kernel, by decide +kernel⟩, List.mem_of_getElem? (i := 821) (by decide +kernel), List.mem_of_getElem? (i := 985) (by decide +kernel), List.mem_of_getElem? (i := 986) (by decide +kernel)⟩
theorem lw_p26 : lw_okq (⟨"ClockWiresModel", "full", "()I"⟩, 45) := ⟨⟨by decide +kernel, by decide +kernel⟩, List.mem_of_getElem? (i := 821) (by decide +kernel), List.mem_of_getElem? (i := 989) (by decide +kernel), List.mem_of_getElem? (i := 990) (by decide +kernel)⟩
theorem lw_p27 : lw_okq (⟨"ClockWiresModel", "leavesState", "()V"⟩, 45) := ⟨⟨by decide +kernel, by decide +kernel⟩, List.mem_of_getElem? (i := 821) (by decide +kernel), List.mem_of_getElem? (i := 993) (by decide +kernel), List.mem_of_getElem? (i := 994) (by decide +kernel)⟩
theorem lw_p28 : lw_okq (⟨"ClockWiresModel", "touches", "(I)V"⟩, 45) := ⟨⟨by decide +kernel, by decide +kernel⟩, List.mem_of_getElem? (i := 821) (by decide +kernel), List.mem_of_getElem? (i := 997) (by decide +kernel), List.mem_of_getElem? (i := 998) (by decide +kernel)⟩
theorem lw_p29 : lw_okq (⟨"ClockWiresModel", "isSink", "(I)Z"⟩, 45) := ⟨⟨by decide +kernel, by decide +kernel⟩, List.mem_of_getElem? (i := 821) (by decide +kernel), List.mem_of_getElem? (i := 1005) (by decide +kernel), List.mem_of_getElem? (i := 1006) (by decide +kernel)⟩
theorem lw_p30 : lw_okq (⟨"ClockWiresModel", "isNode", "(I)Z"⟩, 45) := ⟨⟨by decide +kernel, by decide +kernel⟩, List.mem_of_getElem? (i := 821) (by decide +kernel), List.mem_of_getElem? (i := 1047) (by decide +kernel), List.mem_of_getElem? (i := 1048) (by decide +kernel)⟩
theorem lw_p31 : lw_okq (⟨"ClockWiresModel", "isTop", "(I)Z"⟩, 45) := ⟨⟨by decide +kernel, by decide +kernel⟩, List.mem_of_getElem? (i := 821) (by decide +kernel), List.mem_of_getElem? (i := 1051) (by decide +kernel), List.mem_of_getElem? (i := 1052) (by decide +kernel)⟩
def lw_privs_2 : List (MethodName × Nat) := [(⟨"ClockWires$Text", "wantsPart", "()Z"⟩, 9), (⟨"ClockWires$Text", "closes", "()Z"⟩, 9), (⟨"ClockWires$Text", "addPart", "(I)V"⟩, 9), (⟨"ClockWires$Text", "takesSink", "(II)Z"⟩, 9), (⟨"ClockWires", "shownByte", "(II)I"⟩, 9), (⟨"ClockWires", "shownLength", "(I)I"⟩, 9), (⟨"ClockWires", "toldValue", "(I)I"⟩, 9), (⟨"ClockWiresModel", "no", "()I"⟩, 45), (⟨"ClockWiresModel", "bad", "()I"⟩, 45), (⟨"ClockWiresModel", "isAt", "(II)I"⟩, 45), (⟨"ClockWiresModel", "full", "()I"⟩, 45), (⟨"ClockWiresModel", "leavesState", "()V"⟩, 45), (⟨"ClockWiresModel", "touches", "(I)V"⟩, 45), (⟨"ClockWiresModel", "isSink", "(I)Z"⟩, 45), (⟨"ClockWiresModel", "isNode", "(I)Z"⟩, 45), (⟨"ClockWiresModel", "isTop", "(I)Z"⟩, 45)]
theorem lw_r2 : ∀ q ∈ lw_privs_2, lw_okq q := List.forall_mem_cons.mpr ⟨lw_p16, List.forall_mem_cons.mpr ⟨lw_p17, List.forall_mem_cons.mpr ⟨lw_p18, List.forall_mem_cons.mpr ⟨lw_p19, List.forall_mem_cons.mpr ⟨lw_p20, List.forall_mem_cons.mpr ⟨lw_p21, List.forall_mem_cons.mpr ⟨lw_p22, List.forall_mem_cons.mpr ⟨lw_p23, List.forall_mem_cons.mpr ⟨lw_p24, List.forall_mem_cons.mpr ⟨lw_p25, List.forall_mem_cons.mpr ⟨lw_p26, List.forall_mem_cons.mpr ⟨lw_p27, List.forall_mem_cons.mpr ⟨lw_p28, List.forall_mem_cons.mpr ⟨lw_p29, List.forall_mem_cons.mpr ⟨lw_p30, List.forall_mem_cons.mpr ⟨lw_p31, fun _ h => absurd h List.not_mem_nil⟩⟩⟩⟩⟩⟩⟩⟩⟩⟩⟩⟩⟩⟩⟩⟩
theorem lw_p32 : lw_okq (⟨"ClockWiresModel", "lays", "(II)I"⟩, 45) := ⟨⟨by decide +kernel, by decide +kernel⟩, List.mem_of_getElem? (i := 821) (by decide +kernel), List.mem_of_getElem? (i := 1055) (by decide +kernel), List.mem_of_getElem? (i := 1056) (by decide +kernel)⟩
theorem lw_p33 : lw_okq (⟨"ClockWiresModel", "comes", "()I"⟩, 45) := ⟨⟨by decide +kernel, by decide +kernel⟩, List.mem_of_getElem? (i := 821) (by decide +kernel), List.mem_of_getElem? (i := 1059) (by decide +kernel), List.mem_of_getElem? (i := 1060) (by decide +kernel)⟩
theorem lw_p34 : lw_okq (⟨"ClockWiresModel", "replaces", "(II)V"⟩, 45) := ⟨⟨by decide +kernel, by decide +kernel⟩, List.mem_of_getElem? (i := 821) (by decide +kernel), List.mem_of_getElem? (i := 1063) (by decide +kernel), List.mem_of_getElem? (i := 1064) (by decide +kernel)⟩
theorem lw_p35 : lw_okq (⟨"ClockWiresModel", "findsPair", "()I"⟩, 45) := ⟨⟨by decide +kernel, by decide +kernel⟩, List.mem_of_getElem? (i := 821) (by decide +kernel), List.mem_of_getElem? (i := 1071) (by decide +kernel), List.mem_of_getElem? (i := 1072) (by decide +kernel)⟩
theorem lw_p36 : lw_okq (⟨"ClockWiresModel", "tellsAll", "()V"⟩, 45) := ⟨⟨by decide +kernel, by decide +kernel⟩, List.mem_of_getElem? (i := 821) (by decide +kernel), List.mem_of_getElem? (i := 1075) (by decide +kernel), List.mem_of_getElem? (i := 1076) (by decide +kernel)⟩
theorem lw_p37 : lw_okq (⟨"ClockWiresModel", "tellsSink", "(I)V"⟩, 45) := ⟨⟨by decide +kernel, by decide +kernel⟩, List.mem_of_getElem? (i := 821) (by decide +kernel), List.mem_of_getElem? (i := 1079) (by decide +kernel), List.mem_of_getElem? (i := 1080) (by decide +kernel)⟩
theorem lw_p38 : lw_okq (⟨"ClockWiresModel", "tellsJoint", "(I)V"⟩, 45) := ⟨⟨by decide +kernel, by decide +kernel⟩, List.mem_of_getElem? (i := 821) (by decide +kernel), List.mem_of_getElem? (i := 1083) (by decide +kernel), List.mem_of_getElem? (i := 1084) (by decide +kernel)⟩
theorem lw_p39 : lw_okq (⟨"ClockWiresModel", "reckons", "(II)V"⟩, 45) := ⟨⟨by decide +kernel, by decide +kernel⟩, List.mem_of_getElem? (i := 821) (by decide +kernel), List.mem_of_getElem? (i := 1087) (by decide +kernel), List.mem_of_getElem? (i := 1088) (by decide +kernel)⟩
theorem lw_p40 : lw_okq (⟨"ClockWiresModel", "noJoints", "()I"⟩, 45) := ⟨⟨by decide +kernel, by decide +kernel⟩, List.mem_of_getElem? (i := 821) (by decide +kernel), List.mem_of_getElem? (i := 1098) (by decide +kernel), List.mem_of_getElem? (i := 1099) (by decide +kernel)⟩
theorem lw_p41 : lw_okq (⟨"ClockWiresModel", "goes", "(I)V"⟩, 45) := ⟨⟨by decide +kernel, by decide +kernel⟩, List.mem_of_getElem? (i := 821) (by decide +kernel), List.mem_of_getElem? (i := 1102) (by decide +kernel), List.mem_of_getElem? (i := 1103) (by decide +kernel)⟩
theorem lw_p42 : lw_okq (⟨"ClockWiresModel", "takesOff", "(I)I"⟩, 45) := ⟨⟨by decide +kernel, by decide +kernel⟩, List.mem_of_getElem? (i := 821) (by decide +kernel), List.mem_of_getElem? (i := 1110) (by decide +kernel), List.mem_of_getElem? (i := 1111) (by decide +kernel)⟩
theorem lw_p43 : lw_okq (⟨"ClockWiresModel", "isWithin", "(II)Z"⟩, 45) := ⟨⟨by decide +kernel, by decide +kernel⟩, List.mem_of_getElem? (i := 821) (by decide +kernel), List.mem_of_getElem? (i := 1118) (by decide +kernel), List.mem_of_getElem? (i := 1119) (by decide +kernel)⟩
theorem lw_p44 : lw_okq (⟨"ClockWiresModel", "bestFor", "(I)I"⟩, 45) := ⟨⟨by decide +kernel, by decide +kernel⟩, List.mem_of_getElem? (i := 821) (by decide +kernel), List.mem_of_getElem? (i := 1122) (by decide +kernel), List.mem_of_getElem? (i := 1123) (by decide +kernel)⟩
theorem lw_p45 : lw_okq (⟨"ClockWiresModel", "laysAside", "()V"⟩, 45) := ⟨⟨by decide +kernel, by decide +kernel⟩, List.mem_of_getElem? (i := 821) (by decide +kernel), List.mem_of_getElem? (i := 1126) (by decide +kernel), List.mem_of_getElem? (i := 1127) (by decide +kernel)⟩
theorem lw_p46 : lw_okq (⟨"ClockWiresModel", "costOfAll", "()I"⟩, 45) := ⟨⟨by decide +kernel, by decide +kernel⟩, List.mem_of_getElem? (i := 821) (by decide +kernel), List.mem_of_getElem? (i := 1130) (by decide +kernel), List.mem_of_getElem? (i := 1131) (by decide +kernel)⟩
theorem lw_p47 : lw_okq (⟨"ClockWiresModel", "takesBack", "()V"⟩, 45) := ⟨⟨by decide +kernel, by decide +kernel⟩, List.mem_of_getElem? (i := 821) (by decide +kernel), List.mem_of_getElem? (i := 1134) (by decide +kernel), List.mem_of_getElem? (i := 1135) (by decide +kernel)⟩
def lw_privs_3 : List (MethodName × Nat) := [(⟨"ClockWiresModel", "lays", "(II)I"⟩, 45), (⟨"ClockWiresModel", "comes", "()I"⟩, 45), (⟨"ClockWiresModel", "replaces", "(II)V"⟩, 45), (⟨"ClockWiresModel", "findsPair", "()I"⟩, 45), (⟨"ClockWiresModel", "tellsAll", "()V"⟩, 45), (⟨"ClockWiresModel", "tellsSink", "(I)V"⟩, 45), (⟨"ClockWiresModel", "tellsJoint", "(I)V"⟩, 45), (⟨"ClockWiresModel", "reckons", "(II)V"⟩, 45), (⟨"ClockWiresModel", "noJoints", "()I"⟩, 45), (⟨"ClockWiresModel", "goes", "(I)V"⟩, 45), (⟨"ClockWiresModel", "takesOff", "(I)I"⟩, 45), (⟨"ClockWiresModel", "isWithin", "(II)Z"⟩, 45), (⟨"ClockWiresModel", "bestFor", "(I)I"⟩, 45), (⟨"ClockWiresModel", "laysAside", "()V"⟩, 45), (⟨"ClockWiresModel", "costOfAll", "()I"⟩, 45), (⟨"ClockWiresModel", "takesBack", "()V"⟩, 45)]
theorem lw_r3 : ∀ q ∈ lw_privs_3, lw_okq q := List.forall_mem_cons.mpr ⟨lw_p32, List.forall_mem_cons.mpr ⟨lw_p33, List.forall_mem_cons.mpr ⟨lw_p34, List.forall_mem_cons.mpr ⟨lw_p35, List.forall_mem_cons.mpr ⟨lw_p36, List.forall_mem_cons.mpr ⟨lw_p37, List.forall_mem_cons.mpr ⟨lw_p38, List.forall_mem_cons.mpr ⟨lw_p39, List.forall_mem_cons.mpr ⟨lw_p40, List.forall_mem_cons.mpr ⟨lw_p41, List.forall_mem_cons.mpr ⟨lw_p42, List.forall_mem_cons.mpr ⟨lw_p43, List.forall_mem_cons.mpr ⟨lw_p44, List.forall_mem_cons.mpr ⟨lw_p45, List.forall_mem_cons.mpr ⟨lw_p46, List.forall_mem_cons.mpr ⟨lw_p47, fun _ h => absurd h List.not_mem_nil⟩⟩⟩⟩⟩⟩⟩⟩⟩⟩⟩⟩⟩⟩⟩⟩
theorem lw_p48 : lw_okq (⟨"ClockWiresModel", "canExchange", "(II)Z"⟩, 45) := ⟨⟨by decide +kernel, by decide +kernel⟩, List.mem_of_getElem? (i := 821) (by decide +kernel), List.mem_of_getElem? (i := 1142) (by decide +kernel), List.mem_of_getElem? (i := 1143) (by decide +kernel)⟩
theorem lw_p49 : lw_okq (⟨"ClockWiresModel", "swaps", "(II)V"⟩, 45) := ⟨⟨by decide +kernel, by decide +kernel⟩, List.mem_of_getElem? (i := 821) (by decide +kernel), List.mem_of_getElem? (i := 1146) (by decide +kernel), List.mem_of_getElem? (i := 1147) (by decide +kernel)⟩
theorem lw_p50 : lw_okq (⟨"ClockWiresModel", "about", "(II)I"⟩, 45) := ⟨⟨by decide +kernel, by decide +kernel⟩, List.mem_of_getElem? (i := 821) (by decide +kernel), List.mem_of_getElem? (i := 1158) (by decide +kernel), List.mem_of_getElem? (i := 1159) (by decide +kernel)⟩
theorem lw_p51 : lw_okq (⟨"ClockWiresModel", "topMany", "()I"⟩, 45) := ⟨⟨by decide +kernel, by decide +kernel⟩, List.mem_of_getElem? (i := 821) (by decide +kernel), List.mem_of_getElem? (i := 1174) (by decide +kernel), List.mem_of_getElem? (i := 1175) (by decide +kernel)⟩
theorem lw_p52 : lw_okq (⟨"ClockWiresModel", "growsBy", "(I)V"⟩, 45) := ⟨⟨by decide +kernel, by decide +kernel⟩, List.mem_of_getElem? (i := 821) (by decide +kernel), List.mem_of_getElem? (i := 1182) (by decide +kernel), List.mem_of_getElem? (i := 1183) (by decide +kernel)⟩
theorem lw_p53 : lw_okq (⟨"ClockWiresModel", "areLaid", "()Z"⟩, 45) := ⟨⟨by decide +kernel, by decide +kernel⟩, List.mem_of_getElem? (i := 821) (by decide +kernel), List.mem_of_getElem? (i := 1190) (by decide +kernel), List.mem_of_getElem? (i := 1191) (by decide +kernel)⟩
theorem lw_p54 : lw_okq (⟨"ClockWiresModel", "settles", "(III)V"⟩, 45) := ⟨⟨by decide +kernel, by decide +kernel⟩, List.mem_of_getElem? (i := 821) (by decide +kernel), List.mem_of_getElem? (i := 1194) (by decide +kernel), List.mem_of_getElem? (i := 1195) (by decide +kernel)⟩
theorem lw_p55 : lw_okq (⟨"ClockWiresModel", "loop", "(I)I"⟩, 45) := ⟨⟨by decide +kernel, by decide +kernel⟩, List.mem_of_getElem? (i := 821) (by decide +kernel), List.mem_of_getElem? (i := 1201) (by decide +kernel), List.mem_of_getElem? (i := 1202) (by decide +kernel)⟩
theorem lw_p56 : lw_okq (⟨"ClockWiresModel", "arrives", "(I)I"⟩, 45) := ⟨⟨by decide +kernel, by decide +kernel⟩, List.mem_of_getElem? (i := 821) (by decide +kernel), List.mem_of_getElem? (i := 1209) (by decide +kernel), List.mem_of_getElem? (i := 1210) (by decide +kernel)⟩
theorem lw_p57 : lw_okq (⟨"ClockWiresModel", "trunk", "()I"⟩, 45) := ⟨⟨by decide +kernel, by decide +kernel⟩, List.mem_of_getElem? (i := 821) (by decide +kernel), List.mem_of_getElem? (i := 1213) (by decide +kernel), List.mem_of_getElem? (i := 1214) (by decide +kernel)⟩
theorem lw_p58 : lw_okq (⟨"ClockWiresModel", "below", "(I)J"⟩, 45) := ⟨⟨by decide +kernel, by decide +kernel⟩, List.mem_of_getElem? (i := 821) (by decide +kernel), List.mem_of_getElem? (i := 1222) (by decide +kernel), List.mem_of_getElem? (i := 1223) (by decide +kernel)⟩
theorem lw_p59 : lw_okq (⟨"ClockWiresModel", "totalBy", "(I)I"⟩, 45) := ⟨⟨by decide +kernel, by decide +kernel⟩, List.mem_of_getElem? (i := 821) (by decide +kernel), List.mem_of_getElem? (i := 1231) (by decide +kernel), List.mem_of_getElem? (i := 1232) (by decide +kernel)⟩
theorem lw_p60 : lw_okq (⟨"ClockWiresModel", "spread", "()I"⟩, 45) := ⟨⟨by decide +kernel, by decide +kernel⟩, List.mem_of_getElem? (i := 821) (by decide +kernel), List.mem_of_getElem? (i := 1235) (by decide +kernel), List.mem_of_getElem? (i := 1236) (by decide +kernel)⟩
theorem lw_p61 : lw_okq (⟨"ClockWiresModel", "loops", "(Z)I"⟩, 45) := ⟨⟨by decide +kernel, by decide +kernel⟩, List.mem_of_getElem? (i := 821) (by decide +kernel), List.mem_of_getElem? (i := 1239) (by decide +kernel), List.mem_of_getElem? (i := 1240) (by decide +kernel)⟩
theorem lw_p62 : lw_okq (⟨"ClockWiresModel", "readsAll", "(Z)Z"⟩, 45) := ⟨⟨by decide +kernel, by decide +kernel⟩, List.mem_of_getElem? (i := 821) (by decide +kernel), List.mem_of_getElem? (i := 1255) (by decide +kernel), List.mem_of_getElem? (i := 1256) (by decide +kernel)⟩
theorem lw_p63 : lw_okq (⟨"ClockWiresModel", "reads", "(Z)Z"⟩, 45) := ⟨⟨by decide +kernel, by decide +kernel⟩, List.mem_of_getElem? (i := 821) (by decide +kernel), List.mem_of_getElem? (i := 1259) (by decide +kernel), List.mem_of_getElem? (i := 1260) (by decide +kernel)⟩
def lw_privs_4 : List (MethodName × Nat) := [(⟨"ClockWiresModel", "canExchange", "(II)Z"⟩, 45), (⟨"ClockWiresModel", "swaps", "(II)V"⟩, 45), (⟨"ClockWiresModel", "about", "(II)I"⟩, 45), (⟨"ClockWiresModel", "topMany", "()I"⟩, 45), (⟨"ClockWiresModel", "growsBy", "(I)V"⟩, 45), (⟨"ClockWiresModel", "areLaid", "()Z"⟩, 45), (⟨"ClockWiresModel", "settles", "(III)V"⟩, 45), (⟨"ClockWiresModel", "loop", "(I)I"⟩, 45), (⟨"ClockWiresModel", "arrives", "(I)I"⟩, 45), (⟨"ClockWiresModel", "trunk", "()I"⟩, 45), (⟨"ClockWiresModel", "below", "(I)J"⟩, 45), (⟨"ClockWiresModel", "totalBy", "(I)I"⟩, 45), (⟨"ClockWiresModel", "spread", "()I"⟩, 45), (⟨"ClockWiresModel", "loops", "(Z)I"⟩, 45), (⟨"ClockWiresModel", "readsAll", "(Z)Z"⟩, 45), (⟨"ClockWiresModel", "reads", "(Z)Z"⟩, 45)]
theorem lw_r4 : ∀ q ∈ lw_privs_4, lw_okq q := List.forall_mem_cons.mpr ⟨lw_p48, List.forall_mem_cons.mpr ⟨lw_p49, List.forall_mem_cons.mpr ⟨lw_p50, List.forall_mem_cons.mpr ⟨lw_p51, List.forall_mem_cons.mpr ⟨lw_p52, List.forall_mem_cons.mpr ⟨lw_p53, List.forall_mem_cons.mpr ⟨lw_p54, List.forall_mem_cons.mpr ⟨lw_p55, List.forall_mem_cons.mpr ⟨lw_p56, List.forall_mem_cons.mpr ⟨lw_p57, List.forall_mem_cons.mpr ⟨lw_p58, List.forall_mem_cons.mpr ⟨lw_p59, List.forall_mem_cons.mpr ⟨lw_p60, List.forall_mem_cons.mpr ⟨lw_p61, List.forall_mem_cons.mpr ⟨lw_p62, List.forall_mem_cons.mpr ⟨lw_p63, fun _ h => absurd h List.not_mem_nil⟩⟩⟩⟩⟩⟩⟩⟩⟩⟩⟩⟩⟩⟩⟩⟩
theorem lw_p64 : lw_okq (⟨"ClockWiresModel", "here", "()I"⟩, 45) := ⟨⟨by decide +kernel, by decide +kernel⟩, List.mem_of_getElem? (i := 821) (by decide +kernel), List.mem_of_getElem? (i := 1263) (by decide +kernel), List.mem_of_getElem? (i := 1264) (by decide +kernel)⟩
theorem lw_p65 : lw_okq (⟨"ClockWiresModel", "tells", "(I)V"⟩, 45) := ⟨⟨by decide +kernel, by decide +kernel⟩, List.mem_of_getElem? (i := 821) (by decide +kernel), List.mem_of_getElem? (i := 1267) (by decide +kernel), List.mem_of_getElem? (i := 1268) (by decide +kernel)⟩
theorem lw_p66 : lw_okq (⟨"ClockWiresModel", "byteOf", "(II)I"⟩, 45) := ⟨⟨by decide +kernel, by decide +kernel⟩, List.mem_of_getElem? (i := 821) (by decide +kernel), List.mem_of_getElem? (i := 1275) (by decide +kernel), List.mem_of_getElem? (i := 1276) (by decide +kernel)⟩
theorem lw_p67 : lw_okq (⟨"ClockWiresModel", "toldBy", "(I)I"⟩, 45) := ⟨⟨by decide +kernel, by decide +kernel⟩, List.mem_of_getElem? (i := 821) (by decide +kernel), List.mem_of_getElem? (i := 1283) (by decide +kernel), List.mem_of_getElem? (i := 1284) (by decide +kernel)⟩
theorem lw_p68 : lw_okq (⟨"ClockWiresModel", "jointMany", "()I"⟩, 45) := ⟨⟨by decide +kernel, by decide +kernel⟩, List.mem_of_getElem? (i := 821) (by decide +kernel), List.mem_of_getElem? (i := 1287) (by decide +kernel), List.mem_of_getElem? (i := 1288) (by decide +kernel)⟩
def lw_privs_5 : List (MethodName × Nat) := [(⟨"ClockWiresModel", "here", "()I"⟩, 45), (⟨"ClockWiresModel", "tells", "(I)V"⟩, 45), (⟨"ClockWiresModel", "byteOf", "(II)I"⟩, 45), (⟨"ClockWiresModel", "toldBy", "(I)I"⟩, 45), (⟨"ClockWiresModel", "jointMany", "()I"⟩, 45)]
theorem lw_r5 : ∀ q ∈ lw_privs_5, lw_okq q := List.forall_mem_cons.mpr ⟨lw_p64, List.forall_mem_cons.mpr ⟨lw_p65, List.forall_mem_cons.mpr ⟨lw_p66, List.forall_mem_cons.mpr ⟨lw_p67, List.forall_mem_cons.mpr ⟨lw_p68, fun _ h => absurd h List.not_mem_nil⟩⟩⟩⟩⟩
def lw_privs : List (MethodName × Nat) := lw_privs_1 ++ (lw_privs_2 ++ (lw_privs_3 ++ (lw_privs_4 ++ (lw_privs_5))))
def lw_tbl : List Cond := k2_sels lw_privs ++ tables_1
theorem lw_privs_ok : ∀ q ∈ lw_privs, lw_okq q := by
  show ∀ q ∈ lw_privs_1 ++ (lw_privs_2 ++ (lw_privs_3 ++ (lw_privs_4 ++ (lw_privs_5)))), lw_okq q
  exact List.forall_mem_append.mpr ⟨lw_r1, List.forall_mem_append.mpr ⟨lw_r2, List.forall_mem_append.mpr ⟨lw_r3, List.forall_mem_append.mpr ⟨lw_r4, lw_r5⟩⟩⟩⟩
end
section
theorem goodIn_r {big : List Cond} (ws : List Cond) (ps : List Nat) (hp : ws = ps.filterMap (fun i => big[i]?)) (h : ws.all goodWord = true) : GoodIn big ws := by
  intro w hw
  have h1 := List.all_eq_true.mp h w hw
  rw [hp] at hw
  obtain ⟨i, -, hi⟩ := List.mem_filterMap.mp hw
  have hm : w ∈ big := by first | exact List.mem_of_getElem? hi | exact List.getElem?_mem hi
  exact ⟨hm, good_of_word h1⟩
def RX0 : String := "ClockWires$History"
def TX0 : u_T := fun k => match k with
  | 0 => ("ClockWires$History", "saved", "[LClockWires$Tree;", true)
  | 1 => ("ClockWires$History", "next", "I", false)
  | _ => ("ClockWires$History", "count", "I", false)
def tyX0 : Nat → FieldType := fun k => match k with
  | 0 => .array (.object "ClockWires$Tree")
  | 1 => .int
  | _ => .int
abbrev wsX00 : List Cond := u_ws RX0 TX0 3
theorem nmX0 : ∀ a, a < 3 → ∀ b, b < 3 → a ≠ b → (TX0 a).2.1 ≠ (TX0 b).2.1 := by decide +kernel
theorem tyX0_ok : ∀ k, k < 3 → parseFieldDescriptor (TX0 k).2.2.1 = some (tyX0 k) := by decide +kernel
def RX1 : String := "ClockWires$Merge"
def TX1 : u_T := fun k => match k with
  | 0 => ("ClockWires$Merge", "gap", "I", false)
  | 1 => ("ClockWires$Merge", "span", "I", false)
  | 2 => ("ClockWires$Merge", "leftWire", "I", false)
  | _ => ("ClockWires$Merge", "rightWire", "I", false)
def tyX1 : Nat → FieldType := fun k => match k with
  | 0 => .int
  | 1 => .int
  | 2 => .int
  | _ => .int
abbrev wsX10 : List Cond := u_ws RX1 TX1 4
theorem nmX1 : ∀ a, a < 4 → ∀ b, b < 4 → a ≠ b → (TX1 a).2.1 ≠ (TX1 b).2.1 := by decide +kernel
theorem tyX1_ok : ∀ k, k < 4 → parseFieldDescriptor (TX1 k).2.2.1 = some (tyX1 k) := by decide +kernel
def RX2 : String := "ClockWires$Part"
def TX2 : u_T := fun k => match k with
  | 0 => ("ClockWires$Part", "u1", "I", false)
  | 1 => ("ClockWires$Part", "u2", "I", false)
  | 2 => ("ClockWires$Part", "v1", "I", false)
  | 3 => ("ClockWires$Part", "v2", "I", false)
  | 4 => ("ClockWires$Part", "early", "I", false)
  | 5 => ("ClockWires$Part", "late", "I", false)
  | 6 => ("ClockWires$Part", "wire", "I", false)
  | 7 => ("ClockWires$Part", "cost", "I", false)
  | 8 => ("ClockWires$Part", "sinks", "I", false)
  | _ => ("ClockWires$Part", "loads", "I", false)
def tyX2 : Nat → FieldType := fun k => match k with
  | 0 => .int
  | 1 => .int
  | 2 => .int
  | 3 => .int
  | 4 => .int
  | 5 => .int
  | 6 => .int
  | 7 => .int
  | 8 => .int
  | _ => .int
abbrev wsX20 : List Cond := u_ws RX2 TX2 10
theorem nmX2 : ∀ a, a < 10 → ∀ b, b < 10 → a ≠ b → (TX2 a).2.1 ≠ (TX2 b).2.1 := by decide +kernel
theorem tyX2_ok : ∀ k, k < 10 → parseFieldDescriptor (TX2 k).2.2.1 = some (tyX2 k) := by decide +kernel
def RX3 : String := "ClockWires$Places"
def TX3 : u_T := fun k => match k with
  | 0 => ("ClockWires$Places", "u", "[I", true)
  | 1 => ("ClockWires$Places", "v", "[I", true)
  | 2 => ("ClockWires$Places", "loop", "[I", true)
  | 3 => ("ClockWires$Places", "path", "[I", true)
  | 4 => ("ClockWires$Places", "delay", "[J", true)
  | 5 => ("ClockWires$Places", "whole", "Z", false)
  | 6 => ("ClockWires$Places", "trunk", "I", false)
  | 7 => ("ClockWires$Places", "loopSum", "I", false)
  | 8 => ("ClockWires$Places", "loopCount", "I", false)
  | _ => ("ClockWires$Places", "spread", "I", false)
def tyX3 : Nat → FieldType := fun k => match k with
  | 0 => .array .int
  | 1 => .array .int
  | 2 => .array .int
  | 3 => .array .int
  | 4 => .array .long
  | 5 => .boolean
  | 6 => .int
  | 7 => .int
  | 8 => .int
  | _ => .int
abbrev wsX30 : List Cond := u_ws RX3 TX3 10
theorem nmX3 : ∀ a, a < 10 → ∀ b, b < 10 → a ≠ b → (TX3 a).2.1 ≠ (TX3 b).2.1 := by decide +kernel
theorem tyX3_ok : ∀ k, k < 10 → parseFieldDescriptor (TX3 k).2.2.1 = some (tyX3 k) := by decide +kernel
def RX4 : String := "ClockWires$Search"
def TX4 : u_T := fun k => match k with
  | 0 => ("ClockWires$Search", "trial", "LClockWires$Tree;", true)
  | 1 => ("ClockWires$Search", "wires", "LClockWires$Wires;", true)
  | 2 => ("ClockWires$Search", "leastKnown", "Z", false)
  | 3 => ("ClockWires$Search", "leastCost", "I", false)
  | _ => ("ClockWires$Search", "leastTrees", "I", false)
def tyX4 : Nat → FieldType := fun k => match k with
  | 0 => .object "ClockWires$Tree"
  | 1 => .object "ClockWires$Wires"
  | 2 => .boolean
  | 3 => .int
  | _ => .int
abbrev wsX40 : List Cond := u_ws RX4 TX4 5
theorem nmX4 : ∀ a, a < 5 → ∀ b, b < 5 → a ≠ b → (TX4 a).2.1 ≠ (TX4 b).2.1 := by decide +kernel
theorem tyX4_ok : ∀ k, k < 5 → parseFieldDescriptor (TX4 k).2.2.1 = some (tyX4 k) := by decide +kernel
def RX5 : String := "ClockWires$Text"
def TX5 : u_T := fun k => match k with
  | 0 => ("ClockWires$Text", "bytes", "[I", true)
  | 1 => ("ClockWires$Text", "first", "[I", true)
  | 2 => ("ClockWires$Text", "second", "[I", true)
  | 3 => ("ClockWires$Text", "jointLeft", "[I", true)
  | 4 => ("ClockWires$Text", "jointRight", "[I", true)
  | 5 => ("ClockWires$Text", "length", "I", false)
  | 6 => ("ClockWires$Text", "jointCount", "I", false)
  | 7 => ("ClockWires$Text", "depth", "I", false)
  | _ => ("ClockWires$Text", "usedSinks", "I", false)
def tyX5 : Nat → FieldType := fun k => match k with
  | 0 => .array .int
  | 1 => .array .int
  | 2 => .array .int
  | 3 => .array .int
  | 4 => .array .int
  | 5 => .int
  | 6 => .int
  | 7 => .int
  | _ => .int
abbrev wsX50 : List Cond := u_ws RX5 TX5 9
theorem nmX5 : ∀ a, a < 9 → ∀ b, b < 9 → a ≠ b → (TX5 a).2.1 ≠ (TX5 b).2.1 := by decide +kernel
theorem tyX5_ok : ∀ k, k < 9 → parseFieldDescriptor (TX5 k).2.2.1 = some (tyX5 k) := by decide +kernel
def RX6 : String := "ClockWires$Tree"
def TX6 : u_T := fun k => match k with
  | 0 => ("ClockWires$Tree", "x", "[I", true)
  | 1 => ("ClockWires$Tree", "y", "[I", true)
  | 2 => ("ClockWires$Tree", "offset", "[I", true)
  | 3 => ("ClockWires$Tree", "load", "[I", true)
  | 4 => ("ClockWires$Tree", "lastTouched", "[I", true)
  | 5 => ("ClockWires$Tree", "left", "[I", true)
  | 6 => ("ClockWires$Tree", "right", "[I", true)
  | 7 => ("ClockWires$Tree", "parent", "[I", true)
  | 8 => ("ClockWires$Tree", "sinkCount", "I", false)
  | 9 => ("ClockWires$Tree", "skewLimit", "I", false)
  | 10 => ("ClockWires$Tree", "sourceX", "I", false)
  | _ => ("ClockWires$Tree", "sourceY", "I", false)
def tyX6 : Nat → FieldType := fun k => match k with
  | 0 => .array .int
  | 1 => .array .int
  | 2 => .array .int
  | 3 => .array .int
  | 4 => .array .int
  | 5 => .array .int
  | 6 => .array .int
  | 7 => .array .int
  | 8 => .int
  | 9 => .int
  | 10 => .int
  | _ => .int
abbrev wsX60 : List Cond := u_ws RX6 TX6 12
theorem nmX6 : ∀ a, a < 12 → ∀ b, b < 12 → a ≠ b → (TX6 a).2.1 ≠ (TX6 b).2.1 := by decide +kernel
theorem tyX6_ok : ∀ k, k < 12 → parseFieldDescriptor (TX6 k).2.2.1 = some (tyX6 k) := by decide +kernel
def RX7 : String := "ClockWires$Wires"
def TX7 : u_T := fun k => match k with
  | 0 => ("ClockWires$Wires", "parts", "[LClockWires$Part;", true)
  | 1 => ("ClockWires$Wires", "nowhere", "LClockWires$Part;", true)
  | 2 => ("ClockWires$Wires", "merge", "LClockWires$Merge;", true)
  | 3 => ("ClockWires$Wires", "downward", "[I", true)
  | 4 => ("ClockWires$Wires", "nodeCount", "I", false)
  | 5 => ("ClockWires$Wires", "topCount", "I", false)
  | _ => ("ClockWires$Wires", "totalCost", "I", false)
def tyX7 : Nat → FieldType := fun k => match k with
  | 0 => .array (.object "ClockWires$Part")
  | 1 => .object "ClockWires$Part"
  | 2 => .object "ClockWires$Merge"
  | 3 => .array .int
  | 4 => .int
  | 5 => .int
  | _ => .int
abbrev wsX70 : List Cond := u_ws RX7 TX7 7
theorem nmX7 : ∀ a, a < 7 → ∀ b, b < 7 → a ≠ b → (TX7 a).2.1 ≠ (TX7 b).2.1 := by decide +kernel
theorem tyX7_ok : ∀ k, k < 7 → parseFieldDescriptor (TX7 k).2.2.1 = some (tyX7 k) := by decide +kernel
def RX8 : String := "ClockWires"
def TX8 : u_T := fun k => match k with
  | 0 => ("ClockWires", "tree", "LClockWires$Tree;", true)
  | 1 => ("ClockWires", "wires", "LClockWires$Wires;", true)
  | 2 => ("ClockWires", "places", "LClockWires$Places;", true)
  | 3 => ("ClockWires", "search", "LClockWires$Search;", true)
  | 4 => ("ClockWires", "history", "LClockWires$History;", true)
  | 5 => ("ClockWires", "text", "LClockWires$Text;", true)
  | 6 => ("ClockWires", "badCount", "I", false)
  | 7 => ("ClockWires", "noCount", "I", false)
  | _ => ("ClockWires", "fullCount", "I", false)
def tyX8 : Nat → FieldType := fun k => match k with
  | 0 => .object "ClockWires$Tree"
  | 1 => .object "ClockWires$Wires"
  | 2 => .object "ClockWires$Places"
  | 3 => .object "ClockWires$Search"
  | 4 => .object "ClockWires$History"
  | 5 => .object "ClockWires$Text"
  | 6 => .int
  | 7 => .int
  | _ => .int
abbrev wsX80 : List Cond := u_ws RX8 TX8 9
theorem nmX8 : ∀ a, a < 9 → ∀ b, b < 9 → a ≠ b → (TX8 a).2.1 ≠ (TX8 b).2.1 := by decide +kernel
theorem tyX8_ok : ∀ k, k < 9 → parseFieldDescriptor (TX8 k).2.2.1 = some (tyX8 k) := by decide +kernel
def RX9 : String := "ClockWiresModel"
def TX9 : u_T := fun k => match k with
  | 0 => ("ClockWiresModel", "refused", "[I", true)
  | 1 => ("ClockWiresModel", "sinks", "I", false)
  | 2 => ("ClockWiresModel", "ends", "[I", true)
  | 3 => ("ClockWiresModel", "skew", "I", false)
  | 4 => ("ClockWiresModel", "sourceX", "I", false)
  | 5 => ("ClockWiresModel", "sourceY", "I", false)
  | 6 => ("ClockWiresModel", "latest", "I", false)
  | 7 => ("ClockWiresModel", "late", "[I", true)
  | 8 => ("ClockWiresModel", "isThere", "[I", true)
  | 9 => ("ClockWiresModel", "left", "[I", true)
  | 10 => ("ClockWiresModel", "right", "[I", true)
  | 11 => ("ClockWiresModel", "joint", "[I", true)
  | 12 => ("ClockWiresModel", "aside", "[I", true)
  | 13 => ("ClockWiresModel", "states", "I", false)
  | 14 => ("ClockWiresModel", "kept", "[I", true)
  | 15 => ("ClockWiresModel", "u1", "[I", true)
  | 16 => ("ClockWiresModel", "u2", "[I", true)
  | 17 => ("ClockWiresModel", "v1", "[I", true)
  | 18 => ("ClockWiresModel", "v2", "[I", true)
  | 19 => ("ClockWiresModel", "early", "[I", true)
  | 20 => ("ClockWiresModel", "last", "[I", true)
  | 21 => ("ClockWiresModel", "wire", "[I", true)
  | 22 => ("ClockWiresModel", "cost", "[I", true)
  | 23 => ("ClockWiresModel", "many", "[I", true)
  | 24 => ("ClockWiresModel", "isDone", "[I", true)
  | 25 => ("ClockWiresModel", "far", "I", false)
  | 26 => ("ClockWiresModel", "reach", "I", false)
  | 27 => ("ClockWiresModel", "first", "I", false)
  | 28 => ("ClockWiresModel", "second", "I", false)
  | 29 => ("ClockWiresModel", "placeU", "[I", true)
  | 30 => ("ClockWiresModel", "placeV", "[I", true)
  | 31 => ("ClockWiresModel", "isPlaced", "[I", true)
  | 32 => ("ClockWiresModel", "top", "I", false)
  | 33 => ("ClockWiresModel", "pair", "I", false)
  | 34 => ("ClockWiresModel", "row", "[I", true)
  | 35 => ("ClockWiresModel", "text", "[I", true)
  | 36 => ("ClockWiresModel", "length", "I", false)
  | 37 => ("ClockWiresModel", "readAt", "I", false)
  | 38 => ("ClockWiresModel", "open", "[I", true)
  | 39 => ("ClockWiresModel", "deep", "I", false)
  | 40 => ("ClockWiresModel", "faultAt", "I", false)
  | 41 => ("ClockWiresModel", "toldOf", "[I", true)
  | 42 => ("ClockWiresModel", "whole", "I", false)
  | 43 => ("ClockWiresModel", "stage", "[I", true)
  | _ => ("ClockWiresModel", "other", "[I", true)
def tyX9 : Nat → FieldType := fun k => match k with
  | 0 => .array .int
  | 1 => .int
  | 2 => .array .int
  | 3 => .int
  | 4 => .int
  | 5 => .int
  | 6 => .int
  | 7 => .array .int
  | 8 => .array .int
  | 9 => .array .int
  | 10 => .array .int
  | 11 => .array .int
  | 12 => .array .int
  | 13 => .int
  | 14 => .array .int
  | 15 => .array .int
  | 16 => .array .int
  | 17 => .array .int
  | 18 => .array .int
  | 19 => .array .int
  | 20 => .array .int
  | 21 => .array .int
  | 22 => .array .int
  | 23 => .array .int
  | 24 => .array .int
  | 25 => .int
  | 26 => .int
  | 27 => .int
  | 28 => .int
  | 29 => .array .int
  | 30 => .array .int
  | 31 => .array .int
  | 32 => .int
  | 33 => .int
  | 34 => .array .int
  | 35 => .array .int
  | 36 => .int
  | 37 => .int
  | 38 => .array .int
  | 39 => .int
  | 40 => .int
  | 41 => .array .int
  | 42 => .int
  | 43 => .array .int
  | _ => .array .int
abbrev wsX90 : List Cond := u_ws RX9 TX9 45
theorem nmX9 : ∀ a, a < 45 → ∀ b, b < 45 → a ≠ b → (TX9 a).2.1 ≠ (TX9 b).2.1 := by decide +kernel
theorem tyX9_ok : ∀ k, k < 45 → parseFieldDescriptor (TX9 k).2.2.1 = some (tyX9 k) := by decide +kernel
def cw_t : List Cond := lw_tbl.filter goodWord
theorem cw_t_in {w : Cond} (h : w ∈ lw_tbl) (g : goodWord w = true) : w ∈ cw_t := List.mem_filter.mpr ⟨h, g⟩
theorem cw_t_good : ∀ w ∈ cw_t, (w.onTables && w.keeps) = true ∨ ∃ ty, w = .arrayClass ty := fun w h => good_of_word (List.mem_filter.mp h).2
theorem iX0 : ∀ w ∈ wsX00, w ∈ cw_t := fun w hw => cw_t_in (goodIn_r wsX00 [367, 369, 371] (by decide +kernel) (by decide +kernel) w hw).1 (List.all_eq_true.mp (by decide +kernel : wsX00.all goodWord = true) w hw)
theorem iX1 : ∀ w ∈ wsX10, w ∈ cw_t := fun w hw => cw_t_in (goodIn_r wsX10 [240, 242, 244, 246] (by decide +kernel) (by decide +kernel) w hw).1 (List.all_eq_true.mp (by decide +kernel : wsX10.all goodWord = true) w hw)
theorem iX2 : ∀ w ∈ wsX20, w ∈ cw_t := fun w hw => cw_t_in (goodIn_r wsX20 [204, 206, 208, 210, 212, 214, 216, 218, 220, 222] (by decide +kernel) (by decide +kernel) w hw).1 (List.all_eq_true.mp (by decide +kernel : wsX20.all goodWord = true) w hw)
theorem iX3 : ∀ w ∈ wsX30, w ∈ cw_t := fun w hw => cw_t_in (goodIn_r wsX30 [303, 305, 307, 309, 311, 313, 315, 317, 319, 321] (by decide +kernel) (by decide +kernel) w hw).1 (List.all_eq_true.mp (by decide +kernel : wsX30.all goodWord = true) w hw)
theorem iX4 : ∀ w ∈ wsX40, w ∈ cw_t := fun w hw => cw_t_in (goodIn_r wsX40 [343, 345, 347, 349, 351] (by decide +kernel) (by decide +kernel) w hw).1 (List.all_eq_true.mp (by decide +kernel : wsX40.all goodWord = true) w hw)
theorem iX5 : ∀ w ∈ wsX50, w ∈ cw_t := fun w hw => cw_t_in (goodIn_r wsX50 [393, 395, 397, 399, 401, 403, 405, 407, 409] (by decide +kernel) (by decide +kernel) w hw).1 (List.all_eq_true.mp (by decide +kernel : wsX50.all goodWord = true) w hw)
theorem iX6 : ∀ w ∈ wsX60, w ∈ cw_t := fun w hw => cw_t_in (goodIn_r wsX60 [130, 132, 134, 136, 138, 140, 142, 144, 146, 148, 150, 152] (by decide +kernel) (by decide +kernel) w hw).1 (List.all_eq_true.mp (by decide +kernel : wsX60.all goodWord = true) w hw)
theorem iX7 : ∀ w ∈ wsX70, w ∈ cw_t := fun w hw => cw_t_in (goodIn_r wsX70 [263, 265, 267, 269, 271, 273, 275] (by decide +kernel) (by decide +kernel) w hw).1 (List.all_eq_true.mp (by decide +kernel : wsX70.all goodWord = true) w hw)
theorem iX8 : ∀ w ∈ wsX80, w ∈ cw_t := fun w hw => cw_t_in (goodIn_r wsX80 [544, 546, 548, 550, 552, 554, 556, 558, 560] (by decide +kernel) (by decide +kernel) w hw).1 (List.all_eq_true.mp (by decide +kernel : wsX80.all goodWord = true) w hw)
theorem iX9 : ∀ w ∈ wsX90, w ∈ cw_t := fun w hw => cw_t_in (goodIn_r wsX90 [940, 942, 944, 946, 948, 950, 952, 954, 956, 958, 960, 962, 964, 966, 968, 970, 972, 974, 976, 978, 980, 982, 984, 986, 988, 990, 992, 994, 996, 998, 1000, 1002, 1004, 1006, 1008, 1010, 1012, 1014, 1016, 1018, 1020, 1022, 1024, 1026, 1028] (by decide +kernel) (by decide +kernel) w hw).1 (List.all_eq_true.mp (by decide +kernel : wsX90.all goodWord = true) w hw)
def cw_cl : List vw_C := [(RX0, TX0, 3), (RX1, TX1, 4), (RX2, TX2, 10), (RX3, TX3, 10), (RX4, TX4, 5), (RX5, TX5, 9), (RX6, TX6, 12), (RX7, TX7, 7), (RX8, TX8, 9), (RX9, TX9, 45)]
abbrev cw_MT : Type := MethodName × ByteArray × Nat × Option FieldType × Nat
def cw_ml : List cw_MT := [
  (⟨RX0, "<init>", "()V"⟩, prog_2_method_1_code, 2, none, 0),
  (⟨RX0, "save", "(LClockWires$Tree;)V"⟩, prog_2_method_2_code, 2, none, 1),
  (⟨RX0, "restore", "(LClockWires$Tree;)V"⟩, prog_2_method_3_code, 2, none, 1),
  (⟨RX1, "<init>", "()V"⟩, prog_3_method_1_code, 1, none, 0),
  (⟨RX1, "weigh", "(LClockWires$Part;LClockWires$Part;I)V"⟩, prog_3_method_2_code, 5, none, 3),
  (⟨RX1, "gapBetween", "(LClockWires$Part;LClockWires$Part;)I"⟩, prog_3_method_3_code, 5, (some .int), 2),
  (⟨RX1, "leadOf", "(LClockWires$Part;LClockWires$Part;I)I"⟩, prog_3_method_4_code, 5, (some .int), 3),
  (⟨RX1, "join", "(LClockWires$Part;LClockWires$Part;LClockWires$Part;)V"⟩, prog_3_method_5_code, 4, none, 3),
  (⟨RX2, "<init>", "()V"⟩, prog_4_method_1_code, 1, none, 0),
  (⟨RX2, "setSink", "(LClockWires$Tree;I)V"⟩, prog_4_method_2_code, 3, none, 2),
  (⟨RX2, "capacity", "()J"⟩, prog_4_method_3_code, 1, (some .long), 0),
  (⟨RX3, "<init>", "()V"⟩, prog_5_method_1_code, 1, none, 0),
  (⟨RX3, "embed", "(LClockWires$Tree;LClockWires$Wires;)V"⟩, prog_5_method_2_code, 5, none, 2),
  (⟨RX3, "setTop", "(LClockWires$Tree;LClockWires$Wires;I)V"⟩, prog_5_method_3_code, 7, none, 3),
  (⟨RX3, "setChild", "(LClockWires$Part;II)V"⟩, prog_5_method_4_code, 4, none, 3),
  (⟨RX3, "setSpread", "(LClockWires$Tree;)V"⟩, prog_5_method_5_code, 5, none, 1),
  (⟨RX3, "arrivalOf", "(LClockWires$Tree;I)I"⟩, prog_5_method_6_code, 3, (some .int), 2),
  (⟨RX3, "delayOf", "(ILClockWires$Part;)J"⟩, prog_5_method_7_code, 2, (some .long), 2),
  (⟨RX3, "movedInto", "(III)I"⟩, prog_5_method_8_code, 3, (some .int), 3),
  (⟨RX4, "<init>", "()V"⟩, prog_6_method_1_code, 1, none, 0),
  (⟨RX4, "bestGraft", "(LClockWires$Tree;I)I"⟩, prog_6_method_2_code, 6, (some .int), 2),
  (⟨RX4, "bestExchange", "(LClockWires$Tree;I)I"⟩, prog_6_method_3_code, 7, (some .int), 2),
  (⟨RX4, "findLeast", "(LClockWires$Tree;)V"⟩, prog_6_method_4_code, 2, none, 1),
  (⟨RX4, "growTrees", "(I)V"⟩, prog_6_method_5_code, 3, none, 1),
  (⟨RX4, "countTree", "(I)V"⟩, prog_6_method_6_code, 2, none, 1),
  (⟨RX5, "<init>", "()V"⟩, prog_7_method_1_code, 1, none, 0),
  (⟨RX5, "append", "(I)V"⟩, prog_7_method_2_code, 2, none, 1),
  (⟨RX5, "parse", "(I)I"⟩, prog_7_method_3_code, 3, (some .int), 1),
  (⟨RX5, "accepts", "(II)Z"⟩, prog_7_method_4_code, 3, (some .boolean), 2),
  (⟨RX5, "opens", "()Z"⟩, prog_7_method_5_code, 1, (some .boolean), 0),
  (⟨RX5, "closes", "()Z"⟩, prog_7_method_6_code, 1, (some .boolean), 0),
  (⟨RX5, "takesSink", "(II)Z"⟩, prog_7_method_7_code, 3, (some .boolean), 2),
  (⟨RX5, "wantsPart", "()Z"⟩, prog_7_method_8_code, 1, (some .boolean), 0),
  (⟨RX5, "addPart", "(I)V"⟩, prog_7_method_9_code, 2, none, 1),
  (⟨RX6, "<init>", "()V"⟩, prog_8_method_1_code, 1, none, 0),
  (⟨RX6, "copyFrom", "(LClockWires$Tree;)V"⟩, prog_8_method_2_code, 2, none, 1),
  (⟨RX6, "hasSink", "(I)Z"⟩, prog_8_method_3_code, 2, (some .boolean), 1),
  (⟨RX6, "hasNode", "(I)Z"⟩, prog_8_method_4_code, 2, (some .boolean), 1),
  (⟨RX6, "isJoint", "(I)Z"⟩, prog_8_method_5_code, 2, (some .boolean), 1),
  (⟨RX6, "isTop", "(I)Z"⟩, prog_8_method_6_code, 2, (some .boolean), 1),
  (⟨RX6, "leftOf", "(I)I"⟩, prog_8_method_7_code, 2, (some .int), 1),
  (⟨RX6, "rightOf", "(I)I"⟩, prog_8_method_8_code, 2, (some .int), 1),
  (⟨RX6, "parentOf", "(I)I"⟩, prog_8_method_9_code, 2, (some .int), 1),
  (⟨RX6, "jointCount", "()I"⟩, prog_8_method_10_code, 3, (some .int), 0),
  (⟨RX6, "sinkAt", "(II)I"⟩, prog_8_method_11_code, 4, (some .int), 2),
  (⟨RX6, "sinkValue", "(II)I"⟩, prog_8_method_12_code, 3, (some .int), 2),
  (⟨RX6, "addSink", "(II)I"⟩, prog_8_method_13_code, 4, (some .int), 2),
  (⟨RX6, "moveSink", "(III)V"⟩, prog_8_method_14_code, 4, none, 3),
  (⟨RX6, "touch", "(I)V"⟩, prog_8_method_15_code, 4, none, 1),
  (⟨RX6, "touchedBefore", "(I)I"⟩, prog_8_method_16_code, 2, (some .int), 1),
  (⟨RX6, "removeJoints", "()V"⟩, prog_8_method_17_code, 2, none, 0),
  (⟨RX6, "freeJoint", "()I"⟩, prog_8_method_18_code, 2, (some .int), 0),
  (⟨RX6, "addJoint", "(II)I"⟩, prog_8_method_19_code, 4, (some .int), 2),
  (⟨RX6, "replaceChild", "(III)V"⟩, prog_8_method_20_code, 4, none, 3),
  (⟨RX6, "isWithin", "(II)Z"⟩, prog_8_method_21_code, 5, (some .boolean), 2),
  (⟨RX6, "canGraft", "(II)Z"⟩, prog_8_method_22_code, 3, (some .boolean), 2),
  (⟨RX6, "graft", "(II)I"⟩, prog_8_method_23_code, 5, (some .int), 2),
  (⟨RX6, "cut", "(I)I"⟩, prog_8_method_24_code, 4, (some .int), 1),
  (⟨RX6, "canExchange", "(II)Z"⟩, prog_8_method_25_code, 5, (some .boolean), 2),
  (⟨RX6, "exchange", "(II)V"⟩, prog_8_method_26_code, 5, none, 2),
  (⟨RX7, "<init>", "()V"⟩, prog_9_method_1_code, 2, none, 0),
  (⟨RX7, "part", "(I)LClockWires$Part;"⟩, prog_9_method_2_code, 2, (some (.object "ClockWires$Part")), 1),
  (⟨RX7, "measure", "(LClockWires$Tree;)V"⟩, prog_9_method_3_code, 7, none, 1),
  (⟨RX7, "listDownward", "(LClockWires$Tree;)V"⟩, prog_9_method_4_code, 4, none, 1),
  (⟨RX7, "list", "(I)V"⟩, prog_9_method_5_code, 2, none, 1),
  (⟨RX7, "nearestPair", "(LClockWires$Tree;)I"⟩, prog_9_method_6_code, 7, (some .int), 1),
  (⟨RX8, "<init>", "()V"⟩, prog_1_method_1_code, 1, none, 0),
  (⟨RX8, "sink", "(II)I"⟩, prog_1_method_2_code, 4, (some .int), 2),
  (⟨RX8, "moves", "(III)I"⟩, prog_1_method_3_code, 6, (some .int), 3),
  (⟨RX8, "sets", "(III)I"⟩, prog_1_method_4_code, 5, (some .int), 3),
  (⟨RX8, "skew", "(I)I"⟩, prog_1_method_5_code, 3, (some .int), 1),
  (⟨RX8, "source", "(II)I"⟩, prog_1_method_6_code, 4, (some .int), 2),
  (⟨RX8, "end", "(II)I"⟩, prog_1_method_7_code, 3, (some .int), 2),
  (⟨RX8, "touched", "(I)I"⟩, prog_1_method_8_code, 2, (some .int), 1),
  (⟨RX8, "at", "(II)I"⟩, prog_1_method_9_code, 3, (some .int), 2),
  (⟨RX8, "joins", "(II)I"⟩, prog_1_method_10_code, 4, (some .int), 2),
  (⟨RX8, "pairs", "()I"⟩, prog_1_method_11_code, 4, (some .int), 0),
  (⟨RX8, "frees", "()I"⟩, prog_1_method_12_code, 2, (some .int), 0),
  (⟨RX8, "cuts", "(I)I"⟩, prog_1_method_13_code, 3, (some .int), 1),
  (⟨RX8, "grafts", "(II)I"⟩, prog_1_method_14_code, 5, (some .int), 2),
  (⟨RX8, "exchanges", "(II)I"⟩, prog_1_method_15_code, 3, (some .int), 2),
  (⟨RX8, "betters", "()I"⟩, prog_1_method_16_code, 2, (some .int), 0),
  (⟨RX8, "node", "(II)I"⟩, prog_1_method_17_code, 3, (some .int), 2),
  (⟨RX8, "would", "(III)I"⟩, prog_1_method_18_code, 5, (some .int), 3),
  (⟨RX8, "nearest", "()I"⟩, prog_1_method_19_code, 1, (some .int), 0),
  (⟨RX8, "tops", "()I"⟩, prog_1_method_20_code, 1, (some .int), 0),
  (⟨RX8, "least", "(I)I"⟩, prog_1_method_21_code, 2, (some .int), 1),
  (⟨RX8, "place", "(II)I"⟩, prog_1_method_22_code, 3, (some .int), 2),
  (⟨RX8, "arrival", "(I)I"⟩, prog_1_method_23_code, 2, (some .int), 1),
  (⟨RX8, "slow", "(I)J"⟩, prog_1_method_24_code, 2, (some .long), 1),
  (⟨RX8, "total", "(I)I"⟩, prog_1_method_25_code, 2, (some .int), 1),
  (⟨RX8, "type", "(I)I"⟩, prog_1_method_26_code, 2, (some .int), 1),
  (⟨RX8, "clear", "()I"⟩, prog_1_method_27_code, 2, (some .int), 0),
  (⟨RX8, "builds", "()I"⟩, prog_1_method_28_code, 3, (some .int), 0),
  (⟨RX8, "shown", "(II)I"⟩, prog_1_method_29_code, 3, (some .int), 2),
  (⟨RX8, "back", "()I"⟩, prog_1_method_30_code, 1, (some .int), 0),
  (⟨RX8, "told", "(I)I"⟩, prog_1_method_31_code, 2, (some .int), 1),
  (⟨RX8, "digest", "()J"⟩, prog_1_method_32_code, 5, (some .long), 0),
  (⟨RX8, "refuse", "(I)I"⟩, prog_1_method_33_code, 2, (some .int), 1),
  (⟨RX8, "refresh", "()V"⟩, prog_1_method_34_code, 1, none, 0),
  (⟨RX8, "exchangeAndCompare", "(II)I"⟩, prog_1_method_35_code, 4, (some .int), 2),
  (⟨RX8, "nodeValue", "(II)I"⟩, prog_1_method_36_code, 4, (some .int), 2),
  (⟨RX8, "totalValue", "(I)I"⟩, prog_1_method_37_code, 2, (some .int), 1),
  (⟨RX8, "toldValue", "(I)I"⟩, prog_1_method_38_code, 2, (some .int), 1),
  (⟨RX8, "shownByte", "(II)I"⟩, prog_1_method_39_code, 8, (some .int), 2),
  (⟨RX8, "shownLength", "(I)I"⟩, prog_1_method_40_code, 2, (some .int), 1),
  (⟨RX8, "isOnGrid", "(II)Z"⟩, prog_1_method_41_code, 2, (some .boolean), 2),
  (⟨RX8, "isSetting", "(II)Z"⟩, prog_1_method_42_code, 2, (some .boolean), 2),
  (⟨RX8, "gridDistance", "(IIII)I"⟩, prog_1_method_43_code, 4, (some .int), 4),
  (⟨RX8, "distance", "(IIII)I"⟩, prog_1_method_44_code, 4, (some .int), 4),
  (⟨RX9, "<init>", "()V"⟩, prog_11_method_1_code, 1, none, 0),
  (⟨RX9, "bad", "()I"⟩, prog_11_method_2_code, 1, (some .int), 0),
  (⟨RX9, "no", "()I"⟩, prog_11_method_3_code, 1, (some .int), 0),
  (⟨RX9, "full", "()I"⟩, prog_11_method_4_code, 1, (some .int), 0),
  (⟨RX9, "in", "(III)Z"⟩, prog_11_method_5_code, 3, (some .boolean), 3),
  (⟨RX9, "greater", "(II)I"⟩, prog_11_method_6_code, 2, (some .int), 2),
  (⟨RX9, "lesser", "(II)I"⟩, prog_11_method_7_code, 2, (some .int), 2),
  (⟨RX9, "size", "(I)I"⟩, prog_11_method_8_code, 1, (some .int), 1),
  (⟨RX9, "isSink", "(I)Z"⟩, prog_11_method_9_code, 2, (some .boolean), 1),
  (⟨RX9, "isNode", "(I)Z"⟩, prog_11_method_10_code, 2, (some .boolean), 1),
  (⟨RX9, "isSpot", "(II)Z"⟩, prog_11_method_11_code, 2, (some .boolean), 2),
  (⟨RX9, "isTop", "(I)Z"⟩, prog_11_method_12_code, 2, (some .boolean), 1),
  (⟨RX9, "topMany", "()I"⟩, prog_11_method_13_code, 3, (some .int), 0),
  (⟨RX9, "isWithin", "(II)Z"⟩, prog_11_method_14_code, 4, (some .boolean), 2),
  (⟨RX9, "replaces", "(II)V"⟩, prog_11_method_15_code, 4, none, 2),
  (⟨RX9, "comes", "()I"⟩, prog_11_method_16_code, 2, (some .int), 0),
  (⟨RX9, "lays", "(II)I"⟩, prog_11_method_17_code, 4, (some .int), 2),
  (⟨RX9, "goes", "(I)V"⟩, prog_11_method_18_code, 2, none, 1),
  (⟨RX9, "takesOff", "(I)I"⟩, prog_11_method_19_code, 4, (some .int), 1),
  (⟨RX9, "canExchange", "(II)Z"⟩, prog_11_method_20_code, 3, (some .boolean), 2),
  (⟨RX9, "swaps", "(II)V"⟩, prog_11_method_21_code, 7, none, 2),
  (⟨RX9, "noJoints", "()I"⟩, prog_11_method_22_code, 3, (some .int), 0),
  (⟨RX9, "laysAside", "()V"⟩, prog_11_method_23_code, 2, none, 0),
  (⟨RX9, "takesBack", "()V"⟩, prog_11_method_24_code, 2, none, 0),
  (⟨RX9, "leavesState", "()V"⟩, prog_11_method_25_code, 3, none, 0),
  (⟨RX9, "back", "()I"⟩, prog_11_method_26_code, 4, (some .int), 0),
  (⟨RX9, "reckons", "(II)V"⟩, prog_11_method_27_code, 10, none, 2),
  (⟨RX9, "tellsSink", "(I)V"⟩, prog_11_method_28_code, 4, none, 1),
  (⟨RX9, "tellsJoint", "(I)V"⟩, prog_11_method_29_code, 4, none, 1),
  (⟨RX9, "tellsAll", "()V"⟩, prog_11_method_30_code, 3, none, 0),
  (⟨RX9, "costOfAll", "()I"⟩, prog_11_method_31_code, 3, (some .int), 0),
  (⟨RX9, "into", "(III)I"⟩, prog_11_method_32_code, 3, (some .int), 3),
  (⟨RX9, "settles", "(III)V"⟩, prog_11_method_33_code, 4, none, 3),
  (⟨RX9, "areLaid", "()Z"⟩, prog_11_method_34_code, 3, (some .boolean), 0),
  (⟨RX9, "trunk", "()I"⟩, prog_11_method_35_code, 3, (some .int), 0),
  (⟨RX9, "loop", "(I)I"⟩, prog_11_method_36_code, 5, (some .int), 1),
  (⟨RX9, "arrives", "(I)I"⟩, prog_11_method_37_code, 4, (some .int), 1),
  (⟨RX9, "isAt", "(II)I"⟩, prog_11_method_38_code, 4, (some .int), 2),
  (⟨RX9, "touches", "(I)V"⟩, prog_11_method_39_code, 4, none, 1),
  (⟨RX9, "apart", "(IIII)I"⟩, prog_11_method_40_code, 4, (some .int), 4),
  (⟨RX9, "sink", "(II)I"⟩, prog_11_method_41_code, 4, (some .int), 2),
  (⟨RX9, "moves", "(III)I"⟩, prog_11_method_42_code, 6, (some .int), 3),
  (⟨RX9, "sets", "(III)I"⟩, prog_11_method_43_code, 5, (some .int), 3),
  (⟨RX9, "skew", "(I)I"⟩, prog_11_method_44_code, 3, (some .int), 1),
  (⟨RX9, "source", "(II)I"⟩, prog_11_method_45_code, 4, (some .int), 2),
  (⟨RX9, "end", "(II)I"⟩, prog_11_method_46_code, 3, (some .int), 2),
  (⟨RX9, "touched", "(I)I"⟩, prog_11_method_47_code, 2, (some .int), 1),
  (⟨RX9, "at", "(II)I"⟩, prog_11_method_48_code, 3, (some .int), 2),
  (⟨RX9, "joins", "(II)I"⟩, prog_11_method_49_code, 3, (some .int), 2),
  (⟨RX9, "findsPair", "()I"⟩, prog_11_method_50_code, 4, (some .int), 0),
  (⟨RX9, "pairs", "()I"⟩, prog_11_method_51_code, 4, (some .int), 0),
  (⟨RX9, "frees", "()I"⟩, prog_11_method_52_code, 1, (some .int), 0),
  (⟨RX9, "cuts", "(I)I"⟩, prog_11_method_53_code, 2, (some .int), 1),
  (⟨RX9, "bestFor", "(I)I"⟩, prog_11_method_54_code, 7, (some .int), 1),
  (⟨RX9, "grafts", "(II)I"⟩, prog_11_method_55_code, 4, (some .int), 2),
  (⟨RX9, "exchanges", "(II)I"⟩, prog_11_method_56_code, 4, (some .int), 2),
  (⟨RX9, "betters", "()I"⟩, prog_11_method_57_code, 8, (some .int), 0),
  (⟨RX9, "about", "(II)I"⟩, prog_11_method_58_code, 3, (some .int), 2),
  (⟨RX9, "node", "(II)I"⟩, prog_11_method_59_code, 3, (some .int), 2),
  (⟨RX9, "would", "(III)I"⟩, prog_11_method_60_code, 4, (some .int), 3),
  (⟨RX9, "nearest", "()I"⟩, prog_11_method_61_code, 1, (some .int), 0),
  (⟨RX9, "tops", "()I"⟩, prog_11_method_62_code, 1, (some .int), 0),
  (⟨RX9, "growsBy", "(I)V"⟩, prog_11_method_63_code, 8, none, 1),
  (⟨RX9, "least", "(I)I"⟩, prog_11_method_64_code, 7, (some .int), 1),
  (⟨RX9, "place", "(II)I"⟩, prog_11_method_65_code, 3, (some .int), 2),
  (⟨RX9, "arrival", "(I)I"⟩, prog_11_method_66_code, 2, (some .int), 1),
  (⟨RX9, "below", "(I)J"⟩, prog_11_method_67_code, 5, (some .long), 1),
  (⟨RX9, "slow", "(I)J"⟩, prog_11_method_68_code, 7, (some .long), 1),
  (⟨RX9, "loops", "(Z)I"⟩, prog_11_method_69_code, 5, (some .int), 1),
  (⟨RX9, "spread", "()I"⟩, prog_11_method_70_code, 4, (some .int), 0),
  (⟨RX9, "totalBy", "(I)I"⟩, prog_11_method_71_code, 2, (some .int), 1),
  (⟨RX9, "total", "(I)I"⟩, prog_11_method_72_code, 2, (some .int), 1),
  (⟨RX9, "type", "(I)I"⟩, prog_11_method_73_code, 2, (some .int), 1),
  (⟨RX9, "clear", "()I"⟩, prog_11_method_74_code, 2, (some .int), 0),
  (⟨RX9, "here", "()I"⟩, prog_11_method_75_code, 1, (some .int), 0),
  (⟨RX9, "tells", "(I)V"⟩, prog_11_method_76_code, 2, none, 1),
  (⟨RX9, "reads", "(Z)Z"⟩, prog_11_method_77_code, 6, (some .boolean), 1),
  (⟨RX9, "readsAll", "(Z)Z"⟩, prog_11_method_78_code, 3, (some .boolean), 1),
  (⟨RX9, "builds", "()I"⟩, prog_11_method_79_code, 4, (some .int), 0),
  (⟨RX9, "byteOf", "(II)I"⟩, prog_11_method_80_code, 8, (some .int), 2),
  (⟨RX9, "shown", "(II)I"⟩, prog_11_method_81_code, 3, (some .int), 2),
  (⟨RX9, "toldBy", "(I)I"⟩, prog_11_method_82_code, 2, (some .int), 1),
  (⟨RX9, "jointMany", "()I"⟩, prog_11_method_83_code, 3, (some .int), 0),
  (⟨RX9, "told", "(I)I"⟩, prog_11_method_84_code, 2, (some .int), 1),
  (⟨RX9, "digest", "()J"⟩, prog_11_method_85_code, 5, (some .long), 0)]
def cw_md : cw_MT := (⟨"", "", ""⟩, ByteArray.empty, 0, none, 0)
def cw_m (M : Nat) : cw_MT := cw_ml.getD M cw_md
def cw_y (M : Nat) : MethodName := (cw_m M).1
def cw_b (M : Nat) : ByteArray := (cw_m M).2.1
def cw_mx (M : Nat) : Nat := (cw_m M).2.2.1
def cw_rt (M : Nat) : Option FieldType := (cw_m M).2.2.2.1
def cw_np (M : Nat) : Nat := (cw_m M).2.2.2.2
theorem cw_m_mem {M : Nat} (h : M < 195) : cw_m M ∈ cw_ml := by
  unfold cw_m
  have h2 : M < cw_ml.length := h
  rw [List.getD_eq_getElem?_getD, List.getElem?_eq_getElem h2]
  exact List.getElem_mem h2
set_option maxRecDepth 20000 in
theorem cw_cd0 : Cond.code ⟨RX0, "<init>", "()V"⟩ prog_2_method_1_code 2 none ∈ cw_t := cw_t_in (List.mem_of_getElem? (i := 358) rfl) rfl
set_option maxRecDepth 20000 in
theorem cw_cd1 : Cond.code ⟨RX0, "save", "(LClockWires$Tree;)V"⟩ prog_2_method_2_code 2 none ∈ cw_t := cw_t_in (List.mem_of_getElem? (i := 581) rfl) rfl
set_option maxRecDepth 20000 in
theorem cw_cd2 : Cond.code ⟨RX0, "restore", "(LClockWires$Tree;)V"⟩ prog_2_method_3_code 2 none ∈ cw_t := cw_t_in (List.mem_of_getElem? (i := 874) rfl) rfl
set_option maxRecDepth 20000 in
theorem cw_cd3 : Cond.code ⟨RX1, "<init>", "()V"⟩ prog_3_method_1_code 1 none ∈ cw_t := cw_t_in (List.mem_of_getElem? (i := 229) rfl) rfl
set_option maxRecDepth 20000 in
theorem cw_cd4 : Cond.code ⟨RX1, "weigh", "(LClockWires$Part;LClockWires$Part;I)V"⟩ prog_3_method_2_code 5 none ∈ cw_t := cw_t_in (List.mem_of_getElem? (i := 459) rfl) rfl
set_option maxRecDepth 20000 in
theorem cw_cd5 : Cond.code ⟨RX1, "gapBetween", "(LClockWires$Part;LClockWires$Part;)I"⟩ prog_3_method_3_code 5 (some .int) ∈ cw_t := cw_t_in (List.mem_of_getElem? (i := 463) rfl) rfl
set_option maxRecDepth 20000 in
theorem cw_cd6 : Cond.code ⟨RX1, "leadOf", "(LClockWires$Part;LClockWires$Part;I)I"⟩ prog_3_method_4_code 5 (some .int) ∈ cw_t := cw_t_in (List.mem_of_getElem? (i := 470) rfl) rfl
set_option maxRecDepth 20000 in
theorem cw_cd7 : Cond.code ⟨RX1, "join", "(LClockWires$Part;LClockWires$Part;LClockWires$Part;)V"⟩ prog_3_method_5_code 4 none ∈ cw_t := cw_t_in (List.mem_of_getElem? (i := 478) rfl) rfl
set_option maxRecDepth 20000 in
theorem cw_cd8 : Cond.code ⟨RX2, "<init>", "()V"⟩ prog_4_method_1_code 1 none ∈ cw_t := cw_t_in (List.mem_of_getElem? (i := 167) rfl) rfl
set_option maxRecDepth 20000 in
theorem cw_cd9 : Cond.code ⟨RX2, "setSink", "(LClockWires$Tree;I)V"⟩ prog_4_method_2_code 3 none ∈ cw_t := cw_t_in (List.mem_of_getElem? (i := 482) rfl) rfl
set_option maxRecDepth 20000 in
theorem cw_cd10 : Cond.code ⟨RX2, "capacity", "()J"⟩ prog_4_method_3_code 1 (some .long) ∈ cw_t := cw_t_in (List.mem_of_getElem? (i := 516) rfl) rfl
set_option maxRecDepth 20000 in
theorem cw_cd11 : Cond.code ⟨RX3, "<init>", "()V"⟩ prog_5_method_1_code 1 none ∈ cw_t := cw_t_in (List.mem_of_getElem? (i := 282) rfl) rfl
set_option maxRecDepth 20000 in
theorem cw_cd12 : Cond.code ⟨RX3, "embed", "(LClockWires$Tree;LClockWires$Wires;)V"⟩ prog_5_method_2_code 5 none ∈ cw_t := cw_t_in (List.mem_of_getElem? (i := 491) rfl) rfl
set_option maxRecDepth 20000 in
theorem cw_cd13 : Cond.code ⟨RX3, "setTop", "(LClockWires$Tree;LClockWires$Wires;I)V"⟩ prog_5_method_3_code 7 none ∈ cw_t := cw_t_in (List.mem_of_getElem? (i := 495) rfl) rfl
set_option maxRecDepth 20000 in
theorem cw_cd14 : Cond.code ⟨RX3, "setChild", "(LClockWires$Part;II)V"⟩ prog_5_method_4_code 4 none ∈ cw_t := cw_t_in (List.mem_of_getElem? (i := 525) rfl) rfl
set_option maxRecDepth 20000 in
theorem cw_cd15 : Cond.code ⟨RX3, "setSpread", "(LClockWires$Tree;)V"⟩ prog_5_method_5_code 5 none ∈ cw_t := cw_t_in (List.mem_of_getElem? (i := 529) rfl) rfl
set_option maxRecDepth 20000 in
theorem cw_cd16 : Cond.code ⟨RX3, "arrivalOf", "(LClockWires$Tree;I)I"⟩ prog_5_method_6_code 3 (some .int) ∈ cw_t := cw_t_in (List.mem_of_getElem? (i := 533) rfl) rfl
set_option maxRecDepth 20000 in
theorem cw_cd17 : Cond.code ⟨RX3, "delayOf", "(ILClockWires$Part;)J"⟩ prog_5_method_7_code 2 (some .long) ∈ cw_t := cw_t_in (List.mem_of_getElem? (i := 511) rfl) rfl
set_option maxRecDepth 20000 in
theorem cw_cd18 : Cond.code ⟨RX3, "movedInto", "(III)I"⟩ prog_5_method_8_code 3 (some .int) ∈ cw_t := cw_t_in (List.mem_of_getElem? (i := 501) rfl) rfl
set_option maxRecDepth 20000 in
theorem cw_cd19 : Cond.code ⟨RX4, "<init>", "()V"⟩ prog_6_method_1_code 1 none ∈ cw_t := cw_t_in (List.mem_of_getElem? (i := 329) rfl) rfl
set_option maxRecDepth 20000 in
theorem cw_cd20 : Cond.code ⟨RX4, "bestGraft", "(LClockWires$Tree;I)I"⟩ prog_6_method_2_code 6 (some .int) ∈ cw_t := cw_t_in (List.mem_of_getElem? (i := 701) rfl) rfl
set_option maxRecDepth 20000 in
theorem cw_cd21 : Cond.code ⟨RX4, "bestExchange", "(LClockWires$Tree;I)I"⟩ prog_6_method_3_code 7 (some .int) ∈ cw_t := cw_t_in (List.mem_of_getElem? (i := 744) rfl) rfl
set_option maxRecDepth 20000 in
theorem cw_cd22 : Cond.code ⟨RX4, "findLeast", "(LClockWires$Tree;)V"⟩ prog_6_method_4_code 2 none ∈ cw_t := cw_t_in (List.mem_of_getElem? (i := 779) rfl) rfl
set_option maxRecDepth 20000 in
theorem cw_cd23 : Cond.code ⟨RX4, "growTrees", "(I)V"⟩ prog_6_method_5_code 3 none ∈ cw_t := cw_t_in (List.mem_of_getElem? (i := 784) rfl) rfl
set_option maxRecDepth 20000 in
theorem cw_cd24 : Cond.code ⟨RX4, "countTree", "(I)V"⟩ prog_6_method_6_code 2 none ∈ cw_t := cw_t_in (List.mem_of_getElem? (i := 788) rfl) rfl
set_option maxRecDepth 20000 in
theorem cw_cd25 : Cond.code ⟨RX5, "<init>", "()V"⟩ prog_7_method_1_code 1 none ∈ cw_t := cw_t_in (List.mem_of_getElem? (i := 378) rfl) rfl
set_option maxRecDepth 20000 in
theorem cw_cd26 : Cond.code ⟨RX5, "append", "(I)V"⟩ prog_7_method_2_code 2 none ∈ cw_t := cw_t_in (List.mem_of_getElem? (i := 818) rfl) rfl
set_option maxRecDepth 20000 in
theorem cw_cd27 : Cond.code ⟨RX5, "parse", "(I)I"⟩ prog_7_method_3_code 3 (some .int) ∈ cw_t := cw_t_in (List.mem_of_getElem? (i := 830) rfl) rfl
set_option maxRecDepth 20000 in
theorem cw_cd28 : Cond.code ⟨RX5, "accepts", "(II)Z"⟩ prog_7_method_4_code 3 (some .boolean) ∈ cw_t := cw_t_in (List.mem_of_getElem? (i := 834) rfl) rfl
set_option maxRecDepth 20000 in
theorem cw_cd29 : Cond.code ⟨RX5, "opens", "()Z"⟩ prog_7_method_5_code 1 (some .boolean) ∈ cw_t := cw_t_in (List.mem_of_getElem? (i := 838) rfl) rfl
set_option maxRecDepth 20000 in
theorem cw_cd30 : Cond.code ⟨RX5, "closes", "()Z"⟩ prog_7_method_6_code 1 (some .boolean) ∈ cw_t := cw_t_in (List.mem_of_getElem? (i := 846) rfl) rfl
set_option maxRecDepth 20000 in
theorem cw_cd31 : Cond.code ⟨RX5, "takesSink", "(II)Z"⟩ prog_7_method_7_code 3 (some .boolean) ∈ cw_t := cw_t_in (List.mem_of_getElem? (i := 854) rfl) rfl
set_option maxRecDepth 20000 in
theorem cw_cd32 : Cond.code ⟨RX5, "wantsPart", "()Z"⟩ prog_7_method_8_code 1 (some .boolean) ∈ cw_t := cw_t_in (List.mem_of_getElem? (i := 842) rfl) rfl
set_option maxRecDepth 20000 in
theorem cw_cd33 : Cond.code ⟨RX5, "addPart", "(I)V"⟩ prog_7_method_9_code 2 none ∈ cw_t := cw_t_in (List.mem_of_getElem? (i := 850) rfl) rfl
set_option maxRecDepth 20000 in
theorem cw_cd34 : Cond.code ⟨RX6, "<init>", "()V"⟩ prog_8_method_1_code 1 none ∈ cw_t := cw_t_in (List.mem_of_getElem? (i := 94) rfl) rfl
set_option maxRecDepth 20000 in
theorem cw_cd35 : Cond.code ⟨RX6, "copyFrom", "(LClockWires$Tree;)V"⟩ prog_8_method_2_code 2 none ∈ cw_t := cw_t_in (List.mem_of_getElem? (i := 585) rfl) rfl
set_option maxRecDepth 20000 in
theorem cw_cd36 : Cond.code ⟨RX6, "hasSink", "(I)Z"⟩ prog_8_method_3_code 2 (some .boolean) ∈ cw_t := cw_t_in (List.mem_of_getElem? (i := 486) rfl) rfl
set_option maxRecDepth 20000 in
theorem cw_cd37 : Cond.code ⟨RX6, "hasNode", "(I)Z"⟩ prog_8_method_4_code 2 (some .boolean) ∈ cw_t := cw_t_in (List.mem_of_getElem? (i := 431) rfl) rfl
set_option maxRecDepth 20000 in
theorem cw_cd38 : Cond.code ⟨RX6, "isJoint", "(I)Z"⟩ prog_8_method_5_code 2 (some .boolean) ∈ cw_t := cw_t_in (List.mem_of_getElem? (i := 439) rfl) rfl
set_option maxRecDepth 20000 in
theorem cw_cd39 : Cond.code ⟨RX6, "isTop", "(I)Z"⟩ prog_8_method_6_code 2 (some .boolean) ∈ cw_t := cw_t_in (List.mem_of_getElem? (i := 427) rfl) rfl
set_option maxRecDepth 20000 in
theorem cw_cd40 : Cond.code ⟨RX6, "leftOf", "(I)I"⟩ prog_8_method_7_code 2 (some .int) ∈ cw_t := cw_t_in (List.mem_of_getElem? (i := 443) rfl) rfl
set_option maxRecDepth 20000 in
theorem cw_cd41 : Cond.code ⟨RX6, "rightOf", "(I)I"⟩ prog_8_method_8_code 2 (some .int) ∈ cw_t := cw_t_in (List.mem_of_getElem? (i := 447) rfl) rfl
set_option maxRecDepth 20000 in
theorem cw_cd42 : Cond.code ⟨RX6, "parentOf", "(I)I"⟩ prog_8_method_9_code 2 (some .int) ∈ cw_t := cw_t_in (List.mem_of_getElem? (i := 521) rfl) rfl
set_option maxRecDepth 20000 in
theorem cw_cd43 : Cond.code ⟨RX6, "jointCount", "()I"⟩ prog_8_method_10_code 3 (some .int) ∈ cw_t := cw_t_in (List.mem_of_getElem? (i := 679) rfl) rfl
set_option maxRecDepth 20000 in
theorem cw_cd44 : Cond.code ⟨RX6, "sinkAt", "(II)I"⟩ prog_8_method_11_code 4 (some .int) ∈ cw_t := cw_t_in (List.mem_of_getElem? (i := 577) rfl) rfl
set_option maxRecDepth 20000 in
theorem cw_cd45 : Cond.code ⟨RX6, "sinkValue", "(II)I"⟩ prog_8_method_12_code 3 (some .int) ∈ cw_t := cw_t_in (List.mem_of_getElem? (i := 636) rfl) rfl
set_option maxRecDepth 20000 in
theorem cw_cd46 : Cond.code ⟨RX6, "addSink", "(II)I"⟩ prog_8_method_13_code 4 (some .int) ∈ cw_t := cw_t_in (List.mem_of_getElem? (i := 593) rfl) rfl
set_option maxRecDepth 20000 in
theorem cw_cd47 : Cond.code ⟨RX6, "moveSink", "(III)V"⟩ prog_8_method_14_code 4 none ∈ cw_t := cw_t_in (List.mem_of_getElem? (i := 611) rfl) rfl
set_option maxRecDepth 20000 in
theorem cw_cd48 : Cond.code ⟨RX6, "touch", "(I)V"⟩ prog_8_method_15_code 4 none ∈ cw_t := cw_t_in (List.mem_of_getElem? (i := 597) rfl) rfl
set_option maxRecDepth 20000 in
theorem cw_cd49 : Cond.code ⟨RX6, "touchedBefore", "(I)I"⟩ prog_8_method_16_code 2 (some .int) ∈ cw_t := cw_t_in (List.mem_of_getElem? (i := 644) rfl) rfl
set_option maxRecDepth 20000 in
theorem cw_cd50 : Cond.code ⟨RX6, "removeJoints", "()V"⟩ prog_8_method_17_code 2 none ∈ cw_t := cw_t_in (List.mem_of_getElem? (i := 99) rfl) rfl
set_option maxRecDepth 20000 in
theorem cw_cd51 : Cond.code ⟨RX6, "freeJoint", "()I"⟩ prog_8_method_18_code 2 (some .int) ∈ cw_t := cw_t_in (List.mem_of_getElem? (i := 662) rfl) rfl
set_option maxRecDepth 20000 in
theorem cw_cd52 : Cond.code ⟨RX6, "addJoint", "(II)I"⟩ prog_8_method_19_code 4 (some .int) ∈ cw_t := cw_t_in (List.mem_of_getElem? (i := 658) rfl) rfl
set_option maxRecDepth 20000 in
theorem cw_cd53 : Cond.code ⟨RX6, "replaceChild", "(III)V"⟩ prog_8_method_20_code 4 none ∈ cw_t := cw_t_in (List.mem_of_getElem? (i := 693) rfl) rfl
set_option maxRecDepth 20000 in
theorem cw_cd54 : Cond.code ⟨RX6, "isWithin", "(II)Z"⟩ prog_8_method_21_code 5 (some .boolean) ∈ cw_t := cw_t_in (List.mem_of_getElem? (i := 711) rfl) rfl
set_option maxRecDepth 20000 in
theorem cw_cd55 : Cond.code ⟨RX6, "canGraft", "(II)Z"⟩ prog_8_method_22_code 3 (some .boolean) ∈ cw_t := cw_t_in (List.mem_of_getElem? (i := 706) rfl) rfl
set_option maxRecDepth 20000 in
theorem cw_cd56 : Cond.code ⟨RX6, "graft", "(II)I"⟩ prog_8_method_23_code 5 (some .int) ∈ cw_t := cw_t_in (List.mem_of_getElem? (i := 715) rfl) rfl
set_option maxRecDepth 20000 in
theorem cw_cd57 : Cond.code ⟨RX6, "cut", "(I)I"⟩ prog_8_method_24_code 4 (some .int) ∈ cw_t := cw_t_in (List.mem_of_getElem? (i := 688) rfl) rfl
set_option maxRecDepth 20000 in
theorem cw_cd58 : Cond.code ⟨RX6, "canExchange", "(II)Z"⟩ prog_8_method_25_code 5 (some .boolean) ∈ cw_t := cw_t_in (List.mem_of_getElem? (i := 728) rfl) rfl
set_option maxRecDepth 20000 in
theorem cw_cd59 : Cond.code ⟨RX6, "exchange", "(II)V"⟩ prog_8_method_26_code 5 none ∈ cw_t := cw_t_in (List.mem_of_getElem? (i := 736) rfl) rfl
set_option maxRecDepth 20000 in
theorem cw_cd60 : Cond.code ⟨RX7, "<init>", "()V"⟩ prog_9_method_1_code 2 none ∈ cw_t := cw_t_in (List.mem_of_getElem? (i := 160) rfl) rfl
set_option maxRecDepth 20000 in
theorem cw_cd61 : Cond.code ⟨RX7, "part", "(I)LClockWires$Part;"⟩ prog_9_method_2_code 2 (some (.object "ClockWires$Part")) ∈ cw_t := cw_t_in (List.mem_of_getElem? (i := 455) rfl) rfl
set_option maxRecDepth 20000 in
theorem cw_cd62 : Cond.code ⟨RX7, "measure", "(LClockWires$Tree;)V"⟩ prog_9_method_3_code 7 none ∈ cw_t := cw_t_in (List.mem_of_getElem? (i := 419) rfl) rfl
set_option maxRecDepth 20000 in
theorem cw_cd63 : Cond.code ⟨RX7, "listDownward", "(LClockWires$Tree;)V"⟩ prog_9_method_4_code 4 none ∈ cw_t := cw_t_in (List.mem_of_getElem? (i := 423) rfl) rfl
set_option maxRecDepth 20000 in
theorem cw_cd64 : Cond.code ⟨RX7, "list", "(I)V"⟩ prog_9_method_5_code 2 none ∈ cw_t := cw_t_in (List.mem_of_getElem? (i := 435) rfl) rfl
set_option maxRecDepth 20000 in
theorem cw_cd65 : Cond.code ⟨RX7, "nearestPair", "(LClockWires$Tree;)I"⟩ prog_9_method_6_code 7 (some .int) ∈ cw_t := cw_t_in (List.mem_of_getElem? (i := 671) rfl) rfl
set_option maxRecDepth 20000 in
theorem cw_cd66 : Cond.code ⟨RX8, "<init>", "()V"⟩ prog_1_method_1_code 1 none ∈ cw_t := cw_t_in (List.mem_of_getElem? (i := 86) rfl) rfl
set_option maxRecDepth 20000 in
theorem cw_cd67 : Cond.code ⟨RX8, "sink", "(II)I"⟩ prog_1_method_2_code 4 (some .int) ∈ cw_t := cw_t_in (List.mem_of_getElem? (i := 566) rfl) rfl
set_option maxRecDepth 20000 in
theorem cw_cd68 : Cond.code ⟨RX8, "moves", "(III)I"⟩ prog_1_method_3_code 6 (some .int) ∈ cw_t := cw_t_in (List.mem_of_getElem? (i := 601) rfl) rfl
set_option maxRecDepth 20000 in
theorem cw_cd69 : Cond.code ⟨RX8, "sets", "(III)I"⟩ prog_1_method_4_code 5 (some .int) ∈ cw_t := cw_t_in (List.mem_of_getElem? (i := 616) rfl) rfl
set_option maxRecDepth 20000 in
theorem cw_cd70 : Cond.code ⟨RX8, "skew", "(I)I"⟩ prog_1_method_5_code 3 (some .int) ∈ cw_t := cw_t_in (List.mem_of_getElem? (i := 624) rfl) rfl
set_option maxRecDepth 20000 in
theorem cw_cd71 : Cond.code ⟨RX8, "source", "(II)I"⟩ prog_1_method_6_code 4 (some .int) ∈ cw_t := cw_t_in (List.mem_of_getElem? (i := 628) rfl) rfl
set_option maxRecDepth 20000 in
theorem cw_cd72 : Cond.code ⟨RX8, "end", "(II)I"⟩ prog_1_method_7_code 3 (some .int) ∈ cw_t := cw_t_in (List.mem_of_getElem? (i := 632) rfl) rfl
set_option maxRecDepth 20000 in
theorem cw_cd73 : Cond.code ⟨RX8, "touched", "(I)I"⟩ prog_1_method_8_code 2 (some .int) ∈ cw_t := cw_t_in (List.mem_of_getElem? (i := 640) rfl) rfl
set_option maxRecDepth 20000 in
theorem cw_cd74 : Cond.code ⟨RX8, "at", "(II)I"⟩ prog_1_method_9_code 3 (some .int) ∈ cw_t := cw_t_in (List.mem_of_getElem? (i := 648) rfl) rfl
set_option maxRecDepth 20000 in
theorem cw_cd75 : Cond.code ⟨RX8, "joins", "(II)I"⟩ prog_1_method_10_code 4 (some .int) ∈ cw_t := cw_t_in (List.mem_of_getElem? (i := 652) rfl) rfl
set_option maxRecDepth 20000 in
theorem cw_cd76 : Cond.code ⟨RX8, "pairs", "()I"⟩ prog_1_method_11_code 4 (some .int) ∈ cw_t := cw_t_in (List.mem_of_getElem? (i := 667) rfl) rfl
set_option maxRecDepth 20000 in
theorem cw_cd77 : Cond.code ⟨RX8, "frees", "()I"⟩ prog_1_method_12_code 2 (some .int) ∈ cw_t := cw_t_in (List.mem_of_getElem? (i := 675) rfl) rfl
set_option maxRecDepth 20000 in
theorem cw_cd78 : Cond.code ⟨RX8, "cuts", "(I)I"⟩ prog_1_method_13_code 3 (some .int) ∈ cw_t := cw_t_in (List.mem_of_getElem? (i := 684) rfl) rfl
set_option maxRecDepth 20000 in
theorem cw_cd79 : Cond.code ⟨RX8, "grafts", "(II)I"⟩ prog_1_method_14_code 5 (some .int) ∈ cw_t := cw_t_in (List.mem_of_getElem? (i := 697) rfl) rfl
set_option maxRecDepth 20000 in
theorem cw_cd80 : Cond.code ⟨RX8, "exchanges", "(II)I"⟩ prog_1_method_15_code 3 (some .int) ∈ cw_t := cw_t_in (List.mem_of_getElem? (i := 724) rfl) rfl
set_option maxRecDepth 20000 in
theorem cw_cd81 : Cond.code ⟨RX8, "betters", "()I"⟩ prog_1_method_16_code 2 (some .int) ∈ cw_t := cw_t_in (List.mem_of_getElem? (i := 740) rfl) rfl
set_option maxRecDepth 20000 in
theorem cw_cd82 : Cond.code ⟨RX8, "node", "(II)I"⟩ prog_1_method_17_code 3 (some .int) ∈ cw_t := cw_t_in (List.mem_of_getElem? (i := 750) rfl) rfl
set_option maxRecDepth 20000 in
theorem cw_cd83 : Cond.code ⟨RX8, "would", "(III)I"⟩ prog_1_method_18_code 5 (some .int) ∈ cw_t := cw_t_in (List.mem_of_getElem? (i := 762) rfl) rfl
set_option maxRecDepth 20000 in
theorem cw_cd84 : Cond.code ⟨RX8, "nearest", "()I"⟩ prog_1_method_19_code 1 (some .int) ∈ cw_t := cw_t_in (List.mem_of_getElem? (i := 767) rfl) rfl
set_option maxRecDepth 20000 in
theorem cw_cd85 : Cond.code ⟨RX8, "tops", "()I"⟩ prog_1_method_20_code 1 (some .int) ∈ cw_t := cw_t_in (List.mem_of_getElem? (i := 771) rfl) rfl
set_option maxRecDepth 20000 in
theorem cw_cd86 : Cond.code ⟨RX8, "least", "(I)I"⟩ prog_1_method_21_code 2 (some .int) ∈ cw_t := cw_t_in (List.mem_of_getElem? (i := 775) rfl) rfl
set_option maxRecDepth 20000 in
theorem cw_cd87 : Cond.code ⟨RX8, "place", "(II)I"⟩ prog_1_method_22_code 3 (some .int) ∈ cw_t := cw_t_in (List.mem_of_getElem? (i := 793) rfl) rfl
set_option maxRecDepth 20000 in
theorem cw_cd88 : Cond.code ⟨RX8, "arrival", "(I)I"⟩ prog_1_method_23_code 2 (some .int) ∈ cw_t := cw_t_in (List.mem_of_getElem? (i := 797) rfl) rfl
set_option maxRecDepth 20000 in
theorem cw_cd89 : Cond.code ⟨RX8, "slow", "(I)J"⟩ prog_1_method_24_code 2 (some .long) ∈ cw_t := cw_t_in (List.mem_of_getElem? (i := 802) rfl) rfl
set_option maxRecDepth 20000 in
theorem cw_cd90 : Cond.code ⟨RX8, "total", "(I)I"⟩ prog_1_method_25_code 2 (some .int) ∈ cw_t := cw_t_in (List.mem_of_getElem? (i := 806) rfl) rfl
set_option maxRecDepth 20000 in
theorem cw_cd91 : Cond.code ⟨RX8, "type", "(I)I"⟩ prog_1_method_26_code 2 (some .int) ∈ cw_t := cw_t_in (List.mem_of_getElem? (i := 814) rfl) rfl
set_option maxRecDepth 20000 in
theorem cw_cd92 : Cond.code ⟨RX8, "clear", "()I"⟩ prog_1_method_27_code 2 (some .int) ∈ cw_t := cw_t_in (List.mem_of_getElem? (i := 822) rfl) rfl
set_option maxRecDepth 20000 in
theorem cw_cd93 : Cond.code ⟨RX8, "builds", "()I"⟩ prog_1_method_28_code 3 (some .int) ∈ cw_t := cw_t_in (List.mem_of_getElem? (i := 826) rfl) rfl
set_option maxRecDepth 20000 in
theorem cw_cd94 : Cond.code ⟨RX8, "shown", "(II)I"⟩ prog_1_method_29_code 3 (some .int) ∈ cw_t := cw_t_in (List.mem_of_getElem? (i := 858) rfl) rfl
set_option maxRecDepth 20000 in
theorem cw_cd95 : Cond.code ⟨RX8, "back", "()I"⟩ prog_1_method_30_code 1 (some .int) ∈ cw_t := cw_t_in (List.mem_of_getElem? (i := 870) rfl) rfl
set_option maxRecDepth 20000 in
theorem cw_cd96 : Cond.code ⟨RX8, "told", "(I)I"⟩ prog_1_method_31_code 2 (some .int) ∈ cw_t := cw_t_in (List.mem_of_getElem? (i := 878) rfl) rfl
set_option maxRecDepth 20000 in
theorem cw_cd97 : Cond.code ⟨RX8, "digest", "()J"⟩ prog_1_method_32_code 5 (some .long) ∈ cw_t := cw_t_in (List.mem_of_getElem? (i := 886) rfl) rfl
set_option maxRecDepth 20000 in
theorem cw_cd98 : Cond.code ⟨RX8, "refuse", "(I)I"⟩ prog_1_method_33_code 2 (some .int) ∈ cw_t := cw_t_in (List.mem_of_getElem? (i := 573) rfl) rfl
set_option maxRecDepth 20000 in
theorem cw_cd99 : Cond.code ⟨RX8, "refresh", "()V"⟩ prog_1_method_34_code 1 none ∈ cw_t := cw_t_in (List.mem_of_getElem? (i := 415) rfl) rfl
set_option maxRecDepth 20000 in
theorem cw_cd100 : Cond.code ⟨RX8, "exchangeAndCompare", "(II)I"⟩ prog_1_method_35_code 4 (some .int) ∈ cw_t := cw_t_in (List.mem_of_getElem? (i := 732) rfl) rfl
set_option maxRecDepth 20000 in
theorem cw_cd101 : Cond.code ⟨RX8, "nodeValue", "(II)I"⟩ prog_1_method_36_code 4 (some .int) ∈ cw_t := cw_t_in (List.mem_of_getElem? (i := 754) rfl) rfl
set_option maxRecDepth 20000 in
theorem cw_cd102 : Cond.code ⟨RX8, "totalValue", "(I)I"⟩ prog_1_method_37_code 2 (some .int) ∈ cw_t := cw_t_in (List.mem_of_getElem? (i := 810) rfl) rfl
set_option maxRecDepth 20000 in
theorem cw_cd103 : Cond.code ⟨RX8, "toldValue", "(I)I"⟩ prog_1_method_38_code 2 (some .int) ∈ cw_t := cw_t_in (List.mem_of_getElem? (i := 882) rfl) rfl
set_option maxRecDepth 20000 in
theorem cw_cd104 : Cond.code ⟨RX8, "shownByte", "(II)I"⟩ prog_1_method_39_code 8 (some .int) ∈ cw_t := cw_t_in (List.mem_of_getElem? (i := 862) rfl) rfl
set_option maxRecDepth 20000 in
theorem cw_cd105 : Cond.code ⟨RX8, "shownLength", "(I)I"⟩ prog_1_method_40_code 2 (some .int) ∈ cw_t := cw_t_in (List.mem_of_getElem? (i := 866) rfl) rfl
set_option maxRecDepth 20000 in
theorem cw_cd106 : Cond.code ⟨RX8, "isOnGrid", "(II)Z"⟩ prog_1_method_41_code 2 (some .boolean) ∈ cw_t := cw_t_in (List.mem_of_getElem? (i := 569) rfl) rfl
set_option maxRecDepth 20000 in
theorem cw_cd107 : Cond.code ⟨RX8, "isSetting", "(II)Z"⟩ prog_1_method_42_code 2 (some .boolean) ∈ cw_t := cw_t_in (List.mem_of_getElem? (i := 619) rfl) rfl
set_option maxRecDepth 20000 in
theorem cw_cd108 : Cond.code ⟨RX8, "gridDistance", "(IIII)I"⟩ prog_1_method_43_code 4 (some .int) ∈ cw_t := cw_t_in (List.mem_of_getElem? (i := 605) rfl) rfl
set_option maxRecDepth 20000 in
theorem cw_cd109 : Cond.code ⟨RX8, "distance", "(IIII)I"⟩ prog_1_method_44_code 4 (some .int) ∈ cw_t := cw_t_in (List.mem_of_getElem? (i := 506) rfl) rfl
set_option maxRecDepth 20000 in
theorem cw_cd110 : Cond.code ⟨RX9, "<init>", "()V"⟩ prog_11_method_1_code 1 none ∈ cw_t := cw_t_in (List.mem_of_getElem? (i := 893) rfl) rfl
set_option maxRecDepth 20000 in
theorem cw_cd111 : Cond.code ⟨RX9, "bad", "()I"⟩ prog_11_method_2_code 1 (some .int) ∈ cw_t := cw_t_in (List.mem_of_getElem? (i := 1052) rfl) rfl
set_option maxRecDepth 20000 in
theorem cw_cd112 : Cond.code ⟨RX9, "no", "()I"⟩ prog_11_method_3_code 1 (some .int) ∈ cw_t := cw_t_in (List.mem_of_getElem? (i := 1038) rfl) rfl
set_option maxRecDepth 20000 in
theorem cw_cd113 : Cond.code ⟨RX9, "full", "()I"⟩ prog_11_method_4_code 1 (some .int) ∈ cw_t := cw_t_in (List.mem_of_getElem? (i := 1060) rfl) rfl
set_option maxRecDepth 20000 in
theorem cw_cd114 : Cond.code ⟨RX9, "in", "(III)Z"⟩ prog_11_method_5_code 3 (some .boolean) ∈ cw_t := cw_t_in (List.mem_of_getElem? (i := 1048) rfl) rfl
set_option maxRecDepth 20000 in
theorem cw_cd115 : Cond.code ⟨RX9, "greater", "(II)I"⟩ prog_11_method_6_code 2 (some .int) ∈ cw_t := cw_t_in (List.mem_of_getElem? (i := 1085) rfl) rfl
set_option maxRecDepth 20000 in
theorem cw_cd116 : Cond.code ⟨RX9, "lesser", "(II)I"⟩ prog_11_method_7_code 2 (some .int) ∈ cw_t := cw_t_in (List.mem_of_getElem? (i := 1161) rfl) rfl
set_option maxRecDepth 20000 in
theorem cw_cd117 : Cond.code ⟨RX9, "size", "(I)I"⟩ prog_11_method_8_code 1 (some .int) ∈ cw_t := cw_t_in (List.mem_of_getElem? (i := 1082) rfl) rfl
set_option maxRecDepth 20000 in
theorem cw_cd118 : Cond.code ⟨RX9, "isSink", "(I)Z"⟩ prog_11_method_9_code 2 (some .boolean) ∈ cw_t := cw_t_in (List.mem_of_getElem? (i := 1076) rfl) rfl
set_option maxRecDepth 20000 in
theorem cw_cd119 : Cond.code ⟨RX9, "isNode", "(I)Z"⟩ prog_11_method_10_code 2 (some .boolean) ∈ cw_t := cw_t_in (List.mem_of_getElem? (i := 1118) rfl) rfl
set_option maxRecDepth 20000 in
theorem cw_cd120 : Cond.code ⟨RX9, "isSpot", "(II)Z"⟩ prog_11_method_11_code 2 (some .boolean) ∈ cw_t := cw_t_in (List.mem_of_getElem? (i := 1045) rfl) rfl
set_option maxRecDepth 20000 in
theorem cw_cd121 : Cond.code ⟨RX9, "isTop", "(I)Z"⟩ prog_11_method_12_code 2 (some .boolean) ∈ cw_t := cw_t_in (List.mem_of_getElem? (i := 1122) rfl) rfl
set_option maxRecDepth 20000 in
theorem cw_cd122 : Cond.code ⟨RX9, "topMany", "()I"⟩ prog_11_method_13_code 3 (some .int) ∈ cw_t := cw_t_in (List.mem_of_getElem? (i := 1245) rfl) rfl
set_option maxRecDepth 20000 in
theorem cw_cd123 : Cond.code ⟨RX9, "isWithin", "(II)Z"⟩ prog_11_method_14_code 4 (some .boolean) ∈ cw_t := cw_t_in (List.mem_of_getElem? (i := 1189) rfl) rfl
set_option maxRecDepth 20000 in
theorem cw_cd124 : Cond.code ⟨RX9, "replaces", "(II)V"⟩ prog_11_method_15_code 4 none ∈ cw_t := cw_t_in (List.mem_of_getElem? (i := 1134) rfl) rfl
set_option maxRecDepth 20000 in
theorem cw_cd125 : Cond.code ⟨RX9, "comes", "()I"⟩ prog_11_method_16_code 2 (some .int) ∈ cw_t := cw_t_in (List.mem_of_getElem? (i := 1130) rfl) rfl
set_option maxRecDepth 20000 in
theorem cw_cd126 : Cond.code ⟨RX9, "lays", "(II)I"⟩ prog_11_method_17_code 4 (some .int) ∈ cw_t := cw_t_in (List.mem_of_getElem? (i := 1126) rfl) rfl
set_option maxRecDepth 20000 in
theorem cw_cd127 : Cond.code ⟨RX9, "goes", "(I)V"⟩ prog_11_method_18_code 2 none ∈ cw_t := cw_t_in (List.mem_of_getElem? (i := 1173) rfl) rfl
set_option maxRecDepth 20000 in
theorem cw_cd128 : Cond.code ⟨RX9, "takesOff", "(I)I"⟩ prog_11_method_19_code 4 (some .int) ∈ cw_t := cw_t_in (List.mem_of_getElem? (i := 1181) rfl) rfl
set_option maxRecDepth 20000 in
theorem cw_cd129 : Cond.code ⟨RX9, "canExchange", "(II)Z"⟩ prog_11_method_20_code 3 (some .boolean) ∈ cw_t := cw_t_in (List.mem_of_getElem? (i := 1213) rfl) rfl
set_option maxRecDepth 20000 in
theorem cw_cd130 : Cond.code ⟨RX9, "swaps", "(II)V"⟩ prog_11_method_21_code 7 none ∈ cw_t := cw_t_in (List.mem_of_getElem? (i := 1217) rfl) rfl
set_option maxRecDepth 20000 in
theorem cw_cd131 : Cond.code ⟨RX9, "noJoints", "()I"⟩ prog_11_method_22_code 3 (some .int) ∈ cw_t := cw_t_in (List.mem_of_getElem? (i := 1169) rfl) rfl
set_option maxRecDepth 20000 in
theorem cw_cd132 : Cond.code ⟨RX9, "laysAside", "()V"⟩ prog_11_method_23_code 2 none ∈ cw_t := cw_t_in (List.mem_of_getElem? (i := 1197) rfl) rfl
set_option maxRecDepth 20000 in
theorem cw_cd133 : Cond.code ⟨RX9, "takesBack", "()V"⟩ prog_11_method_24_code 2 none ∈ cw_t := cw_t_in (List.mem_of_getElem? (i := 1205) rfl) rfl
set_option maxRecDepth 20000 in
theorem cw_cd134 : Cond.code ⟨RX9, "leavesState", "()V"⟩ prog_11_method_25_code 3 none ∈ cw_t := cw_t_in (List.mem_of_getElem? (i := 1064) rfl) rfl
set_option maxRecDepth 20000 in
theorem cw_cd135 : Cond.code ⟨RX9, "back", "()I"⟩ prog_11_method_26_code 4 (some .int) ∈ cw_t := cw_t_in (List.mem_of_getElem? (i := 1034) rfl) rfl
set_option maxRecDepth 20000 in
theorem cw_cd136 : Cond.code ⟨RX9, "reckons", "(II)V"⟩ prog_11_method_27_code 10 none ∈ cw_t := cw_t_in (List.mem_of_getElem? (i := 1158) rfl) rfl
set_option maxRecDepth 20000 in
theorem cw_cd137 : Cond.code ⟨RX9, "tellsSink", "(I)V"⟩ prog_11_method_28_code 4 none ∈ cw_t := cw_t_in (List.mem_of_getElem? (i := 1150) rfl) rfl
set_option maxRecDepth 20000 in
theorem cw_cd138 : Cond.code ⟨RX9, "tellsJoint", "(I)V"⟩ prog_11_method_29_code 4 none ∈ cw_t := cw_t_in (List.mem_of_getElem? (i := 1154) rfl) rfl
set_option maxRecDepth 20000 in
theorem cw_cd139 : Cond.code ⟨RX9, "tellsAll", "()V"⟩ prog_11_method_30_code 3 none ∈ cw_t := cw_t_in (List.mem_of_getElem? (i := 1146) rfl) rfl
set_option maxRecDepth 20000 in
theorem cw_cd140 : Cond.code ⟨RX9, "costOfAll", "()I"⟩ prog_11_method_31_code 3 (some .int) ∈ cw_t := cw_t_in (List.mem_of_getElem? (i := 1201) rfl) rfl
set_option maxRecDepth 20000 in
theorem cw_cd141 : Cond.code ⟨RX9, "into", "(III)I"⟩ prog_11_method_32_code 3 (some .int) ∈ cw_t := cw_t_in (List.mem_of_getElem? (i := 1268) rfl) rfl
set_option maxRecDepth 20000 in
theorem cw_cd142 : Cond.code ⟨RX9, "settles", "(III)V"⟩ prog_11_method_33_code 4 none ∈ cw_t := cw_t_in (List.mem_of_getElem? (i := 1265) rfl) rfl
set_option maxRecDepth 20000 in
theorem cw_cd143 : Cond.code ⟨RX9, "areLaid", "()Z"⟩ prog_11_method_34_code 3 (some .boolean) ∈ cw_t := cw_t_in (List.mem_of_getElem? (i := 1261) rfl) rfl
set_option maxRecDepth 20000 in
theorem cw_cd144 : Cond.code ⟨RX9, "trunk", "()I"⟩ prog_11_method_35_code 3 (some .int) ∈ cw_t := cw_t_in (List.mem_of_getElem? (i := 1284) rfl) rfl
set_option maxRecDepth 20000 in
theorem cw_cd145 : Cond.code ⟨RX9, "loop", "(I)I"⟩ prog_11_method_36_code 5 (some .int) ∈ cw_t := cw_t_in (List.mem_of_getElem? (i := 1272) rfl) rfl
set_option maxRecDepth 20000 in
theorem cw_cd146 : Cond.code ⟨RX9, "arrives", "(I)I"⟩ prog_11_method_37_code 4 (some .int) ∈ cw_t := cw_t_in (List.mem_of_getElem? (i := 1280) rfl) rfl
set_option maxRecDepth 20000 in
theorem cw_cd147 : Cond.code ⟨RX9, "isAt", "(II)I"⟩ prog_11_method_38_code 4 (some .int) ∈ cw_t := cw_t_in (List.mem_of_getElem? (i := 1056) rfl) rfl
set_option maxRecDepth 20000 in
theorem cw_cd148 : Cond.code ⟨RX9, "touches", "(I)V"⟩ prog_11_method_39_code 4 none ∈ cw_t := cw_t_in (List.mem_of_getElem? (i := 1068) rfl) rfl
set_option maxRecDepth 20000 in
theorem cw_cd149 : Cond.code ⟨RX9, "apart", "(IIII)I"⟩ prog_11_method_40_code 4 (some .int) ∈ cw_t := cw_t_in (List.mem_of_getElem? (i := 1079) rfl) rfl
set_option maxRecDepth 20000 in
theorem cw_cd150 : Cond.code ⟨RX9, "sink", "(II)I"⟩ prog_11_method_41_code 4 (some .int) ∈ cw_t := cw_t_in (List.mem_of_getElem? (i := 1042) rfl) rfl
set_option maxRecDepth 20000 in
theorem cw_cd151 : Cond.code ⟨RX9, "moves", "(III)I"⟩ prog_11_method_42_code 6 (some .int) ∈ cw_t := cw_t_in (List.mem_of_getElem? (i := 1072) rfl) rfl
set_option maxRecDepth 20000 in
theorem cw_cd152 : Cond.code ⟨RX9, "sets", "(III)I"⟩ prog_11_method_43_code 5 (some .int) ∈ cw_t := cw_t_in (List.mem_of_getElem? (i := 1090) rfl) rfl
set_option maxRecDepth 20000 in
theorem cw_cd153 : Cond.code ⟨RX9, "skew", "(I)I"⟩ prog_11_method_44_code 3 (some .int) ∈ cw_t := cw_t_in (List.mem_of_getElem? (i := 1094) rfl) rfl
set_option maxRecDepth 20000 in
theorem cw_cd154 : Cond.code ⟨RX9, "source", "(II)I"⟩ prog_11_method_45_code 4 (some .int) ∈ cw_t := cw_t_in (List.mem_of_getElem? (i := 1098) rfl) rfl
set_option maxRecDepth 20000 in
theorem cw_cd155 : Cond.code ⟨RX9, "end", "(II)I"⟩ prog_11_method_46_code 3 (some .int) ∈ cw_t := cw_t_in (List.mem_of_getElem? (i := 1102) rfl) rfl
set_option maxRecDepth 20000 in
theorem cw_cd156 : Cond.code ⟨RX9, "touched", "(I)I"⟩ prog_11_method_47_code 2 (some .int) ∈ cw_t := cw_t_in (List.mem_of_getElem? (i := 1106) rfl) rfl
set_option maxRecDepth 20000 in
theorem cw_cd157 : Cond.code ⟨RX9, "at", "(II)I"⟩ prog_11_method_48_code 3 (some .int) ∈ cw_t := cw_t_in (List.mem_of_getElem? (i := 1110) rfl) rfl
set_option maxRecDepth 20000 in
theorem cw_cd158 : Cond.code ⟨RX9, "joins", "(II)I"⟩ prog_11_method_49_code 3 (some .int) ∈ cw_t := cw_t_in (List.mem_of_getElem? (i := 1114) rfl) rfl
set_option maxRecDepth 20000 in
theorem cw_cd159 : Cond.code ⟨RX9, "findsPair", "()I"⟩ prog_11_method_50_code 4 (some .int) ∈ cw_t := cw_t_in (List.mem_of_getElem? (i := 1142) rfl) rfl
set_option maxRecDepth 20000 in
theorem cw_cd160 : Cond.code ⟨RX9, "pairs", "()I"⟩ prog_11_method_51_code 4 (some .int) ∈ cw_t := cw_t_in (List.mem_of_getElem? (i := 1138) rfl) rfl
set_option maxRecDepth 20000 in
theorem cw_cd161 : Cond.code ⟨RX9, "frees", "()I"⟩ prog_11_method_52_code 1 (some .int) ∈ cw_t := cw_t_in (List.mem_of_getElem? (i := 1165) rfl) rfl
set_option maxRecDepth 20000 in
theorem cw_cd162 : Cond.code ⟨RX9, "cuts", "(I)I"⟩ prog_11_method_53_code 2 (some .int) ∈ cw_t := cw_t_in (List.mem_of_getElem? (i := 1177) rfl) rfl
set_option maxRecDepth 20000 in
theorem cw_cd163 : Cond.code ⟨RX9, "bestFor", "(I)I"⟩ prog_11_method_54_code 7 (some .int) ∈ cw_t := cw_t_in (List.mem_of_getElem? (i := 1193) rfl) rfl
set_option maxRecDepth 20000 in
theorem cw_cd164 : Cond.code ⟨RX9, "grafts", "(II)I"⟩ prog_11_method_55_code 4 (some .int) ∈ cw_t := cw_t_in (List.mem_of_getElem? (i := 1185) rfl) rfl
set_option maxRecDepth 20000 in
theorem cw_cd165 : Cond.code ⟨RX9, "exchanges", "(II)I"⟩ prog_11_method_56_code 4 (some .int) ∈ cw_t := cw_t_in (List.mem_of_getElem? (i := 1209) rfl) rfl
set_option maxRecDepth 20000 in
theorem cw_cd166 : Cond.code ⟨RX9, "betters", "()I"⟩ prog_11_method_57_code 8 (some .int) ∈ cw_t := cw_t_in (List.mem_of_getElem? (i := 1221) rfl) rfl
set_option maxRecDepth 20000 in
theorem cw_cd167 : Cond.code ⟨RX9, "about", "(II)I"⟩ prog_11_method_58_code 3 (some .int) ∈ cw_t := cw_t_in (List.mem_of_getElem? (i := 1229) rfl) rfl
set_option maxRecDepth 20000 in
theorem cw_cd168 : Cond.code ⟨RX9, "node", "(II)I"⟩ prog_11_method_59_code 3 (some .int) ∈ cw_t := cw_t_in (List.mem_of_getElem? (i := 1225) rfl) rfl
set_option maxRecDepth 20000 in
theorem cw_cd169 : Cond.code ⟨RX9, "would", "(III)I"⟩ prog_11_method_60_code 4 (some .int) ∈ cw_t := cw_t_in (List.mem_of_getElem? (i := 1233) rfl) rfl
set_option maxRecDepth 20000 in
theorem cw_cd170 : Cond.code ⟨RX9, "nearest", "()I"⟩ prog_11_method_61_code 1 (some .int) ∈ cw_t := cw_t_in (List.mem_of_getElem? (i := 1237) rfl) rfl
set_option maxRecDepth 20000 in
theorem cw_cd171 : Cond.code ⟨RX9, "tops", "()I"⟩ prog_11_method_62_code 1 (some .int) ∈ cw_t := cw_t_in (List.mem_of_getElem? (i := 1241) rfl) rfl
set_option maxRecDepth 20000 in
theorem cw_cd172 : Cond.code ⟨RX9, "growsBy", "(I)V"⟩ prog_11_method_63_code 8 none ∈ cw_t := cw_t_in (List.mem_of_getElem? (i := 1253) rfl) rfl
set_option maxRecDepth 20000 in
theorem cw_cd173 : Cond.code ⟨RX9, "least", "(I)I"⟩ prog_11_method_64_code 7 (some .int) ∈ cw_t := cw_t_in (List.mem_of_getElem? (i := 1249) rfl) rfl
set_option maxRecDepth 20000 in
theorem cw_cd174 : Cond.code ⟨RX9, "place", "(II)I"⟩ prog_11_method_65_code 3 (some .int) ∈ cw_t := cw_t_in (List.mem_of_getElem? (i := 1257) rfl) rfl
set_option maxRecDepth 20000 in
theorem cw_cd175 : Cond.code ⟨RX9, "arrival", "(I)I"⟩ prog_11_method_66_code 2 (some .int) ∈ cw_t := cw_t_in (List.mem_of_getElem? (i := 1276) rfl) rfl
set_option maxRecDepth 20000 in
theorem cw_cd176 : Cond.code ⟨RX9, "below", "(I)J"⟩ prog_11_method_67_code 5 (some .long) ∈ cw_t := cw_t_in (List.mem_of_getElem? (i := 1293) rfl) rfl
set_option maxRecDepth 20000 in
theorem cw_cd177 : Cond.code ⟨RX9, "slow", "(I)J"⟩ prog_11_method_68_code 7 (some .long) ∈ cw_t := cw_t_in (List.mem_of_getElem? (i := 1288) rfl) rfl
set_option maxRecDepth 20000 in
theorem cw_cd178 : Cond.code ⟨RX9, "loops", "(Z)I"⟩ prog_11_method_69_code 5 (some .int) ∈ cw_t := cw_t_in (List.mem_of_getElem? (i := 1310) rfl) rfl
set_option maxRecDepth 20000 in
theorem cw_cd179 : Cond.code ⟨RX9, "spread", "()I"⟩ prog_11_method_70_code 4 (some .int) ∈ cw_t := cw_t_in (List.mem_of_getElem? (i := 1306) rfl) rfl
set_option maxRecDepth 20000 in
theorem cw_cd180 : Cond.code ⟨RX9, "totalBy", "(I)I"⟩ prog_11_method_71_code 2 (some .int) ∈ cw_t := cw_t_in (List.mem_of_getElem? (i := 1302) rfl) rfl
set_option maxRecDepth 20000 in
theorem cw_cd181 : Cond.code ⟨RX9, "total", "(I)I"⟩ prog_11_method_72_code 2 (some .int) ∈ cw_t := cw_t_in (List.mem_of_getElem? (i := 1298) rfl) rfl
set_option maxRecDepth 20000 in
theorem cw_cd182 : Cond.code ⟨RX9, "type", "(I)I"⟩ prog_11_method_73_code 2 (some .int) ∈ cw_t := cw_t_in (List.mem_of_getElem? (i := 1314) rfl) rfl
set_option maxRecDepth 20000 in
theorem cw_cd183 : Cond.code ⟨RX9, "clear", "()I"⟩ prog_11_method_74_code 2 (some .int) ∈ cw_t := cw_t_in (List.mem_of_getElem? (i := 1318) rfl) rfl
set_option maxRecDepth 20000 in
theorem cw_cd184 : Cond.code ⟨RX9, "here", "()I"⟩ prog_11_method_75_code 1 (some .int) ∈ cw_t := cw_t_in (List.mem_of_getElem? (i := 1334) rfl) rfl
set_option maxRecDepth 20000 in
theorem cw_cd185 : Cond.code ⟨RX9, "tells", "(I)V"⟩ prog_11_method_76_code 2 none ∈ cw_t := cw_t_in (List.mem_of_getElem? (i := 1338) rfl) rfl
set_option maxRecDepth 20000 in
theorem cw_cd186 : Cond.code ⟨RX9, "reads", "(Z)Z"⟩ prog_11_method_77_code 6 (some .boolean) ∈ cw_t := cw_t_in (List.mem_of_getElem? (i := 1330) rfl) rfl
set_option maxRecDepth 20000 in
theorem cw_cd187 : Cond.code ⟨RX9, "readsAll", "(Z)Z"⟩ prog_11_method_78_code 3 (some .boolean) ∈ cw_t := cw_t_in (List.mem_of_getElem? (i := 1326) rfl) rfl
set_option maxRecDepth 20000 in
theorem cw_cd188 : Cond.code ⟨RX9, "builds", "()I"⟩ prog_11_method_79_code 4 (some .int) ∈ cw_t := cw_t_in (List.mem_of_getElem? (i := 1322) rfl) rfl
set_option maxRecDepth 20000 in
theorem cw_cd189 : Cond.code ⟨RX9, "byteOf", "(II)I"⟩ prog_11_method_80_code 8 (some .int) ∈ cw_t := cw_t_in (List.mem_of_getElem? (i := 1346) rfl) rfl
set_option maxRecDepth 20000 in
theorem cw_cd190 : Cond.code ⟨RX9, "shown", "(II)I"⟩ prog_11_method_81_code 3 (some .int) ∈ cw_t := cw_t_in (List.mem_of_getElem? (i := 1342) rfl) rfl
set_option maxRecDepth 20000 in
theorem cw_cd191 : Cond.code ⟨RX9, "toldBy", "(I)I"⟩ prog_11_method_82_code 2 (some .int) ∈ cw_t := cw_t_in (List.mem_of_getElem? (i := 1354) rfl) rfl
set_option maxRecDepth 20000 in
theorem cw_cd192 : Cond.code ⟨RX9, "jointMany", "()I"⟩ prog_11_method_83_code 3 (some .int) ∈ cw_t := cw_t_in (List.mem_of_getElem? (i := 1358) rfl) rfl
set_option maxRecDepth 20000 in
theorem cw_cd193 : Cond.code ⟨RX9, "told", "(I)I"⟩ prog_11_method_84_code 2 (some .int) ∈ cw_t := cw_t_in (List.mem_of_getElem? (i := 1350) rfl) rfl
set_option maxRecDepth 20000 in
theorem cw_cd194 : Cond.code ⟨RX9, "digest", "()J"⟩ prog_11_method_85_code 5 (some .long) ∈ cw_t := cw_t_in (List.mem_of_getElem? (i := 1362) rfl) rfl
set_option maxRecDepth 100000 in
theorem cw_code_in : ∀ q ∈ cw_ml, Cond.code q.1 q.2.1 q.2.2.1 q.2.2.2.1 ∈ cw_t := List.forall_mem_cons.mpr ⟨cw_cd0, List.forall_mem_cons.mpr ⟨cw_cd1, List.forall_mem_cons.mpr ⟨cw_cd2, List.forall_mem_cons.mpr ⟨cw_cd3, List.forall_mem_cons.mpr ⟨cw_cd4, List.forall_mem_cons.mpr ⟨cw_cd5, List.forall_mem_cons.mpr ⟨cw_cd6, List.forall_mem_cons.mpr ⟨cw_cd7, List.forall_mem_cons.mpr ⟨cw_cd8, List.forall_mem_cons.mpr ⟨cw_cd9, List.forall_mem_cons.mpr ⟨cw_cd10, List.forall_mem_cons.mpr ⟨cw_cd11, List.forall_mem_cons.mpr ⟨cw_cd12, List.forall_mem_cons.mpr ⟨cw_cd13, List.forall_mem_cons.mpr ⟨cw_cd14, List.forall_mem_cons.mpr ⟨cw_cd15, List.forall_mem_cons.mpr ⟨cw_cd16, List.forall_mem_cons.mpr ⟨cw_cd17, List.forall_mem_cons.mpr ⟨cw_cd18, List.forall_mem_cons.mpr ⟨cw_cd19, List.forall_mem_cons.mpr ⟨cw_cd20, List.forall_mem_cons.mpr ⟨cw_cd21, List.forall_mem_cons.mpr ⟨cw_cd22, List.forall_mem_cons.mpr ⟨cw_cd23, List.forall_mem_cons.mpr ⟨cw_cd24, List.forall_mem_cons.mpr ⟨cw_cd25, List.forall_mem_cons.mpr ⟨cw_cd26, List.forall_mem_cons.mpr ⟨cw_cd27, List.forall_mem_cons.mpr ⟨cw_cd28, List.forall_mem_cons.mpr ⟨cw_cd29, List.forall_mem_cons.mpr ⟨cw_cd30, List.forall_mem_cons.mpr ⟨cw_cd31, List.forall_mem_cons.mpr ⟨cw_cd32, List.forall_mem_cons.mpr ⟨cw_cd33, List.forall_mem_cons.mpr ⟨cw_cd34, List.forall_mem_cons.mpr ⟨cw_cd35, List.forall_mem_cons.mpr ⟨cw_cd36, List.forall_mem_cons.mpr ⟨cw_cd37, List.forall_mem_cons.mpr ⟨cw_cd38, List.forall_mem_cons.mpr ⟨cw_cd39, List.forall_mem_cons.mpr ⟨cw_cd40, List.forall_mem_cons.mpr ⟨cw_cd41, List.forall_mem_cons.mpr ⟨cw_cd42, List.forall_mem_cons.mpr ⟨cw_cd43, List.forall_mem_cons.mpr ⟨cw_cd44, List.forall_mem_cons.mpr ⟨cw_cd45, List.forall_mem_cons.mpr ⟨cw_cd46, List.forall_mem_cons.mpr ⟨cw_cd47, List.forall_mem_cons.mpr ⟨cw_cd48, List.forall_mem_cons.mpr ⟨cw_cd49, List.forall_mem_cons.mpr ⟨cw_cd50, List.forall_mem_cons.mpr ⟨cw_cd51, List.forall_mem_cons.mpr ⟨cw_cd52, List.forall_mem_cons.mpr ⟨cw_cd53, List.forall_mem_cons.mpr ⟨cw_cd54, List.forall_mem_cons.mpr ⟨cw_cd55, List.forall_mem_cons.mpr ⟨cw_cd56, List.forall_mem_cons.mpr ⟨cw_cd57, List.forall_mem_cons.mpr ⟨cw_cd58, List.forall_mem_cons.mpr ⟨cw_cd59, List.forall_mem_cons.mpr ⟨cw_cd60, List.forall_mem_cons.mpr ⟨cw_cd61, List.forall_mem_cons.mpr ⟨cw_cd62, List.forall_mem_cons.mpr ⟨cw_cd63, List.forall_mem_cons.mpr ⟨cw_cd64, List.forall_mem_cons.mpr ⟨cw_cd65, List.forall_mem_cons.mpr ⟨cw_cd66, List.forall_mem_cons.mpr ⟨cw_cd67, List.forall_mem_cons.mpr ⟨cw_cd68, List.forall_mem_cons.mpr ⟨cw_cd69, List.forall_mem_cons.mpr ⟨cw_cd70, List.forall_mem_cons.mpr ⟨cw_cd71, List.forall_mem_cons.mpr ⟨cw_cd72, List.forall_mem_cons.mpr ⟨cw_cd73, List.forall_mem_cons.mpr ⟨cw_cd74, List.forall_mem_cons.mpr ⟨cw_cd75, List.forall_mem_cons.mpr ⟨cw_cd76, List.forall_mem_cons.mpr ⟨cw_cd77, List.forall_mem_cons.mpr ⟨cw_cd78, List.forall_mem_cons.mpr ⟨cw_cd79, List.forall_mem_cons.mpr ⟨cw_cd80, List.forall_mem_cons.mpr ⟨cw_cd81, List.forall_mem_cons.mpr ⟨cw_cd82, List.forall_mem_cons.mpr ⟨cw_cd83, List.forall_mem_cons.mpr ⟨cw_cd84, List.forall_mem_cons.mpr ⟨cw_cd85, List.forall_mem_cons.mpr ⟨cw_cd86, List.forall_mem_cons.mpr ⟨cw_cd87, List.forall_mem_cons.mpr ⟨cw_cd88, List.forall_mem_cons.mpr ⟨cw_cd89, List.forall_mem_cons.mpr ⟨cw_cd90, List.forall_mem_cons.mpr ⟨cw_cd91, List.forall_mem_cons.mpr ⟨cw_cd92, List.forall_mem_cons.mpr ⟨cw_cd93, List.forall_mem_cons.mpr ⟨cw_cd94, List.forall_mem_cons.mpr ⟨cw_cd95, List.forall_mem_cons.mpr ⟨cw_cd96, List.forall_mem_cons.mpr ⟨cw_cd97, List.forall_mem_cons.mpr ⟨cw_cd98, List.forall_mem_cons.mpr ⟨cw_cd99, List.forall_mem_cons.mpr ⟨cw_cd100, List.forall_mem_cons.mpr ⟨cw_cd101, List.forall_mem_cons.mpr ⟨cw_cd102, List.forall_mem_cons.mpr ⟨cw_cd103, List.forall_mem_cons.mpr ⟨cw_cd104, List.forall_mem_cons.mpr ⟨cw_cd105, List.forall_mem_cons.mpr ⟨cw_cd106, List.forall_mem_cons.mpr ⟨cw_cd107, List.forall_mem_cons.mpr ⟨cw_cd108, List.forall_mem_cons.mpr ⟨cw_cd109, List.forall_mem_cons.mpr ⟨cw_cd110, List.forall_mem_cons.mpr ⟨cw_cd111, List.forall_mem_cons.mpr ⟨cw_cd112, List.forall_mem_cons.mpr ⟨cw_cd113, List.forall_mem_cons.mpr ⟨cw_cd114, List.forall_mem_cons.mpr ⟨cw_cd115, List.forall_mem_cons.mpr ⟨cw_cd116, List.forall_mem_cons.mpr ⟨cw_cd117, List.forall_mem_cons.mpr ⟨cw_cd118, List.forall_mem_cons.mpr ⟨cw_cd119, List.forall_mem_cons.mpr ⟨cw_cd120, List.forall_mem_cons.mpr ⟨cw_cd121, List.forall_mem_cons.mpr ⟨cw_cd122, List.forall_mem_cons.mpr ⟨cw_cd123, List.forall_mem_cons.mpr ⟨cw_cd124, List.forall_mem_cons.mpr ⟨cw_cd125, List.forall_mem_cons.mpr ⟨cw_cd126, List.forall_mem_cons.mpr ⟨cw_cd127, List.forall_mem_cons.mpr ⟨cw_cd128, List.forall_mem_cons.mpr ⟨cw_cd129, List.forall_mem_cons.mpr ⟨cw_cd130, List.forall_mem_cons.mpr ⟨cw_cd131, List.forall_mem_cons.mpr ⟨cw_cd132, List.forall_mem_cons.mpr ⟨cw_cd133, List.forall_mem_cons.mpr ⟨cw_cd134, List.forall_mem_cons.mpr ⟨cw_cd135, List.forall_mem_cons.mpr ⟨cw_cd136, List.forall_mem_cons.mpr ⟨cw_cd137, List.forall_mem_cons.mpr ⟨cw_cd138, List.forall_mem_cons.mpr ⟨cw_cd139, List.forall_mem_cons.mpr ⟨cw_cd140, List.forall_mem_cons.mpr ⟨cw_cd141, List.forall_mem_cons.mpr ⟨cw_cd142, List.forall_mem_cons.mpr ⟨cw_cd143, List.forall_mem_cons.mpr ⟨cw_cd144, List.forall_mem_cons.mpr ⟨cw_cd145, List.forall_mem_cons.mpr ⟨cw_cd146, List.forall_mem_cons.mpr ⟨cw_cd147, List.forall_mem_cons.mpr ⟨cw_cd148, List.forall_mem_cons.mpr ⟨cw_cd149, List.forall_mem_cons.mpr ⟨cw_cd150, List.forall_mem_cons.mpr ⟨cw_cd151, List.forall_mem_cons.mpr ⟨cw_cd152, List.forall_mem_cons.mpr ⟨cw_cd153, List.forall_mem_cons.mpr ⟨cw_cd154, List.forall_mem_cons.mpr ⟨cw_cd155, List.forall_mem_cons.mpr ⟨cw_cd156, List.forall_mem_cons.mpr ⟨cw_cd157, List.forall_mem_cons.mpr ⟨cw_cd158, List.forall_mem_cons.mpr ⟨cw_cd159, List.forall_mem_cons.mpr ⟨cw_cd160, List.forall_mem_cons.mpr ⟨cw_cd161, List.forall_mem_cons.mpr ⟨cw_cd162, List.forall_mem_cons.mpr ⟨cw_cd163, List.forall_mem_cons.mpr ⟨cw_cd164, List.forall_mem_cons.mpr ⟨cw_cd165, List.forall_mem_cons.mpr ⟨cw_cd166, List.forall_mem_cons.mpr ⟨cw_cd167, List.forall_mem_cons.mpr ⟨cw_cd168, List.forall_mem_cons.mpr ⟨cw_cd169, List.forall_mem_cons.mpr ⟨cw_cd170, List.forall_mem_cons.mpr ⟨cw_cd171, List.forall_mem_cons.mpr ⟨cw_cd172, List.forall_mem_cons.mpr ⟨cw_cd173, List.forall_mem_cons.mpr ⟨cw_cd174, List.forall_mem_cons.mpr ⟨cw_cd175, List.forall_mem_cons.mpr ⟨cw_cd176, List.forall_mem_cons.mpr ⟨cw_cd177, List.forall_mem_cons.mpr ⟨cw_cd178, List.forall_mem_cons.mpr ⟨cw_cd179, List.forall_mem_cons.mpr ⟨cw_cd180, List.forall_mem_cons.mpr ⟨cw_cd181, List.forall_mem_cons.mpr ⟨cw_cd182, List.forall_mem_cons.mpr ⟨cw_cd183, List.forall_mem_cons.mpr ⟨cw_cd184, List.forall_mem_cons.mpr ⟨cw_cd185, List.forall_mem_cons.mpr ⟨cw_cd186, List.forall_mem_cons.mpr ⟨cw_cd187, List.forall_mem_cons.mpr ⟨cw_cd188, List.forall_mem_cons.mpr ⟨cw_cd189, List.forall_mem_cons.mpr ⟨cw_cd190, List.forall_mem_cons.mpr ⟨cw_cd191, List.forall_mem_cons.mpr ⟨cw_cd192, List.forall_mem_cons.mpr ⟨cw_cd193, List.forall_mem_cons.mpr ⟨cw_cd194, fun _ h => absurd h List.not_mem_nil⟩⟩⟩⟩⟩⟩⟩⟩⟩⟩⟩⟩⟩⟩⟩⟩⟩⟩⟩⟩⟩⟩⟩⟩⟩⟩⟩⟩⟩⟩⟩⟩⟩⟩⟩⟩⟩⟩⟩⟩⟩⟩⟩⟩⟩⟩⟩⟩⟩⟩⟩⟩⟩⟩⟩⟩⟩⟩⟩⟩⟩⟩⟩⟩⟩⟩⟩⟩⟩⟩⟩⟩⟩⟩⟩⟩⟩⟩⟩⟩⟩⟩⟩⟩⟩⟩⟩⟩⟩⟩⟩⟩⟩⟩⟩⟩⟩⟩⟩⟩⟩⟩⟩⟩⟩⟩⟩⟩⟩⟩⟩⟩⟩⟩⟩⟩⟩⟩⟩⟩⟩⟩⟩⟩⟩⟩⟩⟩⟩⟩⟩⟩⟩⟩⟩⟩⟩⟩⟩⟩⟩⟩⟩⟩⟩⟩⟩⟩⟩⟩⟩⟩⟩⟩⟩⟩⟩⟩⟩⟩⟩⟩⟩⟩⟩⟩⟩⟩⟩⟩⟩⟩⟩⟩⟩⟩⟩⟩⟩⟩⟩⟩⟩⟩⟩⟩⟩⟩⟩⟩⟩⟩⟩⟩⟩
theorem cw_init_in : ∀ q ∈ cw_ml, Cond.initialized q.1.cls ∈ cw_t := fun q hq => cw_t_in (goodIn_r (cw_ml.map fun q => Cond.initialized q.1.cls) [77, 77, 77, 74, 74, 74, 74, 74, 73, 73, 73, 75, 75, 75, 75, 75, 75, 75, 75, 76, 76, 76, 76, 76, 76, 78, 78, 78, 78, 78, 78, 78, 78, 78, 71, 71, 71, 71, 71, 71, 71, 71, 71, 71, 71, 71, 71, 71, 71, 71, 71, 71, 71, 71, 71, 71, 71, 71, 71, 71, 72, 72, 72, 72, 72, 72, 70, 70, 70, 70, 70, 70, 70, 70, 70, 70, 70, 70, 70, 70, 70, 70, 70, 70, 70, 70, 70, 70, 70, 70, 70, 70, 70, 70, 70, 70, 70, 70, 70, 70, 70, 70, 70, 70, 70, 70, 70, 70, 70, 70, 80, 80, 80, 80, 80, 80, 80, 80, 80, 80, 80, 80, 80, 80, 80, 80, 80, 80, 80, 80, 80, 80, 80, 80, 80, 80, 80, 80, 80, 80, 80, 80, 80, 80, 80, 80, 80, 80, 80, 80, 80, 80, 80, 80, 80, 80, 80, 80, 80, 80, 80, 80, 80, 80, 80, 80, 80, 80, 80, 80, 80, 80, 80, 80, 80, 80, 80, 80, 80, 80, 80, 80, 80, 80, 80, 80, 80, 80, 80, 80, 80, 80, 80, 80, 80] (by decide +kernel) (by decide +kernel) _ (List.mem_map.mpr ⟨q, hq, rfl⟩)).1 rfl
theorem cw_plain : cw_ml.all (fun q => plainName q.1.cls && (q.1.cls != "java/lang/invoke/MethodHandle") && (q.1.cls != "java/lang/invoke/VarHandle") && decide ((parseMethodDescriptor q.1.desc).map (fun d => d.parameters.length) = some q.2.2.2.2)) = true := by decide +kernel
abbrev m_History_init : Nat := 0
abbrev m_History_save : Nat := 1
abbrev m_History_restore : Nat := 2
abbrev m_Merge_init : Nat := 3
abbrev m_Merge_weigh : Nat := 4
abbrev m_Merge_gapBetween : Nat := 5
abbrev m_Merge_leadOf : Nat := 6
abbrev m_Merge_join : Nat := 7
abbrev m_Part_init : Nat := 8
abbrev m_Part_setSink : Nat := 9
abbrev m_Part_capacity : Nat := 10
abbrev m_Places_init : Nat := 11
abbrev m_Places_embed : Nat := 12
abbrev m_Places_setTop : Nat := 13
abbrev m_Places_setChild : Nat := 14
abbrev m_Places_setSpread : Nat := 15
abbrev m_Places_arrivalOf : Nat := 16
abbrev m_Places_delayOf : Nat := 17
abbrev m_Places_movedInto : Nat := 18
abbrev m_Search_init : Nat := 19
abbrev m_Search_bestGraft : Nat := 20
abbrev m_Search_bestExchange : Nat := 21
abbrev m_Search_findLeast : Nat := 22
abbrev m_Search_growTrees : Nat := 23
abbrev m_Search_countTree : Nat := 24
abbrev m_Text_init : Nat := 25
abbrev m_Text_append : Nat := 26
abbrev m_Text_parse : Nat := 27
abbrev m_Text_accepts : Nat := 28
abbrev m_Text_opens : Nat := 29
abbrev m_Text_closes : Nat := 30
abbrev m_Text_takesSink : Nat := 31
abbrev m_Text_wantsPart : Nat := 32
abbrev m_Text_addPart : Nat := 33
abbrev m_Tree_init : Nat := 34
abbrev m_Tree_copyFrom : Nat := 35
abbrev m_Tree_hasSink : Nat := 36
abbrev m_Tree_hasNode : Nat := 37
abbrev m_Tree_isJoint : Nat := 38
abbrev m_Tree_isTop : Nat := 39
abbrev m_Tree_leftOf : Nat := 40
abbrev m_Tree_rightOf : Nat := 41
abbrev m_Tree_parentOf : Nat := 42
abbrev m_Tree_jointCount : Nat := 43
abbrev m_Tree_sinkAt : Nat := 44
abbrev m_Tree_sinkValue : Nat := 45
abbrev m_Tree_addSink : Nat := 46
abbrev m_Tree_moveSink : Nat := 47
abbrev m_Tree_touch : Nat := 48
abbrev m_Tree_touchedBefore : Nat := 49
abbrev m_Tree_removeJoints : Nat := 50
abbrev m_Tree_freeJoint : Nat := 51
abbrev m_Tree_addJoint : Nat := 52
abbrev m_Tree_replaceChild : Nat := 53
abbrev m_Tree_isWithin : Nat := 54
abbrev m_Tree_canGraft : Nat := 55
abbrev m_Tree_graft : Nat := 56
abbrev m_Tree_cut : Nat := 57
abbrev m_Tree_canExchange : Nat := 58
abbrev m_Tree_exchange : Nat := 59
abbrev m_Wires_init : Nat := 60
abbrev m_Wires_part : Nat := 61
abbrev m_Wires_measure : Nat := 62
abbrev m_Wires_listDownward : Nat := 63
abbrev m_Wires_list : Nat := 64
abbrev m_Wires_nearestPair : Nat := 65
abbrev m_CW_init : Nat := 66
abbrev m_CW_sink : Nat := 67
abbrev m_CW_moves : Nat := 68
abbrev m_CW_sets : Nat := 69
abbrev m_CW_skew : Nat := 70
abbrev m_CW_source : Nat := 71
abbrev m_CW_end : Nat := 72
abbrev m_CW_touched : Nat := 73
abbrev m_CW_at : Nat := 74
abbrev m_CW_joins : Nat := 75
abbrev m_CW_pairs : Nat := 76
abbrev m_CW_frees : Nat := 77
abbrev m_CW_cuts : Nat := 78
abbrev m_CW_grafts : Nat := 79
abbrev m_CW_exchanges : Nat := 80
abbrev m_CW_betters : Nat := 81
abbrev m_CW_node : Nat := 82
abbrev m_CW_would : Nat := 83
abbrev m_CW_nearest : Nat := 84
abbrev m_CW_tops : Nat := 85
abbrev m_CW_least : Nat := 86
abbrev m_CW_place : Nat := 87
abbrev m_CW_arrival : Nat := 88
abbrev m_CW_slow : Nat := 89
abbrev m_CW_total : Nat := 90
abbrev m_CW_type : Nat := 91
abbrev m_CW_clear : Nat := 92
abbrev m_CW_builds : Nat := 93
abbrev m_CW_shown : Nat := 94
abbrev m_CW_back : Nat := 95
abbrev m_CW_told : Nat := 96
abbrev m_CW_digest : Nat := 97
abbrev m_CW_refuse : Nat := 98
abbrev m_CW_refresh : Nat := 99
abbrev m_CW_exchangeAndCompare : Nat := 100
abbrev m_CW_nodeValue : Nat := 101
abbrev m_CW_totalValue : Nat := 102
abbrev m_CW_toldValue : Nat := 103
abbrev m_CW_shownByte : Nat := 104
abbrev m_CW_shownLength : Nat := 105
abbrev m_CW_isOnGrid : Nat := 106
abbrev m_CW_isSetting : Nat := 107
abbrev m_CW_gridDistance : Nat := 108
abbrev m_CW_distance : Nat := 109
abbrev m_Mo_init : Nat := 110
abbrev m_Mo_bad : Nat := 111
abbrev m_Mo_no : Nat := 112
abbrev m_Mo_full : Nat := 113
abbrev m_Mo_in : Nat := 114
abbrev m_Mo_greater : Nat := 115
abbrev m_Mo_lesser : Nat := 116
abbrev m_Mo_size : Nat := 117
abbrev m_Mo_isSink : Nat := 118
abbrev m_Mo_isNode : Nat := 119
abbrev m_Mo_isSpot : Nat := 120
abbrev m_Mo_isTop : Nat := 121
abbrev m_Mo_topMany : Nat := 122
abbrev m_Mo_isWithin : Nat := 123
abbrev m_Mo_replaces : Nat := 124
abbrev m_Mo_comes : Nat := 125
abbrev m_Mo_lays : Nat := 126
abbrev m_Mo_goes : Nat := 127
abbrev m_Mo_takesOff : Nat := 128
abbrev m_Mo_canExchange : Nat := 129
abbrev m_Mo_swaps : Nat := 130
abbrev m_Mo_noJoints : Nat := 131
abbrev m_Mo_laysAside : Nat := 132
abbrev m_Mo_takesBack : Nat := 133
abbrev m_Mo_leavesState : Nat := 134
abbrev m_Mo_back : Nat := 135
abbrev m_Mo_reckons : Nat := 136
abbrev m_Mo_tellsSink : Nat := 137
abbrev m_Mo_tellsJoint : Nat := 138
abbrev m_Mo_tellsAll : Nat := 139
abbrev m_Mo_costOfAll : Nat := 140
abbrev m_Mo_into : Nat := 141
abbrev m_Mo_settles : Nat := 142
abbrev m_Mo_areLaid : Nat := 143
abbrev m_Mo_trunk : Nat := 144
abbrev m_Mo_loop : Nat := 145
abbrev m_Mo_arrives : Nat := 146
abbrev m_Mo_isAt : Nat := 147
abbrev m_Mo_touches : Nat := 148
abbrev m_Mo_apart : Nat := 149
abbrev m_Mo_sink : Nat := 150
abbrev m_Mo_moves : Nat := 151
abbrev m_Mo_sets : Nat := 152
abbrev m_Mo_skew : Nat := 153
abbrev m_Mo_source : Nat := 154
abbrev m_Mo_end : Nat := 155
abbrev m_Mo_touched : Nat := 156
abbrev m_Mo_at : Nat := 157
abbrev m_Mo_joins : Nat := 158
abbrev m_Mo_findsPair : Nat := 159
abbrev m_Mo_pairs : Nat := 160
abbrev m_Mo_frees : Nat := 161
abbrev m_Mo_cuts : Nat := 162
abbrev m_Mo_bestFor : Nat := 163
abbrev m_Mo_grafts : Nat := 164
abbrev m_Mo_exchanges : Nat := 165
abbrev m_Mo_betters : Nat := 166
abbrev m_Mo_about : Nat := 167
abbrev m_Mo_node : Nat := 168
abbrev m_Mo_would : Nat := 169
abbrev m_Mo_nearest : Nat := 170
abbrev m_Mo_tops : Nat := 171
abbrev m_Mo_growsBy : Nat := 172
abbrev m_Mo_least : Nat := 173
abbrev m_Mo_place : Nat := 174
abbrev m_Mo_arrival : Nat := 175
abbrev m_Mo_below : Nat := 176
abbrev m_Mo_slow : Nat := 177
abbrev m_Mo_loops : Nat := 178
abbrev m_Mo_spread : Nat := 179
abbrev m_Mo_totalBy : Nat := 180
abbrev m_Mo_total : Nat := 181
abbrev m_Mo_type : Nat := 182
abbrev m_Mo_clear : Nat := 183
abbrev m_Mo_here : Nat := 184
abbrev m_Mo_tells : Nat := 185
abbrev m_Mo_reads : Nat := 186
abbrev m_Mo_readsAll : Nat := 187
abbrev m_Mo_builds : Nat := 188
abbrev m_Mo_byteOf : Nat := 189
abbrev m_Mo_shown : Nat := 190
abbrev m_Mo_toldBy : Nat := 191
abbrev m_Mo_jointMany : Nat := 192
abbrev m_Mo_told : Nat := 193
abbrev m_Mo_digest : Nat := 194
end
section
/-! THE ABSTRACT MACHINE: cells by their places; an instruction is a function to what is done next -/
abbrev cw_L : Type := List (Option Value)
abbrev cw_C : Type := (Nat × vp_A) ⊕ (Nat × List Value)
abbrev cw_H : Type := List cw_C
/-- what is done next: go on; a test; a call; a return; a new cell (and its slots); a call of a constructor -/
abbrev cw_A : Type := (Nat × cw_L × List Value × cw_H) ⊕ ((Bool × Nat × Nat × cw_L × List Value × cw_H) ⊕ ((Nat × List Value × Nat × cw_L × List Value × cw_H) ⊕ ((Option Value × cw_H) ⊕ ((cw_C × Nat × Nat × cw_L × List Value × cw_H) ⊕ (Nat × List Value × Nat × cw_L × List Value × cw_H)))))
abbrev cw_S : Type := Nat → cw_L → List Value → cw_H → Option cw_A
abbrev cw_go (pc : Nat) (L : cw_L) (S : List Value) (h : cw_H) : Option cw_A := some (.inl (pc, L, S, h))
abbrev cw_br (b : Bool) (t f : Nat) (L : cw_L) (S : List Value) (h : cw_H) : Option cw_A := some (.inr (.inl (b, t, f, L, S, h)))
abbrev cw_ca (M : Nat) (as : List Value) (pc : Nat) (L : cw_L) (S : List Value) (h : cw_H) : Option cw_A := some (.inr (.inr (.inl (M, as, pc, L, S, h))))
abbrev cw_re (r : Option Value) (h : cw_H) : Option cw_A := some (.inr (.inr (.inr (.inl (r, h)))))
abbrev cw_ne (c : cw_C) (n pc : Nat) (L : cw_L) (S : List Value) (h : cw_H) : Option cw_A := some (.inr (.inr (.inr (.inr (.inl (c, n, pc, L, S, h))))))
abbrev cw_ci (M : Nat) (as : List Value) (pc : Nat) (L : cw_L) (S : List Value) (h : cw_H) : Option cw_A := some (.inr (.inr (.inr (.inr (.inr (M, as, pc, L, S, h))))))
/-- how many slots the cells have -/
def cw_sz (c : cw_C) : Nat := match c with
  | .inl a => a.2.1
  | .inr o => o.2.length
def cw_hd (h : cw_H) : List Nat := h.map cw_sz
def cw_sl (h : cw_H) : Nat := (cw_hd h).sum
/-- all references are of places below n -/
def cw_vo (n : Nat) (v : Value) : Bool := match v with
  | .ref k => decide (k < n)
  | _ => true
def cw_lo (n : Nat) (L : cw_L) : Bool := L.all fun o => match o with
  | some v => cw_vo n v
  | none => true
def cw_so (n : Nat) (S : List Value) : Bool := S.all (cw_vo n)
def cw_qo (n : Nat) (f : Nat → Option Nat) : Nat → Bool
  | 0 => true
  | k + 1 => (match f k with
    | some p => decide (p < n)
    | none => true) && cw_qo n f k
def cw_co (n : Nat) (c : cw_C) : Bool := match c with
  | .inl (_, len, .inr (.inr (.inr (.inr f)))) => cw_qo n f len
  | .inl _ => true
  | .inr (_, fs) => fs.all (cw_vo n)
def cw_ho (n : Nat) (h : cw_H) : Bool := h.all (cw_co n)
/-- stack words of what lies below a call -/
def cw_ct (S : List Value) : Nat := (S.map fun v => v.category).sum
/-- locals -/
def cw_kill (i : Nat) (L : cw_L) : cw_L := match i with
  | 0 => L
  | k + 1 => match L[k]? with
    | some (some (.long _)) => L.set k none
    | some (some (.double _)) => L.set k none
    | _ => L
def cw_sto (i : Nat) (v : Value) (L : cw_L) : cw_L := (cw_kill i L).set i (some v)
def cw_stl (i : Nat) (v : Value) (L : cw_L) : cw_L := ((cw_kill i L).set (i + 1) none).set i (some v)
/-! the instructions -/
def s_iload (i nx : Nat) : cw_S := fun _ L S h => match L[i]? with
  | some (some (.int x)) => cw_go nx L (.int x :: S) h
  | _ => none
def s_lload (i nx : Nat) : cw_S := fun _ L S h => match L[i]? with
  | some (some (.long x)) => cw_go nx L (.long x :: S) h
  | _ => none
def s_aload (i nx : Nat) : cw_S := fun _ L S h => match L[i]? with
  | some (some (.ref x)) => cw_go nx L (.ref x :: S) h
  | _ => none
def s_istore (i nx : Nat) : cw_S := fun _ L S h => match S with
  | .int x :: r => if i < L.length then cw_go nx (cw_sto i (.int x) L) r h else none
  | _ => none
def s_astore (i nx : Nat) : cw_S := fun _ L S h => match S with
  | .ref x :: r => if i < L.length then cw_go nx (cw_sto i (.ref x) L) r h else none
  | _ => none
def s_lstore (i nx : Nat) : cw_S := fun _ L S h => match S with
  | .long x :: r => if i + 1 < L.length then cw_go nx (cw_stl i (.long x) L) r h else none
  | _ => none
def s_iinc (i : Nat) (v : Int32) (nx : Nat) : cw_S := fun _ L S h => match L[i]? with
  | some (some (.int x)) => cw_go nx (cw_sto i (.int (x + v)) L) S h
  | _ => none
def s_iconst (v : Int32) (nx : Nat) : cw_S := fun _ L S h => cw_go nx L (.int v :: S) h
def s_lconst (v : Int64) (nx : Nat) : cw_S := fun _ L S h => cw_go nx L (.long v :: S) h
def s_ibin (f : Int32 → Int32 → Int32) (nx : Nat) : cw_S := fun _ L S h => match S with
  | .int y :: .int x :: r => cw_go nx L (.int (f x y) :: r) h
  | _ => none
def s_idiv (f : Int32 → Int32 → Int32) (nx : Nat) : cw_S := fun _ L S h => match S with
  | .int y :: .int x :: r => if y = 0 then none else cw_go nx L (.int (f x y) :: r) h
  | _ => none
def s_ineg (nx : Nat) : cw_S := fun _ L S h => match S with
  | .int x :: r => cw_go nx L (.int (-x) :: r) h
  | _ => none
def s_i2l (nx : Nat) : cw_S := fun _ L S h => match S with
  | .int x :: r => cw_go nx L (.long x.toInt64 :: r) h
  | _ => none
def s_lbin (f : Int64 → Int64 → Int64) (nx : Nat) : cw_S := fun _ L S h => match S with
  | .long y :: .long x :: r => cw_go nx L (.long (f x y) :: r) h
  | _ => none
def s_lcmp (nx : Nat) : cw_S := fun _ L S h => match S with
  | .long y :: .long x :: r => cw_go nx L (.int (lg_cmp x y) :: r) h
  | _ => none
def s_dup (nx : Nat) : cw_S := fun _ L S h => match S with
  | v :: r => if v.category = 1 then cw_go nx L (v :: v :: r) h else none
  | _ => none
def s_dup2 (nx : Nat) : cw_S := fun _ L S h => match S with
  | v :: w :: r => if v.category = 1 ∧ w.category = 1 then cw_go nx L (v :: w :: v :: w :: r) h else none
  | _ => none
def s_pop (nx : Nat) : cw_S := fun _ L S h => match S with
  | v :: r => if v.category = 1 then cw_go nx L r h else none
  | _ => none
def s_goto (t : Nat) : cw_S := fun _ L S h => cw_go t L S h
def s_if (P : Int32 → Bool) (t nx : Nat) : cw_S := fun _ L S h => match S with
  | .int x :: r => cw_br (P x) t nx L r h
  | _ => none
def s_icmp (P : Int32 → Int32 → Bool) (t nx : Nat) : cw_S := fun _ L S h => match S with
  | .int y :: .int x :: r => cw_br (P x y) t nx L r h
  | _ => none
/-- a switch: the key's targets in a row, then the rest -/
def s_switch (ks : List (Int × Nat)) (dflt : Nat) : cw_S := fun _ L S h => match S with
  | .int x :: r => cw_go ((ks.lookup x.toInt).getD dflt) L r h
  | _ => none
def s_get (ci k nx : Nat) : cw_S := fun _ L S h => match S with
  | .ref p :: r => match h[p]? with
    | some (.inr (c, fs)) => if c = ci then (match fs[k]? with
      | some v => cw_go nx L (v :: r) h
      | none => none) else none
    | _ => none
  | _ => none
/-- what a field of a kind takes: 0 an int, 1 a boolean, 2 a reference -/
def cw_takes (kd : Nat) (v : Value) : Bool := match kd, v with
  | 0, .int _ => true
  | 1, .int x => x == 0 || x == 1
  | 2, .ref _ => true
  | _, _ => false
def s_put (ci k kd nx : Nat) : cw_S := fun _ L S h => match S with
  | v :: .ref p :: r => match h[p]? with
    | some (.inr (c, fs)) => if c = ci ∧ k < fs.length ∧ cw_takes kd v = true then cw_go nx L r (h.set p (.inr (c, fs.set k v))) else none
    | _ => none
  | _ => none
def cw_in (i : Int32) (n : Nat) : Bool := decide (¬ i < 0) && decide (i.toNatClampNeg < n)
def s_iald (nx : Nat) : cw_S := fun _ L S h => match S with
  | .int i :: .ref p :: r => match h[p]? with
    | some (.inl (0, n, .inl f)) => if cw_in i n = true then cw_go nx L (.int (f i.toNatClampNeg) :: r) h else none
    | _ => none
  | _ => none
def s_iast (nx : Nat) : cw_S := fun _ L S h => match S with
  | .int x :: .int i :: .ref p :: r => match h[p]? with
    | some (.inl (0, n, .inl f)) => if cw_in i n = true then cw_go nx L r (h.set p (.inl (0, n, .inl (upd f i.toNatClampNeg x)))) else none
    | _ => none
  | _ => none
def s_lald (nx : Nat) : cw_S := fun _ L S h => match S with
  | .int i :: .ref p :: r => match h[p]? with
    | some (.inl (1, n, .inr (.inl f))) => if cw_in i n = true then cw_go nx L (.long (f i.toNatClampNeg) :: r) h else none
    | _ => none
  | _ => none
def s_last (nx : Nat) : cw_S := fun _ L S h => match S with
  | .long x :: .int i :: .ref p :: r => match h[p]? with
    | some (.inl (1, n, .inr (.inl f))) => if cw_in i n = true then cw_go nx L r (h.set p (.inl (1, n, .inr (.inl (vp_updL f i.toNatClampNeg x))))) else none
    | _ => none
  | _ => none
def s_aald (nx : Nat) : cw_S := fun _ L S h => match S with
  | .int i :: .ref p :: r => match h[p]? with
    | some (.inl (t + 2, n, .inr (.inr (.inr (.inr f))))) => if t < 2 ∧ cw_in i n = true then (match f i.toNatClampNeg with
      | some q => cw_go nx L (.ref q :: r) h
      | none => none) else none
    | _ => none
  | _ => none
/-- the classes of which rows are made: 2 Trees, 3 Parts; their numbers -/
def cw_rc (t : Nat) : Nat := if t = 2 then 6 else 2
def s_aast (nx : Nat) : cw_S := fun _ L S h => match S with
  | .ref v :: .int i :: .ref p :: r => match h[p]?, h[v]? with
    | some (.inl (t + 2, n, .inr (.inr (.inr (.inr f))))), some (.inr (c, _)) => if t < 2 ∧ c = cw_rc (t + 2) ∧ cw_in i n = true then cw_go nx L r (h.set p (.inl (t + 2, n, .inr (.inr (.inr (.inr (va_up f i.toNatClampNeg (some v)))))))) else none
    | _, _ => none
  | _ => none
def s_alen (nx : Nat) : cw_S := fun _ L S h => match S with
  | .ref p :: r => match h[p]? with
    | some (.inl (t, n, _)) => if t < 4 then cw_go nx L (.int (Int32.ofNat n) :: r) h else none
    | _ => none
  | _ => none
def s_new (ci : Nat) (fs : List Value) (nx : Nat) : cw_S := fun _ L S h => cw_ne (.inr (ci, fs)) fs.length nx L S h
/-- a new row of the kind t: 0 ints, 1 longs, 2 Trees, 3 Parts; at most 4096 long -/
def cw_row (t n : Nat) : Option cw_C := match t with
  | 0 => some (.inl (0, n, .inl (fun _ => 0)))
  | 1 => some (.inl (1, n, .inr (.inl (fun _ => 0))))
  | 2 => some (.inl (2, n, .inr (.inr (.inr (.inr (fun _ => none))))))
  | 3 => some (.inl (3, n, .inr (.inr (.inr (.inr (fun _ => none))))))
  | _ => none
def s_newa (t nx : Nat) : cw_S := fun _ L S h => match S with
  | .int n :: r => if ¬ n < 0 ∧ n.toNatClampNeg ≤ 4096 then (match cw_row t n.toNatClampNeg with
    | some c => cw_ne c n.toNatClampNeg nx L r h
    | none => none) else none
  | _ => none
/-- the last n operands, in the order of the arguments; what lies below them -/
def cw_pop (n : Nat) (S : List Value) : List Value × List Value := ((S.take n).reverse, S.drop n)
def s_callV (ci M n nx : Nat) : cw_S := fun d L S h => match cw_pop n S with
  | (as, .ref p :: r) => match h[p]? with
    | some (.inr (c, _)) => if 0 < d ∧ c = ci ∧ n ≤ S.length ∧ cw_ct r ≤ 8 then cw_ca M (.ref p :: as) nx L r h else none
    | _ => none
  | _ => none
def s_callS (M n nx : Nat) : cw_S := fun d L S h => match cw_pop n S with
  | (as, r) => if 0 < d ∧ n ≤ S.length ∧ cw_ct r ≤ 8 then cw_ca M as nx L r h else none
def s_callI (M n nx : Nat) : cw_S := fun d L S h => match cw_pop n S with
  | (as, .ref p :: r) => if 0 < d ∧ n ≤ S.length ∧ cw_ct r ≤ 8 then cw_ci M (.ref p :: as) nx L r h else none
  | _ => none
def s_obj (nx : Nat) : cw_S := fun d L S h => match S with
  | .ref _ :: r => if 0 < d ∧ cw_ct r ≤ 8 then cw_go nx L r h else none
  | _ => none
def s_max (nx : Nat) : cw_S := fun d L S h => match S with
  | .int y :: .int x :: r => if 0 < d ∧ cw_ct r ≤ 8 then cw_go nx L (.int (if x < y then y else x) :: r) h else none
  | _ => none
def s_min (nx : Nat) : cw_S := fun d L S h => match S with
  | .int y :: .int x :: r => if 0 < d ∧ cw_ct r ≤ 8 then cw_go nx L (.int (if y < x then y else x) :: r) h else none
  | _ => none
def s_abs (nx : Nat) : cw_S := fun d L S h => match S with
  | .int x :: r => if 0 < d ∧ cw_ct r ≤ 8 then cw_go nx L (.int (if 0 ≤ x then x else 0 - x) :: r) h else none
  | _ => none
def s_copy (nx : Nat) : cw_S := fun d L S h => match S with
  | .int n :: .int dp :: .ref q :: .int sp :: .ref p :: r => match h[p]?, h[q]? with
    | some (.inl (0, n0, .inl f)), some (.inl (0, n1, .inl g)) => if 0 < d ∧ cw_ct r ≤ 8 ∧ ¬ sp < 0 ∧ ¬ dp < 0 ∧ ¬ n < 0 ∧ sp.toNatClampNeg + n.toNatClampNeg ≤ n0 ∧ dp.toNatClampNeg + n.toNatClampNeg ≤ n1 then
        cw_go nx L r (h.set q (.inl (0, n1, .inl (va_cpy f g sp.toNatClampNeg dp.toNatClampNeg n.toNatClampNeg)))) else none
    | _, _ => none
  | _ => none
def s_iret : cw_S := fun _ _ S h => match S with
  | [.int x] => cw_re (some (.int x)) h
  | _ => none
def s_zret : cw_S := fun _ _ S h => match S with
  | [.int x] => if x = 0 ∨ x = 1 then cw_re (some (.int x)) h else none
  | _ => none
def s_lret : cw_S := fun _ _ S h => match S with
  | [.long x] => cw_re (some (.long x)) h
  | _ => none
def s_aret : cw_S := fun _ _ S h => match S with
  | [.ref x] => cw_re (some (.ref x)) h
  | _ => none
def s_vret : cw_S := fun _ _ S h => match S with
  | [] => cw_re none h
  | _ => none
/-! what must hold so that all goes well, and K, or at the return Q, holds behind it. cM, sM: the cells and slots that a constructor makes -/
def cw_wp (cM sM : Nat → Nat) (C : Nat → List Value → cw_H → (Option Value → cw_H → Prop) → Prop) (K : Nat → cw_L → List Value → cw_H → Prop) (Q : Option Value → cw_H → Prop) (bc bs : Nat) (a : Option cw_A) : Prop := match a with
  | none => False
  | some (.inl (pc, L, S, h)) => K pc L S h
  | some (.inr (.inl (b, t, f, L, S, h))) => (b = true → K t L S h) ∧ (b = false → K f L S h)
  | some (.inr (.inr (.inl (M, as, pc, L, S, h)))) => C M as h (fun r h' => K pc L (r.toList ++ S) h')
  | some (.inr (.inr (.inr (.inl (r, h))))) => Q r h
  | some (.inr (.inr (.inr (.inr (.inl (c, n, pc, L, S, h)))))) => (h.length + 1 ≤ bc ∧ cw_sl h + n ≤ bs ∧ cw_ho h.length h = true ∧ cw_lo h.length L = true ∧ cw_so h.length S = true) ∧ K pc L (.ref h.length :: S) (h ++ [c])
  | some (.inr (.inr (.inr (.inr (.inr (M, as, pc, L, S, h)))))) => (h.length + cM M ≤ bc ∧ cw_sl h + sM M ≤ bs ∧ cw_ho h.length h = true ∧ cw_lo h.length L = true ∧ cw_so h.length S = true) ∧ C M as h (fun r h' => r = none ∧ h'.length = h.length + cM M ∧ cw_sl h' = cw_sl h + sM M ∧ K pc L S h')
def cw_entry (n : Nat) (as : List Value) : cw_L := as.map some ++ List.replicate (n - as.length) none
/-- K is closed under the steps of the method M, from a start in h0 -/
def cw_Cl (tb : Nat → Nat → Option cw_S) (cM sM : Nat → Nat) (C : Nat → List Value → cw_H → (Option Value → cw_H → Prop) → Prop) (d M : Nat) (h0 : cw_H) (Q : Option Value → cw_H → Prop) (K : Nat → cw_L → List Value → cw_H → Prop) : Prop :=
  ∀ (pc : Nat) (L : cw_L) (S : List Value) (g : cw_H) (sem : cw_S), tb M pc = some sem → cw_wp cM sM C K Q (h0.length + cM M) (cw_sl h0 + sM M) (sem d L S g) → K pc L S g
def cw_aok (n : Nat) (as : List Value) : Bool := as.all (fun v => v.category == 1) && decide (as.length ≤ n)
/-- the method M, called at as in h, at most d calls deep: it returns, and Q -/
def cw_X (tb : Nat → Nat → Option cw_S) (mx cM sM : Nat → Nat) : Nat → Nat → List Value → cw_H → (Option Value → cw_H → Prop) → Prop
  | 0, M, as, h, Q => cw_aok (mx M) as = true ∧ ∀ K, cw_Cl tb cM sM (fun _ _ _ _ => False) 0 M h Q K → K 0 (cw_entry (mx M) as) [] h
  | d + 1, M, as, h, Q => cw_aok (mx M) as = true ∧ ∀ K, cw_Cl tb cM sM (cw_X tb mx cM sM d) (d + 1) M h Q K → K 0 (cw_entry (mx M) as) [] h
/-- a tableswitch -/
def s_table (lo : Int) (tg : List Nat) (dflt : Nat) : cw_S := fun _ L S h => match S with
  | .int x :: r => cw_go (if lo ≤ x.toInt ∧ x.toInt < lo + tg.length then tg.getD (x.toInt - lo).toNat dflt else dflt) L r h
  | _ => none
end
section
/-! THE ABSTRACT MACHINE'S WORLD IN THE REAL ONE -/
theorem cw_hd_set {h : cw_H} {p : Nat} {c c' : cw_C} (hp : h[p]? = some c) (hc : cw_sz c' = cw_sz c) : cw_hd (h.set p c') = cw_hd h := by
  unfold cw_hd
  rw [List.map_set, hc]
  apply List.ext_getElem?
  intro i
  rw [List.getElem?_set]
  split
  · rename_i e
    subst e
    rw [List.getElem?_map, hp]
    have : p < h.length := (List.getElem?_eq_some_iff.mp hp).1
    simp [this]
  · rfl
theorem cw_hd_len {h : cw_H} : (cw_hd h).length = h.length := by simp [cw_hd]
def cw_tr (ad : Nat → Nat) (v : Value) : Value := match v with
  | .ref k => .ref (ad k)
  | v => v
theorem cw_tr_cat (ad : Nat → Nat) (v : Value) : (cw_tr ad v).category = v.category := by cases v <;> rfl
def cw_tc (cs : Nat → ClassId) (ad : Nat → Nat) (c : cw_C) : va_E := match c with
  | .inl (t, n, .inr (.inr (.inr (.inr f)))) => .inl (cs t, n, .inr (.inr (.inr (.inr (fun j => (f j).map ad)))))
  | .inl (t, a) => .inl (cs t, a)
  | .inr (ci, fs) => .inr (ci, fs.map (cw_tr ad))
def cw_wd (cs : Nat → ClassId) (ad : Nat → Nat) (h : cw_H) : va_W := h.mapIdx fun k c => (ad k, cw_tc cs ad c)
theorem cw_wd_get {cs : Nat → ClassId} {ad : Nat → Nat} {h : cw_H} {p : Nat} {c : cw_C} (hp : h[p]? = some c) : (cw_wd cs ad h)[p]? = some (ad p, cw_tc cs ad c) := by
  unfold cw_wd
  rw [List.getElem?_mapIdx, hp]
  rfl
theorem cw_wd_set {cs : Nat → ClassId} {ad : Nat → Nat} {h : cw_H} {p : Nat} {c : cw_C} : (cw_wd cs ad h).set p (ad p, cw_tc cs ad c) = cw_wd cs ad (h.set p c) := by
  unfold cw_wd
  apply List.ext_getElem?
  intro i
  rw [List.getElem?_mapIdx, List.getElem?_set, List.getElem?_set, List.getElem?_mapIdx, List.length_mapIdx]
  split
  · rename_i e
    subst e
    split <;> rfl
  · rfl
theorem cw_wd_app {cs : Nat → ClassId} {ad ad' : Nat → Nat} {h : cw_H} {c : cw_C} (e : cw_wd cs ad' h = cw_wd cs ad h) : cw_wd cs ad' (h ++ [c]) = cw_wd cs ad h ++ [(ad' h.length, cw_tc cs ad' c)] := by
  rw [← e]
  unfold cw_wd
  rw [List.mapIdx_append]
  simp
/-- the cells' addresses are apart, and in A -/
def cw_ap (A : Nat → Prop) (ad : Nat → Nat) (n : Nat) : Prop := (∀ i j : Nat, i < n → j < n → ad i = ad j → i = j) ∧ ∀ i : Nat, i < n → A (ad i)
theorem cw_ap.D {A : Nat → Prop} {ad : Nat → Nat} {cs : Nat → ClassId} {h : cw_H} (a : cw_ap A ad h.length) : va_D A (cw_wd cs ad h) := by
  have g : ∀ (i : Nat) (p : Nat × va_E), (cw_wd cs ad h)[i]? = some p → i < h.length ∧ p.1 = ad i := by
    intro i p hi
    unfold cw_wd at hi
    rw [List.getElem?_mapIdx] at hi
    cases hc : h[i]? with
    | none => rw [hc] at hi; cases hi
    | some c =>
      rw [hc] at hi
      cases hi
      exact ⟨(List.getElem?_eq_some_iff.mp hc).1, rfl⟩
  refine ⟨fun i j p q hi hj e => ?_, fun k q hk => ?_⟩
  · obtain ⟨i1, i2⟩ := g i p hi
    obtain ⟨j1, j2⟩ := g j q hj
    exact a.1 i j i1 j1 (by rw [← i2, ← j2, e])
  · obtain ⟨i1, i2⟩ := g k q hk
    rw [i2]
    exact a.2 k i1
/-- the locals' known values -/
def cw_pr (ad : Nat → Nat) (L : cw_L) : List (Nat × Value) := (List.range L.length).filterMap fun i => match L[i]? with
  | some (some v) => some (i, cw_tr ad v)
  | _ => none
theorem cw_pr_mem {ad : Nat → Nat} {L : cw_L} {q : Nat × Value} : q ∈ cw_pr ad L ↔ ∃ v, L[q.1]? = some (some v) ∧ q.2 = cw_tr ad v := by
  unfold cw_pr
  rw [List.mem_filterMap]
  constructor
  · rintro ⟨i, hi, h⟩
    split at h
    · rename_i v e
      cases h
      exact ⟨v, e, rfl⟩
    · cases h
  · rintro ⟨v, h, e⟩
    refine ⟨q.1, List.mem_range.mpr (List.getElem?_eq_some_iff.mp h).1, ?_⟩
    rw [h]
    show some (q.1, cw_tr ad v) = some q
    rw [← e]
theorem cw_pr_get {ad : Nat → Nat} {L : cw_L} {ls : Array Slot} {nL i : Nat} {v : Value} (h : lv_has ls nL (cw_pr ad L)) (hv : L[i]? = some (some v)) : ls[i]? = some (.val (cw_tr ad v)) := h.2.2 (i, cw_tr ad v) (cw_pr_mem.mpr ⟨v, hv, rfl⟩)
theorem lv_has.le {ls : Array Slot} {nL : Nat} {l l' : List (Nat × Value)} (h : lv_has ls nL l) (hl : ∀ q ∈ l', q ∈ l) : lv_has ls nL l' := ⟨h.1, h.2.1, fun q hq => h.2.2 q (hl q hq)⟩
theorem cw_kill_len {i : Nat} {L : cw_L} : (cw_kill i L).length = L.length := by
  unfold cw_kill
  split
  · rfl
  · split <;> simp
theorem cw_kill_get {i j : Nat} {L : cw_L} {v : Value} (h : (cw_kill i L)[j]? = some (some v)) : L[j]? = some (some v) ∧ ¬ (j + 1 = i ∧ v.category = 2) := by
  unfold cw_kill at h
  split at h
  · exact ⟨h, by omega⟩
  · rename_i k
    split at h
    · rename_i x e
      rw [List.getElem?_set] at h
      split at h
      · split at h <;> cases h
      · rename_i n
        exact ⟨h, fun q => n (by omega)⟩
    · rename_i x e
      rw [List.getElem?_set] at h
      split at h
      · split at h <;> cases h
      · rename_i n
        exact ⟨h, fun q => n (by omega)⟩
    · rename_i n1 n2
      refine ⟨h, fun q => ?_⟩
      obtain ⟨q1, q2⟩ := q
      have hj : j = k := by omega
      subst hj
      cases v with
      | long x => exact n1 x h
      | double x => exact n2 x h
      | _ => cases q2
theorem cw_sto_len {i : Nat} {v : Value} {L : cw_L} : (cw_sto i v L).length = L.length := by simp [cw_sto, cw_kill_len]
theorem cw_stl_len {i : Nat} {v : Value} {L : cw_L} : (cw_stl i v L).length = L.length := by simp [cw_stl, cw_kill_len]
theorem cw_sto_has {ad : Nat → Nat} {L : cw_L} {ls : Array Slot} {nL i : Nat} {v : Value} (h : lv_has ls nL ((i, cw_tr ad v) :: (cw_pr ad L).filter (fun q => !(q.1 == i) && !(q.1 + 1 == i && q.2.category == 2)))) : lv_has ls nL (cw_pr ad (cw_sto i v L)) := by
  refine h.le fun q hq => ?_
  obtain ⟨w, hw, e⟩ := cw_pr_mem.mp hq
  unfold cw_sto at hw
  rw [List.getElem?_set] at hw
  split at hw
  · rename_i e2
    split at hw
    · cases hw
      obtain ⟨q1, q2⟩ := q
      cases e
      cases e2
      exact List.mem_cons_self
    · cases hw
  · rename_i n
    obtain ⟨g1, g2⟩ := cw_kill_get hw
    refine List.mem_cons_of_mem _ (List.mem_filter.mpr ⟨cw_pr_mem.mpr ⟨w, g1, e⟩, ?_⟩)
    rw [e, cw_tr_cat]
    have n2 : ¬ q.1 = i := fun z => n z.symm
    simp only [Bool.and_eq_true, Bool.not_eq_true', beq_eq_false_iff_ne, Bool.and_eq_false_iff]
    refine ⟨n2, ?_⟩
    rcases Nat.decEq (q.1 + 1) i with z | z
    · exact Or.inl z
    · exact Or.inr fun y => g2 ⟨z, y⟩
theorem cw_stl_has {ad : Nat → Nat} {L : cw_L} {ls : Array Slot} {nL i : Nat} {v : Value} (h : lv_has ls nL ((i, cw_tr ad v) :: (cw_pr ad L).filter (fun q => !(q.1 == i) && (!(q.1 == i + 1) && !(q.1 + 1 == i && q.2.category == 2))))) : lv_has ls nL (cw_pr ad (cw_stl i v L)) := by
  refine h.le fun q hq => ?_
  obtain ⟨w, hw, e⟩ := cw_pr_mem.mp hq
  unfold cw_stl at hw
  rw [List.getElem?_set] at hw
  split at hw
  · rename_i e2
    split at hw
    · cases hw
      obtain ⟨q1, q2⟩ := q
      cases e
      cases e2
      exact List.mem_cons_self
    · cases hw
  · rename_i n
    rw [List.getElem?_set] at hw
    split at hw
    · split at hw <;> cases hw
    · rename_i n3
      obtain ⟨g1, g2⟩ := cw_kill_get hw
      refine List.mem_cons_of_mem _ (List.mem_filter.mpr ⟨cw_pr_mem.mpr ⟨w, g1, e⟩, ?_⟩)
      rw [e, cw_tr_cat]
      have n2 : ¬ q.1 = i := fun z => n z.symm
      have n4 : ¬ q.1 = i + 1 := fun z => n3 z.symm
      simp only [Bool.and_eq_true, Bool.not_eq_true', beq_eq_false_iff_ne, Bool.and_eq_false_iff]
      refine ⟨n2, n4, ?_⟩
      rcases Nat.decEq (q.1 + 1) i with z | z
      · exact Or.inl z
      · exact Or.inr fun y => g2 ⟨z, y⟩
/-- the words of private members of nest mates; the rows of references -/
def cw_nest : List Cond := [.methodLinkNest RX7 17 ⟨RX2, "<init>", "()V"⟩ RX8, .methodLinkNest RX7 24 ⟨RX1, "<init>", "()V"⟩ RX8, .methodLinkNest RX8 25 ⟨RX3, "<init>", "()V"⟩ RX8, .methodLinkNest RX8 32 ⟨RX4, "<init>", "()V"⟩ RX8, .methodLinkNest RX8 46 ⟨RX5, "<init>", "()V"⟩ RX8, .methodLinkNest RX3 101 ⟨RX8, "distance", "(IIII)I"⟩ RX8]
def cw_N (U : State) : Prop := (∀ w ∈ cw_nest, va_Nw w U) ∧ va_AO RX6 U ∧ va_AO RX2 U
theorem cw_N.warm {s U : State} (hW : s.WarmedH U.vm) (h : cw_N s) : cw_N U := by
  refine ⟨fun w hw => ?_, h.2.1.moved hW.alike, h.2.2.moved hW.alike⟩
  have h1 := h.1 w hw
  simp only [cw_nest, List.mem_cons, List.not_mem_nil, or_false] at hw
  rcases hw with rfl | rfl | rfl | rfl | rfl | rfl <;> exact va_Nw.warmM hW h1
theorem cw_N.same {s U : State} (e : s.vm = U.vm) (h : cw_N s) : cw_N U := by
  refine ⟨fun w hw => ?_, h.2.1.moved (e ▸ Vm.Alike.refl s.vm), h.2.2.moved (e ▸ Vm.Alike.refl s.vm)⟩
  have h1 := h.1 w hw
  simp only [cw_nest, List.mem_cons, List.not_mem_nil, or_false] at hw
  rcases hw with rfl | rfl | rfl | rfl | rfl | rfl <;> exact va_Nw.same rfl e h1
def cw_ty (cs : Nat → ClassId) : List (ClassId × FieldType) := [(cs 0, .int), (cs 1, .long), (cs 2, .object RX6), (cs 3, .object RX2)]
def cw_K (D : va_G) (cs : Nat → ClassId) (U : State) : Prop := va_K D cw_cl (cw_ty cs) U ∧ cw_N U
theorem cw_K.warm {D : va_G} {cs : Nat → ClassId} {s U : State} (hW : s.WarmedH U.vm) (h : cw_K D cs s) : cw_K D cs U := ⟨va_K.moved hW.alike h.1, h.2.warm hW⟩
theorem cw_K.same {D : va_G} {cs : Nat → ClassId} {s U : State} (e : s.vm = U.vm) (h : cw_K D cs s) : cw_K D cs U := ⟨va_K.moved (e ▸ Vm.Alike.refl s.vm) h.1, h.2.same e⟩
/-- which addresses are a world's -/
def cw_Ad (ad : Nat → Nat) (n : Nat) : Nat → Prop := fun q => ∃ i : Nat, i < n ∧ q = ad i
def cw_rm (d mc ms : Nat) : Room := { frames := d, cells := mc, slots := ms, locals := 100 * d }
def cw_ws (M : Nat) : List Cond := Cond.code (cw_y M) (cw_b M) (cw_mx M) (cw_rt M) :: cw_t
def cw_PN (D : va_G) (cs : Nat → ClassId) (ad : Nat → Nat) (as : List Value) (h : cw_H) : Array Value → State → Prop := va_Pc (as.map (cw_tr ad)) (fun U => cw_K D cs U ∧ va_P D cw_cl (cw_wd cs ad h) U.heap)
def cw_QN (D : va_G) (cs : Nat → ClassId) (ad : Nat → Nat) (sh : List Nat) (Q : Option Value → cw_H → Prop) : Array Value → State → Outcome → State → Prop := fun _ st oc t =>
  (∃ (r : Option Value) (h' : cw_H), oc = .returned (r.map (cw_tr ad)) ∧ Q r h' ∧ cw_hd h' = sh ∧ va_P D cw_cl (cw_wd cs ad h') t.heap) ∧ va_F (cw_Ad ad sh.length) st t
/-- the contract of a method that makes no cells -/
def cw_MN (l : Launch) (D : va_G) (cs : Nat → ClassId) (ad : Nat → Nat) (d M : Nat) (as : List Value) (h : cw_H) (Q : Option Value → cw_H → Prop) : Prop :=
  Met l (cw_y M) (cw_ws M) (cw_rm d 0 0) (cw_PN D cs ad as h) (cw_QN D cs ad (cw_hd h) Q) 0 0 (cw_Ad ad (cw_hd h).length)
def cw_isN (M : Nat) : Bool := decide (M < 195) && ((cw_y M).name != "<init>") && decide (cw_mx M ≤ 40)
theorem cw_blind {D : va_G} {cs : Nat → ClassId} {ad : Nat → Nat} {as : List Value} {h : cw_H} : FrameBlind (cw_PN D cs ad as h) := fun a U g mk q => ⟨q.1, cw_K.same (s := U) (U := U.calling g mk a) rfl q.2.1, q.2.2⟩
theorem cw_good {M : Nat} (hM : M < 195) : GoodIn cw_t (cw_ws M) := by
  intro w hw
  rcases List.mem_cons.mp hw with rfl | h
  · have h1 := cw_code_in _ (cw_m_mem hM)
    exact ⟨h1, cw_t_good _ h1⟩
  · exact ⟨h, cw_t_good _ h⟩
theorem cw_goodW {Ts : List Cond} (h : ∀ w ∈ Ts, w ∈ cw_t) : GoodIn cw_t Ts := fun w hw => ⟨h w hw, cw_t_good _ (h w hw)⟩
theorem cw_facts {M : Nat} (hM : M < 195) : plainName (cw_y M).cls = true ∧ (cw_y M).cls ≠ "java/lang/invoke/MethodHandle" ∧ (cw_y M).cls ≠ "java/lang/invoke/VarHandle" ∧ (parseMethodDescriptor (cw_y M).desc).map (fun d => d.parameters.length) = some (cw_np M) := by
  have h := List.all_eq_true.mp cw_plain _ (cw_m_mem hM)
  simp only [Bool.and_eq_true, bne_iff_ne, decide_eq_true_eq] at h
  exact ⟨h.1.1.1, h.1.1.2, h.1.2, h.2⟩
/-- behind a call of a method that makes no cells -/
theorem cw_cont {p : Program} {l : Launch} {e : Env} {R : Room} {s : State} {m : MethodId} {args : Array Value} {below : List Frame} {meth : Method} {c : Code} {H : Heap} {locs : List Loc} {cells slots : Nat} {Q : State → Prop} {D : va_G} {cs : Nat → ClassId} {ad : Nat → Nat} {sh : List Nat} {A : Nat → Prop} {pc : Nat} {ls : Array Slot} {st0 rest : List Value} {a : Array Value} {Q' : Option Value → cw_H → Prop}
    (hr : va_Run p l e R s m args below meth c H locs cells slots 0 0 (F0 m pc ls st0) rest (cw_QN D cs ad sh Q' a) (cw_Ad ad sh.length)) (hS : va_S A s.heap H locs) (hA : ∀ q, cw_Ad ad sh.length q → A q)
    (kk : ∀ (r : Option Value) (h' : cw_H) (H1 : Heap) (locs1 : List Loc), Q' r h' → cw_hd h' = sh → va_P D cw_cl (cw_wd cs ad h') H1 → va_S A s.heap H1 locs1 → W p l e R s m args below meth c H1 locs1 cells slots Q (F0 m (pc + 3) ls ((r.map (cw_tr ad)).toList ++ rest))) : W p l e R s m args below meth c H locs cells slots Q (F0 m pc ls st0) := by
  intro T hT X
  obtain ⟨v, st₀, t, T', L, h0, X', hL, e1, e2, ⟨⟨r, h', hv, hq, hh, hP⟩, hz, hk⟩, st⟩ := hr T hT X
  cases hv
  rw [h0] at hz hk
  obtain ⟨t2, a1, b1⟩ := kk r h' T'.heap (locs ++ L) hq hh (by rw [e1]; exact hP)
    ⟨Nat.le_trans hS.1 (by rw [e1]; exact hz), fun q h1 h2 => by rw [e1, hk q (Nat.lt_of_lt_of_le h1 hS.1) (fun z => h2 (hA q z))]; exact hS.2.1 q h1 h2, fun q hq => by
      rcases List.mem_append.mp hq with h | h
      · exact hS.2.2 q h
      · exact hA _ (hL q h)⟩ T' rfl X'
  exact ⟨t2, st t2 a1, b1⟩
end
section
/-! AN INSTRUCTION OF THE ABSTRACT MACHINE IS THE REAL ONE -/
def cw_G (p : Program) (l : Launch) (e : Env) (R : Room) (s : State) (m : MethodId) (args : Array Value) (below : List Frame) (meth : Method) (c : Code) (D : va_G) (cs : Nat → ClassId) (ad : Nat → Nat) (A : Nat → Prop) (sh : List Nat) (cells slots : Nat) (Qf : State → Prop) (pc : Nat) (L : cw_L) (S : List Value) (h : cw_H) : Prop :=
  cw_hd h = sh → L.length = c.maxLocals → ∀ (H : Heap) (locs : List Loc) (ls : Array Slot), va_P D cw_cl (cw_wd cs ad h) H → va_S A s.heap H locs → lv_has ls c.maxLocals (cw_pr ad L) → W p l e R s m args below meth c H locs cells slots Qf (F0 m pc ls (S.map (cw_tr ad)))
/-- what is known inside the method M: the machine, the tables, the world's kinds, the room, the contracts of what is called, the end -/
def cw_Cx (p : Program) (l : Launch) (R : Room) (s : State) (m : MethodId) (args : Array Value) (meth : Method) (c : Code) (M : Nat) (D : va_G) (cs : Nat → ClassId) (ad : Nat → Nat) (A : Nat → Prop) (sh : List Nat) (cells slots mc ms : Nat) (Qc : Array Value → State → Outcome → State → Prop) (free : Addr → Prop) (d : Nat) (C : Nat → List Value → cw_H → (Option Value → cw_H → Prop) → Prop) (Q : Option Value → cw_H → Prop) : Prop :=
  (p.tables.exec = Jvm.exec ∧ c.code = cw_b M ∧ c.maxLocals = cw_mx M ∧ meth.sig.returnType = cw_rt M ∧ meth.locks = false ∧ s.vm.findClass (cw_y M).cls = some m.cls ∧ (∀ w ∈ cw_t, w.before args s = true) ∧ meth.name = (cw_y M).name) ∧
  cw_K D cs s ∧ cw_ap A ad sh.length ∧ (d ≤ R.frames ∧ 100 * d ≤ R.locals ∧ cells ≤ R.cells ∧ slots ≤ R.slots) ∧ (cells ≤ mc ∧ slots ≤ ms) ∧
  (∀ (M' : Nat) (as : List Value) (h : cw_H) (Q' : Option Value → cw_H → Prop), cw_isN M' = true → C M' as h Q' → cw_hd h = sh → ∃ d' : Nat, d = d' + 1 ∧ cw_MN l D cs ad d' M' as h Q') ∧
  (∀ (r : Option Value) (h' : cw_H) (t : State) (locs : List Loc), Q r h' → cw_hd h' = sh → va_P D cw_cl (cw_wd cs ad h') t.heap → s.WarmedH t.vm → va_S A s.heap t.heap locs → Qc args s (.returned (r.map (cw_tr ad))) t) ∧ (∀ q, A q → free q)
/-- the instruction at pc in the method M is the abstract sem -/
def cw_SN (cM sM : Nat → Nat) (M pc : Nat) (sem : cw_S) : Prop := ∀ (p : Program) (l : Launch) (e : Env) (R : Room) (s : State) (m : MethodId) (args : Array Value) (below : List Frame) (meth : Method) (c : Code) (D : va_G) (cs : Nat → ClassId) (ad : Nat → Nat) (A : Nat → Prop) (sh : List Nat) (cells slots mc ms : Nat) (Qc : Array Value → State → Outcome → State → Prop) (free : Addr → Prop) (d : Nat) (C : Nat → List Value → cw_H → (Option Value → cw_H → Prop) → Prop) (Q : Option Value → cw_H → Prop) (L : cw_L) (S : List Value) (h : cw_H),
  cw_Cx p l R s m args meth c M D cs ad A sh cells slots mc ms Qc free d C Q →
  (∃ bc bs : Nat, cw_wp cM sM C (cw_G p l e R s m args below meth c D cs ad A sh cells slots (MQ below Qc args s mc ms free)) Q bc bs (sem d L S h)) → cw_G p l e R s m args below meth c D cs ad A sh cells slots (MQ below Qc args s mc ms free) pc L S h
section
variable {cM sM : Nat → Nat} {M pc : Nat}
theorem so_iload_n {k : Fin 4} {i : Nat} (hd : decode (cw_b M) pc = .ok (.iload_n k, 1)) (hi : (k : Nat) = i) : cw_SN cM sM M pc (s_iload i (pc + 1)) := by
  intro p l e R s m args below meth c D cs ad A sh cells slots mc ms Qc free d C Q L S h X ⟨bc, bs, hw⟩ hsh hL H locs ls hP hS hl
  obtain ⟨⟨hx, hb, -⟩, -⟩ := X
  unfold s_iload at hw
  split at hw
  · rename_i x hv
    exact lv_iload_n hx hb hd hi (cw_pr_get hl hv) (hw hsh hL H locs ls hP hS hl)
  · exact hw.elim
theorem so_iload {i : Nat} (hd : decode (cw_b M) pc = .ok (.iload i, 2)) : cw_SN cM sM M pc (s_iload i (pc + 2)) := by
  intro p l e R s m args below meth c D cs ad A sh cells slots mc ms Qc free d C Q L S h X ⟨bc, bs, hw⟩ hsh hL H locs ls hP hS hl
  obtain ⟨⟨hx, hb, -⟩, -⟩ := X
  unfold s_iload at hw
  split at hw
  · rename_i x hv
    exact lv_iload hx hb hd (cw_pr_get hl hv) (hw hsh hL H locs ls hP hS hl)
  · exact hw.elim
theorem so_lload_n {k : Fin 4} {i : Nat} (hd : decode (cw_b M) pc = .ok (.lload_n k, 1)) (hi : (k : Nat) = i) : cw_SN cM sM M pc (s_lload i (pc + 1)) := by
  intro p l e R s m args below meth c D cs ad A sh cells slots mc ms Qc free d C Q L S h X ⟨bc, bs, hw⟩ hsh hL H locs ls hP hS hl
  obtain ⟨⟨hx, hb, -⟩, -⟩ := X
  unfold s_lload at hw
  split at hw
  · rename_i x hv
    exact lv_lload_n hx hb hd hi (cw_pr_get hl hv) (hw hsh hL H locs ls hP hS hl)
  · exact hw.elim
theorem so_lload {i : Nat} (hd : decode (cw_b M) pc = .ok (.lload i, 2)) : cw_SN cM sM M pc (s_lload i (pc + 2)) := by
  intro p l e R s m args below meth c D cs ad A sh cells slots mc ms Qc free d C Q L S h X ⟨bc, bs, hw⟩ hsh hL H locs ls hP hS hl
  obtain ⟨⟨hx, hb, -⟩, -⟩ := X
  unfold s_lload at hw
  split at hw
  · rename_i x hv
    exact lv_lload hx hb hd (cw_pr_get hl hv) (hw hsh hL H locs ls hP hS hl)
  · exact hw.elim
theorem so_aload_n {k : Fin 4} {i : Nat} (hd : decode (cw_b M) pc = .ok (.aload_n k, 1)) (hi : (k : Nat) = i) : cw_SN cM sM M pc (s_aload i (pc + 1)) := by
  intro p l e R s m args below meth c D cs ad A sh cells slots mc ms Qc free d C Q L S h X ⟨bc, bs, hw⟩ hsh hL H locs ls hP hS hl
  obtain ⟨⟨hx, hb, -⟩, -⟩ := X
  unfold s_aload at hw
  split at hw
  · rename_i x hv
    exact lv_aload_n hx hb hd hi (cw_pr_get hl hv) (hw hsh hL H locs ls hP hS hl)
  · exact hw.elim
theorem so_aload {i : Nat} (hd : decode (cw_b M) pc = .ok (.aload i, 2)) : cw_SN cM sM M pc (s_aload i (pc + 2)) := by
  intro p l e R s m args below meth c D cs ad A sh cells slots mc ms Qc free d C Q L S h X ⟨bc, bs, hw⟩ hsh hL H locs ls hP hS hl
  obtain ⟨⟨hx, hb, -⟩, -⟩ := X
  unfold s_aload at hw
  split at hw
  · rename_i x hv
    exact lv_aload hx hb hd (cw_pr_get hl hv) (hw hsh hL H locs ls hP hS hl)
  · exact hw.elim
theorem so_istore_n {k : Fin 4} {i : Nat} (hd : decode (cw_b M) pc = .ok (.istore_n k, 1)) (hi : (k : Nat) = i) : cw_SN cM sM M pc (s_istore i (pc + 1)) := by
  intro p l e R s m args below meth c D cs ad A sh cells slots mc ms Qc free d C Q L S h X ⟨bc, bs, hw⟩ hsh hL H locs ls hP hS hl
  obtain ⟨⟨hx, hb, -⟩, -⟩ := X
  unfold s_istore at hw
  split at hw
  · rename_i x r
    split at hw
    · rename_i hlt
      exact lv_istore_n hx hb hd hi hl (by omega) rfl (fun ls' hl' => hw hsh (by rw [cw_sto_len]; exact hL) H locs ls' hP hS (cw_sto_has hl'))
    · exact hw.elim
  · exact hw.elim
theorem so_istore {i : Nat} (hd : decode (cw_b M) pc = .ok (.istore i, 2)) : cw_SN cM sM M pc (s_istore i (pc + 2)) := by
  intro p l e R s m args below meth c D cs ad A sh cells slots mc ms Qc free d C Q L S h X ⟨bc, bs, hw⟩ hsh hL H locs ls hP hS hl
  obtain ⟨⟨hx, hb, -⟩, -⟩ := X
  unfold s_istore at hw
  split at hw
  · rename_i x r
    split at hw
    · rename_i hlt
      exact lv_istore hx hb hd hl (by omega) rfl (fun ls' hl' => hw hsh (by rw [cw_sto_len]; exact hL) H locs ls' hP hS (cw_sto_has hl'))
    · exact hw.elim
  · exact hw.elim
theorem so_astore_n {k : Fin 4} {i : Nat} (hd : decode (cw_b M) pc = .ok (.astore_n k, 1)) (hi : (k : Nat) = i) : cw_SN cM sM M pc (s_astore i (pc + 1)) := by
  intro p l e R s m args below meth c D cs ad A sh cells slots mc ms Qc free d C Q L S h X ⟨bc, bs, hw⟩ hsh hL H locs ls hP hS hl
  obtain ⟨⟨hx, hb, -⟩, -⟩ := X
  unfold s_astore at hw
  split at hw
  · rename_i x r
    split at hw
    · rename_i hlt
      exact lv_astore_n hx hb hd hi hl (by omega) rfl (fun ls' hl' => hw hsh (by rw [cw_sto_len]; exact hL) H locs ls' hP hS (cw_sto_has hl'))
    · exact hw.elim
  · exact hw.elim
theorem so_astore {i : Nat} (hd : decode (cw_b M) pc = .ok (.astore i, 2)) : cw_SN cM sM M pc (s_astore i (pc + 2)) := by
  intro p l e R s m args below meth c D cs ad A sh cells slots mc ms Qc free d C Q L S h X ⟨bc, bs, hw⟩ hsh hL H locs ls hP hS hl
  obtain ⟨⟨hx, hb, -⟩, -⟩ := X
  unfold s_astore at hw
  split at hw
  · rename_i x r
    split at hw
    · rename_i hlt
      exact lv_astore hx hb hd hl (by omega) rfl (fun ls' hl' => hw hsh (by rw [cw_sto_len]; exact hL) H locs ls' hP hS (cw_sto_has hl'))
    · exact hw.elim
  · exact hw.elim
theorem so_lstore_n {k : Fin 4} {i : Nat} (hd : decode (cw_b M) pc = .ok (.lstore_n k, 1)) (hi : (k : Nat) = i) : cw_SN cM sM M pc (s_lstore i (pc + 1)) := by
  intro p l e R s m args below meth c D cs ad A sh cells slots mc ms Qc free d C Q L S h X ⟨bc, bs, hw⟩ hsh hL H locs ls hP hS hl
  obtain ⟨⟨hx, hb, -⟩, -⟩ := X
  unfold s_lstore at hw
  split at hw
  · rename_i x r
    split at hw
    · rename_i hlt
      exact lv_lstore_n hx hb hd hi hl (by omega) rfl (fun ls' hl' => hw hsh (by rw [cw_stl_len]; exact hL) H locs ls' hP hS (cw_stl_has hl'))
    · exact hw.elim
  · exact hw.elim
theorem so_lstore {i : Nat} (hd : decode (cw_b M) pc = .ok (.lstore i, 2)) : cw_SN cM sM M pc (s_lstore i (pc + 2)) := by
  intro p l e R s m args below meth c D cs ad A sh cells slots mc ms Qc free d C Q L S h X ⟨bc, bs, hw⟩ hsh hL H locs ls hP hS hl
  obtain ⟨⟨hx, hb, -⟩, -⟩ := X
  unfold s_lstore at hw
  split at hw
  · rename_i x r
    split at hw
    · rename_i hlt
      exact lv_lstore hx hb hd hl (by omega) rfl (fun ls' hl' => hw hsh (by rw [cw_stl_len]; exact hL) H locs ls' hP hS (cw_stl_has hl'))
    · exact hw.elim
  · exact hw.elim
theorem so_iinc {i : Nat} {n : Int} {v : Int32} (hd : decode (cw_b M) pc = .ok (.iinc i n, 3)) (hv : Int32.ofInt n = v) : cw_SN cM sM M pc (s_iinc i v (pc + 3)) := by
  intro p l e R s m args below meth c D cs ad A sh cells slots mc ms Qc free d C Q L S h X ⟨bc, bs, hw⟩ hsh hL H locs ls hP hS hl
  obtain ⟨⟨hx, hb, -⟩, -⟩ := X
  subst hv
  unfold s_iinc at hw
  split at hw
  · rename_i x hx2
    have hm : (i, Value.int x) ∈ cw_pr ad L := cw_pr_mem.mpr ⟨.int x, hx2, rfl⟩
    obtain ⟨k, hk⟩ := List.getElem?_of_mem hm
    have hlt : i < L.length := (List.getElem?_eq_some_iff.mp hx2).1
    exact lv_iinc hx hb hd hl hk rfl (by omega) rfl (fun ls' hl' => hw hsh (by rw [cw_sto_len]; exact hL) H locs ls' hP hS (cw_sto_has hl'))
  · exact hw.elim
theorem so_iconst {n : Int} {v : Int32} (hd : decode (cw_b M) pc = .ok (.iconst n, 1)) (hv : Int32.ofInt n = v) : cw_SN cM sM M pc (s_iconst v (pc + 1)) := by
  intro p l e R s m args below meth c D cs ad A sh cells slots mc ms Qc free d C Q L S h X ⟨bc, bs, hw⟩ hsh hL H locs ls hP hS hl
  obtain ⟨⟨hx, hb, -⟩, -⟩ := X
  exact lv_iconst hx hb hd hv (hw hsh hL H locs ls hP hS hl)
theorem so_bipush {n : Int} {v : Int32} (hd : decode (cw_b M) pc = .ok (.bipush n, 2)) (hv : (Int8.ofInt n).toInt32 = v) : cw_SN cM sM M pc (s_iconst v (pc + 2)) := by
  intro p l e R s m args below meth c D cs ad A sh cells slots mc ms Qc free d C Q L S h X ⟨bc, bs, hw⟩ hsh hL H locs ls hP hS hl
  obtain ⟨⟨hx, hb, -⟩, -⟩ := X
  exact lv_bipush hx hb hd hv (hw hsh hL H locs ls hP hS hl)
theorem so_sipush {n : Int} {v : Int32} (hd : decode (cw_b M) pc = .ok (.sipush n, 3)) (hv : (Int16.ofInt n).toInt32 = v) : cw_SN cM sM M pc (s_iconst v (pc + 3)) := by
  intro p l e R s m args below meth c D cs ad A sh cells slots mc ms Qc free d C Q L S h X ⟨bc, bs, hw⟩ hsh hL H locs ls hP hS hl
  obtain ⟨⟨hx, hb, -⟩, -⟩ := X
  exact lv_sipush hx hb hd hv (hw hsh hL H locs ls hP hS hl)
theorem so_ldc {i : Nat} {v : Int32} (hd : decode (cw_b M) pc = .ok (.ldc i, 2)) (hc : Cond.constant (cw_y M).cls i v ∈ cw_t) : cw_SN cM sM M pc (s_iconst v (pc + 2)) := by
  intro p l e R s m args below meth c D cs ad A sh cells slots mc ms Qc free d C Q L S h X ⟨bc, bs, hw⟩ hsh hL H locs ls hP hS hl
  obtain ⟨⟨hx, hb, -, -, -, hown, hts, -⟩, -⟩ := X
  exact lv_ldc hx hb hown (hts _ hc) hd (hw hsh hL H locs ls hP hS hl)
theorem so_ldc2 {i : Nat} {v : Int64} (hd : decode (cw_b M) pc = .ok (.ldc2_w i, 3)) (hc : Cond.constantLong (cw_y M).cls i v ∈ cw_t) : cw_SN cM sM M pc (s_lconst v (pc + 3)) := by
  intro p l e R s m args below meth c D cs ad A sh cells slots mc ms Qc free d C Q L S h X ⟨bc, bs, hw⟩ hsh hL H locs ls hP hS hl
  obtain ⟨⟨hx, hb, -, -, -, hown, hts, -⟩, -⟩ := X
  exact lv_ldc2 hx hb hown (hts _ hc) hd (hw hsh hL H locs ls hP hS hl)
theorem so_lconst {n : Fin 2} {v : Int64} (hd : decode (cw_b M) pc = .ok (.lconst n, 1)) (hv : Int64.ofNat (n : Nat) = v) : cw_SN cM sM M pc (s_lconst v (pc + 1)) := by
  intro p l e R s m args below meth c D cs ad A sh cells slots mc ms Qc free d C Q L S h X ⟨bc, bs, hw⟩ hsh hL H locs ls hP hS hl
  obtain ⟨⟨hx, hb, -⟩, -⟩ := X
  exact lv_lconst hx hb hd hv (hw hsh hL H locs ls hP hS hl)
end
end
section
section
variable {cM sM : Nat → Nat} {M pc : Nat}
theorem so_iadd (hd : decode (cw_b M) pc = .ok (.iadd, 1)) : cw_SN cM sM M pc (s_ibin (fun x y => x + y) (pc + 1)) := by
  intro p l e R s m args below meth c D cs ad A sh cells slots mc ms Qc free d C Q L S h X ⟨bc, bs, hw⟩ hsh hL H locs ls hP hS hl
  obtain ⟨⟨hx, hb, -⟩, -⟩ := X
  unfold s_ibin at hw
  split at hw
  · exact lv_iadd hx hb hd (hw hsh hL H locs ls hP hS hl)
  · exact hw.elim
theorem so_isub (hd : decode (cw_b M) pc = .ok (.isub, 1)) : cw_SN cM sM M pc (s_ibin (fun x y => x - y) (pc + 1)) := by
  intro p l e R s m args below meth c D cs ad A sh cells slots mc ms Qc free d C Q L S h X ⟨bc, bs, hw⟩ hsh hL H locs ls hP hS hl
  obtain ⟨⟨hx, hb, -⟩, -⟩ := X
  unfold s_ibin at hw
  split at hw
  · exact lv_isub hx hb hd (hw hsh hL H locs ls hP hS hl)
  · exact hw.elim
theorem so_imul (hd : decode (cw_b M) pc = .ok (.imul, 1)) : cw_SN cM sM M pc (s_ibin (fun x y => x * y) (pc + 1)) := by
  intro p l e R s m args below meth c D cs ad A sh cells slots mc ms Qc free d C Q L S h X ⟨bc, bs, hw⟩ hsh hL H locs ls hP hS hl
  obtain ⟨⟨hx, hb, -⟩, -⟩ := X
  unfold s_ibin at hw
  split at hw
  · exact lv_imul hx hb hd (hw hsh hL H locs ls hP hS hl)
  · exact hw.elim
theorem so_iand (hd : decode (cw_b M) pc = .ok (.iand, 1)) : cw_SN cM sM M pc (s_ibin (fun x y => x &&& y) (pc + 1)) := by
  intro p l e R s m args below meth c D cs ad A sh cells slots mc ms Qc free d C Q L S h X ⟨bc, bs, hw⟩ hsh hL H locs ls hP hS hl
  obtain ⟨⟨hx, hb, -⟩, -⟩ := X
  unfold s_ibin at hw
  split at hw
  · exact lv_iand hx hb hd (hw hsh hL H locs ls hP hS hl)
  · exact hw.elim
theorem so_ior (hd : decode (cw_b M) pc = .ok (.ior, 1)) : cw_SN cM sM M pc (s_ibin (fun x y => x ||| y) (pc + 1)) := by
  intro p l e R s m args below meth c D cs ad A sh cells slots mc ms Qc free d C Q L S h X ⟨bc, bs, hw⟩ hsh hL H locs ls hP hS hl
  obtain ⟨⟨hx, hb, -⟩, -⟩ := X
  unfold s_ibin at hw
  split at hw
  · exact lv_ior hx hb hd (hw hsh hL H locs ls hP hS hl)
  · exact hw.elim
theorem so_ishl (hd : decode (cw_b M) pc = .ok (.ishl, 1)) : cw_SN cM sM M pc (s_ibin (fun x y => x <<< (y &&& 31)) (pc + 1)) := by
  intro p l e R s m args below meth c D cs ad A sh cells slots mc ms Qc free d C Q L S h X ⟨bc, bs, hw⟩ hsh hL H locs ls hP hS hl
  obtain ⟨⟨hx, hb, -⟩, -⟩ := X
  unfold s_ibin at hw
  split at hw
  · exact lv_ishl hx hb hd (hw hsh hL H locs ls hP hS hl)
  · exact hw.elim
theorem so_ladd (hd : decode (cw_b M) pc = .ok (.ladd, 1)) : cw_SN cM sM M pc (s_lbin (fun x y => x + y) (pc + 1)) := by
  intro p l e R s m args below meth c D cs ad A sh cells slots mc ms Qc free d C Q L S h X ⟨bc, bs, hw⟩ hsh hL H locs ls hP hS hl
  obtain ⟨⟨hx, hb, -⟩, -⟩ := X
  unfold s_lbin at hw
  split at hw
  · exact lv_ladd hx hb hd (hw hsh hL H locs ls hP hS hl)
  · exact hw.elim
theorem so_lmul (hd : decode (cw_b M) pc = .ok (.lmul, 1)) : cw_SN cM sM M pc (s_lbin (fun x y => x * y) (pc + 1)) := by
  intro p l e R s m args below meth c D cs ad A sh cells slots mc ms Qc free d C Q L S h X ⟨bc, bs, hw⟩ hsh hL H locs ls hP hS hl
  obtain ⟨⟨hx, hb, -⟩, -⟩ := X
  unfold s_lbin at hw
  split at hw
  · exact lv_lmul hx hb hd (hw hsh hL H locs ls hP hS hl)
  · exact hw.elim
theorem so_lcmp (hd : decode (cw_b M) pc = .ok (.lcmp, 1)) : cw_SN cM sM M pc (s_lcmp (pc + 1)) := by
  intro p l e R s m args below meth c D cs ad A sh cells slots mc ms Qc free d C Q L S h X ⟨bc, bs, hw⟩ hsh hL H locs ls hP hS hl
  obtain ⟨⟨hx, hb, -⟩, -⟩ := X
  unfold s_lcmp at hw
  split at hw
  · exact W.lcmp hx hb hd (hw hsh hL H locs ls hP hS hl)
  · exact hw.elim
theorem so_ineg (hd : decode (cw_b M) pc = .ok (.ineg, 1)) : cw_SN cM sM M pc (s_ineg (pc + 1)) := by
  intro p l e R s m args below meth c D cs ad A sh cells slots mc ms Qc free d C Q L S h X ⟨bc, bs, hw⟩ hsh hL H locs ls hP hS hl
  obtain ⟨⟨hx, hb, -⟩, -⟩ := X
  unfold s_ineg at hw
  split at hw
  · exact lv_ineg hx hb hd (hw hsh hL H locs ls hP hS hl)
  · exact hw.elim
theorem so_i2l (hd : decode (cw_b M) pc = .ok (.i2l, 1)) : cw_SN cM sM M pc (s_i2l (pc + 1)) := by
  intro p l e R s m args below meth c D cs ad A sh cells slots mc ms Qc free d C Q L S h X ⟨bc, bs, hw⟩ hsh hL H locs ls hP hS hl
  obtain ⟨⟨hx, hb, -⟩, -⟩ := X
  unfold s_i2l at hw
  split at hw
  · exact lv_i2l hx hb hd rfl (hw hsh hL H locs ls hP hS hl)
  · exact hw.elim
theorem so_idiv (hd : decode (cw_b M) pc = .ok (.idiv, 1)) : cw_SN cM sM M pc (s_idiv (fun x y => x / y) (pc + 1)) := by
  intro p l e R s m args below meth c D cs ad A sh cells slots mc ms Qc free d C Q L S h X ⟨bc, bs, hw⟩ hsh hL H locs ls hP hS hl
  obtain ⟨⟨hx, hb, -⟩, -⟩ := X
  unfold s_idiv at hw
  split at hw
  · split at hw
    · exact hw.elim
    · rename_i hne
      exact lv_idiv hx hb hd hne (hw hsh hL H locs ls hP hS hl)
  · exact hw.elim
theorem so_irem (hd : decode (cw_b M) pc = .ok (.irem, 1)) : cw_SN cM sM M pc (s_idiv (fun x y => x - x / y * y) (pc + 1)) := by
  intro p l e R s m args below meth c D cs ad A sh cells slots mc ms Qc free d C Q L S h X ⟨bc, bs, hw⟩ hsh hL H locs ls hP hS hl
  obtain ⟨⟨hx, hb, -⟩, -⟩ := X
  unfold s_idiv at hw
  split at hw
  · split at hw
    · exact hw.elim
    · rename_i hne
      exact lv_irem hx hb hd hne (hw hsh hL H locs ls hP hS hl)
  · exact hw.elim
theorem so_dup (hd : decode (cw_b M) pc = .ok (.dup, 1)) : cw_SN cM sM M pc (s_dup (pc + 1)) := by
  intro p l e R s m args below meth c D cs ad A sh cells slots mc ms Qc free d C Q L S h X ⟨bc, bs, hw⟩ hsh hL H locs ls hP hS hl
  obtain ⟨⟨hx, hb, -⟩, -⟩ := X
  unfold s_dup at hw
  split at hw
  · split at hw
    · rename_i hc
      exact lv_dup hx hb hd (by rw [cw_tr_cat]; exact hc) (hw hsh hL H locs ls hP hS hl)
    · exact hw.elim
  · exact hw.elim
theorem so_pop (hd : decode (cw_b M) pc = .ok (.pop, 1)) : cw_SN cM sM M pc (s_pop (pc + 1)) := by
  intro p l e R s m args below meth c D cs ad A sh cells slots mc ms Qc free d C Q L S h X ⟨bc, bs, hw⟩ hsh hL H locs ls hP hS hl
  obtain ⟨⟨hx, hb, -⟩, -⟩ := X
  unfold s_pop at hw
  split at hw
  · split at hw
    · rename_i hc
      exact lv_pop hx hb hd (by rw [cw_tr_cat]; exact hc) (hw hsh hL H locs ls hP hS hl)
    · exact hw.elim
  · exact hw.elim
theorem so_dup2 (hd : decode (cw_b M) pc = .ok (.dup2, 1)) : cw_SN cM sM M pc (s_dup2 (pc + 1)) := by
  intro p l e R s m args below meth c D cs ad A sh cells slots mc ms Qc free d C Q L S h X ⟨bc, bs, hw⟩ hsh hL H locs ls hP hS hl
  obtain ⟨⟨hx, hb, -⟩, -⟩ := X
  unfold s_dup2 at hw
  split at hw
  · split at hw
    · rename_i hc
      exact lv_dup2_11 hx hb hd (by rw [cw_tr_cat]; exact hc.1) (by rw [cw_tr_cat]; exact hc.2) (hw hsh hL H locs ls hP hS hl)
    · exact hw.elim
  · exact hw.elim
theorem so_goto {off : Int} {t : Nat} (hd : decode (cw_b M) pc = .ok (.goto off, 3)) (ht : (pc : Int) + off = (t : Int)) : cw_SN cM sM M pc (s_goto t) := by
  intro p l e R s m args below meth c D cs ad A sh cells slots mc ms Qc free d C Q L S h X ⟨bc, bs, hw⟩ hsh hL H locs ls hP hS hl
  obtain ⟨⟨hx, hb, -⟩, -⟩ := X
  exact lv_goto hx hb hd ht (hw hsh hL H locs ls hP hS hl)
theorem so_if_eq {off : Int} {t : Nat} (hd : decode (cw_b M) pc = .ok (.ifCond .eq off, 3)) (ht : (pc : Int) + off = (t : Int)) : cw_SN cM sM M pc (s_if (fun x => decide (x = 0)) t (pc + 3)) := by
  intro p l e R s m args below meth c D cs ad A sh cells slots mc ms Qc free d C Q L S h X ⟨bc, bs, hw⟩ hsh hL H locs ls hP hS hl
  obtain ⟨⟨hx, hb, -⟩, -⟩ := X
  unfold s_if at hw
  split at hw
  · exact lv_if_eq hx hb hd ht (fun q => hw.1 (decide_eq_true q) hsh hL H locs ls hP hS hl) (fun q => hw.2 (decide_eq_false q) hsh hL H locs ls hP hS hl)
  · exact hw.elim
theorem so_icmp_eq {off : Int} {t : Nat} (hd : decode (cw_b M) pc = .ok (.if_icmp .eq off, 3)) (ht : (pc : Int) + off = (t : Int)) : cw_SN cM sM M pc (s_icmp (fun x y => decide (x = y)) t (pc + 3)) := by
  intro p l e R s m args below meth c D cs ad A sh cells slots mc ms Qc free d C Q L S h X ⟨bc, bs, hw⟩ hsh hL H locs ls hP hS hl
  obtain ⟨⟨hx, hb, -⟩, -⟩ := X
  unfold s_icmp at hw
  split at hw
  · exact lv_icmp_eq hx hb hd ht (fun q => hw.1 (decide_eq_true q) hsh hL H locs ls hP hS hl) (fun q => hw.2 (decide_eq_false q) hsh hL H locs ls hP hS hl)
  · exact hw.elim
theorem so_if_ne {off : Int} {t : Nat} (hd : decode (cw_b M) pc = .ok (.ifCond .ne off, 3)) (ht : (pc : Int) + off = (t : Int)) : cw_SN cM sM M pc (s_if (fun x => decide (¬ x = 0)) t (pc + 3)) := by
  intro p l e R s m args below meth c D cs ad A sh cells slots mc ms Qc free d C Q L S h X ⟨bc, bs, hw⟩ hsh hL H locs ls hP hS hl
  obtain ⟨⟨hx, hb, -⟩, -⟩ := X
  unfold s_if at hw
  split at hw
  · exact lv_if_ne hx hb hd ht (fun q => hw.1 (decide_eq_true q) hsh hL H locs ls hP hS hl) (fun q => hw.2 (decide_eq_false (fun z => z q)) hsh hL H locs ls hP hS hl)
  · exact hw.elim
theorem so_icmp_ne {off : Int} {t : Nat} (hd : decode (cw_b M) pc = .ok (.if_icmp .ne off, 3)) (ht : (pc : Int) + off = (t : Int)) : cw_SN cM sM M pc (s_icmp (fun x y => decide (¬ x = y)) t (pc + 3)) := by
  intro p l e R s m args below meth c D cs ad A sh cells slots mc ms Qc free d C Q L S h X ⟨bc, bs, hw⟩ hsh hL H locs ls hP hS hl
  obtain ⟨⟨hx, hb, -⟩, -⟩ := X
  unfold s_icmp at hw
  split at hw
  · exact lv_icmp_ne hx hb hd ht (fun q => hw.1 (decide_eq_true q) hsh hL H locs ls hP hS hl) (fun q => hw.2 (decide_eq_false (fun z => z q)) hsh hL H locs ls hP hS hl)
  · exact hw.elim
theorem so_if_lt {off : Int} {t : Nat} (hd : decode (cw_b M) pc = .ok (.ifCond .lt off, 3)) (ht : (pc : Int) + off = (t : Int)) : cw_SN cM sM M pc (s_if (fun x => decide (x < 0)) t (pc + 3)) := by
  intro p l e R s m args below meth c D cs ad A sh cells slots mc ms Qc free d C Q L S h X ⟨bc, bs, hw⟩ hsh hL H locs ls hP hS hl
  obtain ⟨⟨hx, hb, -⟩, -⟩ := X
  unfold s_if at hw
  split at hw
  · exact lv_if_lt hx hb hd ht (fun q => hw.1 (decide_eq_true q) hsh hL H locs ls hP hS hl) (fun q => hw.2 (decide_eq_false q) hsh hL H locs ls hP hS hl)
  · exact hw.elim
theorem so_icmp_lt {off : Int} {t : Nat} (hd : decode (cw_b M) pc = .ok (.if_icmp .lt off, 3)) (ht : (pc : Int) + off = (t : Int)) : cw_SN cM sM M pc (s_icmp (fun x y => decide (x < y)) t (pc + 3)) := by
  intro p l e R s m args below meth c D cs ad A sh cells slots mc ms Qc free d C Q L S h X ⟨bc, bs, hw⟩ hsh hL H locs ls hP hS hl
  obtain ⟨⟨hx, hb, -⟩, -⟩ := X
  unfold s_icmp at hw
  split at hw
  · exact lv_icmp_lt hx hb hd ht (fun q => hw.1 (decide_eq_true q) hsh hL H locs ls hP hS hl) (fun q => hw.2 (decide_eq_false q) hsh hL H locs ls hP hS hl)
  · exact hw.elim
theorem so_if_ge {off : Int} {t : Nat} (hd : decode (cw_b M) pc = .ok (.ifCond .ge off, 3)) (ht : (pc : Int) + off = (t : Int)) : cw_SN cM sM M pc (s_if (fun x => decide (0 ≤ x)) t (pc + 3)) := by
  intro p l e R s m args below meth c D cs ad A sh cells slots mc ms Qc free d C Q L S h X ⟨bc, bs, hw⟩ hsh hL H locs ls hP hS hl
  obtain ⟨⟨hx, hb, -⟩, -⟩ := X
  unfold s_if at hw
  split at hw
  · exact lv_if_ge hx hb hd ht (fun q => hw.1 (decide_eq_true q) hsh hL H locs ls hP hS hl) (fun q => hw.2 (decide_eq_false q) hsh hL H locs ls hP hS hl)
  · exact hw.elim
theorem so_icmp_ge {off : Int} {t : Nat} (hd : decode (cw_b M) pc = .ok (.if_icmp .ge off, 3)) (ht : (pc : Int) + off = (t : Int)) : cw_SN cM sM M pc (s_icmp (fun x y => decide (y ≤ x)) t (pc + 3)) := by
  intro p l e R s m args below meth c D cs ad A sh cells slots mc ms Qc free d C Q L S h X ⟨bc, bs, hw⟩ hsh hL H locs ls hP hS hl
  obtain ⟨⟨hx, hb, -⟩, -⟩ := X
  unfold s_icmp at hw
  split at hw
  · exact lv_icmp_ge hx hb hd ht (fun q => hw.1 (decide_eq_true q) hsh hL H locs ls hP hS hl) (fun q => hw.2 (decide_eq_false q) hsh hL H locs ls hP hS hl)
  · exact hw.elim
theorem so_if_gt {off : Int} {t : Nat} (hd : decode (cw_b M) pc = .ok (.ifCond .gt off, 3)) (ht : (pc : Int) + off = (t : Int)) : cw_SN cM sM M pc (s_if (fun x => decide (0 < x)) t (pc + 3)) := by
  intro p l e R s m args below meth c D cs ad A sh cells slots mc ms Qc free d C Q L S h X ⟨bc, bs, hw⟩ hsh hL H locs ls hP hS hl
  obtain ⟨⟨hx, hb, -⟩, -⟩ := X
  unfold s_if at hw
  split at hw
  · exact lv_if_gt hx hb hd ht (fun q => hw.1 (decide_eq_true q) hsh hL H locs ls hP hS hl) (fun q => hw.2 (decide_eq_false q) hsh hL H locs ls hP hS hl)
  · exact hw.elim
theorem so_icmp_gt {off : Int} {t : Nat} (hd : decode (cw_b M) pc = .ok (.if_icmp .gt off, 3)) (ht : (pc : Int) + off = (t : Int)) : cw_SN cM sM M pc (s_icmp (fun x y => decide (y < x)) t (pc + 3)) := by
  intro p l e R s m args below meth c D cs ad A sh cells slots mc ms Qc free d C Q L S h X ⟨bc, bs, hw⟩ hsh hL H locs ls hP hS hl
  obtain ⟨⟨hx, hb, -⟩, -⟩ := X
  unfold s_icmp at hw
  split at hw
  · exact lv_icmp_gt hx hb hd ht (fun q => hw.1 (decide_eq_true q) hsh hL H locs ls hP hS hl) (fun q => hw.2 (decide_eq_false q) hsh hL H locs ls hP hS hl)
  · exact hw.elim
theorem so_if_le {off : Int} {t : Nat} (hd : decode (cw_b M) pc = .ok (.ifCond .le off, 3)) (ht : (pc : Int) + off = (t : Int)) : cw_SN cM sM M pc (s_if (fun x => decide (x ≤ 0)) t (pc + 3)) := by
  intro p l e R s m args below meth c D cs ad A sh cells slots mc ms Qc free d C Q L S h X ⟨bc, bs, hw⟩ hsh hL H locs ls hP hS hl
  obtain ⟨⟨hx, hb, -⟩, -⟩ := X
  unfold s_if at hw
  split at hw
  · exact lv_if_le hx hb hd ht (fun q => hw.1 (decide_eq_true q) hsh hL H locs ls hP hS hl) (fun q => hw.2 (decide_eq_false q) hsh hL H locs ls hP hS hl)
  · exact hw.elim
theorem so_icmp_le {off : Int} {t : Nat} (hd : decode (cw_b M) pc = .ok (.if_icmp .le off, 3)) (ht : (pc : Int) + off = (t : Int)) : cw_SN cM sM M pc (s_icmp (fun x y => decide (x ≤ y)) t (pc + 3)) := by
  intro p l e R s m args below meth c D cs ad A sh cells slots mc ms Qc free d C Q L S h X ⟨bc, bs, hw⟩ hsh hL H locs ls hP hS hl
  obtain ⟨⟨hx, hb, -⟩, -⟩ := X
  unfold s_icmp at hw
  split at hw
  · exact lv_icmp_le hx hb hd ht (fun q => hw.1 (decide_eq_true q) hsh hL H locs ls hP hS hl) (fun q => hw.2 (decide_eq_false q) hsh hL H locs ls hP hS hl)
  · exact hw.elim
end
end
section
section
variable {cM sM : Nat → Nat} {M pc : Nat}
theorem so_get {ci k idx N : Nat} {C : String} {T : u_T} (hd : decode (cw_b M) pc = .ok (.getfield idx, 3)) (hc : cw_cl[ci]? = some (C, T, N)) (hin : ∀ w ∈ u_ws C T N, w ∈ cw_t) (hk : k < N) (hf : Cond.fieldLink (cw_y M).cls idx (T k).1 (T k).2.1 (T k).2.2.1 ∈ cw_t) : cw_SN cM sM M pc (s_get ci k (pc + 3)) := by
  intro p l e R s m args below meth c D cs ad A sh cells slots mc ms Qc free d C Q L S h X ⟨bc, bs, hw⟩ hsh hL H locs ls hP hS hl
  obtain ⟨⟨hx, hb, -, -, -, hown, hts, -⟩, hK, -⟩ := X
  unfold s_get at hw
  split at hw
  · split at hw
    · rename_i c1 fs hp
      split at hw
      · rename_i e1
        subst e1
        split at hw
        · rename_i v hv
          refine va_get (D := D) (v := cw_tr ad v) hx hb hts hin hown hK.1 hP _ (cw_wd_get hp) hc k hk (hts _ hf) (fun _ h9 => h9) ?_ hd (hw hsh hL H locs ls hP hS hl)
          rw [List.getElem?_map, hv]
          rfl
        · exact hw.elim
      · exact hw.elim
    · exact hw.elim
  · exact hw.elim
/-- a field's kind and its type -/
def cw_kt (kd : Nat) (ty : FieldType) : Bool := match kd, ty with
  | 0, .int => true
  | 1, .boolean => true
  | 2, .object _ => true
  | 2, .array _ => true
  | _, _ => false
theorem cw_kt_ok {kd : Nat} {ty : FieldType} {ad : Nat → Nat} {v : Value} (h : cw_kt kd ty = true) (hv : cw_takes kd v = true) : narrow ty (cw_tr ad v) = cw_tr ad v ∧ fits ty (cw_tr ad v) = true := by
  unfold cw_kt at h
  split at h
  · cases v <;> first | exact ⟨rfl, rfl⟩ | cases hv
  · cases v with
    | int x =>
      have hx : x = 0 ∨ x = 1 := by simpa [cw_takes] using hv
      rcases hx with rfl | rfl
      · exact ⟨(by decide : narrow .boolean (.int 0) = .int 0), (by decide : fits .boolean (.int 0) = true)⟩
      · exact ⟨(by decide : narrow .boolean (.int 1) = .int 1), (by decide : fits .boolean (.int 1) = true)⟩
    | _ => cases hv
  · cases v <;> first | exact ⟨rfl, rfl⟩ | cases hv
  · cases v <;> first | exact ⟨rfl, rfl⟩ | cases hv
  · cases h
theorem cw_put_eq {cs : Nat → ClassId} {ad : Nat → Nat} {h : cw_H} {p c k : Nat} {fs : List Value} {v : Value} : (cw_wd cs ad h).set p (ad p, .inr (c, (fs.map (cw_tr ad)).set k (cw_tr ad v))) = cw_wd cs ad (h.set p (.inr (c, fs.set k v))) := by
  rw [← List.map_set]
  exact cw_wd_set (cs := cs) (c := .inr (c, fs.set k v))
theorem so_put {ci k kd idx N : Nat} {C : String} {T : u_T} {ty0 : Nat → FieldType} {ty : FieldType} (hd : decode (cw_b M) pc = .ok (.putfield idx, 3)) (hc : cw_cl[ci]? = some (C, T, N)) (hin : ∀ w ∈ u_ws C T N, w ∈ cw_t) (hty : ∀ k, k < N → parseFieldDescriptor (T k).2.2.1 = some (ty0 k)) (hnm : ∀ a, a < N → ∀ b, b < N → a ≠ b → (T a).2.1 ≠ (T b).2.1) (hk : k < N) (hf : Cond.fieldLink (cw_y M).cls idx (T k).1 (T k).2.1 (T k).2.2.1 ∈ cw_t) (hfin : (T k).2.2.2 = false) (ht : parseFieldDescriptor (T k).2.2.1 = some ty) (hkt : cw_kt kd ty = true) : cw_SN cM sM M pc (s_put ci k kd (pc + 3)) := by
  intro p l e R s m args below meth c D cs ad A sh cells slots mc ms Qc free d C Q L S h X ⟨bc, bs, hw⟩ hsh hL H locs ls hP hS hl
  obtain ⟨⟨hx, hb, -, -, -, hown, hts, -⟩, hK, hap, -⟩ := X
  unfold s_put at hw
  split at hw
  · rename_i v p1 r
    split at hw
    · rename_i c1 fs hp
      split at hw
      · rename_i e1
        obtain ⟨e1, e2, e3⟩ := e1
        subst e1
        obtain ⟨n1, n2⟩ := cw_kt_ok (ad := ad) hkt e3
        have hD : va_D A (cw_wd cs ad h) := cw_ap.D (by rw [← cw_hd_len, hsh]; exact hap)
        refine va_put (D := D) (v := cw_tr ad v) (ty := ty) hx hb hts hin ty0 hty hnm hown hK.1 hP hD hS _ (cw_wd_get hp) hc k hk (hts _ hf) (fun _ h9 => h9) hfin ht n1 n2 (by rw [List.length_map]; exact e2) hd (fun H1 locs1 hP1 _ hS1 => ?_)
        rw [cw_put_eq] at hP1
        exact hw (by rw [cw_hd_set hp (by simp [cw_sz])]; exact hsh) hL H1 locs1 ls hP1 hS1 hl
      · exact hw.elim
    · exact hw.elim
  · exact hw.elim
theorem so_putF {ci k kd idx N : Nat} {C : String} {T : u_T} {ty0 : Nat → FieldType} {ty : FieldType} (hd : decode (cw_b M) pc = .ok (.putfield idx, 3)) (hc : cw_cl[ci]? = some (C, T, N)) (hin : ∀ w ∈ u_ws C T N, w ∈ cw_t) (hty : ∀ k, k < N → parseFieldDescriptor (T k).2.2.1 = some (ty0 k)) (hnm : ∀ a, a < N → ∀ b, b < N → a ≠ b → (T a).2.1 ≠ (T b).2.1) (hk : k < N) (hf : Cond.fieldLink (cw_y M).cls idx (T k).1 (T k).2.1 (T k).2.2.1 ∈ cw_t) (hfin : (T k).2.2.2 = true) (hi : (cw_y M).name = "<init>") (hdc : (T k).1 = (cw_y M).cls) (ht : parseFieldDescriptor (T k).2.2.1 = some ty) (hkt : cw_kt kd ty = true) : cw_SN cM sM M pc (s_put ci k kd (pc + 3)) := by
  intro p l e R s m args below meth c D cs ad A sh cells slots mc ms Qc free d C Q L S h X ⟨bc, bs, hw⟩ hsh hL H locs ls hP hS hl
  obtain ⟨⟨hx, hb, -, -, -, hown, hts, hnam⟩, hK, hap, -⟩ := X
  unfold s_put at hw
  split at hw
  · rename_i v p1 r
    split at hw
    · rename_i c1 fs hp
      split at hw
      · rename_i e1
        obtain ⟨e1, e2, e3⟩ := e1
        subst e1
        obtain ⟨n1, n2⟩ := cw_kt_ok (ad := ad) hkt e3
        have hD : va_D A (cw_wd cs ad h) := cw_ap.D (by rw [← cw_hd_len, hsh]; exact hap)
        refine va_putF (D := D) (v := cw_tr ad v) (ty := ty) hx hb hts hin ty0 hty hnm hown hK.1 hP hD hS _ (cw_wd_get hp) hc k hk (hts _ hf) (fun _ h9 => h9) hfin (hnam.trans hi) hdc ht n1 n2 (by rw [List.length_map]; exact e2) hd (fun H1 locs1 hP1 _ hS1 => ?_)
        rw [cw_put_eq] at hP1
        exact hw (by rw [cw_hd_set hp (by simp [cw_sz])]; exact hsh) hL H1 locs1 ls hP1 hS1 hl
      · exact hw.elim
    · exact hw.elim
  · exact hw.elim
theorem cw_in_vp {i : Int32} {n : Nat} (h : cw_in i n = true) : vp_in i n := by
  unfold cw_in at h
  simp only [Bool.and_eq_true, decide_eq_true_eq] at h
  rintro (q | q)
  · exact h.1 q
  · omega
theorem so_iald (hd : decode (cw_b M) pc = .ok (.iaload, 1)) : cw_SN cM sM M pc (s_iald (pc + 1)) := by
  intro p l e R s m args below meth c D cs ad A sh cells slots mc ms Qc free d C Q L S h X ⟨bc, bs, hw⟩ hsh hL H locs ls hP hS hl
  obtain ⟨⟨hx, hb, -⟩, hK, -⟩ := X
  unfold s_iald at hw
  split at hw
  · split at hw
    · rename_i n f hp
      split at hw
      · rename_i hi
        exact va_iald (D := D) hx hb hK.1 hP _ 0 (cw_wd_get hp) rfl (cw_in_vp hi) hd (hw hsh hL H locs ls hP hS hl)
      · exact hw.elim
    · exact hw.elim
  · exact hw.elim
theorem so_lald (hd : decode (cw_b M) pc = .ok (.laload, 1)) : cw_SN cM sM M pc (s_lald (pc + 1)) := by
  intro p l e R s m args below meth c D cs ad A sh cells slots mc ms Qc free d C Q L S h X ⟨bc, bs, hw⟩ hsh hL H locs ls hP hS hl
  obtain ⟨⟨hx, hb, -⟩, hK, -⟩ := X
  unfold s_lald at hw
  split at hw
  · split at hw
    · rename_i n f hp
      split at hw
      · rename_i hi
        exact va_lald (D := D) hx hb hK.1 hP _ 1 (cw_wd_get hp) rfl (cw_in_vp hi) hd (hw hsh hL H locs ls hP hS hl)
      · exact hw.elim
    · exact hw.elim
  · exact hw.elim
theorem so_iast (hd : decode (cw_b M) pc = .ok (.iastore, 1)) : cw_SN cM sM M pc (s_iast (pc + 1)) := by
  intro p l e R s m args below meth c D cs ad A sh cells slots mc ms Qc free d C Q L S h X ⟨bc, bs, hw⟩ hsh hL H locs ls hP hS hl
  obtain ⟨⟨hx, hb, -⟩, hK, hap, -⟩ := X
  unfold s_iast at hw
  split at hw
  · split at hw
    · rename_i n f hp
      split at hw
      · rename_i hi
        have hD : va_D A (cw_wd cs ad h) := cw_ap.D (by rw [← cw_hd_len, hsh]; exact hap)
        refine va_iast (D := D) hx hb hK.1 hP hD hS _ 0 (cw_wd_get hp) rfl (cw_in_vp hi) hd (fun H1 locs1 hP1 _ hS1 => ?_)
        exact hw ((cw_hd_set hp (by rfl)).trans hsh) hL H1 locs1 ls (cw_wd_set (cs := cs) (c := .inl (0, n, .inl (upd f _ _))) ▸ hP1) hS1 hl
      · exact hw.elim
    · exact hw.elim
  · exact hw.elim
theorem so_last (hd : decode (cw_b M) pc = .ok (.lastore, 1)) : cw_SN cM sM M pc (s_last (pc + 1)) := by
  intro p l e R s m args below meth c D cs ad A sh cells slots mc ms Qc free d C Q L S h X ⟨bc, bs, hw⟩ hsh hL H locs ls hP hS hl
  obtain ⟨⟨hx, hb, -⟩, hK, hap, -⟩ := X
  unfold s_last at hw
  split at hw
  · split at hw
    · rename_i n f hp
      split at hw
      · rename_i hi
        have hD : va_D A (cw_wd cs ad h) := cw_ap.D (by rw [← cw_hd_len, hsh]; exact hap)
        refine va_last (D := D) hx hb hK.1 hP hD hS _ 1 (cw_wd_get hp) rfl (cw_in_vp hi) hd (fun H1 locs1 hP1 _ hS1 => ?_)
        exact hw ((cw_hd_set hp (by rfl)).trans hsh) hL H1 locs1 ls (cw_wd_set (cs := cs) (c := .inl (1, n, .inr (.inl (vp_updL f _ _)))) ▸ hP1) hS1 hl
      · exact hw.elim
    · exact hw.elim
  · exact hw.elim
def cw_rn (t : Nat) : String := if t = 0 then RX6 else RX2
theorem cw_ty_r {cs : Nat → ClassId} {t : Nat} (h : t < 2) : (cw_ty cs)[t + 2]? = some (cs (t + 2), .object (cw_rn t)) := by
  rcases (show t = 0 ∨ t = 1 by omega) with rfl | rfl <;> rfl
theorem so_aald (hd : decode (cw_b M) pc = .ok (.aaload, 1)) : cw_SN cM sM M pc (s_aald (pc + 1)) := by
  intro p l e R s m args below meth c D cs ad A sh cells slots mc ms Qc free d C Q L S h X ⟨bc, bs, hw⟩ hsh hL H locs ls hP hS hl
  obtain ⟨⟨hx, hb, -⟩, hK, -⟩ := X
  unfold s_aald at hw
  split at hw
  · split at hw
    · rename_i t n f hp
      split at hw
      · rename_i hi
        split at hw
        · rename_i q hq
          refine va_aldq (D := D) hx hb hK.1 hP _ (t + 2) (cw_wd_get hp) (cw_ty_r hi.1) (cw_in_vp hi.2) hd ?_
          rw [hq]
          exact hw hsh hL H locs ls hP hS hl
        · exact hw.elim
      · exact hw.elim
    · exact hw.elim
  · exact hw.elim
theorem cw_up_map {f : Nat → Option Nat} {ad : Nat → Nat} {i v : Nat} : va_up (fun j => (f j).map ad) i (some (ad v)) = fun j => (va_up f i (some v) j).map ad := by
  funext j
  unfold va_up
  split <;> rfl
theorem so_aast (hd : decode (cw_b M) pc = .ok (.aastore, 1)) : cw_SN cM sM M pc (s_aast (pc + 1)) := by
  intro p l e R s m args below meth c D cs ad A sh cells slots mc ms Qc free d C Q L S h X ⟨bc, bs, hw⟩ hsh hL H locs ls hP hS hl
  obtain ⟨⟨hx, hb, -⟩, hK, hap, -⟩ := X
  unfold s_aast at hw
  split at hw
  · rename_i v i p1 r
    split at hw
    · rename_i t n f c1 vs hp hv
      split at hw
      · rename_i hi
        obtain ⟨h1, h2, h3⟩ := hi
        have hD : va_D A (cw_wd cs ad h) := cw_ap.D (by rw [← cw_hd_len, hsh]; exact hap)
        obtain ⟨rc, hrc, hrn⟩ : ∃ rc : vw_C, cw_cl[c1]? = some rc ∧ rc.1 = cw_rn t := by
          subst h2
          rcases (show t = 0 ∨ t = 1 by omega) with rfl | rfl <;> exact ⟨_, rfl, rfl⟩
        refine va_astq (D := D) hx hb hK.1 hP hD hS _ (t + 2) _ c1 (cw_wd_get hp) (by rw [hrn]; exact cw_ty_r h1) (cw_wd_get hv) hrc (cw_in_vp h3) hd (fun H1 locs1 hP1 _ hS1 => ?_)
        rw [cw_up_map] at hP1
        exact hw ((cw_hd_set hp (by rfl)).trans hsh) hL H1 locs1 ls (cw_wd_set (cs := cs) (c := .inl (t + 2, n, .inr (.inr (.inr (.inr (va_up f _ (some v))))))) ▸ hP1) hS1 hl
      · exact hw.elim
    · exact hw.elim
  · exact hw.elim
theorem cw_tc_in {cs : Nat → ClassId} {ad : Nat → Nat} {t n : Nat} {a} : ∃ a', cw_tc cs ad (.inl (t, n, a)) = .inl (cs t, n, a') := by
  rcases a with f | f | f | f | f <;> exact ⟨_, rfl⟩
theorem so_alen (hd : decode (cw_b M) pc = .ok (.arraylength, 1)) : cw_SN cM sM M pc (s_alen (pc + 1)) := by
  intro p l e R s m args below meth c D cs ad A sh cells slots mc ms Qc free d C Q L S h X ⟨bc, bs, hw⟩ hsh hL H locs ls hP hS hl
  obtain ⟨⟨hx, hb, -⟩, hK, -⟩ := X
  unfold s_alen at hw
  split at hw
  · rename_i p1 r
    split at hw
    · rename_i t n a hp
      split at hw
      · rename_i ht
        obtain ⟨a', ha⟩ := cw_tc_in (cs := cs) (ad := ad) (t := t) (n := n) (a := a)
        have hg := cw_wd_get (cs := cs) (ad := ad) hp
        rw [ha] at hg
        obtain ⟨ty, hty⟩ : ∃ ty, (cw_ty cs)[t]? = some (cs t, ty) := by
          rcases (show t = 0 ∨ t = 1 ∨ t = 2 ∨ t = 3 by omega) with rfl | rfl | rfl | rfl <;> exact ⟨_, rfl⟩
        exact va_alen (D := D) hx hb hK.1 hP _ t hg hty rfl hd (hw hsh hL H locs ls hP hS hl)
      · exact hw.elim
    · exact hw.elim
  · exact hw.elim
theorem so_iret (hd : decode (cw_b M) pc = .ok (.ireturn, 1)) (hr : cw_rt M = some .int) : cw_SN cM sM M pc s_iret := by
  intro p l e R s m args below meth c D cs ad A sh cells slots mc ms Qc free d C Q L S h X ⟨bc, bs, hw⟩ hsh hL H locs ls hP hS hl
  obtain ⟨⟨hx, hb, -, hrt, hlk, -⟩, -, -, -, hcs, -, hq, hfr⟩ := X
  unfold s_iret at hw
  split at hw
  · refine W.widen hcs.1 hcs.2 ?_
    exact W.iret hx hb (hrt.trans hr) (fun t ht hW => hq _ h t locs hw hsh (by rw [ht]; exact hP) hW (by rw [ht]; exact hS)) (fun q hq => hfr _ (hS.2.2 q hq)) hd hlk
  · exact hw.elim
theorem so_zret (hd : decode (cw_b M) pc = .ok (.ireturn, 1)) (hr : cw_rt M = some .boolean) : cw_SN cM sM M pc s_zret := by
  intro p l e R s m args below meth c D cs ad A sh cells slots mc ms Qc free d C Q L S h X ⟨bc, bs, hw⟩ hsh hL H locs ls hP hS hl
  obtain ⟨⟨hx, hb, -, hrt, hlk, -⟩, -, -, -, hcs, -, hq, hfr⟩ := X
  unfold s_zret at hw
  split at hw
  · split at hw
    · rename_i x hv
      refine W.widen hcs.1 hcs.2 ?_
      exact W.zret hx hb (hrt.trans hr) (by rcases hv with rfl | rfl <;> decide) (fun t ht hW => hq _ h t locs hw hsh (by rw [ht]; exact hP) hW (by rw [ht]; exact hS)) (fun q hq => hfr _ (hS.2.2 q hq)) hd hlk
    · exact hw.elim
  · exact hw.elim
theorem so_lret (hd : decode (cw_b M) pc = .ok (.lreturn, 1)) (hr : cw_rt M = some .long) : cw_SN cM sM M pc s_lret := by
  intro p l e R s m args below meth c D cs ad A sh cells slots mc ms Qc free d C Q L S h X ⟨bc, bs, hw⟩ hsh hL H locs ls hP hS hl
  obtain ⟨⟨hx, hb, -, hrt, hlk, -⟩, -, -, -, hcs, -, hq, hfr⟩ := X
  unfold s_lret at hw
  split at hw
  · refine W.widen hcs.1 hcs.2 ?_
    exact W.lret hx hb (hrt.trans hr) (fun t ht hW => hq _ h t locs hw hsh (by rw [ht]; exact hP) hW (by rw [ht]; exact hS)) (fun q hq => hfr _ (hS.2.2 q hq)) hd hlk
  · exact hw.elim
theorem so_vret (hd : decode (cw_b M) pc = .ok (.return_, 1)) (hr : cw_rt M = none) : cw_SN cM sM M pc s_vret := by
  intro p l e R s m args below meth c D cs ad A sh cells slots mc ms Qc free d C Q L S h X ⟨bc, bs, hw⟩ hsh hL H locs ls hP hS hl
  obtain ⟨⟨hx, hb, -, hrt, hlk, -⟩, -, -, -, hcs, -, hq, hfr⟩ := X
  unfold s_vret at hw
  split at hw
  · refine W.widen hcs.1 hcs.2 ?_
    exact W.vret hx hb (hrt.trans hr) (fun t ht hW => hq _ h t locs hw hsh (by rw [ht]; exact hP) hW (by rw [ht]; exact hS)) (fun q hq => hfr _ (hS.2.2 q hq)) hd hlk
  · exact hw.elim
theorem so_aret {n : String} (hd : decode (cw_b M) pc = .ok (.areturn, 1)) (hr : cw_rt M = some (.object n)) : cw_SN cM sM M pc s_aret := by
  intro p l e R s m args below meth c D cs ad A sh cells slots mc ms Qc free d C Q L S h X ⟨bc, bs, hw⟩ hsh hL H locs ls hP hS hl
  obtain ⟨⟨hx, hb, -, hrt, hlk, -⟩, -, -, -, hcs, -, hq, hfr⟩ := X
  unfold s_aret at hw
  split at hw
  · refine W.widen hcs.1 hcs.2 ?_
    exact W.aret hx hb (hrt.trans hr) (Or.inl ⟨_, rfl⟩) (Or.inr ⟨_, rfl⟩) (fun t ht hW => hq _ h t locs hw hsh (by rw [ht]; exact hP) hW (by rw [ht]; exact hS)) (fun q hq => hfr _ (hS.2.2 q hq)) hd hlk
  · exact hw.elim
end
end
section
section
variable {cM sM : Nat → Nat} {M pc : Nat}
theorem cw_ct_map {ad : Nat → Nat} {S : List Value} : ((S.map (cw_tr ad)).map fun v => v.category).sum = cw_ct S := by
  unfold cw_ct
  rw [List.map_map]
  congr 1
  apply List.map_congr_left
  intro v _
  exact cw_tr_cat ad v
theorem cw_pop_eq {n : Nat} {S as r : List Value} (h : cw_pop n S = (as, r)) (hn : n ≤ S.length) : S = as.reverse ++ r ∧ as.length = n := by
  unfold cw_pop at h
  cases h
  simp [hn]
/-- the contract of a callee, at a call -/
theorem cw_pre {D : va_G} {cs : Nat → ClassId} {ad : Nat → Nat} {as : List Value} {h : cw_H} {s : State} {H : Heap} (hK : cw_K D cs s) (hP : va_P D cw_cl (cw_wd cs ad h) H) : PreS s H (cw_PN D cs ad as h) (as.map (cw_tr ad)) :=
  ⟨cw_blind, fun U hU hW => ⟨rfl, hK.warm hW, by rw [hU]; exact hP⟩⟩
theorem so_callV {ci M' n idx : Nat} {T : u_T} {N : Nat} (hd : decode (cw_b M) pc = .ok (.invokevirtual idx, 3)) (hc : cw_cl[ci]? = some ((cw_y M').cls, T, N)) (h1 : Cond.methodLink (cw_y M).cls idx (cw_y M') ∈ cw_t) (h2 : Cond.instanceMethod (cw_y M') ∈ cw_t) (h3 : Cond.selects (cw_y M').cls (cw_y M') (cw_y M') ∈ cw_t) (hn : cw_np M' = n) (hN : cw_isN M' = true) : cw_SN cM sM M pc (s_callV ci M' n (pc + 3)) := by
  intro p l e R s m args below meth c D cs ad A sh cells slots mc ms Qc free d C Q L S h X ⟨bc, bs, hw⟩ hsh hL H locs ls hP hS hl
  obtain ⟨⟨hx, hb, hml, -, -, hown, hts, -⟩, hK, hap, hR, -, hC, -⟩ := X
  have hNN := hN
  unfold cw_isN at hNN
  simp only [Bool.and_eq_true, decide_eq_true_eq] at hNN
  have hM' : M' < 195 := hNN.1.1
  have hmx : cw_mx M' ≤ 40 := hNN.2
  unfold s_callV at hw
  split at hw
  · rename_i as p1 r hpop
    split at hw
    · rename_i c1 fs hp
      split at hw
      · rename_i hh
        obtain ⟨g1, g2, g3, g4⟩ := hh
        subst g2
        obtain ⟨eS, eA⟩ := cw_pop_eq hpop g3
        obtain ⟨d', ed, hM⟩ := hC M' _ h _ hN hw hsh
        subst ed
        obtain ⟨f1, f2, f3, f4⟩ := cw_facts hM'
        have hini : Cond.initialized (cw_y M').cls ∈ cw_t := cw_init_in _ (cw_m_mem hM')
        have hgood : GoodIn cw_t (wsV (cw_y M).cls idx (cw_y M').cls (cw_y M') (cw_ws M')) := by
          intro w hw
          unfold wsV at hw
          rcases List.mem_append.mp hw with q | q
          · simp only [List.mem_cons, List.not_mem_nil, or_false] at q
            rcases q with rfl | rfl | rfl | rfl
            · exact ⟨h1, cw_t_good _ h1⟩
            · exact ⟨h2, cw_t_good _ h2⟩
            · exact ⟨h3, cw_t_good _ h3⟩
            · exact ⟨hini, cw_t_good _ hini⟩
          · exact cw_good hM' w q
        have hrun := va_runV (g := F0 m pc ls (S.map (cw_tr ad))) (H := H) (locs := locs) (cells := cells) (slots := slots) (below := below) (meth := meth) (e := e) (As := as.map (cw_tr ad)) (rest := r.map (cw_tr ad)) (b := ad p1) ⟨hx, hb, hml, hown, hts⟩ hM
          (cwV (R := R) (C := (cw_y M').cls) n hts hgood rfl rfl rfl ⟨rfl, f2, f3, by rw [f4, hn]⟩ ⟨by show d' + 1 ≤ R.frames; omega, by show 8 + (cw_mx M' + 11) + 100 * d' ≤ R.locals; omega⟩)
          ⟨cw_blind, va_recv hK.1 hP hc (cw_wd_get hp), (cw_pre hK hP (as := .ref p1 :: as)).2⟩ rfl (by rw [List.length_map]; exact eA) (by show ls.size = cw_mx M; rw [hl.1, hml])
          (by show S.map (cw_tr ad) = _; rw [eS, List.map_append, List.map_reverse]; rfl) (by show 2 * 0 + _ ≤ 8; rw [cw_ct_map]; omega) hd ⟨hR.2.2.1, hR.2.2.2⟩
        rw [hsh] at hrun
        refine cw_cont hrun hS (fun q hq => by obtain ⟨i, hi, rfl⟩ := hq; exact hap.2 i hi) (fun r1 h' H1 locs1 hQ hh' hP1 hS1 => ?_)
        have := hQ hh' hL H1 locs1 ls hP1 hS1 hl
        rw [List.map_append] at this
        cases r1 with
        | none => exact this
        | some v => exact this
      · exact hw.elim
    · exact hw.elim
  · exact hw.elim
theorem so_callS {M' n idx : Nat} (hd : decode (cw_b M) pc = .ok (.invokestatic idx, 3)) (hcl : (cw_y M').cls = (cw_y M).cls) (h1 : Cond.methodLink (cw_y M).cls idx (cw_y M') ∈ cw_t) (h2 : Cond.static (cw_y M') ∈ cw_t) (hn : cw_np M' = n) (hN : cw_isN M' = true) : cw_SN cM sM M pc (s_callS M' n (pc + 3)) := by
  intro p l e R s m args below meth c D cs ad A sh cells slots mc ms Qc free d C Q L S h X ⟨bc, bs, hw⟩ hsh hL H locs ls hP hS hl
  obtain ⟨⟨hx, hb, hml, -, -, hown, hts, -⟩, hK, hap, hR, -, hC, -⟩ := X
  have hNN := hN
  unfold cw_isN at hNN
  simp only [Bool.and_eq_true, decide_eq_true_eq] at hNN
  have hM' : M' < 195 := hNN.1.1
  have hmx : cw_mx M' ≤ 40 := hNN.2
  unfold s_callS at hw
  split at hw
  rename_i as r hpop
  split at hw
  · rename_i hh
    obtain ⟨g1, g3, g4⟩ := hh
    obtain ⟨eS, eA⟩ := cw_pop_eq hpop g3
    obtain ⟨d', ed, hM⟩ := hC M' _ h _ hN hw hsh
    subst ed
    obtain ⟨f1, f2, f3, f4⟩ := cw_facts hM'
    have hini : Cond.initialized (cw_y M').cls ∈ cw_t := cw_init_in _ (cw_m_mem hM')
    have hgood : GoodIn cw_t (wsS (cw_y M).cls idx (cw_y M') (cw_ws M')) := by
      intro w hw
      unfold wsS at hw
      rcases List.mem_append.mp hw with q | q
      · simp only [List.mem_cons, List.not_mem_nil, or_false] at q
        rcases q with rfl | rfl | rfl
        · exact ⟨h1, cw_t_good _ h1⟩
        · exact ⟨h2, cw_t_good _ h2⟩
        · rw [hcl] at hini
          exact ⟨hini, cw_t_good _ hini⟩
      · exact cw_good hM' w q
    have hrun := va_runS (g := F0 m pc ls (S.map (cw_tr ad))) (H := H) (locs := locs) (cells := cells) (slots := slots) (below := below) (meth := meth) (e := e) (As := as.map (cw_tr ad)) (rest := r.map (cw_tr ad)) ⟨hx, hb, hml, hown, hts⟩ hM
      (cwS (R := R) n hts hgood rfl rfl rfl ⟨hcl, f2, f3, by rw [f4, hn]⟩ ⟨by show d' + 1 ≤ R.frames; omega, by show 8 + (cw_mx M' + 11) + 100 * d' ≤ R.locals; omega⟩)
      (cw_pre hK hP) rfl (by rw [List.length_map]; exact eA) (by show ls.size = cw_mx M; rw [hl.1, hml])
      (by show S.map (cw_tr ad) = _; rw [eS, List.map_append, List.map_reverse]) (by show 2 * 0 + _ ≤ 8; rw [cw_ct_map]; omega) hd ⟨hR.2.2.1, hR.2.2.2⟩
    rw [hsh] at hrun
    refine cw_cont hrun hS (fun q hq => by obtain ⟨i, hi, rfl⟩ := hq; exact hap.2 i hi) (fun r1 h' H1 locs1 hQ hh' hP1 hS1 => ?_)
    have := hQ hh' hL H1 locs1 ls hP1 hS1 hl
    rw [List.map_append] at this
    cases r1 with
    | none => exact this
    | some v => exact this
  · exact hw.elim
/-- a static method of a nest mate -/
theorem so_callSN {M' n idx : Nat} {host : String} (hd : decode (cw_b M) pc = .ok (.invokestatic idx, 3)) (h1 : Cond.methodLinkNest (cw_y M).cls idx (cw_y M') host ∈ cw_nest) (h2 : Cond.static (cw_y M') ∈ cw_t) (hn : cw_np M' = n) (hN : cw_isN M' = true) : cw_SN cM sM M pc (s_callS M' n (pc + 3)) := by
  intro p l e R s m args below meth c D cs ad A sh cells slots mc ms Qc free d C Q L S h X ⟨bc, bs, hw⟩ hsh hL H locs ls hP hS hl
  obtain ⟨⟨hx, hb, hml, -, -, hown, hts, -⟩, hK, hap, hR, -, hC, -⟩ := X
  have hNN := hN
  unfold cw_isN at hNN
  simp only [Bool.and_eq_true, decide_eq_true_eq] at hNN
  have hM' : M' < 195 := hNN.1.1
  have hmx : cw_mx M' ≤ 40 := hNN.2
  unfold s_callS at hw
  split at hw
  rename_i as r hpop
  split at hw
  · rename_i hh
    obtain ⟨g1, g3, g4⟩ := hh
    obtain ⟨eS, eA⟩ := cw_pop_eq hpop g3
    obtain ⟨d', ed, hM⟩ := hC M' _ h _ hN hw hsh
    subst ed
    obtain ⟨f1, f2, f3, f4⟩ := cw_facts hM'
    have hini : Cond.initialized (cw_y M').cls ∈ cw_t := cw_init_in _ (cw_m_mem hM')
    have hrun := va_runSN (g := F0 m pc ls (S.map (cw_tr ad))) (H := H) (locs := locs) (cells := cells) (slots := slots) (below := below) (meth := meth) (e := e) (As := as.map (cw_tr ad)) (rest := r.map (cw_tr ad)) ⟨hx, hb, hml, hown, hts⟩ hM
      ⟨va_cnB (R := R) n hts (cw_good hM') rfl rfl rfl (hK.2.1 _ h1) (hts _ hini) ⟨f2, f3, by rw [f4, hn]⟩ ⟨by show d' + 1 ≤ R.frames; omega, by show 8 + (cw_mx M' + 11) + 100 * d' ≤ R.locals; omega⟩, hts _ h2, trivial⟩
      (cw_pre hK hP) rfl (by rw [List.length_map]; exact eA) (by show ls.size = cw_mx M; rw [hl.1, hml])
      (by show S.map (cw_tr ad) = _; rw [eS, List.map_append, List.map_reverse]) (by show 2 * 0 + _ ≤ 8; rw [cw_ct_map]; omega) hd ⟨hR.2.2.1, hR.2.2.2⟩
    rw [hsh] at hrun
    refine cw_cont hrun hS (fun q hq => by obtain ⟨i, hi, rfl⟩ := hq; exact hap.2 i hi) (fun r1 h' H1 locs1 hQ hh' hP1 hS1 => ?_)
    have := hQ hh' hL H1 locs1 ls hP1 hS1 hl
    rw [List.map_append] at this
    cases r1 with
    | none => exact this
    | some v => exact this
  · exact hw.elim
theorem so_obj {idx : Nat} (hd : decode (cw_b M) pc = .ok (.invokespecial idx, 3)) (h1 : Cond.methodLink (cw_y M).cls idx objectInit ∈ cw_t) (h2 : Cond.instanceMethod objectInit ∈ cw_t) (h3 : Cond.code objectInit ⟨#[0xb1]⟩ 1 none ∈ cw_t) : cw_SN cM sM M pc (s_obj (pc + 3)) := by
  intro p l e R s m args below meth c D cs ad A sh cells slots mc ms Qc free d C Q L S h X ⟨bc, bs, hw⟩ hsh hL H locs ls hP hS hl
  obtain ⟨⟨hx, hb, hml, -, -, hown, hts, -⟩, hK, hap, hR, -⟩ := X
  unfold s_obj at hw
  split at hw
  · split at hw
    · rename_i r hh
      exact W.objInit hx hb hown (hts _ h1) (hts _ h2) (hts _ h3) rfl (by show ls.size = _; rw [hl.1]) rfl hd (by omega) (by show 2 * 0 + _ + 12 ≤ _; rw [cw_ct_map]; omega) (hw hsh hL H locs ls hP hS hl)
    · exact hw.elim
  · exact hw.elim
theorem so_max {idx : Nat} (hd : decode (cw_b M) pc = .ok (.invokestatic idx, 3)) (h1 : Cond.methodLink (cw_y M).cls idx Lib.Math.max.name ∈ cw_t) (h2 : Cond.static Lib.Math.max.name ∈ cw_t) (h3 : Cond.initialized "java/lang/Math" ∈ cw_t) (h4 : Cond.code Lib.Math.max.name Lib.Math.max.code 2 (some .int) ∈ cw_t) : cw_SN cM sM M pc (s_max (pc + 3)) := by
  intro p l e R s m args below meth c D cs ad A sh cells slots mc ms Qc free d C Q L S h X ⟨bc, bs, hw⟩ hsh hL H locs ls hP hS hl
  obtain ⟨⟨hx, hb, hml, -, -, hown, hts, -⟩, hK, hap, hR, -⟩ := X
  unfold s_max at hw
  split at hw
  · split at hw
    · rename_i r hh
      exact va_mmax hx hb hl.1.symm hown (hts _ h1) (hts _ h2) (hts _ h3) (hts _ h4) (by omega) (by rw [cw_ct_map]; omega) hR.2.2.1 hR.2.2.2 hd (hw hsh hL H locs ls hP hS hl)
    · exact hw.elim
  · exact hw.elim
theorem so_min {idx : Nat} (hd : decode (cw_b M) pc = .ok (.invokestatic idx, 3)) (h1 : Cond.methodLink (cw_y M).cls idx Lib.Math.min.name ∈ cw_t) (h2 : Cond.static Lib.Math.min.name ∈ cw_t) (h3 : Cond.initialized "java/lang/Math" ∈ cw_t) (h4 : Cond.code Lib.Math.min.name Lib.Math.min.code 2 (some .int) ∈ cw_t) : cw_SN cM sM M pc (s_min (pc + 3)) := by
  intro p l e R s m args below meth c D cs ad A sh cells slots mc ms Qc free d C Q L S h X ⟨bc, bs, hw⟩ hsh hL H locs ls hP hS hl
  obtain ⟨⟨hx, hb, hml, -, -, hown, hts, -⟩, hK, hap, hR, -⟩ := X
  unfold s_min at hw
  split at hw
  · split at hw
    · rename_i r hh
      exact va_mmin hx hb hl.1.symm hown (hts _ h1) (hts _ h2) (hts _ h3) (hts _ h4) (by omega) (by rw [cw_ct_map]; omega) hR.2.2.1 hR.2.2.2 hd (hw hsh hL H locs ls hP hS hl)
    · exact hw.elim
  · exact hw.elim
theorem so_abs {idx : Nat} (hd : decode (cw_b M) pc = .ok (.invokestatic idx, 3)) (h1 : Cond.methodLink (cw_y M).cls idx Lib.Math.abs.name ∈ cw_t) (h2 : Cond.static Lib.Math.abs.name ∈ cw_t) (h3 : Cond.initialized "java/lang/Math" ∈ cw_t) (h4 : Cond.code Lib.Math.abs.name Lib.Math.abs.code 1 (some .int) ∈ cw_t) : cw_SN cM sM M pc (s_abs (pc + 3)) := by
  intro p l e R s m args below meth c D cs ad A sh cells slots mc ms Qc free d C Q L S h X ⟨bc, bs, hw⟩ hsh hL H locs ls hP hS hl
  obtain ⟨⟨hx, hb, hml, -, -, hown, hts, -⟩, hK, hap, hR, -⟩ := X
  unfold s_abs at hw
  split at hw
  · split at hw
    · rename_i r hh
      exact va_mabs hx hb hl.1.symm hown (hts _ h1) (hts _ h2) (hts _ h3) (hts _ h4) (by omega) (by rw [cw_ct_map]; omega) hR.2.2.1 hR.2.2.2 hd (hw hsh hL H locs ls hP hS hl)
    · exact hw.elim
  · exact hw.elim
theorem so_copy {idx : Nat} (hd : decode (cw_b M) pc = .ok (.invokestatic idx, 3)) (h1 : Cond.methodLink (cw_y M).cls idx arraycopyName ∈ cw_t) (h2 : Cond.native arraycopyName ∈ cw_t) (h3 : Cond.static arraycopyName ∈ cw_t) (h4 : Cond.initialized "java/lang/System" ∈ cw_t) : cw_SN cM sM M pc (s_copy (pc + 3)) := by
  intro p l e R s m args below meth c D cs ad A sh cells slots mc ms Qc free d C Q L S h X ⟨bc, bs, hw⟩ hsh hL H locs ls hP hS hl
  obtain ⟨⟨hx, hb, hml, -, -, hown, hts, -⟩, hK, hap, hR, -⟩ := X
  unfold s_copy at hw
  split at hw
  · rename_i n dp q sp p1 r
    split at hw
    · rename_i n0 f n1 g hp hq
      split at hw
      · rename_i hh
        obtain ⟨g1, g2, g3, g4, g5, g6, g7⟩ := hh
        have hD : va_D A (cw_wd cs ad h) := cw_ap.D (by rw [← cw_hd_len, hsh]; exact hap)
        refine va_copyi (D := D) (ty := .int) hx hb hl.1.symm hown (hts _ h1) (hts _ h2) (hts _ h3) (hts _ h4) hK.1 hP hD hS _ _ 0 0 (cw_wd_get hp) (cw_wd_get hq) rfl rfl rfl g3 g4 g5 g6 g7 (fun _ _ => rfl) (by omega) (by rw [cw_ct_map]; show _ + (5 + 2 + 11) ≤ _; omega) hd (fun H1 locs1 hP1 _ hS1 => ?_)
        exact hw ((cw_hd_set hq (by rfl)).trans hsh) hL H1 locs1 ls (cw_wd_set (cs := cs) (c := .inl (0, n1, .inl (va_cpy f g _ _ _))) ▸ hP1) hS1 hl
      · exact hw.elim
    · exact hw.elim
  · exact hw.elim
end
end
section
/-! CELLS ARE MADE: the world's addresses grow -/
theorem arrV_congr {cI : ClassId} {N : Nat} {f g : Nat → Value} (h : ∀ j, j < N → f j = g j) : arrV cI N f = arrV cI N g := by
  unfold arrV
  congr 2
  funext j
  exact h j.val j.isLt
theorem cw_vo_tr {n : Nat} {ad ad' : Nat → Nat} (e : ∀ k, k < n → ad' k = ad k) {v : Value} (h : cw_vo n v = true) : cw_tr ad' v = cw_tr ad v := by
  cases v with
  | ref k =>
    show Value.ref (ad' k) = Value.ref (ad k)
    rw [e k (by simpa [cw_vo] using h)]
  | _ => rfl
theorem cw_so_tr {n : Nat} {ad ad' : Nat → Nat} (e : ∀ k, k < n → ad' k = ad k) {S : List Value} (h : cw_so n S = true) : S.map (cw_tr ad') = S.map (cw_tr ad) := by
  apply List.map_congr_left
  intro v hv
  exact cw_vo_tr e (List.all_eq_true.mp h v hv)
theorem cw_lo_pr {n : Nat} {ad ad' : Nat → Nat} (e : ∀ k, k < n → ad' k = ad k) {L : cw_L} (h : cw_lo n L = true) : ∀ q ∈ cw_pr ad' L, q ∈ cw_pr ad L := by
  intro q hq
  obtain ⟨v, h1, h2⟩ := cw_pr_mem.mp hq
  refine cw_pr_mem.mpr ⟨v, h1, ?_⟩
  rw [h2]
  exact cw_vo_tr e (List.all_eq_true.mp h (some v) (List.mem_of_getElem? h1))
theorem cw_qo_eq {n : Nat} {ad ad' : Nat → Nat} (e : ∀ k, k < n → ad' k = ad k) {f : Nat → Option Nat} : ∀ {len : Nat}, cw_qo n f len = true → ∀ j, j < len → (f j).map ad' = (f j).map ad
  | 0, _, j, hj => absurd hj (by omega)
  | k + 1, h, j, hj => by
    unfold cw_qo at h
    rw [Bool.and_eq_true] at h
    rcases Nat.lt_or_ge j k with q | q
    · exact cw_qo_eq e h.2 j q
    · have : j = k := by omega
      subst this
      have h1 := h.1
      cases hf : f j with
      | none => rfl
      | some p =>
        rw [hf] at h1
        show some (ad' p) = some (ad p)
        rw [e p (by simpa using h1)]
theorem cw_co_at {n : Nat} {cs : Nat → ClassId} {ad ad' : Nat → Nat} (e : ∀ k, k < n → ad' k = ad k) {c : cw_C} (h : cw_co n c = true) {D : va_G} {a : Nat} {H : Heap} (hc : va_at D cw_cl (a, cw_tc cs ad c) H) : va_at D cw_cl (a, cw_tc cs ad' c) H := by
  rcases c with ⟨t, len, f | f | f | f | f⟩ | ⟨ci, fs⟩
  · exact hc
  · exact hc
  · exact hc
  · exact hc
  · have hq : cw_qo n f len = true := h
    show H[a]? = some (vp_cell (cs t) (len, .inr (.inr (.inr (.inr (fun j => (f j).map ad'))))))
    have hc' : H[a]? = some (vp_cell (cs t) (len, .inr (.inr (.inr (.inr (fun j => (f j).map ad)))))) := hc
    rw [hc', vp_cell_q, vp_cell_q]
    congr 1
    apply arrV_congr
    intro j hj
    rw [cw_qo_eq e hq j hj]
  · have hq : fs.all (cw_vo n) = true := h
    have : fs.map (cw_tr ad') = fs.map (cw_tr ad) := cw_so_tr e hq
    show va_at D cw_cl (a, .inr (ci, fs.map (cw_tr ad'))) H
    rw [this]
    exact hc

theorem cw_wd_len {cs : Nat → ClassId} {ad : Nat → Nat} {h : cw_H} : (cw_wd cs ad h).length = h.length := by simp [cw_wd]
/-- the world with one cell more -/
theorem cw_grow {D : va_G} {cs : Nat → ClassId} {ad : Nat → Nat} {A : Nat → Prop} {g : cw_H} {c : cw_C} {q : Nat} {H1 : Heap} (ho : cw_ho g.length g = true) (hc : cw_tc cs (fun k => if k = g.length then q else ad k) c = cw_tc cs ad c)
    (hP : va_P D cw_cl (cw_wd cs ad g ++ [(q, cw_tc cs ad c)]) H1) (hD : va_D A (cw_wd cs ad g ++ [(q, cw_tc cs ad c)])) : va_P D cw_cl (cw_wd cs (fun k => if k = g.length then q else ad k) (g ++ [c])) H1 ∧ cw_ap A (fun k => if k = g.length then q else ad k) (g ++ [c]).length := by
  have e : ∀ k, k < g.length → (fun k => if k = g.length then q else ad k) k = ad k := fun k hk => by
    show (if k = g.length then q else ad k) = ad k
    rw [if_neg (by omega)]
  have at1 : ∀ (k : Nat) (x : cw_C), g[k]? = some x → (cw_wd cs ad g ++ [(q, cw_tc cs ad c)])[k]? = some (ad k, cw_tc cs ad x) := by
    intro k x hx
    rw [List.getElem?_append_left (by rw [cw_wd_len]; exact (List.getElem?_eq_some_iff.mp hx).1)]
    exact cw_wd_get hx
  have at2 : (cw_wd cs ad g ++ [(q, cw_tc cs ad c)])[g.length]? = some (q, cw_tc cs ad c) := by
    rw [List.getElem?_append_right (by rw [cw_wd_len]; exact Nat.le_refl _), cw_wd_len]
    simp
  have at3 : ∀ k, k < (g ++ [c]).length → ∃ E : va_E, (cw_wd cs ad g ++ [(q, cw_tc cs ad c)])[k]? = some ((if k = g.length then q else ad k), E) := by
    intro k hk
    rw [List.length_append, List.length_singleton] at hk
    rcases Nat.lt_or_ge k g.length with z | z
    · rw [if_neg (by omega)]
      exact ⟨_, at1 k _ (List.getElem?_eq_getElem z)⟩
    · have : k = g.length := by omega
      subst this
      rw [if_pos rfl]
      exact ⟨_, at2⟩
  refine ⟨fun k x hx => ?_, fun i j hi hj eij => ?_, fun i hi => ?_⟩
  · unfold cw_wd at hx
    rw [List.getElem?_mapIdx] at hx
    rcases Nat.lt_or_ge k g.length with z | z
    · rw [List.getElem?_append_left z] at hx
      cases hg : g[k]? with
      | none => rw [hg] at hx; cases hx
      | some y =>
        rw [hg] at hx
        cases hx
        have h1 := hP k _ (at1 k y hg)
        have h2 := cw_co_at (cs := cs) e (List.all_eq_true.mp ho y (List.mem_of_getElem? hg)) h1
        show va_at D cw_cl ((if k = g.length then q else ad k), _) H1
        rw [if_neg (by omega)]
        exact h2
    · rw [List.getElem?_append_right z] at hx
      have hk0 : k - g.length = 0 := by
        rcases Nat.eq_zero_or_pos (k - g.length) with w | w
        · exact w
        · rw [List.getElem?_eq_none (by simp; omega)] at hx
          cases hx
      have hk : k = g.length := by omega
      subst hk
      rw [hk0] at hx
      cases hx
      have h1 := hP _ _ at2
      show va_at D cw_cl ((if g.length = g.length then q else ad g.length), _) H1
      rw [if_pos rfl, hc]
      exact h1
  · obtain ⟨E1, h1⟩ := at3 i hi
    obtain ⟨E2, h2⟩ := at3 j hj
    exact hD.1 i j _ _ h1 h2 eij
  · obtain ⟨E1, h1⟩ := at3 i hi
    exact hD.2 i _ h1
theorem cw_sl_app {g : cw_H} {c : cw_C} : cw_sl (g ++ [c]) = cw_sl g + cw_sz c := by
  simp [cw_sl, cw_hd]
/-- a constructor's state: at whatever addresses its own cells have come to lie -/
def cw_KA (p : Program) (l : Launch) (e : Env) (R : Room) (s : State) (m : MethodId) (args : Array Value) (below : List Frame) (meth : Method) (c : Code) (D : va_G) (cs : Nat → ClassId) (ad0 : Nat → Nat) (A : Nat → Prop) (n0 s0 bc bs : Nat) (Qf : State → Prop) : Nat → cw_L → List Value → cw_H → Prop := fun pc L S g =>
  ∀ ad : Nat → Nat, (∀ i, i < n0 → ad i = ad0 i) → cw_ap A ad g.length → n0 ≤ g.length ∧ g.length ≤ bc → s0 ≤ cw_sl g ∧ cw_sl g ≤ bs → cw_G p l e R s m args below meth c D cs ad A (cw_hd g) (g.length - n0) (cw_sl g - s0) Qf pc L S g
def cw_isC (M : Nat) : Bool := decide (M < 195) && ((cw_y M).name == "<init>") && decide (cw_mx M ≤ 40)
def cw_PA (D : va_G) (cs : Nat → ClassId) (ad : Nat → Nat) (sz : Nat) (as : List Value) (h : cw_H) : Array Value → State → Prop := va_Pc (as.map (cw_tr ad)) (fun U => U.heap.size = sz ∧ cw_K D cs U ∧ va_P D cw_cl (cw_wd cs ad h) U.heap)
def cw_AA (ad : Nat → Nat) (n sz : Nat) : Nat → Prop := fun q => cw_Ad ad n q ∨ sz ≤ q
def cw_QA (D : va_G) (cs : Nat → ClassId) (ad : Nat → Nat) (n sz : Nat) (Q : Option Value → cw_H → Prop) : Array Value → State → Outcome → State → Prop := fun _ st oc t =>
  (∃ (h' : cw_H) (ad' : Nat → Nat), oc = .returned none ∧ Q none h' ∧ n ≤ h'.length ∧ (∀ i, i < n → ad' i = ad i) ∧ cw_ap (cw_AA ad n sz) ad' h'.length ∧ va_P D cw_cl (cw_wd cs ad' h') t.heap) ∧ va_F (cw_AA ad n sz) st t
/-- the contract of a constructor -/
def cw_MA (cM sM : Nat → Nat) (l : Launch) (D : va_G) (cs : Nat → ClassId) (ad : Nat → Nat) (d sz M : Nat) (as : List Value) (h : cw_H) (Q : Option Value → cw_H → Prop) : Prop :=
  Met l (cw_y M) (cw_ws M) (cw_rm d (cM M) (sM M)) (cw_PA D cs ad sz as h) (cw_QA D cs ad h.length sz Q) (cM M) (sM M) (cw_AA ad h.length sz)
/-- what is known inside a constructor M -/
def cw_CA (cM sM : Nat → Nat) (p : Program) (l : Launch) (R : Room) (s : State) (m : MethodId) (args : Array Value) (c : Code) (M : Nat) (D : va_G) (cs : Nat → ClassId) (A : Nat → Prop) (d : Nat) (C : Nat → List Value → cw_H → (Option Value → cw_H → Prop) → Prop) : Prop :=
  (p.tables.exec = Jvm.exec ∧ c.code = cw_b M ∧ c.maxLocals = cw_mx M ∧ s.vm.findClass (cw_y M).cls = some m.cls ∧ (∀ w ∈ cw_t, w.before args s = true)) ∧
  cw_K D cs s ∧ (d ≤ R.frames ∧ 100 * d ≤ R.locals ∧ R.cells = cM M ∧ R.slots = sM M) ∧ (∀ q, s.heap.size ≤ q → A q) ∧
  (∀ (M' : Nat) (as : List Value) (h : cw_H) (Q' : Option Value → cw_H → Prop), cw_isC M' = true → C M' as h Q' → (∀ r g, Q' r g → r = none) → ∃ d' : Nat, d = d' + 1 ∧ ∀ (ad : Nat → Nat) (sz : Nat), cw_ap (fun _ => True) ad h.length → cw_MA cM sM l D cs ad d' sz M' as h Q')
def cw_SA (cM sM : Nat → Nat) (M pc : Nat) (sem : cw_S) : Prop := ∀ (p : Program) (l : Launch) (e : Env) (R : Room) (s : State) (m : MethodId) (args : Array Value) (below : List Frame) (meth : Method) (c : Code) (D : va_G) (cs : Nat → ClassId) (ad0 : Nat → Nat) (A : Nat → Prop) (n0 s0 : Nat) (Qf : State → Prop) (d : Nat) (C : Nat → List Value → cw_H → (Option Value → cw_H → Prop) → Prop) (Q : Option Value → cw_H → Prop) (L : cw_L) (S : List Value) (h : cw_H),
  cw_CA cM sM p l R s m args c M D cs A d C →
  cw_wp cM sM C (cw_KA p l e R s m args below meth c D cs ad0 A n0 s0 (n0 + cM M) (s0 + sM M) Qf) Q (n0 + cM M) (s0 + sM M) (sem d L S h) → cw_KA p l e R s m args below meth c D cs ad0 A n0 s0 (n0 + cM M) (s0 + sM M) Qf pc L S h
section
variable {cM sM : Nat → Nat} {M pc : Nat}
theorem cw_made {p : Program} {l : Launch} {e : Env} {R : Room} {s : State} {m : MethodId} {args : Array Value} {below : List Frame} {meth : Method} {c : Code} {D : va_G} {cs : Nat → ClassId} {ad0 ad : Nat → Nat} {A : Nat → Prop} {n0 s0 bc bs : Nat} {Qf : State → Prop} {L : cw_L} {S : List Value} {g : cw_H} {x : cw_C} {q n : Nat} {H1 : Heap} {locs : List Loc} {ls : Array Slot}
    (hk : cw_KA p l e R s m args below meth c D cs ad0 A n0 s0 bc bs Qf pc L (.ref g.length :: S) (g ++ [x])) (b1 : g.length + 1 ≤ bc) (b2 : cw_sl g + n ≤ bs) (ho : cw_ho g.length g = true) (hlo : cw_lo g.length L = true) (hso : cw_so g.length S = true) (hag : ∀ i, i < n0 → ad i = ad0 i) (hn : n0 ≤ g.length) (hs : s0 ≤ cw_sl g) (hL : L.length = c.maxLocals) (hsz : cw_sz x = n)
    (ec : ∀ a : Nat → Nat, cw_tc cs a x = cw_tc cs ad x) (hP1 : va_P D cw_cl (cw_wd cs ad g ++ [(q, cw_tc cs ad x)]) H1) (hD1 : va_D A (cw_wd cs ad g ++ [(q, cw_tc cs ad x)])) (hS1 : va_S A s.heap H1 locs) (hl : lv_has ls c.maxLocals (cw_pr ad L)) :
    W p l e R s m args below meth c H1 locs (g.length - n0 + 1) (cw_sl g - s0 + n) Qf (F0 m pc ls (.ref q :: S.map (cw_tr ad))) := by
  obtain ⟨hP2, hap2⟩ := cw_grow (D := D) (cs := cs) (ad := ad) (A := A) (q := q) (H1 := H1) (c := x) ho (ec _) hP1 hD1
  have hag2 : ∀ k, k < g.length → (fun k => if k = g.length then q else ad k) k = ad k := fun k hk => by
    show (if k = g.length then q else ad k) = ad k
    rw [if_neg (by omega)]
  have hlen2 : (g ++ [x]).length = g.length + 1 := by simp
  have hsl2 : cw_sl (g ++ [x]) = cw_sl g + n := by rw [cw_sl_app, hsz]
  have := hk (fun k => if k = g.length then q else ad k) (fun i hi => (hag2 i (by omega)).trans (hag i hi)) hap2 ⟨by omega, by omega⟩ ⟨by omega, by omega⟩ rfl hL H1 locs ls hP2 hS1 (hl.le (cw_lo_pr hag2 hlo))
  rw [hlen2, hsl2] at this
  rw [show g.length - n0 + 1 = g.length + 1 - n0 by omega, show cw_sl g - s0 + n = cw_sl g + n - s0 by omega]
  rw [List.map_cons, cw_so_tr hag2 hso] at this
  have e3 : cw_tr (fun k => if k = g.length then q else ad k) (.ref g.length) = .ref q := by
    show Value.ref (if g.length = g.length then q else ad g.length) = .ref q
    rw [if_pos rfl]
  rw [e3] at this
  exact this
theorem so_new {ci idx N : Nat} {C : String} {T : u_T} {ty : Nat → FieldType} {fs : List Value} (hd : decode (cw_b M) pc = .ok (.new idx, 3)) (hc : cw_cl[ci]? = some (C, T, N)) (hin : ∀ w ∈ u_ws C T N, w ∈ cw_t) (hty : ∀ k, k < N → parseFieldDescriptor (T k).2.2.1 = some (ty k)) (h1 : Cond.classLink (cw_y M).cls idx C ∈ cw_t) (h2 : Cond.instantiable C N ∈ cw_t) (h3 : Cond.initialized C ∈ cw_t) (hfs : ∀ j, j < N → defaultValue (ty j) = vp_V fs j) (hlen : fs.length = N) (hno : fs.all (cw_vo 0) = true) : cw_SA cM sM M pc (s_new ci fs (pc + 3)) := by
  intro p l e R s m args below meth c D cs ad0 A n0 s0 Qf d C Q L S g X hw ad hag hap hn hs hsh hL H locs ls hP hS hl
  obtain ⟨⟨hx, hb, hml, hown, hts⟩, hK, hR, hA, -⟩ := X
  obtain ⟨⟨b1, b2, ho, hlo, hso⟩, hk⟩ := hw
  have hD : va_D A (cw_wd cs ad g) := cw_ap.D hap
  have hz : ∀ a : Nat → Nat, fs.map (cw_tr a) = fs := by
    intro a
    have : fs.map (cw_tr a) = fs.map id := by
      apply List.map_congr_left
      intro v hv
      have h0 := List.all_eq_true.mp hno v hv
      cases v with
      | ref k => simp [cw_vo] at h0
      | _ => rfl
    rw [this, List.map_id]
  have ec : ∀ a : Nat → Nat, cw_tc cs a (.inr (ci, fs)) = .inr (ci, fs) := fun a => by show Sum.inr (ci, fs.map (cw_tr a)) = _; rw [hz a]
  refine va_new (D := D) (fs := fs) (cells := g.length - n0) (slots := cw_sl g - s0) hx hb hts hin ty hty hown (hts _ h1) (hts _ h2) (hts _ h3) hK.1 hP hD hS hA hc hfs (by omega) (by omega) hd (fun q H1 hP1 hD1 hS1 => ?_)
  exact cw_made hk b1 (by first | exact b2 | (rw [← hlen]; exact b2)) ho hlo hso hag hn.1 hs.1 hL hlen (fun a => by rw [ec, ec]) (by rw [ec]; exact hP1) (by rw [ec]; exact hD1) hS1 hl
theorem cw_cls_eq {D : va_G} {cs : Nat → ClassId} {s : State} {t : Nat} {ty : FieldType} {cA : ClassId} (ht : (cw_ty cs)[t]? = some (cs t, ty)) (hty : ty = .int ∨ ty = .long ∨ ∃ C, ty = .object C) (hK : va_K D cw_cl (cw_ty cs ++ [(cA, ty)]) s) : cA = cs t := by
  have hl : t < (cw_ty cs).length := (List.getElem?_eq_some_iff.mp ht).1
  have h1 := (hK.2 t (cs t, ty) (by rw [List.getElem?_append_left hl]; exact ht)).2
  have h2 := (hK.2 (cw_ty cs).length (cA, ty) (by simp)).2
  rcases hty with rfl | rfl | ⟨C, rfl⟩
  · exact Option.some.inj (h2.symm.trans h1)
  · exact Option.some.inj (h2.symm.trans h1)
  · obtain ⟨_, _, _, _, _, e1⟩ := h1
    obtain ⟨_, _, _, _, _, e2⟩ := h2
    exact Option.some.inj (e2.symm.trans e1)
theorem so_newI (hd : decode (cw_b M) pc = .ok (.newarray .int, 2)) (h1 : Cond.arrayClass .int ∈ cw_t) : cw_SA cM sM M pc (s_newa 0 (pc + 2)) := by
  intro p l e R s m args below meth c D cs ad0 A n0 s0 Qf d C Q L S g X hw ad hag hap hn hs hsh hL H locs ls hP hS hl
  obtain ⟨⟨hx, hb, hml, hown, hts⟩, hK, hR, hA, -⟩ := X
  unfold s_newa at hw
  split at hw
  · rename_i k r
    split at hw
    · rename_i hk0
      obtain ⟨⟨b1, b2, ho, hlo, hso⟩, hk⟩ := hw
      have hD : va_D A (cw_wd cs ad g) := cw_ap.D hap
      refine va_newa (D := D) (atype := .int) (a0 := (k.toNatClampNeg, .inl (fun _ => 0))) (cells := g.length - n0) (slots := cw_sl g - s0) hx hb (hts _ h1) rfl hK.1 hP hD hS hA (fun _ => rfl) hk0.1 rfl (by show _ * 4 ≤ _; omega) (by omega) (by omega) hd (fun q cA H1 hK1 hP1 hD1 hS1 => ?_)
      have ecA : cA = cs 0 := cw_cls_eq (ty := .int) rfl (Or.inl rfl) hK1
      subst ecA
      exact cw_made hk b1 (by first | exact b2 | (rw [← hlen]; exact b2)) ho hlo hso hag hn.1 hs.1 hL rfl (fun a => rfl) hP1 hD1 hS1 hl
    · exact hw.elim
  · exact hw.elim
theorem so_newL (hd : decode (cw_b M) pc = .ok (.newarray .long, 2)) (h1 : Cond.arrayClass .long ∈ cw_t) : cw_SA cM sM M pc (s_newa 1 (pc + 2)) := by
  intro p l e R s m args below meth c D cs ad0 A n0 s0 Qf d C Q L S g X hw ad hag hap hn hs hsh hL H locs ls hP hS hl
  obtain ⟨⟨hx, hb, hml, hown, hts⟩, hK, hR, hA, -⟩ := X
  unfold s_newa at hw
  split at hw
  · rename_i k r
    split at hw
    · rename_i hk0
      obtain ⟨⟨b1, b2, ho, hlo, hso⟩, hk⟩ := hw
      have hD : va_D A (cw_wd cs ad g) := cw_ap.D hap
      refine va_newa (D := D) (atype := .long) (a0 := (k.toNatClampNeg, .inr (.inl (fun _ => 0)))) (cells := g.length - n0) (slots := cw_sl g - s0) hx hb (hts _ h1) rfl hK.1 hP hD hS hA (fun _ => rfl) hk0.1 rfl (by show _ * 8 ≤ _; omega) (by omega) (by omega) hd (fun q cA H1 hK1 hP1 hD1 hS1 => ?_)
      have ecA : cA = cs 1 := cw_cls_eq (ty := .long) rfl (Or.inr (Or.inl rfl)) hK1
      subst ecA
      exact cw_made hk b1 (by first | exact b2 | (rw [← hlen]; exact b2)) ho hlo hso hag hn.1 hs.1 hL rfl (fun a => rfl) hP1 hD1 hS1 hl
    · exact hw.elim
  · exact hw.elim
theorem so_newR {t idx : Nat} (ht : t < 2) (hd : decode (cw_b M) pc = .ok (.anewarray idx, 3)) (h1 : Cond.classLink (cw_y M).cls idx (cw_rn t) ∈ cw_t) : cw_SA cM sM M pc (s_newa (t + 2) (pc + 3)) := by
  intro p l e R s m args below meth c D cs ad0 A n0 s0 Qf d C Q L S g X hw ad hag hap hn hs hsh hL H locs ls hP hS hl
  obtain ⟨⟨hx, hb, hml, hown, hts⟩, hK, hR, hA, -⟩ := X
  have hAO : va_AO (cw_rn t) s := by
    rcases (show t = 0 ∨ t = 1 by omega) with rfl | rfl
    · exact hK.2.2.1
    · exact hK.2.2.2
  unfold s_newa at hw
  split at hw
  · rename_i k r
    split at hw
    · rename_i hk0
      have hrow : cw_row (t + 2) k.toNatClampNeg = some (.inl (t + 2, k.toNatClampNeg, .inr (.inr (.inr (.inr (fun _ => none)))))) := by
        rcases (show t = 0 ∨ t = 1 by omega) with rfl | rfl <;> rfl
      rw [hrow] at hw
      obtain ⟨⟨b1, b2, ho, hlo, hso⟩, hk⟩ := hw
      have hD : va_D A (cw_wd cs ad g) := cw_ap.D hap
      refine va_newq (D := D) (cells := g.length - n0) (slots := cw_sl g - s0) hx hb hown (hts _ h1) hAO hK.1 hP hD hS hA hk0.1 rfl (by omega) (by omega) (by omega) hd (fun q cA H1 hK1 hP1 hD1 hS1 => ?_)
      have ecA : cA = cs (t + 2) := cw_cls_eq (cw_ty_r ht) (Or.inr (Or.inr ⟨_, rfl⟩)) hK1
      subst ecA
      exact cw_made hk b1 (by first | exact b2 | (rw [← hlen]; exact b2)) ho hlo hso hag hn.1 hs.1 hL rfl (fun a => rfl) hP1 hD1 hS1 hl
    · exact hw.elim
  · exact hw.elim
/-- behind a call of a constructor -/
theorem cw_contA {p : Program} {l : Launch} {e : Env} {R : Room} {s : State} {m : MethodId} {args : Array Value} {below : List Frame} {meth : Method} {c : Code} {H : Heap} {locs : List Loc} {cells slots mc ms : Nat} {Q : State → Prop} {D : va_G} {cs : Nat → ClassId} {ad : Nat → Nat} {n : Nat} {A : Nat → Prop} {pc : Nat} {ls : Array Slot} {st0 rest : List Value} {a : Array Value} {Q' : Option Value → cw_H → Prop}
    (hr : va_Run p l e R s m args below meth c H locs cells slots mc ms (F0 m pc ls st0) rest (cw_QA D cs ad n H.size Q' a) (cw_AA ad n H.size)) (hS : va_S A s.heap H locs) (hA : ∀ q, cw_Ad ad n q → A q) (hA2 : ∀ q, s.heap.size ≤ q → A q)
    (kk : ∀ (h' : cw_H) (ad' : Nat → Nat) (H1 : Heap) (locs1 : List Loc), Q' none h' → n ≤ h'.length → (∀ i, i < n → ad' i = ad i) → cw_ap A ad' h'.length → va_P D cw_cl (cw_wd cs ad' h') H1 → va_S A s.heap H1 locs1 → W p l e R s m args below meth c H1 locs1 (cells + mc) (slots + ms) Q (F0 m (pc + 3) ls rest)) : W p l e R s m args below meth c H locs cells slots Q (F0 m pc ls st0) := by
  have hAA : ∀ q, cw_AA ad n H.size q → A q := fun q h => h.elim (hA q) (fun z => hA2 q (Nat.le_trans hS.1 z))
  intro T hT X
  obtain ⟨v, st₀, t, T', L, h0, X', hL, e1, e2, ⟨⟨h', ad', hv, hq, hn, hag, hap, hP⟩, hz, hk⟩, st⟩ := hr T hT X
  cases hv
  rw [h0] at hz hk
  obtain ⟨t2, a1, b1⟩ := kk h' ad' T'.heap (locs ++ L) hq hn hag ⟨hap.1, fun i hi => hAA _ (hap.2 i hi)⟩ (by rw [e1]; exact hP)
    ⟨Nat.le_trans hS.1 (by rw [e1]; exact hz), fun q h1 h2 => by rw [e1, hk q (Nat.lt_of_lt_of_le h1 hS.1) (fun z => h2 (hAA q z))]; exact hS.2.1 q h1 h2, fun q hq => by
      rcases List.mem_append.mp hq with h | h
      · exact hS.2.2 q h
      · exact hAA _ (hL q h)⟩ T' rfl X'
  exact ⟨t2, st t2 a1, b1⟩
theorem cw_blindA {D : va_G} {cs : Nat → ClassId} {ad : Nat → Nat} {sz : Nat} {as : List Value} {h : cw_H} : FrameBlind (cw_PA D cs ad sz as h) := fun a U g mk q => ⟨q.1, q.2.1, cw_K.same (s := U) (U := U.calling g mk a) rfl q.2.2.1, q.2.2.2⟩
/-- a constructor is called: by a link of the class itself, or by one of its nest's -/
theorem so_callI {M' n idx : Nat} (hd : decode (cw_b M) pc = .ok (.invokespecial idx, 3)) (h1 : Cond.methodLink (cw_y M).cls idx (cw_y M') ∈ cw_t ∨ ∃ host, Cond.methodLinkNest (cw_y M).cls idx (cw_y M') host ∈ cw_nest) (h2 : Cond.instanceMethod (cw_y M') ∈ cw_t) (hr : cw_rt M' = none) (hn0 : cw_np M' = n) (hC' : cw_isC M' = true) : cw_SA cM sM M pc (s_callI M' n (pc + 3)) := by
  intro p l e R s m args below meth c D cs ad0 A n0 s0 Qf d C Q L S g X hw ad hag hap hn hs hsh hL H locs ls hP hS hl
  obtain ⟨⟨hx, hb, hml, hown, hts⟩, hK, hR, hA, hC⟩ := X
  have hNN := hC'
  unfold cw_isC at hNN
  simp only [Bool.and_eq_true, decide_eq_true_eq, beq_iff_eq] at hNN
  have hM' : M' < 195 := hNN.1.1
  have hmx : cw_mx M' ≤ 40 := hNN.2
  unfold s_callI at hw
  split at hw
  · rename_i as p1 r hpop
    split at hw
    · rename_i hh
      obtain ⟨g1, g3, g4⟩ := hh
      obtain ⟨eS, eA⟩ := cw_pop_eq hpop g3
      obtain ⟨⟨b1, b2, ho, hlo, hso⟩, hcall⟩ := hw
      obtain ⟨d', ed, hM0⟩ := hC M' _ g _ hC' hcall (fun _ _ z => z.1)
      have hM := hM0 ad H.size ⟨hap.1, fun _ _ => trivial⟩
      subst ed
      obtain ⟨f1, f2, f3, f4⟩ := cw_facts hM'
      have hini : Cond.initialized (cw_y M').cls ∈ cw_t := cw_init_in _ (cw_m_mem hM')
      have hpre : PreS s H (cw_PA D cs ad H.size (.ref p1 :: as) g) (.ref (ad p1) :: as.map (cw_tr ad)) := ⟨cw_blindA, fun U hU hW => ⟨rfl, by rw [hU], hK.warm hW, by rw [hU]; exact hP⟩⟩
      have hst : (F0 m pc ls (S.map (cw_tr ad))).stack = (as.map (cw_tr ad)).reverse ++ .ref (ad p1) :: r.map (cw_tr ad) := by
        show S.map (cw_tr ad) = _
        rw [eS, List.map_append, List.map_reverse]
        rfl
      have hws : cw_ws M' = Cond.code (cw_y M') (cw_b M') (cw_mx M') none :: cw_t := by
        unfold cw_ws
        rw [hr]
      have hrun : va_Run p l e R s m args below meth c H locs (g.length - n0) (cw_sl g - s0) (cM M') (sM M') (F0 m pc ls (S.map (cw_tr ad))) (r.map (cw_tr ad)) (cw_QA D cs ad g.length H.size (fun r h' => r = none ∧ h'.length = g.length + cM M' ∧ cw_sl h' = cw_sl g + sM M' ∧ cw_KA p l e R s m args below meth c D cs ad0 A n0 s0 (n0 + cM M) (s0 + sM M) Qf (pc + 3) L ‹_› h') (Value.ref (ad p1) :: as.map (cw_tr ad)).toArray) (cw_AA ad g.length H.size) := by
        rcases h1 with h1 | ⟨host, h1⟩
        · exact va_runI (As := as.map (cw_tr ad)) (b := ad p1) ⟨hx, hb, hml, hown, hts⟩ hM
            (cwI (R := R) n hts (cw_good hM') hws rfl rfl (hts _ hini) (hts _ h1) (hts _ h2) hNN.1.2 ⟨f2, f3, by rw [f4, hn0]⟩ ⟨by show d' + 1 ≤ R.frames; omega, by show 8 + (cw_mx M' + 11) + 100 * d' ≤ R.locals; omega⟩)
            hpre rfl (by rw [List.length_map]; exact eA) (by show ls.size = cw_mx M; rw [hl.1, hml]) hst (by show 2 * 0 + _ ≤ 8; rw [cw_ct_map]; omega) hd ⟨by omega, by omega⟩
        · exact va_runIN (As := as.map (cw_tr ad)) (b := ad p1) ⟨hx, hb, hml, hown, hts⟩ hM
            ⟨va_cnB (R := R) n hts (cw_good hM') hws rfl rfl (hK.2.1 _ h1) (hts _ hini) ⟨f2, f3, by rw [f4, hn0]⟩ ⟨by show d' + 1 ≤ R.frames; omega, by show 8 + (cw_mx M' + 11) + 100 * d' ≤ R.locals; omega⟩, hNN.1.2, hts _ h2⟩
            hpre rfl (by rw [List.length_map]; exact eA) (by show ls.size = cw_mx M; rw [hl.1, hml]) hst (by show 2 * 0 + _ ≤ 8; rw [cw_ct_map]; omega) hd ⟨by omega, by omega⟩
      refine cw_contA hrun hS (fun q hq => by obtain ⟨i, hi, rfl⟩ := hq; exact hap.2 i hi) hA (fun h' ad' H1 locs1 hQ hle hag' hap' hP1 hS1 => ?_)
      obtain ⟨-, e1, e2, hk⟩ := hQ
      have := hk ad' (fun i hi => (hag' i (by omega)).trans (hag i hi)) hap' ⟨by omega, by omega⟩ ⟨by omega, by omega⟩ rfl hL H1 locs1 ls hP1 hS1 (hl.le (cw_lo_pr hag' hlo))
      rw [cw_so_tr hag' hso, e1, e2] at this
      rw [show g.length - n0 + cM M' = g.length + cM M' - n0 by omega, show cw_sl g - s0 + sM M' = cw_sl g + sM M' - s0 by omega]
      exact this
    · exact hw.elim
  · exact hw.elim
end
end
section
section
variable {cM sM : Nat → Nat} {M pc : Nat}
theorem so_table {lo hi df : Int} {offs : Array Int} {len : Nat} {tg : List Nat} {dflt : Nat} (hd : decode (cw_b M) pc = .ok (.tableswitch df lo hi offs, len)) (h1 : offs.toList.map (fun o => (pc : Int) + o) = tg.map (fun (t : Nat) => (t : Int))) (h2 : hi + 1 = lo + tg.length) (h3 : (pc : Int) + df = (dflt : Int)) : cw_SN cM sM M pc (s_table lo tg dflt) := by
  intro p l e R s m args below meth c D cs ad A sh cells slots mc ms Qc free d C Q L S h X ⟨bc, bs, hw⟩ hsh hL H locs ls hP hS hl
  obtain ⟨⟨hx, hb, -⟩, -⟩ := X
  unfold s_table at hw
  split at hw
  · rename_i x r
    split at hw
    · rename_i hin
      have hk : (x.toInt - lo).toNat < tg.length := by omega
      have hlen : offs.toList.length = tg.length := by
        have := congrArg List.length h1
        simpa using this
      have hk2 : (x.toInt - lo).toNat < offs.size := by rw [← Array.length_toList]; omega
      have he : (pc : Int) + offs[(x.toInt - lo).toNat] = ((tg.getD (x.toInt - lo).toNat dflt : Nat) : Int) := by
        have h4 := congrArg (fun q : List Int => q[(x.toInt - lo).toNat]?) h1
        simp only [List.getElem?_map, Array.getElem?_toList, Array.getElem?_eq_getElem hk2, List.getElem?_eq_getElem hk, Option.map_some, Option.some.injEq] at h4
        rw [h4, List.getD_eq_getElem?_getD, List.getElem?_eq_getElem hk]
        rfl
      exact lv_tableIn hx hb hd (by omega) (by omega) (Array.getElem?_eq_getElem hk2) he (hw hsh hL H locs ls hP hS hl)
    · rename_i hin
      exact lv_tableOut hx hb hd (by omega) h3 (hw hsh hL H locs ls hP hS hl)
  · exact hw.elim
theorem so_lookup {df : Int} {ps : Array (Int × Int)} {len : Nat} {ks : List (Int × Nat)} {dflt : Nat} (hd : decode (cw_b M) pc = .ok (.lookupswitch df ps, len)) (h1 : (ps.toList.zip (ps.toList.drop 1)).all (fun (a, next) => a.1 < next.1) = true) (h2 : ∀ k : Int, (pc : Int) + Op.lookupswitch.offset ps.toList df k = (((ks.lookup k).getD dflt : Nat) : Int)) : cw_SN cM sM M pc (s_switch ks dflt) := by
  intro p l e R s m args below meth c D cs ad A sh cells slots mc ms Qc free d C Q L S h X ⟨bc, bs, hw⟩ hsh hL H locs ls hP hS hl
  obtain ⟨⟨hx, hb, -⟩, -⟩ := X
  unfold s_switch at hw
  split at hw
  · exact lv_lookup hx hb hd h1 rfl (h2 _) (hw hsh hL H locs ls hP hS hl)
  · exact hw.elim
end
theorem cw_wp_mono {cM sM : Nat → Nat} {C : Nat → List Value → cw_H → (Option Value → cw_H → Prop) → Prop} {K K' : Nat → cw_L → List Value → cw_H → Prop} {Q Q' : Option Value → cw_H → Prop} {bc bs : Nat} {a : Option cw_A} (hC : ∀ M as h (P P' : Option Value → cw_H → Prop), (∀ r g, P r g → P' r g) → C M as h P → C M as h P') (hK : ∀ pc L S h, K pc L S h → K' pc L S h) (hQ : ∀ r h, Q r h → Q' r h) (h : cw_wp cM sM C K Q bc bs a) : cw_wp cM sM C K' Q' bc bs a := by
  rcases a with _ | ⟨_ | ⟨_ | ⟨_ | ⟨_ | ⟨_ | _⟩⟩⟩⟩⟩
  · exact h
  · exact hK _ _ _ _ h
  · exact ⟨fun q => hK _ _ _ _ (h.1 q), fun q => hK _ _ _ _ (h.2 q)⟩
  · exact hC _ _ _ _ _ (fun r g z => hK _ _ _ _ z) h
  · exact hQ _ _ h
  · exact ⟨h.1, hK _ _ _ _ h.2⟩
  · exact ⟨h.1, hC _ _ _ _ _ (fun r g z => ⟨z.1, z.2.1, z.2.2.1, hK _ _ _ _ z.2.2.2⟩) h.2⟩
theorem cw_wp_Q {cM sM : Nat → Nat} {C : Nat → List Value → cw_H → (Option Value → cw_H → Prop) → Prop} {K : Nat → cw_L → List Value → cw_H → Prop} {Q Q' : Option Value → cw_H → Prop} {bc bs : Nat} {a : Option cw_A} (hQ : ∀ r h, Q r h → Q' r h) (h : cw_wp cM sM C K Q bc bs a) : cw_wp cM sM C K Q' bc bs a := by
  rcases a with _ | ⟨_ | ⟨_ | ⟨_ | ⟨_ | ⟨_ | _⟩⟩⟩⟩⟩
  · exact h
  · exact h
  · exact h
  · exact h
  · exact hQ _ _ h
  · exact h
  · exact h
theorem cw_X_mono {tb : Nat → Nat → Option cw_S} {mx cM sM : Nat → Nat} : ∀ (d M : Nat) (as : List Value) (h : cw_H) (Q Q' : Option Value → cw_H → Prop), (∀ r g, Q r g → Q' r g) → cw_X tb mx cM sM d M as h Q → cw_X tb mx cM sM d M as h Q' := by
  intro d M as h Q Q' hQ hX
  cases d with
  | zero => exact ⟨hX.1, fun K hK => hX.2 K fun pc L S g sem e hw => hK pc L S g sem e (cw_wp_Q hQ hw)⟩
  | succ d => exact ⟨hX.1, fun K hK => hX.2 K fun pc L S g sem e hw => hK pc L S g sem e (cw_wp_Q hQ hw)⟩
theorem cw_lv_args {ad : Nat → Nat} : ∀ (as : List Value) (i j : Nat) (v : Value), as.all (fun v => v.category == 1) = true → as[j]? = some v → (i + j, cw_tr ad v) ∈ lv_args i (as.map (cw_tr ad))
  | [], _, _, _, _, h => by simp at h
  | a :: as, i, j, v, hc, h => by
    rw [List.all_cons, Bool.and_eq_true] at hc
    have hca : a.category = 1 := by simpa using hc.1
    show _ ∈ (i, cw_tr ad a) :: lv_args (if (cw_tr ad a).category = 2 then i + 2 else i + 1) (as.map (cw_tr ad))
    rw [cw_tr_cat, hca, if_neg (by decide)]
    cases j with
    | zero =>
      simp at h
      subst h
      exact List.mem_cons_self
    | succ j =>
      simp at h
      have := cw_lv_args (ad := ad) as (i + 1) j v hc.2 h
      rw [show i + 1 + j = i + (j + 1) by omega] at this
      exact List.mem_cons_of_mem _ this
theorem cw_sl_len {ad : Nat → Nat} : ∀ (as : List Value), as.all (fun v => v.category == 1) = true → (lg_sl (as.map (cw_tr ad))).length = as.length
  | [], _ => rfl
  | a :: as, hc => by
    rw [List.all_cons, Bool.and_eq_true] at hc
    have hca : a.category = 1 := by simpa using hc.1
    have ih := cw_sl_len (ad := ad) as hc.2
    rw [List.map_cons]
    unfold lg_sl at ih ⊢
    simp only [List.flatMap_cons, List.length_append, List.length_cons, ih]
    have : (cw_tr ad a).category = 1 := by rw [cw_tr_cat]; exact hca
    simp [this]
    omega
theorem cw_entry_len {n : Nat} {as : List Value} (h : cw_aok n as = true) : (cw_entry n as).length = n := by
  unfold cw_aok at h
  simp only [Bool.and_eq_true, decide_eq_true_eq] at h
  unfold cw_entry
  simp
  omega
theorem cw_entry_has {ad : Nat → Nat} {n : Nat} {as : List Value} (h : cw_aok n as = true) : lv_has ((lg_sl (as.map (cw_tr ad)) ++ List.replicate (n - (lg_sl (as.map (cw_tr ad))).length) Slot.unset).toArray) n (cw_pr ad (cw_entry n as)) := by
  unfold cw_aok at h
  simp only [Bool.and_eq_true, decide_eq_true_eq] at h
  refine (lv_entry (as.map (cw_tr ad)) (n := n) (by rw [cw_sl_len as h.1]; exact h.2)).le fun q hq => ?_
  obtain ⟨v, h1, h2⟩ := cw_pr_mem.mp hq
  have hv : as[q.1]? = some v := by
    unfold cw_entry at h1
    rw [List.getElem?_append] at h1
    split at h1
    · rw [List.getElem?_map] at h1
      cases ha : as[q.1]? with
      | none => rw [ha] at h1; cases h1
      | some w => rw [ha] at h1; cases h1; rfl
    · rw [List.getElem?_replicate] at h1
      split at h1 <;> cases h1
  have := cw_lv_args (ad := ad) as 0 q.1 v h.1 hv
  rw [Nat.zero_add, ← h2] at this
  exact this
end
section
/-! WHAT THE ABSTRACT MACHINE DOES THE REAL ONE DOES -/
def cw_TN (tb : Nat → Nat → Option cw_S) (cM sM : Nat → Nat) : Prop := ∀ (M pc : Nat) (sem : cw_S), cw_isN M = true → tb M pc = some sem → cw_SN cM sM M pc sem
def cw_TA (tb : Nat → Nat → Option cw_S) (cM sM : Nat → Nat) : Prop := ∀ (M pc : Nat) (sem : cw_S), cw_isC M = true → tb M pc = some sem → cw_SN cM sM M pc sem ∨ cw_SA cM sM M pc sem
section
variable {tb : Nat → Nat → Option cw_S} {cM sM : Nat → Nat}
/-- a body without new cells, over contracts of what it calls -/
theorem cw_bodyN (hT : cw_TN tb cM sM) {d M : Nat} {as : List Value} {h : cw_H} {Q : Option Value → cw_H → Prop} {C : Nat → List Value → cw_H → (Option Value → cw_H → Prop) → Prop} {l : Launch} {D : va_G} {cs : Nat → ClassId} {ad : Nat → Nat} (hM : cw_isN M = true) (hap : cw_ap (fun _ => True) ad h.length)
    (hC : ∀ (M' : Nat) (as : List Value) (g : cw_H) (Q' : Option Value → cw_H → Prop), cw_isN M' = true → C M' as g Q' → cw_ap (fun _ => True) ad g.length → ∃ d' : Nat, d = d' + 1 ∧ cw_MN l D cs ad d' M' as g Q')
    (hok : cw_aok (cw_mx M) as = true) (hX : ∀ K, cw_Cl tb cM sM C d M h Q K → K 0 (cw_entry (cw_mx M) as) [] h) : cw_MN l D cs ad d M as h Q := by
  have hNN := hM
  unfold cw_isN at hNN
  simp only [Bool.and_eq_true, decide_eq_true_eq] at hNN
  have hM' : M < 195 := hNN.1.1
  refine Met.ofW (cc := cw_b M) (maxL := cw_mx M) (ret := cw_rt M) (cw_facts hM').1 rfl ?_
  intro p e s m args below meth c s₁ B hml hv
  obtain ⟨rfl, hK, hP⟩ := hv
  have hts0 := atoms_spec (ws := cw_ws M) B.pre
  have hts : ∀ w ∈ cw_t, w.before (as.map (cw_tr ad)).toArray s = true := fun w hw => hts0 w (List.mem_cons_of_mem _ hw)
  have hown : s.vm.findClass (cw_y M).cls = some m.cls := findClass_of_methodNamed B.named
  have hnam : meth.name = (cw_y M).name := (name_of_methodNamed B.named B.method).1
  have hcl : cw_Cl tb cM sM C d M h Q (cw_G p l e (headSpec (cw_ws M) (cw_rm d 0 0)).room s m (as.map (cw_tr ad)).toArray below meth c D cs ad (cw_Ad ad (cw_hd h).length) (cw_hd h) 0 0 (MQ below (cw_QN D cs ad (cw_hd h) Q) (as.map (cw_tr ad)).toArray s 0 0 (cw_Ad ad (cw_hd h).length))) := by
    intro pc L S g sem hsem hw
    refine hT M pc sem hM hsem p l e _ s m _ below meth c D cs ad _ _ 0 0 0 0 _ _ d C Q L S g ⟨⟨B.exec, B.bytes, hml, B.returns, B.notSynchronized, hown, hts, hnam⟩, hK, ⟨?_, fun i hi => ⟨i, hi, rfl⟩⟩, ⟨Nat.le_refl d, Nat.le_refl (100 * d), Nat.zero_le _, Nat.zero_le _⟩, ⟨Nat.le_refl _, Nat.le_refl _⟩, ?_, ?_, fun q hq => hq⟩ ⟨_, _, hw⟩
    · rw [cw_hd_len]
      exact hap.1
    · intro M2 as2 g2 Q2 hN2 hC2 hsh2
      exact hC M2 as2 g2 Q2 hN2 hC2 (by rw [← cw_hd_len, hsh2, cw_hd_len]; exact hap)
    · intro r h' t locs hQ hsh' hP' hW hS
      exact ⟨⟨r, h', rfl, hQ, hsh', hP'⟩, hS.F rfl⟩
  have := hX _ hcl rfl (by rw [cw_entry_len hok, hml]) s.heap [] _ hP va_S.rf (by rw [hml]; exact cw_entry_has hok)
  rw [lg_entry_eq]
  exact this
/-- a constructor's body -/
theorem cw_bodyA (hT : cw_TA tb cM sM) {d M : Nat} {as : List Value} {h : cw_H} {Q : Option Value → cw_H → Prop} {C : Nat → List Value → cw_H → (Option Value → cw_H → Prop) → Prop} {l : Launch} {D : va_G} {cs : Nat → ClassId} {ad : Nat → Nat} {sz : Nat} (hM : cw_isC M = true) (hap : cw_ap (fun _ => True) ad h.length) (hrt : cw_rt M = none)
    (hC : ∀ (M' : Nat) (as : List Value) (g : cw_H) (Q' : Option Value → cw_H → Prop) (ad : Nat → Nat), cw_isN M' = true → C M' as g Q' → cw_ap (fun _ => True) ad g.length → ∃ d' : Nat, d = d' + 1 ∧ cw_MN l D cs ad d' M' as g Q')
    (hCA : ∀ (M' : Nat) (as : List Value) (g : cw_H) (Q' : Option Value → cw_H → Prop), cw_isC M' = true → C M' as g Q' → (∀ r g, Q' r g → r = none) → ∃ d' : Nat, d = d' + 1 ∧ ∀ (ad : Nat → Nat) (sz : Nat), cw_ap (fun _ => True) ad g.length → cw_MA cM sM l D cs ad d' sz M' as g Q')
    (hmono : ∀ M as h (P P' : Option Value → cw_H → Prop), (∀ r g, P r g → P' r g) → C M as h P → C M as h P')
    (hQ : ∀ r h', Q r h' → r = none)
    (hok : cw_aok (cw_mx M) as = true) (hX : ∀ K, cw_Cl tb cM sM C d M h Q K → K 0 (cw_entry (cw_mx M) as) [] h) : cw_MA cM sM l D cs ad d sz M as h Q := by
  have hNN := hM
  unfold cw_isC at hNN
  simp only [Bool.and_eq_true, decide_eq_true_eq] at hNN
  have hM' : M < 195 := hNN.1.1
  refine Met.ofW (cc := cw_b M) (maxL := cw_mx M) (ret := cw_rt M) (cw_facts hM').1 rfl ?_
  intro p e s m args below meth c s₁ B hml hv
  obtain ⟨rfl, hsz, hK, hP⟩ := hv
  subst hsz
  have hts0 := atoms_spec (ws := cw_ws M) B.pre
  have hts : ∀ w ∈ cw_t, w.before (as.map (cw_tr ad)).toArray s = true := fun w hw => hts0 w (List.mem_cons_of_mem _ hw)
  have hown : s.vm.findClass (cw_y M).cls = some m.cls := findClass_of_methodNamed B.named
  have hnam : meth.name = (cw_y M).name := (name_of_methodNamed B.named B.method).1
  have hcl : cw_Cl tb cM sM C d M h Q (cw_KA p l e (headSpec (cw_ws M) (cw_rm d (cM M) (sM M))).room s m (as.map (cw_tr ad)).toArray below meth c D cs ad (cw_AA ad h.length s.heap.size) h.length (cw_sl h) (h.length + cM M) (cw_sl h + sM M) (MQ below (cw_QA D cs ad h.length s.heap.size Q) (as.map (cw_tr ad)).toArray s (cM M) (sM M) (cw_AA ad h.length s.heap.size))) := by
    intro pc L S g sem hsem hw
    rcases hT M pc sem hM hsem with hSN | hSA
    · intro ad1 hag hap1 hn hs hsh
      have hroom : g.length - h.length ≤ cM M ∧ cw_sl g - cw_sl h ≤ sM M := ⟨by omega, by omega⟩
      refine hSN p l e _ s m _ below meth c D cs ad1 _ _ _ _ (cM M) (sM M) _ _ d C Q L S g ⟨⟨B.exec, B.bytes, hml, B.returns, B.notSynchronized, hown, hts, hnam⟩, hK, ?_, ⟨Nat.le_refl d, Nat.le_refl (100 * d), hroom.1, hroom.2⟩, hroom, ?_, ?_, fun q hq => hq⟩ ⟨_, _, cw_wp_mono hmono (fun pc' L' S' g' hk => ?_) (fun _ _ z => z) hw⟩ hsh
      · rw [cw_hd_len]
        exact hap1
      · intro M2 as2 g2 Q2 hN2 hC2 hsh2
        exact hC M2 as2 g2 Q2 ad1 hN2 hC2 ⟨by rw [← cw_hd_len, hsh2, cw_hd_len]; exact hap1.1, fun _ _ => trivial⟩
      · intro r h' t locs hQ' hsh' hP' hW hS
        have hlen : h'.length = g.length := by rw [← cw_hd_len, hsh', cw_hd_len]
        have hr0 := hQ r h' hQ'
        subst hr0
        exact ⟨⟨h', ad1, rfl, hQ', by omega, hag, by rw [hlen]; exact hap1, hP'⟩, hS.F rfl⟩
      · intro hsh'
        have hlen : g'.length = g.length := by rw [← cw_hd_len, hsh', cw_hd_len]
        have hsl : cw_sl g' = cw_sl g := by unfold cw_sl; rw [hsh']
        have := hk ad1 hag (by rw [hlen]; exact hap1) ⟨by omega, by omega⟩ ⟨by omega, by omega⟩
        rw [hsh', hlen, hsl] at this
        exact this hsh'
    · exact hSA p l e _ s m _ below meth c D cs ad _ _ _ _ d C Q L S g ⟨⟨B.exec, B.bytes, hml, hown, hts⟩, hK, ⟨Nat.le_refl d, Nat.le_refl (100 * d), rfl, rfl⟩, fun q hq => Or.inr hq, fun M2 as2 g2 Q2 hC2 hX2 hn2 => hCA M2 as2 g2 Q2 hC2 hX2 hn2⟩ hw
  have := hX _ hcl ad (fun _ _ => rfl) ⟨hap.1, fun i hi => Or.inl ⟨i, hi, rfl⟩⟩ ⟨Nat.le_refl _, Nat.le_add_right _ _⟩ ⟨Nat.le_refl _, Nat.le_add_right _ _⟩ rfl (by rw [cw_entry_len hok, hml]) s.heap [] _ hP va_S.rf (by rw [hml]; exact cw_entry_has hok)
  rw [Nat.sub_self, Nat.sub_self] at this
  rw [lg_entry_eq]
  exact this
end
theorem cw_sound {tb : Nat → Nat → Option cw_S} {cM sM : Nat → Nat} (hT : cw_TN tb cM sM) (hTA : cw_TA tb cM sM) (hrt : ∀ M, cw_isC M = true → cw_rt M = none) : ∀ d : Nat,
    (∀ (M : Nat) (as : List Value) (h : cw_H) (Q : Option Value → cw_H → Prop), cw_isN M = true → cw_X tb cw_mx cM sM d M as h Q → ∀ (l : Launch) (D : va_G) (cs : Nat → ClassId) (ad : Nat → Nat), cw_ap (fun _ => True) ad h.length → cw_MN l D cs ad d M as h Q) ∧
    (∀ (M : Nat) (as : List Value) (h : cw_H) (Q : Option Value → cw_H → Prop), cw_isC M = true → cw_X tb cw_mx cM sM d M as h Q → (∀ r h', Q r h' → r = none) → ∀ (l : Launch) (D : va_G) (cs : Nat → ClassId) (ad : Nat → Nat) (sz : Nat), cw_ap (fun _ => True) ad h.length → cw_MA cM sM l D cs ad d sz M as h Q) := by
  intro d
  induction d with
  | zero =>
    refine ⟨fun M as h Q hM hX l D cs ad hap => ?_, fun M as h Q hM hX hQ l D cs ad sz hap => ?_⟩
    · exact cw_bodyN hT (C := fun _ _ _ _ => False) hM hap (fun _ _ _ _ _ z => z.elim) hX.1 hX.2
    · exact cw_bodyA hTA (C := fun _ _ _ _ => False) hM hap (hrt M hM) (fun _ _ _ _ _ _ z => z.elim) (fun _ _ _ _ _ z _ => z.elim) (fun _ _ _ _ _ _ z => z) hQ hX.1 hX.2
  | succ d ih =>
    refine ⟨fun M as h Q hM hX l D cs ad hap => ?_, fun M as h Q hM hX hQ l D cs ad sz hap => ?_⟩
    · exact cw_bodyN hT (C := cw_X tb cw_mx cM sM d) hM hap (fun M' as' g Q' hN hX' hap' => ⟨d, rfl, ih.1 M' as' g Q' hN hX' l D cs ad hap'⟩) hX.1 hX.2
    · exact cw_bodyA hTA (C := cw_X tb cw_mx cM sM d) hM hap (hrt M hM) (fun M' as' g Q' ad' hN hX' hap' => ⟨d, rfl, ih.1 M' as' g Q' hN hX' l D cs ad' hap'⟩) (fun M' as' g Q' hC hX' hn' => ⟨d, rfl, fun ad' sz' hap' => ih.2 M' as' g Q' hC hX' hn' l D cs ad' sz' hap'⟩) (fun M' as' h' P P' hP hX' => cw_X_mono d M' as' h' P P' hP hX') hQ hX.1 hX.2
end
section
/-! tables of code -/
def cw_leaf (k : Nat) (s : cw_S) (pc : Nat) : Option cw_S := bif Nat.beq pc k then some s else none
def cw_node (k : Nat) (a b : Nat → Option cw_S) (pc : Nat) : Option cw_S := bif Nat.ble k pc then b pc else a pc
def c_History_init : Nat → Option cw_S := cw_node 18 (cw_node 10 (cw_node 4 (cw_node 1 (cw_leaf 0 (s_aload 0 1)) (cw_leaf 1 (s_obj 4))) (cw_node 5 (cw_leaf 4 (s_aload 0 5)) (cw_node 7 (cw_leaf 5 (s_iconst 8 7)) (cw_leaf 7 (s_newa 2 10))))) (cw_node 14 (cw_node 13 (cw_leaf 10 (s_put 0 0 2 13)) (cw_leaf 13 (s_iconst 0 14))) (cw_node 15 (cw_leaf 14 (s_istore 1 15)) (cw_node 16 (cw_leaf 15 (s_iload 1 16)) (cw_leaf 16 (s_iconst 8 18)))))) (cw_node 29 (cw_node 22 (cw_node 21 (cw_leaf 18 (s_icmp (fun x y => decide (y ≤ x)) 40 21)) (cw_leaf 21 (s_aload 0 22))) (cw_node 25 (cw_leaf 22 (s_get 0 0 25)) (cw_node 26 (cw_leaf 25 (s_iload 1 26)) (cw_leaf 26 (s_new 6 [.null, .null, .null, .null, .null, .null, .null, .null, .int 0, .int 0, .int 0, .int 0] 29))))) (cw_node 34 (cw_node 30 (cw_leaf 29 (s_dup 30)) (cw_node 33 (cw_leaf 30 (s_callI m_Tree_init 0 33)) (cw_leaf 33 (s_aast 34)))) (cw_node 37 (cw_leaf 34 (s_iinc 1 1 37)) (cw_node 40 (cw_leaf 37 (s_goto 15)) (cw_leaf 40 (s_vret))))))
def c_History_save : Nat → Option cw_S := cw_node 31 (cw_node 17 (cw_node 8 (cw_node 4 (cw_node 1 (cw_leaf 0 (s_aload 0 1)) (cw_leaf 1 (s_get 0 1 4))) (cw_node 7 (cw_leaf 4 (s_if (fun x => decide (x < 0)) 16 7)) (cw_leaf 7 (s_aload 0 8)))) (cw_node 13 (cw_node 11 (cw_leaf 8 (s_get 0 1 11)) (cw_leaf 11 (s_iconst 8 13))) (cw_node 16 (cw_leaf 13 (s_icmp (fun x y => decide (x < y)) 17 16)) (cw_leaf 16 (s_vret))))) (cw_node 25 (cw_node 21 (cw_node 18 (cw_leaf 17 (s_aload 0 18)) (cw_leaf 18 (s_get 0 0 21))) (cw_node 22 (cw_leaf 21 (s_aload 0 22)) (cw_leaf 22 (s_get 0 1 25)))) (cw_node 27 (cw_node 26 (cw_leaf 25 (s_aald 26)) (cw_leaf 26 (s_aload 1 27))) (cw_node 30 (cw_leaf 27 (s_callV 6 m_Tree_copyFrom 1 30)) (cw_leaf 30 (s_aload 0 31)))))) (cw_node 44 (cw_node 37 (cw_node 35 (cw_node 32 (cw_leaf 31 (s_aload 0 32)) (cw_leaf 32 (s_get 0 1 35))) (cw_node 36 (cw_leaf 35 (s_iconst 1 36)) (cw_leaf 36 (s_ibin (fun x y => x + y) 37)))) (cw_node 40 (cw_node 39 (cw_leaf 37 (s_iconst 8 39)) (cw_leaf 39 (s_idiv (fun x y => x - x / y * y) 40))) (cw_node 43 (cw_leaf 40 (s_put 0 1 0 43)) (cw_leaf 43 (s_aload 0 44))))) (cw_node 50 (cw_node 48 (cw_node 45 (cw_leaf 44 (s_aload 0 45)) (cw_leaf 45 (s_get 0 2 48))) (cw_node 49 (cw_leaf 48 (s_iconst 1 49)) (cw_leaf 49 (s_ibin (fun x y => x + y) 50)))) (cw_node 55 (cw_node 52 (cw_leaf 50 (s_iconst 8 52)) (cw_leaf 52 (s_min 55))) (cw_node 58 (cw_leaf 55 (s_put 0 2 0 58)) (cw_leaf 58 (s_vret))))))
def c_History_restore : Nat → Option cw_S := cw_node 27 (cw_node 15 (cw_node 7 (cw_node 1 (cw_leaf 0 (s_aload 0 1)) (cw_node 4 (cw_leaf 1 (s_get 0 2 4)) (cw_leaf 4 (s_if (fun x => decide (x ≤ 0)) 14 7)))) (cw_node 11 (cw_node 8 (cw_leaf 7 (s_aload 0 8)) (cw_leaf 8 (s_get 0 1 11))) (cw_node 14 (cw_leaf 11 (s_if (fun x => decide (0 ≤ x)) 15 14)) (cw_leaf 14 (s_vret))))) (cw_node 22 (cw_node 17 (cw_node 16 (cw_leaf 15 (s_aload 0 16)) (cw_leaf 16 (s_aload 0 17))) (cw_node 20 (cw_leaf 17 (s_get 0 1 20)) (cw_leaf 20 (s_iconst 8 22)))) (cw_node 24 (cw_node 23 (cw_leaf 22 (s_ibin (fun x y => x + y) 23)) (cw_leaf 23 (s_iconst 1 24))) (cw_node 25 (cw_leaf 24 (s_ibin (fun x y => x - y) 25)) (cw_leaf 25 (s_iconst 8 27)))))) (cw_node 41 (cw_node 33 (cw_node 31 (cw_node 28 (cw_leaf 27 (s_idiv (fun x y => x - x / y * y) 28)) (cw_leaf 28 (s_put 0 1 0 31))) (cw_node 32 (cw_leaf 31 (s_aload 1 32)) (cw_leaf 32 (s_aload 0 33)))) (cw_node 37 (cw_node 36 (cw_leaf 33 (s_get 0 0 36)) (cw_leaf 36 (s_aload 0 37))) (cw_node 40 (cw_leaf 37 (s_get 0 1 40)) (cw_leaf 40 (s_aald 41))))) (cw_node 49 (cw_node 45 (cw_node 44 (cw_leaf 41 (s_callV 6 m_Tree_copyFrom 1 44)) (cw_leaf 44 (s_aload 0 45))) (cw_node 46 (cw_leaf 45 (s_dup 46)) (cw_leaf 46 (s_get 0 2 49)))) (cw_node 51 (cw_node 50 (cw_leaf 49 (s_iconst 1 50)) (cw_leaf 50 (s_ibin (fun x y => x - y) 51))) (cw_node 54 (cw_leaf 51 (s_put 0 2 0 54)) (cw_leaf 54 (s_vret))))))
def c_Merge_init : Nat → Option cw_S := cw_node 1 (cw_leaf 0 (s_aload 0 1)) (cw_node 4 (cw_leaf 1 (s_obj 4)) (cw_leaf 4 (s_vret)))
def c_Merge_weigh : Nat → Option cw_S := cw_node 32 (cw_node 13 (cw_node 4 (cw_node 2 (cw_node 1 (cw_leaf 0 (s_aload 0 1)) (cw_leaf 1 (s_aload 0 2))) (cw_node 3 (cw_leaf 2 (s_aload 1 3)) (cw_leaf 3 (s_aload 2 4)))) (cw_node 10 (cw_node 7 (cw_leaf 4 (s_callV 1 m_Merge_gapBetween 2 7)) (cw_leaf 7 (s_put 1 0 0 10))) (cw_node 11 (cw_leaf 10 (s_aload 0 11)) (cw_node 12 (cw_leaf 11 (s_aload 1 12)) (cw_leaf 12 (s_aload 2 13)))))) (cw_node 20 (cw_node 17 (cw_node 14 (cw_leaf 13 (s_iload 3 14)) (cw_leaf 14 (s_callV 1 m_Merge_leadOf 3 17))) (cw_node 19 (cw_leaf 17 (s_istore 4 19)) (cw_leaf 19 (s_aload 0 20)))) (cw_node 24 (cw_node 21 (cw_leaf 20 (s_aload 0 21)) (cw_leaf 21 (s_get 1 0 24))) (cw_node 26 (cw_leaf 24 (s_iload 4 26)) (cw_node 29 (cw_leaf 26 (s_abs 29)) (cw_leaf 29 (s_max 32))))))) (cw_node 48 (cw_node 40 (cw_node 36 (cw_node 35 (cw_leaf 32 (s_put 1 1 0 35)) (cw_leaf 35 (s_aload 0 36))) (cw_node 37 (cw_leaf 36 (s_aload 0 37)) (cw_leaf 37 (s_get 1 1 40)))) (cw_node 43 (cw_node 42 (cw_leaf 40 (s_iload 4 42)) (cw_leaf 42 (s_ibin (fun x y => x + y) 43))) (cw_node 44 (cw_leaf 43 (s_iconst 2 44)) (cw_node 45 (cw_leaf 44 (s_idiv (fun x y => x / y) 45)) (cw_leaf 45 (s_put 1 2 0 48)))))) (cw_node 55 (cw_node 50 (cw_node 49 (cw_leaf 48 (s_aload 0 49)) (cw_leaf 49 (s_aload 0 50))) (cw_node 53 (cw_leaf 50 (s_get 1 1 53)) (cw_leaf 53 (s_iload 4 55)))) (cw_node 57 (cw_node 56 (cw_leaf 55 (s_ibin (fun x y => x - y) 56)) (cw_leaf 56 (s_iconst 2 57))) (cw_node 58 (cw_leaf 57 (s_idiv (fun x y => x / y) 58)) (cw_node 61 (cw_leaf 58 (s_put 1 3 0 61)) (cw_leaf 61 (s_vret)))))))
def c_Merge_gapBetween : Nat → Option cw_S := cw_node 27 (cw_node 13 (cw_node 5 (cw_node 1 (cw_leaf 0 (s_aload 2 1)) (cw_node 4 (cw_leaf 1 (s_get 2 0 4)) (cw_leaf 4 (s_aload 1 5)))) (cw_node 9 (cw_node 8 (cw_leaf 5 (s_get 2 1 8)) (cw_leaf 8 (s_ibin (fun x y => x - y) 9))) (cw_node 10 (cw_leaf 9 (s_aload 1 10)) (cw_leaf 10 (s_get 2 0 13))))) (cw_node 21 (cw_node 17 (cw_node 14 (cw_leaf 13 (s_aload 2 14)) (cw_leaf 14 (s_get 2 1 17))) (cw_node 18 (cw_leaf 17 (s_ibin (fun x y => x - y) 18)) (cw_leaf 18 (s_max 21)))) (cw_node 23 (cw_node 22 (cw_leaf 21 (s_istore 3 22)) (cw_leaf 22 (s_aload 2 23))) (cw_node 26 (cw_leaf 23 (s_get 2 2 26)) (cw_leaf 26 (s_aload 1 27)))))) (cw_node 40 (cw_node 32 (cw_node 30 (cw_leaf 27 (s_get 2 3 30)) (cw_node 31 (cw_leaf 30 (s_ibin (fun x y => x - y) 31)) (cw_leaf 31 (s_aload 1 32)))) (cw_node 36 (cw_node 35 (cw_leaf 32 (s_get 2 2 35)) (cw_leaf 35 (s_aload 2 36))) (cw_node 39 (cw_leaf 36 (s_get 2 3 39)) (cw_leaf 39 (s_ibin (fun x y => x - y) 40))))) (cw_node 47 (cw_node 45 (cw_node 43 (cw_leaf 40 (s_max 43)) (cw_leaf 43 (s_istore 4 45))) (cw_node 46 (cw_leaf 45 (s_iconst 0 46)) (cw_leaf 46 (s_iload 3 47)))) (cw_node 52 (cw_node 49 (cw_leaf 47 (s_iload 4 49)) (cw_leaf 49 (s_max 52))) (cw_node 55 (cw_leaf 52 (s_max 55)) (cw_leaf 55 (s_iret))))))
def c_Merge_leadOf : Nat → Option cw_S := cw_node 44 (cw_node 20 (cw_node 10 (cw_node 5 (cw_node 1 (cw_leaf 0 (s_aload 2 1)) (cw_node 4 (cw_leaf 1 (s_get 2 4 4)) (cw_leaf 4 (s_aload 2 5)))) (cw_node 8 (cw_leaf 5 (s_get 2 5 8)) (cw_node 9 (cw_leaf 8 (s_ibin (fun x y => x + y) 9)) (cw_leaf 9 (s_aload 1 10))))) (cw_node 15 (cw_node 13 (cw_leaf 10 (s_get 2 4 13)) (cw_node 14 (cw_leaf 13 (s_ibin (fun x y => x - y) 14)) (cw_leaf 14 (s_aload 1 15)))) (cw_node 18 (cw_leaf 15 (s_get 2 5 18)) (cw_node 19 (cw_leaf 18 (s_ibin (fun x y => x - y) 19)) (cw_leaf 19 (s_iconst 2 20)))))) (cw_node 32 (cw_node 25 (cw_node 21 (cw_leaf 20 (s_idiv (fun x y => x / y) 21)) (cw_node 23 (cw_leaf 21 (s_istore 4 23)) (cw_leaf 23 (s_iload 4 25)))) (cw_node 26 (cw_leaf 25 (s_aload 0 26)) (cw_node 29 (cw_leaf 26 (s_get 1 0 29)) (cw_leaf 29 (s_icmp (fun x y => decide (x ≤ y)) 51 32))))) (cw_node 37 (cw_node 33 (cw_leaf 32 (s_aload 0 33)) (cw_node 36 (cw_leaf 33 (s_get 1 0 36)) (cw_leaf 36 (s_aload 2 37)))) (cw_node 40 (cw_leaf 37 (s_get 2 5 40)) (cw_node 41 (cw_leaf 40 (s_aload 1 41)) (cw_leaf 41 (s_get 2 4 44))))))) (cw_node 65 (cw_node 53 (cw_node 47 (cw_node 45 (cw_leaf 44 (s_ibin (fun x y => x - y) 45)) (cw_node 46 (cw_leaf 45 (s_iload 3 46)) (cw_leaf 46 (s_ibin (fun x y => x - y) 47)))) (cw_node 50 (cw_leaf 47 (s_max 50)) (cw_node 51 (cw_leaf 50 (s_iret)) (cw_leaf 51 (s_iload 4 53))))) (cw_node 58 (cw_node 54 (cw_leaf 53 (s_aload 0 54)) (cw_node 57 (cw_leaf 54 (s_get 1 0 57)) (cw_leaf 57 (s_ineg 58)))) (cw_node 61 (cw_leaf 58 (s_icmp (fun x y => decide (y ≤ x)) 81 61)) (cw_node 62 (cw_leaf 61 (s_aload 0 62)) (cw_leaf 62 (s_get 1 0 65)))))) (cw_node 73 (cw_node 68 (cw_node 66 (cw_leaf 65 (s_ineg 66)) (cw_node 67 (cw_leaf 66 (s_iload 3 67)) (cw_leaf 67 (s_aload 2 68)))) (cw_node 71 (cw_leaf 68 (s_get 2 4 71)) (cw_node 72 (cw_leaf 71 (s_ibin (fun x y => x + y) 72)) (cw_leaf 72 (s_aload 1 73))))) (cw_node 80 (cw_node 76 (cw_leaf 73 (s_get 2 5 76)) (cw_node 77 (cw_leaf 76 (s_ibin (fun x y => x - y) 77)) (cw_leaf 77 (s_min 80)))) (cw_node 81 (cw_leaf 80 (s_iret)) (cw_node 83 (cw_leaf 81 (s_iload 4 83)) (cw_leaf 83 (s_iret)))))))
def c_Merge_join : Nat → Option cw_S := cw_node 109 (cw_node 52 (cw_node 26 (cw_node 13 (cw_node 5 (cw_node 1 (cw_leaf 0 (s_aload 2 1)) (cw_node 2 (cw_leaf 1 (s_aload 0 2)) (cw_leaf 2 (s_get 1 2 5)))) (cw_node 9 (cw_node 8 (cw_leaf 5 (s_put 2 6 0 8)) (cw_leaf 8 (s_aload 3 9))) (cw_node 10 (cw_leaf 9 (s_aload 0 10)) (cw_leaf 10 (s_get 1 3 13))))) (cw_node 18 (cw_node 16 (cw_leaf 13 (s_put 2 6 0 16)) (cw_node 17 (cw_leaf 16 (s_aload 1 17)) (cw_leaf 17 (s_aload 2 18)))) (cw_node 22 (cw_node 21 (cw_leaf 18 (s_get 2 4 21)) (cw_leaf 21 (s_aload 0 22))) (cw_node 25 (cw_leaf 22 (s_get 1 2 25)) (cw_leaf 25 (s_ibin (fun x y => x + y) 26)))))) (cw_node 41 (cw_node 31 (cw_node 27 (cw_leaf 26 (s_aload 3 27)) (cw_node 30 (cw_leaf 27 (s_get 2 4 30)) (cw_leaf 30 (s_aload 0 31)))) (cw_node 35 (cw_node 34 (cw_leaf 31 (s_get 1 3 34)) (cw_leaf 34 (s_ibin (fun x y => x + y) 35))) (cw_node 38 (cw_leaf 35 (s_min 38)) (cw_leaf 38 (s_put 2 4 0 41))))) (cw_node 46 (cw_node 42 (cw_leaf 41 (s_aload 1 42)) (cw_node 43 (cw_leaf 42 (s_aload 2 43)) (cw_leaf 43 (s_get 2 5 46)))) (cw_node 50 (cw_node 47 (cw_leaf 46 (s_aload 0 47)) (cw_leaf 47 (s_get 1 2 50))) (cw_node 51 (cw_leaf 50 (s_ibin (fun x y => x + y) 51)) (cw_leaf 51 (s_aload 3 52))))))) (cw_node 80 (cw_node 67 (cw_node 59 (cw_node 55 (cw_leaf 52 (s_get 2 5 55)) (cw_node 56 (cw_leaf 55 (s_aload 0 56)) (cw_leaf 56 (s_get 1 3 59)))) (cw_node 63 (cw_node 60 (cw_leaf 59 (s_ibin (fun x y => x + y) 60)) (cw_leaf 60 (s_max 63))) (cw_node 66 (cw_leaf 63 (s_put 2 5 0 66)) (cw_leaf 66 (s_aload 1 67))))) (cw_node 72 (cw_node 68 (cw_leaf 67 (s_aload 2 68)) (cw_node 71 (cw_leaf 68 (s_get 2 0 71)) (cw_leaf 71 (s_aload 0 72)))) (cw_node 76 (cw_node 75 (cw_leaf 72 (s_get 1 2 75)) (cw_leaf 75 (s_ibin (fun x y => x - y) 76))) (cw_node 77 (cw_leaf 76 (s_aload 3 77)) (cw_leaf 77 (s_get 2 0 80)))))) (cw_node 93 (cw_node 85 (cw_node 81 (cw_leaf 80 (s_aload 0 81)) (cw_node 84 (cw_leaf 81 (s_get 1 3 84)) (cw_leaf 84 (s_ibin (fun x y => x - y) 85)))) (cw_node 91 (cw_node 88 (cw_leaf 85 (s_max 88)) (cw_leaf 88 (s_put 2 0 0 91))) (cw_node 92 (cw_leaf 91 (s_aload 1 92)) (cw_leaf 92 (s_aload 2 93))))) (cw_node 101 (cw_node 97 (cw_node 96 (cw_leaf 93 (s_get 2 1 96)) (cw_leaf 96 (s_aload 0 97))) (cw_node 100 (cw_leaf 97 (s_get 1 2 100)) (cw_leaf 100 (s_ibin (fun x y => x + y) 101)))) (cw_node 105 (cw_node 102 (cw_leaf 101 (s_aload 3 102)) (cw_leaf 102 (s_get 2 1 105))) (cw_node 106 (cw_leaf 105 (s_aload 0 106)) (cw_leaf 106 (s_get 1 3 109)))))))) (cw_node 163 (cw_node 135 (cw_node 122 (cw_node 116 (cw_node 110 (cw_leaf 109 (s_ibin (fun x y => x + y) 110)) (cw_node 113 (cw_leaf 110 (s_min 113)) (cw_leaf 113 (s_put 2 1 0 116)))) (cw_node 118 (cw_node 117 (cw_leaf 116 (s_aload 1 117)) (cw_leaf 117 (s_aload 2 118))) (cw_node 121 (cw_leaf 118 (s_get 2 2 121)) (cw_leaf 121 (s_aload 0 122))))) (cw_node 127 (cw_node 125 (cw_leaf 122 (s_get 1 2 125)) (cw_node 126 (cw_leaf 125 (s_ibin (fun x y => x - y) 126)) (cw_leaf 126 (s_aload 3 127)))) (cw_node 131 (cw_node 130 (cw_leaf 127 (s_get 2 2 130)) (cw_leaf 130 (s_aload 0 131))) (cw_node 134 (cw_leaf 131 (s_get 1 3 134)) (cw_leaf 134 (s_ibin (fun x y => x - y) 135)))))) (cw_node 150 (cw_node 142 (cw_node 138 (cw_leaf 135 (s_max 138)) (cw_node 141 (cw_leaf 138 (s_put 2 2 0 141)) (cw_leaf 141 (s_aload 1 142)))) (cw_node 146 (cw_node 143 (cw_leaf 142 (s_aload 2 143)) (cw_leaf 143 (s_get 2 3 146))) (cw_node 147 (cw_leaf 146 (s_aload 0 147)) (cw_leaf 147 (s_get 1 2 150))))) (cw_node 155 (cw_node 151 (cw_leaf 150 (s_ibin (fun x y => x + y) 151)) (cw_node 152 (cw_leaf 151 (s_aload 3 152)) (cw_leaf 152 (s_get 2 3 155)))) (cw_node 159 (cw_node 156 (cw_leaf 155 (s_aload 0 156)) (cw_leaf 156 (s_get 1 3 159))) (cw_node 160 (cw_leaf 159 (s_ibin (fun x y => x + y) 160)) (cw_leaf 160 (s_min 163))))))) (cw_node 189 (cw_node 176 (cw_node 168 (cw_node 166 (cw_leaf 163 (s_put 2 3 0 166)) (cw_node 167 (cw_leaf 166 (s_aload 1 167)) (cw_leaf 167 (s_aload 2 168)))) (cw_node 172 (cw_node 171 (cw_leaf 168 (s_get 2 7 171)) (cw_leaf 171 (s_aload 3 172))) (cw_node 175 (cw_leaf 172 (s_get 2 7 175)) (cw_leaf 175 (s_ibin (fun x y => x + y) 176))))) (cw_node 181 (cw_node 177 (cw_leaf 176 (s_aload 0 177)) (cw_node 180 (cw_leaf 177 (s_get 1 2 180)) (cw_leaf 180 (s_ibin (fun x y => x + y) 181)))) (cw_node 185 (cw_node 182 (cw_leaf 181 (s_aload 0 182)) (cw_leaf 182 (s_get 1 3 185))) (cw_node 186 (cw_leaf 185 (s_ibin (fun x y => x + y) 186)) (cw_leaf 186 (s_put 2 7 0 189)))))) (cw_node 202 (cw_node 194 (cw_node 190 (cw_leaf 189 (s_aload 1 190)) (cw_node 191 (cw_leaf 190 (s_aload 2 191)) (cw_leaf 191 (s_get 2 8 194)))) (cw_node 198 (cw_node 195 (cw_leaf 194 (s_aload 3 195)) (cw_leaf 195 (s_get 2 8 198))) (cw_node 199 (cw_leaf 198 (s_ibin (fun x y => x + y) 199)) (cw_leaf 199 (s_put 2 8 0 202))))) (cw_node 208 (cw_node 204 (cw_node 203 (cw_leaf 202 (s_aload 1 203)) (cw_leaf 203 (s_aload 2 204))) (cw_node 207 (cw_leaf 204 (s_get 2 9 207)) (cw_leaf 207 (s_aload 3 208)))) (cw_node 212 (cw_node 211 (cw_leaf 208 (s_get 2 9 211)) (cw_leaf 211 (s_ibin (fun x y => x + y) 212))) (cw_node 215 (cw_leaf 212 (s_put 2 9 0 215)) (cw_leaf 215 (s_vret))))))))
def c_Part_init : Nat → Option cw_S := cw_node 1 (cw_leaf 0 (s_aload 0 1)) (cw_node 4 (cw_leaf 1 (s_obj 4)) (cw_leaf 4 (s_vret)))
def c_Part_setSink : Nat → Option cw_S := cw_node 51 (cw_node 25 (cw_node 14 (cw_node 8 (cw_node 2 (cw_node 1 (cw_leaf 0 (s_aload 1 1)) (cw_leaf 1 (s_iload 2 2))) (cw_node 5 (cw_leaf 2 (s_callV 6 m_Tree_hasSink 1 5)) (cw_leaf 5 (s_if (fun x => decide (¬ x = 0)) 9 8)))) (cw_node 10 (cw_node 9 (cw_leaf 8 (s_vret)) (cw_leaf 9 (s_aload 0 10))) (cw_node 11 (cw_leaf 10 (s_aload 1 11)) (cw_leaf 11 (s_get 6 0 14))))) (cw_node 20 (cw_node 16 (cw_node 15 (cw_leaf 14 (s_iload 2 15)) (cw_leaf 15 (s_iald 16))) (cw_node 17 (cw_leaf 16 (s_aload 1 17)) (cw_leaf 17 (s_get 6 1 20)))) (cw_node 22 (cw_node 21 (cw_leaf 20 (s_iload 2 21)) (cw_leaf 21 (s_iald 22))) (cw_node 23 (cw_leaf 22 (s_ibin (fun x y => x + y) 23)) (cw_leaf 23 (s_iconst 65536 25)))))) (cw_node 39 (cw_node 31 (cw_node 29 (cw_node 26 (cw_leaf 25 (s_ibin (fun x y => x * y) 26)) (cw_leaf 26 (s_put 2 0 0 29))) (cw_node 30 (cw_leaf 29 (s_aload 0 30)) (cw_leaf 30 (s_aload 0 31)))) (cw_node 37 (cw_node 34 (cw_leaf 31 (s_get 2 0 34)) (cw_leaf 34 (s_put 2 1 0 37))) (cw_node 38 (cw_leaf 37 (s_aload 0 38)) (cw_leaf 38 (s_aload 1 39))))) (cw_node 45 (cw_node 43 (cw_node 42 (cw_leaf 39 (s_get 6 0 42)) (cw_leaf 42 (s_iload 2 43))) (cw_node 44 (cw_leaf 43 (s_iald 44)) (cw_leaf 44 (s_aload 1 45)))) (cw_node 49 (cw_node 48 (cw_leaf 45 (s_get 6 1 48)) (cw_leaf 48 (s_iload 2 49))) (cw_node 50 (cw_leaf 49 (s_iald 50)) (cw_leaf 50 (s_ibin (fun x y => x - y) 51))))))) (cw_node 79 (cw_node 66 (cw_node 58 (cw_node 54 (cw_node 53 (cw_leaf 51 (s_iconst 65536 53)) (cw_leaf 53 (s_ibin (fun x y => x * y) 54))) (cw_node 57 (cw_leaf 54 (s_put 2 2 0 57)) (cw_leaf 57 (s_aload 0 58)))) (cw_node 62 (cw_node 59 (cw_leaf 58 (s_aload 0 59)) (cw_leaf 59 (s_get 2 2 62))) (cw_node 65 (cw_leaf 62 (s_put 2 3 0 65)) (cw_leaf 65 (s_aload 0 66))))) (cw_node 72 (cw_node 70 (cw_node 67 (cw_leaf 66 (s_aload 1 67)) (cw_leaf 67 (s_get 6 2 70))) (cw_node 71 (cw_leaf 70 (s_iload 2 71)) (cw_leaf 71 (s_iald 72)))) (cw_node 75 (cw_node 74 (cw_leaf 72 (s_iconst 65536 74)) (cw_leaf 74 (s_ibin (fun x y => x * y) 75))) (cw_node 78 (cw_leaf 75 (s_put 2 4 0 78)) (cw_leaf 78 (s_aload 0 79)))))) (cw_node 93 (cw_node 87 (cw_node 83 (cw_node 80 (cw_leaf 79 (s_aload 0 80)) (cw_leaf 80 (s_get 2 4 83))) (cw_node 86 (cw_leaf 83 (s_put 2 5 0 86)) (cw_leaf 86 (s_aload 0 87)))) (cw_node 91 (cw_node 88 (cw_leaf 87 (s_iconst 0 88)) (cw_leaf 88 (s_put 2 7 0 91))) (cw_node 92 (cw_leaf 91 (s_aload 0 92)) (cw_leaf 92 (s_iconst 1 93))))) (cw_node 101 (cw_node 97 (cw_node 96 (cw_leaf 93 (s_put 2 8 0 96)) (cw_leaf 96 (s_aload 0 97))) (cw_node 98 (cw_leaf 97 (s_aload 1 98)) (cw_leaf 98 (s_get 6 3 101)))) (cw_node 103 (cw_node 102 (cw_leaf 101 (s_iload 2 102)) (cw_leaf 102 (s_iald 103))) (cw_node 106 (cw_leaf 103 (s_put 2 9 0 106)) (cw_leaf 106 (s_vret)))))))
def c_Part_capacity : Nat → Option cw_S := cw_node 9 (cw_node 4 (cw_node 1 (cw_leaf 0 (s_aload 0 1)) (cw_leaf 1 (s_get 2 7 4))) (cw_node 5 (cw_leaf 4 (s_i2l 5)) (cw_node 6 (cw_leaf 5 (s_aload 0 6)) (cw_leaf 6 (s_get 2 9 9))))) (cw_node 13 (cw_node 10 (cw_leaf 9 (s_i2l 10)) (cw_leaf 10 (s_lconst 65536 13))) (cw_node 14 (cw_leaf 13 (s_lbin (fun x y => x * y) 14)) (cw_node 15 (cw_leaf 14 (s_lbin (fun x y => x + y) 15)) (cw_leaf 15 (s_lret)))))
def c_Places_init : Nat → Option cw_S := cw_node 21 (cw_node 9 (cw_node 4 (cw_node 1 (cw_leaf 0 (s_aload 0 1)) (cw_leaf 1 (s_obj 4))) (cw_node 5 (cw_leaf 4 (s_aload 0 5)) (cw_node 7 (cw_leaf 5 (s_iconst 15 7)) (cw_leaf 7 (s_newa 0 9))))) (cw_node 15 (cw_node 12 (cw_leaf 9 (s_put 3 0 2 12)) (cw_node 13 (cw_leaf 12 (s_aload 0 13)) (cw_leaf 13 (s_iconst 15 15)))) (cw_node 17 (cw_leaf 15 (s_newa 0 17)) (cw_node 20 (cw_leaf 17 (s_put 3 1 2 20)) (cw_leaf 20 (s_aload 0 21)))))) (cw_node 33 (cw_node 28 (cw_node 23 (cw_leaf 21 (s_iconst 15 23)) (cw_node 25 (cw_leaf 23 (s_newa 0 25)) (cw_leaf 25 (s_put 3 2 2 28)))) (cw_node 29 (cw_leaf 28 (s_aload 0 29)) (cw_node 31 (cw_leaf 29 (s_iconst 15 31)) (cw_leaf 31 (s_newa 0 33))))) (cw_node 39 (cw_node 36 (cw_leaf 33 (s_put 3 3 2 36)) (cw_node 37 (cw_leaf 36 (s_aload 0 37)) (cw_leaf 37 (s_iconst 15 39)))) (cw_node 41 (cw_leaf 39 (s_newa 1 41)) (cw_node 44 (cw_leaf 41 (s_put 3 4 2 44)) (cw_leaf 44 (s_vret))))))
def c_Places_embed : Nat → Option cw_S := cw_node 48 (cw_node 26 (cw_node 13 (cw_node 5 (cw_node 1 (cw_leaf 0 (s_aload 0 1)) (cw_node 2 (cw_leaf 1 (s_aload 2 2)) (cw_leaf 2 (s_get 7 5 5)))) (cw_node 9 (cw_node 6 (cw_leaf 5 (s_iconst 1 6)) (cw_leaf 6 (s_icmp (fun x y => decide (¬ x = y)) 13 9))) (cw_node 10 (cw_leaf 9 (s_iconst 1 10)) (cw_leaf 10 (s_goto 14))))) (cw_node 18 (cw_node 14 (cw_leaf 13 (s_iconst 0 14)) (cw_node 17 (cw_leaf 14 (s_put 3 5 1 17)) (cw_leaf 17 (s_aload 0 18)))) (cw_node 24 (cw_node 21 (cw_leaf 18 (s_get 3 5 21)) (cw_leaf 21 (s_if (fun x => decide (¬ x = 0)) 25 24))) (cw_node 25 (cw_leaf 24 (s_vret)) (cw_leaf 25 (s_aload 0 26)))))) (cw_node 37 (cw_node 31 (cw_node 27 (cw_leaf 26 (s_iconst 0 27)) (cw_node 30 (cw_leaf 27 (s_put 3 7 0 30)) (cw_leaf 30 (s_aload 0 31)))) (cw_node 35 (cw_node 32 (cw_leaf 31 (s_iconst 0 32)) (cw_leaf 32 (s_put 3 8 0 35))) (cw_node 36 (cw_leaf 35 (s_aload 0 36)) (cw_leaf 36 (s_aload 1 37))))) (cw_node 42 (cw_node 38 (cw_leaf 37 (s_aload 2 38)) (cw_node 39 (cw_leaf 38 (s_aload 2 39)) (cw_leaf 39 (s_get 7 3 42)))) (cw_node 44 (cw_node 43 (cw_leaf 42 (s_iconst 0 43)) (cw_leaf 43 (s_iald 44))) (cw_node 47 (cw_leaf 44 (s_callV 3 m_Places_setTop 3 47)) (cw_leaf 47 (s_iconst 1 48))))))) (cw_node 72 (cw_node 60 (cw_node 51 (cw_node 49 (cw_leaf 48 (s_istore 3 49)) (cw_node 50 (cw_leaf 49 (s_iload 3 50)) (cw_leaf 50 (s_aload 2 51)))) (cw_node 57 (cw_node 54 (cw_leaf 51 (s_get 7 4 54)) (cw_leaf 54 (s_icmp (fun x y => decide (y ≤ x)) 95 57))) (cw_node 58 (cw_leaf 57 (s_iload 3 58)) (cw_leaf 58 (s_iconst 15 60))))) (cw_node 67 (cw_node 63 (cw_leaf 60 (s_icmp (fun x y => decide (y ≤ x)) 95 63)) (cw_node 64 (cw_leaf 63 (s_aload 2 64)) (cw_leaf 64 (s_get 7 3 67)))) (cw_node 69 (cw_node 68 (cw_leaf 67 (s_iload 3 68)) (cw_leaf 68 (s_iald 69))) (cw_node 71 (cw_leaf 69 (s_istore 4 71)) (cw_leaf 71 (s_aload 0 72)))))) (cw_node 86 (cw_node 78 (cw_node 73 (cw_leaf 72 (s_aload 2 73)) (cw_node 75 (cw_leaf 73 (s_iload 4 75)) (cw_leaf 75 (s_callV 7 m_Wires_part 1 78)))) (cw_node 81 (cw_node 80 (cw_leaf 78 (s_iload 4 80)) (cw_leaf 80 (s_aload 1 81))) (cw_node 83 (cw_leaf 81 (s_iload 4 83)) (cw_leaf 83 (s_callV 6 m_Tree_parentOf 1 86))))) (cw_node 95 (cw_node 89 (cw_leaf 86 (s_callV 3 m_Places_setChild 3 89)) (cw_node 92 (cw_leaf 89 (s_iinc 3 1 92)) (cw_leaf 92 (s_goto 49)))) (cw_node 97 (cw_node 96 (cw_leaf 95 (s_aload 0 96)) (cw_leaf 96 (s_aload 1 97))) (cw_node 100 (cw_leaf 97 (s_callV 3 m_Places_setSpread 1 100)) (cw_leaf 100 (s_vret)))))))
def c_Places_setTop : Nat → Option cw_S := cw_node 72 (cw_node 34 (cw_node 16 (cw_node 8 (cw_node 2 (cw_node 1 (cw_leaf 0 (s_aload 1 1)) (cw_leaf 1 (s_iload 3 2))) (cw_node 5 (cw_leaf 2 (s_callV 6 m_Tree_hasNode 1 5)) (cw_leaf 5 (s_if (fun x => decide (¬ x = 0)) 9 8)))) (cw_node 10 (cw_node 9 (cw_leaf 8 (s_vret)) (cw_leaf 9 (s_aload 2 10))) (cw_node 11 (cw_leaf 10 (s_iload 3 11)) (cw_node 14 (cw_leaf 11 (s_callV 7 m_Wires_part 1 14)) (cw_leaf 14 (s_astore 4 16)))))) (cw_node 25 (cw_node 20 (cw_node 17 (cw_leaf 16 (s_aload 1 17)) (cw_leaf 17 (s_get 6 10 20))) (cw_node 21 (cw_leaf 20 (s_aload 1 21)) (cw_node 24 (cw_leaf 21 (s_get 6 11 24)) (cw_leaf 24 (s_ibin (fun x y => x + y) 25))))) (cw_node 28 (cw_node 27 (cw_leaf 25 (s_iconst 65536 27)) (cw_leaf 27 (s_ibin (fun x y => x * y) 28))) (cw_node 30 (cw_leaf 28 (s_istore 5 30)) (cw_node 31 (cw_leaf 30 (s_aload 1 31)) (cw_leaf 31 (s_get 6 10 34))))))) (cw_node 51 (cw_node 42 (cw_node 38 (cw_node 35 (cw_leaf 34 (s_aload 1 35)) (cw_leaf 35 (s_get 6 11 38))) (cw_node 39 (cw_leaf 38 (s_ibin (fun x y => x - y) 39)) (cw_node 41 (cw_leaf 39 (s_iconst 65536 41)) (cw_leaf 41 (s_ibin (fun x y => x * y) 42))))) (cw_node 45 (cw_node 44 (cw_leaf 42 (s_istore 6 44)) (cw_leaf 44 (s_aload 0 45))) (cw_node 48 (cw_leaf 45 (s_get 3 0 48)) (cw_node 49 (cw_leaf 48 (s_iload 3 49)) (cw_leaf 49 (s_iload 5 51)))))) (cw_node 64 (cw_node 56 (cw_node 53 (cw_leaf 51 (s_aload 4 53)) (cw_leaf 53 (s_get 2 0 56))) (cw_node 58 (cw_leaf 56 (s_aload 4 58)) (cw_node 61 (cw_leaf 58 (s_get 2 1 61)) (cw_leaf 61 (s_callS m_Places_movedInto 3 64))))) (cw_node 66 (cw_node 65 (cw_leaf 64 (s_iast 65)) (cw_leaf 65 (s_aload 0 66))) (cw_node 69 (cw_leaf 66 (s_get 3 1 69)) (cw_node 70 (cw_leaf 69 (s_iload 3 70)) (cw_leaf 70 (s_iload 6 72)))))))) (cw_node 105 (cw_node 91 (cw_node 82 (cw_node 77 (cw_node 74 (cw_leaf 72 (s_aload 4 74)) (cw_leaf 74 (s_get 2 2 77))) (cw_node 79 (cw_leaf 77 (s_aload 4 79)) (cw_leaf 79 (s_get 2 3 82)))) (cw_node 86 (cw_node 85 (cw_leaf 82 (s_callS m_Places_movedInto 3 85)) (cw_leaf 85 (s_iast 86))) (cw_node 87 (cw_leaf 86 (s_aload 0 87)) (cw_node 90 (cw_leaf 87 (s_get 3 2 90)) (cw_leaf 90 (s_iload 3 91)))))) (cw_node 98 (cw_node 93 (cw_node 92 (cw_leaf 91 (s_iconst (-1) 92)) (cw_leaf 92 (s_iast 93))) (cw_node 94 (cw_leaf 93 (s_aload 0 94)) (cw_node 96 (cw_leaf 94 (s_iload 5 96)) (cw_leaf 96 (s_iload 6 98))))) (cw_node 102 (cw_node 99 (cw_leaf 98 (s_aload 0 99)) (cw_leaf 99 (s_get 3 0 102))) (cw_node 103 (cw_leaf 102 (s_iload 3 103)) (cw_node 104 (cw_leaf 103 (s_iald 104)) (cw_leaf 104 (s_aload 0 105))))))) (cw_node 125 (cw_node 116 (cw_node 109 (cw_node 108 (cw_leaf 105 (s_get 3 1 108)) (cw_leaf 108 (s_iload 3 109))) (cw_node 110 (cw_leaf 109 (s_iald 110)) (cw_node 113 (cw_leaf 110 (s_callS m_CW_distance 4 113)) (cw_leaf 113 (s_put 3 6 0 116))))) (cw_node 120 (cw_node 117 (cw_leaf 116 (s_aload 0 117)) (cw_leaf 117 (s_get 3 3 120))) (cw_node 121 (cw_leaf 120 (s_iload 3 121)) (cw_node 122 (cw_leaf 121 (s_aload 0 122)) (cw_leaf 122 (s_get 3 6 125)))))) (cw_node 132 (cw_node 127 (cw_node 126 (cw_leaf 125 (s_iast 126)) (cw_leaf 126 (s_aload 0 127))) (cw_node 130 (cw_leaf 127 (s_get 3 4 130)) (cw_node 131 (cw_leaf 130 (s_iload 3 131)) (cw_leaf 131 (s_aload 0 132))))) (cw_node 137 (cw_node 135 (cw_leaf 132 (s_get 3 6 135)) (cw_leaf 135 (s_aload 4 137))) (cw_node 140 (cw_leaf 137 (s_callS m_Places_delayOf 2 140)) (cw_node 141 (cw_leaf 140 (s_last 141)) (cw_leaf 141 (s_vret))))))))
def c_Places_setChild : Nat → Option cw_S := cw_node 93 (cw_node 48 (cw_node 25 (cw_node 11 (cw_node 5 (cw_node 1 (cw_leaf 0 (s_iload 2 1)) (cw_node 4 (cw_leaf 1 (s_if (fun x => decide (x < 0)) 20 4)) (cw_leaf 4 (s_iload 2 5)))) (cw_node 7 (cw_leaf 5 (s_iconst 15 7)) (cw_node 10 (cw_leaf 7 (s_icmp (fun x y => decide (y ≤ x)) 20 10)) (cw_leaf 10 (s_iload 3 11))))) (cw_node 17 (cw_node 14 (cw_leaf 11 (s_if (fun x => decide (x < 0)) 20 14)) (cw_node 15 (cw_leaf 14 (s_iload 3 15)) (cw_leaf 15 (s_iconst 15 17)))) (cw_node 21 (cw_node 20 (cw_leaf 17 (s_icmp (fun x y => decide (x < y)) 21 20)) (cw_leaf 20 (s_vret))) (cw_node 22 (cw_leaf 21 (s_aload 0 22)) (cw_leaf 22 (s_get 3 0 25)))))) (cw_node 33 (cw_node 30 (cw_node 26 (cw_leaf 25 (s_iload 2 26)) (cw_node 27 (cw_leaf 26 (s_aload 0 27)) (cw_leaf 27 (s_get 3 0 30)))) (cw_node 31 (cw_leaf 30 (s_iload 3 31)) (cw_node 32 (cw_leaf 31 (s_iald 32)) (cw_leaf 32 (s_aload 1 33))))) (cw_node 40 (cw_node 36 (cw_leaf 33 (s_get 2 0 36)) (cw_node 37 (cw_leaf 36 (s_aload 1 37)) (cw_leaf 37 (s_get 2 1 40)))) (cw_node 44 (cw_node 43 (cw_leaf 40 (s_callS m_Places_movedInto 3 43)) (cw_leaf 43 (s_iast 44))) (cw_node 45 (cw_leaf 44 (s_aload 0 45)) (cw_leaf 45 (s_get 3 1 48))))))) (cw_node 71 (cw_node 56 (cw_node 53 (cw_node 49 (cw_leaf 48 (s_iload 2 49)) (cw_node 50 (cw_leaf 49 (s_aload 0 50)) (cw_leaf 50 (s_get 3 1 53)))) (cw_node 54 (cw_leaf 53 (s_iload 3 54)) (cw_node 55 (cw_leaf 54 (s_iald 55)) (cw_leaf 55 (s_aload 1 56))))) (cw_node 63 (cw_node 59 (cw_leaf 56 (s_get 2 2 59)) (cw_node 60 (cw_leaf 59 (s_aload 1 60)) (cw_leaf 60 (s_get 2 3 63)))) (cw_node 67 (cw_node 66 (cw_leaf 63 (s_callS m_Places_movedInto 3 66)) (cw_leaf 66 (s_iast 67))) (cw_node 68 (cw_leaf 67 (s_aload 0 68)) (cw_leaf 68 (s_get 3 2 71)))))) (cw_node 82 (cw_node 76 (cw_node 72 (cw_leaf 71 (s_iload 2 72)) (cw_node 73 (cw_leaf 72 (s_aload 1 73)) (cw_leaf 73 (s_get 2 6 76)))) (cw_node 80 (cw_node 77 (cw_leaf 76 (s_aload 0 77)) (cw_leaf 77 (s_get 3 0 80))) (cw_node 81 (cw_leaf 80 (s_iload 2 81)) (cw_leaf 81 (s_iald 82))))) (cw_node 87 (cw_node 83 (cw_leaf 82 (s_aload 0 83)) (cw_node 86 (cw_leaf 83 (s_get 3 1 86)) (cw_leaf 86 (s_iload 2 87)))) (cw_node 89 (cw_node 88 (cw_leaf 87 (s_iald 88)) (cw_leaf 88 (s_aload 0 89))) (cw_node 92 (cw_leaf 89 (s_get 3 0 92)) (cw_leaf 92 (s_iload 3 93)))))))) (cw_node 135 (cw_node 114 (cw_node 103 (cw_node 98 (cw_node 94 (cw_leaf 93 (s_iald 94)) (cw_node 95 (cw_leaf 94 (s_aload 0 95)) (cw_leaf 95 (s_get 3 1 98)))) (cw_node 99 (cw_leaf 98 (s_iload 3 99)) (cw_node 100 (cw_leaf 99 (s_iald 100)) (cw_leaf 100 (s_callS m_CW_distance 4 103))))) (cw_node 106 (cw_node 104 (cw_leaf 103 (s_ibin (fun x y => x - y) 104)) (cw_node 105 (cw_leaf 104 (s_iast 105)) (cw_leaf 105 (s_aload 0 106)))) (cw_node 110 (cw_node 107 (cw_leaf 106 (s_dup 107)) (cw_leaf 107 (s_get 3 7 110))) (cw_node 111 (cw_leaf 110 (s_aload 0 111)) (cw_leaf 111 (s_get 3 2 114)))))) (cw_node 124 (cw_node 117 (cw_node 115 (cw_leaf 114 (s_iload 2 115)) (cw_node 116 (cw_leaf 115 (s_iald 116)) (cw_leaf 116 (s_ibin (fun x y => x + y) 117)))) (cw_node 120 (cw_leaf 117 (s_put 3 7 0 120)) (cw_node 121 (cw_leaf 120 (s_aload 0 121)) (cw_leaf 121 (s_get 3 2 124))))) (cw_node 129 (cw_node 125 (cw_leaf 124 (s_iload 2 125)) (cw_node 126 (cw_leaf 125 (s_iald 126)) (cw_leaf 126 (s_if (fun x => decide (x ≤ 0)) 139 129)))) (cw_node 131 (cw_node 130 (cw_leaf 129 (s_aload 0 130)) (cw_leaf 130 (s_dup 131))) (cw_node 134 (cw_leaf 131 (s_get 3 8 134)) (cw_leaf 134 (s_iconst 1 135))))))) (cw_node 156 (cw_node 145 (cw_node 140 (cw_node 136 (cw_leaf 135 (s_ibin (fun x y => x + y) 136)) (cw_node 139 (cw_leaf 136 (s_put 3 8 0 139)) (cw_leaf 139 (s_aload 0 140)))) (cw_node 143 (cw_leaf 140 (s_get 3 3 143)) (cw_node 144 (cw_leaf 143 (s_iload 2 144)) (cw_leaf 144 (s_aload 0 145))))) (cw_node 150 (cw_node 148 (cw_leaf 145 (s_get 3 3 148)) (cw_node 149 (cw_leaf 148 (s_iload 3 149)) (cw_leaf 149 (s_iald 150)))) (cw_node 154 (cw_node 151 (cw_leaf 150 (s_aload 1 151)) (cw_leaf 151 (s_get 2 6 154))) (cw_node 155 (cw_leaf 154 (s_ibin (fun x y => x + y) 155)) (cw_leaf 155 (s_iast 156)))))) (cw_node 167 (cw_node 161 (cw_node 157 (cw_leaf 156 (s_aload 0 157)) (cw_node 160 (cw_leaf 157 (s_get 3 4 160)) (cw_leaf 160 (s_iload 2 161)))) (cw_node 165 (cw_node 162 (cw_leaf 161 (s_aload 0 162)) (cw_leaf 162 (s_get 3 4 165))) (cw_node 166 (cw_leaf 165 (s_iload 3 166)) (cw_leaf 166 (s_lald 167))))) (cw_node 172 (cw_node 168 (cw_leaf 167 (s_aload 1 168)) (cw_node 171 (cw_leaf 168 (s_get 2 6 171)) (cw_leaf 171 (s_aload 1 172)))) (cw_node 176 (cw_node 175 (cw_leaf 172 (s_callS m_Places_delayOf 2 175)) (cw_leaf 175 (s_lbin (fun x y => x + y) 176))) (cw_node 177 (cw_leaf 176 (s_last 177)) (cw_leaf 177 (s_vret))))))))
def c_Places_setSpread : Nat → Option cw_S := cw_node 26 (cw_node 10 (cw_node 6 (cw_node 2 (cw_node 1 (cw_leaf 0 (s_aload 0 1)) (cw_leaf 1 (s_aload 1 2))) (cw_node 3 (cw_leaf 2 (s_iconst 0 3)) (cw_leaf 3 (s_callV 3 m_Places_arrivalOf 2 6)))) (cw_node 8 (cw_node 7 (cw_leaf 6 (s_istore 2 7)) (cw_leaf 7 (s_iload 2 8))) (cw_node 9 (cw_leaf 8 (s_istore 3 9)) (cw_leaf 9 (s_iconst 1 10))))) (cw_node 18 (cw_node 14 (cw_node 12 (cw_leaf 10 (s_istore 4 12)) (cw_leaf 12 (s_iload 4 14))) (cw_node 15 (cw_leaf 14 (s_aload 1 15)) (cw_leaf 15 (s_get 6 8 18)))) (cw_node 22 (cw_node 21 (cw_leaf 18 (s_icmp (fun x y => decide (y ≤ x)) 51 21)) (cw_leaf 21 (s_iload 2 22))) (cw_node 23 (cw_leaf 22 (s_aload 0 23)) (cw_node 24 (cw_leaf 23 (s_aload 1 24)) (cw_leaf 24 (s_iload 4 26))))))) (cw_node 44 (cw_node 34 (cw_node 32 (cw_node 29 (cw_leaf 26 (s_callV 3 m_Places_arrivalOf 2 29)) (cw_leaf 29 (s_min 32))) (cw_node 33 (cw_leaf 32 (s_istore 2 33)) (cw_leaf 33 (s_iload 3 34)))) (cw_node 36 (cw_node 35 (cw_leaf 34 (s_aload 0 35)) (cw_leaf 35 (s_aload 1 36))) (cw_node 38 (cw_leaf 36 (s_iload 4 38)) (cw_node 41 (cw_leaf 38 (s_callV 3 m_Places_arrivalOf 2 41)) (cw_leaf 41 (s_max 44)))))) (cw_node 52 (cw_node 48 (cw_node 45 (cw_leaf 44 (s_istore 3 45)) (cw_leaf 45 (s_iinc 4 1 48))) (cw_node 51 (cw_leaf 48 (s_goto 12)) (cw_leaf 51 (s_aload 0 52)))) (cw_node 54 (cw_node 53 (cw_leaf 52 (s_iload 3 53)) (cw_leaf 53 (s_iload 2 54))) (cw_node 55 (cw_leaf 54 (s_ibin (fun x y => x - y) 55)) (cw_node 58 (cw_leaf 55 (s_put 3 9 0 58)) (cw_leaf 58 (s_vret)))))))
def c_Places_arrivalOf : Nat → Option cw_S := cw_node 15 (cw_node 8 (cw_node 2 (cw_node 1 (cw_leaf 0 (s_aload 1 1)) (cw_leaf 1 (s_iload 2 2))) (cw_node 5 (cw_leaf 2 (s_callV 6 m_Tree_hasSink 1 5)) (cw_leaf 5 (s_if (fun x => decide (x = 0)) 27 8)))) (cw_node 12 (cw_node 9 (cw_leaf 8 (s_aload 0 9)) (cw_leaf 9 (s_get 3 3 12))) (cw_node 13 (cw_leaf 12 (s_iload 2 13)) (cw_node 14 (cw_leaf 13 (s_iald 14)) (cw_leaf 14 (s_aload 1 15)))))) (cw_node 22 (cw_node 19 (cw_node 18 (cw_leaf 15 (s_get 6 2 18)) (cw_leaf 18 (s_iload 2 19))) (cw_node 20 (cw_leaf 19 (s_iald 20)) (cw_leaf 20 (s_iconst 65536 22)))) (cw_node 24 (cw_node 23 (cw_leaf 22 (s_ibin (fun x y => x * y) 23)) (cw_leaf 23 (s_ibin (fun x y => x + y) 24))) (cw_node 27 (cw_leaf 24 (s_goto 28)) (cw_node 28 (cw_leaf 27 (s_iconst (-1) 28)) (cw_leaf 28 (s_iret))))))
def c_Places_delayOf : Nat → Option cw_S := cw_node 7 (cw_node 2 (cw_node 1 (cw_leaf 0 (s_iload 0 1)) (cw_leaf 1 (s_i2l 2))) (cw_node 3 (cw_leaf 2 (s_iload 0 3)) (cw_node 4 (cw_leaf 3 (s_i2l 4)) (cw_leaf 4 (s_lconst 2 7))))) (cw_node 12 (cw_node 8 (cw_leaf 7 (s_aload 1 8)) (cw_node 11 (cw_leaf 8 (s_callV 2 m_Part_capacity 0 11)) (cw_leaf 11 (s_lbin (fun x y => x * y) 12)))) (cw_node 13 (cw_leaf 12 (s_lbin (fun x y => x + y) 13)) (cw_node 14 (cw_leaf 13 (s_lbin (fun x y => x * y) 14)) (cw_leaf 14 (s_lret)))))
def c_Places_movedInto : Nat → Option cw_S := cw_node 3 (cw_node 1 (cw_leaf 0 (s_iload 1 1)) (cw_node 2 (cw_leaf 1 (s_iload 2 2)) (cw_leaf 2 (s_iload 0 3)))) (cw_node 6 (cw_leaf 3 (s_min 6)) (cw_node 9 (cw_leaf 6 (s_max 9)) (cw_leaf 9 (s_iret))))
def c_Search_init : Nat → Option cw_S := cw_node 12 (cw_node 5 (cw_node 1 (cw_leaf 0 (s_aload 0 1)) (cw_node 4 (cw_leaf 1 (s_obj 4)) (cw_leaf 4 (s_aload 0 5)))) (cw_node 8 (cw_leaf 5 (s_new 6 [.null, .null, .null, .null, .null, .null, .null, .null, .int 0, .int 0, .int 0, .int 0] 8)) (cw_node 9 (cw_leaf 8 (s_dup 9)) (cw_leaf 9 (s_callI m_Tree_init 0 12))))) (cw_node 19 (cw_node 15 (cw_leaf 12 (s_put 4 0 2 15)) (cw_node 16 (cw_leaf 15 (s_aload 0 16)) (cw_leaf 16 (s_new 7 [.null, .null, .null, .null, .int 0, .int 0, .int 0] 19)))) (cw_node 23 (cw_node 20 (cw_leaf 19 (s_dup 20)) (cw_leaf 20 (s_callI m_Wires_init 0 23))) (cw_node 26 (cw_leaf 23 (s_put 4 1 2 26)) (cw_leaf 26 (s_vret)))))
def c_Search_bestGraft : Nat → Option cw_S := cw_node 51 (cw_node 23 (cw_node 10 (cw_node 5 (cw_node 1 (cw_leaf 0 (s_aload 0 1)) (cw_node 4 (cw_leaf 1 (s_get 4 0 4)) (cw_leaf 4 (s_aload 1 5)))) (cw_node 8 (cw_leaf 5 (s_callV 6 m_Tree_copyFrom 1 8)) (cw_node 9 (cw_leaf 8 (s_iconst (-1) 9)) (cw_leaf 9 (s_istore 3 10))))) (cw_node 14 (cw_node 11 (cw_leaf 10 (s_iconst 0 11)) (cw_node 13 (cw_leaf 11 (s_istore 4 13)) (cw_leaf 13 (s_iconst 0 14)))) (cw_node 18 (cw_node 16 (cw_leaf 14 (s_istore 5 16)) (cw_leaf 16 (s_iload 5 18))) (cw_node 20 (cw_leaf 18 (s_iconst 15 20)) (cw_leaf 20 (s_icmp (fun x y => decide (y ≤ x)) 105 23)))))) (cw_node 39 (cw_node 28 (cw_node 24 (cw_leaf 23 (s_aload 0 24)) (cw_node 27 (cw_leaf 24 (s_get 4 0 27)) (cw_leaf 27 (s_iload 2 28)))) (cw_node 33 (cw_node 30 (cw_leaf 28 (s_iload 5 30)) (cw_leaf 30 (s_callV 6 m_Tree_canGraft 2 33))) (cw_node 36 (cw_leaf 33 (s_if (fun x => decide (¬ x = 0)) 39 36)) (cw_leaf 36 (s_goto 99))))) (cw_node 44 (cw_node 40 (cw_leaf 39 (s_aload 0 40)) (cw_node 43 (cw_leaf 40 (s_get 4 0 43)) (cw_leaf 43 (s_iload 2 44)))) (cw_node 49 (cw_node 46 (cw_leaf 44 (s_iload 5 46)) (cw_leaf 46 (s_callV 6 m_Tree_graft 2 49))) (cw_node 50 (cw_leaf 49 (s_pop 50)) (cw_leaf 50 (s_aload 0 51))))))) (cw_node 76 (cw_node 65 (cw_node 58 (cw_node 54 (cw_leaf 51 (s_get 4 1 54)) (cw_node 55 (cw_leaf 54 (s_aload 0 55)) (cw_leaf 55 (s_get 4 0 58)))) (cw_node 61 (cw_leaf 58 (s_callV 7 m_Wires_measure 1 61)) (cw_node 62 (cw_leaf 61 (s_aload 0 62)) (cw_leaf 62 (s_get 4 0 65))))) (cw_node 70 (cw_node 66 (cw_leaf 65 (s_iload 2 66)) (cw_node 69 (cw_leaf 66 (s_callV 6 m_Tree_cut 1 69)) (cw_leaf 69 (s_pop 70)))) (cw_node 72 (cw_node 71 (cw_leaf 70 (s_iload 3 71)) (cw_leaf 71 (s_iconst (-1) 72))) (cw_node 75 (cw_leaf 72 (s_icmp (fun x y => decide (x = y)) 87 75)) (cw_leaf 75 (s_aload 0 76)))))) (cw_node 91 (cw_node 84 (cw_node 79 (cw_leaf 76 (s_get 4 1 79)) (cw_node 82 (cw_leaf 79 (s_get 7 6 82)) (cw_leaf 82 (s_iload 4 84)))) (cw_node 89 (cw_node 87 (cw_leaf 84 (s_icmp (fun x y => decide (y ≤ x)) 99 87)) (cw_leaf 87 (s_iload 5 89))) (cw_node 90 (cw_leaf 89 (s_istore 3 90)) (cw_leaf 90 (s_aload 0 91))))) (cw_node 99 (cw_node 94 (cw_leaf 91 (s_get 4 1 94)) (cw_node 97 (cw_leaf 94 (s_get 7 6 97)) (cw_leaf 97 (s_istore 4 99)))) (cw_node 105 (cw_node 102 (cw_leaf 99 (s_iinc 5 1 102)) (cw_leaf 102 (s_goto 16))) (cw_node 106 (cw_leaf 105 (s_iload 3 106)) (cw_leaf 106 (s_iret)))))))
def c_Search_bestExchange : Nat → Option cw_S := cw_node 61 (cw_node 26 (cw_node 11 (cw_node 5 (cw_node 1 (cw_leaf 0 (s_aload 0 1)) (cw_node 4 (cw_leaf 1 (s_get 4 0 4)) (cw_leaf 4 (s_aload 1 5)))) (cw_node 9 (cw_node 8 (cw_leaf 5 (s_callV 6 m_Tree_copyFrom 1 8)) (cw_leaf 8 (s_iconst (-1) 9))) (cw_node 10 (cw_leaf 9 (s_istore 3 10)) (cw_leaf 10 (s_iload 2 11))))) (cw_node 18 (cw_node 14 (cw_node 13 (cw_leaf 11 (s_istore 4 13)) (cw_leaf 13 (s_iconst 0 14))) (cw_node 16 (cw_leaf 14 (s_istore 5 16)) (cw_leaf 16 (s_iload 5 18)))) (cw_node 23 (cw_node 20 (cw_leaf 18 (s_iconst 15 20)) (cw_leaf 20 (s_icmp (fun x y => decide (y ≤ x)) 128 23))) (cw_node 25 (cw_leaf 23 (s_iload 5 25)) (cw_leaf 25 (s_iconst 1 26)))))) (cw_node 42 (cw_node 33 (cw_node 29 (cw_node 27 (cw_leaf 26 (s_ibin (fun x y => x + y) 27)) (cw_leaf 27 (s_istore 6 29))) (cw_node 31 (cw_leaf 29 (s_iload 6 31)) (cw_leaf 31 (s_iconst 15 33)))) (cw_node 37 (cw_node 36 (cw_leaf 33 (s_icmp (fun x y => decide (y ≤ x)) 122 36)) (cw_leaf 36 (s_aload 0 37))) (cw_node 40 (cw_leaf 37 (s_get 4 0 40)) (cw_leaf 40 (s_iload 5 42))))) (cw_node 53 (cw_node 47 (cw_node 44 (cw_leaf 42 (s_iload 6 44)) (cw_leaf 44 (s_callV 6 m_Tree_canExchange 2 47))) (cw_node 50 (cw_leaf 47 (s_if (fun x => decide (¬ x = 0)) 53 50)) (cw_leaf 50 (s_goto 116)))) (cw_node 57 (cw_node 54 (cw_leaf 53 (s_aload 0 54)) (cw_leaf 54 (s_get 4 0 57))) (cw_node 59 (cw_leaf 57 (s_iload 5 59)) (cw_leaf 59 (s_iload 6 61))))))) (cw_node 98 (cw_node 79 (cw_node 69 (cw_node 65 (cw_node 64 (cw_leaf 61 (s_callV 6 m_Tree_exchange 2 64)) (cw_leaf 64 (s_aload 0 65))) (cw_node 68 (cw_leaf 65 (s_get 4 1 68)) (cw_leaf 68 (s_aload 0 69)))) (cw_node 75 (cw_node 72 (cw_leaf 69 (s_get 4 0 72)) (cw_leaf 72 (s_callV 7 m_Wires_measure 1 75))) (cw_node 76 (cw_leaf 75 (s_aload 0 76)) (cw_leaf 76 (s_get 4 0 79))))) (cw_node 87 (cw_node 83 (cw_node 81 (cw_leaf 79 (s_iload 5 81)) (cw_leaf 81 (s_iload 6 83))) (cw_node 86 (cw_leaf 83 (s_callV 6 m_Tree_exchange 2 86)) (cw_leaf 86 (s_aload 0 87)))) (cw_node 93 (cw_node 90 (cw_leaf 87 (s_get 4 1 90)) (cw_leaf 90 (s_get 7 6 93))) (cw_node 95 (cw_leaf 93 (s_iload 4 95)) (cw_leaf 95 (s_icmp (fun x y => decide (y ≤ x)) 116 98)))))) (cw_node 111 (cw_node 105 (cw_node 102 (cw_node 100 (cw_leaf 98 (s_iconst 16 100)) (cw_leaf 100 (s_iload 5 102))) (cw_node 103 (cw_leaf 102 (s_ibin (fun x y => x * y) 103)) (cw_leaf 103 (s_iload 6 105)))) (cw_node 107 (cw_node 106 (cw_leaf 105 (s_ibin (fun x y => x + y) 106)) (cw_leaf 106 (s_istore 3 107))) (cw_node 108 (cw_leaf 107 (s_aload 0 108)) (cw_leaf 108 (s_get 4 1 111))))) (cw_node 122 (cw_node 116 (cw_node 114 (cw_leaf 111 (s_get 7 6 114)) (cw_leaf 114 (s_istore 4 116))) (cw_node 119 (cw_leaf 116 (s_iinc 6 1 119)) (cw_leaf 119 (s_goto 29)))) (cw_node 128 (cw_node 125 (cw_leaf 122 (s_iinc 5 1 125)) (cw_leaf 125 (s_goto 16))) (cw_node 129 (cw_leaf 128 (s_iload 3 129)) (cw_leaf 129 (s_iret)))))))
def c_Search_findLeast : Nat → Option cw_S := cw_node 20 (cw_node 9 (cw_node 4 (cw_node 1 (cw_leaf 0 (s_aload 0 1)) (cw_leaf 1 (s_get 4 2 4))) (cw_node 7 (cw_leaf 4 (s_if (fun x => decide (x = 0)) 8 7)) (cw_node 8 (cw_leaf 7 (s_vret)) (cw_leaf 8 (s_aload 0 9))))) (cw_node 13 (cw_node 12 (cw_leaf 9 (s_get 4 0 12)) (cw_leaf 12 (s_aload 1 13))) (cw_node 16 (cw_leaf 13 (s_callV 6 m_Tree_copyFrom 1 16)) (cw_node 17 (cw_leaf 16 (s_aload 0 17)) (cw_leaf 17 (s_get 4 0 20)))))) (cw_node 29 (cw_node 24 (cw_node 23 (cw_leaf 20 (s_callV 6 m_Tree_removeJoints 0 23)) (cw_leaf 23 (s_aload 0 24))) (cw_node 25 (cw_leaf 24 (s_iconst 0 25)) (cw_node 28 (cw_leaf 25 (s_put 4 4 0 28)) (cw_leaf 28 (s_aload 0 29))))) (cw_node 34 (cw_node 30 (cw_leaf 29 (s_iconst 1 30)) (cw_node 33 (cw_leaf 30 (s_callV 4 m_Search_growTrees 1 33)) (cw_leaf 33 (s_aload 0 34)))) (cw_node 35 (cw_leaf 34 (s_iconst 1 35)) (cw_node 38 (cw_leaf 35 (s_put 4 2 1 38)) (cw_leaf 38 (s_vret))))))
def c_Search_growTrees : Nat → Option cw_S := cw_node 49 (cw_node 25 (cw_node 12 (cw_node 5 (cw_node 1 (cw_leaf 0 (s_iload 1 1)) (cw_node 2 (cw_leaf 1 (s_aload 0 2)) (cw_leaf 2 (s_get 4 0 5)))) (cw_node 8 (cw_leaf 5 (s_get 6 8 8)) (cw_node 11 (cw_leaf 8 (s_icmp (fun x y => decide (y ≤ x)) 17 11)) (cw_leaf 11 (s_iload 1 12))))) (cw_node 18 (cw_node 14 (cw_leaf 12 (s_iconst 6 14)) (cw_node 17 (cw_leaf 14 (s_icmp (fun x y => decide (x < y)) 40 17)) (cw_leaf 17 (s_aload 0 18)))) (cw_node 21 (cw_leaf 18 (s_get 4 1 21)) (cw_node 22 (cw_leaf 21 (s_aload 0 22)) (cw_leaf 22 (s_get 4 0 25)))))) (cw_node 39 (cw_node 30 (cw_node 28 (cw_leaf 25 (s_callV 7 m_Wires_measure 1 28)) (cw_node 29 (cw_leaf 28 (s_aload 0 29)) (cw_leaf 29 (s_aload 0 30)))) (cw_node 33 (cw_leaf 30 (s_get 4 1 33)) (cw_node 36 (cw_leaf 33 (s_get 7 6 36)) (cw_leaf 36 (s_callV 4 m_Search_countTree 1 39))))) (cw_node 42 (cw_node 40 (cw_leaf 39 (s_vret)) (cw_node 41 (cw_leaf 40 (s_iconst 0 41)) (cw_leaf 41 (s_istore 2 42)))) (cw_node 45 (cw_node 43 (cw_leaf 42 (s_iload 2 43)) (cw_leaf 43 (s_iconst 15 45))) (cw_node 48 (cw_leaf 45 (s_icmp (fun x y => decide (y ≤ x)) 96 48)) (cw_leaf 48 (s_iload 2 49))))))) (cw_node 74 (cw_node 61 (cw_node 54 (cw_node 50 (cw_leaf 49 (s_iload 1 50)) (cw_node 53 (cw_leaf 50 (s_icmp (fun x y => decide (x < y)) 64 53)) (cw_leaf 53 (s_aload 0 54)))) (cw_node 57 (cw_leaf 54 (s_get 4 0 57)) (cw_node 58 (cw_leaf 57 (s_iload 2 58)) (cw_leaf 58 (s_callV 6 m_Tree_isJoint 1 61))))) (cw_node 68 (cw_node 64 (cw_leaf 61 (s_if (fun x => decide (x = 0)) 90 64)) (cw_node 65 (cw_leaf 64 (s_aload 0 65)) (cw_leaf 65 (s_get 4 0 68)))) (cw_node 70 (cw_node 69 (cw_leaf 68 (s_iload 1 69)) (cw_leaf 69 (s_iload 2 70))) (cw_node 73 (cw_leaf 70 (s_callV 6 m_Tree_graft 2 73)) (cw_leaf 73 (s_pop 74)))))) (cw_node 82 (cw_node 77 (cw_node 75 (cw_leaf 74 (s_aload 0 75)) (cw_node 76 (cw_leaf 75 (s_iload 1 76)) (cw_leaf 76 (s_iconst 1 77)))) (cw_node 78 (cw_leaf 77 (s_ibin (fun x y => x + y) 78)) (cw_node 81 (cw_leaf 78 (s_callV 4 m_Search_growTrees 1 81)) (cw_leaf 81 (s_aload 0 82))))) (cw_node 89 (cw_node 85 (cw_leaf 82 (s_get 4 0 85)) (cw_node 86 (cw_leaf 85 (s_iload 1 86)) (cw_leaf 86 (s_callV 6 m_Tree_cut 1 89)))) (cw_node 93 (cw_node 90 (cw_leaf 89 (s_pop 90)) (cw_leaf 90 (s_iinc 2 1 93))) (cw_node 96 (cw_leaf 93 (s_goto 42)) (cw_leaf 96 (s_vret)))))))
def c_Search_countTree : Nat → Option cw_S := cw_node 22 (cw_node 12 (cw_node 7 (cw_node 1 (cw_leaf 0 (s_aload 0 1)) (cw_node 4 (cw_leaf 1 (s_get 4 4 4)) (cw_leaf 4 (s_if (fun x => decide (x = 0)) 15 7)))) (cw_node 8 (cw_leaf 7 (s_iload 1 8)) (cw_node 9 (cw_leaf 8 (s_aload 0 9)) (cw_leaf 9 (s_get 4 3 12))))) (cw_node 17 (cw_node 15 (cw_leaf 12 (s_icmp (fun x y => decide (y ≤ x)) 28 15)) (cw_node 16 (cw_leaf 15 (s_aload 0 16)) (cw_leaf 16 (s_iload 1 17)))) (cw_node 20 (cw_leaf 17 (s_put 4 3 0 20)) (cw_node 21 (cw_leaf 20 (s_aload 0 21)) (cw_leaf 21 (s_iconst 1 22)))))) (cw_node 36 (cw_node 29 (cw_node 25 (cw_leaf 22 (s_put 4 4 0 25)) (cw_node 28 (cw_leaf 25 (s_goto 46)) (cw_leaf 28 (s_iload 1 29)))) (cw_node 30 (cw_leaf 29 (s_aload 0 30)) (cw_node 33 (cw_leaf 30 (s_get 4 3 33)) (cw_leaf 33 (s_icmp (fun x y => decide (¬ x = y)) 46 36))))) (cw_node 41 (cw_node 37 (cw_leaf 36 (s_aload 0 37)) (cw_node 38 (cw_leaf 37 (s_dup 38)) (cw_leaf 38 (s_get 4 4 41)))) (cw_node 43 (cw_node 42 (cw_leaf 41 (s_iconst 1 42)) (cw_leaf 42 (s_ibin (fun x y => x + y) 43))) (cw_node 46 (cw_leaf 43 (s_put 4 4 0 46)) (cw_leaf 46 (s_vret))))))
def c_Text_init : Nat → Option cw_S := cw_node 21 (cw_node 9 (cw_node 4 (cw_node 1 (cw_leaf 0 (s_aload 0 1)) (cw_leaf 1 (s_obj 4))) (cw_node 5 (cw_leaf 4 (s_aload 0 5)) (cw_node 7 (cw_leaf 5 (s_iconst 60 7)) (cw_leaf 7 (s_newa 0 9))))) (cw_node 15 (cw_node 12 (cw_leaf 9 (s_put 5 0 2 12)) (cw_node 13 (cw_leaf 12 (s_aload 0 13)) (cw_leaf 13 (s_iconst 61 15)))) (cw_node 17 (cw_leaf 15 (s_newa 0 17)) (cw_node 20 (cw_leaf 17 (s_put 5 1 2 20)) (cw_leaf 20 (s_aload 0 21)))))) (cw_node 33 (cw_node 28 (cw_node 23 (cw_leaf 21 (s_iconst 61 23)) (cw_node 25 (cw_leaf 23 (s_newa 0 25)) (cw_leaf 25 (s_put 5 2 2 28)))) (cw_node 29 (cw_leaf 28 (s_aload 0 29)) (cw_node 31 (cw_leaf 29 (s_iconst 7 31)) (cw_leaf 31 (s_newa 0 33))))) (cw_node 39 (cw_node 36 (cw_leaf 33 (s_put 5 3 2 36)) (cw_node 37 (cw_leaf 36 (s_aload 0 37)) (cw_leaf 37 (s_iconst 7 39)))) (cw_node 41 (cw_leaf 39 (s_newa 0 41)) (cw_node 44 (cw_leaf 41 (s_put 5 4 2 44)) (cw_leaf 44 (s_vret))))))
def c_Text_append : Nat → Option cw_S := cw_node 21 (cw_node 11 (cw_node 4 (cw_node 1 (cw_leaf 0 (s_aload 0 1)) (cw_leaf 1 (s_get 5 5 4))) (cw_node 7 (cw_leaf 4 (s_if (fun x => decide (x < 0)) 36 7)) (cw_node 8 (cw_leaf 7 (s_aload 0 8)) (cw_leaf 8 (s_get 5 5 11))))) (cw_node 16 (cw_node 13 (cw_leaf 11 (s_iconst 60 13)) (cw_leaf 13 (s_icmp (fun x y => decide (y ≤ x)) 36 16))) (cw_node 17 (cw_leaf 16 (s_aload 0 17)) (cw_node 20 (cw_leaf 17 (s_get 5 0 20)) (cw_leaf 20 (s_aload 0 21)))))) (cw_node 28 (cw_node 25 (cw_node 24 (cw_leaf 21 (s_get 5 5 24)) (cw_leaf 24 (s_iload 1 25))) (cw_node 26 (cw_leaf 25 (s_iast 26)) (cw_node 27 (cw_leaf 26 (s_aload 0 27)) (cw_leaf 27 (s_dup 28))))) (cw_node 32 (cw_node 31 (cw_leaf 28 (s_get 5 5 31)) (cw_leaf 31 (s_iconst 1 32))) (cw_node 33 (cw_leaf 32 (s_ibin (fun x y => x + y) 33)) (cw_node 36 (cw_leaf 33 (s_put 5 5 0 36)) (cw_leaf 36 (s_vret))))))
def c_Text_parse : Nat → Option cw_S := cw_node 42 (cw_node 21 (cw_node 10 (cw_node 5 (cw_node 1 (cw_leaf 0 (s_aload 0 1)) (cw_node 2 (cw_leaf 1 (s_iconst 0 2)) (cw_leaf 2 (s_put 5 6 0 5)))) (cw_node 6 (cw_leaf 5 (s_aload 0 6)) (cw_node 7 (cw_leaf 6 (s_iconst 0 7)) (cw_leaf 7 (s_put 5 8 0 10))))) (cw_node 15 (cw_node 11 (cw_leaf 10 (s_aload 0 11)) (cw_node 12 (cw_leaf 11 (s_iconst 0 12)) (cw_leaf 12 (s_put 5 7 0 15)))) (cw_node 19 (cw_node 16 (cw_leaf 15 (s_aload 0 16)) (cw_leaf 16 (s_get 5 1 19))) (cw_node 20 (cw_leaf 19 (s_iconst 0 20)) (cw_leaf 20 (s_iconst (-1) 21)))))) (cw_node 30 (cw_node 26 (cw_node 22 (cw_leaf 21 (s_iast 22)) (cw_node 23 (cw_leaf 22 (s_aload 0 23)) (cw_leaf 23 (s_get 5 2 26)))) (cw_node 28 (cw_node 27 (cw_leaf 26 (s_iconst 0 27)) (cw_leaf 27 (s_iconst (-1) 28))) (cw_node 29 (cw_leaf 28 (s_iast 29)) (cw_leaf 29 (s_iconst 0 30))))) (cw_node 33 (cw_node 31 (cw_leaf 30 (s_istore 2 31)) (cw_node 32 (cw_leaf 31 (s_iload 2 32)) (cw_leaf 32 (s_aload 0 33)))) (cw_node 39 (cw_node 36 (cw_leaf 33 (s_get 5 5 36)) (cw_leaf 36 (s_icmp (fun x y => decide (y ≤ x)) 67 39))) (cw_node 40 (cw_leaf 39 (s_iload 2 40)) (cw_leaf 40 (s_iconst 60 42))))))) (cw_node 67 (cw_node 52 (cw_node 47 (cw_node 45 (cw_leaf 42 (s_icmp (fun x y => decide (y ≤ x)) 67 45)) (cw_node 46 (cw_leaf 45 (s_aload 0 46)) (cw_leaf 46 (s_aload 0 47)))) (cw_node 50 (cw_leaf 47 (s_get 5 0 50)) (cw_node 51 (cw_leaf 50 (s_iload 2 51)) (cw_leaf 51 (s_iald 52))))) (cw_node 59 (cw_node 53 (cw_leaf 52 (s_iload 1 53)) (cw_node 56 (cw_leaf 53 (s_callV 5 m_Text_accepts 2 56)) (cw_leaf 56 (s_if (fun x => decide (¬ x = 0)) 61 59)))) (cw_node 61 (cw_node 60 (cw_leaf 59 (s_iload 2 60)) (cw_leaf 60 (s_iret))) (cw_node 64 (cw_leaf 61 (s_iinc 2 1 64)) (cw_leaf 64 (s_goto 31)))))) (cw_node 80 (cw_node 74 (cw_node 68 (cw_leaf 67 (s_aload 0 68)) (cw_node 71 (cw_leaf 68 (s_get 5 7 71)) (cw_leaf 71 (s_if (fun x => decide (¬ x = 0)) 88 74)))) (cw_node 78 (cw_node 75 (cw_leaf 74 (s_aload 0 75)) (cw_leaf 75 (s_get 5 1 78))) (cw_node 79 (cw_leaf 78 (s_iconst 0 79)) (cw_leaf 79 (s_iald 80))))) (cw_node 85 (cw_node 81 (cw_leaf 80 (s_iconst (-1) 81)) (cw_node 84 (cw_leaf 81 (s_icmp (fun x y => decide (x = y)) 88 84)) (cw_leaf 84 (s_iconst (-1) 85)))) (cw_node 89 (cw_node 88 (cw_leaf 85 (s_goto 92)) (cw_leaf 88 (s_aload 0 89))) (cw_node 92 (cw_leaf 89 (s_get 5 5 92)) (cw_leaf 92 (s_iret)))))))
def c_Text_accepts : Nat → Option cw_S := cw_node 20 (cw_node 9 (cw_node 6 (cw_node 1 (cw_leaf 0 (s_iload 1 1)) (cw_node 3 (cw_leaf 1 (s_iconst 32 3)) (cw_leaf 3 (s_icmp (fun x y => decide (¬ x = y)) 8 6)))) (cw_node 7 (cw_leaf 6 (s_iconst 1 7)) (cw_node 8 (cw_leaf 7 (s_zret)) (cw_leaf 8 (s_iload 1 9))))) (cw_node 15 (cw_node 11 (cw_leaf 9 (s_iconst 40 11)) (cw_node 14 (cw_leaf 11 (s_icmp (fun x y => decide (¬ x = y)) 19 14)) (cw_leaf 14 (s_aload 0 15)))) (cw_node 18 (cw_leaf 15 (s_callV 5 m_Text_opens 0 18)) (cw_node 19 (cw_leaf 18 (s_zret)) (cw_leaf 19 (s_iload 1 20)))))) (cw_node 31 (cw_node 26 (cw_node 22 (cw_leaf 20 (s_iconst 41 22)) (cw_node 25 (cw_leaf 22 (s_icmp (fun x y => decide (¬ x = y)) 30 25)) (cw_leaf 25 (s_aload 0 26)))) (cw_node 29 (cw_leaf 26 (s_callV 5 m_Text_closes 0 29)) (cw_node 30 (cw_leaf 29 (s_zret)) (cw_leaf 30 (s_aload 0 31))))) (cw_node 35 (cw_node 32 (cw_leaf 31 (s_iload 1 32)) (cw_node 34 (cw_leaf 32 (s_iconst 48 34)) (cw_leaf 34 (s_ibin (fun x y => x - y) 35)))) (cw_node 36 (cw_leaf 35 (s_iload 2 36)) (cw_node 39 (cw_leaf 36 (s_callV 5 m_Text_takesSink 2 39)) (cw_leaf 39 (s_zret))))))
def c_Text_opens : Nat → Option cw_S := cw_node 25 (cw_node 16 (cw_node 7 (cw_node 1 (cw_leaf 0 (s_aload 0 1)) (cw_node 4 (cw_leaf 1 (s_callV 5 m_Text_wantsPart 0 4)) (cw_leaf 4 (s_if (fun x => decide (x = 0)) 16 7)))) (cw_node 11 (cw_node 8 (cw_leaf 7 (s_aload 0 8)) (cw_leaf 8 (s_get 5 7 11))) (cw_node 13 (cw_leaf 11 (s_iconst 60 13)) (cw_leaf 13 (s_icmp (fun x y => decide (x < y)) 18 16))))) (cw_node 19 (cw_node 17 (cw_leaf 16 (s_iconst 0 17)) (cw_node 18 (cw_leaf 17 (s_zret)) (cw_leaf 18 (s_aload 0 19)))) (cw_node 23 (cw_node 20 (cw_leaf 19 (s_dup 20)) (cw_leaf 20 (s_get 5 7 23))) (cw_node 24 (cw_leaf 23 (s_iconst 1 24)) (cw_leaf 24 (s_ibin (fun x y => x + y) 25)))))) (cw_node 38 (cw_node 32 (cw_node 28 (cw_leaf 25 (s_put 5 7 0 28)) (cw_node 29 (cw_leaf 28 (s_aload 0 29)) (cw_leaf 29 (s_get 5 1 32)))) (cw_node 36 (cw_node 33 (cw_leaf 32 (s_aload 0 33)) (cw_leaf 33 (s_get 5 7 36))) (cw_node 37 (cw_leaf 36 (s_iconst (-1) 37)) (cw_leaf 37 (s_iast 38))))) (cw_node 46 (cw_node 42 (cw_node 39 (cw_leaf 38 (s_aload 0 39)) (cw_leaf 39 (s_get 5 2 42))) (cw_node 43 (cw_leaf 42 (s_aload 0 43)) (cw_leaf 43 (s_get 5 7 46)))) (cw_node 48 (cw_node 47 (cw_leaf 46 (s_iconst (-1) 47)) (cw_leaf 47 (s_iast 48))) (cw_node 49 (cw_leaf 48 (s_iconst 1 49)) (cw_leaf 49 (s_zret))))))
def c_Text_closes : Nat → Option cw_S := cw_node 64 (cw_node 31 (cw_node 17 (cw_node 8 (cw_node 4 (cw_node 1 (cw_leaf 0 (s_aload 0 1)) (cw_leaf 1 (s_get 5 7 4))) (cw_node 7 (cw_leaf 4 (s_if (fun x => decide (x ≤ 0)) 29 7)) (cw_leaf 7 (s_aload 0 8)))) (cw_node 13 (cw_node 11 (cw_leaf 8 (s_get 5 7 11)) (cw_leaf 11 (s_iconst 60 13))) (cw_node 16 (cw_leaf 13 (s_icmp (fun x y => decide (y < x)) 29 16)) (cw_leaf 16 (s_aload 0 17))))) (cw_node 25 (cw_node 21 (cw_node 20 (cw_leaf 17 (s_get 5 2 20)) (cw_leaf 20 (s_aload 0 21))) (cw_node 24 (cw_leaf 21 (s_get 5 7 24)) (cw_leaf 24 (s_iald 25)))) (cw_node 29 (cw_node 26 (cw_leaf 25 (s_iconst (-1) 26)) (cw_leaf 26 (s_icmp (fun x y => decide (¬ x = y)) 31 29))) (cw_node 30 (cw_leaf 29 (s_iconst 0 30)) (cw_leaf 30 (s_zret)))))) (cw_node 47 (cw_node 39 (cw_node 35 (cw_node 32 (cw_leaf 31 (s_aload 0 32)) (cw_leaf 32 (s_get 5 6 35))) (cw_node 38 (cw_leaf 35 (s_if (fun x => decide (x < 0)) 50 38)) (cw_leaf 38 (s_aload 0 39)))) (cw_node 43 (cw_node 42 (cw_leaf 39 (s_get 5 6 42)) (cw_leaf 42 (s_aload 0 43))) (cw_node 46 (cw_leaf 43 (s_get 5 3 46)) (cw_leaf 46 (s_alen 47))))) (cw_node 53 (cw_node 51 (cw_node 50 (cw_leaf 47 (s_icmp (fun x y => decide (x < y)) 52 50)) (cw_leaf 50 (s_iconst 0 51))) (cw_node 52 (cw_leaf 51 (s_zret)) (cw_leaf 52 (s_aload 0 53)))) (cw_node 57 (cw_node 56 (cw_leaf 53 (s_get 5 3 56)) (cw_leaf 56 (s_aload 0 57))) (cw_node 60 (cw_leaf 57 (s_get 5 6 60)) (cw_node 61 (cw_leaf 60 (s_aload 0 61)) (cw_leaf 61 (s_get 5 1 64)))))))) (cw_node 93 (cw_node 78 (cw_node 70 (cw_node 68 (cw_node 65 (cw_leaf 64 (s_aload 0 65)) (cw_leaf 65 (s_get 5 7 68))) (cw_node 69 (cw_leaf 68 (s_iald 69)) (cw_leaf 69 (s_iast 70)))) (cw_node 74 (cw_node 71 (cw_leaf 70 (s_aload 0 71)) (cw_leaf 71 (s_get 5 4 74))) (cw_node 75 (cw_leaf 74 (s_aload 0 75)) (cw_leaf 75 (s_get 5 6 78))))) (cw_node 86 (cw_node 82 (cw_node 79 (cw_leaf 78 (s_aload 0 79)) (cw_leaf 79 (s_get 5 2 82))) (cw_node 83 (cw_leaf 82 (s_aload 0 83)) (cw_leaf 83 (s_get 5 7 86)))) (cw_node 88 (cw_node 87 (cw_leaf 86 (s_iald 87)) (cw_leaf 87 (s_iast 88))) (cw_node 89 (cw_leaf 88 (s_aload 0 89)) (cw_node 90 (cw_leaf 89 (s_dup 90)) (cw_leaf 90 (s_get 5 7 93))))))) (cw_node 106 (cw_node 99 (cw_node 95 (cw_node 94 (cw_leaf 93 (s_iconst 1 94)) (cw_leaf 94 (s_ibin (fun x y => x - y) 95))) (cw_node 98 (cw_leaf 95 (s_put 5 7 0 98)) (cw_leaf 98 (s_aload 0 99)))) (cw_node 102 (cw_node 101 (cw_leaf 99 (s_iconst 8 101)) (cw_leaf 101 (s_aload 0 102))) (cw_node 105 (cw_leaf 102 (s_get 5 6 105)) (cw_leaf 105 (s_ibin (fun x y => x + y) 106))))) (cw_node 114 (cw_node 110 (cw_node 109 (cw_leaf 106 (s_callV 5 m_Text_addPart 1 109)) (cw_leaf 109 (s_aload 0 110))) (cw_node 111 (cw_leaf 110 (s_dup 111)) (cw_leaf 111 (s_get 5 6 114)))) (cw_node 116 (cw_node 115 (cw_leaf 114 (s_iconst 1 115)) (cw_leaf 115 (s_ibin (fun x y => x + y) 116))) (cw_node 119 (cw_leaf 116 (s_put 5 6 0 119)) (cw_node 120 (cw_leaf 119 (s_iconst 1 120)) (cw_leaf 120 (s_zret))))))))
def c_Text_takesSink : Nat → Option cw_S := cw_node 27 (cw_node 13 (cw_node 7 (cw_node 1 (cw_leaf 0 (s_aload 0 1)) (cw_node 4 (cw_leaf 1 (s_callV 5 m_Text_wantsPart 0 4)) (cw_leaf 4 (s_if (fun x => decide (x = 0)) 27 7)))) (cw_node 11 (cw_node 8 (cw_leaf 7 (s_iload 1 8)) (cw_leaf 8 (s_if (fun x => decide (x < 0)) 27 11))) (cw_node 12 (cw_leaf 11 (s_iload 1 12)) (cw_leaf 12 (s_iload 2 13))))) (cw_node 21 (cw_node 17 (cw_node 16 (cw_leaf 13 (s_icmp (fun x y => decide (y ≤ x)) 27 16)) (cw_leaf 16 (s_aload 0 17))) (cw_node 20 (cw_leaf 17 (s_get 5 8 20)) (cw_leaf 20 (s_iconst 1 21)))) (cw_node 23 (cw_node 22 (cw_leaf 21 (s_iload 1 22)) (cw_leaf 22 (s_ibin (fun x y => x <<< (y &&& 31)) 23))) (cw_node 24 (cw_leaf 23 (s_ibin (fun x y => x &&& y) 24)) (cw_leaf 24 (s_if (fun x => decide (x = 0)) 29 27)))))) (cw_node 36 (cw_node 30 (cw_node 28 (cw_leaf 27 (s_iconst 0 28)) (cw_node 29 (cw_leaf 28 (s_zret)) (cw_leaf 29 (s_aload 0 30)))) (cw_node 34 (cw_node 31 (cw_leaf 30 (s_dup 31)) (cw_leaf 31 (s_get 5 8 34))) (cw_node 35 (cw_leaf 34 (s_iconst 1 35)) (cw_leaf 35 (s_iload 1 36))))) (cw_node 42 (cw_node 38 (cw_node 37 (cw_leaf 36 (s_ibin (fun x y => x <<< (y &&& 31)) 37)) (cw_leaf 37 (s_ibin (fun x y => x ||| y) 38))) (cw_node 41 (cw_leaf 38 (s_put 5 8 0 41)) (cw_leaf 41 (s_aload 0 42)))) (cw_node 46 (cw_node 43 (cw_leaf 42 (s_iload 1 43)) (cw_leaf 43 (s_callV 5 m_Text_addPart 1 46))) (cw_node 47 (cw_leaf 46 (s_iconst 1 47)) (cw_leaf 47 (s_zret))))))
def c_Text_wantsPart : Nat → Option cw_S := cw_node 28 (cw_node 16 (cw_node 7 (cw_node 1 (cw_leaf 0 (s_aload 0 1)) (cw_node 4 (cw_leaf 1 (s_get 5 7 4)) (cw_leaf 4 (s_if (fun x => decide (x < 0)) 16 7)))) (cw_node 11 (cw_node 8 (cw_leaf 7 (s_aload 0 8)) (cw_leaf 8 (s_get 5 7 11))) (cw_node 13 (cw_leaf 11 (s_iconst 60 13)) (cw_leaf 13 (s_icmp (fun x y => decide (x ≤ y)) 18 16))))) (cw_node 22 (cw_node 18 (cw_node 17 (cw_leaf 16 (s_iconst 0 17)) (cw_leaf 17 (s_zret))) (cw_node 19 (cw_leaf 18 (s_aload 0 19)) (cw_leaf 19 (s_get 5 1 22)))) (cw_node 26 (cw_node 23 (cw_leaf 22 (s_aload 0 23)) (cw_leaf 23 (s_get 5 7 26))) (cw_node 27 (cw_leaf 26 (s_iald 27)) (cw_leaf 27 (s_iconst (-1) 28)))))) (cw_node 43 (cw_node 35 (cw_node 31 (cw_leaf 28 (s_icmp (fun x y => decide (x = y)) 51 31)) (cw_node 32 (cw_leaf 31 (s_aload 0 32)) (cw_leaf 32 (s_get 5 7 35)))) (cw_node 39 (cw_node 38 (cw_leaf 35 (s_if (fun x => decide (x ≤ 0)) 55 38)) (cw_leaf 38 (s_aload 0 39))) (cw_node 42 (cw_leaf 39 (s_get 5 2 42)) (cw_leaf 42 (s_aload 0 43))))) (cw_node 51 (cw_node 47 (cw_node 46 (cw_leaf 43 (s_get 5 7 46)) (cw_leaf 46 (s_iald 47))) (cw_node 48 (cw_leaf 47 (s_iconst (-1) 48)) (cw_leaf 48 (s_icmp (fun x y => decide (¬ x = y)) 55 51)))) (cw_node 55 (cw_node 52 (cw_leaf 51 (s_iconst 1 52)) (cw_leaf 52 (s_goto 56))) (cw_node 56 (cw_leaf 55 (s_iconst 0 56)) (cw_leaf 56 (s_zret))))))
def c_Text_addPart : Nat → Option cw_S := cw_node 27 (cw_node 16 (cw_node 7 (cw_node 1 (cw_leaf 0 (s_aload 0 1)) (cw_node 4 (cw_leaf 1 (s_get 5 7 4)) (cw_leaf 4 (s_if (fun x => decide (x < 0)) 16 7)))) (cw_node 11 (cw_node 8 (cw_leaf 7 (s_aload 0 8)) (cw_leaf 8 (s_get 5 7 11))) (cw_node 13 (cw_leaf 11 (s_iconst 60 13)) (cw_leaf 13 (s_icmp (fun x y => decide (x ≤ y)) 17 16))))) (cw_node 21 (cw_node 17 (cw_leaf 16 (s_vret)) (cw_node 18 (cw_leaf 17 (s_aload 0 18)) (cw_leaf 18 (s_get 5 1 21)))) (cw_node 25 (cw_node 22 (cw_leaf 21 (s_aload 0 22)) (cw_leaf 22 (s_get 5 7 25))) (cw_node 26 (cw_leaf 25 (s_iald 26)) (cw_leaf 26 (s_iconst (-1) 27)))))) (cw_node 40 (cw_node 34 (cw_node 30 (cw_leaf 27 (s_icmp (fun x y => decide (¬ x = y)) 43 30)) (cw_node 31 (cw_leaf 30 (s_aload 0 31)) (cw_leaf 31 (s_get 5 1 34)))) (cw_node 38 (cw_node 35 (cw_leaf 34 (s_aload 0 35)) (cw_leaf 35 (s_get 5 7 38))) (cw_node 39 (cw_leaf 38 (s_iload 1 39)) (cw_leaf 39 (s_iast 40))))) (cw_node 48 (cw_node 44 (cw_node 43 (cw_leaf 40 (s_goto 53)) (cw_leaf 43 (s_aload 0 44))) (cw_node 47 (cw_leaf 44 (s_get 5 2 47)) (cw_leaf 47 (s_aload 0 48)))) (cw_node 52 (cw_node 51 (cw_leaf 48 (s_get 5 7 51)) (cw_leaf 51 (s_iload 1 52))) (cw_node 53 (cw_leaf 52 (s_iast 53)) (cw_leaf 53 (s_vret))))))
def c_Tree_init : Nat → Option cw_S := cw_node 36 (cw_node 17 (cw_node 7 (cw_node 4 (cw_node 1 (cw_leaf 0 (s_aload 0 1)) (cw_leaf 1 (s_obj 4))) (cw_node 5 (cw_leaf 4 (s_aload 0 5)) (cw_leaf 5 (s_iconst 8 7)))) (cw_node 12 (cw_node 9 (cw_leaf 7 (s_newa 0 9)) (cw_leaf 9 (s_put 6 0 2 12))) (cw_node 13 (cw_leaf 12 (s_aload 0 13)) (cw_node 15 (cw_leaf 13 (s_iconst 8 15)) (cw_leaf 15 (s_newa 0 17)))))) (cw_node 25 (cw_node 21 (cw_node 20 (cw_leaf 17 (s_put 6 1 2 20)) (cw_leaf 20 (s_aload 0 21))) (cw_node 23 (cw_leaf 21 (s_iconst 8 23)) (cw_leaf 23 (s_newa 0 25)))) (cw_node 29 (cw_node 28 (cw_leaf 25 (s_put 6 2 2 28)) (cw_leaf 28 (s_aload 0 29))) (cw_node 31 (cw_leaf 29 (s_iconst 8 31)) (cw_node 33 (cw_leaf 31 (s_newa 0 33)) (cw_leaf 33 (s_put 6 3 2 36))))))) (cw_node 53 (cw_node 44 (cw_node 39 (cw_node 37 (cw_leaf 36 (s_aload 0 37)) (cw_leaf 37 (s_iconst 8 39))) (cw_node 41 (cw_leaf 39 (s_newa 0 41)) (cw_leaf 41 (s_put 6 4 2 44)))) (cw_node 47 (cw_node 45 (cw_leaf 44 (s_aload 0 45)) (cw_leaf 45 (s_iconst 15 47))) (cw_node 49 (cw_leaf 47 (s_newa 0 49)) (cw_node 52 (cw_leaf 49 (s_put 6 5 2 52)) (cw_leaf 52 (s_aload 0 53)))))) (cw_node 63 (cw_node 57 (cw_node 55 (cw_leaf 53 (s_iconst 15 55)) (cw_leaf 55 (s_newa 0 57))) (cw_node 60 (cw_leaf 57 (s_put 6 6 2 60)) (cw_node 61 (cw_leaf 60 (s_aload 0 61)) (cw_leaf 61 (s_iconst 15 63))))) (cw_node 68 (cw_node 65 (cw_leaf 63 (s_newa 0 65)) (cw_leaf 65 (s_put 6 7 2 68))) (cw_node 69 (cw_leaf 68 (s_aload 0 69)) (cw_node 72 (cw_leaf 69 (s_callV 6 m_Tree_removeJoints 0 72)) (cw_leaf 72 (s_vret)))))))
def c_Tree_copyFrom : Nat → Option cw_S := cw_node 75 (cw_node 36 (cw_node 19 (cw_node 9 (cw_node 4 (cw_node 1 (cw_leaf 0 (s_aload 1 1)) (cw_leaf 1 (s_get 6 0 4))) (cw_node 5 (cw_leaf 4 (s_iconst 0 5)) (cw_node 6 (cw_leaf 5 (s_aload 0 6)) (cw_leaf 6 (s_get 6 0 9))))) (cw_node 12 (cw_node 10 (cw_leaf 9 (s_iconst 0 10)) (cw_leaf 10 (s_iconst 8 12))) (cw_node 15 (cw_leaf 12 (s_copy 15)) (cw_node 16 (cw_leaf 15 (s_aload 1 16)) (cw_leaf 16 (s_get 6 1 19)))))) (cw_node 27 (cw_node 21 (cw_node 20 (cw_leaf 19 (s_iconst 0 20)) (cw_leaf 20 (s_aload 0 21))) (cw_node 24 (cw_leaf 21 (s_get 6 1 24)) (cw_node 25 (cw_leaf 24 (s_iconst 0 25)) (cw_leaf 25 (s_iconst 8 27))))) (cw_node 31 (cw_node 30 (cw_leaf 27 (s_copy 30)) (cw_leaf 30 (s_aload 1 31))) (cw_node 34 (cw_leaf 31 (s_get 6 2 34)) (cw_node 35 (cw_leaf 34 (s_iconst 0 35)) (cw_leaf 35 (s_aload 0 36))))))) (cw_node 55 (cw_node 46 (cw_node 40 (cw_node 39 (cw_leaf 36 (s_get 6 2 39)) (cw_leaf 39 (s_iconst 0 40))) (cw_node 42 (cw_leaf 40 (s_iconst 8 42)) (cw_node 45 (cw_leaf 42 (s_copy 45)) (cw_leaf 45 (s_aload 1 46))))) (cw_node 50 (cw_node 49 (cw_leaf 46 (s_get 6 3 49)) (cw_leaf 49 (s_iconst 0 50))) (cw_node 51 (cw_leaf 50 (s_aload 0 51)) (cw_node 54 (cw_leaf 51 (s_get 6 3 54)) (cw_leaf 54 (s_iconst 0 55)))))) (cw_node 65 (cw_node 60 (cw_node 57 (cw_leaf 55 (s_iconst 8 57)) (cw_leaf 57 (s_copy 60))) (cw_node 61 (cw_leaf 60 (s_aload 1 61)) (cw_node 64 (cw_leaf 61 (s_get 6 4 64)) (cw_leaf 64 (s_iconst 0 65))))) (cw_node 69 (cw_node 66 (cw_leaf 65 (s_aload 0 66)) (cw_leaf 66 (s_get 6 4 69))) (cw_node 70 (cw_leaf 69 (s_iconst 0 70)) (cw_node 72 (cw_leaf 70 (s_iconst 8 72)) (cw_leaf 72 (s_copy 75)))))))) (cw_node 111 (cw_node 94 (cw_node 84 (cw_node 79 (cw_node 76 (cw_leaf 75 (s_aload 1 76)) (cw_leaf 76 (s_get 6 5 79))) (cw_node 80 (cw_leaf 79 (s_iconst 0 80)) (cw_node 81 (cw_leaf 80 (s_aload 0 81)) (cw_leaf 81 (s_get 6 5 84))))) (cw_node 87 (cw_node 85 (cw_leaf 84 (s_iconst 0 85)) (cw_leaf 85 (s_iconst 15 87))) (cw_node 90 (cw_leaf 87 (s_copy 90)) (cw_node 91 (cw_leaf 90 (s_aload 1 91)) (cw_leaf 91 (s_get 6 6 94)))))) (cw_node 102 (cw_node 96 (cw_node 95 (cw_leaf 94 (s_iconst 0 95)) (cw_leaf 95 (s_aload 0 96))) (cw_node 99 (cw_leaf 96 (s_get 6 6 99)) (cw_node 100 (cw_leaf 99 (s_iconst 0 100)) (cw_leaf 100 (s_iconst 15 102))))) (cw_node 106 (cw_node 105 (cw_leaf 102 (s_copy 105)) (cw_leaf 105 (s_aload 1 106))) (cw_node 109 (cw_leaf 106 (s_get 6 7 109)) (cw_node 110 (cw_leaf 109 (s_iconst 0 110)) (cw_leaf 110 (s_aload 0 111))))))) (cw_node 130 (cw_node 121 (cw_node 115 (cw_node 114 (cw_leaf 111 (s_get 6 7 114)) (cw_leaf 114 (s_iconst 0 115))) (cw_node 117 (cw_leaf 115 (s_iconst 15 117)) (cw_node 120 (cw_leaf 117 (s_copy 120)) (cw_leaf 120 (s_aload 0 121))))) (cw_node 125 (cw_node 122 (cw_leaf 121 (s_aload 1 122)) (cw_leaf 122 (s_get 6 8 125))) (cw_node 128 (cw_leaf 125 (s_put 6 8 0 128)) (cw_node 129 (cw_leaf 128 (s_aload 0 129)) (cw_leaf 129 (s_aload 1 130)))))) (cw_node 141 (cw_node 136 (cw_node 133 (cw_leaf 130 (s_get 6 9 133)) (cw_leaf 133 (s_put 6 9 0 136))) (cw_node 137 (cw_leaf 136 (s_aload 0 137)) (cw_node 138 (cw_leaf 137 (s_aload 1 138)) (cw_leaf 138 (s_get 6 10 141))))) (cw_node 146 (cw_node 144 (cw_leaf 141 (s_put 6 10 0 144)) (cw_node 145 (cw_leaf 144 (s_aload 0 145)) (cw_leaf 145 (s_aload 1 146)))) (cw_node 149 (cw_leaf 146 (s_get 6 11 149)) (cw_node 152 (cw_leaf 149 (s_put 6 11 0 152)) (cw_leaf 152 (s_vret))))))))
def c_Tree_hasSink : Nat → Option cw_S := cw_node 12 (cw_node 5 (cw_node 1 (cw_leaf 0 (s_iload 1 1)) (cw_node 4 (cw_leaf 1 (s_if (fun x => decide (x < 0)) 22 4)) (cw_leaf 4 (s_iload 1 5)))) (cw_node 6 (cw_leaf 5 (s_aload 0 6)) (cw_node 9 (cw_leaf 6 (s_get 6 8 9)) (cw_leaf 9 (s_icmp (fun x y => decide (y ≤ x)) 22 12))))) (cw_node 18 (cw_node 13 (cw_leaf 12 (s_iload 1 13)) (cw_node 15 (cw_leaf 13 (s_iconst 8 15)) (cw_leaf 15 (s_icmp (fun x y => decide (y ≤ x)) 22 18)))) (cw_node 22 (cw_node 19 (cw_leaf 18 (s_iconst 1 19)) (cw_leaf 19 (s_goto 23))) (cw_node 23 (cw_leaf 22 (s_iconst 0 23)) (cw_leaf 23 (s_zret)))))
def c_Tree_hasNode : Nat → Option cw_S := cw_node 21 (cw_node 10 (cw_node 4 (cw_node 1 (cw_leaf 0 (s_iload 1 1)) (cw_leaf 1 (s_if (fun x => decide (x < 0)) 41 4))) (cw_node 5 (cw_leaf 4 (s_iload 1 5)) (cw_node 7 (cw_leaf 5 (s_iconst 15 7)) (cw_leaf 7 (s_icmp (fun x y => decide (y ≤ x)) 41 10))))) (cw_node 16 (cw_node 11 (cw_leaf 10 (s_iload 1 11)) (cw_node 13 (cw_leaf 11 (s_iconst 8 13)) (cw_leaf 13 (s_icmp (fun x y => decide (y ≤ x)) 27 16)))) (cw_node 17 (cw_leaf 16 (s_iload 1 17)) (cw_node 18 (cw_leaf 17 (s_aload 0 18)) (cw_leaf 18 (s_get 6 8 21)))))) (cw_node 33 (cw_node 28 (cw_node 24 (cw_leaf 21 (s_icmp (fun x y => decide (y ≤ x)) 41 24)) (cw_node 27 (cw_leaf 24 (s_goto 37)) (cw_leaf 27 (s_aload 0 28)))) (cw_node 31 (cw_leaf 28 (s_get 6 5 31)) (cw_node 32 (cw_leaf 31 (s_iload 1 32)) (cw_leaf 32 (s_iald 33))))) (cw_node 38 (cw_node 34 (cw_leaf 33 (s_iconst (-1) 34)) (cw_node 37 (cw_leaf 34 (s_icmp (fun x y => decide (x = y)) 41 37)) (cw_leaf 37 (s_iconst 1 38)))) (cw_node 41 (cw_leaf 38 (s_goto 42)) (cw_node 42 (cw_leaf 41 (s_iconst 0 42)) (cw_leaf 42 (s_zret))))))
def c_Tree_isJoint : Nat → Option cw_S := cw_node 16 (cw_node 7 (cw_node 3 (cw_node 1 (cw_leaf 0 (s_iload 1 1)) (cw_leaf 1 (s_iconst 8 3))) (cw_node 6 (cw_leaf 3 (s_icmp (fun x y => decide (x < y)) 26 6)) (cw_leaf 6 (s_iload 1 7)))) (cw_node 12 (cw_node 9 (cw_leaf 7 (s_iconst 15 9)) (cw_leaf 9 (s_icmp (fun x y => decide (y ≤ x)) 26 12))) (cw_node 13 (cw_leaf 12 (s_aload 0 13)) (cw_leaf 13 (s_get 6 5 16))))) (cw_node 22 (cw_node 18 (cw_node 17 (cw_leaf 16 (s_iload 1 17)) (cw_leaf 17 (s_iald 18))) (cw_node 19 (cw_leaf 18 (s_iconst (-1) 19)) (cw_leaf 19 (s_icmp (fun x y => decide (x = y)) 26 22)))) (cw_node 26 (cw_node 23 (cw_leaf 22 (s_iconst 1 23)) (cw_leaf 23 (s_goto 27))) (cw_node 27 (cw_leaf 26 (s_iconst 0 27)) (cw_leaf 27 (s_zret)))))
def c_Tree_isTop : Nat → Option cw_S := cw_node 13 (cw_node 5 (cw_node 1 (cw_leaf 0 (s_aload 0 1)) (cw_node 2 (cw_leaf 1 (s_iload 1 2)) (cw_leaf 2 (s_callV 6 m_Tree_hasNode 1 5)))) (cw_node 9 (cw_node 8 (cw_leaf 5 (s_if (fun x => decide (x = 0)) 22 8)) (cw_leaf 8 (s_aload 0 9))) (cw_node 12 (cw_leaf 9 (s_get 6 7 12)) (cw_leaf 12 (s_iload 1 13))))) (cw_node 18 (cw_node 14 (cw_leaf 13 (s_iald 14)) (cw_node 15 (cw_leaf 14 (s_iconst (-1) 15)) (cw_leaf 15 (s_icmp (fun x y => decide (¬ x = y)) 22 18)))) (cw_node 22 (cw_node 19 (cw_leaf 18 (s_iconst 1 19)) (cw_leaf 19 (s_goto 23))) (cw_node 23 (cw_leaf 22 (s_iconst 0 23)) (cw_leaf 23 (s_zret)))))
def c_Tree_leftOf : Nat → Option cw_S := cw_node 9 (cw_node 2 (cw_node 1 (cw_leaf 0 (s_aload 0 1)) (cw_leaf 1 (s_iload 1 2))) (cw_node 5 (cw_leaf 2 (s_callV 6 m_Tree_hasNode 1 5)) (cw_node 8 (cw_leaf 5 (s_if (fun x => decide (x = 0)) 17 8)) (cw_leaf 8 (s_aload 0 9))))) (cw_node 14 (cw_node 12 (cw_leaf 9 (s_get 6 5 12)) (cw_node 13 (cw_leaf 12 (s_iload 1 13)) (cw_leaf 13 (s_iald 14)))) (cw_node 17 (cw_leaf 14 (s_goto 18)) (cw_node 18 (cw_leaf 17 (s_iconst (-1) 18)) (cw_leaf 18 (s_iret)))))
def c_Tree_rightOf : Nat → Option cw_S := cw_node 9 (cw_node 2 (cw_node 1 (cw_leaf 0 (s_aload 0 1)) (cw_leaf 1 (s_iload 1 2))) (cw_node 5 (cw_leaf 2 (s_callV 6 m_Tree_hasNode 1 5)) (cw_node 8 (cw_leaf 5 (s_if (fun x => decide (x = 0)) 17 8)) (cw_leaf 8 (s_aload 0 9))))) (cw_node 14 (cw_node 12 (cw_leaf 9 (s_get 6 6 12)) (cw_node 13 (cw_leaf 12 (s_iload 1 13)) (cw_leaf 13 (s_iald 14)))) (cw_node 17 (cw_leaf 14 (s_goto 18)) (cw_node 18 (cw_leaf 17 (s_iconst (-1) 18)) (cw_leaf 18 (s_iret)))))
def c_Tree_parentOf : Nat → Option cw_S := cw_node 9 (cw_node 2 (cw_node 1 (cw_leaf 0 (s_aload 0 1)) (cw_leaf 1 (s_iload 1 2))) (cw_node 5 (cw_leaf 2 (s_callV 6 m_Tree_hasNode 1 5)) (cw_node 8 (cw_leaf 5 (s_if (fun x => decide (x = 0)) 17 8)) (cw_leaf 8 (s_aload 0 9))))) (cw_node 14 (cw_node 12 (cw_leaf 9 (s_get 6 7 12)) (cw_node 13 (cw_leaf 12 (s_iload 1 13)) (cw_leaf 13 (s_iald 14)))) (cw_node 17 (cw_leaf 14 (s_goto 18)) (cw_node 18 (cw_leaf 17 (s_iconst (-1) 18)) (cw_leaf 18 (s_iret)))))
def c_Tree_jointCount : Nat → Option cw_S := cw_node 12 (cw_node 5 (cw_node 2 (cw_node 1 (cw_leaf 0 (s_iconst 0 1)) (cw_leaf 1 (s_istore 1 2))) (cw_node 4 (cw_leaf 2 (s_iconst 8 4)) (cw_leaf 4 (s_istore 2 5)))) (cw_node 8 (cw_node 6 (cw_leaf 5 (s_iload 2 6)) (cw_leaf 6 (s_iconst 15 8))) (cw_node 11 (cw_leaf 8 (s_icmp (fun x y => decide (y ≤ x)) 28 11)) (cw_leaf 11 (s_aload 0 12))))) (cw_node 22 (cw_node 16 (cw_node 13 (cw_leaf 12 (s_iload 2 13)) (cw_leaf 13 (s_callV 6 m_Tree_isJoint 1 16))) (cw_node 19 (cw_leaf 16 (s_if (fun x => decide (x = 0)) 22 19)) (cw_leaf 19 (s_iinc 1 1 22)))) (cw_node 28 (cw_node 25 (cw_leaf 22 (s_iinc 2 1 25)) (cw_leaf 25 (s_goto 5))) (cw_node 29 (cw_leaf 28 (s_iload 1 29)) (cw_leaf 29 (s_iret)))))
def c_Tree_sinkAt : Nat → Option cw_S := cw_node 22 (cw_node 10 (cw_node 3 (cw_node 1 (cw_leaf 0 (s_iconst 0 1)) (cw_node 2 (cw_leaf 1 (s_istore 3 2)) (cw_leaf 2 (s_iload 3 3)))) (cw_node 4 (cw_leaf 3 (s_aload 0 4)) (cw_node 7 (cw_leaf 4 (s_get 6 8 7)) (cw_leaf 7 (s_icmp (fun x y => decide (y ≤ x)) 44 10))))) (cw_node 16 (cw_node 11 (cw_leaf 10 (s_iload 3 11)) (cw_node 13 (cw_leaf 11 (s_iconst 8 13)) (cw_leaf 13 (s_icmp (fun x y => decide (y ≤ x)) 44 16)))) (cw_node 20 (cw_node 17 (cw_leaf 16 (s_aload 0 17)) (cw_leaf 17 (s_get 6 0 20))) (cw_node 21 (cw_leaf 20 (s_iload 3 21)) (cw_leaf 21 (s_iald 22)))))) (cw_node 33 (cw_node 27 (cw_node 23 (cw_leaf 22 (s_iload 1 23)) (cw_node 26 (cw_leaf 23 (s_icmp (fun x y => decide (¬ x = y)) 38 26)) (cw_leaf 26 (s_aload 0 27)))) (cw_node 31 (cw_node 30 (cw_leaf 27 (s_get 6 1 30)) (cw_leaf 30 (s_iload 3 31))) (cw_node 32 (cw_leaf 31 (s_iald 32)) (cw_leaf 32 (s_iload 2 33))))) (cw_node 38 (cw_node 36 (cw_leaf 33 (s_icmp (fun x y => decide (¬ x = y)) 38 36)) (cw_node 37 (cw_leaf 36 (s_iload 3 37)) (cw_leaf 37 (s_iret)))) (cw_node 44 (cw_node 41 (cw_leaf 38 (s_iinc 3 1 41)) (cw_leaf 41 (s_goto 2))) (cw_node 45 (cw_leaf 44 (s_iconst (-1) 45)) (cw_leaf 45 (s_iret))))))
def c_Tree_sinkValue : Nat → Option cw_S := cw_node 44 (cw_node 11 (cw_node 5 (cw_node 1 (cw_leaf 0 (s_aload 0 1)) (cw_node 2 (cw_leaf 1 (s_iload 1 2)) (cw_leaf 2 (s_callV 6 m_Tree_hasSink 1 5)))) (cw_node 9 (cw_node 8 (cw_leaf 5 (s_if (fun x => decide (¬ x = 0)) 10 8)) (cw_leaf 8 (s_iconst (-1) 9))) (cw_node 10 (cw_leaf 9 (s_iret)) (cw_leaf 10 (s_iload 2 11))))) (cw_node 40 (cw_node 36 (cw_leaf 11 (s_table 0 [36, 43, 50] 57)) (cw_node 37 (cw_leaf 36 (s_aload 0 37)) (cw_leaf 37 (s_get 6 0 40)))) (cw_node 42 (cw_node 41 (cw_leaf 40 (s_iload 1 41)) (cw_leaf 41 (s_iald 42))) (cw_node 43 (cw_leaf 42 (s_iret)) (cw_leaf 43 (s_aload 0 44)))))) (cw_node 55 (cw_node 49 (cw_node 47 (cw_leaf 44 (s_get 6 1 47)) (cw_node 48 (cw_leaf 47 (s_iload 1 48)) (cw_leaf 48 (s_iald 49)))) (cw_node 51 (cw_node 50 (cw_leaf 49 (s_iret)) (cw_leaf 50 (s_aload 0 51))) (cw_node 54 (cw_leaf 51 (s_get 6 2 54)) (cw_leaf 54 (s_iload 1 55))))) (cw_node 58 (cw_node 56 (cw_leaf 55 (s_iald 56)) (cw_node 57 (cw_leaf 56 (s_iret)) (cw_leaf 57 (s_aload 0 58)))) (cw_node 62 (cw_node 61 (cw_leaf 58 (s_get 6 3 61)) (cw_leaf 61 (s_iload 1 62))) (cw_node 63 (cw_leaf 62 (s_iald 63)) (cw_leaf 63 (s_iret))))))
def c_Tree_addSink : Nat → Option cw_S := cw_node 35 (cw_node 18 (cw_node 9 (cw_node 4 (cw_node 1 (cw_leaf 0 (s_aload 0 1)) (cw_leaf 1 (s_get 6 8 4))) (cw_node 5 (cw_leaf 4 (s_istore 3 5)) (cw_node 6 (cw_leaf 5 (s_iload 3 6)) (cw_leaf 6 (s_if (fun x => decide (x < 0)) 15 9))))) (cw_node 15 (cw_node 10 (cw_leaf 9 (s_iload 3 10)) (cw_node 12 (cw_leaf 10 (s_iconst 8 12)) (cw_leaf 12 (s_icmp (fun x y => decide (x < y)) 17 15)))) (cw_node 16 (cw_leaf 15 (s_iconst (-1) 16)) (cw_node 17 (cw_leaf 16 (s_iret)) (cw_leaf 17 (s_aload 0 18)))))) (cw_node 25 (cw_node 22 (cw_node 21 (cw_leaf 18 (s_get 6 0 21)) (cw_leaf 21 (s_iload 3 22))) (cw_node 23 (cw_leaf 22 (s_iload 1 23)) (cw_node 24 (cw_leaf 23 (s_iast 24)) (cw_leaf 24 (s_aload 0 25))))) (cw_node 30 (cw_node 28 (cw_leaf 25 (s_get 6 1 28)) (cw_node 29 (cw_leaf 28 (s_iload 3 29)) (cw_leaf 29 (s_iload 2 30)))) (cw_node 31 (cw_leaf 30 (s_iast 31)) (cw_node 32 (cw_leaf 31 (s_aload 0 32)) (cw_leaf 32 (s_get 6 2 35))))))) (cw_node 50 (cw_node 42 (cw_node 37 (cw_node 36 (cw_leaf 35 (s_iload 3 36)) (cw_leaf 36 (s_iconst 0 37))) (cw_node 38 (cw_leaf 37 (s_iast 38)) (cw_node 39 (cw_leaf 38 (s_aload 0 39)) (cw_leaf 39 (s_get 6 3 42))))) (cw_node 45 (cw_node 43 (cw_leaf 42 (s_iload 3 43)) (cw_node 44 (cw_leaf 43 (s_iconst 1 44)) (cw_leaf 44 (s_iast 45)))) (cw_node 46 (cw_leaf 45 (s_aload 0 46)) (cw_node 49 (cw_leaf 46 (s_get 6 4 49)) (cw_leaf 49 (s_iload 3 50)))))) (cw_node 56 (cw_node 53 (cw_node 51 (cw_leaf 50 (s_iload 3 51)) (cw_node 52 (cw_leaf 51 (s_iast 52)) (cw_leaf 52 (s_aload 0 53)))) (cw_node 54 (cw_leaf 53 (s_iload 3 54)) (cw_node 55 (cw_leaf 54 (s_iconst 1 55)) (cw_leaf 55 (s_ibin (fun x y => x + y) 56))))) (cw_node 61 (cw_node 59 (cw_leaf 56 (s_put 6 8 0 59)) (cw_node 60 (cw_leaf 59 (s_aload 0 60)) (cw_leaf 60 (s_iload 3 61)))) (cw_node 64 (cw_leaf 61 (s_callV 6 m_Tree_touch 1 64)) (cw_node 65 (cw_leaf 64 (s_iload 3 65)) (cw_leaf 65 (s_iret)))))))
def c_Tree_moveSink : Nat → Option cw_S := cw_node 15 (cw_node 8 (cw_node 2 (cw_node 1 (cw_leaf 0 (s_aload 0 1)) (cw_leaf 1 (s_iload 1 2))) (cw_node 5 (cw_leaf 2 (s_callV 6 m_Tree_hasSink 1 5)) (cw_leaf 5 (s_if (fun x => decide (x = 0)) 27 8)))) (cw_node 12 (cw_node 9 (cw_leaf 8 (s_aload 0 9)) (cw_leaf 9 (s_get 6 0 12))) (cw_node 13 (cw_leaf 12 (s_iload 1 13)) (cw_node 14 (cw_leaf 13 (s_iload 2 14)) (cw_leaf 14 (s_iast 15)))))) (cw_node 21 (cw_node 19 (cw_node 16 (cw_leaf 15 (s_aload 0 16)) (cw_leaf 16 (s_get 6 1 19))) (cw_node 20 (cw_leaf 19 (s_iload 1 20)) (cw_leaf 20 (s_iload 3 21)))) (cw_node 23 (cw_node 22 (cw_leaf 21 (s_iast 22)) (cw_leaf 22 (s_aload 0 23))) (cw_node 24 (cw_leaf 23 (s_iload 1 24)) (cw_node 27 (cw_leaf 24 (s_callV 6 m_Tree_touch 1 27)) (cw_leaf 27 (s_vret))))))
def c_Tree_touch : Nat → Option cw_S := cw_node 36 (cw_node 15 (cw_node 5 (cw_node 2 (cw_node 1 (cw_leaf 0 (s_iconst 0 1)) (cw_leaf 1 (s_istore 2 2))) (cw_node 3 (cw_leaf 2 (s_iconst 0 3)) (cw_node 4 (cw_leaf 3 (s_istore 3 4)) (cw_leaf 4 (s_iload 3 5))))) (cw_node 9 (cw_node 6 (cw_leaf 5 (s_aload 0 6)) (cw_leaf 6 (s_get 6 8 9))) (cw_node 12 (cw_leaf 9 (s_icmp (fun x y => decide (y ≤ x)) 36 12)) (cw_node 13 (cw_leaf 12 (s_iload 3 13)) (cw_leaf 13 (s_iconst 8 15)))))) (cw_node 24 (cw_node 19 (cw_node 18 (cw_leaf 15 (s_icmp (fun x y => decide (y ≤ x)) 36 18)) (cw_leaf 18 (s_aload 0 19))) (cw_node 22 (cw_leaf 19 (s_get 6 4 22)) (cw_node 23 (cw_leaf 22 (s_iload 3 23)) (cw_leaf 23 (s_iald 24))))) (cw_node 29 (cw_node 25 (cw_leaf 24 (s_iload 1 25)) (cw_node 28 (cw_leaf 25 (s_icmp (fun x y => decide (¬ x = y)) 30 28)) (cw_leaf 28 (s_iload 3 29)))) (cw_node 30 (cw_leaf 29 (s_istore 2 30)) (cw_node 33 (cw_leaf 30 (s_iinc 3 1 33)) (cw_leaf 33 (s_goto 4))))))) (cw_node 53 (cw_node 43 (cw_node 38 (cw_node 37 (cw_leaf 36 (s_iload 2 37)) (cw_leaf 37 (s_istore 3 38))) (cw_node 39 (cw_leaf 38 (s_iload 3 39)) (cw_node 42 (cw_leaf 39 (s_if (fun x => decide (x ≤ 0)) 62 42)) (cw_leaf 42 (s_aload 0 43))))) (cw_node 48 (cw_node 46 (cw_leaf 43 (s_get 6 4 46)) (cw_node 47 (cw_leaf 46 (s_iload 3 47)) (cw_leaf 47 (s_aload 0 48)))) (cw_node 51 (cw_leaf 48 (s_get 6 4 51)) (cw_node 52 (cw_leaf 51 (s_iload 3 52)) (cw_leaf 52 (s_iconst 1 53)))))) (cw_node 62 (cw_node 55 (cw_node 54 (cw_leaf 53 (s_ibin (fun x y => x - y) 54)) (cw_leaf 54 (s_iald 55))) (cw_node 56 (cw_leaf 55 (s_iast 56)) (cw_node 59 (cw_leaf 56 (s_iinc 3 (-1) 59)) (cw_leaf 59 (s_goto 38))))) (cw_node 67 (cw_node 63 (cw_leaf 62 (s_aload 0 63)) (cw_node 66 (cw_leaf 63 (s_get 6 4 66)) (cw_leaf 66 (s_iconst 0 67)))) (cw_node 68 (cw_leaf 67 (s_iload 1 68)) (cw_node 69 (cw_leaf 68 (s_iast 69)) (cw_leaf 69 (s_vret)))))))
def c_Tree_touchedBefore : Nat → Option cw_S := cw_node 9 (cw_node 2 (cw_node 1 (cw_leaf 0 (s_aload 0 1)) (cw_leaf 1 (s_iload 1 2))) (cw_node 5 (cw_leaf 2 (s_callV 6 m_Tree_hasSink 1 5)) (cw_node 8 (cw_leaf 5 (s_if (fun x => decide (x = 0)) 17 8)) (cw_leaf 8 (s_aload 0 9))))) (cw_node 14 (cw_node 12 (cw_leaf 9 (s_get 6 4 12)) (cw_node 13 (cw_leaf 12 (s_iload 1 13)) (cw_leaf 13 (s_iald 14)))) (cw_node 17 (cw_leaf 14 (s_goto 18)) (cw_node 18 (cw_leaf 17 (s_iconst (-1) 18)) (cw_leaf 18 (s_iret)))))
def c_Tree_removeJoints : Nat → Option cw_S := cw_node 16 (cw_node 8 (cw_node 2 (cw_node 1 (cw_leaf 0 (s_iconst 0 1)) (cw_leaf 1 (s_istore 1 2))) (cw_node 3 (cw_leaf 2 (s_iload 1 3)) (cw_node 5 (cw_leaf 3 (s_iconst 15 5)) (cw_leaf 5 (s_icmp (fun x y => decide (y ≤ x)) 35 8))))) (cw_node 13 (cw_node 9 (cw_leaf 8 (s_aload 0 9)) (cw_node 12 (cw_leaf 9 (s_get 6 5 12)) (cw_leaf 12 (s_iload 1 13)))) (cw_node 14 (cw_leaf 13 (s_iconst (-1) 14)) (cw_node 15 (cw_leaf 14 (s_iast 15)) (cw_leaf 15 (s_aload 0 16)))))) (cw_node 26 (cw_node 21 (cw_node 19 (cw_leaf 16 (s_get 6 6 19)) (cw_node 20 (cw_leaf 19 (s_iload 1 20)) (cw_leaf 20 (s_iconst (-1) 21)))) (cw_node 22 (cw_leaf 21 (s_iast 22)) (cw_node 23 (cw_leaf 22 (s_aload 0 23)) (cw_leaf 23 (s_get 6 7 26))))) (cw_node 29 (cw_node 27 (cw_leaf 26 (s_iload 1 27)) (cw_node 28 (cw_leaf 27 (s_iconst (-1) 28)) (cw_leaf 28 (s_iast 29)))) (cw_node 32 (cw_leaf 29 (s_iinc 1 1 32)) (cw_node 35 (cw_leaf 32 (s_goto 2)) (cw_leaf 35 (s_vret))))))
def c_Tree_freeJoint : Nat → Option cw_S := cw_node 11 (cw_node 4 (cw_node 2 (cw_leaf 0 (s_iconst 8 2)) (cw_node 3 (cw_leaf 2 (s_istore 1 3)) (cw_leaf 3 (s_iload 1 4)))) (cw_node 9 (cw_node 6 (cw_leaf 4 (s_iconst 15 6)) (cw_leaf 6 (s_icmp (fun x y => decide (y ≤ x)) 25 9))) (cw_node 10 (cw_leaf 9 (s_aload 0 10)) (cw_leaf 10 (s_iload 1 11))))) (cw_node 19 (cw_node 17 (cw_node 14 (cw_leaf 11 (s_callV 6 m_Tree_isJoint 1 14)) (cw_leaf 14 (s_if (fun x => decide (¬ x = 0)) 19 17))) (cw_node 18 (cw_leaf 17 (s_iload 1 18)) (cw_leaf 18 (s_iret)))) (cw_node 25 (cw_node 22 (cw_leaf 19 (s_iinc 1 1 22)) (cw_leaf 22 (s_goto 3))) (cw_node 26 (cw_leaf 25 (s_iconst (-1) 26)) (cw_leaf 26 (s_iret)))))
def c_Tree_addJoint : Nat → Option cw_S := cw_node 35 (cw_node 18 (cw_node 7 (cw_node 4 (cw_node 1 (cw_leaf 0 (s_aload 0 1)) (cw_leaf 1 (s_callV 6 m_Tree_freeJoint 0 4))) (cw_node 5 (cw_leaf 4 (s_istore 3 5)) (cw_node 6 (cw_leaf 5 (s_iload 3 6)) (cw_leaf 6 (s_iconst (-1) 7))))) (cw_node 11 (cw_node 10 (cw_leaf 7 (s_icmp (fun x y => decide (x = y)) 26 10)) (cw_leaf 10 (s_aload 0 11))) (cw_node 12 (cw_leaf 11 (s_iload 1 12)) (cw_node 15 (cw_leaf 12 (s_callV 6 m_Tree_hasNode 1 15)) (cw_leaf 15 (s_if (fun x => decide (x = 0)) 26 18)))))) (cw_node 27 (cw_node 20 (cw_node 19 (cw_leaf 18 (s_aload 0 19)) (cw_leaf 19 (s_iload 2 20))) (cw_node 23 (cw_leaf 20 (s_callV 6 m_Tree_hasNode 1 23)) (cw_node 26 (cw_leaf 23 (s_if (fun x => decide (¬ x = 0)) 28 26)) (cw_leaf 26 (s_iconst (-1) 27))))) (cw_node 32 (cw_node 28 (cw_leaf 27 (s_iret)) (cw_node 29 (cw_leaf 28 (s_aload 0 29)) (cw_leaf 29 (s_get 6 5 32)))) (cw_node 33 (cw_leaf 32 (s_iload 3 33)) (cw_node 34 (cw_leaf 33 (s_iload 1 34)) (cw_leaf 34 (s_iast 35))))))) (cw_node 50 (cw_node 42 (cw_node 39 (cw_node 36 (cw_leaf 35 (s_aload 0 36)) (cw_leaf 36 (s_get 6 6 39))) (cw_node 40 (cw_leaf 39 (s_iload 3 40)) (cw_node 41 (cw_leaf 40 (s_iload 2 41)) (cw_leaf 41 (s_iast 42))))) (cw_node 47 (cw_node 43 (cw_leaf 42 (s_aload 0 43)) (cw_node 46 (cw_leaf 43 (s_get 6 7 46)) (cw_leaf 46 (s_iload 3 47)))) (cw_node 48 (cw_leaf 47 (s_iconst (-1) 48)) (cw_node 49 (cw_leaf 48 (s_iast 49)) (cw_leaf 49 (s_aload 0 50)))))) (cw_node 57 (cw_node 54 (cw_node 53 (cw_leaf 50 (s_get 6 7 53)) (cw_leaf 53 (s_iload 1 54))) (cw_node 55 (cw_leaf 54 (s_iload 3 55)) (cw_node 56 (cw_leaf 55 (s_iast 56)) (cw_leaf 56 (s_aload 0 57))))) (cw_node 62 (cw_node 60 (cw_leaf 57 (s_get 6 7 60)) (cw_node 61 (cw_leaf 60 (s_iload 2 61)) (cw_leaf 61 (s_iload 3 62)))) (cw_node 63 (cw_leaf 62 (s_iast 63)) (cw_node 64 (cw_leaf 63 (s_iload 3 64)) (cw_leaf 64 (s_iret)))))))
def c_Tree_replaceChild : Nat → Option cw_S := cw_node 28 (cw_node 14 (cw_node 8 (cw_node 2 (cw_node 1 (cw_leaf 0 (s_aload 0 1)) (cw_leaf 1 (s_iload 3 2))) (cw_node 5 (cw_leaf 2 (s_callV 6 m_Tree_hasNode 1 5)) (cw_leaf 5 (s_if (fun x => decide (¬ x = 0)) 9 8)))) (cw_node 10 (cw_node 9 (cw_leaf 8 (s_vret)) (cw_leaf 9 (s_aload 0 10))) (cw_node 13 (cw_leaf 10 (s_get 6 7 13)) (cw_leaf 13 (s_iload 3 14))))) (cw_node 18 (cw_node 16 (cw_node 15 (cw_leaf 14 (s_iload 1 15)) (cw_leaf 15 (s_iast 16))) (cw_node 17 (cw_leaf 16 (s_aload 0 17)) (cw_leaf 17 (s_iload 1 18)))) (cw_node 24 (cw_node 21 (cw_leaf 18 (s_callV 6 m_Tree_isJoint 1 21)) (cw_leaf 21 (s_if (fun x => decide (x = 0)) 51 24))) (cw_node 25 (cw_leaf 24 (s_aload 0 25)) (cw_leaf 25 (s_get 6 5 28)))))) (cw_node 40 (cw_node 34 (cw_node 30 (cw_node 29 (cw_leaf 28 (s_iload 1 29)) (cw_leaf 29 (s_iald 30))) (cw_node 31 (cw_leaf 30 (s_iload 2 31)) (cw_leaf 31 (s_icmp (fun x y => decide (¬ x = y)) 44 34)))) (cw_node 38 (cw_node 35 (cw_leaf 34 (s_aload 0 35)) (cw_leaf 35 (s_get 6 5 38))) (cw_node 39 (cw_leaf 38 (s_iload 1 39)) (cw_leaf 39 (s_iload 3 40))))) (cw_node 48 (cw_node 44 (cw_node 41 (cw_leaf 40 (s_iast 41)) (cw_leaf 41 (s_goto 51))) (cw_node 45 (cw_leaf 44 (s_aload 0 45)) (cw_leaf 45 (s_get 6 6 48)))) (cw_node 50 (cw_node 49 (cw_leaf 48 (s_iload 1 49)) (cw_leaf 49 (s_iload 3 50))) (cw_node 51 (cw_leaf 50 (s_iast 51)) (cw_leaf 51 (s_vret))))))
def c_Tree_isWithin : Nat → Option cw_S := cw_node 18 (cw_node 7 (cw_node 2 (cw_node 1 (cw_leaf 0 (s_iload 1 1)) (cw_leaf 1 (s_istore 3 2))) (cw_node 3 (cw_leaf 2 (s_iconst 0 3)) (cw_node 5 (cw_leaf 3 (s_istore 4 5)) (cw_leaf 5 (s_iload 4 7))))) (cw_node 13 (cw_node 9 (cw_leaf 7 (s_iconst 15 9)) (cw_node 12 (cw_leaf 9 (s_icmp (fun x y => decide (y ≤ x)) 36 12)) (cw_leaf 12 (s_iload 3 13)))) (cw_node 14 (cw_leaf 13 (s_iconst (-1) 14)) (cw_node 17 (cw_leaf 14 (s_icmp (fun x y => decide (x = y)) 36 17)) (cw_leaf 17 (s_iload 3 18)))))) (cw_node 26 (cw_node 23 (cw_node 19 (cw_leaf 18 (s_iload 2 19)) (cw_node 22 (cw_leaf 19 (s_icmp (fun x y => decide (¬ x = y)) 24 22)) (cw_leaf 22 (s_iconst 1 23)))) (cw_node 24 (cw_leaf 23 (s_zret)) (cw_node 25 (cw_leaf 24 (s_aload 0 25)) (cw_leaf 25 (s_iload 3 26))))) (cw_node 33 (cw_node 29 (cw_leaf 26 (s_callV 6 m_Tree_parentOf 1 29)) (cw_node 30 (cw_leaf 29 (s_istore 3 30)) (cw_leaf 30 (s_iinc 4 1 33)))) (cw_node 36 (cw_leaf 33 (s_goto 5)) (cw_node 37 (cw_leaf 36 (s_iconst 0 37)) (cw_leaf 37 (s_zret))))))
def c_Tree_canGraft : Nat → Option cw_S := cw_node 16 (cw_node 8 (cw_node 2 (cw_node 1 (cw_leaf 0 (s_aload 0 1)) (cw_leaf 1 (s_iload 1 2))) (cw_node 5 (cw_leaf 2 (s_callV 6 m_Tree_isTop 1 5)) (cw_leaf 5 (s_if (fun x => decide (x = 0)) 29 8)))) (cw_node 10 (cw_node 9 (cw_leaf 8 (s_aload 0 9)) (cw_leaf 9 (s_iload 2 10))) (cw_node 13 (cw_leaf 10 (s_callV 6 m_Tree_hasNode 1 13)) (cw_leaf 13 (s_if (fun x => decide (x = 0)) 29 16))))) (cw_node 22 (cw_node 18 (cw_node 17 (cw_leaf 16 (s_aload 0 17)) (cw_leaf 17 (s_iload 2 18))) (cw_node 19 (cw_leaf 18 (s_iload 1 19)) (cw_leaf 19 (s_callV 6 m_Tree_isWithin 2 22)))) (cw_node 26 (cw_node 25 (cw_leaf 22 (s_if (fun x => decide (¬ x = 0)) 29 25)) (cw_leaf 25 (s_iconst 1 26))) (cw_node 29 (cw_leaf 26 (s_goto 30)) (cw_node 30 (cw_leaf 29 (s_iconst 0 30)) (cw_leaf 30 (s_zret))))))
def c_Tree_graft : Nat → Option cw_S := cw_node 12 (cw_node 6 (cw_node 2 (cw_node 1 (cw_leaf 0 (s_aload 0 1)) (cw_leaf 1 (s_iload 2 2))) (cw_node 5 (cw_leaf 2 (s_callV 6 m_Tree_parentOf 1 5)) (cw_leaf 5 (s_istore 3 6)))) (cw_node 8 (cw_node 7 (cw_leaf 6 (s_aload 0 7)) (cw_leaf 7 (s_iload 2 8))) (cw_node 9 (cw_leaf 8 (s_iload 1 9)) (cw_leaf 9 (s_callV 6 m_Tree_addJoint 2 12))))) (cw_node 17 (cw_node 15 (cw_node 14 (cw_leaf 12 (s_istore 4 14)) (cw_leaf 14 (s_aload 0 15))) (cw_node 16 (cw_leaf 15 (s_iload 3 16)) (cw_leaf 16 (s_iload 2 17)))) (cw_node 22 (cw_node 19 (cw_leaf 17 (s_iload 4 19)) (cw_leaf 19 (s_callV 6 m_Tree_replaceChild 3 22))) (cw_node 24 (cw_leaf 22 (s_iload 4 24)) (cw_leaf 24 (s_iret)))))
def c_Tree_cut : Nat → Option cw_S := cw_node 44 (cw_node 22 (cw_node 11 (cw_node 5 (cw_node 1 (cw_leaf 0 (s_aload 0 1)) (cw_node 2 (cw_leaf 1 (s_iload 1 2)) (cw_leaf 2 (s_callV 6 m_Tree_parentOf 1 5)))) (cw_node 7 (cw_node 6 (cw_leaf 5 (s_istore 2 6)) (cw_leaf 6 (s_aload 0 7))) (cw_node 8 (cw_leaf 7 (s_iload 2 8)) (cw_leaf 8 (s_callV 6 m_Tree_isJoint 1 11))))) (cw_node 16 (cw_node 14 (cw_leaf 11 (s_if (fun x => decide (¬ x = 0)) 16 14)) (cw_node 15 (cw_leaf 14 (s_iconst (-1) 15)) (cw_leaf 15 (s_iret)))) (cw_node 20 (cw_node 17 (cw_leaf 16 (s_aload 0 17)) (cw_leaf 17 (s_get 6 5 20))) (cw_node 21 (cw_leaf 20 (s_iload 2 21)) (cw_leaf 21 (s_iald 22)))))) (cw_node 35 (cw_node 27 (cw_node 23 (cw_leaf 22 (s_iload 1 23)) (cw_node 26 (cw_leaf 23 (s_icmp (fun x y => decide (¬ x = y)) 35 26)) (cw_leaf 26 (s_aload 0 27)))) (cw_node 31 (cw_node 30 (cw_leaf 27 (s_get 6 6 30)) (cw_leaf 30 (s_iload 2 31))) (cw_node 32 (cw_leaf 31 (s_iald 32)) (cw_leaf 32 (s_goto 41))))) (cw_node 40 (cw_node 36 (cw_leaf 35 (s_aload 0 36)) (cw_node 39 (cw_leaf 36 (s_get 6 5 39)) (cw_leaf 39 (s_iload 2 40)))) (cw_node 42 (cw_node 41 (cw_leaf 40 (s_iald 41)) (cw_leaf 41 (s_istore 3 42))) (cw_node 43 (cw_leaf 42 (s_aload 0 43)) (cw_leaf 43 (s_aload 0 44))))))) (cw_node 66 (cw_node 55 (cw_node 49 (cw_node 47 (cw_leaf 44 (s_get 6 7 47)) (cw_node 48 (cw_leaf 47 (s_iload 2 48)) (cw_leaf 48 (s_iald 49)))) (cw_node 51 (cw_node 50 (cw_leaf 49 (s_iload 2 50)) (cw_leaf 50 (s_iload 3 51))) (cw_node 54 (cw_leaf 51 (s_callV 6 m_Tree_replaceChild 3 54)) (cw_leaf 54 (s_aload 0 55))))) (cw_node 60 (cw_node 58 (cw_leaf 55 (s_get 6 5 58)) (cw_node 59 (cw_leaf 58 (s_iload 2 59)) (cw_leaf 59 (s_iconst (-1) 60)))) (cw_node 62 (cw_node 61 (cw_leaf 60 (s_iast 61)) (cw_leaf 61 (s_aload 0 62))) (cw_node 65 (cw_leaf 62 (s_get 6 6 65)) (cw_leaf 65 (s_iload 2 66)))))) (cw_node 75 (cw_node 69 (cw_node 67 (cw_leaf 66 (s_iconst (-1) 67)) (cw_node 68 (cw_leaf 67 (s_iast 68)) (cw_leaf 68 (s_aload 0 69)))) (cw_node 73 (cw_node 72 (cw_leaf 69 (s_get 6 7 72)) (cw_leaf 72 (s_iload 2 73))) (cw_node 74 (cw_leaf 73 (s_iconst (-1) 74)) (cw_leaf 74 (s_iast 75))))) (cw_node 80 (cw_node 76 (cw_leaf 75 (s_aload 0 76)) (cw_node 79 (cw_leaf 76 (s_get 6 7 79)) (cw_leaf 79 (s_iload 1 80)))) (cw_node 82 (cw_node 81 (cw_leaf 80 (s_iconst (-1) 81)) (cw_leaf 81 (s_iast 82))) (cw_node 83 (cw_leaf 82 (s_iload 2 83)) (cw_leaf 83 (s_iret)))))))
def c_Tree_canExchange : Nat → Option cw_S := cw_node 25 (cw_node 11 (cw_node 5 (cw_node 1 (cw_leaf 0 (s_aload 0 1)) (cw_node 2 (cw_leaf 1 (s_iload 1 2)) (cw_leaf 2 (s_callV 6 m_Tree_parentOf 1 5)))) (cw_node 7 (cw_node 6 (cw_leaf 5 (s_istore 3 6)) (cw_leaf 6 (s_aload 0 7))) (cw_node 8 (cw_leaf 7 (s_iload 2 8)) (cw_leaf 8 (s_callV 6 m_Tree_parentOf 1 11))))) (cw_node 18 (cw_node 14 (cw_node 13 (cw_leaf 11 (s_istore 4 13)) (cw_leaf 13 (s_iload 3 14))) (cw_node 15 (cw_leaf 14 (s_iconst (-1) 15)) (cw_leaf 15 (s_icmp (fun x y => decide (x = y)) 52 18)))) (cw_node 21 (cw_node 20 (cw_leaf 18 (s_iload 4 20)) (cw_leaf 20 (s_iconst (-1) 21))) (cw_node 24 (cw_leaf 21 (s_icmp (fun x y => decide (x = y)) 52 24)) (cw_leaf 24 (s_iload 3 25)))))) (cw_node 40 (cw_node 32 (cw_node 30 (cw_node 27 (cw_leaf 25 (s_iload 4 27)) (cw_leaf 27 (s_icmp (fun x y => decide (x = y)) 52 30))) (cw_node 31 (cw_leaf 30 (s_aload 0 31)) (cw_leaf 31 (s_iload 1 32)))) (cw_node 36 (cw_node 33 (cw_leaf 32 (s_iload 2 33)) (cw_leaf 33 (s_callV 6 m_Tree_isWithin 2 36))) (cw_node 39 (cw_leaf 36 (s_if (fun x => decide (¬ x = 0)) 52 39)) (cw_leaf 39 (s_aload 0 40))))) (cw_node 48 (cw_node 42 (cw_node 41 (cw_leaf 40 (s_iload 2 41)) (cw_leaf 41 (s_iload 1 42))) (cw_node 45 (cw_leaf 42 (s_callV 6 m_Tree_isWithin 2 45)) (cw_leaf 45 (s_if (fun x => decide (¬ x = 0)) 52 48)))) (cw_node 52 (cw_node 49 (cw_leaf 48 (s_iconst 1 49)) (cw_leaf 49 (s_goto 53))) (cw_node 53 (cw_leaf 52 (s_iconst 0 53)) (cw_leaf 53 (s_zret))))))
def c_Tree_exchange : Nat → Option cw_S := cw_node 14 (cw_node 6 (cw_node 2 (cw_node 1 (cw_leaf 0 (s_aload 0 1)) (cw_leaf 1 (s_iload 1 2))) (cw_node 5 (cw_leaf 2 (s_callV 6 m_Tree_parentOf 1 5)) (cw_leaf 5 (s_istore 3 6)))) (cw_node 8 (cw_node 7 (cw_leaf 6 (s_aload 0 7)) (cw_leaf 7 (s_iload 2 8))) (cw_node 11 (cw_leaf 8 (s_callV 6 m_Tree_parentOf 1 11)) (cw_node 13 (cw_leaf 11 (s_istore 4 13)) (cw_leaf 13 (s_aload 0 14)))))) (cw_node 21 (cw_node 16 (cw_node 15 (cw_leaf 14 (s_iload 3 15)) (cw_leaf 15 (s_iload 1 16))) (cw_node 17 (cw_leaf 16 (s_iload 2 17)) (cw_node 20 (cw_leaf 17 (s_callV 6 m_Tree_replaceChild 3 20)) (cw_leaf 20 (s_aload 0 21))))) (cw_node 24 (cw_node 23 (cw_leaf 21 (s_iload 4 23)) (cw_leaf 23 (s_iload 2 24))) (cw_node 25 (cw_leaf 24 (s_iload 1 25)) (cw_node 28 (cw_leaf 25 (s_callV 6 m_Tree_replaceChild 3 28)) (cw_leaf 28 (s_vret))))))
def c_Wires_init : Nat → Option cw_S := cw_node 36 (cw_node 17 (cw_node 7 (cw_node 4 (cw_node 1 (cw_leaf 0 (s_aload 0 1)) (cw_leaf 1 (s_obj 4))) (cw_node 5 (cw_leaf 4 (s_aload 0 5)) (cw_leaf 5 (s_iconst 15 7)))) (cw_node 13 (cw_node 10 (cw_leaf 7 (s_newa 3 10)) (cw_leaf 10 (s_put 7 0 2 13))) (cw_node 14 (cw_leaf 13 (s_aload 0 14)) (cw_leaf 14 (s_new 2 [.int 0, .int 0, .int 0, .int 0, .int 0, .int 0, .int 0, .int 0, .int 0, .int 0] 17))))) (cw_node 25 (cw_node 21 (cw_node 18 (cw_leaf 17 (s_dup 18)) (cw_leaf 18 (s_callI m_Part_init 0 21))) (cw_node 24 (cw_leaf 21 (s_put 7 1 2 24)) (cw_leaf 24 (s_aload 0 25)))) (cw_node 29 (cw_node 28 (cw_leaf 25 (s_new 1 [.int 0, .int 0, .int 0, .int 0] 28)) (cw_leaf 28 (s_dup 29))) (cw_node 32 (cw_leaf 29 (s_callI m_Merge_init 0 32)) (cw_node 35 (cw_leaf 32 (s_put 7 2 2 35)) (cw_leaf 35 (s_aload 0 36))))))) (cw_node 52 (cw_node 44 (cw_node 40 (cw_node 38 (cw_leaf 36 (s_iconst 15 38)) (cw_leaf 38 (s_newa 0 40))) (cw_node 43 (cw_leaf 40 (s_put 7 3 2 43)) (cw_leaf 43 (s_iconst 0 44)))) (cw_node 46 (cw_node 45 (cw_leaf 44 (s_istore 1 45)) (cw_leaf 45 (s_iload 1 46))) (cw_node 48 (cw_leaf 46 (s_iconst 15 48)) (cw_node 51 (cw_leaf 48 (s_icmp (fun x y => decide (y ≤ x)) 70 51)) (cw_leaf 51 (s_aload 0 52)))))) (cw_node 60 (cw_node 56 (cw_node 55 (cw_leaf 52 (s_get 7 0 55)) (cw_leaf 55 (s_iload 1 56))) (cw_node 59 (cw_leaf 56 (s_new 2 [.int 0, .int 0, .int 0, .int 0, .int 0, .int 0, .int 0, .int 0, .int 0, .int 0] 59)) (cw_leaf 59 (s_dup 60)))) (cw_node 64 (cw_node 63 (cw_leaf 60 (s_callI m_Part_init 0 63)) (cw_leaf 63 (s_aast 64))) (cw_node 67 (cw_leaf 64 (s_iinc 1 1 67)) (cw_node 70 (cw_leaf 67 (s_goto 45)) (cw_leaf 70 (s_vret)))))))
def c_Wires_part : Nat → Option cw_S := cw_node 11 (cw_node 5 (cw_node 1 (cw_leaf 0 (s_iload 1 1)) (cw_node 4 (cw_leaf 1 (s_if (fun x => decide (x < 0)) 19 4)) (cw_leaf 4 (s_iload 1 5)))) (cw_node 7 (cw_leaf 5 (s_iconst 15 7)) (cw_node 10 (cw_leaf 7 (s_icmp (fun x y => decide (y ≤ x)) 19 10)) (cw_leaf 10 (s_aload 0 11))))) (cw_node 16 (cw_node 14 (cw_leaf 11 (s_get 7 0 14)) (cw_node 15 (cw_leaf 14 (s_iload 1 15)) (cw_leaf 15 (s_aald 16)))) (cw_node 20 (cw_node 19 (cw_leaf 16 (s_goto 23)) (cw_leaf 19 (s_aload 0 20))) (cw_node 23 (cw_leaf 20 (s_get 7 1 23)) (cw_leaf 23 (s_aret)))))
def c_Wires_measure : Nat → Option cw_S := cw_node 86 (cw_node 38 (cw_node 19 (cw_node 9 (cw_node 2 (cw_node 1 (cw_leaf 0 (s_aload 0 1)) (cw_leaf 1 (s_aload 1 2))) (cw_node 5 (cw_leaf 2 (s_callV 7 m_Wires_listDownward 1 5)) (cw_node 6 (cw_leaf 5 (s_aload 1 6)) (cw_leaf 6 (s_get 6 9 9))))) (cw_node 13 (cw_node 11 (cw_leaf 9 (s_iconst 65536 11)) (cw_node 12 (cw_leaf 11 (s_ibin (fun x y => x * y) 12)) (cw_leaf 12 (s_istore 2 13)))) (cw_node 14 (cw_leaf 13 (s_aload 0 14)) (cw_node 17 (cw_leaf 14 (s_get 7 4 17)) (cw_leaf 17 (s_iconst 15 19)))))) (cw_node 29 (cw_node 24 (cw_node 22 (cw_leaf 19 (s_min 22)) (cw_node 23 (cw_leaf 22 (s_iconst 1 23)) (cw_leaf 23 (s_ibin (fun x y => x - y) 24)))) (cw_node 25 (cw_leaf 24 (s_istore 3 25)) (cw_node 26 (cw_leaf 25 (s_iload 3 26)) (cw_leaf 26 (s_if (fun x => decide (x < 0)) 120 29))))) (cw_node 34 (cw_node 30 (cw_leaf 29 (s_aload 0 30)) (cw_node 33 (cw_leaf 30 (s_get 7 3 33)) (cw_leaf 33 (s_iload 3 34)))) (cw_node 35 (cw_leaf 34 (s_iald 35)) (cw_node 37 (cw_leaf 35 (s_istore 4 37)) (cw_leaf 37 (s_aload 1 38))))))) (cw_node 60 (cw_node 48 (cw_node 43 (cw_node 40 (cw_leaf 38 (s_iload 4 40)) (cw_leaf 40 (s_callV 6 m_Tree_isJoint 1 43))) (cw_node 46 (cw_leaf 43 (s_if (fun x => decide (x = 0)) 102 46)) (cw_node 47 (cw_leaf 46 (s_aload 0 47)) (cw_leaf 47 (s_aload 1 48))))) (cw_node 56 (cw_node 50 (cw_leaf 48 (s_iload 4 50)) (cw_node 53 (cw_leaf 50 (s_callV 6 m_Tree_leftOf 1 53)) (cw_leaf 53 (s_callV 7 m_Wires_part 1 56)))) (cw_node 58 (cw_leaf 56 (s_astore 5 58)) (cw_node 59 (cw_leaf 58 (s_aload 0 59)) (cw_leaf 59 (s_aload 1 60)))))) (cw_node 74 (cw_node 68 (cw_node 62 (cw_leaf 60 (s_iload 4 62)) (cw_node 65 (cw_leaf 62 (s_callV 6 m_Tree_rightOf 1 65)) (cw_leaf 65 (s_callV 7 m_Wires_part 1 68)))) (cw_node 70 (cw_leaf 68 (s_astore 6 70)) (cw_node 71 (cw_leaf 70 (s_aload 0 71)) (cw_leaf 71 (s_get 7 2 74))))) (cw_node 79 (cw_node 76 (cw_leaf 74 (s_aload 5 76)) (cw_node 78 (cw_leaf 76 (s_aload 6 78)) (cw_leaf 78 (s_iload 2 79)))) (cw_node 82 (cw_leaf 79 (s_callV 1 m_Merge_weigh 3 82)) (cw_node 83 (cw_leaf 82 (s_aload 0 83)) (cw_leaf 83 (s_get 7 2 86)))))))) (cw_node 132 (cw_node 109 (cw_node 96 (cw_node 89 (cw_node 87 (cw_leaf 86 (s_aload 0 87)) (cw_leaf 87 (s_iload 4 89))) (cw_node 92 (cw_leaf 89 (s_callV 7 m_Wires_part 1 92)) (cw_node 94 (cw_leaf 92 (s_aload 5 94)) (cw_leaf 94 (s_aload 6 96))))) (cw_node 103 (cw_node 99 (cw_leaf 96 (s_callV 1 m_Merge_join 3 99)) (cw_node 102 (cw_leaf 99 (s_goto 114)) (cw_leaf 102 (s_aload 0 103)))) (cw_node 105 (cw_leaf 103 (s_iload 4 105)) (cw_node 108 (cw_leaf 105 (s_callV 7 m_Wires_part 1 108)) (cw_leaf 108 (s_aload 1 109)))))) (cw_node 122 (cw_node 117 (cw_node 111 (cw_leaf 109 (s_iload 4 111)) (cw_node 114 (cw_leaf 111 (s_callV 2 m_Part_setSink 2 114)) (cw_leaf 114 (s_iinc 3 (-1) 117)))) (cw_node 120 (cw_leaf 117 (s_goto 25)) (cw_node 121 (cw_leaf 120 (s_aload 0 121)) (cw_leaf 121 (s_iconst 0 122))))) (cw_node 127 (cw_node 125 (cw_leaf 122 (s_put 7 6 0 125)) (cw_node 126 (cw_leaf 125 (s_iconst 0 126)) (cw_leaf 126 (s_istore 3 127)))) (cw_node 128 (cw_leaf 127 (s_iload 3 128)) (cw_node 129 (cw_leaf 128 (s_aload 0 129)) (cw_leaf 129 (s_get 7 5 132))))))) (cw_node 155 (cw_node 143 (cw_node 138 (cw_node 135 (cw_leaf 132 (s_icmp (fun x y => decide (y ≤ x)) 179 135)) (cw_node 136 (cw_leaf 135 (s_iload 3 136)) (cw_leaf 136 (s_iconst 15 138)))) (cw_node 141 (cw_leaf 138 (s_icmp (fun x y => decide (y ≤ x)) 179 141)) (cw_node 142 (cw_leaf 141 (s_aload 0 142)) (cw_leaf 142 (s_aload 0 143))))) (cw_node 148 (cw_node 146 (cw_leaf 143 (s_get 7 3 146)) (cw_node 147 (cw_leaf 146 (s_iload 3 147)) (cw_leaf 147 (s_iald 148)))) (cw_node 151 (cw_leaf 148 (s_callV 7 m_Wires_part 1 151)) (cw_node 153 (cw_leaf 151 (s_astore 4 153)) (cw_leaf 153 (s_aload 4 155)))))) (cw_node 166 (cw_node 160 (cw_node 156 (cw_leaf 155 (s_iconst (-1) 156)) (cw_node 159 (cw_leaf 156 (s_put 2 6 0 159)) (cw_leaf 159 (s_aload 0 160)))) (cw_node 161 (cw_leaf 160 (s_dup 161)) (cw_node 164 (cw_leaf 161 (s_get 7 6 164)) (cw_leaf 164 (s_aload 4 166))))) (cw_node 173 (cw_node 169 (cw_leaf 166 (s_get 2 7 169)) (cw_node 170 (cw_leaf 169 (s_ibin (fun x y => x + y) 170)) (cw_leaf 170 (s_put 7 6 0 173)))) (cw_node 176 (cw_leaf 173 (s_iinc 3 1 176)) (cw_node 179 (cw_leaf 176 (s_goto 127)) (cw_leaf 179 (s_vret))))))))
def c_Wires_listDownward : Nat → Option cw_S := cw_node 47 (cw_node 22 (cw_node 8 (cw_node 5 (cw_node 1 (cw_leaf 0 (s_aload 0 1)) (cw_node 2 (cw_leaf 1 (s_iconst 0 2)) (cw_leaf 2 (s_put 7 4 0 5)))) (cw_node 6 (cw_leaf 5 (s_iconst 0 6)) (cw_node 7 (cw_leaf 6 (s_istore 2 7)) (cw_leaf 7 (s_iload 2 8))))) (cw_node 14 (cw_node 10 (cw_leaf 8 (s_iconst 15 10)) (cw_node 13 (cw_leaf 10 (s_icmp (fun x y => decide (y ≤ x)) 32 13)) (cw_leaf 13 (s_aload 1 14)))) (cw_node 18 (cw_node 15 (cw_leaf 14 (s_iload 2 15)) (cw_leaf 15 (s_callV 6 m_Tree_isTop 1 18))) (cw_node 21 (cw_leaf 18 (s_if (fun x => decide (x = 0)) 26 21)) (cw_leaf 21 (s_aload 0 22)))))) (cw_node 34 (cw_node 29 (cw_node 23 (cw_leaf 22 (s_iload 2 23)) (cw_node 26 (cw_leaf 23 (s_callV 7 m_Wires_list 1 26)) (cw_leaf 26 (s_iinc 2 1 29)))) (cw_node 32 (cw_leaf 29 (s_goto 7)) (cw_node 33 (cw_leaf 32 (s_aload 0 33)) (cw_leaf 33 (s_aload 0 34))))) (cw_node 41 (cw_node 37 (cw_leaf 34 (s_get 7 4 37)) (cw_node 40 (cw_leaf 37 (s_put 7 5 0 40)) (cw_leaf 40 (s_iconst 0 41)))) (cw_node 43 (cw_node 42 (cw_leaf 41 (s_istore 2 42)) (cw_leaf 42 (s_iload 2 43))) (cw_node 44 (cw_leaf 43 (s_aload 0 44)) (cw_leaf 44 (s_get 7 4 47))))))) (cw_node 71 (cw_node 60 (cw_node 53 (cw_node 50 (cw_leaf 47 (s_icmp (fun x y => decide (y ≤ x)) 95 50)) (cw_node 51 (cw_leaf 50 (s_iload 2 51)) (cw_leaf 51 (s_iconst 15 53)))) (cw_node 56 (cw_leaf 53 (s_icmp (fun x y => decide (y ≤ x)) 95 56)) (cw_node 57 (cw_leaf 56 (s_aload 0 57)) (cw_leaf 57 (s_get 7 3 60))))) (cw_node 63 (cw_node 61 (cw_leaf 60 (s_iload 2 61)) (cw_node 62 (cw_leaf 61 (s_iald 62)) (cw_leaf 62 (s_istore 3 63)))) (cw_node 65 (cw_node 64 (cw_leaf 63 (s_aload 1 64)) (cw_leaf 64 (s_iload 3 65))) (cw_node 68 (cw_leaf 65 (s_callV 6 m_Tree_isJoint 1 68)) (cw_leaf 68 (s_if (fun x => decide (x = 0)) 89 71)))))) (cw_node 81 (cw_node 74 (cw_node 72 (cw_leaf 71 (s_aload 0 72)) (cw_node 73 (cw_leaf 72 (s_aload 1 73)) (cw_leaf 73 (s_iload 3 74)))) (cw_node 77 (cw_leaf 74 (s_callV 6 m_Tree_leftOf 1 77)) (cw_node 80 (cw_leaf 77 (s_callV 7 m_Wires_list 1 80)) (cw_leaf 80 (s_aload 0 81))))) (cw_node 86 (cw_node 82 (cw_leaf 81 (s_aload 1 82)) (cw_node 83 (cw_leaf 82 (s_iload 3 83)) (cw_leaf 83 (s_callV 6 m_Tree_rightOf 1 86)))) (cw_node 92 (cw_node 89 (cw_leaf 86 (s_callV 7 m_Wires_list 1 89)) (cw_leaf 89 (s_iinc 2 1 92))) (cw_node 95 (cw_leaf 92 (s_goto 42)) (cw_leaf 95 (s_vret)))))))
def c_Wires_list : Nat → Option cw_S := cw_node 21 (cw_node 11 (cw_node 4 (cw_node 1 (cw_leaf 0 (s_aload 0 1)) (cw_leaf 1 (s_get 7 4 4))) (cw_node 7 (cw_leaf 4 (s_if (fun x => decide (x < 0)) 36 7)) (cw_node 8 (cw_leaf 7 (s_aload 0 8)) (cw_leaf 8 (s_get 7 4 11))))) (cw_node 16 (cw_node 13 (cw_leaf 11 (s_iconst 15 13)) (cw_leaf 13 (s_icmp (fun x y => decide (y ≤ x)) 36 16))) (cw_node 17 (cw_leaf 16 (s_aload 0 17)) (cw_node 20 (cw_leaf 17 (s_get 7 3 20)) (cw_leaf 20 (s_aload 0 21)))))) (cw_node 28 (cw_node 25 (cw_node 24 (cw_leaf 21 (s_get 7 4 24)) (cw_leaf 24 (s_iload 1 25))) (cw_node 26 (cw_leaf 25 (s_iast 26)) (cw_node 27 (cw_leaf 26 (s_aload 0 27)) (cw_leaf 27 (s_dup 28))))) (cw_node 32 (cw_node 31 (cw_leaf 28 (s_get 7 4 31)) (cw_leaf 31 (s_iconst 1 32))) (cw_node 33 (cw_leaf 32 (s_ibin (fun x y => x + y) 33)) (cw_node 36 (cw_leaf 33 (s_put 7 4 0 36)) (cw_leaf 36 (s_vret))))))
def c_Wires_nearestPair : Nat → Option cw_S := cw_node 69 (cw_node 32 (cw_node 13 (cw_node 7 (cw_node 4 (cw_node 1 (cw_leaf 0 (s_aload 1 1)) (cw_leaf 1 (s_get 6 9 4))) (cw_node 6 (cw_leaf 4 (s_iconst 65536 6)) (cw_leaf 6 (s_ibin (fun x y => x * y) 7)))) (cw_node 9 (cw_node 8 (cw_leaf 7 (s_istore 2 8)) (cw_leaf 8 (s_iconst (-1) 9))) (cw_node 10 (cw_leaf 9 (s_istore 3 10)) (cw_node 11 (cw_leaf 10 (s_iconst 0 11)) (cw_leaf 11 (s_istore 4 13)))))) (cw_node 19 (cw_node 16 (cw_node 14 (cw_leaf 13 (s_iconst 0 14)) (cw_leaf 14 (s_istore 5 16))) (cw_node 18 (cw_leaf 16 (s_iload 5 18)) (cw_leaf 18 (s_aload 0 19)))) (cw_node 25 (cw_node 22 (cw_leaf 19 (s_get 7 5 22)) (cw_leaf 22 (s_icmp (fun x y => decide (y ≤ x)) 141 25))) (cw_node 27 (cw_leaf 25 (s_iload 5 27)) (cw_node 29 (cw_leaf 27 (s_iconst 15 29)) (cw_leaf 29 (s_icmp (fun x y => decide (y ≤ x)) 141 32))))))) (cw_node 49 (cw_node 38 (cw_node 35 (cw_node 34 (cw_leaf 32 (s_iload 5 34)) (cw_leaf 34 (s_iconst 1 35))) (cw_node 36 (cw_leaf 35 (s_ibin (fun x y => x + y) 36)) (cw_leaf 36 (s_istore 6 38)))) (cw_node 41 (cw_node 40 (cw_leaf 38 (s_iload 6 40)) (cw_leaf 40 (s_aload 0 41))) (cw_node 44 (cw_leaf 41 (s_get 7 5 44)) (cw_node 47 (cw_leaf 44 (s_icmp (fun x y => decide (y ≤ x)) 135 47)) (cw_leaf 47 (s_iload 6 49)))))) (cw_node 59 (cw_node 54 (cw_node 51 (cw_leaf 49 (s_iconst 15 51)) (cw_leaf 51 (s_icmp (fun x y => decide (y ≤ x)) 135 54))) (cw_node 55 (cw_leaf 54 (s_aload 0 55)) (cw_node 58 (cw_leaf 55 (s_get 7 2 58)) (cw_leaf 58 (s_aload 0 59))))) (cw_node 63 (cw_node 60 (cw_leaf 59 (s_aload 0 60)) (cw_leaf 60 (s_get 7 3 63))) (cw_node 65 (cw_leaf 63 (s_iload 5 65)) (cw_node 66 (cw_leaf 65 (s_iald 66)) (cw_leaf 66 (s_callV 7 m_Wires_part 1 69)))))))) (cw_node 107 (cw_node 85 (cw_node 76 (cw_node 71 (cw_node 70 (cw_leaf 69 (s_aload 0 70)) (cw_leaf 70 (s_aload 0 71))) (cw_node 74 (cw_leaf 71 (s_get 7 3 74)) (cw_leaf 74 (s_iload 6 76)))) (cw_node 80 (cw_node 77 (cw_leaf 76 (s_iald 77)) (cw_leaf 77 (s_callV 7 m_Wires_part 1 80))) (cw_node 81 (cw_leaf 80 (s_iload 2 81)) (cw_node 84 (cw_leaf 81 (s_callV 1 m_Merge_weigh 3 84)) (cw_leaf 84 (s_iload 3 85)))))) (cw_node 96 (cw_node 89 (cw_node 86 (cw_leaf 85 (s_iconst (-1) 86)) (cw_leaf 86 (s_icmp (fun x y => decide (x = y)) 101 89))) (cw_node 90 (cw_leaf 89 (s_aload 0 90)) (cw_node 93 (cw_leaf 90 (s_get 7 2 93)) (cw_leaf 93 (s_get 1 1 96))))) (cw_node 101 (cw_node 98 (cw_leaf 96 (s_iload 4 98)) (cw_leaf 98 (s_icmp (fun x y => decide (y ≤ x)) 129 101))) (cw_node 103 (cw_leaf 101 (s_iconst 16 103)) (cw_node 104 (cw_leaf 103 (s_aload 0 104)) (cw_leaf 104 (s_get 7 3 107))))))) (cw_node 120 (cw_node 112 (cw_node 110 (cw_node 109 (cw_leaf 107 (s_iload 5 109)) (cw_leaf 109 (s_iald 110))) (cw_node 111 (cw_leaf 110 (s_ibin (fun x y => x * y) 111)) (cw_leaf 111 (s_aload 0 112)))) (cw_node 117 (cw_node 115 (cw_leaf 112 (s_get 7 3 115)) (cw_leaf 115 (s_iload 6 117))) (cw_node 118 (cw_leaf 117 (s_iald 118)) (cw_node 119 (cw_leaf 118 (s_ibin (fun x y => x + y) 119)) (cw_leaf 119 (s_istore 3 120)))))) (cw_node 132 (cw_node 124 (cw_node 121 (cw_leaf 120 (s_aload 0 121)) (cw_leaf 121 (s_get 7 2 124))) (cw_node 127 (cw_leaf 124 (s_get 1 1 127)) (cw_node 129 (cw_leaf 127 (s_istore 4 129)) (cw_leaf 129 (s_iinc 6 1 132))))) (cw_node 138 (cw_node 135 (cw_leaf 132 (s_goto 38)) (cw_leaf 135 (s_iinc 5 1 138))) (cw_node 141 (cw_leaf 138 (s_goto 16)) (cw_node 142 (cw_leaf 141 (s_iload 3 142)) (cw_leaf 142 (s_iret))))))))
def c_CW_init : Nat → Option cw_S := cw_node 37 (cw_node 16 (cw_node 8 (cw_node 4 (cw_node 1 (cw_leaf 0 (s_aload 0 1)) (cw_leaf 1 (s_obj 4))) (cw_node 5 (cw_leaf 4 (s_aload 0 5)) (cw_leaf 5 (s_new 6 [.null, .null, .null, .null, .null, .null, .null, .null, .int 0, .int 0, .int 0, .int 0] 8)))) (cw_node 12 (cw_node 9 (cw_leaf 8 (s_dup 9)) (cw_leaf 9 (s_callI m_Tree_init 0 12))) (cw_node 15 (cw_leaf 12 (s_put 8 0 2 15)) (cw_leaf 15 (s_aload 0 16))))) (cw_node 26 (cw_node 20 (cw_node 19 (cw_leaf 16 (s_new 7 [.null, .null, .null, .null, .int 0, .int 0, .int 0] 19)) (cw_leaf 19 (s_dup 20))) (cw_node 23 (cw_leaf 20 (s_callI m_Wires_init 0 23)) (cw_leaf 23 (s_put 8 1 2 26)))) (cw_node 30 (cw_node 27 (cw_leaf 26 (s_aload 0 27)) (cw_leaf 27 (s_new 3 [.null, .null, .null, .null, .null, .int 0, .int 0, .int 0, .int 0, .int 0] 30))) (cw_node 31 (cw_leaf 30 (s_dup 31)) (cw_node 34 (cw_leaf 31 (s_callI m_Places_init 0 34)) (cw_leaf 34 (s_put 8 2 2 37))))))) (cw_node 56 (cw_node 45 (cw_node 41 (cw_node 38 (cw_leaf 37 (s_aload 0 38)) (cw_leaf 38 (s_new 4 [.null, .null, .int 0, .int 0, .int 0] 41))) (cw_node 42 (cw_leaf 41 (s_dup 42)) (cw_leaf 42 (s_callI m_Search_init 0 45)))) (cw_node 49 (cw_node 48 (cw_leaf 45 (s_put 8 3 2 48)) (cw_leaf 48 (s_aload 0 49))) (cw_node 52 (cw_leaf 49 (s_new 0 [.null, .int 0, .int 0] 52)) (cw_node 53 (cw_leaf 52 (s_dup 53)) (cw_leaf 53 (s_callI m_History_init 0 56)))))) (cw_node 64 (cw_node 60 (cw_node 59 (cw_leaf 56 (s_put 8 4 2 59)) (cw_leaf 59 (s_aload 0 60))) (cw_node 63 (cw_leaf 60 (s_new 5 [.null, .null, .null, .null, .null, .int 0, .int 0, .int 0, .int 0] 63)) (cw_leaf 63 (s_dup 64)))) (cw_node 70 (cw_node 67 (cw_leaf 64 (s_callI m_Text_init 0 67)) (cw_leaf 67 (s_put 8 5 2 70))) (cw_node 71 (cw_leaf 70 (s_aload 0 71)) (cw_node 74 (cw_leaf 71 (s_callV 8 m_CW_refresh 0 74)) (cw_leaf 74 (s_vret)))))))
def c_CW_sink : Nat → Option cw_S := cw_node 39 (cw_node 19 (cw_node 9 (cw_node 2 (cw_node 1 (cw_leaf 0 (s_iload 1 1)) (cw_leaf 1 (s_iload 2 2))) (cw_node 5 (cw_leaf 2 (s_callS m_CW_isOnGrid 2 5)) (cw_node 8 (cw_leaf 5 (s_if (fun x => decide (¬ x = 0)) 15 8)) (cw_leaf 8 (s_aload 0 9))))) (cw_node 14 (cw_node 11 (cw_leaf 9 (s_iconst (-2) 11)) (cw_leaf 11 (s_callV 8 m_CW_refuse 1 14))) (cw_node 15 (cw_leaf 14 (s_iret)) (cw_node 16 (cw_leaf 15 (s_aload 0 16)) (cw_leaf 16 (s_get 8 0 19)))))) (cw_node 28 (cw_node 21 (cw_node 20 (cw_leaf 19 (s_iload 1 20)) (cw_leaf 20 (s_iload 2 21))) (cw_node 24 (cw_leaf 21 (s_callV 6 m_Tree_sinkAt 2 24)) (cw_node 25 (cw_leaf 24 (s_iconst (-1) 25)) (cw_leaf 25 (s_icmp (fun x y => decide (x = y)) 35 28))))) (cw_node 34 (cw_node 29 (cw_leaf 28 (s_aload 0 29)) (cw_node 31 (cw_leaf 29 (s_iconst (-3) 31)) (cw_leaf 31 (s_callV 8 m_CW_refuse 1 34)))) (cw_node 35 (cw_leaf 34 (s_iret)) (cw_node 36 (cw_leaf 35 (s_aload 0 36)) (cw_leaf 36 (s_get 8 0 39))))))) (cw_node 62 (cw_node 50 (cw_node 44 (cw_node 42 (cw_leaf 39 (s_get 6 8 42)) (cw_leaf 42 (s_iconst 8 44))) (cw_node 47 (cw_leaf 44 (s_icmp (fun x y => decide (x < y)) 54 47)) (cw_node 48 (cw_leaf 47 (s_aload 0 48)) (cw_leaf 48 (s_iconst (-4) 50))))) (cw_node 55 (cw_node 53 (cw_leaf 50 (s_callV 8 m_CW_refuse 1 53)) (cw_node 54 (cw_leaf 53 (s_iret)) (cw_leaf 54 (s_aload 0 55)))) (cw_node 58 (cw_leaf 55 (s_get 8 4 58)) (cw_node 59 (cw_leaf 58 (s_aload 0 59)) (cw_leaf 59 (s_get 8 0 62)))))) (cw_node 71 (cw_node 66 (cw_node 65 (cw_leaf 62 (s_callV 0 m_History_save 1 65)) (cw_leaf 65 (s_aload 0 66))) (cw_node 69 (cw_leaf 66 (s_get 8 0 69)) (cw_node 70 (cw_leaf 69 (s_iload 1 70)) (cw_leaf 70 (s_iload 2 71))))) (cw_node 76 (cw_node 74 (cw_leaf 71 (s_callV 6 m_Tree_addSink 2 74)) (cw_node 75 (cw_leaf 74 (s_istore 3 75)) (cw_leaf 75 (s_aload 0 76)))) (cw_node 79 (cw_leaf 76 (s_callV 8 m_CW_refresh 0 79)) (cw_node 80 (cw_leaf 79 (s_iload 3 80)) (cw_leaf 80 (s_iret)))))))
def c_CW_moves : Nat → Option cw_S := cw_node 56 (cw_node 27 (cw_node 13 (cw_node 5 (cw_node 1 (cw_leaf 0 (s_aload 0 1)) (cw_node 4 (cw_leaf 1 (s_get 8 0 4)) (cw_leaf 4 (s_iload 1 5)))) (cw_node 11 (cw_node 8 (cw_leaf 5 (s_callV 6 m_Tree_hasSink 1 8)) (cw_leaf 8 (s_if (fun x => decide (x = 0)) 19 11))) (cw_node 12 (cw_leaf 11 (s_iload 2 12)) (cw_leaf 12 (s_iload 3 13))))) (cw_node 20 (cw_node 16 (cw_leaf 13 (s_callS m_CW_isOnGrid 2 16)) (cw_node 19 (cw_leaf 16 (s_if (fun x => decide (¬ x = 0)) 26 19)) (cw_leaf 19 (s_aload 0 20)))) (cw_node 25 (cw_node 22 (cw_leaf 20 (s_iconst (-2) 22)) (cw_leaf 22 (s_callV 8 m_CW_refuse 1 25))) (cw_node 26 (cw_leaf 25 (s_iret)) (cw_leaf 26 (s_aload 0 27)))))) (cw_node 40 (cw_node 32 (cw_node 30 (cw_leaf 27 (s_get 8 0 30)) (cw_node 31 (cw_leaf 30 (s_iload 2 31)) (cw_leaf 31 (s_iload 3 32)))) (cw_node 37 (cw_node 35 (cw_leaf 32 (s_callV 6 m_Tree_sinkAt 2 35)) (cw_leaf 35 (s_istore 4 37))) (cw_node 39 (cw_leaf 37 (s_iload 4 39)) (cw_leaf 39 (s_iconst (-1) 40))))) (cw_node 49 (cw_node 45 (cw_node 43 (cw_leaf 40 (s_icmp (fun x y => decide (x = y)) 56 43)) (cw_leaf 43 (s_iload 4 45))) (cw_node 46 (cw_leaf 45 (s_iload 1 46)) (cw_leaf 46 (s_icmp (fun x y => decide (x = y)) 56 49)))) (cw_node 52 (cw_node 50 (cw_leaf 49 (s_aload 0 50)) (cw_leaf 50 (s_iconst (-3) 52))) (cw_node 55 (cw_leaf 52 (s_callV 8 m_CW_refuse 1 55)) (cw_leaf 55 (s_iret))))))) (cw_node 81 (cw_node 69 (cw_node 63 (cw_node 57 (cw_leaf 56 (s_aload 0 57)) (cw_node 60 (cw_leaf 57 (s_get 8 0 60)) (cw_leaf 60 (s_get 6 0 63)))) (cw_node 65 (cw_node 64 (cw_leaf 63 (s_iload 1 64)) (cw_leaf 64 (s_iald 65))) (cw_node 66 (cw_leaf 65 (s_aload 0 66)) (cw_leaf 66 (s_get 8 0 69))))) (cw_node 74 (cw_node 72 (cw_leaf 69 (s_get 6 1 72)) (cw_node 73 (cw_leaf 72 (s_iload 1 73)) (cw_leaf 73 (s_iald 74)))) (cw_node 76 (cw_node 75 (cw_leaf 74 (s_iload 2 75)) (cw_leaf 75 (s_iload 3 76))) (cw_node 79 (cw_leaf 76 (s_callS m_CW_gridDistance 4 79)) (cw_leaf 79 (s_istore 5 81)))))) (cw_node 96 (cw_node 86 (cw_node 82 (cw_leaf 81 (s_aload 0 82)) (cw_node 85 (cw_leaf 82 (s_get 8 4 85)) (cw_leaf 85 (s_aload 0 86)))) (cw_node 92 (cw_node 89 (cw_leaf 86 (s_get 8 0 89)) (cw_leaf 89 (s_callV 0 m_History_save 1 92))) (cw_node 93 (cw_leaf 92 (s_aload 0 93)) (cw_leaf 93 (s_get 8 0 96))))) (cw_node 102 (cw_node 98 (cw_node 97 (cw_leaf 96 (s_iload 1 97)) (cw_leaf 97 (s_iload 2 98))) (cw_node 99 (cw_leaf 98 (s_iload 3 99)) (cw_leaf 99 (s_callV 6 m_Tree_moveSink 3 102)))) (cw_node 106 (cw_node 103 (cw_leaf 102 (s_aload 0 103)) (cw_leaf 103 (s_callV 8 m_CW_refresh 0 106))) (cw_node 108 (cw_leaf 106 (s_iload 5 108)) (cw_leaf 108 (s_iret)))))))
def c_CW_sets : Nat → Option cw_S := cw_node 52 (cw_node 26 (cw_node 12 (cw_node 5 (cw_node 1 (cw_leaf 0 (s_aload 0 1)) (cw_node 4 (cw_leaf 1 (s_get 8 0 4)) (cw_leaf 4 (s_iload 1 5)))) (cw_node 8 (cw_leaf 5 (s_callV 6 m_Tree_hasSink 1 8)) (cw_node 11 (cw_leaf 8 (s_if (fun x => decide (x = 0)) 19 11)) (cw_leaf 11 (s_iload 2 12))))) (cw_node 19 (cw_node 13 (cw_leaf 12 (s_iload 3 13)) (cw_node 16 (cw_leaf 13 (s_callS m_CW_isSetting 2 16)) (cw_leaf 16 (s_if (fun x => decide (¬ x = 0)) 26 19)))) (cw_node 22 (cw_node 20 (cw_leaf 19 (s_aload 0 20)) (cw_leaf 20 (s_iconst (-2) 22))) (cw_node 25 (cw_leaf 22 (s_callV 8 m_CW_refuse 1 25)) (cw_leaf 25 (s_iret)))))) (cw_node 38 (cw_node 31 (cw_node 27 (cw_leaf 26 (s_aload 0 27)) (cw_node 30 (cw_leaf 27 (s_get 8 4 30)) (cw_leaf 30 (s_aload 0 31)))) (cw_node 34 (cw_leaf 31 (s_get 8 0 34)) (cw_node 37 (cw_leaf 34 (s_callV 0 m_History_save 1 37)) (cw_leaf 37 (s_iload 2 38))))) (cw_node 45 (cw_node 41 (cw_leaf 38 (s_if (fun x => decide (¬ x = 0)) 65 41)) (cw_node 42 (cw_leaf 41 (s_aload 0 42)) (cw_leaf 42 (s_get 8 0 45)))) (cw_node 49 (cw_node 48 (cw_leaf 45 (s_get 6 2 48)) (cw_leaf 48 (s_iload 1 49))) (cw_node 50 (cw_leaf 49 (s_iald 50)) (cw_leaf 50 (s_istore 4 52))))))) (cw_node 76 (cw_node 62 (cw_node 59 (cw_node 53 (cw_leaf 52 (s_aload 0 53)) (cw_node 56 (cw_leaf 53 (s_get 8 0 56)) (cw_leaf 56 (s_get 6 2 59)))) (cw_node 60 (cw_leaf 59 (s_iload 1 60)) (cw_node 61 (cw_leaf 60 (s_iload 3 61)) (cw_leaf 61 (s_iast 62))))) (cw_node 69 (cw_node 65 (cw_leaf 62 (s_goto 86)) (cw_node 66 (cw_leaf 65 (s_aload 0 66)) (cw_leaf 66 (s_get 8 0 69)))) (cw_node 73 (cw_node 72 (cw_leaf 69 (s_get 6 3 72)) (cw_leaf 72 (s_iload 1 73))) (cw_node 74 (cw_leaf 73 (s_iald 74)) (cw_leaf 74 (s_istore 4 76)))))) (cw_node 87 (cw_node 83 (cw_node 77 (cw_leaf 76 (s_aload 0 77)) (cw_node 80 (cw_leaf 77 (s_get 8 0 80)) (cw_leaf 80 (s_get 6 3 83)))) (cw_node 85 (cw_node 84 (cw_leaf 83 (s_iload 1 84)) (cw_leaf 84 (s_iload 3 85))) (cw_node 86 (cw_leaf 85 (s_iast 86)) (cw_leaf 86 (s_aload 0 87))))) (cw_node 94 (cw_node 90 (cw_leaf 87 (s_get 8 0 90)) (cw_node 91 (cw_leaf 90 (s_iload 1 91)) (cw_leaf 91 (s_callV 6 m_Tree_touch 1 94)))) (cw_node 98 (cw_node 95 (cw_leaf 94 (s_aload 0 95)) (cw_leaf 95 (s_callV 8 m_CW_refresh 0 98))) (cw_node 100 (cw_leaf 98 (s_iload 4 100)) (cw_leaf 100 (s_iret)))))))
def c_CW_skew : Nat → Option cw_S := cw_node 25 (cw_node 11 (cw_node 5 (cw_node 1 (cw_leaf 0 (s_iload 1 1)) (cw_node 4 (cw_leaf 1 (s_if (fun x => decide (x < 0)) 10 4)) (cw_leaf 4 (s_iload 1 5)))) (cw_node 7 (cw_leaf 5 (s_iconst 99 7)) (cw_node 10 (cw_leaf 7 (s_icmp (fun x y => decide (x ≤ y)) 17 10)) (cw_leaf 10 (s_aload 0 11))))) (cw_node 17 (cw_node 13 (cw_leaf 11 (s_iconst (-2) 13)) (cw_node 16 (cw_leaf 13 (s_callV 8 m_CW_refuse 1 16)) (cw_leaf 16 (s_iret)))) (cw_node 21 (cw_node 18 (cw_leaf 17 (s_aload 0 18)) (cw_leaf 18 (s_get 8 4 21))) (cw_node 22 (cw_leaf 21 (s_aload 0 22)) (cw_leaf 22 (s_get 8 0 25)))))) (cw_node 37 (cw_node 32 (cw_node 28 (cw_leaf 25 (s_callV 0 m_History_save 1 28)) (cw_node 29 (cw_leaf 28 (s_aload 0 29)) (cw_leaf 29 (s_get 8 0 32)))) (cw_node 35 (cw_leaf 32 (s_get 6 9 35)) (cw_node 36 (cw_leaf 35 (s_istore 2 36)) (cw_leaf 36 (s_aload 0 37))))) (cw_node 44 (cw_node 40 (cw_leaf 37 (s_get 8 0 40)) (cw_node 41 (cw_leaf 40 (s_iload 1 41)) (cw_leaf 41 (s_put 6 9 0 44)))) (cw_node 48 (cw_node 45 (cw_leaf 44 (s_aload 0 45)) (cw_leaf 45 (s_callV 8 m_CW_refresh 0 48))) (cw_node 49 (cw_leaf 48 (s_iload 2 49)) (cw_leaf 49 (s_iret))))))
def c_CW_source : Nat → Option cw_S := cw_node 34 (cw_node 15 (cw_node 8 (cw_node 2 (cw_node 1 (cw_leaf 0 (s_iload 1 1)) (cw_leaf 1 (s_iload 2 2))) (cw_node 5 (cw_leaf 2 (s_callS m_CW_isOnGrid 2 5)) (cw_leaf 5 (s_if (fun x => decide (¬ x = 0)) 15 8)))) (cw_node 11 (cw_node 9 (cw_leaf 8 (s_aload 0 9)) (cw_leaf 9 (s_iconst (-2) 11))) (cw_node 14 (cw_leaf 11 (s_callV 8 m_CW_refuse 1 14)) (cw_leaf 14 (s_iret))))) (cw_node 23 (cw_node 19 (cw_node 16 (cw_leaf 15 (s_aload 0 16)) (cw_leaf 16 (s_get 8 0 19))) (cw_node 22 (cw_leaf 19 (s_get 6 10 22)) (cw_leaf 22 (s_aload 0 23)))) (cw_node 29 (cw_node 26 (cw_leaf 23 (s_get 8 0 26)) (cw_leaf 26 (s_get 6 11 29))) (cw_node 30 (cw_leaf 29 (s_iload 1 30)) (cw_node 31 (cw_leaf 30 (s_iload 2 31)) (cw_leaf 31 (s_callS m_CW_gridDistance 4 34))))))) (cw_node 51 (cw_node 40 (cw_node 36 (cw_node 35 (cw_leaf 34 (s_istore 3 35)) (cw_leaf 35 (s_aload 0 36))) (cw_node 39 (cw_leaf 36 (s_get 8 4 39)) (cw_leaf 39 (s_aload 0 40)))) (cw_node 46 (cw_node 43 (cw_leaf 40 (s_get 8 0 43)) (cw_leaf 43 (s_callV 0 m_History_save 1 46))) (cw_node 47 (cw_leaf 46 (s_aload 0 47)) (cw_node 50 (cw_leaf 47 (s_get 8 0 50)) (cw_leaf 50 (s_iload 1 51)))))) (cw_node 59 (cw_node 55 (cw_node 54 (cw_leaf 51 (s_put 6 10 0 54)) (cw_leaf 54 (s_aload 0 55))) (cw_node 58 (cw_leaf 55 (s_get 8 0 58)) (cw_leaf 58 (s_iload 2 59)))) (cw_node 63 (cw_node 62 (cw_leaf 59 (s_put 6 11 0 62)) (cw_leaf 62 (s_aload 0 63))) (cw_node 66 (cw_leaf 63 (s_callV 8 m_CW_refresh 0 66)) (cw_node 67 (cw_leaf 66 (s_iload 3 67)) (cw_leaf 67 (s_iret)))))))
def c_CW_end : Nat → Option cw_S := cw_node 20 (cw_node 11 (cw_node 4 (cw_node 1 (cw_leaf 0 (s_aload 0 1)) (cw_leaf 1 (s_get 8 0 4))) (cw_node 5 (cw_leaf 4 (s_iload 1 5)) (cw_node 8 (cw_leaf 5 (s_callV 6 m_Tree_hasSink 1 8)) (cw_leaf 8 (s_if (fun x => decide (x = 0)) 20 11))))) (cw_node 15 (cw_node 12 (cw_leaf 11 (s_iload 2 12)) (cw_leaf 12 (s_if (fun x => decide (x < 0)) 20 15))) (cw_node 16 (cw_leaf 15 (s_iload 2 16)) (cw_node 17 (cw_leaf 16 (s_iconst 3 17)) (cw_leaf 17 (s_icmp (fun x y => decide (x ≤ y)) 27 20)))))) (cw_node 28 (cw_node 23 (cw_node 21 (cw_leaf 20 (s_aload 0 21)) (cw_leaf 21 (s_iconst (-2) 23))) (cw_node 26 (cw_leaf 23 (s_callV 8 m_CW_refuse 1 26)) (cw_node 27 (cw_leaf 26 (s_iret)) (cw_leaf 27 (s_aload 0 28))))) (cw_node 32 (cw_node 31 (cw_leaf 28 (s_get 8 0 31)) (cw_leaf 31 (s_iload 1 32))) (cw_node 33 (cw_leaf 32 (s_iload 2 33)) (cw_node 36 (cw_leaf 33 (s_callV 6 m_Tree_sinkValue 2 36)) (cw_leaf 36 (s_iret))))))
def c_CW_touched : Nat → Option cw_S := cw_node 10 (cw_node 4 (cw_node 1 (cw_leaf 0 (s_iload 1 1)) (cw_leaf 1 (s_if (fun x => decide (0 ≤ x)) 11 4))) (cw_node 5 (cw_leaf 4 (s_aload 0 5)) (cw_node 7 (cw_leaf 5 (s_iconst (-2) 7)) (cw_leaf 7 (s_callV 8 m_CW_refuse 1 10))))) (cw_node 15 (cw_node 11 (cw_leaf 10 (s_iret)) (cw_node 12 (cw_leaf 11 (s_aload 0 12)) (cw_leaf 12 (s_get 8 0 15)))) (cw_node 16 (cw_leaf 15 (s_iload 1 16)) (cw_node 19 (cw_leaf 16 (s_callV 6 m_Tree_touchedBefore 1 19)) (cw_leaf 19 (s_iret)))))
def c_CW_at : Nat → Option cw_S := cw_node 14 (cw_node 5 (cw_node 1 (cw_leaf 0 (s_iload 1 1)) (cw_node 2 (cw_leaf 1 (s_iload 2 2)) (cw_leaf 2 (s_callS m_CW_isOnGrid 2 5)))) (cw_node 9 (cw_node 8 (cw_leaf 5 (s_if (fun x => decide (¬ x = 0)) 15 8)) (cw_leaf 8 (s_aload 0 9))) (cw_node 11 (cw_leaf 9 (s_iconst (-2) 11)) (cw_leaf 11 (s_callV 8 m_CW_refuse 1 14))))) (cw_node 19 (cw_node 15 (cw_leaf 14 (s_iret)) (cw_node 16 (cw_leaf 15 (s_aload 0 16)) (cw_leaf 16 (s_get 8 0 19)))) (cw_node 21 (cw_node 20 (cw_leaf 19 (s_iload 1 20)) (cw_leaf 20 (s_iload 2 21))) (cw_node 24 (cw_leaf 21 (s_callV 6 m_Tree_sinkAt 2 24)) (cw_leaf 24 (s_iret)))))
def c_CW_joins : Nat → Option cw_S := cw_node 46 (cw_node 23 (cw_node 11 (cw_node 4 (cw_node 1 (cw_leaf 0 (s_aload 0 1)) (cw_leaf 1 (s_get 8 0 4))) (cw_node 5 (cw_leaf 4 (s_iload 1 5)) (cw_node 8 (cw_leaf 5 (s_callV 6 m_Tree_hasNode 1 8)) (cw_leaf 8 (s_if (fun x => decide (x = 0)) 27 11))))) (cw_node 16 (cw_node 12 (cw_leaf 11 (s_aload 0 12)) (cw_node 15 (cw_leaf 12 (s_get 8 0 15)) (cw_leaf 15 (s_iload 2 16)))) (cw_node 19 (cw_leaf 16 (s_callV 6 m_Tree_hasNode 1 19)) (cw_node 22 (cw_leaf 19 (s_if (fun x => decide (x = 0)) 27 22)) (cw_leaf 22 (s_iload 1 23)))))) (cw_node 34 (cw_node 28 (cw_node 24 (cw_leaf 23 (s_iload 2 24)) (cw_node 27 (cw_leaf 24 (s_icmp (fun x y => decide (¬ x = y)) 34 27)) (cw_leaf 27 (s_aload 0 28)))) (cw_node 30 (cw_leaf 28 (s_iconst (-2) 30)) (cw_node 33 (cw_leaf 30 (s_callV 8 m_CW_refuse 1 33)) (cw_leaf 33 (s_iret))))) (cw_node 39 (cw_node 35 (cw_leaf 34 (s_aload 0 35)) (cw_node 38 (cw_leaf 35 (s_get 8 0 38)) (cw_leaf 38 (s_iload 1 39)))) (cw_node 42 (cw_leaf 39 (s_callV 6 m_Tree_isTop 1 42)) (cw_node 45 (cw_leaf 42 (s_if (fun x => decide (x = 0)) 56 45)) (cw_leaf 45 (s_aload 0 46))))))) (cw_node 68 (cw_node 57 (cw_node 50 (cw_node 49 (cw_leaf 46 (s_get 8 0 49)) (cw_leaf 49 (s_iload 2 50))) (cw_node 53 (cw_leaf 50 (s_callV 6 m_Tree_isTop 1 53)) (cw_node 56 (cw_leaf 53 (s_if (fun x => decide (¬ x = 0)) 63 56)) (cw_leaf 56 (s_aload 0 57))))) (cw_node 63 (cw_node 59 (cw_leaf 57 (s_iconst (-3) 59)) (cw_node 62 (cw_leaf 59 (s_callV 8 m_CW_refuse 1 62)) (cw_leaf 62 (s_iret)))) (cw_node 64 (cw_leaf 63 (s_aload 0 64)) (cw_node 67 (cw_leaf 64 (s_get 8 4 67)) (cw_leaf 67 (s_aload 0 68)))))) (cw_node 80 (cw_node 75 (cw_node 71 (cw_leaf 68 (s_get 8 0 71)) (cw_node 74 (cw_leaf 71 (s_callV 0 m_History_save 1 74)) (cw_leaf 74 (s_aload 0 75)))) (cw_node 78 (cw_leaf 75 (s_get 8 0 78)) (cw_node 79 (cw_leaf 78 (s_iload 1 79)) (cw_leaf 79 (s_iload 2 80))))) (cw_node 85 (cw_node 83 (cw_leaf 80 (s_callV 6 m_Tree_addJoint 2 83)) (cw_node 84 (cw_leaf 83 (s_istore 3 84)) (cw_leaf 84 (s_aload 0 85)))) (cw_node 88 (cw_leaf 85 (s_callV 8 m_CW_refresh 0 88)) (cw_node 89 (cw_leaf 88 (s_iload 3 89)) (cw_leaf 89 (s_iret)))))))
def c_CW_pairs : Nat → Option cw_S := cw_node 50 (cw_node 28 (cw_node 13 (cw_node 7 (cw_node 1 (cw_leaf 0 (s_aload 0 1)) (cw_node 4 (cw_leaf 1 (s_get 8 0 4)) (cw_leaf 4 (s_get 6 8 7)))) (cw_node 10 (cw_leaf 7 (s_if (fun x => decide (¬ x = 0)) 17 10)) (cw_node 11 (cw_leaf 10 (s_aload 0 11)) (cw_leaf 11 (s_iconst (-3) 13))))) (cw_node 18 (cw_node 16 (cw_leaf 13 (s_callV 8 m_CW_refuse 1 16)) (cw_node 17 (cw_leaf 16 (s_iret)) (cw_leaf 17 (s_aload 0 18)))) (cw_node 22 (cw_node 21 (cw_leaf 18 (s_get 8 4 21)) (cw_leaf 21 (s_aload 0 22))) (cw_node 25 (cw_leaf 22 (s_get 8 0 25)) (cw_leaf 25 (s_callV 0 m_History_save 1 28)))))) (cw_node 35 (cw_node 31 (cw_node 29 (cw_leaf 28 (s_iconst 0 29)) (cw_node 30 (cw_leaf 29 (s_istore 1 30)) (cw_leaf 30 (s_iconst 0 31)))) (cw_node 32 (cw_leaf 31 (s_istore 2 32)) (cw_node 33 (cw_leaf 32 (s_iload 2 33)) (cw_leaf 33 (s_iconst 8 35))))) (cw_node 42 (cw_node 38 (cw_leaf 35 (s_icmp (fun x y => decide (y ≤ x)) 94 38)) (cw_node 39 (cw_leaf 38 (s_aload 0 39)) (cw_leaf 39 (s_get 8 1 42)))) (cw_node 46 (cw_node 43 (cw_leaf 42 (s_aload 0 43)) (cw_leaf 43 (s_get 8 0 46))) (cw_node 49 (cw_leaf 46 (s_callV 7 m_Wires_nearestPair 1 49)) (cw_leaf 49 (s_istore 3 50))))))) (cw_node 73 (cw_node 62 (cw_node 55 (cw_node 51 (cw_leaf 50 (s_iload 3 51)) (cw_node 52 (cw_leaf 51 (s_iconst (-1) 52)) (cw_leaf 52 (s_icmp (fun x y => decide (¬ x = y)) 58 55)))) (cw_node 58 (cw_leaf 55 (s_goto 94)) (cw_node 59 (cw_leaf 58 (s_aload 0 59)) (cw_leaf 59 (s_get 8 0 62))))) (cw_node 66 (cw_node 63 (cw_leaf 62 (s_iload 3 63)) (cw_node 65 (cw_leaf 63 (s_iconst 16 65)) (cw_leaf 65 (s_idiv (fun x y => x / y) 66)))) (cw_node 69 (cw_node 67 (cw_leaf 66 (s_iload 3 67)) (cw_leaf 67 (s_iconst 16 69))) (cw_node 70 (cw_leaf 69 (s_idiv (fun x y => x - x / y * y) 70)) (cw_leaf 70 (s_callV 6 m_Tree_addJoint 2 73)))))) (cw_node 85 (cw_node 78 (cw_node 74 (cw_leaf 73 (s_pop 74)) (cw_node 75 (cw_leaf 74 (s_aload 0 75)) (cw_leaf 75 (s_get 8 1 78)))) (cw_node 79 (cw_leaf 78 (s_aload 0 79)) (cw_node 82 (cw_leaf 79 (s_get 8 0 82)) (cw_leaf 82 (s_callV 7 m_Wires_measure 1 85))))) (cw_node 94 (cw_node 88 (cw_leaf 85 (s_iinc 1 1 88)) (cw_node 91 (cw_leaf 88 (s_iinc 2 1 91)) (cw_leaf 91 (s_goto 32)))) (cw_node 98 (cw_node 95 (cw_leaf 94 (s_aload 0 95)) (cw_leaf 95 (s_callV 8 m_CW_refresh 0 98))) (cw_node 99 (cw_leaf 98 (s_iload 1 99)) (cw_leaf 99 (s_iret)))))))
def c_CW_frees : Nat → Option cw_S := cw_node 18 (cw_node 8 (cw_node 4 (cw_node 1 (cw_leaf 0 (s_aload 0 1)) (cw_leaf 1 (s_get 8 4 4))) (cw_node 5 (cw_leaf 4 (s_aload 0 5)) (cw_leaf 5 (s_get 8 0 8)))) (cw_node 12 (cw_node 11 (cw_leaf 8 (s_callV 0 m_History_save 1 11)) (cw_leaf 11 (s_aload 0 12))) (cw_node 15 (cw_leaf 12 (s_get 8 0 15)) (cw_leaf 15 (s_callV 6 m_Tree_jointCount 0 18))))) (cw_node 26 (cw_node 20 (cw_node 19 (cw_leaf 18 (s_istore 1 19)) (cw_leaf 19 (s_aload 0 20))) (cw_node 23 (cw_leaf 20 (s_get 8 0 23)) (cw_leaf 23 (s_callV 6 m_Tree_removeJoints 0 26)))) (cw_node 30 (cw_node 27 (cw_leaf 26 (s_aload 0 27)) (cw_leaf 27 (s_callV 8 m_CW_refresh 0 30))) (cw_node 31 (cw_leaf 30 (s_iload 1 31)) (cw_leaf 31 (s_iret)))))
def c_CW_cuts : Nat → Option cw_S := cw_node 32 (cw_node 17 (cw_node 8 (cw_node 4 (cw_node 1 (cw_leaf 0 (s_aload 0 1)) (cw_leaf 1 (s_get 8 0 4))) (cw_node 5 (cw_leaf 4 (s_iload 1 5)) (cw_leaf 5 (s_callV 6 m_Tree_hasNode 1 8)))) (cw_node 12 (cw_node 11 (cw_leaf 8 (s_if (fun x => decide (¬ x = 0)) 18 11)) (cw_leaf 11 (s_aload 0 12))) (cw_node 14 (cw_leaf 12 (s_iconst (-2) 14)) (cw_leaf 14 (s_callV 8 m_CW_refuse 1 17))))) (cw_node 23 (cw_node 19 (cw_node 18 (cw_leaf 17 (s_iret)) (cw_leaf 18 (s_aload 0 19))) (cw_node 22 (cw_leaf 19 (s_get 8 0 22)) (cw_leaf 22 (s_iload 1 23)))) (cw_node 29 (cw_node 26 (cw_leaf 23 (s_callV 6 m_Tree_isTop 1 26)) (cw_leaf 26 (s_if (fun x => decide (x = 0)) 36 29))) (cw_node 30 (cw_leaf 29 (s_aload 0 30)) (cw_leaf 30 (s_iconst (-3) 32)))))) (cw_node 48 (cw_node 40 (cw_node 36 (cw_node 35 (cw_leaf 32 (s_callV 8 m_CW_refuse 1 35)) (cw_leaf 35 (s_iret))) (cw_node 37 (cw_leaf 36 (s_aload 0 37)) (cw_leaf 37 (s_get 8 4 40)))) (cw_node 44 (cw_node 41 (cw_leaf 40 (s_aload 0 41)) (cw_leaf 41 (s_get 8 0 44))) (cw_node 47 (cw_leaf 44 (s_callV 0 m_History_save 1 47)) (cw_leaf 47 (s_aload 0 48))))) (cw_node 56 (cw_node 52 (cw_node 51 (cw_leaf 48 (s_get 8 0 51)) (cw_leaf 51 (s_iload 1 52))) (cw_node 55 (cw_leaf 52 (s_callV 6 m_Tree_cut 1 55)) (cw_leaf 55 (s_istore 2 56)))) (cw_node 60 (cw_node 57 (cw_leaf 56 (s_aload 0 57)) (cw_leaf 57 (s_callV 8 m_CW_refresh 0 60))) (cw_node 61 (cw_leaf 60 (s_iload 2 61)) (cw_leaf 61 (s_iret))))))
def c_CW_grafts : Nat → Option cw_S := cw_node 54 (cw_node 27 (cw_node 12 (cw_node 5 (cw_node 1 (cw_leaf 0 (s_aload 0 1)) (cw_node 4 (cw_leaf 1 (s_get 8 0 4)) (cw_leaf 4 (s_iload 1 5)))) (cw_node 8 (cw_leaf 5 (s_callV 6 m_Tree_hasNode 1 8)) (cw_node 11 (cw_leaf 8 (s_if (fun x => decide (x = 0)) 27 11)) (cw_leaf 11 (s_iload 2 12))))) (cw_node 17 (cw_node 13 (cw_leaf 12 (s_iconst (-1) 13)) (cw_node 16 (cw_leaf 13 (s_icmp (fun x y => decide (x = y)) 34 16)) (cw_leaf 16 (s_aload 0 17)))) (cw_node 21 (cw_node 20 (cw_leaf 17 (s_get 8 0 20)) (cw_leaf 20 (s_iload 2 21))) (cw_node 24 (cw_leaf 21 (s_callV 6 m_Tree_hasNode 1 24)) (cw_leaf 24 (s_if (fun x => decide (¬ x = 0)) 34 27)))))) (cw_node 39 (cw_node 33 (cw_node 28 (cw_leaf 27 (s_aload 0 28)) (cw_node 30 (cw_leaf 28 (s_iconst (-2) 30)) (cw_leaf 30 (s_callV 8 m_CW_refuse 1 33)))) (cw_node 35 (cw_node 34 (cw_leaf 33 (s_iret)) (cw_leaf 34 (s_iload 2 35))) (cw_node 36 (cw_leaf 35 (s_iconst (-1) 36)) (cw_leaf 36 (s_icmp (fun x y => decide (¬ x = y)) 54 39))))) (cw_node 44 (cw_node 40 (cw_leaf 39 (s_aload 0 40)) (cw_node 43 (cw_leaf 40 (s_get 8 3 43)) (cw_leaf 43 (s_aload 0 44)))) (cw_node 48 (cw_node 47 (cw_leaf 44 (s_get 8 0 47)) (cw_leaf 47 (s_iload 1 48))) (cw_node 51 (cw_leaf 48 (s_callV 4 m_Search_bestGraft 2 51)) (cw_leaf 51 (s_goto 55))))))) (cw_node 76 (cw_node 62 (cw_node 57 (cw_node 55 (cw_leaf 54 (s_iload 2 55)) (cw_node 56 (cw_leaf 55 (s_istore 3 56)) (cw_leaf 56 (s_aload 0 57)))) (cw_node 60 (cw_leaf 57 (s_get 8 0 60)) (cw_node 61 (cw_leaf 60 (s_iload 1 61)) (cw_leaf 61 (s_iload 3 62))))) (cw_node 69 (cw_node 65 (cw_leaf 62 (s_callV 6 m_Tree_canGraft 2 65)) (cw_node 68 (cw_leaf 65 (s_if (fun x => decide (¬ x = 0)) 75 68)) (cw_leaf 68 (s_aload 0 69)))) (cw_node 74 (cw_node 71 (cw_leaf 69 (s_iconst (-3) 71)) (cw_leaf 71 (s_callV 8 m_CW_refuse 1 74))) (cw_node 75 (cw_leaf 74 (s_iret)) (cw_leaf 75 (s_aload 0 76)))))) (cw_node 91 (cw_node 83 (cw_node 79 (cw_leaf 76 (s_get 8 4 79)) (cw_node 80 (cw_leaf 79 (s_aload 0 80)) (cw_leaf 80 (s_get 8 0 83)))) (cw_node 87 (cw_node 86 (cw_leaf 83 (s_callV 0 m_History_save 1 86)) (cw_leaf 86 (s_aload 0 87))) (cw_node 90 (cw_leaf 87 (s_get 8 0 90)) (cw_leaf 90 (s_iload 1 91))))) (cw_node 97 (cw_node 92 (cw_leaf 91 (s_iload 3 92)) (cw_node 95 (cw_leaf 92 (s_callV 6 m_Tree_graft 2 95)) (cw_leaf 95 (s_istore 4 97)))) (cw_node 101 (cw_node 98 (cw_leaf 97 (s_aload 0 98)) (cw_leaf 98 (s_callV 8 m_CW_refresh 0 101))) (cw_node 103 (cw_leaf 101 (s_iload 4 103)) (cw_leaf 103 (s_iret)))))))
def c_CW_exchanges : Nat → Option cw_S := cw_node 34 (cw_node 16 (cw_node 8 (cw_node 4 (cw_node 1 (cw_leaf 0 (s_aload 0 1)) (cw_leaf 1 (s_get 8 0 4))) (cw_node 5 (cw_leaf 4 (s_iload 1 5)) (cw_leaf 5 (s_callV 6 m_Tree_hasNode 1 8)))) (cw_node 12 (cw_node 11 (cw_leaf 8 (s_if (fun x => decide (x = 0)) 22 11)) (cw_leaf 11 (s_aload 0 12))) (cw_node 15 (cw_leaf 12 (s_get 8 0 15)) (cw_leaf 15 (s_iload 2 16))))) (cw_node 25 (cw_node 22 (cw_node 19 (cw_leaf 16 (s_callV 6 m_Tree_hasNode 1 19)) (cw_leaf 19 (s_if (fun x => decide (¬ x = 0)) 29 22))) (cw_node 23 (cw_leaf 22 (s_aload 0 23)) (cw_leaf 23 (s_iconst (-2) 25)))) (cw_node 29 (cw_node 28 (cw_leaf 25 (s_callV 8 m_CW_refuse 1 28)) (cw_leaf 28 (s_iret))) (cw_node 30 (cw_leaf 29 (s_aload 0 30)) (cw_node 33 (cw_leaf 30 (s_get 8 0 33)) (cw_leaf 33 (s_iload 1 34))))))) (cw_node 49 (cw_node 42 (cw_node 38 (cw_node 35 (cw_leaf 34 (s_iload 2 35)) (cw_leaf 35 (s_callV 6 m_Tree_canExchange 2 38))) (cw_node 41 (cw_leaf 38 (s_if (fun x => decide (¬ x = 0)) 48 41)) (cw_leaf 41 (s_aload 0 42)))) (cw_node 47 (cw_node 44 (cw_leaf 42 (s_iconst (-3) 44)) (cw_leaf 44 (s_callV 8 m_CW_refuse 1 47))) (cw_node 48 (cw_leaf 47 (s_iret)) (cw_leaf 48 (s_aload 0 49))))) (cw_node 59 (cw_node 53 (cw_node 52 (cw_leaf 49 (s_get 8 4 52)) (cw_leaf 52 (s_aload 0 53))) (cw_node 56 (cw_leaf 53 (s_get 8 0 56)) (cw_leaf 56 (s_callV 0 m_History_save 1 59)))) (cw_node 61 (cw_node 60 (cw_leaf 59 (s_aload 0 60)) (cw_leaf 60 (s_iload 1 61))) (cw_node 62 (cw_leaf 61 (s_iload 2 62)) (cw_node 65 (cw_leaf 62 (s_callV 8 m_CW_exchangeAndCompare 2 65)) (cw_leaf 65 (s_iret)))))))
def c_CW_betters : Nat → Option cw_S := cw_node 30 (cw_node 15 (cw_node 5 (cw_node 1 (cw_leaf 0 (s_aload 0 1)) (cw_node 4 (cw_leaf 1 (s_get 8 4 4)) (cw_leaf 4 (s_aload 0 5)))) (cw_node 11 (cw_node 8 (cw_leaf 5 (s_get 8 0 8)) (cw_leaf 8 (s_callV 0 m_History_save 1 11))) (cw_node 12 (cw_leaf 11 (s_aload 0 12)) (cw_leaf 12 (s_get 8 3 15))))) (cw_node 20 (cw_node 16 (cw_leaf 15 (s_aload 0 16)) (cw_node 19 (cw_leaf 16 (s_get 8 0 19)) (cw_leaf 19 (s_aload 0 20)))) (cw_node 26 (cw_node 23 (cw_leaf 20 (s_get 8 1 23)) (cw_leaf 23 (s_get 7 6 26))) (cw_node 29 (cw_leaf 26 (s_callV 4 m_Search_bestExchange 2 29)) (cw_leaf 29 (s_istore 1 30)))))) (cw_node 39 (cw_node 35 (cw_node 31 (cw_leaf 30 (s_iload 1 31)) (cw_node 32 (cw_leaf 31 (s_iconst (-1) 32)) (cw_leaf 32 (s_icmp (fun x y => decide (¬ x = y)) 37 35)))) (cw_node 37 (cw_node 36 (cw_leaf 35 (s_iconst 0 36)) (cw_leaf 36 (s_iret))) (cw_node 38 (cw_leaf 37 (s_aload 0 38)) (cw_leaf 38 (s_iload 1 39))))) (cw_node 45 (cw_node 42 (cw_node 41 (cw_leaf 39 (s_iconst 16 41)) (cw_leaf 41 (s_idiv (fun x y => x / y) 42))) (cw_node 43 (cw_leaf 42 (s_iload 1 43)) (cw_leaf 43 (s_iconst 16 45)))) (cw_node 49 (cw_node 46 (cw_leaf 45 (s_idiv (fun x y => x - x / y * y) 46)) (cw_leaf 46 (s_callV 8 m_CW_exchangeAndCompare 2 49))) (cw_node 50 (cw_leaf 49 (s_ineg 50)) (cw_leaf 50 (s_iret))))))
def c_CW_node : Nat → Option cw_S := cw_node 18 (cw_node 8 (cw_node 4 (cw_node 1 (cw_leaf 0 (s_aload 0 1)) (cw_leaf 1 (s_get 8 0 4))) (cw_node 5 (cw_leaf 4 (s_iload 1 5)) (cw_leaf 5 (s_callV 6 m_Tree_hasNode 1 8)))) (cw_node 12 (cw_node 11 (cw_leaf 8 (s_if (fun x => decide (x = 0)) 21 11)) (cw_leaf 11 (s_iload 2 12))) (cw_node 15 (cw_leaf 12 (s_if (fun x => decide (x < 0)) 21 15)) (cw_node 16 (cw_leaf 15 (s_iload 2 16)) (cw_leaf 16 (s_iconst 11 18)))))) (cw_node 28 (cw_node 22 (cw_node 21 (cw_leaf 18 (s_icmp (fun x y => decide (x ≤ y)) 28 21)) (cw_leaf 21 (s_aload 0 22))) (cw_node 24 (cw_leaf 22 (s_iconst (-2) 24)) (cw_node 27 (cw_leaf 24 (s_callV 8 m_CW_refuse 1 27)) (cw_leaf 27 (s_iret))))) (cw_node 30 (cw_node 29 (cw_leaf 28 (s_aload 0 29)) (cw_leaf 29 (s_iload 1 30))) (cw_node 31 (cw_leaf 30 (s_iload 2 31)) (cw_node 34 (cw_leaf 31 (s_callV 8 m_CW_nodeValue 2 34)) (cw_leaf 34 (s_iret))))))
def c_CW_would : Nat → Option cw_S := cw_node 58 (cw_node 28 (cw_node 15 (cw_node 5 (cw_node 1 (cw_leaf 0 (s_aload 0 1)) (cw_node 4 (cw_leaf 1 (s_get 8 0 4)) (cw_leaf 4 (s_iload 1 5)))) (cw_node 11 (cw_node 8 (cw_leaf 5 (s_callV 6 m_Tree_hasNode 1 8)) (cw_leaf 8 (s_if (fun x => decide (x = 0)) 36 11))) (cw_node 12 (cw_leaf 11 (s_aload 0 12)) (cw_leaf 12 (s_get 8 0 15))))) (cw_node 22 (cw_node 16 (cw_leaf 15 (s_iload 2 16)) (cw_node 19 (cw_leaf 16 (s_callV 6 m_Tree_hasNode 1 19)) (cw_leaf 19 (s_if (fun x => decide (x = 0)) 36 22)))) (cw_node 24 (cw_node 23 (cw_leaf 22 (s_iload 1 23)) (cw_leaf 23 (s_iload 2 24))) (cw_node 27 (cw_leaf 24 (s_icmp (fun x y => decide (x = y)) 36 27)) (cw_leaf 27 (s_iload 3 28)))))) (cw_node 42 (cw_node 33 (cw_node 31 (cw_leaf 28 (s_if (fun x => decide (x < 0)) 36 31)) (cw_node 32 (cw_leaf 31 (s_iload 3 32)) (cw_leaf 32 (s_iconst 3 33)))) (cw_node 37 (cw_node 36 (cw_leaf 33 (s_icmp (fun x y => decide (x ≤ y)) 43 36)) (cw_leaf 36 (s_aload 0 37))) (cw_node 39 (cw_leaf 37 (s_iconst (-2) 39)) (cw_leaf 39 (s_callV 8 m_CW_refuse 1 42))))) (cw_node 50 (cw_node 44 (cw_node 43 (cw_leaf 42 (s_iret)) (cw_leaf 43 (s_aload 0 44))) (cw_node 47 (cw_leaf 44 (s_get 8 1 47)) (cw_leaf 47 (s_get 7 2 50)))) (cw_node 54 (cw_node 52 (cw_leaf 50 (s_astore 4 52)) (cw_leaf 52 (s_aload 4 54))) (cw_node 55 (cw_leaf 54 (s_aload 0 55)) (cw_leaf 55 (s_get 8 1 58))))))) (cw_node 112 (cw_node 71 (cw_node 63 (cw_node 59 (cw_leaf 58 (s_iload 1 59)) (cw_node 62 (cw_leaf 59 (s_callV 7 m_Wires_part 1 62)) (cw_leaf 62 (s_aload 0 63)))) (cw_node 67 (cw_node 66 (cw_leaf 63 (s_get 8 1 66)) (cw_leaf 66 (s_iload 2 67))) (cw_node 70 (cw_leaf 67 (s_callV 7 m_Wires_part 1 70)) (cw_leaf 70 (s_aload 0 71))))) (cw_node 79 (cw_node 74 (cw_leaf 71 (s_get 8 0 74)) (cw_node 77 (cw_leaf 74 (s_get 6 9 77)) (cw_leaf 77 (s_iconst 65536 79)))) (cw_node 83 (cw_node 80 (cw_leaf 79 (s_ibin (fun x y => x * y) 80)) (cw_leaf 80 (s_callV 1 m_Merge_weigh 3 83))) (cw_node 84 (cw_leaf 83 (s_iload 3 84)) (cw_leaf 84 (s_table 0 [112, 118, 130] 136)))))) (cw_node 128 (cw_node 118 (cw_node 114 (cw_leaf 112 (s_aload 4 114)) (cw_node 117 (cw_leaf 114 (s_get 1 1 117)) (cw_leaf 117 (s_iret)))) (cw_node 123 (cw_node 120 (cw_leaf 118 (s_aload 4 120)) (cw_leaf 120 (s_get 1 1 123))) (cw_node 125 (cw_leaf 123 (s_aload 4 125)) (cw_leaf 125 (s_get 1 0 128))))) (cw_node 135 (cw_node 130 (cw_node 129 (cw_leaf 128 (s_ibin (fun x y => x - y) 129)) (cw_leaf 129 (s_iret))) (cw_node 132 (cw_leaf 130 (s_aload 4 132)) (cw_leaf 132 (s_get 1 2 135)))) (cw_node 138 (cw_node 136 (cw_leaf 135 (s_iret)) (cw_leaf 136 (s_aload 4 138))) (cw_node 141 (cw_leaf 138 (s_get 1 3 141)) (cw_leaf 141 (s_iret)))))))
def c_CW_nearest : Nat → Option cw_S := cw_node 5 (cw_node 1 (cw_leaf 0 (s_aload 0 1)) (cw_node 4 (cw_leaf 1 (s_get 8 1 4)) (cw_leaf 4 (s_aload 0 5)))) (cw_node 8 (cw_leaf 5 (s_get 8 0 8)) (cw_node 11 (cw_leaf 8 (s_callV 7 m_Wires_nearestPair 1 11)) (cw_leaf 11 (s_iret))))
def c_CW_tops : Nat → Option cw_S := cw_node 4 (cw_node 1 (cw_leaf 0 (s_aload 0 1)) (cw_leaf 1 (s_get 8 1 4))) (cw_node 7 (cw_leaf 4 (s_get 7 5 7)) (cw_leaf 7 (s_iret)))
def c_CW_least : Nat → Option cw_S := cw_node 38 (cw_node 16 (cw_node 6 (cw_node 4 (cw_node 1 (cw_leaf 0 (s_iload 1 1)) (cw_leaf 1 (s_if (fun x => decide (x = 0)) 16 4))) (cw_node 5 (cw_leaf 4 (s_iload 1 5)) (cw_leaf 5 (s_iconst 1 6)))) (cw_node 10 (cw_node 9 (cw_leaf 6 (s_icmp (fun x y => decide (x = y)) 16 9)) (cw_leaf 9 (s_aload 0 10))) (cw_node 12 (cw_leaf 10 (s_iconst (-2) 12)) (cw_node 15 (cw_leaf 12 (s_callV 8 m_CW_refuse 1 15)) (cw_leaf 15 (s_iret)))))) (cw_node 26 (cw_node 20 (cw_node 17 (cw_leaf 16 (s_aload 0 17)) (cw_leaf 17 (s_get 8 0 20))) (cw_node 23 (cw_leaf 20 (s_get 6 8 23)) (cw_leaf 23 (s_if (fun x => decide (x = 0)) 38 26)))) (cw_node 30 (cw_node 27 (cw_leaf 26 (s_aload 0 27)) (cw_leaf 27 (s_get 8 0 30))) (cw_node 33 (cw_leaf 30 (s_get 6 8 33)) (cw_node 35 (cw_leaf 33 (s_iconst 6 35)) (cw_leaf 35 (s_icmp (fun x y => decide (x ≤ y)) 45 38))))))) (cw_node 56 (cw_node 45 (cw_node 41 (cw_node 39 (cw_leaf 38 (s_aload 0 39)) (cw_leaf 39 (s_iconst (-3) 41))) (cw_node 44 (cw_leaf 41 (s_callV 8 m_CW_refuse 1 44)) (cw_leaf 44 (s_iret)))) (cw_node 49 (cw_node 46 (cw_leaf 45 (s_aload 0 46)) (cw_leaf 46 (s_get 8 3 49))) (cw_node 50 (cw_leaf 49 (s_aload 0 50)) (cw_node 53 (cw_leaf 50 (s_get 8 0 53)) (cw_leaf 53 (s_callV 4 m_Search_findLeast 1 56)))))) (cw_node 67 (cw_node 60 (cw_node 57 (cw_leaf 56 (s_iload 1 57)) (cw_leaf 57 (s_if (fun x => decide (¬ x = 0)) 70 60))) (cw_node 61 (cw_leaf 60 (s_aload 0 61)) (cw_node 64 (cw_leaf 61 (s_get 8 3 64)) (cw_leaf 64 (s_get 4 3 67))))) (cw_node 71 (cw_node 70 (cw_leaf 67 (s_goto 77)) (cw_leaf 70 (s_aload 0 71))) (cw_node 74 (cw_leaf 71 (s_get 8 3 74)) (cw_node 77 (cw_leaf 74 (s_get 4 4 77)) (cw_leaf 77 (s_iret)))))))
def c_CW_place : Nat → Option cw_S := cw_node 43 (cw_node 20 (cw_node 11 (cw_node 4 (cw_node 1 (cw_leaf 0 (s_aload 0 1)) (cw_leaf 1 (s_get 8 0 4))) (cw_node 5 (cw_leaf 4 (s_iload 1 5)) (cw_node 8 (cw_leaf 5 (s_callV 6 m_Tree_hasNode 1 8)) (cw_leaf 8 (s_if (fun x => decide (x = 0)) 20 11))))) (cw_node 15 (cw_node 12 (cw_leaf 11 (s_iload 2 12)) (cw_leaf 12 (s_if (fun x => decide (x < 0)) 20 15))) (cw_node 16 (cw_leaf 15 (s_iload 2 16)) (cw_node 17 (cw_leaf 16 (s_iconst 2 17)) (cw_leaf 17 (s_icmp (fun x y => decide (x ≤ y)) 27 20)))))) (cw_node 28 (cw_node 23 (cw_node 21 (cw_leaf 20 (s_aload 0 21)) (cw_leaf 21 (s_iconst (-2) 23))) (cw_node 26 (cw_leaf 23 (s_callV 8 m_CW_refuse 1 26)) (cw_node 27 (cw_leaf 26 (s_iret)) (cw_leaf 27 (s_aload 0 28))))) (cw_node 37 (cw_node 31 (cw_leaf 28 (s_get 8 2 31)) (cw_node 34 (cw_leaf 31 (s_get 3 5 34)) (cw_leaf 34 (s_if (fun x => decide (¬ x = 0)) 44 37)))) (cw_node 38 (cw_leaf 37 (s_aload 0 38)) (cw_node 40 (cw_leaf 38 (s_iconst (-3) 40)) (cw_leaf 40 (s_callV 8 m_CW_refuse 1 43))))))) (cw_node 83 (cw_node 76 (cw_node 45 (cw_node 44 (cw_leaf 43 (s_iret)) (cw_leaf 44 (s_iload 2 45))) (cw_node 72 (cw_leaf 45 (s_switch [(0, 72), (1, 82)] 92)) (cw_node 73 (cw_leaf 72 (s_aload 0 73)) (cw_leaf 73 (s_get 8 2 76))))) (cw_node 80 (cw_node 79 (cw_leaf 76 (s_get 3 0 79)) (cw_leaf 79 (s_iload 1 80))) (cw_node 81 (cw_leaf 80 (s_iald 81)) (cw_node 82 (cw_leaf 81 (s_iret)) (cw_leaf 82 (s_aload 0 83)))))) (cw_node 92 (cw_node 89 (cw_node 86 (cw_leaf 83 (s_get 8 2 86)) (cw_leaf 86 (s_get 3 1 89))) (cw_node 90 (cw_leaf 89 (s_iload 1 90)) (cw_node 91 (cw_leaf 90 (s_iald 91)) (cw_leaf 91 (s_iret))))) (cw_node 99 (cw_node 93 (cw_leaf 92 (s_aload 0 93)) (cw_node 96 (cw_leaf 93 (s_get 8 2 96)) (cw_leaf 96 (s_get 3 2 99)))) (cw_node 100 (cw_leaf 99 (s_iload 1 100)) (cw_node 101 (cw_leaf 100 (s_iald 101)) (cw_leaf 101 (s_iret)))))))
def c_CW_arrival : Nat → Option cw_S := cw_node 25 (cw_node 12 (cw_node 5 (cw_node 1 (cw_leaf 0 (s_aload 0 1)) (cw_node 4 (cw_leaf 1 (s_get 8 0 4)) (cw_leaf 4 (s_iload 1 5)))) (cw_node 8 (cw_leaf 5 (s_callV 6 m_Tree_hasSink 1 8)) (cw_node 11 (cw_leaf 8 (s_if (fun x => decide (¬ x = 0)) 18 11)) (cw_leaf 11 (s_aload 0 12))))) (cw_node 18 (cw_node 14 (cw_leaf 12 (s_iconst (-2) 14)) (cw_node 17 (cw_leaf 14 (s_callV 8 m_CW_refuse 1 17)) (cw_leaf 17 (s_iret)))) (cw_node 19 (cw_leaf 18 (s_aload 0 19)) (cw_node 22 (cw_leaf 19 (s_get 8 2 22)) (cw_leaf 22 (s_get 3 5 25)))))) (cw_node 36 (cw_node 31 (cw_node 28 (cw_leaf 25 (s_if (fun x => decide (¬ x = 0)) 35 28)) (cw_node 29 (cw_leaf 28 (s_aload 0 29)) (cw_leaf 29 (s_iconst (-3) 31)))) (cw_node 34 (cw_leaf 31 (s_callV 8 m_CW_refuse 1 34)) (cw_node 35 (cw_leaf 34 (s_iret)) (cw_leaf 35 (s_aload 0 36))))) (cw_node 43 (cw_node 39 (cw_leaf 36 (s_get 8 2 39)) (cw_node 40 (cw_leaf 39 (s_aload 0 40)) (cw_leaf 40 (s_get 8 0 43)))) (cw_node 44 (cw_leaf 43 (s_iload 1 44)) (cw_node 47 (cw_leaf 44 (s_callV 3 m_Places_arrivalOf 2 47)) (cw_leaf 47 (s_iret))))))
def c_CW_slow : Nat → Option cw_S := cw_node 23 (cw_node 12 (cw_node 5 (cw_node 1 (cw_leaf 0 (s_aload 0 1)) (cw_node 4 (cw_leaf 1 (s_get 8 0 4)) (cw_leaf 4 (s_iload 1 5)))) (cw_node 8 (cw_leaf 5 (s_callV 6 m_Tree_hasSink 1 8)) (cw_node 11 (cw_leaf 8 (s_if (fun x => decide (¬ x = 0)) 19 11)) (cw_leaf 11 (s_aload 0 12))))) (cw_node 18 (cw_node 14 (cw_leaf 12 (s_iconst (-2) 14)) (cw_node 17 (cw_leaf 14 (s_callV 8 m_CW_refuse 1 17)) (cw_leaf 17 (s_i2l 18)))) (cw_node 19 (cw_leaf 18 (s_lret)) (cw_node 20 (cw_leaf 19 (s_aload 0 20)) (cw_leaf 20 (s_get 8 2 23)))))) (cw_node 36 (cw_node 30 (cw_node 26 (cw_leaf 23 (s_get 3 5 26)) (cw_node 29 (cw_leaf 26 (s_if (fun x => decide (¬ x = 0)) 37 29)) (cw_leaf 29 (s_aload 0 30)))) (cw_node 32 (cw_leaf 30 (s_iconst (-3) 32)) (cw_node 35 (cw_leaf 32 (s_callV 8 m_CW_refuse 1 35)) (cw_leaf 35 (s_i2l 36))))) (cw_node 41 (cw_node 37 (cw_leaf 36 (s_lret)) (cw_node 38 (cw_leaf 37 (s_aload 0 38)) (cw_leaf 38 (s_get 8 2 41)))) (cw_node 45 (cw_node 44 (cw_leaf 41 (s_get 3 4 44)) (cw_leaf 44 (s_iload 1 45))) (cw_node 46 (cw_leaf 45 (s_lald 46)) (cw_leaf 46 (s_lret))))))
def c_CW_total : Nat → Option cw_S := cw_node 10 (cw_node 5 (cw_node 1 (cw_leaf 0 (s_iload 1 1)) (cw_node 4 (cw_leaf 1 (s_if (fun x => decide (x < 0)) 9 4)) (cw_leaf 4 (s_iload 1 5)))) (cw_node 6 (cw_leaf 5 (s_iconst 4 6)) (cw_node 9 (cw_leaf 6 (s_icmp (fun x y => decide (x ≤ y)) 16 9)) (cw_leaf 9 (s_aload 0 10))))) (cw_node 16 (cw_node 12 (cw_leaf 10 (s_iconst (-2) 12)) (cw_node 15 (cw_leaf 12 (s_callV 8 m_CW_refuse 1 15)) (cw_leaf 15 (s_iret)))) (cw_node 18 (cw_node 17 (cw_leaf 16 (s_aload 0 17)) (cw_leaf 17 (s_iload 1 18))) (cw_node 21 (cw_leaf 18 (s_callV 8 m_CW_totalValue 1 21)) (cw_leaf 21 (s_iret)))))
def c_CW_type : Nat → Option cw_S := cw_node 26 (cw_node 11 (cw_node 5 (cw_node 1 (cw_leaf 0 (s_iload 1 1)) (cw_node 4 (cw_leaf 1 (s_if (fun x => decide (x < 0)) 10 4)) (cw_leaf 4 (s_iload 1 5)))) (cw_node 7 (cw_leaf 5 (s_iconst 127 7)) (cw_node 10 (cw_leaf 7 (s_icmp (fun x y => decide (x ≤ y)) 17 10)) (cw_leaf 10 (s_aload 0 11))))) (cw_node 17 (cw_node 13 (cw_leaf 11 (s_iconst (-2) 13)) (cw_node 16 (cw_leaf 13 (s_callV 8 m_CW_refuse 1 16)) (cw_leaf 16 (s_iret)))) (cw_node 21 (cw_node 18 (cw_leaf 17 (s_aload 0 18)) (cw_leaf 18 (s_get 8 5 21))) (cw_node 24 (cw_leaf 21 (s_get 5 5 24)) (cw_leaf 24 (s_iconst 60 26)))))) (cw_node 37 (cw_node 32 (cw_node 29 (cw_leaf 26 (s_icmp (fun x y => decide (x < y)) 36 29)) (cw_node 30 (cw_leaf 29 (s_aload 0 30)) (cw_leaf 30 (s_iconst (-4) 32)))) (cw_node 35 (cw_leaf 32 (s_callV 8 m_CW_refuse 1 35)) (cw_node 36 (cw_leaf 35 (s_iret)) (cw_leaf 36 (s_aload 0 37))))) (cw_node 44 (cw_node 40 (cw_leaf 37 (s_get 8 5 40)) (cw_node 41 (cw_leaf 40 (s_iload 1 41)) (cw_leaf 41 (s_callV 5 m_Text_append 1 44)))) (cw_node 48 (cw_node 45 (cw_leaf 44 (s_aload 0 45)) (cw_leaf 45 (s_get 8 5 48))) (cw_node 51 (cw_leaf 48 (s_get 5 5 51)) (cw_leaf 51 (s_iret))))))
def c_CW_clear : Nat → Option cw_S := cw_node 9 (cw_node 4 (cw_node 1 (cw_leaf 0 (s_aload 0 1)) (cw_leaf 1 (s_get 8 5 4))) (cw_node 7 (cw_leaf 4 (s_get 5 5 7)) (cw_node 8 (cw_leaf 7 (s_istore 1 8)) (cw_leaf 8 (s_aload 0 9))))) (cw_node 13 (cw_node 12 (cw_leaf 9 (s_get 8 5 12)) (cw_leaf 12 (s_iconst 0 13))) (cw_node 16 (cw_leaf 13 (s_put 5 5 0 16)) (cw_node 17 (cw_leaf 16 (s_iload 1 17)) (cw_leaf 17 (s_iret)))))
def c_CW_builds : Nat → Option cw_S := cw_node 53 (cw_node 25 (cw_node 15 (cw_node 5 (cw_node 1 (cw_leaf 0 (s_aload 0 1)) (cw_node 4 (cw_leaf 1 (s_get 8 5 4)) (cw_leaf 4 (s_aload 0 5)))) (cw_node 11 (cw_node 8 (cw_leaf 5 (s_get 8 0 8)) (cw_leaf 8 (s_get 6 8 11))) (cw_node 14 (cw_leaf 11 (s_callV 5 m_Text_parse 1 14)) (cw_leaf 14 (s_istore 1 15))))) (cw_node 20 (cw_node 16 (cw_leaf 15 (s_iload 1 16)) (cw_node 17 (cw_leaf 16 (s_iconst (-1) 17)) (cw_leaf 17 (s_icmp (fun x y => decide (x = y)) 25 20)))) (cw_node 23 (cw_node 22 (cw_leaf 20 (s_iconst (-10) 22)) (cw_leaf 22 (s_iload 1 23))) (cw_node 24 (cw_leaf 23 (s_ibin (fun x y => x - y) 24)) (cw_leaf 24 (s_iret)))))) (cw_node 40 (cw_node 30 (cw_node 26 (cw_leaf 25 (s_aload 0 26)) (cw_node 29 (cw_leaf 26 (s_get 8 4 29)) (cw_leaf 29 (s_aload 0 30)))) (cw_node 36 (cw_node 33 (cw_leaf 30 (s_get 8 0 33)) (cw_leaf 33 (s_callV 0 m_History_save 1 36))) (cw_node 37 (cw_leaf 36 (s_aload 0 37)) (cw_leaf 37 (s_get 8 0 40))))) (cw_node 45 (cw_node 43 (cw_leaf 40 (s_callV 6 m_Tree_removeJoints 0 43)) (cw_node 44 (cw_leaf 43 (s_iconst 0 44)) (cw_leaf 44 (s_istore 2 45)))) (cw_node 47 (cw_node 46 (cw_leaf 45 (s_iload 2 46)) (cw_leaf 46 (s_aload 0 47))) (cw_node 50 (cw_leaf 47 (s_get 8 5 50)) (cw_leaf 50 (s_get 5 6 53))))))) (cw_node 81 (cw_node 68 (cw_node 58 (cw_node 56 (cw_leaf 53 (s_icmp (fun x y => decide (y ≤ x)) 100 56)) (cw_node 57 (cw_leaf 56 (s_iload 2 57)) (cw_leaf 57 (s_aload 0 58)))) (cw_node 64 (cw_node 61 (cw_leaf 58 (s_get 8 5 61)) (cw_leaf 61 (s_get 5 3 64))) (cw_node 65 (cw_leaf 64 (s_alen 65)) (cw_leaf 65 (s_icmp (fun x y => decide (y ≤ x)) 100 68))))) (cw_node 73 (cw_node 69 (cw_leaf 68 (s_aload 0 69)) (cw_node 72 (cw_leaf 69 (s_get 8 0 72)) (cw_leaf 72 (s_aload 0 73)))) (cw_node 79 (cw_node 76 (cw_leaf 73 (s_get 8 5 76)) (cw_leaf 76 (s_get 5 3 79))) (cw_node 80 (cw_leaf 79 (s_iload 2 80)) (cw_leaf 80 (s_iald 81)))))) (cw_node 94 (cw_node 88 (cw_node 82 (cw_leaf 81 (s_aload 0 82)) (cw_node 85 (cw_leaf 82 (s_get 8 5 85)) (cw_leaf 85 (s_get 5 4 88)))) (cw_node 90 (cw_node 89 (cw_leaf 88 (s_iload 2 89)) (cw_leaf 89 (s_iald 90))) (cw_node 93 (cw_leaf 90 (s_callV 6 m_Tree_addJoint 2 93)) (cw_leaf 93 (s_pop 94))))) (cw_node 104 (cw_node 100 (cw_node 97 (cw_leaf 94 (s_iinc 2 1 97)) (cw_leaf 97 (s_goto 45))) (cw_node 101 (cw_leaf 100 (s_aload 0 101)) (cw_leaf 101 (s_callV 8 m_CW_refresh 0 104)))) (cw_node 108 (cw_node 105 (cw_leaf 104 (s_aload 0 105)) (cw_leaf 105 (s_get 8 5 108))) (cw_node 111 (cw_leaf 108 (s_get 5 6 111)) (cw_leaf 111 (s_iret)))))))
def c_CW_shown : Nat → Option cw_S := cw_node 16 (cw_node 8 (cw_node 4 (cw_node 1 (cw_leaf 0 (s_aload 0 1)) (cw_leaf 1 (s_get 8 0 4))) (cw_node 5 (cw_leaf 4 (s_iload 1 5)) (cw_leaf 5 (s_callV 6 m_Tree_hasNode 1 8)))) (cw_node 12 (cw_node 11 (cw_leaf 8 (s_if (fun x => decide (x = 0)) 15 11)) (cw_leaf 11 (s_iload 2 12))) (cw_node 15 (cw_leaf 12 (s_if (fun x => decide (0 ≤ x)) 22 15)) (cw_leaf 15 (s_aload 0 16))))) (cw_node 23 (cw_node 21 (cw_node 18 (cw_leaf 16 (s_iconst (-2) 18)) (cw_leaf 18 (s_callV 8 m_CW_refuse 1 21))) (cw_node 22 (cw_leaf 21 (s_iret)) (cw_leaf 22 (s_aload 0 23)))) (cw_node 25 (cw_node 24 (cw_leaf 23 (s_iload 1 24)) (cw_leaf 24 (s_iload 2 25))) (cw_node 28 (cw_leaf 25 (s_callV 8 m_CW_shownByte 2 28)) (cw_leaf 28 (s_iret)))))
def c_CW_back : Nat → Option cw_S := cw_node 18 (cw_node 10 (cw_node 4 (cw_node 1 (cw_leaf 0 (s_aload 0 1)) (cw_leaf 1 (s_get 8 4 4))) (cw_node 7 (cw_leaf 4 (s_get 0 2 7)) (cw_leaf 7 (s_if (fun x => decide (¬ x = 0)) 17 10)))) (cw_node 13 (cw_node 11 (cw_leaf 10 (s_aload 0 11)) (cw_leaf 11 (s_iconst (-3) 13))) (cw_node 16 (cw_leaf 13 (s_callV 8 m_CW_refuse 1 16)) (cw_node 17 (cw_leaf 16 (s_iret)) (cw_leaf 17 (s_aload 0 18)))))) (cw_node 29 (cw_node 22 (cw_node 21 (cw_leaf 18 (s_get 8 4 21)) (cw_leaf 21 (s_aload 0 22))) (cw_node 25 (cw_leaf 22 (s_get 8 0 25)) (cw_node 28 (cw_leaf 25 (s_callV 0 m_History_restore 1 28)) (cw_leaf 28 (s_aload 0 29))))) (cw_node 33 (cw_node 32 (cw_leaf 29 (s_callV 8 m_CW_refresh 0 32)) (cw_leaf 32 (s_aload 0 33))) (cw_node 36 (cw_leaf 33 (s_get 8 4 36)) (cw_node 39 (cw_leaf 36 (s_get 0 2 39)) (cw_leaf 39 (s_iret))))))
def c_CW_told : Nat → Option cw_S := cw_node 11 (cw_node 5 (cw_node 1 (cw_leaf 0 (s_iload 1 1)) (cw_node 4 (cw_leaf 1 (s_if (fun x => decide (x < 0)) 10 4)) (cw_leaf 4 (s_iload 1 5)))) (cw_node 7 (cw_leaf 5 (s_iconst 9 7)) (cw_node 10 (cw_leaf 7 (s_icmp (fun x y => decide (x ≤ y)) 17 10)) (cw_leaf 10 (s_aload 0 11))))) (cw_node 17 (cw_node 13 (cw_leaf 11 (s_iconst (-2) 13)) (cw_node 16 (cw_leaf 13 (s_callV 8 m_CW_refuse 1 16)) (cw_leaf 16 (s_iret)))) (cw_node 19 (cw_node 18 (cw_leaf 17 (s_aload 0 18)) (cw_leaf 18 (s_iload 1 19))) (cw_node 22 (cw_leaf 19 (s_callV 8 m_CW_toldValue 1 22)) (cw_leaf 22 (s_iret)))))
def c_CW_digest : Nat → Option cw_S := cw_node 88 (cw_node 41 (cw_node 19 (cw_node 9 (cw_node 5 (cw_node 3 (cw_leaf 0 (s_lconst 1680 3)) (cw_node 4 (cw_leaf 3 (s_lstore 1 4)) (cw_leaf 4 (s_iconst 0 5)))) (cw_node 6 (cw_leaf 5 (s_istore 3 6)) (cw_node 7 (cw_leaf 6 (s_iload 3 7)) (cw_leaf 7 (s_iconst 9 9))))) (cw_node 16 (cw_node 12 (cw_leaf 9 (s_icmp (fun x y => decide (y < x)) 31 12)) (cw_node 15 (cw_leaf 12 (s_lconst 31 15)) (cw_leaf 15 (s_lload 1 16)))) (cw_node 17 (cw_leaf 16 (s_lbin (fun x y => x * y) 17)) (cw_node 18 (cw_leaf 17 (s_aload 0 18)) (cw_leaf 18 (s_iload 3 19)))))) (cw_node 31 (cw_node 24 (cw_node 22 (cw_leaf 19 (s_callV 8 m_CW_toldValue 1 22)) (cw_node 23 (cw_leaf 22 (s_i2l 23)) (cw_leaf 23 (s_lbin (fun x y => x + y) 24)))) (cw_node 25 (cw_leaf 24 (s_lstore 1 25)) (cw_node 28 (cw_leaf 25 (s_iinc 3 1 28)) (cw_leaf 28 (s_goto 6))))) (cw_node 34 (cw_node 32 (cw_leaf 31 (s_iconst 0 32)) (cw_node 33 (cw_leaf 32 (s_istore 3 33)) (cw_leaf 33 (s_iload 3 34)))) (cw_node 35 (cw_leaf 34 (s_aload 0 35)) (cw_node 38 (cw_leaf 35 (s_get 8 0 38)) (cw_leaf 38 (s_get 6 8 41))))))) (cw_node 63 (cw_node 53 (cw_node 47 (cw_node 44 (cw_leaf 41 (s_icmp (fun x y => decide (y ≤ x)) 83 44)) (cw_node 45 (cw_leaf 44 (s_iconst 0 45)) (cw_leaf 45 (s_istore 4 47)))) (cw_node 49 (cw_leaf 47 (s_iload 4 49)) (cw_node 50 (cw_leaf 49 (s_iconst 3 50)) (cw_leaf 50 (s_icmp (fun x y => decide (y < x)) 77 53))))) (cw_node 58 (cw_node 56 (cw_leaf 53 (s_lconst 31 56)) (cw_node 57 (cw_leaf 56 (s_lload 1 57)) (cw_leaf 57 (s_lbin (fun x y => x * y) 58)))) (cw_node 59 (cw_leaf 58 (s_aload 0 59)) (cw_node 62 (cw_leaf 59 (s_get 8 0 62)) (cw_leaf 62 (s_iload 3 63)))))) (cw_node 74 (cw_node 69 (cw_node 65 (cw_leaf 63 (s_iload 4 65)) (cw_node 68 (cw_leaf 65 (s_callV 6 m_Tree_sinkValue 2 68)) (cw_leaf 68 (s_i2l 69)))) (cw_node 70 (cw_leaf 69 (s_lbin (fun x y => x + y) 70)) (cw_node 71 (cw_leaf 70 (s_lstore 1 71)) (cw_leaf 71 (s_iinc 4 1 74))))) (cw_node 83 (cw_node 77 (cw_leaf 74 (s_goto 47)) (cw_node 80 (cw_leaf 77 (s_iinc 3 1 80)) (cw_leaf 80 (s_goto 33)))) (cw_node 85 (cw_node 84 (cw_leaf 83 (s_iconst 0 84)) (cw_leaf 84 (s_istore 3 85))) (cw_node 86 (cw_leaf 85 (s_iload 3 86)) (cw_leaf 86 (s_iconst 15 88)))))))) (cw_node 133 (cw_node 110 (cw_node 102 (cw_node 95 (cw_node 91 (cw_leaf 88 (s_icmp (fun x y => decide (y ≤ x)) 148 91)) (cw_node 92 (cw_leaf 91 (s_aload 0 92)) (cw_leaf 92 (s_get 8 0 95)))) (cw_node 96 (cw_leaf 95 (s_iload 3 96)) (cw_node 99 (cw_leaf 96 (s_callV 6 m_Tree_hasNode 1 99)) (cw_leaf 99 (s_if (fun x => decide (x = 0)) 142 102))))) (cw_node 107 (cw_node 105 (cw_leaf 102 (s_lconst 31 105)) (cw_node 106 (cw_leaf 105 (s_lload 1 106)) (cw_leaf 106 (s_lbin (fun x y => x * y) 107)))) (cw_node 108 (cw_leaf 107 (s_iload 3 108)) (cw_node 109 (cw_leaf 108 (s_i2l 109)) (cw_leaf 109 (s_lbin (fun x y => x + y) 110)))))) (cw_node 121 (cw_node 114 (cw_node 111 (cw_leaf 110 (s_lstore 1 111)) (cw_node 112 (cw_leaf 111 (s_iconst 0 112)) (cw_leaf 112 (s_istore 4 114)))) (cw_node 116 (cw_leaf 114 (s_iload 4 116)) (cw_node 118 (cw_leaf 116 (s_iconst 10 118)) (cw_leaf 118 (s_icmp (fun x y => decide (y < x)) 142 121))))) (cw_node 126 (cw_node 124 (cw_leaf 121 (s_lconst 31 124)) (cw_node 125 (cw_leaf 124 (s_lload 1 125)) (cw_leaf 125 (s_lbin (fun x y => x * y) 126)))) (cw_node 128 (cw_node 127 (cw_leaf 126 (s_aload 0 127)) (cw_leaf 127 (s_iload 3 128))) (cw_node 130 (cw_leaf 128 (s_iload 4 130)) (cw_leaf 130 (s_callV 8 m_CW_nodeValue 2 133))))))) (cw_node 155 (cw_node 145 (cw_node 136 (cw_node 134 (cw_leaf 133 (s_i2l 134)) (cw_node 135 (cw_leaf 134 (s_lbin (fun x y => x + y) 135)) (cw_leaf 135 (s_lstore 1 136)))) (cw_node 139 (cw_leaf 136 (s_iinc 4 1 139)) (cw_node 142 (cw_leaf 139 (s_goto 114)) (cw_leaf 142 (s_iinc 3 1 145))))) (cw_node 150 (cw_node 148 (cw_leaf 145 (s_goto 85)) (cw_node 149 (cw_leaf 148 (s_iconst 0 149)) (cw_leaf 149 (s_istore 3 150)))) (cw_node 151 (cw_leaf 150 (s_iload 3 151)) (cw_node 152 (cw_leaf 151 (s_iconst 4 152)) (cw_leaf 152 (s_icmp (fun x y => decide (y < x)) 174 155)))))) (cw_node 165 (cw_node 160 (cw_node 158 (cw_leaf 155 (s_lconst 31 158)) (cw_node 159 (cw_leaf 158 (s_lload 1 159)) (cw_leaf 159 (s_lbin (fun x y => x * y) 160)))) (cw_node 161 (cw_leaf 160 (s_aload 0 161)) (cw_node 162 (cw_leaf 161 (s_iload 3 162)) (cw_leaf 162 (s_callV 8 m_CW_totalValue 1 165))))) (cw_node 168 (cw_node 166 (cw_leaf 165 (s_i2l 166)) (cw_node 167 (cw_leaf 166 (s_lbin (fun x y => x + y) 167)) (cw_leaf 167 (s_lstore 1 168)))) (cw_node 174 (cw_node 171 (cw_leaf 168 (s_iinc 3 1 171)) (cw_leaf 171 (s_goto 150))) (cw_node 175 (cw_leaf 174 (s_lload 1 175)) (cw_leaf 175 (s_lret))))))))
def c_CW_refuse : Nat → Option cw_S := cw_node 26 (cw_node 12 (cw_node 6 (cw_node 1 (cw_leaf 0 (s_iload 1 1)) (cw_node 3 (cw_leaf 1 (s_iconst (-2) 3)) (cw_leaf 3 (s_icmp (fun x y => decide (¬ x = y)) 19 6)))) (cw_node 8 (cw_node 7 (cw_leaf 6 (s_aload 0 7)) (cw_leaf 7 (s_dup 8))) (cw_node 11 (cw_leaf 8 (s_get 8 6 11)) (cw_leaf 11 (s_iconst 1 12))))) (cw_node 19 (cw_node 13 (cw_leaf 12 (s_ibin (fun x y => x + y) 13)) (cw_node 16 (cw_leaf 13 (s_put 8 6 0 16)) (cw_leaf 16 (s_goto 48)))) (cw_node 22 (cw_node 20 (cw_leaf 19 (s_iload 1 20)) (cw_leaf 20 (s_iconst (-3) 22))) (cw_node 25 (cw_leaf 22 (s_icmp (fun x y => decide (¬ x = y)) 38 25)) (cw_leaf 25 (s_aload 0 26)))))) (cw_node 39 (cw_node 31 (cw_node 27 (cw_leaf 26 (s_dup 27)) (cw_node 30 (cw_leaf 27 (s_get 8 7 30)) (cw_leaf 30 (s_iconst 1 31)))) (cw_node 35 (cw_node 32 (cw_leaf 31 (s_ibin (fun x y => x + y) 32)) (cw_leaf 32 (s_put 8 7 0 35))) (cw_node 38 (cw_leaf 35 (s_goto 48)) (cw_leaf 38 (s_aload 0 39))))) (cw_node 44 (cw_node 40 (cw_leaf 39 (s_dup 40)) (cw_node 43 (cw_leaf 40 (s_get 8 8 43)) (cw_leaf 43 (s_iconst 1 44)))) (cw_node 48 (cw_node 45 (cw_leaf 44 (s_ibin (fun x y => x + y) 45)) (cw_leaf 45 (s_put 8 8 0 48))) (cw_node 49 (cw_leaf 48 (s_iload 1 49)) (cw_leaf 49 (s_iret))))))
def c_CW_refresh : Nat → Option cw_S := cw_node 16 (cw_node 8 (cw_node 4 (cw_node 1 (cw_leaf 0 (s_aload 0 1)) (cw_leaf 1 (s_get 8 1 4))) (cw_node 5 (cw_leaf 4 (s_aload 0 5)) (cw_leaf 5 (s_get 8 0 8)))) (cw_node 12 (cw_node 11 (cw_leaf 8 (s_callV 7 m_Wires_measure 1 11)) (cw_leaf 11 (s_aload 0 12))) (cw_node 15 (cw_leaf 12 (s_get 8 2 15)) (cw_leaf 15 (s_aload 0 16))))) (cw_node 26 (cw_node 20 (cw_node 19 (cw_leaf 16 (s_get 8 0 19)) (cw_leaf 19 (s_aload 0 20))) (cw_node 23 (cw_leaf 20 (s_get 8 1 23)) (cw_leaf 23 (s_callV 3 m_Places_embed 2 26)))) (cw_node 30 (cw_node 27 (cw_leaf 26 (s_aload 0 27)) (cw_leaf 27 (s_get 8 3 30))) (cw_node 31 (cw_leaf 30 (s_iconst 0 31)) (cw_node 34 (cw_leaf 31 (s_put 4 2 1 34)) (cw_leaf 34 (s_vret))))))
def c_CW_exchangeAndCompare : Nat → Option cw_S := cw_node 14 (cw_node 8 (cw_node 4 (cw_node 1 (cw_leaf 0 (s_aload 0 1)) (cw_leaf 1 (s_get 8 1 4))) (cw_node 7 (cw_leaf 4 (s_get 7 6 7)) (cw_leaf 7 (s_istore 3 8)))) (cw_node 12 (cw_node 9 (cw_leaf 8 (s_aload 0 9)) (cw_leaf 9 (s_get 8 0 12))) (cw_node 13 (cw_leaf 12 (s_iload 1 13)) (cw_leaf 13 (s_iload 2 14))))) (cw_node 22 (cw_node 18 (cw_node 17 (cw_leaf 14 (s_callV 6 m_Tree_exchange 2 17)) (cw_leaf 17 (s_aload 0 18))) (cw_node 21 (cw_leaf 18 (s_callV 8 m_CW_refresh 0 21)) (cw_leaf 21 (s_aload 0 22)))) (cw_node 28 (cw_node 25 (cw_leaf 22 (s_get 8 1 25)) (cw_leaf 25 (s_get 7 6 28))) (cw_node 29 (cw_leaf 28 (s_iload 3 29)) (cw_node 30 (cw_leaf 29 (s_ibin (fun x y => x - y) 30)) (cw_leaf 30 (s_iret))))))
def c_CW_nodeValue : Nat → Option cw_S := cw_node 99 (cw_node 77 (cw_node 10 (cw_node 5 (cw_node 1 (cw_leaf 0 (s_aload 0 1)) (cw_node 4 (cw_leaf 1 (s_get 8 1 4)) (cw_leaf 4 (s_iload 1 5)))) (cw_node 8 (cw_leaf 5 (s_callV 7 m_Wires_part 1 8)) (cw_node 9 (cw_leaf 8 (s_astore 3 9)) (cw_leaf 9 (s_iload 2 10))))) (cw_node 72 (cw_node 68 (cw_leaf 10 (s_table 0 [68, 77, 86, 95, 100, 105, 110, 115, 120, 125, 130] 135)) (cw_node 69 (cw_leaf 68 (s_aload 0 69)) (cw_leaf 69 (s_get 8 0 72)))) (cw_node 73 (cw_leaf 72 (s_iload 1 73)) (cw_node 76 (cw_leaf 73 (s_callV 6 m_Tree_leftOf 1 76)) (cw_leaf 76 (s_iret)))))) (cw_node 87 (cw_node 82 (cw_node 78 (cw_leaf 77 (s_aload 0 78)) (cw_node 81 (cw_leaf 78 (s_get 8 0 81)) (cw_leaf 81 (s_iload 1 82)))) (cw_node 85 (cw_leaf 82 (s_callV 6 m_Tree_rightOf 1 85)) (cw_node 86 (cw_leaf 85 (s_iret)) (cw_leaf 86 (s_aload 0 87))))) (cw_node 94 (cw_node 90 (cw_leaf 87 (s_get 8 0 90)) (cw_node 91 (cw_leaf 90 (s_iload 1 91)) (cw_leaf 91 (s_callV 6 m_Tree_parentOf 1 94)))) (cw_node 95 (cw_leaf 94 (s_iret)) (cw_node 96 (cw_leaf 95 (s_aload 3 96)) (cw_leaf 96 (s_get 2 0 99))))))) (cw_node 119 (cw_node 109 (cw_node 104 (cw_node 100 (cw_leaf 99 (s_iret)) (cw_node 101 (cw_leaf 100 (s_aload 3 101)) (cw_leaf 101 (s_get 2 1 104)))) (cw_node 105 (cw_leaf 104 (s_iret)) (cw_node 106 (cw_leaf 105 (s_aload 3 106)) (cw_leaf 106 (s_get 2 2 109))))) (cw_node 114 (cw_node 110 (cw_leaf 109 (s_iret)) (cw_node 111 (cw_leaf 110 (s_aload 3 111)) (cw_leaf 111 (s_get 2 3 114)))) (cw_node 115 (cw_leaf 114 (s_iret)) (cw_node 116 (cw_leaf 115 (s_aload 3 116)) (cw_leaf 116 (s_get 2 4 119)))))) (cw_node 129 (cw_node 124 (cw_node 120 (cw_leaf 119 (s_iret)) (cw_node 121 (cw_leaf 120 (s_aload 3 121)) (cw_leaf 121 (s_get 2 5 124)))) (cw_node 125 (cw_leaf 124 (s_iret)) (cw_node 126 (cw_leaf 125 (s_aload 3 126)) (cw_leaf 126 (s_get 2 6 129))))) (cw_node 134 (cw_node 130 (cw_leaf 129 (s_iret)) (cw_node 131 (cw_leaf 130 (s_aload 3 131)) (cw_leaf 131 (s_get 2 7 134)))) (cw_node 136 (cw_node 135 (cw_leaf 134 (s_iret)) (cw_leaf 135 (s_aload 3 136))) (cw_node 139 (cw_leaf 136 (s_get 2 8 139)) (cw_leaf 139 (s_iret)))))))
def c_CW_totalValue : Nat → Option cw_S := cw_node 53 (cw_node 13 (cw_node 5 (cw_node 1 (cw_leaf 0 (s_iload 1 1)) (cw_node 4 (cw_leaf 1 (s_if (fun x => decide (¬ x = 0)) 12 4)) (cw_leaf 4 (s_aload 0 5)))) (cw_node 11 (cw_node 8 (cw_leaf 5 (s_get 8 1 8)) (cw_leaf 8 (s_get 7 6 11))) (cw_node 12 (cw_leaf 11 (s_iret)) (cw_leaf 12 (s_aload 0 13))))) (cw_node 23 (cw_node 19 (cw_node 16 (cw_leaf 13 (s_get 8 2 16)) (cw_leaf 16 (s_get 3 5 19))) (cw_node 22 (cw_leaf 19 (s_if (fun x => decide (¬ x = 0)) 24 22)) (cw_leaf 22 (s_iconst (-1) 23)))) (cw_node 25 (cw_node 24 (cw_leaf 23 (s_iret)) (cw_leaf 24 (s_iload 1 25))) (cw_node 52 (cw_leaf 25 (s_table 1 [52, 60, 68] 76)) (cw_leaf 52 (s_aload 0 53)))))) (cw_node 68 (cw_node 60 (cw_node 56 (cw_leaf 53 (s_get 8 2 56)) (cw_node 59 (cw_leaf 56 (s_get 3 6 59)) (cw_leaf 59 (s_iret)))) (cw_node 64 (cw_node 61 (cw_leaf 60 (s_aload 0 61)) (cw_leaf 61 (s_get 8 2 64))) (cw_node 67 (cw_leaf 64 (s_get 3 7 67)) (cw_leaf 67 (s_iret))))) (cw_node 76 (cw_node 72 (cw_node 69 (cw_leaf 68 (s_aload 0 69)) (cw_leaf 69 (s_get 8 2 72))) (cw_node 75 (cw_leaf 72 (s_get 3 9 75)) (cw_leaf 75 (s_iret)))) (cw_node 80 (cw_node 77 (cw_leaf 76 (s_aload 0 77)) (cw_leaf 77 (s_get 8 2 80))) (cw_node 83 (cw_leaf 80 (s_get 3 8 83)) (cw_leaf 83 (s_iret))))))
def c_CW_toldValue : Nat → Option cw_S := cw_node 83 (cw_node 63 (cw_node 56 (cw_node 52 (cw_node 1 (cw_leaf 0 (s_iload 1 1)) (cw_leaf 1 (s_table 0 [52, 57, 62, 67, 75, 83, 91, 99, 107] 115))) (cw_node 53 (cw_leaf 52 (s_aload 0 53)) (cw_leaf 53 (s_get 8 6 56)))) (cw_node 58 (cw_node 57 (cw_leaf 56 (s_iret)) (cw_leaf 57 (s_aload 0 58))) (cw_node 61 (cw_leaf 58 (s_get 8 7 61)) (cw_node 62 (cw_leaf 61 (s_iret)) (cw_leaf 62 (s_aload 0 63)))))) (cw_node 74 (cw_node 67 (cw_node 66 (cw_leaf 63 (s_get 8 8 66)) (cw_leaf 66 (s_iret))) (cw_node 68 (cw_leaf 67 (s_aload 0 68)) (cw_node 71 (cw_leaf 68 (s_get 8 0 71)) (cw_leaf 71 (s_get 6 8 74))))) (cw_node 76 (cw_node 75 (cw_leaf 74 (s_iret)) (cw_leaf 75 (s_aload 0 76))) (cw_node 79 (cw_leaf 76 (s_get 8 0 79)) (cw_node 82 (cw_leaf 79 (s_callV 6 m_Tree_jointCount 0 82)) (cw_leaf 82 (s_iret))))))) (cw_node 103 (cw_node 92 (cw_node 87 (cw_node 84 (cw_leaf 83 (s_aload 0 84)) (cw_leaf 84 (s_get 8 0 87))) (cw_node 90 (cw_leaf 87 (s_get 6 9 90)) (cw_node 91 (cw_leaf 90 (s_iret)) (cw_leaf 91 (s_aload 0 92))))) (cw_node 98 (cw_node 95 (cw_leaf 92 (s_get 8 0 95)) (cw_leaf 95 (s_get 6 10 98))) (cw_node 99 (cw_leaf 98 (s_iret)) (cw_node 100 (cw_leaf 99 (s_aload 0 100)) (cw_leaf 100 (s_get 8 0 103)))))) (cw_node 114 (cw_node 107 (cw_node 106 (cw_leaf 103 (s_get 6 11 106)) (cw_leaf 106 (s_iret))) (cw_node 108 (cw_leaf 107 (s_aload 0 108)) (cw_node 111 (cw_leaf 108 (s_get 8 5 111)) (cw_leaf 111 (s_get 5 5 114))))) (cw_node 116 (cw_node 115 (cw_leaf 114 (s_iret)) (cw_leaf 115 (s_aload 0 116))) (cw_node 119 (cw_leaf 116 (s_get 8 4 119)) (cw_node 122 (cw_leaf 119 (s_get 0 2 122)) (cw_leaf 122 (s_iret)))))))
def c_CW_shownByte : Nat → Option cw_S := cw_node 56 (cw_node 29 (cw_node 12 (cw_node 5 (cw_node 2 (cw_node 1 (cw_leaf 0 (s_iload 1 1)) (cw_leaf 1 (s_istore 3 2))) (cw_node 3 (cw_leaf 2 (s_iload 2 3)) (cw_leaf 3 (s_istore 4 5)))) (cw_node 8 (cw_node 6 (cw_leaf 5 (s_iconst 0 6)) (cw_leaf 6 (s_istore 5 8))) (cw_node 10 (cw_leaf 8 (s_iload 5 10)) (cw_leaf 10 (s_iconst 15 12))))) (cw_node 20 (cw_node 16 (cw_node 15 (cw_leaf 12 (s_icmp (fun x y => decide (y ≤ x)) 120 15)) (cw_leaf 15 (s_aload 0 16))) (cw_node 17 (cw_leaf 16 (s_iload 3 17)) (cw_leaf 17 (s_callV 8 m_CW_shownLength 1 20)))) (cw_node 24 (cw_node 22 (cw_leaf 20 (s_istore 6 22)) (cw_leaf 22 (s_iload 4 24))) (cw_node 26 (cw_leaf 24 (s_iload 6 26)) (cw_leaf 26 (s_icmp (fun x y => decide (x < y)) 31 29)))))) (cw_node 41 (cw_node 34 (cw_node 31 (cw_node 30 (cw_leaf 29 (s_iconst (-1) 30)) (cw_leaf 30 (s_iret))) (cw_node 32 (cw_leaf 31 (s_iload 3 32)) (cw_leaf 32 (s_iconst 8 34)))) (cw_node 39 (cw_node 37 (cw_leaf 34 (s_icmp (fun x y => decide (y ≤ x)) 42 37)) (cw_leaf 37 (s_iconst 48 39))) (cw_node 40 (cw_leaf 39 (s_iload 3 40)) (cw_leaf 40 (s_ibin (fun x y => x + y) 41))))) (cw_node 49 (cw_node 44 (cw_node 42 (cw_leaf 41 (s_iret)) (cw_leaf 42 (s_iload 4 44))) (cw_node 47 (cw_leaf 44 (s_if (fun x => decide (¬ x = 0)) 50 47)) (cw_leaf 47 (s_iconst 40 49)))) (cw_node 52 (cw_node 50 (cw_leaf 49 (s_iret)) (cw_leaf 50 (s_iload 4 52))) (cw_node 54 (cw_leaf 52 (s_iload 6 54)) (cw_node 55 (cw_leaf 54 (s_iconst 1 55)) (cw_leaf 55 (s_ibin (fun x y => x - y) 56)))))))) (cw_node 90 (cw_node 71 (cw_node 65 (cw_node 61 (cw_node 59 (cw_leaf 56 (s_icmp (fun x y => decide (¬ x = y)) 62 59)) (cw_leaf 59 (s_iconst 41 61))) (cw_node 62 (cw_leaf 61 (s_iret)) (cw_leaf 62 (s_iinc 4 (-1) 65)))) (cw_node 67 (cw_node 66 (cw_leaf 65 (s_aload 0 66)) (cw_leaf 66 (s_aload 0 67))) (cw_node 70 (cw_leaf 67 (s_get 8 0 70)) (cw_leaf 70 (s_iload 3 71))))) (cw_node 81 (cw_node 77 (cw_node 74 (cw_leaf 71 (s_callV 6 m_Tree_leftOf 1 74)) (cw_leaf 74 (s_callV 8 m_CW_shownLength 1 77))) (cw_node 79 (cw_leaf 77 (s_istore 7 79)) (cw_leaf 79 (s_iload 4 81)))) (cw_node 86 (cw_node 83 (cw_leaf 81 (s_iload 7 83)) (cw_leaf 83 (s_icmp (fun x y => decide (y ≤ x)) 98 86))) (cw_node 87 (cw_leaf 86 (s_aload 0 87)) (cw_leaf 87 (s_get 8 0 90)))))) (cw_node 105 (cw_node 98 (cw_node 94 (cw_node 91 (cw_leaf 90 (s_iload 3 91)) (cw_leaf 91 (s_callV 6 m_Tree_leftOf 1 94))) (cw_node 95 (cw_leaf 94 (s_istore 3 95)) (cw_leaf 95 (s_goto 114)))) (cw_node 102 (cw_node 100 (cw_leaf 98 (s_iload 4 100)) (cw_leaf 100 (s_iload 7 102))) (cw_node 103 (cw_leaf 102 (s_ibin (fun x y => x - y) 103)) (cw_leaf 103 (s_istore 4 105))))) (cw_node 113 (cw_node 109 (cw_node 106 (cw_leaf 105 (s_aload 0 106)) (cw_leaf 106 (s_get 8 0 109))) (cw_node 110 (cw_leaf 109 (s_iload 3 110)) (cw_leaf 110 (s_callV 6 m_Tree_rightOf 1 113)))) (cw_node 117 (cw_node 114 (cw_leaf 113 (s_istore 3 114)) (cw_leaf 114 (s_iinc 5 1 117))) (cw_node 120 (cw_leaf 117 (s_goto 8)) (cw_node 121 (cw_leaf 120 (s_iconst (-1) 121)) (cw_leaf 121 (s_iret))))))))
def c_CW_shownLength : Nat → Option cw_S := cw_node 9 (cw_node 2 (cw_node 1 (cw_leaf 0 (s_iconst 3 1)) (cw_leaf 1 (s_aload 0 2))) (cw_node 5 (cw_leaf 2 (s_get 8 1 5)) (cw_node 6 (cw_leaf 5 (s_iload 1 6)) (cw_leaf 6 (s_callV 7 m_Wires_part 1 9))))) (cw_node 13 (cw_node 12 (cw_leaf 9 (s_get 2 8 12)) (cw_leaf 12 (s_ibin (fun x y => x * y) 13))) (cw_node 14 (cw_leaf 13 (s_iconst 2 14)) (cw_node 15 (cw_leaf 14 (s_ibin (fun x y => x - y) 15)) (cw_leaf 15 (s_iret)))))
def c_CW_isOnGrid : Nat → Option cw_S := cw_node 14 (cw_node 5 (cw_node 1 (cw_leaf 0 (s_iload 0 1)) (cw_node 4 (cw_leaf 1 (s_if (fun x => decide (x < 0)) 24 4)) (cw_leaf 4 (s_iload 0 5)))) (cw_node 10 (cw_node 7 (cw_leaf 5 (s_iconst 63 7)) (cw_leaf 7 (s_icmp (fun x y => decide (y < x)) 24 10))) (cw_node 11 (cw_leaf 10 (s_iload 1 11)) (cw_leaf 11 (s_if (fun x => decide (x < 0)) 24 14))))) (cw_node 20 (cw_node 15 (cw_leaf 14 (s_iload 1 15)) (cw_node 17 (cw_leaf 15 (s_iconst 63 17)) (cw_leaf 17 (s_icmp (fun x y => decide (y < x)) 24 20)))) (cw_node 24 (cw_node 21 (cw_leaf 20 (s_iconst 1 21)) (cw_leaf 21 (s_goto 25))) (cw_node 25 (cw_leaf 24 (s_iconst 0 25)) (cw_leaf 25 (s_zret)))))
def c_CW_isSetting : Nat → Option cw_S := cw_node 21 (cw_node 11 (cw_node 5 (cw_node 1 (cw_leaf 0 (s_iload 0 1)) (cw_node 4 (cw_leaf 1 (s_if (fun x => decide (¬ x = 0)) 20 4)) (cw_leaf 4 (s_iload 1 5)))) (cw_node 8 (cw_leaf 5 (s_if (fun x => decide (x < 0)) 18 8)) (cw_node 9 (cw_leaf 8 (s_iload 1 9)) (cw_leaf 9 (s_iconst 99 11))))) (cw_node 18 (cw_node 14 (cw_leaf 11 (s_icmp (fun x y => decide (y < x)) 18 14)) (cw_node 15 (cw_leaf 14 (s_iconst 1 15)) (cw_leaf 15 (s_goto 19)))) (cw_node 19 (cw_leaf 18 (s_iconst 0 19)) (cw_node 20 (cw_leaf 19 (s_zret)) (cw_leaf 20 (s_iload 0 21)))))) (cw_node 31 (cw_node 26 (cw_node 22 (cw_leaf 21 (s_iconst 1 22)) (cw_node 25 (cw_leaf 22 (s_icmp (fun x y => decide (¬ x = y)) 40 25)) (cw_leaf 25 (s_iload 1 26)))) (cw_node 27 (cw_leaf 26 (s_iconst 1 27)) (cw_node 30 (cw_leaf 27 (s_icmp (fun x y => decide (x < y)) 40 30)) (cw_leaf 30 (s_iload 1 31))))) (cw_node 37 (cw_node 33 (cw_leaf 31 (s_iconst 9 33)) (cw_node 36 (cw_leaf 33 (s_icmp (fun x y => decide (y < x)) 40 36)) (cw_leaf 36 (s_iconst 1 37)))) (cw_node 40 (cw_leaf 37 (s_goto 41)) (cw_node 41 (cw_leaf 40 (s_iconst 0 41)) (cw_leaf 41 (s_zret))))))
def c_CW_gridDistance : Nat → Option cw_S := cw_node 13 (cw_node 6 (cw_node 2 (cw_node 1 (cw_leaf 0 (s_iload 0 1)) (cw_leaf 1 (s_iload 1 2))) (cw_node 3 (cw_leaf 2 (s_ibin (fun x y => x + y) 3)) (cw_node 5 (cw_leaf 3 (s_iconst 65536 5)) (cw_leaf 5 (s_ibin (fun x y => x * y) 6))))) (cw_node 9 (cw_node 7 (cw_leaf 6 (s_iload 0 7)) (cw_node 8 (cw_leaf 7 (s_iload 1 8)) (cw_leaf 8 (s_ibin (fun x y => x - y) 9)))) (cw_node 11 (cw_leaf 9 (s_iconst 65536 11)) (cw_node 12 (cw_leaf 11 (s_ibin (fun x y => x * y) 12)) (cw_leaf 12 (s_iload 2 13)))))) (cw_node 19 (cw_node 15 (cw_node 14 (cw_leaf 13 (s_iload 3 14)) (cw_leaf 14 (s_ibin (fun x y => x + y) 15))) (cw_node 17 (cw_leaf 15 (s_iconst 65536 17)) (cw_node 18 (cw_leaf 17 (s_ibin (fun x y => x * y) 18)) (cw_leaf 18 (s_iload 2 19))))) (cw_node 23 (cw_node 20 (cw_leaf 19 (s_iload 3 20)) (cw_node 21 (cw_leaf 20 (s_ibin (fun x y => x - y) 21)) (cw_leaf 21 (s_iconst 65536 23)))) (cw_node 24 (cw_leaf 23 (s_ibin (fun x y => x * y) 24)) (cw_node 27 (cw_leaf 24 (s_callS m_CW_distance 4 27)) (cw_leaf 27 (s_iret))))))
def c_CW_distance : Nat → Option cw_S := cw_node 7 (cw_node 2 (cw_node 1 (cw_leaf 0 (s_iload 0 1)) (cw_leaf 1 (s_iload 2 2))) (cw_node 3 (cw_leaf 2 (s_ibin (fun x y => x - y) 3)) (cw_node 6 (cw_leaf 3 (s_abs 6)) (cw_leaf 6 (s_iload 1 7))))) (cw_node 9 (cw_node 8 (cw_leaf 7 (s_iload 3 8)) (cw_leaf 8 (s_ibin (fun x y => x - y) 9))) (cw_node 12 (cw_leaf 9 (s_abs 12)) (cw_node 15 (cw_leaf 12 (s_max 15)) (cw_leaf 15 (s_iret)))))
def c_Mo_init : Nat → Option cw_S := cw_node 190 (cw_node 99 (cw_node 55 (cw_node 35 (cw_node 16 (cw_node 6 (cw_node 4 (cw_node 1 (cw_leaf 0 (s_aload 0 1)) (cw_leaf 1 (s_obj 4))) (cw_node 5 (cw_leaf 4 (s_aload 0 5)) (cw_leaf 5 (s_iconst 3 6)))) (cw_node 11 (cw_node 8 (cw_leaf 6 (s_newa 0 8)) (cw_leaf 8 (s_put 9 0 2 11))) (cw_node 12 (cw_leaf 11 (s_aload 0 12)) (cw_node 14 (cw_leaf 12 (s_iconst 32 14)) (cw_leaf 14 (s_newa 0 16)))))) (cw_node 24 (cw_node 20 (cw_node 19 (cw_leaf 16 (s_put 9 2 2 19)) (cw_leaf 19 (s_aload 0 20))) (cw_node 22 (cw_leaf 20 (s_iconst 8 22)) (cw_leaf 22 (s_newa 0 24)))) (cw_node 28 (cw_node 27 (cw_leaf 24 (s_put 9 7 2 27)) (cw_leaf 27 (s_aload 0 28))) (cw_node 30 (cw_leaf 28 (s_iconst 15 30)) (cw_node 32 (cw_leaf 30 (s_newa 0 32)) (cw_leaf 32 (s_put 9 8 2 35))))))) (cw_node 46 (cw_node 41 (cw_node 38 (cw_node 36 (cw_leaf 35 (s_aload 0 36)) (cw_leaf 36 (s_iconst 15 38))) (cw_node 40 (cw_leaf 38 (s_newa 0 40)) (cw_leaf 40 (s_dup 41)))) (cw_node 43 (cw_node 42 (cw_leaf 41 (s_iconst 0 42)) (cw_leaf 42 (s_iconst (-1) 43))) (cw_node 44 (cw_leaf 43 (s_iast 44)) (cw_node 45 (cw_leaf 44 (s_dup 45)) (cw_leaf 45 (s_iconst 1 46)))))) (cw_node 50 (cw_node 48 (cw_node 47 (cw_leaf 46 (s_iconst (-1) 47)) (cw_leaf 47 (s_iast 48))) (cw_node 49 (cw_leaf 48 (s_dup 49)) (cw_leaf 49 (s_iconst 2 50)))) (cw_node 52 (cw_node 51 (cw_leaf 50 (s_iconst (-1) 51)) (cw_leaf 51 (s_iast 52))) (cw_node 53 (cw_leaf 52 (s_dup 53)) (cw_node 54 (cw_leaf 53 (s_iconst 3 54)) (cw_leaf 54 (s_iconst (-1) 55)))))))) (cw_node 75 (cw_node 64 (cw_node 59 (cw_node 57 (cw_node 56 (cw_leaf 55 (s_iast 56)) (cw_leaf 56 (s_dup 57))) (cw_node 58 (cw_leaf 57 (s_iconst 4 58)) (cw_leaf 58 (s_iconst (-1) 59)))) (cw_node 61 (cw_node 60 (cw_leaf 59 (s_iast 60)) (cw_leaf 60 (s_dup 61))) (cw_node 62 (cw_leaf 61 (s_iconst 5 62)) (cw_node 63 (cw_leaf 62 (s_iconst (-1) 63)) (cw_leaf 63 (s_iast 64)))))) (cw_node 69 (cw_node 67 (cw_node 65 (cw_leaf 64 (s_dup 65)) (cw_leaf 65 (s_iconst 6 67))) (cw_node 68 (cw_leaf 67 (s_iconst (-1) 68)) (cw_leaf 68 (s_iast 69)))) (cw_node 72 (cw_node 70 (cw_leaf 69 (s_dup 70)) (cw_leaf 70 (s_iconst 7 72))) (cw_node 73 (cw_leaf 72 (s_iconst (-1) 73)) (cw_node 74 (cw_leaf 73 (s_iast 74)) (cw_leaf 74 (s_dup 75))))))) (cw_node 87 (cw_node 80 (cw_node 78 (cw_node 77 (cw_leaf 75 (s_iconst 8 77)) (cw_leaf 77 (s_iconst (-1) 78))) (cw_node 79 (cw_leaf 78 (s_iast 79)) (cw_leaf 79 (s_dup 80)))) (cw_node 83 (cw_node 82 (cw_leaf 80 (s_iconst 9 82)) (cw_leaf 82 (s_iconst (-1) 83))) (cw_node 84 (cw_leaf 83 (s_iast 84)) (cw_node 85 (cw_leaf 84 (s_dup 85)) (cw_leaf 85 (s_iconst 10 87)))))) (cw_node 93 (cw_node 89 (cw_node 88 (cw_leaf 87 (s_iconst (-1) 88)) (cw_leaf 88 (s_iast 89))) (cw_node 90 (cw_leaf 89 (s_dup 90)) (cw_node 92 (cw_leaf 90 (s_iconst 11 92)) (cw_leaf 92 (s_iconst (-1) 93))))) (cw_node 95 (cw_node 94 (cw_leaf 93 (s_iast 94)) (cw_leaf 94 (s_dup 95))) (cw_node 97 (cw_leaf 95 (s_iconst 12 97)) (cw_node 98 (cw_leaf 97 (s_iconst (-1) 98)) (cw_leaf 98 (s_iast 99))))))))) (cw_node 142 (cw_node 123 (cw_node 112 (cw_node 104 (cw_node 102 (cw_node 100 (cw_leaf 99 (s_dup 100)) (cw_leaf 100 (s_iconst 13 102))) (cw_node 103 (cw_leaf 102 (s_iconst (-1) 103)) (cw_leaf 103 (s_iast 104)))) (cw_node 107 (cw_node 105 (cw_leaf 104 (s_dup 105)) (cw_leaf 105 (s_iconst 14 107))) (cw_node 108 (cw_leaf 107 (s_iconst (-1) 108)) (cw_node 109 (cw_leaf 108 (s_iast 109)) (cw_leaf 109 (s_put 9 9 2 112)))))) (cw_node 118 (cw_node 115 (cw_node 113 (cw_leaf 112 (s_aload 0 113)) (cw_leaf 113 (s_iconst 15 115))) (cw_node 117 (cw_leaf 115 (s_newa 0 117)) (cw_leaf 117 (s_dup 118)))) (cw_node 120 (cw_node 119 (cw_leaf 118 (s_iconst 0 119)) (cw_leaf 119 (s_iconst (-1) 120))) (cw_node 121 (cw_leaf 120 (s_iast 121)) (cw_node 122 (cw_leaf 121 (s_dup 122)) (cw_leaf 122 (s_iconst 1 123))))))) (cw_node 132 (cw_node 127 (cw_node 125 (cw_node 124 (cw_leaf 123 (s_iconst (-1) 124)) (cw_leaf 124 (s_iast 125))) (cw_node 126 (cw_leaf 125 (s_dup 126)) (cw_leaf 126 (s_iconst 2 127)))) (cw_node 129 (cw_node 128 (cw_leaf 127 (s_iconst (-1) 128)) (cw_leaf 128 (s_iast 129))) (cw_node 130 (cw_leaf 129 (s_dup 130)) (cw_node 131 (cw_leaf 130 (s_iconst 3 131)) (cw_leaf 131 (s_iconst (-1) 132)))))) (cw_node 137 (cw_node 134 (cw_node 133 (cw_leaf 132 (s_iast 133)) (cw_leaf 133 (s_dup 134))) (cw_node 135 (cw_leaf 134 (s_iconst 4 135)) (cw_node 136 (cw_leaf 135 (s_iconst (-1) 136)) (cw_leaf 136 (s_iast 137))))) (cw_node 139 (cw_node 138 (cw_leaf 137 (s_dup 138)) (cw_leaf 138 (s_iconst 5 139))) (cw_node 140 (cw_leaf 139 (s_iconst (-1) 140)) (cw_node 141 (cw_leaf 140 (s_iast 141)) (cw_leaf 141 (s_dup 142)))))))) (cw_node 165 (cw_node 154 (cw_node 147 (cw_node 145 (cw_node 144 (cw_leaf 142 (s_iconst 6 144)) (cw_leaf 144 (s_iconst (-1) 145))) (cw_node 146 (cw_leaf 145 (s_iast 146)) (cw_leaf 146 (s_dup 147)))) (cw_node 150 (cw_node 149 (cw_leaf 147 (s_iconst 7 149)) (cw_leaf 149 (s_iconst (-1) 150))) (cw_node 151 (cw_leaf 150 (s_iast 151)) (cw_node 152 (cw_leaf 151 (s_dup 152)) (cw_leaf 152 (s_iconst 8 154)))))) (cw_node 159 (cw_node 156 (cw_node 155 (cw_leaf 154 (s_iconst (-1) 155)) (cw_leaf 155 (s_iast 156))) (cw_node 157 (cw_leaf 156 (s_dup 157)) (cw_leaf 157 (s_iconst 9 159)))) (cw_node 161 (cw_node 160 (cw_leaf 159 (s_iconst (-1) 160)) (cw_leaf 160 (s_iast 161))) (cw_node 162 (cw_leaf 161 (s_dup 162)) (cw_node 164 (cw_leaf 162 (s_iconst 10 164)) (cw_leaf 164 (s_iconst (-1) 165))))))) (cw_node 176 (cw_node 170 (cw_node 167 (cw_node 166 (cw_leaf 165 (s_iast 166)) (cw_leaf 166 (s_dup 167))) (cw_node 169 (cw_leaf 167 (s_iconst 11 169)) (cw_leaf 169 (s_iconst (-1) 170)))) (cw_node 172 (cw_node 171 (cw_leaf 170 (s_iast 171)) (cw_leaf 171 (s_dup 172))) (cw_node 174 (cw_leaf 172 (s_iconst 12 174)) (cw_node 175 (cw_leaf 174 (s_iconst (-1) 175)) (cw_leaf 175 (s_iast 176)))))) (cw_node 182 (cw_node 179 (cw_node 177 (cw_leaf 176 (s_dup 177)) (cw_leaf 177 (s_iconst 13 179))) (cw_node 180 (cw_leaf 179 (s_iconst (-1) 180)) (cw_node 181 (cw_leaf 180 (s_iast 181)) (cw_leaf 181 (s_dup 182))))) (cw_node 185 (cw_node 184 (cw_leaf 182 (s_iconst 14 184)) (cw_leaf 184 (s_iconst (-1) 185))) (cw_node 186 (cw_leaf 185 (s_iast 186)) (cw_node 189 (cw_leaf 186 (s_put 9 10 2 189)) (cw_leaf 189 (s_aload 0 190)))))))))) (cw_node 288 (cw_node 232 (cw_node 210 (cw_node 201 (cw_node 196 (cw_node 194 (cw_node 192 (cw_leaf 190 (s_iconst 15 192)) (cw_leaf 192 (s_newa 0 194))) (cw_node 195 (cw_leaf 194 (s_dup 195)) (cw_leaf 195 (s_iconst 0 196)))) (cw_node 198 (cw_node 197 (cw_leaf 196 (s_iconst (-1) 197)) (cw_leaf 197 (s_iast 198))) (cw_node 199 (cw_leaf 198 (s_dup 199)) (cw_node 200 (cw_leaf 199 (s_iconst 1 200)) (cw_leaf 200 (s_iconst (-1) 201)))))) (cw_node 205 (cw_node 203 (cw_node 202 (cw_leaf 201 (s_iast 202)) (cw_leaf 202 (s_dup 203))) (cw_node 204 (cw_leaf 203 (s_iconst 2 204)) (cw_leaf 204 (s_iconst (-1) 205)))) (cw_node 207 (cw_node 206 (cw_leaf 205 (s_iast 206)) (cw_leaf 206 (s_dup 207))) (cw_node 208 (cw_leaf 207 (s_iconst 3 208)) (cw_node 209 (cw_leaf 208 (s_iconst (-1) 209)) (cw_leaf 209 (s_iast 210))))))) (cw_node 219 (cw_node 214 (cw_node 212 (cw_node 211 (cw_leaf 210 (s_dup 211)) (cw_leaf 211 (s_iconst 4 212))) (cw_node 213 (cw_leaf 212 (s_iconst (-1) 213)) (cw_leaf 213 (s_iast 214)))) (cw_node 216 (cw_node 215 (cw_leaf 214 (s_dup 215)) (cw_leaf 215 (s_iconst 5 216))) (cw_node 217 (cw_leaf 216 (s_iconst (-1) 217)) (cw_node 218 (cw_leaf 217 (s_iast 218)) (cw_leaf 218 (s_dup 219)))))) (cw_node 226 (cw_node 222 (cw_node 221 (cw_leaf 219 (s_iconst 6 221)) (cw_leaf 221 (s_iconst (-1) 222))) (cw_node 223 (cw_leaf 222 (s_iast 223)) (cw_node 224 (cw_leaf 223 (s_dup 224)) (cw_leaf 224 (s_iconst 7 226))))) (cw_node 228 (cw_node 227 (cw_leaf 226 (s_iconst (-1) 227)) (cw_leaf 227 (s_iast 228))) (cw_node 229 (cw_leaf 228 (s_dup 229)) (cw_node 231 (cw_leaf 229 (s_iconst 8 231)) (cw_leaf 231 (s_iconst (-1) 232)))))))) (cw_node 254 (cw_node 243 (cw_node 237 (cw_node 234 (cw_node 233 (cw_leaf 232 (s_iast 233)) (cw_leaf 233 (s_dup 234))) (cw_node 236 (cw_leaf 234 (s_iconst 9 236)) (cw_leaf 236 (s_iconst (-1) 237)))) (cw_node 239 (cw_node 238 (cw_leaf 237 (s_iast 238)) (cw_leaf 238 (s_dup 239))) (cw_node 241 (cw_leaf 239 (s_iconst 10 241)) (cw_node 242 (cw_leaf 241 (s_iconst (-1) 242)) (cw_leaf 242 (s_iast 243)))))) (cw_node 248 (cw_node 246 (cw_node 244 (cw_leaf 243 (s_dup 244)) (cw_leaf 244 (s_iconst 11 246))) (cw_node 247 (cw_leaf 246 (s_iconst (-1) 247)) (cw_leaf 247 (s_iast 248)))) (cw_node 251 (cw_node 249 (cw_leaf 248 (s_dup 249)) (cw_leaf 249 (s_iconst 12 251))) (cw_node 252 (cw_leaf 251 (s_iconst (-1) 252)) (cw_node 253 (cw_leaf 252 (s_iast 253)) (cw_leaf 253 (s_dup 254))))))) (cw_node 267 (cw_node 259 (cw_node 257 (cw_node 256 (cw_leaf 254 (s_iconst 13 256)) (cw_leaf 256 (s_iconst (-1) 257))) (cw_node 258 (cw_leaf 257 (s_iast 258)) (cw_leaf 258 (s_dup 259)))) (cw_node 262 (cw_node 261 (cw_leaf 259 (s_iconst 14 261)) (cw_leaf 261 (s_iconst (-1) 262))) (cw_node 263 (cw_leaf 262 (s_iast 263)) (cw_node 266 (cw_leaf 263 (s_put 9 11 2 266)) (cw_leaf 266 (s_aload 0 267)))))) (cw_node 278 (cw_node 271 (cw_node 269 (cw_leaf 267 (s_iconst 60 269)) (cw_leaf 269 (s_newa 0 271))) (cw_node 274 (cw_leaf 271 (s_put 9 12 2 274)) (cw_node 275 (cw_leaf 274 (s_aload 0 275)) (cw_leaf 275 (s_iconst 704 278))))) (cw_node 283 (cw_node 280 (cw_leaf 278 (s_newa 0 280)) (cw_leaf 280 (s_put 9 14 2 283))) (cw_node 284 (cw_leaf 283 (s_aload 0 284)) (cw_node 286 (cw_leaf 284 (s_iconst 15 286)) (cw_leaf 286 (s_newa 0 288))))))))) (cw_node 363 (cw_node 324 (cw_node 307 (cw_node 296 (cw_node 292 (cw_node 291 (cw_leaf 288 (s_put 9 15 2 291)) (cw_leaf 291 (s_aload 0 292))) (cw_node 294 (cw_leaf 292 (s_iconst 15 294)) (cw_leaf 294 (s_newa 0 296)))) (cw_node 300 (cw_node 299 (cw_leaf 296 (s_put 9 16 2 299)) (cw_leaf 299 (s_aload 0 300))) (cw_node 302 (cw_leaf 300 (s_iconst 15 302)) (cw_node 304 (cw_leaf 302 (s_newa 0 304)) (cw_leaf 304 (s_put 9 17 2 307)))))) (cw_node 315 (cw_node 310 (cw_node 308 (cw_leaf 307 (s_aload 0 308)) (cw_leaf 308 (s_iconst 15 310))) (cw_node 312 (cw_leaf 310 (s_newa 0 312)) (cw_leaf 312 (s_put 9 18 2 315)))) (cw_node 318 (cw_node 316 (cw_leaf 315 (s_aload 0 316)) (cw_leaf 316 (s_iconst 15 318))) (cw_node 320 (cw_leaf 318 (s_newa 0 320)) (cw_node 323 (cw_leaf 320 (s_put 9 19 2 323)) (cw_leaf 323 (s_aload 0 324))))))) (cw_node 342 (cw_node 332 (cw_node 328 (cw_node 326 (cw_leaf 324 (s_iconst 15 326)) (cw_leaf 326 (s_newa 0 328))) (cw_node 331 (cw_leaf 328 (s_put 9 20 2 331)) (cw_leaf 331 (s_aload 0 332)))) (cw_node 336 (cw_node 334 (cw_leaf 332 (s_iconst 15 334)) (cw_leaf 334 (s_newa 0 336))) (cw_node 339 (cw_leaf 336 (s_put 9 21 2 339)) (cw_node 340 (cw_leaf 339 (s_aload 0 340)) (cw_leaf 340 (s_iconst 15 342)))))) (cw_node 352 (cw_node 347 (cw_node 344 (cw_leaf 342 (s_newa 0 344)) (cw_leaf 344 (s_put 9 22 2 347))) (cw_node 348 (cw_leaf 347 (s_aload 0 348)) (cw_node 350 (cw_leaf 348 (s_iconst 15 350)) (cw_leaf 350 (s_newa 0 352))))) (cw_node 356 (cw_node 355 (cw_leaf 352 (s_put 9 23 2 355)) (cw_leaf 355 (s_aload 0 356))) (cw_node 358 (cw_leaf 356 (s_iconst 15 358)) (cw_node 360 (cw_leaf 358 (s_newa 0 360)) (cw_leaf 360 (s_put 9 24 2 363)))))))) (cw_node 398 (cw_node 380 (cw_node 371 (cw_node 366 (cw_node 364 (cw_leaf 363 (s_aload 0 364)) (cw_leaf 364 (s_iconst 15 366))) (cw_node 368 (cw_leaf 366 (s_newa 0 368)) (cw_leaf 368 (s_put 9 29 2 371)))) (cw_node 374 (cw_node 372 (cw_leaf 371 (s_aload 0 372)) (cw_leaf 372 (s_iconst 15 374))) (cw_node 376 (cw_leaf 374 (s_newa 0 376)) (cw_node 379 (cw_leaf 376 (s_put 9 30 2 379)) (cw_leaf 379 (s_aload 0 380)))))) (cw_node 388 (cw_node 384 (cw_node 382 (cw_leaf 380 (s_iconst 15 382)) (cw_leaf 382 (s_newa 0 384))) (cw_node 387 (cw_leaf 384 (s_put 9 31 2 387)) (cw_leaf 387 (s_aload 0 388)))) (cw_node 392 (cw_node 390 (cw_leaf 388 (s_iconst 15 390)) (cw_leaf 390 (s_newa 0 392))) (cw_node 395 (cw_leaf 392 (s_put 9 34 2 395)) (cw_node 396 (cw_leaf 395 (s_aload 0 396)) (cw_leaf 396 (s_iconst 60 398))))))) (cw_node 416 (cw_node 406 (cw_node 403 (cw_node 400 (cw_leaf 398 (s_newa 0 400)) (cw_leaf 400 (s_put 9 35 2 403))) (cw_node 404 (cw_leaf 403 (s_aload 0 404)) (cw_leaf 404 (s_iconst 60 406)))) (cw_node 411 (cw_node 408 (cw_leaf 406 (s_newa 0 408)) (cw_leaf 408 (s_put 9 38 2 411))) (cw_node 412 (cw_leaf 411 (s_aload 0 412)) (cw_node 414 (cw_leaf 412 (s_iconst 8 414)) (cw_leaf 414 (s_newa 0 416)))))) (cw_node 427 (cw_node 420 (cw_node 419 (cw_leaf 416 (s_put 9 41 2 419)) (cw_leaf 419 (s_aload 0 420))) (cw_node 422 (cw_leaf 420 (s_iconst 60 422)) (cw_node 424 (cw_leaf 422 (s_newa 0 424)) (cw_leaf 424 (s_put 9 43 2 427))))) (cw_node 430 (cw_node 428 (cw_leaf 427 (s_aload 0 428)) (cw_leaf 428 (s_iconst 60 430))) (cw_node 432 (cw_leaf 430 (s_newa 0 432)) (cw_node 435 (cw_leaf 432 (s_put 9 44 2 435)) (cw_leaf 435 (s_vret))))))))))
def c_Mo_bad : Nat → Option cw_S := cw_node 7 (cw_node 4 (cw_node 1 (cw_leaf 0 (s_aload 0 1)) (cw_leaf 1 (s_get 9 0 4))) (cw_node 5 (cw_leaf 4 (s_iconst 0 5)) (cw_node 6 (cw_leaf 5 (s_dup2 6)) (cw_leaf 6 (s_iald 7))))) (cw_node 9 (cw_node 8 (cw_leaf 7 (s_iconst 1 8)) (cw_leaf 8 (s_ibin (fun x y => x + y) 9))) (cw_node 10 (cw_leaf 9 (s_iast 10)) (cw_node 12 (cw_leaf 10 (s_iconst (-2) 12)) (cw_leaf 12 (s_iret)))))
def c_Mo_no : Nat → Option cw_S := cw_node 7 (cw_node 4 (cw_node 1 (cw_leaf 0 (s_aload 0 1)) (cw_leaf 1 (s_get 9 0 4))) (cw_node 5 (cw_leaf 4 (s_iconst 1 5)) (cw_node 6 (cw_leaf 5 (s_dup2 6)) (cw_leaf 6 (s_iald 7))))) (cw_node 9 (cw_node 8 (cw_leaf 7 (s_iconst 1 8)) (cw_leaf 8 (s_ibin (fun x y => x + y) 9))) (cw_node 10 (cw_leaf 9 (s_iast 10)) (cw_node 12 (cw_leaf 10 (s_iconst (-3) 12)) (cw_leaf 12 (s_iret)))))
def c_Mo_full : Nat → Option cw_S := cw_node 7 (cw_node 4 (cw_node 1 (cw_leaf 0 (s_aload 0 1)) (cw_leaf 1 (s_get 9 0 4))) (cw_node 5 (cw_leaf 4 (s_iconst 2 5)) (cw_node 6 (cw_leaf 5 (s_dup2 6)) (cw_leaf 6 (s_iald 7))))) (cw_node 9 (cw_node 8 (cw_leaf 7 (s_iconst 1 8)) (cw_leaf 8 (s_ibin (fun x y => x + y) 9))) (cw_node 10 (cw_leaf 9 (s_iast 10)) (cw_node 12 (cw_leaf 10 (s_iconst (-4) 12)) (cw_leaf 12 (s_iret)))))
def c_Mo_in : Nat → Option cw_S := cw_node 7 (cw_node 2 (cw_node 1 (cw_leaf 0 (s_iload 0 1)) (cw_leaf 1 (s_iload 1 2))) (cw_node 5 (cw_leaf 2 (s_icmp (fun x y => decide (x < y)) 14 5)) (cw_node 6 (cw_leaf 5 (s_iload 0 6)) (cw_leaf 6 (s_iload 2 7))))) (cw_node 11 (cw_node 10 (cw_leaf 7 (s_icmp (fun x y => decide (y < x)) 14 10)) (cw_leaf 10 (s_iconst 1 11))) (cw_node 14 (cw_leaf 11 (s_goto 15)) (cw_node 15 (cw_leaf 14 (s_iconst 0 15)) (cw_leaf 15 (s_zret)))))
def c_Mo_greater : Nat → Option cw_S := cw_node 5 (cw_node 1 (cw_leaf 0 (s_iload 0 1)) (cw_node 2 (cw_leaf 1 (s_iload 1 2)) (cw_leaf 2 (s_icmp (fun x y => decide (x ≤ y)) 9 5)))) (cw_node 9 (cw_node 6 (cw_leaf 5 (s_iload 0 6)) (cw_leaf 6 (s_goto 10))) (cw_node 10 (cw_leaf 9 (s_iload 1 10)) (cw_leaf 10 (s_iret))))
def c_Mo_lesser : Nat → Option cw_S := cw_node 5 (cw_node 1 (cw_leaf 0 (s_iload 0 1)) (cw_node 2 (cw_leaf 1 (s_iload 1 2)) (cw_leaf 2 (s_icmp (fun x y => decide (y ≤ x)) 9 5)))) (cw_node 9 (cw_node 6 (cw_leaf 5 (s_iload 0 6)) (cw_leaf 6 (s_goto 10))) (cw_node 10 (cw_leaf 9 (s_iload 1 10)) (cw_leaf 10 (s_iret))))
def c_Mo_size : Nat → Option cw_S := cw_node 5 (cw_node 1 (cw_leaf 0 (s_iload 0 1)) (cw_node 4 (cw_leaf 1 (s_if (fun x => decide (0 ≤ x)) 9 4)) (cw_leaf 4 (s_iload 0 5)))) (cw_node 9 (cw_node 6 (cw_leaf 5 (s_ineg 6)) (cw_leaf 6 (s_goto 10))) (cw_node 10 (cw_leaf 9 (s_iload 0 10)) (cw_leaf 10 (s_iret))))
def c_Mo_isSink : Nat → Option cw_S := cw_node 6 (cw_node 2 (cw_node 1 (cw_leaf 0 (s_iload 1 1)) (cw_leaf 1 (s_iconst 0 2))) (cw_node 3 (cw_leaf 2 (s_aload 0 3)) (cw_leaf 3 (s_get 9 1 6)))) (cw_node 8 (cw_node 7 (cw_leaf 6 (s_iconst 1 7)) (cw_leaf 7 (s_ibin (fun x y => x - y) 8))) (cw_node 11 (cw_leaf 8 (s_callS m_Mo_in 3 11)) (cw_leaf 11 (s_zret))))
def c_Mo_isNode : Nat → Option cw_S := cw_node 14 (cw_node 4 (cw_node 1 (cw_leaf 0 (s_iload 1 1)) (cw_node 2 (cw_leaf 1 (s_iconst 0 2)) (cw_leaf 2 (s_iconst 14 4)))) (cw_node 10 (cw_node 7 (cw_leaf 4 (s_callS m_Mo_in 3 7)) (cw_leaf 7 (s_if (fun x => decide (x = 0)) 24 10))) (cw_node 11 (cw_leaf 10 (s_aload 0 11)) (cw_leaf 11 (s_get 9 8 14))))) (cw_node 20 (cw_node 16 (cw_node 15 (cw_leaf 14 (s_iload 1 15)) (cw_leaf 15 (s_iald 16))) (cw_node 17 (cw_leaf 16 (s_iconst 1 17)) (cw_leaf 17 (s_icmp (fun x y => decide (¬ x = y)) 24 20)))) (cw_node 24 (cw_node 21 (cw_leaf 20 (s_iconst 1 21)) (cw_leaf 21 (s_goto 25))) (cw_node 25 (cw_leaf 24 (s_iconst 0 25)) (cw_leaf 25 (s_zret)))))
def c_Mo_isSpot : Nat → Option cw_S := cw_node 12 (cw_node 4 (cw_node 1 (cw_leaf 0 (s_iload 0 1)) (cw_node 2 (cw_leaf 1 (s_iconst 0 2)) (cw_leaf 2 (s_iconst 63 4)))) (cw_node 10 (cw_node 7 (cw_leaf 4 (s_callS m_Mo_in 3 7)) (cw_leaf 7 (s_if (fun x => decide (x = 0)) 24 10))) (cw_node 11 (cw_leaf 10 (s_iload 1 11)) (cw_leaf 11 (s_iconst 0 12))))) (cw_node 20 (cw_node 14 (cw_leaf 12 (s_iconst 63 14)) (cw_node 17 (cw_leaf 14 (s_callS m_Mo_in 3 17)) (cw_leaf 17 (s_if (fun x => decide (x = 0)) 24 20)))) (cw_node 24 (cw_node 21 (cw_leaf 20 (s_iconst 1 21)) (cw_leaf 21 (s_goto 25))) (cw_node 25 (cw_leaf 24 (s_iconst 0 25)) (cw_leaf 25 (s_zret)))))
def c_Mo_isTop : Nat → Option cw_S := cw_node 7 (cw_node 4 (cw_node 1 (cw_leaf 0 (s_aload 0 1)) (cw_leaf 1 (s_get 9 11 4))) (cw_node 5 (cw_leaf 4 (s_iload 1 5)) (cw_node 6 (cw_leaf 5 (s_iald 6)) (cw_leaf 6 (s_iconst (-1) 7))))) (cw_node 11 (cw_node 10 (cw_leaf 7 (s_icmp (fun x y => decide (¬ x = y)) 14 10)) (cw_leaf 10 (s_iconst 1 11))) (cw_node 14 (cw_leaf 11 (s_goto 15)) (cw_node 15 (cw_leaf 14 (s_iconst 0 15)) (cw_leaf 15 (s_zret)))))
def c_Mo_topMany : Nat → Option cw_S := cw_node 18 (cw_node 7 (cw_node 3 (cw_node 1 (cw_leaf 0 (s_iconst 0 1)) (cw_node 2 (cw_leaf 1 (s_istore 1 2)) (cw_leaf 2 (s_iconst 0 3)))) (cw_node 4 (cw_leaf 3 (s_istore 2 4)) (cw_node 5 (cw_leaf 4 (s_iload 2 5)) (cw_leaf 5 (s_iconst 15 7))))) (cw_node 12 (cw_node 10 (cw_leaf 7 (s_icmp (fun x y => decide (y ≤ x)) 42 10)) (cw_node 11 (cw_leaf 10 (s_iload 1 11)) (cw_leaf 11 (s_aload 0 12)))) (cw_node 16 (cw_node 15 (cw_leaf 12 (s_get 9 8 15)) (cw_leaf 15 (s_iload 2 16))) (cw_node 17 (cw_leaf 16 (s_iald 17)) (cw_leaf 17 (s_iconst 1 18)))))) (cw_node 33 (cw_node 23 (cw_node 21 (cw_leaf 18 (s_icmp (fun x y => decide (¬ x = y)) 33 21)) (cw_node 22 (cw_leaf 21 (s_aload 0 22)) (cw_leaf 22 (s_iload 2 23)))) (cw_node 29 (cw_node 26 (cw_leaf 23 (s_callV 9 m_Mo_isTop 1 26)) (cw_leaf 26 (s_if (fun x => decide (x = 0)) 33 29))) (cw_node 30 (cw_leaf 29 (s_iconst 1 30)) (cw_leaf 30 (s_goto 34))))) (cw_node 36 (cw_node 34 (cw_leaf 33 (s_iconst 0 34)) (cw_node 35 (cw_leaf 34 (s_ibin (fun x y => x + y) 35)) (cw_leaf 35 (s_istore 1 36)))) (cw_node 42 (cw_node 39 (cw_leaf 36 (s_iinc 2 1 39)) (cw_leaf 39 (s_goto 4))) (cw_node 43 (cw_leaf 42 (s_iload 1 43)) (cw_leaf 43 (s_iret))))))
def c_Mo_isWithin : Nat → Option cw_S := cw_node 16 (cw_node 7 (cw_node 2 (cw_node 1 (cw_leaf 0 (s_iload 1 1)) (cw_leaf 1 (s_istore 3 2))) (cw_node 3 (cw_leaf 2 (s_iload 3 3)) (cw_node 4 (cw_leaf 3 (s_iconst (-1) 4)) (cw_leaf 4 (s_icmp (fun x y => decide (x = y)) 22 7))))) (cw_node 9 (cw_node 8 (cw_leaf 7 (s_iload 3 8)) (cw_leaf 8 (s_iload 2 9))) (cw_node 12 (cw_leaf 9 (s_icmp (fun x y => decide (x = y)) 22 12)) (cw_node 13 (cw_leaf 12 (s_aload 0 13)) (cw_leaf 13 (s_get 9 11 16)))))) (cw_node 23 (cw_node 18 (cw_node 17 (cw_leaf 16 (s_iload 3 17)) (cw_leaf 17 (s_iald 18))) (cw_node 19 (cw_leaf 18 (s_istore 3 19)) (cw_node 22 (cw_leaf 19 (s_goto 2)) (cw_leaf 22 (s_iload 3 23))))) (cw_node 28 (cw_node 24 (cw_leaf 23 (s_iload 2 24)) (cw_node 27 (cw_leaf 24 (s_icmp (fun x y => decide (¬ x = y)) 31 27)) (cw_leaf 27 (s_iconst 1 28)))) (cw_node 31 (cw_leaf 28 (s_goto 32)) (cw_node 32 (cw_leaf 31 (s_iconst 0 32)) (cw_leaf 32 (s_zret))))))
def c_Mo_replaces : Nat → Option cw_S := cw_node 23 (cw_node 9 (cw_node 5 (cw_node 1 (cw_leaf 0 (s_aload 0 1)) (cw_node 4 (cw_leaf 1 (s_get 9 11 4)) (cw_leaf 4 (s_iload 1 5)))) (cw_node 7 (cw_node 6 (cw_leaf 5 (s_iald 6)) (cw_leaf 6 (s_istore 3 7))) (cw_node 8 (cw_leaf 7 (s_iload 3 8)) (cw_leaf 8 (s_iconst (-1) 9))))) (cw_node 17 (cw_node 13 (cw_node 12 (cw_leaf 9 (s_icmp (fun x y => decide (x = y)) 39 12)) (cw_leaf 12 (s_aload 0 13))) (cw_node 16 (cw_leaf 13 (s_get 9 9 16)) (cw_leaf 16 (s_iload 3 17)))) (cw_node 19 (cw_node 18 (cw_leaf 17 (s_iald 18)) (cw_leaf 18 (s_iload 1 19))) (cw_node 22 (cw_leaf 19 (s_icmp (fun x y => decide (¬ x = y)) 32 22)) (cw_leaf 22 (s_aload 0 23)))))) (cw_node 37 (cw_node 29 (cw_node 27 (cw_node 26 (cw_leaf 23 (s_get 9 9 26)) (cw_leaf 26 (s_iload 3 27))) (cw_node 28 (cw_leaf 27 (s_iload 2 28)) (cw_leaf 28 (s_iast 29)))) (cw_node 33 (cw_node 32 (cw_leaf 29 (s_goto 39)) (cw_leaf 32 (s_aload 0 33))) (cw_node 36 (cw_leaf 33 (s_get 9 10 36)) (cw_leaf 36 (s_iload 3 37))))) (cw_node 43 (cw_node 39 (cw_node 38 (cw_leaf 37 (s_iload 2 38)) (cw_leaf 38 (s_iast 39))) (cw_node 40 (cw_leaf 39 (s_aload 0 40)) (cw_leaf 40 (s_get 9 11 43)))) (cw_node 45 (cw_node 44 (cw_leaf 43 (s_iload 2 44)) (cw_leaf 44 (s_iload 3 45))) (cw_node 46 (cw_leaf 45 (s_iast 46)) (cw_leaf 46 (s_vret))))))
def c_Mo_comes : Nat → Option cw_S := cw_node 20 (cw_node 8 (cw_node 3 (cw_node 2 (cw_leaf 0 (s_iconst 8 2)) (cw_leaf 2 (s_istore 1 3))) (cw_node 4 (cw_leaf 3 (s_aload 0 4)) (cw_node 7 (cw_leaf 4 (s_get 9 8 7)) (cw_leaf 7 (s_iload 1 8))))) (cw_node 13 (cw_node 9 (cw_leaf 8 (s_iald 9)) (cw_node 10 (cw_leaf 9 (s_iconst 1 10)) (cw_leaf 10 (s_icmp (fun x y => decide (¬ x = y)) 19 13)))) (cw_node 16 (cw_leaf 13 (s_iinc 1 1 16)) (cw_node 19 (cw_leaf 16 (s_goto 3)) (cw_leaf 19 (s_aload 0 20)))))) (cw_node 27 (cw_node 24 (cw_node 23 (cw_leaf 20 (s_get 9 8 23)) (cw_leaf 23 (s_iload 1 24))) (cw_node 25 (cw_leaf 24 (s_iconst 1 25)) (cw_node 26 (cw_leaf 25 (s_iast 26)) (cw_leaf 26 (s_aload 0 27))))) (cw_node 32 (cw_node 30 (cw_leaf 27 (s_get 9 11 30)) (cw_node 31 (cw_leaf 30 (s_iload 1 31)) (cw_leaf 31 (s_iconst (-1) 32)))) (cw_node 33 (cw_leaf 32 (s_iast 33)) (cw_node 34 (cw_leaf 33 (s_iload 1 34)) (cw_leaf 34 (s_iret))))))
def c_Mo_lays : Nat → Option cw_S := cw_node 22 (cw_node 11 (cw_node 5 (cw_node 1 (cw_leaf 0 (s_aload 0 1)) (cw_node 4 (cw_leaf 1 (s_callV 9 m_Mo_comes 0 4)) (cw_leaf 4 (s_istore 3 5)))) (cw_node 7 (cw_node 6 (cw_leaf 5 (s_aload 0 6)) (cw_leaf 6 (s_iload 1 7))) (cw_node 8 (cw_leaf 7 (s_iload 3 8)) (cw_leaf 8 (s_callV 9 m_Mo_replaces 2 11))))) (cw_node 16 (cw_node 12 (cw_leaf 11 (s_aload 0 12)) (cw_node 15 (cw_leaf 12 (s_get 9 9 15)) (cw_leaf 15 (s_iload 3 16)))) (cw_node 18 (cw_node 17 (cw_leaf 16 (s_iload 1 17)) (cw_leaf 17 (s_iast 18))) (cw_node 19 (cw_leaf 18 (s_aload 0 19)) (cw_leaf 19 (s_get 9 10 22)))))) (cw_node 31 (cw_node 25 (cw_node 23 (cw_leaf 22 (s_iload 3 23)) (cw_node 24 (cw_leaf 23 (s_iload 2 24)) (cw_leaf 24 (s_iast 25)))) (cw_node 29 (cw_node 26 (cw_leaf 25 (s_aload 0 26)) (cw_leaf 26 (s_get 9 11 29))) (cw_node 30 (cw_leaf 29 (s_iload 1 30)) (cw_leaf 30 (s_iload 3 31))))) (cw_node 37 (cw_node 33 (cw_node 32 (cw_leaf 31 (s_iast 32)) (cw_leaf 32 (s_aload 0 33))) (cw_node 36 (cw_leaf 33 (s_get 9 11 36)) (cw_leaf 36 (s_iload 2 37)))) (cw_node 39 (cw_node 38 (cw_leaf 37 (s_iload 3 38)) (cw_leaf 38 (s_iast 39))) (cw_node 40 (cw_leaf 39 (s_iload 3 40)) (cw_leaf 40 (s_iret))))))
def c_Mo_goes : Nat → Option cw_S := cw_node 14 (cw_node 7 (cw_node 4 (cw_node 1 (cw_leaf 0 (s_aload 0 1)) (cw_leaf 1 (s_get 9 8 4))) (cw_node 5 (cw_leaf 4 (s_iload 1 5)) (cw_node 6 (cw_leaf 5 (s_iconst 0 6)) (cw_leaf 6 (s_iast 7))))) (cw_node 11 (cw_node 8 (cw_leaf 7 (s_aload 0 8)) (cw_leaf 8 (s_get 9 9 11))) (cw_node 12 (cw_leaf 11 (s_iload 1 12)) (cw_node 13 (cw_leaf 12 (s_iconst (-1) 13)) (cw_leaf 13 (s_iast 14)))))) (cw_node 21 (cw_node 18 (cw_node 15 (cw_leaf 14 (s_aload 0 15)) (cw_leaf 15 (s_get 9 10 18))) (cw_node 19 (cw_leaf 18 (s_iload 1 19)) (cw_node 20 (cw_leaf 19 (s_iconst (-1) 20)) (cw_leaf 20 (s_iast 21))))) (cw_node 26 (cw_node 22 (cw_leaf 21 (s_aload 0 22)) (cw_node 25 (cw_leaf 22 (s_get 9 11 25)) (cw_leaf 25 (s_iload 1 26)))) (cw_node 27 (cw_leaf 26 (s_iconst (-1) 27)) (cw_node 28 (cw_leaf 27 (s_iast 28)) (cw_leaf 28 (s_vret))))))
def c_Mo_takesOff : Nat → Option cw_S := cw_node 27 (cw_node 12 (cw_node 6 (cw_node 4 (cw_node 1 (cw_leaf 0 (s_aload 0 1)) (cw_leaf 1 (s_get 9 11 4))) (cw_node 5 (cw_leaf 4 (s_iload 1 5)) (cw_leaf 5 (s_iald 6)))) (cw_node 8 (cw_node 7 (cw_leaf 6 (s_istore 2 7)) (cw_leaf 7 (s_aload 0 8))) (cw_node 11 (cw_leaf 8 (s_get 9 9 11)) (cw_leaf 11 (s_iload 2 12))))) (cw_node 18 (cw_node 14 (cw_node 13 (cw_leaf 12 (s_iald 13)) (cw_leaf 13 (s_iload 1 14))) (cw_node 17 (cw_leaf 14 (s_icmp (fun x y => decide (¬ x = y)) 26 17)) (cw_leaf 17 (s_aload 0 18)))) (cw_node 22 (cw_node 21 (cw_leaf 18 (s_get 9 10 21)) (cw_leaf 21 (s_iload 2 22))) (cw_node 23 (cw_leaf 22 (s_iald 23)) (cw_node 26 (cw_leaf 23 (s_goto 32)) (cw_leaf 26 (s_aload 0 27))))))) (cw_node 40 (cw_node 33 (cw_node 31 (cw_node 30 (cw_leaf 27 (s_get 9 9 30)) (cw_leaf 30 (s_iload 2 31))) (cw_node 32 (cw_leaf 31 (s_iald 32)) (cw_leaf 32 (s_istore 3 33)))) (cw_node 35 (cw_node 34 (cw_leaf 33 (s_aload 0 34)) (cw_leaf 34 (s_iload 2 35))) (cw_node 36 (cw_leaf 35 (s_iload 3 36)) (cw_node 39 (cw_leaf 36 (s_callV 9 m_Mo_replaces 2 39)) (cw_leaf 39 (s_aload 0 40)))))) (cw_node 46 (cw_node 44 (cw_node 43 (cw_leaf 40 (s_get 9 11 43)) (cw_leaf 43 (s_iload 1 44))) (cw_node 45 (cw_leaf 44 (s_iconst (-1) 45)) (cw_leaf 45 (s_iast 46)))) (cw_node 48 (cw_node 47 (cw_leaf 46 (s_aload 0 47)) (cw_leaf 47 (s_iload 2 48))) (cw_node 51 (cw_leaf 48 (s_callV 9 m_Mo_goes 1 51)) (cw_node 52 (cw_leaf 51 (s_iload 2 52)) (cw_leaf 52 (s_iret)))))))
def c_Mo_canExchange : Nat → Option cw_S := cw_node 27 (cw_node 14 (cw_node 6 (cw_node 4 (cw_node 1 (cw_leaf 0 (s_aload 0 1)) (cw_leaf 1 (s_get 9 11 4))) (cw_node 5 (cw_leaf 4 (s_iload 1 5)) (cw_leaf 5 (s_iald 6)))) (cw_node 10 (cw_node 7 (cw_leaf 6 (s_iconst (-1) 7)) (cw_leaf 7 (s_icmp (fun x y => decide (x = y)) 57 10))) (cw_node 11 (cw_leaf 10 (s_aload 0 11)) (cw_leaf 11 (s_get 9 11 14))))) (cw_node 20 (cw_node 16 (cw_node 15 (cw_leaf 14 (s_iload 2 15)) (cw_leaf 15 (s_iald 16))) (cw_node 17 (cw_leaf 16 (s_iconst (-1) 17)) (cw_leaf 17 (s_icmp (fun x y => decide (x = y)) 57 20)))) (cw_node 24 (cw_node 21 (cw_leaf 20 (s_aload 0 21)) (cw_leaf 21 (s_get 9 11 24))) (cw_node 25 (cw_leaf 24 (s_iload 1 25)) (cw_node 26 (cw_leaf 25 (s_iald 26)) (cw_leaf 26 (s_aload 0 27))))))) (cw_node 44 (cw_node 35 (cw_node 31 (cw_node 30 (cw_leaf 27 (s_get 9 11 30)) (cw_leaf 30 (s_iload 2 31))) (cw_node 32 (cw_leaf 31 (s_iald 32)) (cw_leaf 32 (s_icmp (fun x y => decide (x = y)) 57 35)))) (cw_node 37 (cw_node 36 (cw_leaf 35 (s_aload 0 36)) (cw_leaf 36 (s_iload 1 37))) (cw_node 38 (cw_leaf 37 (s_iload 2 38)) (cw_node 41 (cw_leaf 38 (s_callV 9 m_Mo_isWithin 2 41)) (cw_leaf 41 (s_if (fun x => decide (¬ x = 0)) 57 44)))))) (cw_node 50 (cw_node 46 (cw_node 45 (cw_leaf 44 (s_aload 0 45)) (cw_leaf 45 (s_iload 2 46))) (cw_node 47 (cw_leaf 46 (s_iload 1 47)) (cw_leaf 47 (s_callV 9 m_Mo_isWithin 2 50)))) (cw_node 54 (cw_node 53 (cw_leaf 50 (s_if (fun x => decide (¬ x = 0)) 57 53)) (cw_leaf 53 (s_iconst 1 54))) (cw_node 57 (cw_leaf 54 (s_goto 58)) (cw_node 58 (cw_leaf 57 (s_iconst 0 58)) (cw_leaf 58 (s_zret)))))))
def c_Mo_swaps : Nat → Option cw_S := cw_node 56 (cw_node 25 (cw_node 12 (cw_node 6 (cw_node 4 (cw_node 1 (cw_leaf 0 (s_aload 0 1)) (cw_leaf 1 (s_get 9 11 4))) (cw_node 5 (cw_leaf 4 (s_iload 1 5)) (cw_leaf 5 (s_iald 6)))) (cw_node 8 (cw_node 7 (cw_leaf 6 (s_istore 3 7)) (cw_leaf 7 (s_aload 0 8))) (cw_node 11 (cw_leaf 8 (s_get 9 11 11)) (cw_leaf 11 (s_iload 2 12))))) (cw_node 19 (cw_node 15 (cw_node 13 (cw_leaf 12 (s_iald 13)) (cw_leaf 13 (s_istore 4 15))) (cw_node 16 (cw_leaf 15 (s_aload 0 16)) (cw_leaf 16 (s_get 9 9 19)))) (cw_node 21 (cw_node 20 (cw_leaf 19 (s_iload 3 20)) (cw_leaf 20 (s_iald 21))) (cw_node 22 (cw_leaf 21 (s_iload 1 22)) (cw_leaf 22 (s_icmp (fun x y => decide (¬ x = y)) 29 25)))))) (cw_node 39 (cw_node 32 (cw_node 29 (cw_node 26 (cw_leaf 25 (s_iconst 1 26)) (cw_leaf 26 (s_goto 30))) (cw_node 30 (cw_leaf 29 (s_iconst 0 30)) (cw_leaf 30 (s_istore 5 32)))) (cw_node 36 (cw_node 33 (cw_leaf 32 (s_aload 0 33)) (cw_leaf 33 (s_get 9 9 36))) (cw_node 38 (cw_leaf 36 (s_iload 4 38)) (cw_leaf 38 (s_iald 39))))) (cw_node 47 (cw_node 43 (cw_node 40 (cw_leaf 39 (s_iload 2 40)) (cw_leaf 40 (s_icmp (fun x y => decide (¬ x = y)) 47 43))) (cw_node 44 (cw_leaf 43 (s_iconst 1 44)) (cw_leaf 44 (s_goto 48)))) (cw_node 50 (cw_node 48 (cw_leaf 47 (s_iconst 0 48)) (cw_leaf 48 (s_istore 6 50))) (cw_node 52 (cw_leaf 50 (s_iload 5 52)) (cw_node 55 (cw_leaf 52 (s_if (fun x => decide (x = 0)) 65 55)) (cw_leaf 55 (s_aload 0 56)))))))) (cw_node 85 (cw_node 70 (cw_node 62 (cw_node 60 (cw_node 59 (cw_leaf 56 (s_get 9 9 59)) (cw_leaf 59 (s_iload 3 60))) (cw_node 61 (cw_leaf 60 (s_iload 2 61)) (cw_leaf 61 (s_iast 62)))) (cw_node 66 (cw_node 65 (cw_leaf 62 (s_goto 72)) (cw_leaf 65 (s_aload 0 66))) (cw_node 69 (cw_leaf 66 (s_get 9 10 69)) (cw_leaf 69 (s_iload 3 70))))) (cw_node 77 (cw_node 72 (cw_node 71 (cw_leaf 70 (s_iload 2 71)) (cw_leaf 71 (s_iast 72))) (cw_node 74 (cw_leaf 72 (s_iload 6 74)) (cw_leaf 74 (s_if (fun x => decide (x = 0)) 88 77)))) (cw_node 81 (cw_node 78 (cw_leaf 77 (s_aload 0 78)) (cw_leaf 78 (s_get 9 9 81))) (cw_node 83 (cw_leaf 81 (s_iload 4 83)) (cw_node 84 (cw_leaf 83 (s_iload 1 84)) (cw_leaf 84 (s_iast 85))))))) (cw_node 100 (cw_node 94 (cw_node 89 (cw_node 88 (cw_leaf 85 (s_goto 96)) (cw_leaf 88 (s_aload 0 89))) (cw_node 92 (cw_leaf 89 (s_get 9 10 92)) (cw_leaf 92 (s_iload 4 94)))) (cw_node 96 (cw_node 95 (cw_leaf 94 (s_iload 1 95)) (cw_leaf 95 (s_iast 96))) (cw_node 97 (cw_leaf 96 (s_aload 0 97)) (cw_leaf 97 (s_get 9 11 100))))) (cw_node 105 (cw_node 103 (cw_node 101 (cw_leaf 100 (s_iload 1 101)) (cw_leaf 101 (s_iload 4 103))) (cw_node 104 (cw_leaf 103 (s_iast 104)) (cw_leaf 104 (s_aload 0 105)))) (cw_node 109 (cw_node 108 (cw_leaf 105 (s_get 9 11 108)) (cw_leaf 108 (s_iload 2 109))) (cw_node 110 (cw_leaf 109 (s_iload 3 110)) (cw_node 111 (cw_leaf 110 (s_iast 111)) (cw_leaf 111 (s_vret))))))))
def c_Mo_noJoints : Nat → Option cw_S := cw_node 22 (cw_node 12 (cw_node 5 (cw_node 2 (cw_node 1 (cw_leaf 0 (s_iconst 0 1)) (cw_leaf 1 (s_istore 1 2))) (cw_node 4 (cw_leaf 2 (s_iconst 8 4)) (cw_leaf 4 (s_istore 2 5)))) (cw_node 8 (cw_node 6 (cw_leaf 5 (s_iload 2 6)) (cw_leaf 6 (s_iconst 15 8))) (cw_node 11 (cw_leaf 8 (s_icmp (fun x y => decide (y ≤ x)) 31 11)) (cw_leaf 11 (s_iload 1 12))))) (cw_node 18 (cw_node 16 (cw_node 13 (cw_leaf 12 (s_aload 0 13)) (cw_leaf 13 (s_get 9 8 16))) (cw_node 17 (cw_leaf 16 (s_iload 2 17)) (cw_leaf 17 (s_iald 18)))) (cw_node 20 (cw_node 19 (cw_leaf 18 (s_ibin (fun x y => x + y) 19)) (cw_leaf 19 (s_istore 1 20))) (cw_node 21 (cw_leaf 20 (s_aload 0 21)) (cw_leaf 21 (s_iload 2 22)))))) (cw_node 39 (cw_node 32 (cw_node 28 (cw_node 25 (cw_leaf 22 (s_callV 9 m_Mo_goes 1 25)) (cw_leaf 25 (s_iinc 2 1 28))) (cw_node 31 (cw_leaf 28 (s_goto 5)) (cw_leaf 31 (s_iconst 0 32)))) (cw_node 34 (cw_node 33 (cw_leaf 32 (s_istore 2 33)) (cw_leaf 33 (s_iload 2 34))) (cw_node 36 (cw_leaf 34 (s_iconst 8 36)) (cw_leaf 36 (s_icmp (fun x y => decide (y ≤ x)) 52 39))))) (cw_node 45 (cw_node 43 (cw_node 40 (cw_leaf 39 (s_aload 0 40)) (cw_leaf 40 (s_get 9 11 43))) (cw_node 44 (cw_leaf 43 (s_iload 2 44)) (cw_leaf 44 (s_iconst (-1) 45)))) (cw_node 49 (cw_node 46 (cw_leaf 45 (s_iast 46)) (cw_leaf 46 (s_iinc 2 1 49))) (cw_node 52 (cw_leaf 49 (s_goto 33)) (cw_node 53 (cw_leaf 52 (s_iload 1 53)) (cw_leaf 53 (s_iret)))))))
def c_Mo_laysAside : Nat → Option cw_S := cw_node 35 (cw_node 18 (cw_node 8 (cw_node 2 (cw_node 1 (cw_leaf 0 (s_iconst 0 1)) (cw_leaf 1 (s_istore 1 2))) (cw_node 3 (cw_leaf 2 (s_iload 1 3)) (cw_node 5 (cw_leaf 3 (s_iconst 15 5)) (cw_leaf 5 (s_icmp (fun x y => decide (y ≤ x)) 71 8))))) (cw_node 13 (cw_node 9 (cw_leaf 8 (s_aload 0 9)) (cw_node 12 (cw_leaf 9 (s_get 9 12 12)) (cw_leaf 12 (s_iload 1 13)))) (cw_node 14 (cw_leaf 13 (s_aload 0 14)) (cw_node 17 (cw_leaf 14 (s_get 9 8 17)) (cw_leaf 17 (s_iload 1 18)))))) (cw_node 27 (cw_node 21 (cw_node 19 (cw_leaf 18 (s_iald 19)) (cw_node 20 (cw_leaf 19 (s_iast 20)) (cw_leaf 20 (s_aload 0 21)))) (cw_node 24 (cw_leaf 21 (s_get 9 12 24)) (cw_node 26 (cw_leaf 24 (s_iconst 15 26)) (cw_leaf 26 (s_iload 1 27))))) (cw_node 32 (cw_node 28 (cw_leaf 27 (s_ibin (fun x y => x + y) 28)) (cw_node 29 (cw_leaf 28 (s_aload 0 29)) (cw_leaf 29 (s_get 9 9 32)))) (cw_node 33 (cw_leaf 32 (s_iload 1 33)) (cw_node 34 (cw_leaf 33 (s_iald 34)) (cw_leaf 34 (s_iast 35))))))) (cw_node 51 (cw_node 43 (cw_node 39 (cw_node 36 (cw_leaf 35 (s_aload 0 36)) (cw_leaf 36 (s_get 9 12 39))) (cw_node 41 (cw_leaf 39 (s_iconst 30 41)) (cw_node 42 (cw_leaf 41 (s_iload 1 42)) (cw_leaf 42 (s_ibin (fun x y => x + y) 43))))) (cw_node 48 (cw_node 44 (cw_leaf 43 (s_aload 0 44)) (cw_node 47 (cw_leaf 44 (s_get 9 10 47)) (cw_leaf 47 (s_iload 1 48)))) (cw_node 49 (cw_leaf 48 (s_iald 49)) (cw_node 50 (cw_leaf 49 (s_iast 50)) (cw_leaf 50 (s_aload 0 51)))))) (cw_node 62 (cw_node 57 (cw_node 54 (cw_leaf 51 (s_get 9 12 54)) (cw_node 56 (cw_leaf 54 (s_iconst 45 56)) (cw_leaf 56 (s_iload 1 57)))) (cw_node 58 (cw_leaf 57 (s_ibin (fun x y => x + y) 58)) (cw_node 59 (cw_leaf 58 (s_aload 0 59)) (cw_leaf 59 (s_get 9 11 62))))) (cw_node 65 (cw_node 63 (cw_leaf 62 (s_iload 1 63)) (cw_node 64 (cw_leaf 63 (s_iald 64)) (cw_leaf 64 (s_iast 65)))) (cw_node 68 (cw_leaf 65 (s_iinc 1 1 68)) (cw_node 71 (cw_leaf 68 (s_goto 2)) (cw_leaf 71 (s_vret)))))))
def c_Mo_takesBack : Nat → Option cw_S := cw_node 35 (cw_node 18 (cw_node 8 (cw_node 2 (cw_node 1 (cw_leaf 0 (s_iconst 0 1)) (cw_leaf 1 (s_istore 1 2))) (cw_node 3 (cw_leaf 2 (s_iload 1 3)) (cw_node 5 (cw_leaf 3 (s_iconst 15 5)) (cw_leaf 5 (s_icmp (fun x y => decide (y ≤ x)) 71 8))))) (cw_node 13 (cw_node 9 (cw_leaf 8 (s_aload 0 9)) (cw_node 12 (cw_leaf 9 (s_get 9 8 12)) (cw_leaf 12 (s_iload 1 13)))) (cw_node 14 (cw_leaf 13 (s_aload 0 14)) (cw_node 17 (cw_leaf 14 (s_get 9 12 17)) (cw_leaf 17 (s_iload 1 18)))))) (cw_node 26 (cw_node 21 (cw_node 19 (cw_leaf 18 (s_iald 19)) (cw_node 20 (cw_leaf 19 (s_iast 20)) (cw_leaf 20 (s_aload 0 21)))) (cw_node 24 (cw_leaf 21 (s_get 9 9 24)) (cw_node 25 (cw_leaf 24 (s_iload 1 25)) (cw_leaf 25 (s_aload 0 26))))) (cw_node 32 (cw_node 29 (cw_leaf 26 (s_get 9 12 29)) (cw_node 31 (cw_leaf 29 (s_iconst 15 31)) (cw_leaf 31 (s_iload 1 32)))) (cw_node 33 (cw_leaf 32 (s_ibin (fun x y => x + y) 33)) (cw_node 34 (cw_leaf 33 (s_iald 34)) (cw_leaf 34 (s_iast 35))))))) (cw_node 51 (cw_node 44 (cw_node 39 (cw_node 36 (cw_leaf 35 (s_aload 0 36)) (cw_leaf 36 (s_get 9 10 39))) (cw_node 40 (cw_leaf 39 (s_iload 1 40)) (cw_node 41 (cw_leaf 40 (s_aload 0 41)) (cw_leaf 41 (s_get 9 12 44))))) (cw_node 48 (cw_node 46 (cw_leaf 44 (s_iconst 30 46)) (cw_node 47 (cw_leaf 46 (s_iload 1 47)) (cw_leaf 47 (s_ibin (fun x y => x + y) 48)))) (cw_node 49 (cw_leaf 48 (s_iald 49)) (cw_node 50 (cw_leaf 49 (s_iast 50)) (cw_leaf 50 (s_aload 0 51)))))) (cw_node 62 (cw_node 56 (cw_node 54 (cw_leaf 51 (s_get 9 11 54)) (cw_node 55 (cw_leaf 54 (s_iload 1 55)) (cw_leaf 55 (s_aload 0 56)))) (cw_node 59 (cw_leaf 56 (s_get 9 12 59)) (cw_node 61 (cw_leaf 59 (s_iconst 45 61)) (cw_leaf 61 (s_iload 1 62))))) (cw_node 65 (cw_node 63 (cw_leaf 62 (s_ibin (fun x y => x + y) 63)) (cw_node 64 (cw_leaf 63 (s_iald 64)) (cw_leaf 64 (s_iast 65)))) (cw_node 68 (cw_leaf 65 (s_iinc 1 1 68)) (cw_node 71 (cw_leaf 68 (s_goto 2)) (cw_leaf 71 (s_vret)))))))
def c_Mo_leavesState : Nat → Option cw_S := cw_node 130 (cw_node 71 (cw_node 36 (cw_node 19 (cw_node 10 (cw_node 4 (cw_node 1 (cw_leaf 0 (s_aload 0 1)) (cw_leaf 1 (s_get 9 13 4))) (cw_node 6 (cw_leaf 4 (s_iconst 8 6)) (cw_node 9 (cw_leaf 6 (s_icmp (fun x y => decide (¬ x = y)) 49 9)) (cw_leaf 9 (s_iconst 0 10))))) (cw_node 12 (cw_node 11 (cw_leaf 10 (s_istore 1 11)) (cw_leaf 11 (s_iload 1 12))) (cw_node 15 (cw_leaf 12 (s_iconst 616 15)) (cw_node 18 (cw_leaf 15 (s_icmp (fun x y => decide (y ≤ x)) 39 18)) (cw_leaf 18 (s_aload 0 19)))))) (cw_node 28 (cw_node 23 (cw_node 22 (cw_leaf 19 (s_get 9 14 22)) (cw_leaf 22 (s_iload 1 23))) (cw_node 24 (cw_leaf 23 (s_aload 0 24)) (cw_node 27 (cw_leaf 24 (s_get 9 14 27)) (cw_leaf 27 (s_iload 1 28))))) (cw_node 31 (cw_node 30 (cw_leaf 28 (s_iconst 88 30)) (cw_leaf 30 (s_ibin (fun x y => x + y) 31))) (cw_node 32 (cw_leaf 31 (s_iald 32)) (cw_node 33 (cw_leaf 32 (s_iast 33)) (cw_leaf 33 (s_iinc 1 1 36))))))) (cw_node 55 (cw_node 45 (cw_node 40 (cw_node 39 (cw_leaf 36 (s_goto 11)) (cw_leaf 39 (s_aload 0 40))) (cw_node 41 (cw_leaf 40 (s_dup 41)) (cw_node 44 (cw_leaf 41 (s_get 9 13 44)) (cw_leaf 44 (s_iconst 1 45))))) (cw_node 49 (cw_node 46 (cw_leaf 45 (s_ibin (fun x y => x - y) 46)) (cw_leaf 46 (s_put 9 13 0 49))) (cw_node 51 (cw_leaf 49 (s_iconst 88 51)) (cw_node 52 (cw_leaf 51 (s_aload 0 52)) (cw_leaf 52 (s_get 9 13 55)))))) (cw_node 62 (cw_node 57 (cw_node 56 (cw_leaf 55 (s_ibin (fun x y => x * y) 56)) (cw_leaf 56 (s_istore 1 57))) (cw_node 58 (cw_leaf 57 (s_aload 0 58)) (cw_node 61 (cw_leaf 58 (s_get 9 14 61)) (cw_leaf 61 (s_iload 1 62))))) (cw_node 66 (cw_node 63 (cw_leaf 62 (s_aload 0 63)) (cw_leaf 63 (s_get 9 1 66))) (cw_node 67 (cw_leaf 66 (s_iast 67)) (cw_node 68 (cw_leaf 67 (s_aload 0 68)) (cw_leaf 68 (s_get 9 14 71)))))))) (cw_node 99 (cw_node 85 (cw_node 78 (cw_node 73 (cw_node 72 (cw_leaf 71 (s_iload 1 72)) (cw_leaf 72 (s_iconst 1 73))) (cw_node 74 (cw_leaf 73 (s_ibin (fun x y => x + y) 74)) (cw_node 75 (cw_leaf 74 (s_aload 0 75)) (cw_leaf 75 (s_get 9 3 78))))) (cw_node 80 (cw_node 79 (cw_leaf 78 (s_iast 79)) (cw_leaf 79 (s_aload 0 80))) (cw_node 83 (cw_leaf 80 (s_get 9 14 83)) (cw_node 84 (cw_leaf 83 (s_iload 1 84)) (cw_leaf 84 (s_iconst 2 85)))))) (cw_node 92 (cw_node 87 (cw_node 86 (cw_leaf 85 (s_ibin (fun x y => x + y) 86)) (cw_leaf 86 (s_aload 0 87))) (cw_node 90 (cw_leaf 87 (s_get 9 4 90)) (cw_node 91 (cw_leaf 90 (s_iast 91)) (cw_leaf 91 (s_aload 0 92))))) (cw_node 96 (cw_node 95 (cw_leaf 92 (s_get 9 14 95)) (cw_leaf 95 (s_iload 1 96))) (cw_node 97 (cw_leaf 96 (s_iconst 3 97)) (cw_node 98 (cw_leaf 97 (s_ibin (fun x y => x + y) 98)) (cw_leaf 98 (s_aload 0 99))))))) (cw_node 115 (cw_node 108 (cw_node 103 (cw_node 102 (cw_leaf 99 (s_get 9 5 102)) (cw_leaf 102 (s_iast 103))) (cw_node 104 (cw_leaf 103 (s_aload 0 104)) (cw_node 107 (cw_leaf 104 (s_get 9 14 107)) (cw_leaf 107 (s_iload 1 108))))) (cw_node 110 (cw_node 109 (cw_leaf 108 (s_iconst 4 109)) (cw_leaf 109 (s_ibin (fun x y => x + y) 110))) (cw_node 111 (cw_leaf 110 (s_aload 0 111)) (cw_node 114 (cw_leaf 111 (s_get 9 6 114)) (cw_leaf 114 (s_iast 115)))))) (cw_node 123 (cw_node 117 (cw_node 116 (cw_leaf 115 (s_iconst 0 116)) (cw_leaf 116 (s_istore 2 117))) (cw_node 118 (cw_leaf 117 (s_iload 2 118)) (cw_node 120 (cw_leaf 118 (s_iconst 8 120)) (cw_leaf 120 (s_icmp (fun x y => decide (y ≤ x)) 145 123))))) (cw_node 127 (cw_node 124 (cw_leaf 123 (s_aload 0 124)) (cw_leaf 124 (s_get 9 14 127))) (cw_node 128 (cw_leaf 127 (s_iload 1 128)) (cw_node 129 (cw_leaf 128 (s_iconst 5 129)) (cw_leaf 129 (s_ibin (fun x y => x + y) 130))))))))) (cw_node 189 (cw_node 162 (cw_node 146 (cw_node 137 (cw_node 132 (cw_node 131 (cw_leaf 130 (s_iload 2 131)) (cw_leaf 131 (s_ibin (fun x y => x + y) 132))) (cw_node 133 (cw_leaf 132 (s_aload 0 133)) (cw_node 136 (cw_leaf 133 (s_get 9 7 136)) (cw_leaf 136 (s_iload 2 137))))) (cw_node 139 (cw_node 138 (cw_leaf 137 (s_iald 138)) (cw_leaf 138 (s_iast 139))) (cw_node 142 (cw_leaf 139 (s_iinc 2 1 142)) (cw_node 145 (cw_leaf 142 (s_goto 117)) (cw_leaf 145 (s_iconst 0 146)))))) (cw_node 154 (cw_node 148 (cw_node 147 (cw_leaf 146 (s_istore 2 147)) (cw_leaf 147 (s_iload 2 148))) (cw_node 150 (cw_leaf 148 (s_iconst 15 150)) (cw_node 153 (cw_leaf 150 (s_icmp (fun x y => decide (y ≤ x)) 212 153)) (cw_leaf 153 (s_aload 0 154))))) (cw_node 158 (cw_node 157 (cw_leaf 154 (s_get 9 14 157)) (cw_leaf 157 (s_iload 1 158))) (cw_node 160 (cw_leaf 158 (s_iconst 13 160)) (cw_node 161 (cw_leaf 160 (s_ibin (fun x y => x + y) 161)) (cw_leaf 161 (s_iload 2 162))))))) (cw_node 176 (cw_node 169 (cw_node 164 (cw_node 163 (cw_leaf 162 (s_ibin (fun x y => x + y) 163)) (cw_leaf 163 (s_aload 0 164))) (cw_node 167 (cw_leaf 164 (s_get 9 8 167)) (cw_node 168 (cw_leaf 167 (s_iload 2 168)) (cw_leaf 168 (s_iald 169))))) (cw_node 171 (cw_node 170 (cw_leaf 169 (s_iconst 2 170)) (cw_leaf 170 (s_aload 0 171))) (cw_node 174 (cw_leaf 171 (s_get 9 9 174)) (cw_node 175 (cw_leaf 174 (s_iload 2 175)) (cw_leaf 175 (s_iald 176)))))) (cw_node 182 (cw_node 178 (cw_node 177 (cw_leaf 176 (s_iconst 1 177)) (cw_leaf 177 (s_ibin (fun x y => x + y) 178))) (cw_node 179 (cw_leaf 178 (s_ibin (fun x y => x * y) 179)) (cw_node 180 (cw_leaf 179 (s_ibin (fun x y => x + y) 180)) (cw_leaf 180 (s_iconst 64 182))))) (cw_node 186 (cw_node 183 (cw_leaf 182 (s_aload 0 183)) (cw_leaf 183 (s_get 9 10 186))) (cw_node 187 (cw_leaf 186 (s_iload 2 187)) (cw_node 188 (cw_leaf 187 (s_iald 188)) (cw_leaf 188 (s_iconst 1 189)))))))) (cw_node 220 (cw_node 203 (cw_node 196 (cw_node 191 (cw_node 190 (cw_leaf 189 (s_ibin (fun x y => x + y) 190)) (cw_leaf 190 (s_ibin (fun x y => x * y) 191))) (cw_node 192 (cw_leaf 191 (s_ibin (fun x y => x + y) 192)) (cw_node 195 (cw_leaf 192 (s_iconst 2048 195)) (cw_leaf 195 (s_aload 0 196))))) (cw_node 200 (cw_node 199 (cw_leaf 196 (s_get 9 11 199)) (cw_leaf 199 (s_iload 2 200))) (cw_node 201 (cw_leaf 200 (s_iald 201)) (cw_node 202 (cw_leaf 201 (s_iconst 1 202)) (cw_leaf 202 (s_ibin (fun x y => x + y) 203)))))) (cw_node 212 (cw_node 205 (cw_node 204 (cw_leaf 203 (s_ibin (fun x y => x * y) 204)) (cw_leaf 204 (s_ibin (fun x y => x + y) 205))) (cw_node 206 (cw_leaf 205 (s_iast 206)) (cw_node 209 (cw_leaf 206 (s_iinc 2 1 209)) (cw_leaf 209 (s_goto 147))))) (cw_node 214 (cw_node 213 (cw_leaf 212 (s_iconst 0 213)) (cw_leaf 213 (s_istore 2 214))) (cw_node 215 (cw_leaf 214 (s_iload 2 215)) (cw_node 217 (cw_leaf 215 (s_iconst 32 217)) (cw_leaf 217 (s_icmp (fun x y => decide (y ≤ x)) 243 220))))))) (cw_node 235 (cw_node 228 (cw_node 224 (cw_node 221 (cw_leaf 220 (s_aload 0 221)) (cw_leaf 221 (s_get 9 14 224))) (cw_node 225 (cw_leaf 224 (s_iload 1 225)) (cw_node 227 (cw_leaf 225 (s_iconst 28 227)) (cw_leaf 227 (s_ibin (fun x y => x + y) 228))))) (cw_node 230 (cw_node 229 (cw_leaf 228 (s_iload 2 229)) (cw_leaf 229 (s_ibin (fun x y => x + y) 230))) (cw_node 231 (cw_leaf 230 (s_aload 0 231)) (cw_node 234 (cw_leaf 231 (s_get 9 2 234)) (cw_leaf 234 (s_iload 2 235)))))) (cw_node 244 (cw_node 237 (cw_node 236 (cw_leaf 235 (s_iald 236)) (cw_leaf 236 (s_iast 237))) (cw_node 240 (cw_leaf 237 (s_iinc 2 1 240)) (cw_node 243 (cw_leaf 240 (s_goto 214)) (cw_leaf 243 (s_aload 0 244))))) (cw_node 249 (cw_node 245 (cw_leaf 244 (s_dup 245)) (cw_node 248 (cw_leaf 245 (s_get 9 13 248)) (cw_leaf 248 (s_iconst 1 249)))) (cw_node 250 (cw_leaf 249 (s_ibin (fun x y => x + y) 250)) (cw_node 253 (cw_leaf 250 (s_put 9 13 0 253)) (cw_leaf 253 (s_vret)))))))))
def c_Mo_back : Nat → Option cw_S := cw_node 119 (cw_node 60 (cw_node 31 (cw_node 17 (cw_node 8 (cw_node 4 (cw_node 1 (cw_leaf 0 (s_aload 0 1)) (cw_leaf 1 (s_get 9 13 4))) (cw_node 7 (cw_leaf 4 (s_if (fun x => decide (¬ x = 0)) 12 7)) (cw_leaf 7 (s_aload 0 8)))) (cw_node 12 (cw_node 11 (cw_leaf 8 (s_callV 9 m_Mo_no 0 11)) (cw_leaf 11 (s_iret))) (cw_node 13 (cw_leaf 12 (s_aload 0 13)) (cw_node 14 (cw_leaf 13 (s_dup 14)) (cw_leaf 14 (s_get 9 13 17)))))) (cw_node 24 (cw_node 19 (cw_node 18 (cw_leaf 17 (s_iconst 1 18)) (cw_leaf 18 (s_ibin (fun x y => x - y) 19))) (cw_node 22 (cw_leaf 19 (s_put 9 13 0 22)) (cw_leaf 22 (s_iconst 88 24)))) (cw_node 28 (cw_node 25 (cw_leaf 24 (s_aload 0 25)) (cw_leaf 25 (s_get 9 13 28))) (cw_node 29 (cw_leaf 28 (s_ibin (fun x y => x * y) 29)) (cw_node 30 (cw_leaf 29 (s_istore 1 30)) (cw_leaf 30 (s_aload 0 31))))))) (cw_node 46 (cw_node 37 (cw_node 35 (cw_node 32 (cw_leaf 31 (s_aload 0 32)) (cw_leaf 32 (s_get 9 14 35))) (cw_node 36 (cw_leaf 35 (s_iload 1 36)) (cw_leaf 36 (s_iald 37)))) (cw_node 41 (cw_node 40 (cw_leaf 37 (s_put 9 1 0 40)) (cw_leaf 40 (s_aload 0 41))) (cw_node 42 (cw_leaf 41 (s_aload 0 42)) (cw_node 45 (cw_leaf 42 (s_get 9 14 45)) (cw_leaf 45 (s_iload 1 46)))))) (cw_node 53 (cw_node 48 (cw_node 47 (cw_leaf 46 (s_iconst 1 47)) (cw_leaf 47 (s_ibin (fun x y => x + y) 48))) (cw_node 49 (cw_leaf 48 (s_iald 49)) (cw_node 52 (cw_leaf 49 (s_put 9 3 0 52)) (cw_leaf 52 (s_aload 0 53))))) (cw_node 57 (cw_node 54 (cw_leaf 53 (s_aload 0 54)) (cw_leaf 54 (s_get 9 14 57))) (cw_node 58 (cw_leaf 57 (s_iload 1 58)) (cw_node 59 (cw_leaf 58 (s_iconst 2 59)) (cw_leaf 59 (s_ibin (fun x y => x + y) 60)))))))) (cw_node 89 (cw_node 73 (cw_node 66 (cw_node 64 (cw_node 61 (cw_leaf 60 (s_iald 61)) (cw_leaf 61 (s_put 9 4 0 64))) (cw_node 65 (cw_leaf 64 (s_aload 0 65)) (cw_leaf 65 (s_aload 0 66)))) (cw_node 70 (cw_node 69 (cw_leaf 66 (s_get 9 14 69)) (cw_leaf 69 (s_iload 1 70))) (cw_node 71 (cw_leaf 70 (s_iconst 3 71)) (cw_node 72 (cw_leaf 71 (s_ibin (fun x y => x + y) 72)) (cw_leaf 72 (s_iald 73)))))) (cw_node 82 (cw_node 77 (cw_node 76 (cw_leaf 73 (s_put 9 5 0 76)) (cw_leaf 76 (s_aload 0 77))) (cw_node 78 (cw_leaf 77 (s_aload 0 78)) (cw_node 81 (cw_leaf 78 (s_get 9 14 81)) (cw_leaf 81 (s_iload 1 82))))) (cw_node 84 (cw_node 83 (cw_leaf 82 (s_iconst 4 83)) (cw_leaf 83 (s_ibin (fun x y => x + y) 84))) (cw_node 85 (cw_leaf 84 (s_iald 85)) (cw_node 88 (cw_leaf 85 (s_put 9 6 0 88)) (cw_leaf 88 (s_iconst 0 89))))))) (cw_node 105 (cw_node 96 (cw_node 91 (cw_node 90 (cw_leaf 89 (s_istore 2 90)) (cw_leaf 90 (s_iload 2 91))) (cw_node 93 (cw_leaf 91 (s_iconst 8 93)) (cw_leaf 93 (s_icmp (fun x y => decide (y ≤ x)) 118 96)))) (cw_node 100 (cw_node 97 (cw_leaf 96 (s_aload 0 97)) (cw_leaf 97 (s_get 9 7 100))) (cw_node 101 (cw_leaf 100 (s_iload 2 101)) (cw_node 102 (cw_leaf 101 (s_aload 0 102)) (cw_leaf 102 (s_get 9 14 105)))))) (cw_node 110 (cw_node 107 (cw_node 106 (cw_leaf 105 (s_iload 1 106)) (cw_leaf 106 (s_iconst 5 107))) (cw_node 108 (cw_leaf 107 (s_ibin (fun x y => x + y) 108)) (cw_node 109 (cw_leaf 108 (s_iload 2 109)) (cw_leaf 109 (s_ibin (fun x y => x + y) 110))))) (cw_node 112 (cw_node 111 (cw_leaf 110 (s_iald 111)) (cw_leaf 111 (s_iast 112))) (cw_node 115 (cw_leaf 112 (s_iinc 2 1 115)) (cw_node 118 (cw_leaf 115 (s_goto 90)) (cw_leaf 118 (s_iconst 0 119))))))))) (cw_node 170 (cw_node 145 (cw_node 134 (cw_node 126 (cw_node 121 (cw_node 120 (cw_leaf 119 (s_istore 2 120)) (cw_leaf 120 (s_iload 2 121))) (cw_node 123 (cw_leaf 121 (s_iconst 15 123)) (cw_leaf 123 (s_icmp (fun x y => decide (y ≤ x)) 195 126)))) (cw_node 130 (cw_node 127 (cw_leaf 126 (s_aload 0 127)) (cw_leaf 127 (s_get 9 14 130))) (cw_node 131 (cw_leaf 130 (s_iload 1 131)) (cw_node 133 (cw_leaf 131 (s_iconst 13 133)) (cw_leaf 133 (s_ibin (fun x y => x + y) 134)))))) (cw_node 138 (cw_node 136 (cw_node 135 (cw_leaf 134 (s_iload 2 135)) (cw_leaf 135 (s_ibin (fun x y => x + y) 136))) (cw_node 137 (cw_leaf 136 (s_iald 137)) (cw_leaf 137 (s_istore 3 138)))) (cw_node 142 (cw_node 139 (cw_leaf 138 (s_aload 0 139)) (cw_leaf 139 (s_get 9 8 142))) (cw_node 143 (cw_leaf 142 (s_iload 2 143)) (cw_node 144 (cw_leaf 143 (s_iload 3 144)) (cw_leaf 144 (s_iconst 2 145))))))) (cw_node 157 (cw_node 151 (cw_node 147 (cw_node 146 (cw_leaf 145 (s_idiv (fun x y => x - x / y * y) 146)) (cw_leaf 146 (s_iast 147))) (cw_node 148 (cw_leaf 147 (s_aload 0 148)) (cw_leaf 148 (s_get 9 9 151)))) (cw_node 153 (cw_node 152 (cw_leaf 151 (s_iload 2 152)) (cw_leaf 152 (s_iload 3 153))) (cw_node 154 (cw_leaf 153 (s_iconst 2 154)) (cw_node 155 (cw_leaf 154 (s_idiv (fun x y => x / y) 155)) (cw_leaf 155 (s_iconst 32 157)))))) (cw_node 162 (cw_node 159 (cw_node 158 (cw_leaf 157 (s_idiv (fun x y => x - x / y * y) 158)) (cw_leaf 158 (s_iconst 1 159))) (cw_node 160 (cw_leaf 159 (s_ibin (fun x y => x - y) 160)) (cw_node 161 (cw_leaf 160 (s_iast 161)) (cw_leaf 161 (s_aload 0 162))))) (cw_node 166 (cw_node 165 (cw_leaf 162 (s_get 9 10 165)) (cw_leaf 165 (s_iload 2 166))) (cw_node 167 (cw_leaf 166 (s_iload 3 167)) (cw_node 169 (cw_leaf 167 (s_iconst 64 169)) (cw_leaf 169 (s_idiv (fun x y => x / y) 170)))))))) (cw_node 198 (cw_node 182 (cw_node 175 (cw_node 173 (cw_node 172 (cw_leaf 170 (s_iconst 32 172)) (cw_leaf 172 (s_idiv (fun x y => x - x / y * y) 173))) (cw_node 174 (cw_leaf 173 (s_iconst 1 174)) (cw_leaf 174 (s_ibin (fun x y => x - y) 175)))) (cw_node 177 (cw_node 176 (cw_leaf 175 (s_iast 176)) (cw_leaf 176 (s_aload 0 177))) (cw_node 180 (cw_leaf 177 (s_get 9 11 180)) (cw_node 181 (cw_leaf 180 (s_iload 2 181)) (cw_leaf 181 (s_iload 3 182)))))) (cw_node 189 (cw_node 186 (cw_node 185 (cw_leaf 182 (s_iconst 2048 185)) (cw_leaf 185 (s_idiv (fun x y => x / y) 186))) (cw_node 187 (cw_leaf 186 (s_iconst 1 187)) (cw_node 188 (cw_leaf 187 (s_ibin (fun x y => x - y) 188)) (cw_leaf 188 (s_iast 189))))) (cw_node 195 (cw_node 192 (cw_leaf 189 (s_iinc 2 1 192)) (cw_leaf 192 (s_goto 120))) (cw_node 196 (cw_leaf 195 (s_iconst 0 196)) (cw_node 197 (cw_leaf 196 (s_istore 2 197)) (cw_leaf 197 (s_iload 2 198))))))) (cw_node 215 (cw_node 207 (cw_node 203 (cw_node 200 (cw_leaf 198 (s_iconst 32 200)) (cw_leaf 200 (s_icmp (fun x y => decide (y ≤ x)) 226 203))) (cw_node 204 (cw_leaf 203 (s_aload 0 204)) (cw_leaf 204 (s_get 9 2 207)))) (cw_node 209 (cw_node 208 (cw_leaf 207 (s_iload 2 208)) (cw_leaf 208 (s_aload 0 209))) (cw_node 212 (cw_leaf 209 (s_get 9 14 212)) (cw_node 213 (cw_leaf 212 (s_iload 1 213)) (cw_leaf 213 (s_iconst 28 215)))))) (cw_node 220 (cw_node 217 (cw_node 216 (cw_leaf 215 (s_ibin (fun x y => x + y) 216)) (cw_leaf 216 (s_iload 2 217))) (cw_node 218 (cw_leaf 217 (s_ibin (fun x y => x + y) 218)) (cw_node 219 (cw_leaf 218 (s_iald 219)) (cw_leaf 219 (s_iast 220))))) (cw_node 226 (cw_node 223 (cw_leaf 220 (s_iinc 2 1 223)) (cw_leaf 223 (s_goto 197))) (cw_node 227 (cw_leaf 226 (s_aload 0 227)) (cw_node 230 (cw_leaf 227 (s_get 9 13 230)) (cw_leaf 230 (s_iret)))))))))
def c_Mo_reckons : Nat → Option cw_S := cw_node 115 (cw_node 54 (cw_node 26 (cw_node 13 (cw_node 6 (cw_node 4 (cw_node 1 (cw_leaf 0 (s_aload 0 1)) (cw_leaf 1 (s_get 9 15 4))) (cw_node 5 (cw_leaf 4 (s_iload 1 5)) (cw_leaf 5 (s_iald 6)))) (cw_node 10 (cw_node 7 (cw_leaf 6 (s_aload 0 7)) (cw_leaf 7 (s_get 9 16 10))) (cw_node 11 (cw_leaf 10 (s_iload 2 11)) (cw_node 12 (cw_leaf 11 (s_iald 12)) (cw_leaf 12 (s_ibin (fun x y => x - y) 13)))))) (cw_node 19 (cw_node 17 (cw_node 14 (cw_leaf 13 (s_aload 0 14)) (cw_leaf 14 (s_get 9 15 17))) (cw_node 18 (cw_leaf 17 (s_iload 2 18)) (cw_leaf 18 (s_iald 19)))) (cw_node 23 (cw_node 20 (cw_leaf 19 (s_aload 0 20)) (cw_leaf 20 (s_get 9 16 23))) (cw_node 24 (cw_leaf 23 (s_iload 1 24)) (cw_node 25 (cw_leaf 24 (s_iald 25)) (cw_leaf 25 (s_ibin (fun x y => x - y) 26))))))) (cw_node 41 (cw_node 34 (cw_node 30 (cw_node 29 (cw_leaf 26 (s_callS m_Mo_greater 2 29)) (cw_leaf 29 (s_istore 3 30))) (cw_node 31 (cw_leaf 30 (s_aload 0 31)) (cw_leaf 31 (s_get 9 17 34)))) (cw_node 36 (cw_node 35 (cw_leaf 34 (s_iload 1 35)) (cw_leaf 35 (s_iald 36))) (cw_node 37 (cw_leaf 36 (s_aload 0 37)) (cw_node 40 (cw_leaf 37 (s_get 9 18 40)) (cw_leaf 40 (s_iload 2 41)))))) (cw_node 47 (cw_node 43 (cw_node 42 (cw_leaf 41 (s_iald 42)) (cw_leaf 42 (s_ibin (fun x y => x - y) 43))) (cw_node 44 (cw_leaf 43 (s_aload 0 44)) (cw_leaf 44 (s_get 9 17 47)))) (cw_node 49 (cw_node 48 (cw_leaf 47 (s_iload 2 48)) (cw_leaf 48 (s_iald 49))) (cw_node 50 (cw_leaf 49 (s_aload 0 50)) (cw_node 53 (cw_leaf 50 (s_get 9 18 53)) (cw_leaf 53 (s_iload 1 54)))))))) (cw_node 88 (cw_node 69 (cw_node 61 (cw_node 56 (cw_node 55 (cw_leaf 54 (s_iald 55)) (cw_leaf 55 (s_ibin (fun x y => x - y) 56))) (cw_node 59 (cw_leaf 56 (s_callS m_Mo_greater 2 59)) (cw_leaf 59 (s_istore 4 61)))) (cw_node 63 (cw_node 62 (cw_leaf 61 (s_aload 0 62)) (cw_leaf 62 (s_iconst 0 63))) (cw_node 64 (cw_leaf 63 (s_iload 3 64)) (cw_node 66 (cw_leaf 64 (s_iload 4 66)) (cw_leaf 66 (s_callS m_Mo_greater 2 69)))))) (cw_node 79 (cw_node 75 (cw_node 72 (cw_leaf 69 (s_callS m_Mo_greater 2 72)) (cw_leaf 72 (s_put 9 25 0 75))) (cw_node 76 (cw_leaf 75 (s_aload 0 76)) (cw_leaf 76 (s_get 9 3 79)))) (cw_node 82 (cw_node 81 (cw_leaf 79 (s_iconst 65536 81)) (cw_leaf 81 (s_ibin (fun x y => x * y) 82))) (cw_node 84 (cw_leaf 82 (s_istore 5 84)) (cw_node 85 (cw_leaf 84 (s_aload 0 85)) (cw_leaf 85 (s_get 9 20 88))))))) (cw_node 100 (cw_node 94 (cw_node 90 (cw_node 89 (cw_leaf 88 (s_iload 2 89)) (cw_leaf 89 (s_iald 90))) (cw_node 91 (cw_leaf 90 (s_aload 0 91)) (cw_leaf 91 (s_get 9 19 94)))) (cw_node 96 (cw_node 95 (cw_leaf 94 (s_iload 1 95)) (cw_leaf 95 (s_iald 96))) (cw_node 97 (cw_leaf 96 (s_ibin (fun x y => x - y) 97)) (cw_node 99 (cw_leaf 97 (s_iload 5 99)) (cw_leaf 99 (s_ibin (fun x y => x - y) 100)))))) (cw_node 108 (cw_node 104 (cw_node 102 (cw_leaf 100 (s_istore 6 102)) (cw_leaf 102 (s_iload 5 104))) (cw_node 105 (cw_leaf 104 (s_aload 0 105)) (cw_leaf 105 (s_get 9 19 108)))) (cw_node 110 (cw_node 109 (cw_leaf 108 (s_iload 2 109)) (cw_leaf 109 (s_iald 110))) (cw_node 111 (cw_leaf 110 (s_ibin (fun x y => x + y) 111)) (cw_node 112 (cw_leaf 111 (s_aload 0 112)) (cw_leaf 112 (s_get 9 20 115))))))))) (cw_node 173 (cw_node 140 (cw_node 127 (cw_node 120 (cw_node 117 (cw_node 116 (cw_leaf 115 (s_iload 1 116)) (cw_leaf 116 (s_iald 117))) (cw_node 118 (cw_leaf 117 (s_ibin (fun x y => x - y) 118)) (cw_leaf 118 (s_istore 7 120)))) (cw_node 124 (cw_node 121 (cw_leaf 120 (s_aload 0 121)) (cw_leaf 121 (s_get 9 19 124))) (cw_node 125 (cw_leaf 124 (s_iload 2 125)) (cw_node 126 (cw_leaf 125 (s_iald 126)) (cw_leaf 126 (s_aload 0 127)))))) (cw_node 133 (cw_node 131 (cw_node 130 (cw_leaf 127 (s_get 9 20 130)) (cw_leaf 130 (s_iload 2 131))) (cw_node 132 (cw_leaf 131 (s_iald 132)) (cw_leaf 132 (s_ibin (fun x y => x + y) 133)))) (cw_node 137 (cw_node 134 (cw_leaf 133 (s_aload 0 134)) (cw_leaf 134 (s_get 9 19 137))) (cw_node 138 (cw_leaf 137 (s_iload 1 138)) (cw_node 139 (cw_leaf 138 (s_iald 139)) (cw_leaf 139 (s_ibin (fun x y => x - y) 140))))))) (cw_node 153 (cw_node 146 (cw_node 144 (cw_node 141 (cw_leaf 140 (s_aload 0 141)) (cw_leaf 141 (s_get 9 20 144))) (cw_node 145 (cw_leaf 144 (s_iload 1 145)) (cw_leaf 145 (s_iald 146)))) (cw_node 148 (cw_node 147 (cw_leaf 146 (s_ibin (fun x y => x - y) 147)) (cw_leaf 147 (s_iconst 2 148))) (cw_node 149 (cw_leaf 148 (s_idiv (fun x y => x / y) 149)) (cw_node 151 (cw_leaf 149 (s_istore 8 151)) (cw_leaf 151 (s_iload 8 153)))))) (cw_node 161 (cw_node 157 (cw_node 155 (cw_leaf 153 (s_istore 9 155)) (cw_leaf 155 (s_iload 8 157))) (cw_node 158 (cw_leaf 157 (s_aload 0 158)) (cw_leaf 158 (s_get 9 25 161)))) (cw_node 165 (cw_node 164 (cw_leaf 161 (s_icmp (fun x y => decide (x ≤ y)) 178 164)) (cw_leaf 164 (s_aload 0 165))) (cw_node 168 (cw_leaf 165 (s_get 9 25 168)) (cw_node 170 (cw_leaf 168 (s_iload 6 170)) (cw_leaf 170 (s_callS m_Mo_greater 2 173)))))))) (cw_node 210 (cw_node 192 (cw_node 181 (cw_node 178 (cw_node 175 (cw_leaf 173 (s_istore 9 175)) (cw_leaf 175 (s_goto 200))) (cw_node 180 (cw_leaf 178 (s_iload 8 180)) (cw_leaf 180 (s_aload 0 181)))) (cw_node 185 (cw_node 184 (cw_leaf 181 (s_get 9 25 184)) (cw_leaf 184 (s_ineg 185))) (cw_node 188 (cw_leaf 185 (s_icmp (fun x y => decide (y ≤ x)) 200 188)) (cw_node 189 (cw_leaf 188 (s_aload 0 189)) (cw_leaf 189 (s_get 9 25 192)))))) (cw_node 200 (cw_node 195 (cw_node 193 (cw_leaf 192 (s_ineg 193)) (cw_leaf 193 (s_iload 7 195))) (cw_node 198 (cw_leaf 195 (s_callS m_Mo_lesser 2 198)) (cw_leaf 198 (s_istore 9 200)))) (cw_node 202 (cw_node 201 (cw_leaf 200 (s_aload 0 201)) (cw_leaf 201 (s_aload 0 202))) (cw_node 205 (cw_leaf 202 (s_get 9 25 205)) (cw_node 207 (cw_leaf 205 (s_iload 9 207)) (cw_leaf 207 (s_callS m_Mo_size 1 210))))))) (cw_node 226 (cw_node 218 (cw_node 216 (cw_node 213 (cw_leaf 210 (s_callS m_Mo_greater 2 213)) (cw_leaf 213 (s_put 9 26 0 216))) (cw_node 217 (cw_leaf 216 (s_aload 0 217)) (cw_leaf 217 (s_aload 0 218)))) (cw_node 223 (cw_node 221 (cw_leaf 218 (s_get 9 26 221)) (cw_leaf 221 (s_iload 9 223))) (cw_node 224 (cw_leaf 223 (s_ibin (fun x y => x + y) 224)) (cw_node 225 (cw_leaf 224 (s_iconst 2 225)) (cw_leaf 225 (s_idiv (fun x y => x / y) 226)))))) (cw_node 236 (cw_node 230 (cw_node 229 (cw_leaf 226 (s_put 9 27 0 229)) (cw_leaf 229 (s_aload 0 230))) (cw_node 231 (cw_leaf 230 (s_aload 0 231)) (cw_node 234 (cw_leaf 231 (s_get 9 26 234)) (cw_leaf 234 (s_iload 9 236))))) (cw_node 238 (cw_node 237 (cw_leaf 236 (s_ibin (fun x y => x - y) 237)) (cw_leaf 237 (s_iconst 2 238))) (cw_node 239 (cw_leaf 238 (s_idiv (fun x y => x / y) 239)) (cw_node 242 (cw_leaf 239 (s_put 9 28 0 242)) (cw_leaf 242 (s_vret)))))))))
def c_Mo_tellsSink : Nat → Option cw_S := cw_node 60 (cw_node 28 (cw_node 15 (cw_node 7 (cw_node 4 (cw_node 1 (cw_leaf 0 (s_aload 0 1)) (cw_leaf 1 (s_get 9 2 4))) (cw_node 5 (cw_leaf 4 (s_iconst 4 5)) (cw_node 6 (cw_leaf 5 (s_iload 1 6)) (cw_leaf 6 (s_ibin (fun x y => x * y) 7))))) (cw_node 10 (cw_node 8 (cw_leaf 7 (s_iald 8)) (cw_node 9 (cw_leaf 8 (s_istore 2 9)) (cw_leaf 9 (s_aload 0 10)))) (cw_node 13 (cw_leaf 10 (s_get 9 2 13)) (cw_node 14 (cw_leaf 13 (s_iconst 4 14)) (cw_leaf 14 (s_iload 1 15)))))) (cw_node 20 (cw_node 17 (cw_node 16 (cw_leaf 15 (s_ibin (fun x y => x * y) 16)) (cw_leaf 16 (s_iconst 1 17))) (cw_node 18 (cw_leaf 17 (s_ibin (fun x y => x + y) 18)) (cw_node 19 (cw_leaf 18 (s_iald 19)) (cw_leaf 19 (s_istore 3 20))))) (cw_node 25 (cw_node 21 (cw_leaf 20 (s_aload 0 21)) (cw_node 24 (cw_leaf 21 (s_get 9 15 24)) (cw_leaf 24 (s_iload 1 25)))) (cw_node 26 (cw_leaf 25 (s_iload 2 26)) (cw_node 27 (cw_leaf 26 (s_iload 3 27)) (cw_leaf 27 (s_ibin (fun x y => x + y) 28))))))) (cw_node 44 (cw_node 36 (cw_node 31 (cw_node 30 (cw_leaf 28 (s_iconst 65536 30)) (cw_leaf 30 (s_ibin (fun x y => x * y) 31))) (cw_node 32 (cw_leaf 31 (s_iast 32)) (cw_node 33 (cw_leaf 32 (s_aload 0 33)) (cw_leaf 33 (s_get 9 16 36))))) (cw_node 41 (cw_node 37 (cw_leaf 36 (s_iload 1 37)) (cw_node 38 (cw_leaf 37 (s_aload 0 38)) (cw_leaf 38 (s_get 9 15 41)))) (cw_node 42 (cw_leaf 41 (s_iload 1 42)) (cw_node 43 (cw_leaf 42 (s_iald 43)) (cw_leaf 43 (s_iast 44)))))) (cw_node 51 (cw_node 48 (cw_node 45 (cw_leaf 44 (s_aload 0 45)) (cw_leaf 45 (s_get 9 17 48))) (cw_node 49 (cw_leaf 48 (s_iload 1 49)) (cw_node 50 (cw_leaf 49 (s_iload 2 50)) (cw_leaf 50 (s_iload 3 51))))) (cw_node 55 (cw_node 52 (cw_leaf 51 (s_ibin (fun x y => x - y) 52)) (cw_node 54 (cw_leaf 52 (s_iconst 65536 54)) (cw_leaf 54 (s_ibin (fun x y => x * y) 55)))) (cw_node 56 (cw_leaf 55 (s_iast 56)) (cw_node 57 (cw_leaf 56 (s_aload 0 57)) (cw_leaf 57 (s_get 9 18 60)))))))) (cw_node 91 (cw_node 77 (cw_node 67 (cw_node 62 (cw_node 61 (cw_leaf 60 (s_iload 1 61)) (cw_leaf 61 (s_aload 0 62))) (cw_node 65 (cw_leaf 62 (s_get 9 17 65)) (cw_node 66 (cw_leaf 65 (s_iload 1 66)) (cw_leaf 66 (s_iald 67))))) (cw_node 72 (cw_node 68 (cw_leaf 67 (s_iast 68)) (cw_node 69 (cw_leaf 68 (s_aload 0 69)) (cw_leaf 69 (s_get 9 19 72)))) (cw_node 73 (cw_leaf 72 (s_iload 1 73)) (cw_node 74 (cw_leaf 73 (s_aload 0 74)) (cw_leaf 74 (s_get 9 2 77)))))) (cw_node 82 (cw_node 79 (cw_node 78 (cw_leaf 77 (s_iconst 4 78)) (cw_leaf 78 (s_iload 1 79))) (cw_node 80 (cw_leaf 79 (s_ibin (fun x y => x * y) 80)) (cw_node 81 (cw_leaf 80 (s_iconst 2 81)) (cw_leaf 81 (s_ibin (fun x y => x + y) 82))))) (cw_node 86 (cw_node 83 (cw_leaf 82 (s_iald 83)) (cw_node 85 (cw_leaf 83 (s_iconst 65536 85)) (cw_leaf 85 (s_ibin (fun x y => x * y) 86)))) (cw_node 87 (cw_leaf 86 (s_iast 87)) (cw_node 88 (cw_leaf 87 (s_aload 0 88)) (cw_leaf 88 (s_get 9 20 91))))))) (cw_node 106 (cw_node 98 (cw_node 93 (cw_node 92 (cw_leaf 91 (s_iload 1 92)) (cw_leaf 92 (s_aload 0 93))) (cw_node 96 (cw_leaf 93 (s_get 9 19 96)) (cw_node 97 (cw_leaf 96 (s_iload 1 97)) (cw_leaf 97 (s_iald 98))))) (cw_node 103 (cw_node 99 (cw_leaf 98 (s_iast 99)) (cw_node 100 (cw_leaf 99 (s_aload 0 100)) (cw_leaf 100 (s_get 9 22 103)))) (cw_node 104 (cw_leaf 103 (s_iload 1 104)) (cw_node 105 (cw_leaf 104 (s_iconst 0 105)) (cw_leaf 105 (s_iast 106)))))) (cw_node 113 (cw_node 110 (cw_node 107 (cw_leaf 106 (s_aload 0 107)) (cw_leaf 107 (s_get 9 23 110))) (cw_node 111 (cw_leaf 110 (s_iload 1 111)) (cw_node 112 (cw_leaf 111 (s_iconst 1 112)) (cw_leaf 112 (s_iast 113))))) (cw_node 118 (cw_node 114 (cw_leaf 113 (s_aload 0 114)) (cw_node 117 (cw_leaf 114 (s_get 9 24 117)) (cw_leaf 117 (s_iload 1 118)))) (cw_node 119 (cw_leaf 118 (s_iconst 1 119)) (cw_node 120 (cw_leaf 119 (s_iast 120)) (cw_leaf 120 (s_vret))))))))
def c_Mo_tellsJoint : Nat → Option cw_S := cw_node 143 (cw_node 70 (cw_node 34 (cw_node 15 (cw_node 7 (cw_node 4 (cw_node 1 (cw_leaf 0 (s_aload 0 1)) (cw_leaf 1 (s_get 9 9 4))) (cw_node 5 (cw_leaf 4 (s_iload 1 5)) (cw_node 6 (cw_leaf 5 (s_iald 6)) (cw_leaf 6 (s_istore 2 7))))) (cw_node 12 (cw_node 8 (cw_leaf 7 (s_aload 0 8)) (cw_node 11 (cw_leaf 8 (s_get 9 10 11)) (cw_leaf 11 (s_iload 1 12)))) (cw_node 13 (cw_leaf 12 (s_iald 13)) (cw_node 14 (cw_leaf 13 (s_istore 3 14)) (cw_leaf 14 (s_aload 0 15)))))) (cw_node 24 (cw_node 17 (cw_node 16 (cw_leaf 15 (s_iload 2 16)) (cw_leaf 16 (s_iload 3 17))) (cw_node 20 (cw_leaf 17 (s_callV 9 m_Mo_reckons 2 20)) (cw_node 21 (cw_leaf 20 (s_aload 0 21)) (cw_leaf 21 (s_get 9 21 24))))) (cw_node 29 (cw_node 25 (cw_leaf 24 (s_iload 2 25)) (cw_node 26 (cw_leaf 25 (s_aload 0 26)) (cw_leaf 26 (s_get 9 27 29)))) (cw_node 30 (cw_leaf 29 (s_iast 30)) (cw_node 31 (cw_leaf 30 (s_aload 0 31)) (cw_leaf 31 (s_get 9 21 34))))))) (cw_node 51 (cw_node 41 (cw_node 36 (cw_node 35 (cw_leaf 34 (s_iload 3 35)) (cw_leaf 35 (s_aload 0 36))) (cw_node 39 (cw_leaf 36 (s_get 9 28 39)) (cw_node 40 (cw_leaf 39 (s_iast 40)) (cw_leaf 40 (s_aload 0 41))))) (cw_node 46 (cw_node 44 (cw_leaf 41 (s_get 9 19 44)) (cw_node 45 (cw_leaf 44 (s_iload 1 45)) (cw_leaf 45 (s_aload 0 46)))) (cw_node 49 (cw_leaf 46 (s_get 9 19 49)) (cw_node 50 (cw_leaf 49 (s_iload 2 50)) (cw_leaf 50 (s_iald 51)))))) (cw_node 60 (cw_node 55 (cw_node 52 (cw_leaf 51 (s_aload 0 52)) (cw_leaf 52 (s_get 9 27 55))) (cw_node 56 (cw_leaf 55 (s_ibin (fun x y => x + y) 56)) (cw_node 57 (cw_leaf 56 (s_aload 0 57)) (cw_leaf 57 (s_get 9 19 60))))) (cw_node 63 (cw_node 61 (cw_leaf 60 (s_iload 3 61)) (cw_node 62 (cw_leaf 61 (s_iald 62)) (cw_leaf 62 (s_aload 0 63)))) (cw_node 66 (cw_leaf 63 (s_get 9 28 66)) (cw_node 67 (cw_leaf 66 (s_ibin (fun x y => x + y) 67)) (cw_leaf 67 (s_callS m_Mo_lesser 2 70)))))))) (cw_node 106 (cw_node 87 (cw_node 77 (cw_node 72 (cw_node 71 (cw_leaf 70 (s_iast 71)) (cw_leaf 71 (s_aload 0 72))) (cw_node 75 (cw_leaf 72 (s_get 9 20 75)) (cw_node 76 (cw_leaf 75 (s_iload 1 76)) (cw_leaf 76 (s_aload 0 77))))) (cw_node 82 (cw_node 80 (cw_leaf 77 (s_get 9 20 80)) (cw_node 81 (cw_leaf 80 (s_iload 2 81)) (cw_leaf 81 (s_iald 82)))) (cw_node 83 (cw_leaf 82 (s_aload 0 83)) (cw_node 86 (cw_leaf 83 (s_get 9 27 86)) (cw_leaf 86 (s_ibin (fun x y => x + y) 87)))))) (cw_node 94 (cw_node 91 (cw_node 88 (cw_leaf 87 (s_aload 0 88)) (cw_leaf 88 (s_get 9 20 91))) (cw_node 92 (cw_leaf 91 (s_iload 3 92)) (cw_node 93 (cw_leaf 92 (s_iald 93)) (cw_leaf 93 (s_aload 0 94))))) (cw_node 101 (cw_node 97 (cw_leaf 94 (s_get 9 28 97)) (cw_node 98 (cw_leaf 97 (s_ibin (fun x y => x + y) 98)) (cw_leaf 98 (s_callS m_Mo_greater 2 101)))) (cw_node 102 (cw_leaf 101 (s_iast 102)) (cw_node 103 (cw_leaf 102 (s_aload 0 103)) (cw_leaf 103 (s_get 9 15 106))))))) (cw_node 123 (cw_node 113 (cw_node 108 (cw_node 107 (cw_leaf 106 (s_iload 1 107)) (cw_leaf 107 (s_aload 0 108))) (cw_node 111 (cw_leaf 108 (s_get 9 15 111)) (cw_node 112 (cw_leaf 111 (s_iload 2 112)) (cw_leaf 112 (s_iald 113))))) (cw_node 118 (cw_node 114 (cw_leaf 113 (s_aload 0 114)) (cw_node 117 (cw_leaf 114 (s_get 9 27 117)) (cw_leaf 117 (s_ibin (fun x y => x - y) 118)))) (cw_node 119 (cw_leaf 118 (s_aload 0 119)) (cw_node 122 (cw_leaf 119 (s_get 9 15 122)) (cw_leaf 122 (s_iload 3 123)))))) (cw_node 133 (cw_node 128 (cw_node 124 (cw_leaf 123 (s_iald 124)) (cw_node 125 (cw_leaf 124 (s_aload 0 125)) (cw_leaf 125 (s_get 9 28 128)))) (cw_node 129 (cw_leaf 128 (s_ibin (fun x y => x - y) 129)) (cw_node 132 (cw_leaf 129 (s_callS m_Mo_greater 2 132)) (cw_leaf 132 (s_iast 133))))) (cw_node 138 (cw_node 134 (cw_leaf 133 (s_aload 0 134)) (cw_node 137 (cw_leaf 134 (s_get 9 16 137)) (cw_leaf 137 (s_iload 1 138)))) (cw_node 139 (cw_leaf 138 (s_aload 0 139)) (cw_node 142 (cw_leaf 139 (s_get 9 16 142)) (cw_leaf 142 (s_iload 2 143))))))))) (cw_node 215 (cw_node 179 (cw_node 160 (cw_node 150 (cw_node 145 (cw_node 144 (cw_leaf 143 (s_iald 144)) (cw_leaf 144 (s_aload 0 145))) (cw_node 148 (cw_leaf 145 (s_get 9 27 148)) (cw_node 149 (cw_leaf 148 (s_ibin (fun x y => x + y) 149)) (cw_leaf 149 (s_aload 0 150))))) (cw_node 155 (cw_node 153 (cw_leaf 150 (s_get 9 16 153)) (cw_node 154 (cw_leaf 153 (s_iload 3 154)) (cw_leaf 154 (s_iald 155)))) (cw_node 156 (cw_leaf 155 (s_aload 0 156)) (cw_node 159 (cw_leaf 156 (s_get 9 28 159)) (cw_leaf 159 (s_ibin (fun x y => x + y) 160)))))) (cw_node 169 (cw_node 164 (cw_node 163 (cw_leaf 160 (s_callS m_Mo_lesser 2 163)) (cw_leaf 163 (s_iast 164))) (cw_node 165 (cw_leaf 164 (s_aload 0 165)) (cw_node 168 (cw_leaf 165 (s_get 9 17 168)) (cw_leaf 168 (s_iload 1 169))))) (cw_node 174 (cw_node 170 (cw_leaf 169 (s_aload 0 170)) (cw_node 173 (cw_leaf 170 (s_get 9 17 173)) (cw_leaf 173 (s_iload 2 174)))) (cw_node 175 (cw_leaf 174 (s_iald 175)) (cw_node 176 (cw_leaf 175 (s_aload 0 176)) (cw_leaf 176 (s_get 9 27 179))))))) (cw_node 196 (cw_node 186 (cw_node 181 (cw_node 180 (cw_leaf 179 (s_ibin (fun x y => x - y) 180)) (cw_leaf 180 (s_aload 0 181))) (cw_node 184 (cw_leaf 181 (s_get 9 17 184)) (cw_node 185 (cw_leaf 184 (s_iload 3 185)) (cw_leaf 185 (s_iald 186))))) (cw_node 191 (cw_node 187 (cw_leaf 186 (s_aload 0 187)) (cw_node 190 (cw_leaf 187 (s_get 9 28 190)) (cw_leaf 190 (s_ibin (fun x y => x - y) 191)))) (cw_node 194 (cw_leaf 191 (s_callS m_Mo_greater 2 194)) (cw_node 195 (cw_leaf 194 (s_iast 195)) (cw_leaf 195 (s_aload 0 196)))))) (cw_node 205 (cw_node 200 (cw_node 199 (cw_leaf 196 (s_get 9 18 199)) (cw_leaf 199 (s_iload 1 200))) (cw_node 201 (cw_leaf 200 (s_aload 0 201)) (cw_node 204 (cw_leaf 201 (s_get 9 18 204)) (cw_leaf 204 (s_iload 2 205))))) (cw_node 210 (cw_node 206 (cw_leaf 205 (s_iald 206)) (cw_node 207 (cw_leaf 206 (s_aload 0 207)) (cw_leaf 207 (s_get 9 27 210)))) (cw_node 211 (cw_leaf 210 (s_ibin (fun x y => x + y) 211)) (cw_node 212 (cw_leaf 211 (s_aload 0 212)) (cw_leaf 212 (s_get 9 18 215)))))))) (cw_node 249 (cw_node 232 (cw_node 222 (cw_node 217 (cw_node 216 (cw_leaf 215 (s_iload 3 216)) (cw_leaf 216 (s_iald 217))) (cw_node 218 (cw_leaf 217 (s_aload 0 218)) (cw_node 221 (cw_leaf 218 (s_get 9 28 221)) (cw_leaf 221 (s_ibin (fun x y => x + y) 222))))) (cw_node 227 (cw_node 225 (cw_leaf 222 (s_callS m_Mo_lesser 2 225)) (cw_node 226 (cw_leaf 225 (s_iast 226)) (cw_leaf 226 (s_aload 0 227)))) (cw_node 230 (cw_leaf 227 (s_get 9 22 230)) (cw_node 231 (cw_leaf 230 (s_iload 1 231)) (cw_leaf 231 (s_aload 0 232)))))) (cw_node 241 (cw_node 236 (cw_node 235 (cw_leaf 232 (s_get 9 22 235)) (cw_leaf 235 (s_iload 2 236))) (cw_node 237 (cw_leaf 236 (s_iald 237)) (cw_node 238 (cw_leaf 237 (s_aload 0 238)) (cw_leaf 238 (s_get 9 22 241))))) (cw_node 244 (cw_node 242 (cw_leaf 241 (s_iload 3 242)) (cw_node 243 (cw_leaf 242 (s_iald 243)) (cw_leaf 243 (s_ibin (fun x y => x + y) 244)))) (cw_node 245 (cw_leaf 244 (s_aload 0 245)) (cw_node 248 (cw_leaf 245 (s_get 9 27 248)) (cw_leaf 248 (s_ibin (fun x y => x + y) 249))))))) (cw_node 266 (cw_node 256 (cw_node 253 (cw_node 250 (cw_leaf 249 (s_aload 0 250)) (cw_leaf 250 (s_get 9 28 253))) (cw_node 254 (cw_leaf 253 (s_ibin (fun x y => x + y) 254)) (cw_node 255 (cw_leaf 254 (s_iast 255)) (cw_leaf 255 (s_aload 0 256))))) (cw_node 261 (cw_node 259 (cw_leaf 256 (s_get 9 23 259)) (cw_node 260 (cw_leaf 259 (s_iload 1 260)) (cw_leaf 260 (s_aload 0 261)))) (cw_node 264 (cw_leaf 261 (s_get 9 23 264)) (cw_node 265 (cw_leaf 264 (s_iload 2 265)) (cw_leaf 265 (s_iald 266)))))) (cw_node 274 (cw_node 271 (cw_node 267 (cw_leaf 266 (s_aload 0 267)) (cw_node 270 (cw_leaf 267 (s_get 9 23 270)) (cw_leaf 270 (s_iload 3 271)))) (cw_node 272 (cw_leaf 271 (s_iald 272)) (cw_node 273 (cw_leaf 272 (s_ibin (fun x y => x + y) 273)) (cw_leaf 273 (s_iast 274))))) (cw_node 279 (cw_node 275 (cw_leaf 274 (s_aload 0 275)) (cw_node 278 (cw_leaf 275 (s_get 9 24 278)) (cw_leaf 278 (s_iload 1 279)))) (cw_node 280 (cw_leaf 279 (s_iconst 1 280)) (cw_node 281 (cw_leaf 280 (s_iast 281)) (cw_leaf 281 (s_vret)))))))))
def c_Mo_tellsAll : Nat → Option cw_S := cw_node 59 (cw_node 24 (cw_node 13 (cw_node 5 (cw_node 2 (cw_node 1 (cw_leaf 0 (s_iconst 0 1)) (cw_leaf 1 (s_istore 1 2))) (cw_node 3 (cw_leaf 2 (s_iload 1 3)) (cw_leaf 3 (s_iconst 15 5)))) (cw_node 9 (cw_node 8 (cw_leaf 5 (s_icmp (fun x y => decide (y ≤ x)) 41 8)) (cw_leaf 8 (s_aload 0 9))) (cw_node 12 (cw_leaf 9 (s_get 9 24 12)) (cw_leaf 12 (s_iload 1 13))))) (cw_node 19 (cw_node 15 (cw_node 14 (cw_leaf 13 (s_iconst 0 14)) (cw_leaf 14 (s_iast 15))) (cw_node 16 (cw_leaf 15 (s_aload 0 16)) (cw_leaf 16 (s_get 9 21 19)))) (cw_node 21 (cw_node 20 (cw_leaf 19 (s_iload 1 20)) (cw_leaf 20 (s_iconst (-1) 21))) (cw_node 22 (cw_leaf 21 (s_iast 22)) (cw_node 23 (cw_leaf 22 (s_iload 1 23)) (cw_leaf 23 (s_aload 0 24))))))) (cw_node 43 (cw_node 32 (cw_node 30 (cw_node 27 (cw_leaf 24 (s_get 9 1 27)) (cw_leaf 27 (s_icmp (fun x y => decide (y ≤ x)) 35 30))) (cw_node 31 (cw_leaf 30 (s_aload 0 31)) (cw_leaf 31 (s_iload 1 32)))) (cw_node 38 (cw_node 35 (cw_leaf 32 (s_callV 9 m_Mo_tellsSink 1 35)) (cw_leaf 35 (s_iinc 1 1 38))) (cw_node 41 (cw_leaf 38 (s_goto 2)) (cw_node 42 (cw_leaf 41 (s_iconst 0 42)) (cw_leaf 42 (s_istore 1 43)))))) (cw_node 51 (cw_node 46 (cw_node 44 (cw_leaf 43 (s_iload 1 44)) (cw_leaf 44 (s_iconst 7 46))) (cw_node 49 (cw_leaf 46 (s_icmp (fun x y => decide (y ≤ x)) 124 49)) (cw_leaf 49 (s_iconst 8 51)))) (cw_node 53 (cw_node 52 (cw_leaf 51 (s_istore 2 52)) (cw_leaf 52 (s_iload 2 53))) (cw_node 55 (cw_leaf 53 (s_iconst 15 55)) (cw_node 58 (cw_leaf 55 (s_icmp (fun x y => decide (y ≤ x)) 118 58)) (cw_leaf 58 (s_aload 0 59)))))))) (cw_node 89 (cw_node 74 (cw_node 65 (cw_node 63 (cw_node 62 (cw_leaf 59 (s_get 9 8 62)) (cw_leaf 62 (s_iload 2 63))) (cw_node 64 (cw_leaf 63 (s_iald 64)) (cw_leaf 64 (s_iconst 1 65)))) (cw_node 69 (cw_node 68 (cw_leaf 65 (s_icmp (fun x y => decide (¬ x = y)) 112 68)) (cw_leaf 68 (s_aload 0 69))) (cw_node 72 (cw_leaf 69 (s_get 9 24 72)) (cw_node 73 (cw_leaf 72 (s_iload 2 73)) (cw_leaf 73 (s_iald 74)))))) (cw_node 82 (cw_node 78 (cw_node 77 (cw_leaf 74 (s_if (fun x => decide (¬ x = 0)) 112 77)) (cw_leaf 77 (s_aload 0 78))) (cw_node 81 (cw_leaf 78 (s_get 9 24 81)) (cw_leaf 81 (s_aload 0 82)))) (cw_node 86 (cw_node 85 (cw_leaf 82 (s_get 9 9 85)) (cw_leaf 85 (s_iload 2 86))) (cw_node 87 (cw_leaf 86 (s_iald 87)) (cw_node 88 (cw_leaf 87 (s_iald 88)) (cw_leaf 88 (s_iconst 1 89))))))) (cw_node 104 (cw_node 97 (cw_node 93 (cw_node 92 (cw_leaf 89 (s_icmp (fun x y => decide (¬ x = y)) 112 92)) (cw_leaf 92 (s_aload 0 93))) (cw_node 96 (cw_leaf 93 (s_get 9 24 96)) (cw_leaf 96 (s_aload 0 97)))) (cw_node 101 (cw_node 100 (cw_leaf 97 (s_get 9 10 100)) (cw_leaf 100 (s_iload 2 101))) (cw_node 102 (cw_leaf 101 (s_iald 102)) (cw_node 103 (cw_leaf 102 (s_iald 103)) (cw_leaf 103 (s_iconst 1 104)))))) (cw_node 112 (cw_node 108 (cw_node 107 (cw_leaf 104 (s_icmp (fun x y => decide (¬ x = y)) 112 107)) (cw_leaf 107 (s_aload 0 108))) (cw_node 109 (cw_leaf 108 (s_iload 2 109)) (cw_leaf 109 (s_callV 9 m_Mo_tellsJoint 1 112)))) (cw_node 118 (cw_node 115 (cw_leaf 112 (s_iinc 2 1 115)) (cw_leaf 115 (s_goto 52))) (cw_node 121 (cw_leaf 118 (s_iinc 1 1 121)) (cw_node 124 (cw_leaf 121 (s_goto 43)) (cw_leaf 124 (s_vret))))))))
def c_Mo_costOfAll : Nat → Option cw_S := cw_node 25 (cw_node 11 (cw_node 6 (cw_node 4 (cw_node 1 (cw_leaf 0 (s_aload 0 1)) (cw_leaf 1 (s_callV 9 m_Mo_tellsAll 0 4))) (cw_node 5 (cw_leaf 4 (s_iconst 0 5)) (cw_leaf 5 (s_istore 1 6)))) (cw_node 8 (cw_node 7 (cw_leaf 6 (s_iconst 0 7)) (cw_leaf 7 (s_istore 2 8))) (cw_node 9 (cw_leaf 8 (s_iload 2 9)) (cw_leaf 9 (s_iconst 15 11))))) (cw_node 19 (cw_node 15 (cw_node 14 (cw_leaf 11 (s_icmp (fun x y => decide (y ≤ x)) 51 14)) (cw_leaf 14 (s_iload 1 15))) (cw_node 16 (cw_leaf 15 (s_aload 0 16)) (cw_leaf 16 (s_get 9 8 19)))) (cw_node 21 (cw_node 20 (cw_leaf 19 (s_iload 2 20)) (cw_leaf 20 (s_iald 21))) (cw_node 22 (cw_leaf 21 (s_iconst 1 22)) (cw_leaf 22 (s_icmp (fun x y => decide (¬ x = y)) 42 25)))))) (cw_node 39 (cw_node 33 (cw_node 27 (cw_node 26 (cw_leaf 25 (s_aload 0 26)) (cw_leaf 26 (s_iload 2 27))) (cw_node 30 (cw_leaf 27 (s_callV 9 m_Mo_isTop 1 30)) (cw_leaf 30 (s_if (fun x => decide (x = 0)) 42 33)))) (cw_node 37 (cw_node 34 (cw_leaf 33 (s_aload 0 34)) (cw_leaf 34 (s_get 9 22 37))) (cw_node 38 (cw_leaf 37 (s_iload 2 38)) (cw_leaf 38 (s_iald 39))))) (cw_node 45 (cw_node 43 (cw_node 42 (cw_leaf 39 (s_goto 43)) (cw_leaf 42 (s_iconst 0 43))) (cw_node 44 (cw_leaf 43 (s_ibin (fun x y => x + y) 44)) (cw_leaf 44 (s_istore 1 45)))) (cw_node 51 (cw_node 48 (cw_leaf 45 (s_iinc 2 1 48)) (cw_leaf 48 (s_goto 8))) (cw_node 52 (cw_leaf 51 (s_iload 1 52)) (cw_leaf 52 (s_iret))))))
def c_Mo_into : Nat → Option cw_S := cw_node 10 (cw_node 5 (cw_node 1 (cw_leaf 0 (s_iload 0 1)) (cw_node 2 (cw_leaf 1 (s_iload 1 2)) (cw_leaf 2 (s_icmp (fun x y => decide (y ≤ x)) 9 5)))) (cw_node 6 (cw_leaf 5 (s_iload 1 6)) (cw_node 9 (cw_leaf 6 (s_goto 19)) (cw_leaf 9 (s_iload 0 10))))) (cw_node 15 (cw_node 11 (cw_leaf 10 (s_iload 2 11)) (cw_node 14 (cw_leaf 11 (s_icmp (fun x y => decide (x ≤ y)) 18 14)) (cw_leaf 14 (s_iload 2 15)))) (cw_node 18 (cw_leaf 15 (s_goto 19)) (cw_node 19 (cw_leaf 18 (s_iload 0 19)) (cw_leaf 19 (s_iret)))))
def c_Mo_settles : Nat → Option cw_S := cw_node 27 (cw_node 12 (cw_node 6 (cw_node 4 (cw_node 1 (cw_leaf 0 (s_aload 0 1)) (cw_leaf 1 (s_get 9 29 4))) (cw_node 5 (cw_leaf 4 (s_iload 1 5)) (cw_leaf 5 (s_iload 2 6)))) (cw_node 10 (cw_node 7 (cw_leaf 6 (s_aload 0 7)) (cw_leaf 7 (s_get 9 15 10))) (cw_node 11 (cw_leaf 10 (s_iload 1 11)) (cw_leaf 11 (s_iald 12))))) (cw_node 18 (cw_node 16 (cw_node 13 (cw_leaf 12 (s_aload 0 13)) (cw_leaf 13 (s_get 9 16 16))) (cw_node 17 (cw_leaf 16 (s_iload 1 17)) (cw_leaf 17 (s_iald 18)))) (cw_node 22 (cw_node 21 (cw_leaf 18 (s_callS m_Mo_into 3 21)) (cw_leaf 21 (s_iast 22))) (cw_node 23 (cw_leaf 22 (s_aload 0 23)) (cw_node 26 (cw_leaf 23 (s_get 9 30 26)) (cw_leaf 26 (s_iload 1 27))))))) (cw_node 39 (cw_node 33 (cw_node 29 (cw_node 28 (cw_leaf 27 (s_iload 3 28)) (cw_leaf 28 (s_aload 0 29))) (cw_node 32 (cw_leaf 29 (s_get 9 17 32)) (cw_leaf 32 (s_iload 1 33)))) (cw_node 35 (cw_node 34 (cw_leaf 33 (s_iald 34)) (cw_leaf 34 (s_aload 0 35))) (cw_node 38 (cw_leaf 35 (s_get 9 18 38)) (cw_leaf 38 (s_iload 1 39))))) (cw_node 45 (cw_node 43 (cw_node 40 (cw_leaf 39 (s_iald 40)) (cw_leaf 40 (s_callS m_Mo_into 3 43))) (cw_node 44 (cw_leaf 43 (s_iast 44)) (cw_leaf 44 (s_aload 0 45)))) (cw_node 49 (cw_node 48 (cw_leaf 45 (s_get 9 31 48)) (cw_leaf 48 (s_iload 1 49))) (cw_node 50 (cw_leaf 49 (s_iconst 1 50)) (cw_node 51 (cw_leaf 50 (s_iast 51)) (cw_leaf 51 (s_vret)))))))
def c_Mo_areLaid : Nat → Option cw_S := cw_node 94 (cw_node 41 (cw_node 22 (cw_node 10 (cw_node 5 (cw_node 1 (cw_leaf 0 (s_aload 0 1)) (cw_node 4 (cw_leaf 1 (s_callV 9 m_Mo_topMany 0 4)) (cw_leaf 4 (s_iconst 1 5)))) (cw_node 8 (cw_leaf 5 (s_icmp (fun x y => decide (x = y)) 10 8)) (cw_node 9 (cw_leaf 8 (s_iconst 0 9)) (cw_leaf 9 (s_zret))))) (cw_node 15 (cw_node 11 (cw_leaf 10 (s_aload 0 11)) (cw_node 14 (cw_leaf 11 (s_callV 9 m_Mo_tellsAll 0 14)) (cw_leaf 14 (s_iconst 0 15)))) (cw_node 17 (cw_node 16 (cw_leaf 15 (s_istore 1 16)) (cw_leaf 16 (s_iload 1 17))) (cw_node 19 (cw_leaf 17 (s_iconst 15 19)) (cw_leaf 19 (s_icmp (fun x y => decide (y ≤ x)) 65 22)))))) (cw_node 30 (cw_node 27 (cw_node 23 (cw_leaf 22 (s_aload 0 23)) (cw_node 26 (cw_leaf 23 (s_get 9 31 26)) (cw_leaf 26 (s_iload 1 27)))) (cw_node 28 (cw_leaf 27 (s_iconst 0 28)) (cw_node 29 (cw_leaf 28 (s_iast 29)) (cw_leaf 29 (s_aload 0 30))))) (cw_node 35 (cw_node 31 (cw_leaf 30 (s_aload 0 31)) (cw_node 34 (cw_leaf 31 (s_get 9 8 34)) (cw_leaf 34 (s_iload 1 35)))) (cw_node 37 (cw_node 36 (cw_leaf 35 (s_iald 36)) (cw_leaf 36 (s_iconst 1 37))) (cw_node 40 (cw_leaf 37 (s_icmp (fun x y => decide (¬ x = y)) 52 40)) (cw_leaf 40 (s_aload 0 41))))))) (cw_node 70 (cw_node 53 (cw_node 48 (cw_node 42 (cw_leaf 41 (s_iload 1 42)) (cw_node 45 (cw_leaf 42 (s_callV 9 m_Mo_isTop 1 45)) (cw_leaf 45 (s_if (fun x => decide (x = 0)) 52 48)))) (cw_node 49 (cw_leaf 48 (s_iload 1 49)) (cw_node 52 (cw_leaf 49 (s_goto 56)) (cw_leaf 52 (s_aload 0 53))))) (cw_node 62 (cw_node 56 (cw_leaf 53 (s_get 9 32 56)) (cw_node 59 (cw_leaf 56 (s_put 9 32 0 59)) (cw_leaf 59 (s_iinc 1 1 62)))) (cw_node 66 (cw_node 65 (cw_leaf 62 (s_goto 16)) (cw_leaf 65 (s_aload 0 66))) (cw_node 67 (cw_leaf 66 (s_aload 0 67)) (cw_leaf 67 (s_get 9 32 70)))))) (cw_node 82 (cw_node 75 (cw_node 71 (cw_leaf 70 (s_aload 0 71)) (cw_node 74 (cw_leaf 71 (s_get 9 4 74)) (cw_leaf 74 (s_aload 0 75)))) (cw_node 79 (cw_node 78 (cw_leaf 75 (s_get 9 5 78)) (cw_leaf 78 (s_ibin (fun x y => x + y) 79))) (cw_node 81 (cw_leaf 79 (s_iconst 65536 81)) (cw_leaf 81 (s_ibin (fun x y => x * y) 82))))) (cw_node 87 (cw_node 83 (cw_leaf 82 (s_aload 0 83)) (cw_node 86 (cw_leaf 83 (s_get 9 4 86)) (cw_leaf 86 (s_aload 0 87)))) (cw_node 91 (cw_node 90 (cw_leaf 87 (s_get 9 5 90)) (cw_leaf 90 (s_ibin (fun x y => x - y) 91))) (cw_node 93 (cw_leaf 91 (s_iconst 65536 93)) (cw_leaf 93 (s_ibin (fun x y => x * y) 94)))))))) (cw_node 141 (cw_node 117 (cw_node 105 (cw_node 99 (cw_node 97 (cw_leaf 94 (s_callV 9 m_Mo_settles 3 97)) (cw_node 98 (cw_leaf 97 (s_iconst 0 98)) (cw_leaf 98 (s_istore 1 99)))) (cw_node 100 (cw_leaf 99 (s_iload 1 100)) (cw_node 102 (cw_leaf 100 (s_iconst 7 102)) (cw_leaf 102 (s_icmp (fun x y => decide (y ≤ x)) 186 105))))) (cw_node 108 (cw_node 106 (cw_leaf 105 (s_iconst 0 106)) (cw_node 107 (cw_leaf 106 (s_istore 2 107)) (cw_leaf 107 (s_iload 2 108)))) (cw_node 113 (cw_node 110 (cw_leaf 108 (s_iconst 15 110)) (cw_leaf 110 (s_icmp (fun x y => decide (y ≤ x)) 180 113))) (cw_node 114 (cw_leaf 113 (s_aload 0 114)) (cw_leaf 114 (s_get 9 8 117)))))) (cw_node 128 (cw_node 120 (cw_node 118 (cw_leaf 117 (s_iload 2 118)) (cw_node 119 (cw_leaf 118 (s_iald 119)) (cw_leaf 119 (s_iconst 1 120)))) (cw_node 124 (cw_node 123 (cw_leaf 120 (s_icmp (fun x y => decide (¬ x = y)) 174 123)) (cw_leaf 123 (s_aload 0 124))) (cw_node 127 (cw_leaf 124 (s_get 9 31 127)) (cw_leaf 127 (s_iload 2 128))))) (cw_node 133 (cw_node 129 (cw_leaf 128 (s_iald 129)) (cw_node 132 (cw_leaf 129 (s_if (fun x => decide (¬ x = 0)) 174 132)) (cw_leaf 132 (s_aload 0 133)))) (cw_node 137 (cw_node 136 (cw_leaf 133 (s_get 9 31 136)) (cw_leaf 136 (s_aload 0 137))) (cw_node 140 (cw_leaf 137 (s_get 9 11 140)) (cw_leaf 140 (s_iload 2 141))))))) (cw_node 160 (cw_node 149 (cw_node 144 (cw_node 142 (cw_leaf 141 (s_iald 142)) (cw_node 143 (cw_leaf 142 (s_iald 143)) (cw_leaf 143 (s_iconst 1 144)))) (cw_node 147 (cw_leaf 144 (s_icmp (fun x y => decide (¬ x = y)) 174 147)) (cw_node 148 (cw_leaf 147 (s_aload 0 148)) (cw_leaf 148 (s_iload 2 149))))) (cw_node 154 (cw_node 150 (cw_leaf 149 (s_aload 0 150)) (cw_node 153 (cw_leaf 150 (s_get 9 29 153)) (cw_leaf 153 (s_aload 0 154)))) (cw_node 158 (cw_node 157 (cw_leaf 154 (s_get 9 11 157)) (cw_leaf 157 (s_iload 2 158))) (cw_node 159 (cw_leaf 158 (s_iald 159)) (cw_leaf 159 (s_iald 160)))))) (cw_node 171 (cw_node 165 (cw_node 161 (cw_leaf 160 (s_aload 0 161)) (cw_node 164 (cw_leaf 161 (s_get 9 30 164)) (cw_leaf 164 (s_aload 0 165)))) (cw_node 169 (cw_node 168 (cw_leaf 165 (s_get 9 11 168)) (cw_leaf 168 (s_iload 2 169))) (cw_node 170 (cw_leaf 169 (s_iald 170)) (cw_leaf 170 (s_iald 171))))) (cw_node 180 (cw_node 174 (cw_leaf 171 (s_callV 9 m_Mo_settles 3 174)) (cw_node 177 (cw_leaf 174 (s_iinc 2 1 177)) (cw_leaf 177 (s_goto 107)))) (cw_node 186 (cw_node 183 (cw_leaf 180 (s_iinc 1 1 183)) (cw_leaf 183 (s_goto 99))) (cw_node 187 (cw_leaf 186 (s_iconst 1 187)) (cw_leaf 187 (s_zret))))))))
def c_Mo_trunk : Nat → Option cw_S := cw_node 30 (cw_node 14 (cw_node 8 (cw_node 4 (cw_node 1 (cw_leaf 0 (s_aload 0 1)) (cw_leaf 1 (s_get 9 29 4))) (cw_node 5 (cw_leaf 4 (s_aload 0 5)) (cw_leaf 5 (s_get 9 32 8)))) (cw_node 10 (cw_node 9 (cw_leaf 8 (s_iald 9)) (cw_leaf 9 (s_aload 0 10))) (cw_node 13 (cw_leaf 10 (s_get 9 4 13)) (cw_leaf 13 (s_aload 0 14))))) (cw_node 21 (cw_node 18 (cw_node 17 (cw_leaf 14 (s_get 9 5 17)) (cw_leaf 17 (s_ibin (fun x y => x + y) 18))) (cw_node 20 (cw_leaf 18 (s_iconst 65536 20)) (cw_leaf 20 (s_ibin (fun x y => x * y) 21)))) (cw_node 25 (cw_node 22 (cw_leaf 21 (s_ibin (fun x y => x - y) 22)) (cw_leaf 22 (s_callS m_Mo_size 1 25))) (cw_node 26 (cw_leaf 25 (s_istore 1 26)) (cw_node 27 (cw_leaf 26 (s_aload 0 27)) (cw_leaf 27 (s_get 9 30 30))))))) (cw_node 44 (cw_node 36 (cw_node 34 (cw_node 31 (cw_leaf 30 (s_aload 0 31)) (cw_leaf 31 (s_get 9 32 34))) (cw_node 35 (cw_leaf 34 (s_iald 35)) (cw_leaf 35 (s_aload 0 36)))) (cw_node 40 (cw_node 39 (cw_leaf 36 (s_get 9 4 39)) (cw_leaf 39 (s_aload 0 40))) (cw_node 43 (cw_leaf 40 (s_get 9 5 43)) (cw_leaf 43 (s_ibin (fun x y => x - y) 44))))) (cw_node 51 (cw_node 47 (cw_node 46 (cw_leaf 44 (s_iconst 65536 46)) (cw_leaf 46 (s_ibin (fun x y => x * y) 47))) (cw_node 48 (cw_leaf 47 (s_ibin (fun x y => x - y) 48)) (cw_leaf 48 (s_callS m_Mo_size 1 51)))) (cw_node 53 (cw_node 52 (cw_leaf 51 (s_istore 2 52)) (cw_leaf 52 (s_iload 1 53))) (cw_node 54 (cw_leaf 53 (s_iload 2 54)) (cw_node 57 (cw_leaf 54 (s_callS m_Mo_greater 2 57)) (cw_leaf 57 (s_iret)))))))
def c_Mo_loop : Nat → Option cw_S := cw_node 28 (cw_node 13 (cw_node 6 (cw_node 4 (cw_node 1 (cw_leaf 0 (s_aload 0 1)) (cw_leaf 1 (s_get 9 11 4))) (cw_node 5 (cw_leaf 4 (s_iload 1 5)) (cw_leaf 5 (s_iald 6)))) (cw_node 8 (cw_node 7 (cw_leaf 6 (s_istore 2 7)) (cw_leaf 7 (s_aload 0 8))) (cw_node 11 (cw_leaf 8 (s_get 9 29 11)) (cw_node 12 (cw_leaf 11 (s_iload 1 12)) (cw_leaf 12 (s_iald 13)))))) (cw_node 19 (cw_node 17 (cw_node 14 (cw_leaf 13 (s_aload 0 14)) (cw_leaf 14 (s_get 9 29 17))) (cw_node 18 (cw_leaf 17 (s_iload 2 18)) (cw_leaf 18 (s_iald 19)))) (cw_node 23 (cw_node 20 (cw_leaf 19 (s_ibin (fun x y => x - y) 20)) (cw_leaf 20 (s_callS m_Mo_size 1 23))) (cw_node 24 (cw_leaf 23 (s_istore 3 24)) (cw_node 25 (cw_leaf 24 (s_aload 0 25)) (cw_leaf 25 (s_get 9 30 28))))))) (cw_node 42 (cw_node 34 (cw_node 30 (cw_node 29 (cw_leaf 28 (s_iload 1 29)) (cw_leaf 29 (s_iald 30))) (cw_node 31 (cw_leaf 30 (s_aload 0 31)) (cw_leaf 31 (s_get 9 30 34)))) (cw_node 36 (cw_node 35 (cw_leaf 34 (s_iload 2 35)) (cw_leaf 35 (s_iald 36))) (cw_node 37 (cw_leaf 36 (s_ibin (fun x y => x - y) 37)) (cw_node 40 (cw_leaf 37 (s_callS m_Mo_size 1 40)) (cw_leaf 40 (s_istore 4 42)))))) (cw_node 48 (cw_node 46 (cw_node 43 (cw_leaf 42 (s_aload 0 43)) (cw_leaf 43 (s_get 9 21 46))) (cw_node 47 (cw_leaf 46 (s_iload 1 47)) (cw_leaf 47 (s_iald 48)))) (cw_node 51 (cw_node 49 (cw_leaf 48 (s_iload 3 49)) (cw_leaf 49 (s_iload 4 51))) (cw_node 54 (cw_leaf 51 (s_callS m_Mo_greater 2 54)) (cw_node 55 (cw_leaf 54 (s_ibin (fun x y => x - y) 55)) (cw_leaf 55 (s_iret)))))))
def c_Mo_arrives : Nat → Option cw_S := cw_node 22 (cw_node 12 (cw_node 8 (cw_node 4 (cw_node 1 (cw_leaf 0 (s_aload 0 1)) (cw_leaf 1 (s_callV 9 m_Mo_trunk 0 4))) (cw_node 5 (cw_leaf 4 (s_aload 0 5)) (cw_leaf 5 (s_get 9 2 8)))) (cw_node 10 (cw_node 9 (cw_leaf 8 (s_iconst 4 9)) (cw_leaf 9 (s_iload 1 10))) (cw_node 11 (cw_leaf 10 (s_ibin (fun x y => x * y) 11)) (cw_leaf 11 (s_iconst 2 12))))) (cw_node 17 (cw_node 14 (cw_node 13 (cw_leaf 12 (s_ibin (fun x y => x + y) 13)) (cw_leaf 13 (s_iald 14))) (cw_node 16 (cw_leaf 14 (s_iconst 65536 16)) (cw_leaf 16 (s_ibin (fun x y => x * y) 17)))) (cw_node 19 (cw_node 18 (cw_leaf 17 (s_ibin (fun x y => x + y) 18)) (cw_leaf 18 (s_istore 2 19))) (cw_node 20 (cw_leaf 19 (s_iload 1 20)) (cw_node 21 (cw_leaf 20 (s_istore 3 21)) (cw_leaf 21 (s_iload 3 22))))))) (cw_node 37 (cw_node 30 (cw_node 26 (cw_node 23 (cw_leaf 22 (s_aload 0 23)) (cw_leaf 23 (s_get 9 32 26))) (cw_node 29 (cw_leaf 26 (s_icmp (fun x y => decide (x = y)) 48 29)) (cw_leaf 29 (s_iload 2 30)))) (cw_node 34 (cw_node 31 (cw_leaf 30 (s_aload 0 31)) (cw_leaf 31 (s_get 9 21 34))) (cw_node 35 (cw_leaf 34 (s_iload 3 35)) (cw_node 36 (cw_leaf 35 (s_iald 36)) (cw_leaf 36 (s_ibin (fun x y => x + y) 37)))))) (cw_node 43 (cw_node 39 (cw_node 38 (cw_leaf 37 (s_istore 2 38)) (cw_leaf 38 (s_aload 0 39))) (cw_node 42 (cw_leaf 39 (s_get 9 11 42)) (cw_leaf 42 (s_iload 3 43)))) (cw_node 45 (cw_node 44 (cw_leaf 43 (s_iald 44)) (cw_leaf 44 (s_istore 3 45))) (cw_node 48 (cw_leaf 45 (s_goto 21)) (cw_node 49 (cw_leaf 48 (s_iload 2 49)) (cw_leaf 49 (s_iret)))))))
def c_Mo_isAt : Nat → Option cw_S := cw_node 23 (cw_node 11 (cw_node 3 (cw_node 1 (cw_leaf 0 (s_iconst 0 1)) (cw_node 2 (cw_leaf 1 (s_istore 3 2)) (cw_leaf 2 (s_iload 3 3)))) (cw_node 7 (cw_node 4 (cw_leaf 3 (s_aload 0 4)) (cw_leaf 4 (s_get 9 1 7))) (cw_node 10 (cw_leaf 7 (s_icmp (fun x y => decide (y ≤ x)) 44 10)) (cw_leaf 10 (s_aload 0 11))))) (cw_node 17 (cw_node 15 (cw_node 14 (cw_leaf 11 (s_get 9 2 14)) (cw_leaf 14 (s_iconst 4 15))) (cw_node 16 (cw_leaf 15 (s_iload 3 16)) (cw_leaf 16 (s_ibin (fun x y => x * y) 17)))) (cw_node 19 (cw_node 18 (cw_leaf 17 (s_iald 18)) (cw_leaf 18 (s_iload 1 19))) (cw_node 22 (cw_leaf 19 (s_icmp (fun x y => decide (¬ x = y)) 38 22)) (cw_leaf 22 (s_aload 0 23)))))) (cw_node 32 (cw_node 28 (cw_node 26 (cw_leaf 23 (s_get 9 2 26)) (cw_node 27 (cw_leaf 26 (s_iconst 4 27)) (cw_leaf 27 (s_iload 3 28)))) (cw_node 30 (cw_node 29 (cw_leaf 28 (s_ibin (fun x y => x * y) 29)) (cw_leaf 29 (s_iconst 1 30))) (cw_node 31 (cw_leaf 30 (s_ibin (fun x y => x + y) 31)) (cw_leaf 31 (s_iald 32))))) (cw_node 38 (cw_node 36 (cw_node 33 (cw_leaf 32 (s_iload 2 33)) (cw_leaf 33 (s_icmp (fun x y => decide (¬ x = y)) 38 36))) (cw_node 37 (cw_leaf 36 (s_iload 3 37)) (cw_leaf 37 (s_iret)))) (cw_node 44 (cw_node 41 (cw_leaf 38 (s_iinc 3 1 41)) (cw_leaf 41 (s_goto 2))) (cw_node 45 (cw_leaf 44 (s_iconst (-1) 45)) (cw_leaf 45 (s_iret))))))
def c_Mo_touches : Nat → Option cw_S := cw_node 44 (cw_node 20 (cw_node 10 (cw_node 3 (cw_node 1 (cw_leaf 0 (s_iconst 0 1)) (cw_node 2 (cw_leaf 1 (s_istore 2 2)) (cw_leaf 2 (s_iload 2 3)))) (cw_node 4 (cw_leaf 3 (s_aload 0 4)) (cw_node 7 (cw_leaf 4 (s_get 9 6 7)) (cw_leaf 7 (s_icmp (fun x y => decide (y ≤ x)) 26 10))))) (cw_node 15 (cw_node 11 (cw_leaf 10 (s_aload 0 11)) (cw_node 14 (cw_leaf 11 (s_get 9 7 14)) (cw_leaf 14 (s_iload 2 15)))) (cw_node 16 (cw_leaf 15 (s_iald 16)) (cw_node 17 (cw_leaf 16 (s_iload 1 17)) (cw_leaf 17 (s_icmp (fun x y => decide (x = y)) 26 20)))))) (cw_node 32 (cw_node 27 (cw_node 23 (cw_leaf 20 (s_iinc 2 1 23)) (cw_node 26 (cw_leaf 23 (s_goto 2)) (cw_leaf 26 (s_aload 0 27)))) (cw_node 28 (cw_leaf 27 (s_dup 28)) (cw_node 31 (cw_leaf 28 (s_get 9 6 31)) (cw_leaf 31 (s_iload 2 32))))) (cw_node 39 (cw_node 33 (cw_leaf 32 (s_aload 0 33)) (cw_node 36 (cw_leaf 33 (s_get 9 6 36)) (cw_leaf 36 (s_icmp (fun x y => decide (¬ x = y)) 43 39)))) (cw_node 40 (cw_leaf 39 (s_iconst 1 40)) (cw_node 43 (cw_leaf 40 (s_goto 44)) (cw_leaf 43 (s_iconst 0 44))))))) (cw_node 64 (cw_node 54 (cw_node 49 (cw_node 45 (cw_leaf 44 (s_ibin (fun x y => x + y) 45)) (cw_node 48 (cw_leaf 45 (s_put 9 6 0 48)) (cw_leaf 48 (s_iload 2 49)))) (cw_node 50 (cw_leaf 49 (s_istore 3 50)) (cw_node 51 (cw_leaf 50 (s_iload 3 51)) (cw_leaf 51 (s_if (fun x => decide (x ≤ 0)) 74 54))))) (cw_node 59 (cw_node 55 (cw_leaf 54 (s_aload 0 55)) (cw_node 58 (cw_leaf 55 (s_get 9 7 58)) (cw_leaf 58 (s_iload 3 59)))) (cw_node 60 (cw_leaf 59 (s_aload 0 60)) (cw_node 63 (cw_leaf 60 (s_get 9 7 63)) (cw_leaf 63 (s_iload 3 64)))))) (cw_node 74 (cw_node 67 (cw_node 65 (cw_leaf 64 (s_iconst 1 65)) (cw_node 66 (cw_leaf 65 (s_ibin (fun x y => x - y) 66)) (cw_leaf 66 (s_iald 67)))) (cw_node 68 (cw_leaf 67 (s_iast 68)) (cw_node 71 (cw_leaf 68 (s_iinc 3 (-1) 71)) (cw_leaf 71 (s_goto 50))))) (cw_node 79 (cw_node 75 (cw_leaf 74 (s_aload 0 75)) (cw_node 78 (cw_leaf 75 (s_get 9 7 78)) (cw_leaf 78 (s_iconst 0 79)))) (cw_node 80 (cw_leaf 79 (s_iload 1 80)) (cw_node 81 (cw_leaf 80 (s_iast 81)) (cw_leaf 81 (s_vret)))))))
def c_Mo_apart : Nat → Option cw_S := cw_node 12 (cw_node 5 (cw_node 2 (cw_node 1 (cw_leaf 0 (s_iload 0 1)) (cw_leaf 1 (s_iload 1 2))) (cw_node 3 (cw_leaf 2 (s_ibin (fun x y => x + y) 3)) (cw_node 4 (cw_leaf 3 (s_iload 2 4)) (cw_leaf 4 (s_ibin (fun x y => x - y) 5))))) (cw_node 7 (cw_node 6 (cw_leaf 5 (s_iload 3 6)) (cw_leaf 6 (s_ibin (fun x y => x - y) 7))) (cw_node 10 (cw_leaf 7 (s_callS m_Mo_size 1 10)) (cw_node 11 (cw_leaf 10 (s_iload 0 11)) (cw_leaf 11 (s_iload 1 12)))))) (cw_node 17 (cw_node 14 (cw_node 13 (cw_leaf 12 (s_ibin (fun x y => x - y) 13)) (cw_leaf 13 (s_iload 2 14))) (cw_node 15 (cw_leaf 14 (s_ibin (fun x y => x - y) 15)) (cw_node 16 (cw_leaf 15 (s_iload 3 16)) (cw_leaf 16 (s_ibin (fun x y => x + y) 17))))) (cw_node 23 (cw_node 20 (cw_leaf 17 (s_callS m_Mo_size 1 20)) (cw_leaf 20 (s_callS m_Mo_greater 2 23))) (cw_node 25 (cw_leaf 23 (s_iconst 65536 25)) (cw_node 26 (cw_leaf 25 (s_ibin (fun x y => x * y) 26)) (cw_leaf 26 (s_iret))))))
def c_Mo_sink : Nat → Option cw_S := cw_node 68 (cw_node 37 (cw_node 16 (cw_node 9 (cw_node 2 (cw_node 1 (cw_leaf 0 (s_iload 1 1)) (cw_leaf 1 (s_iload 2 2))) (cw_node 5 (cw_leaf 2 (s_callS m_Mo_isSpot 2 5)) (cw_node 8 (cw_leaf 5 (s_if (fun x => decide (¬ x = 0)) 13 8)) (cw_leaf 8 (s_aload 0 9))))) (cw_node 13 (cw_node 12 (cw_leaf 9 (s_callV 9 m_Mo_bad 0 12)) (cw_leaf 12 (s_iret))) (cw_node 14 (cw_leaf 13 (s_aload 0 14)) (cw_node 15 (cw_leaf 14 (s_iload 1 15)) (cw_leaf 15 (s_iload 2 16)))))) (cw_node 27 (cw_node 20 (cw_node 19 (cw_leaf 16 (s_callV 9 m_Mo_isAt 2 19)) (cw_leaf 19 (s_iconst (-1) 20))) (cw_node 23 (cw_leaf 20 (s_icmp (fun x y => decide (x = y)) 28 23)) (cw_node 24 (cw_leaf 23 (s_aload 0 24)) (cw_leaf 24 (s_callV 9 m_Mo_no 0 27))))) (cw_node 29 (cw_node 28 (cw_leaf 27 (s_iret)) (cw_leaf 28 (s_aload 0 29))) (cw_node 32 (cw_leaf 29 (s_get 9 1 32)) (cw_node 34 (cw_leaf 32 (s_iconst 8 34)) (cw_leaf 34 (s_icmp (fun x y => decide (¬ x = y)) 42 37))))))) (cw_node 55 (cw_node 46 (cw_node 41 (cw_node 38 (cw_leaf 37 (s_aload 0 38)) (cw_leaf 38 (s_callV 9 m_Mo_full 0 41))) (cw_node 42 (cw_leaf 41 (s_iret)) (cw_node 43 (cw_leaf 42 (s_aload 0 43)) (cw_leaf 43 (s_callV 9 m_Mo_leavesState 0 46))))) (cw_node 50 (cw_node 47 (cw_leaf 46 (s_aload 0 47)) (cw_leaf 47 (s_get 9 1 50))) (cw_node 51 (cw_leaf 50 (s_istore 3 51)) (cw_node 52 (cw_leaf 51 (s_aload 0 52)) (cw_leaf 52 (s_get 9 2 55)))))) (cw_node 60 (cw_node 57 (cw_node 56 (cw_leaf 55 (s_iconst 4 56)) (cw_leaf 56 (s_iload 3 57))) (cw_node 58 (cw_leaf 57 (s_ibin (fun x y => x * y) 58)) (cw_node 59 (cw_leaf 58 (s_iload 1 59)) (cw_leaf 59 (s_iast 60))))) (cw_node 65 (cw_node 61 (cw_leaf 60 (s_aload 0 61)) (cw_node 64 (cw_leaf 61 (s_get 9 2 64)) (cw_leaf 64 (s_iconst 4 65)))) (cw_node 66 (cw_leaf 65 (s_iload 3 66)) (cw_node 67 (cw_leaf 66 (s_ibin (fun x y => x * y) 67)) (cw_leaf 67 (s_iconst 1 68)))))))) (cw_node 93 (cw_node 80 (cw_node 75 (cw_node 70 (cw_node 69 (cw_leaf 68 (s_ibin (fun x y => x + y) 69)) (cw_leaf 69 (s_iload 2 70))) (cw_node 71 (cw_leaf 70 (s_iast 71)) (cw_node 72 (cw_leaf 71 (s_aload 0 72)) (cw_leaf 72 (s_get 9 2 75))))) (cw_node 77 (cw_node 76 (cw_leaf 75 (s_iconst 4 76)) (cw_leaf 76 (s_iload 3 77))) (cw_node 78 (cw_leaf 77 (s_ibin (fun x y => x * y) 78)) (cw_node 79 (cw_leaf 78 (s_iconst 2 79)) (cw_leaf 79 (s_ibin (fun x y => x + y) 80)))))) (cw_node 87 (cw_node 82 (cw_node 81 (cw_leaf 80 (s_iconst 0 81)) (cw_leaf 81 (s_iast 82))) (cw_node 83 (cw_leaf 82 (s_aload 0 83)) (cw_node 86 (cw_leaf 83 (s_get 9 2 86)) (cw_leaf 86 (s_iconst 4 87))))) (cw_node 90 (cw_node 88 (cw_leaf 87 (s_iload 3 88)) (cw_node 89 (cw_leaf 88 (s_ibin (fun x y => x * y) 89)) (cw_leaf 89 (s_iconst 3 90)))) (cw_node 91 (cw_leaf 90 (s_ibin (fun x y => x + y) 91)) (cw_node 92 (cw_leaf 91 (s_iconst 1 92)) (cw_leaf 92 (s_iast 93))))))) (cw_node 107 (cw_node 100 (cw_node 97 (cw_node 94 (cw_leaf 93 (s_aload 0 94)) (cw_leaf 94 (s_get 9 8 97))) (cw_node 98 (cw_leaf 97 (s_iload 3 98)) (cw_node 99 (cw_leaf 98 (s_iconst 1 99)) (cw_leaf 99 (s_iast 100))))) (cw_node 104 (cw_node 101 (cw_leaf 100 (s_aload 0 101)) (cw_leaf 101 (s_get 9 11 104))) (cw_node 105 (cw_leaf 104 (s_iload 3 105)) (cw_node 106 (cw_leaf 105 (s_iconst (-1) 106)) (cw_leaf 106 (s_iast 107)))))) (cw_node 114 (cw_node 109 (cw_node 108 (cw_leaf 107 (s_aload 0 108)) (cw_leaf 108 (s_dup 109))) (cw_node 112 (cw_leaf 109 (s_get 9 1 112)) (cw_node 113 (cw_leaf 112 (s_iconst 1 113)) (cw_leaf 113 (s_ibin (fun x y => x + y) 114))))) (cw_node 119 (cw_node 117 (cw_leaf 114 (s_put 9 1 0 117)) (cw_node 118 (cw_leaf 117 (s_aload 0 118)) (cw_leaf 118 (s_iload 3 119)))) (cw_node 122 (cw_leaf 119 (s_callV 9 m_Mo_touches 1 122)) (cw_node 123 (cw_leaf 122 (s_iload 3 123)) (cw_leaf 123 (s_iret))))))))
def c_Mo_moves : Nat → Option cw_S := cw_node 58 (cw_node 29 (cw_node 16 (cw_node 8 (cw_node 2 (cw_node 1 (cw_leaf 0 (s_aload 0 1)) (cw_leaf 1 (s_iload 1 2))) (cw_node 5 (cw_leaf 2 (s_callV 9 m_Mo_isSink 1 5)) (cw_leaf 5 (s_if (fun x => decide (x = 0)) 16 8)))) (cw_node 10 (cw_node 9 (cw_leaf 8 (s_iload 2 9)) (cw_leaf 9 (s_iload 3 10))) (cw_node 13 (cw_leaf 10 (s_callS m_Mo_isSpot 2 13)) (cw_leaf 13 (s_if (fun x => decide (¬ x = 0)) 21 16))))) (cw_node 22 (cw_node 20 (cw_node 17 (cw_leaf 16 (s_aload 0 17)) (cw_leaf 17 (s_callV 9 m_Mo_bad 0 20))) (cw_node 21 (cw_leaf 20 (s_iret)) (cw_leaf 21 (s_aload 0 22)))) (cw_node 24 (cw_node 23 (cw_leaf 22 (s_iload 2 23)) (cw_leaf 23 (s_iload 3 24))) (cw_node 27 (cw_leaf 24 (s_callV 9 m_Mo_isAt 2 27)) (cw_leaf 27 (s_istore 4 29)))))) (cw_node 45 (cw_node 37 (cw_node 32 (cw_node 31 (cw_leaf 29 (s_iload 4 31)) (cw_leaf 31 (s_iconst (-1) 32))) (cw_node 35 (cw_leaf 32 (s_icmp (fun x y => decide (x = y)) 46 35)) (cw_leaf 35 (s_iload 4 37)))) (cw_node 41 (cw_node 38 (cw_leaf 37 (s_iload 1 38)) (cw_leaf 38 (s_icmp (fun x y => decide (x = y)) 46 41))) (cw_node 42 (cw_leaf 41 (s_aload 0 42)) (cw_leaf 42 (s_callV 9 m_Mo_no 0 45))))) (cw_node 51 (cw_node 47 (cw_node 46 (cw_leaf 45 (s_iret)) (cw_leaf 46 (s_aload 0 47))) (cw_node 50 (cw_leaf 47 (s_callV 9 m_Mo_leavesState 0 50)) (cw_leaf 50 (s_iload 2 51)))) (cw_node 53 (cw_node 52 (cw_leaf 51 (s_iload 3 52)) (cw_leaf 52 (s_aload 0 53))) (cw_node 56 (cw_leaf 53 (s_get 9 2 56)) (cw_node 57 (cw_leaf 56 (s_iconst 4 57)) (cw_leaf 57 (s_iload 1 58)))))))) (cw_node 81 (cw_node 68 (cw_node 64 (cw_node 60 (cw_node 59 (cw_leaf 58 (s_ibin (fun x y => x * y) 59)) (cw_leaf 59 (s_iald 60))) (cw_node 61 (cw_leaf 60 (s_aload 0 61)) (cw_leaf 61 (s_get 9 2 64)))) (cw_node 66 (cw_node 65 (cw_leaf 64 (s_iconst 4 65)) (cw_leaf 65 (s_iload 1 66))) (cw_node 67 (cw_leaf 66 (s_ibin (fun x y => x * y) 67)) (cw_leaf 67 (s_iconst 1 68))))) (cw_node 75 (cw_node 70 (cw_node 69 (cw_leaf 68 (s_ibin (fun x y => x + y) 69)) (cw_leaf 69 (s_iald 70))) (cw_node 73 (cw_leaf 70 (s_callS m_Mo_apart 4 73)) (cw_leaf 73 (s_istore 5 75)))) (cw_node 79 (cw_node 76 (cw_leaf 75 (s_aload 0 76)) (cw_leaf 76 (s_get 9 2 79))) (cw_node 80 (cw_leaf 79 (s_iconst 4 80)) (cw_leaf 80 (s_iload 1 81)))))) (cw_node 91 (cw_node 85 (cw_node 83 (cw_node 82 (cw_leaf 81 (s_ibin (fun x y => x * y) 82)) (cw_leaf 82 (s_iload 2 83))) (cw_node 84 (cw_leaf 83 (s_iast 84)) (cw_leaf 84 (s_aload 0 85)))) (cw_node 89 (cw_node 88 (cw_leaf 85 (s_get 9 2 88)) (cw_leaf 88 (s_iconst 4 89))) (cw_node 90 (cw_leaf 89 (s_iload 1 90)) (cw_leaf 90 (s_ibin (fun x y => x * y) 91))))) (cw_node 95 (cw_node 93 (cw_node 92 (cw_leaf 91 (s_iconst 1 92)) (cw_leaf 92 (s_ibin (fun x y => x + y) 93))) (cw_node 94 (cw_leaf 93 (s_iload 3 94)) (cw_leaf 94 (s_iast 95)))) (cw_node 97 (cw_node 96 (cw_leaf 95 (s_aload 0 96)) (cw_leaf 96 (s_iload 1 97))) (cw_node 100 (cw_leaf 97 (s_callV 9 m_Mo_touches 1 100)) (cw_node 102 (cw_leaf 100 (s_iload 5 102)) (cw_leaf 102 (s_iret))))))))
def c_Mo_sets : Nat → Option cw_S := cw_node 49 (cw_node 20 (cw_node 10 (cw_node 5 (cw_node 1 (cw_leaf 0 (s_aload 0 1)) (cw_node 2 (cw_leaf 1 (s_iload 1 2)) (cw_leaf 2 (s_callV 9 m_Mo_isSink 1 5)))) (cw_node 8 (cw_leaf 5 (s_if (fun x => decide (x = 0)) 36 8)) (cw_node 9 (cw_leaf 8 (s_iload 2 9)) (cw_leaf 9 (s_iconst 0 10))))) (cw_node 17 (cw_node 11 (cw_leaf 10 (s_iconst 1 11)) (cw_node 14 (cw_leaf 11 (s_callS m_Mo_in 3 14)) (cw_leaf 14 (s_if (fun x => decide (x = 0)) 36 17)))) (cw_node 18 (cw_leaf 17 (s_iload 3 18)) (cw_node 19 (cw_leaf 18 (s_iload 2 19)) (cw_leaf 19 (s_iload 2 20)))))) (cw_node 36 (cw_node 28 (cw_node 23 (cw_leaf 20 (s_if (fun x => decide (¬ x = 0)) 28 23)) (cw_node 25 (cw_leaf 23 (s_iconst 99 25)) (cw_leaf 25 (s_goto 30)))) (cw_node 30 (cw_leaf 28 (s_iconst 9 30)) (cw_node 33 (cw_leaf 30 (s_callS m_Mo_in 3 33)) (cw_leaf 33 (s_if (fun x => decide (¬ x = 0)) 41 36))))) (cw_node 41 (cw_node 37 (cw_leaf 36 (s_aload 0 37)) (cw_node 40 (cw_leaf 37 (s_callV 9 m_Mo_bad 0 40)) (cw_leaf 40 (s_iret)))) (cw_node 45 (cw_node 42 (cw_leaf 41 (s_aload 0 42)) (cw_leaf 42 (s_callV 9 m_Mo_leavesState 0 45))) (cw_node 46 (cw_leaf 45 (s_aload 0 46)) (cw_leaf 46 (s_get 9 2 49))))))) (cw_node 64 (cw_node 55 (cw_node 52 (cw_node 50 (cw_leaf 49 (s_iconst 4 50)) (cw_node 51 (cw_leaf 50 (s_iload 1 51)) (cw_leaf 51 (s_ibin (fun x y => x * y) 52)))) (cw_node 53 (cw_leaf 52 (s_iconst 2 53)) (cw_node 54 (cw_leaf 53 (s_ibin (fun x y => x + y) 54)) (cw_leaf 54 (s_iload 2 55))))) (cw_node 59 (cw_node 56 (cw_leaf 55 (s_ibin (fun x y => x + y) 56)) (cw_node 57 (cw_leaf 56 (s_iald 57)) (cw_leaf 57 (s_istore 4 59)))) (cw_node 60 (cw_leaf 59 (s_aload 0 60)) (cw_node 63 (cw_leaf 60 (s_get 9 2 63)) (cw_leaf 63 (s_iconst 4 64)))))) (cw_node 70 (cw_node 67 (cw_node 65 (cw_leaf 64 (s_iload 1 65)) (cw_node 66 (cw_leaf 65 (s_ibin (fun x y => x * y) 66)) (cw_leaf 66 (s_iconst 2 67)))) (cw_node 68 (cw_leaf 67 (s_ibin (fun x y => x + y) 68)) (cw_node 69 (cw_leaf 68 (s_iload 2 69)) (cw_leaf 69 (s_ibin (fun x y => x + y) 70))))) (cw_node 73 (cw_node 71 (cw_leaf 70 (s_iload 3 71)) (cw_node 72 (cw_leaf 71 (s_iast 72)) (cw_leaf 72 (s_aload 0 73)))) (cw_node 77 (cw_node 74 (cw_leaf 73 (s_iload 1 74)) (cw_leaf 74 (s_callV 9 m_Mo_touches 1 77))) (cw_node 79 (cw_leaf 77 (s_iload 4 79)) (cw_leaf 79 (s_iret)))))))
def c_Mo_skew : Nat → Option cw_S := cw_node 16 (cw_node 7 (cw_node 2 (cw_node 1 (cw_leaf 0 (s_iload 1 1)) (cw_leaf 1 (s_iconst 0 2))) (cw_node 4 (cw_leaf 2 (s_iconst 99 4)) (cw_leaf 4 (s_callS m_Mo_in 3 7)))) (cw_node 11 (cw_node 10 (cw_leaf 7 (s_if (fun x => decide (¬ x = 0)) 15 10)) (cw_leaf 10 (s_aload 0 11))) (cw_node 14 (cw_leaf 11 (s_callV 9 m_Mo_bad 0 14)) (cw_node 15 (cw_leaf 14 (s_iret)) (cw_leaf 15 (s_aload 0 16)))))) (cw_node 24 (cw_node 20 (cw_node 19 (cw_leaf 16 (s_callV 9 m_Mo_leavesState 0 19)) (cw_leaf 19 (s_aload 0 20))) (cw_node 23 (cw_leaf 20 (s_get 9 3 23)) (cw_leaf 23 (s_istore 2 24)))) (cw_node 26 (cw_node 25 (cw_leaf 24 (s_aload 0 25)) (cw_leaf 25 (s_iload 1 26))) (cw_node 29 (cw_leaf 26 (s_put 9 3 0 29)) (cw_node 30 (cw_leaf 29 (s_iload 2 30)) (cw_leaf 30 (s_iret))))))
def c_Mo_source : Nat → Option cw_S := cw_node 20 (cw_node 12 (cw_node 5 (cw_node 1 (cw_leaf 0 (s_iload 1 1)) (cw_node 2 (cw_leaf 1 (s_iload 2 2)) (cw_leaf 2 (s_callS m_Mo_isSpot 2 5)))) (cw_node 8 (cw_leaf 5 (s_if (fun x => decide (¬ x = 0)) 13 8)) (cw_node 9 (cw_leaf 8 (s_aload 0 9)) (cw_leaf 9 (s_callV 9 m_Mo_bad 0 12))))) (cw_node 17 (cw_node 13 (cw_leaf 12 (s_iret)) (cw_node 14 (cw_leaf 13 (s_aload 0 14)) (cw_leaf 14 (s_callV 9 m_Mo_leavesState 0 17)))) (cw_node 18 (cw_leaf 17 (s_iload 1 18)) (cw_node 19 (cw_leaf 18 (s_iload 2 19)) (cw_leaf 19 (s_aload 0 20)))))) (cw_node 32 (cw_node 27 (cw_node 23 (cw_leaf 20 (s_get 9 4 23)) (cw_node 24 (cw_leaf 23 (s_aload 0 24)) (cw_leaf 24 (s_get 9 5 27)))) (cw_node 30 (cw_leaf 27 (s_callS m_Mo_apart 4 30)) (cw_node 31 (cw_leaf 30 (s_istore 3 31)) (cw_leaf 31 (s_aload 0 32))))) (cw_node 37 (cw_node 33 (cw_leaf 32 (s_iload 1 33)) (cw_node 36 (cw_leaf 33 (s_put 9 4 0 36)) (cw_leaf 36 (s_aload 0 37)))) (cw_node 41 (cw_node 38 (cw_leaf 37 (s_iload 2 38)) (cw_leaf 38 (s_put 9 5 0 41))) (cw_node 42 (cw_leaf 41 (s_iload 3 42)) (cw_leaf 42 (s_iret))))))
def c_Mo_end : Nat → Option cw_S := cw_node 18 (cw_node 9 (cw_node 2 (cw_node 1 (cw_leaf 0 (s_aload 0 1)) (cw_leaf 1 (s_iload 1 2))) (cw_node 5 (cw_leaf 2 (s_callV 9 m_Mo_isSink 1 5)) (cw_node 8 (cw_leaf 5 (s_if (fun x => decide (x = 0)) 30 8)) (cw_leaf 8 (s_iload 2 9))))) (cw_node 11 (cw_node 10 (cw_leaf 9 (s_iconst 0 10)) (cw_leaf 10 (s_iconst 3 11))) (cw_node 14 (cw_leaf 11 (s_callS m_Mo_in 3 14)) (cw_node 17 (cw_leaf 14 (s_if (fun x => decide (x = 0)) 30 17)) (cw_leaf 17 (s_aload 0 18)))))) (cw_node 25 (cw_node 22 (cw_node 21 (cw_leaf 18 (s_get 9 2 21)) (cw_leaf 21 (s_iconst 4 22))) (cw_node 23 (cw_leaf 22 (s_iload 1 23)) (cw_node 24 (cw_leaf 23 (s_ibin (fun x y => x * y) 24)) (cw_leaf 24 (s_iload 2 25))))) (cw_node 30 (cw_node 26 (cw_leaf 25 (s_ibin (fun x y => x + y) 26)) (cw_node 27 (cw_leaf 26 (s_iald 27)) (cw_leaf 27 (s_goto 34)))) (cw_node 31 (cw_leaf 30 (s_aload 0 31)) (cw_node 34 (cw_leaf 31 (s_callV 9 m_Mo_bad 0 34)) (cw_leaf 34 (s_iret))))))
def c_Mo_touched : Nat → Option cw_S := cw_node 14 (cw_node 8 (cw_node 4 (cw_node 1 (cw_leaf 0 (s_iload 1 1)) (cw_leaf 1 (s_if (fun x => decide (0 ≤ x)) 9 4))) (cw_node 5 (cw_leaf 4 (s_aload 0 5)) (cw_leaf 5 (s_callV 9 m_Mo_bad 0 8)))) (cw_node 10 (cw_node 9 (cw_leaf 8 (s_iret)) (cw_leaf 9 (s_iload 1 10))) (cw_node 11 (cw_leaf 10 (s_aload 0 11)) (cw_leaf 11 (s_get 9 6 14))))) (cw_node 22 (cw_node 18 (cw_node 17 (cw_leaf 14 (s_icmp (fun x y => decide (y ≤ x)) 26 17)) (cw_leaf 17 (s_aload 0 18))) (cw_node 21 (cw_leaf 18 (s_get 9 7 21)) (cw_leaf 21 (s_iload 1 22)))) (cw_node 26 (cw_node 23 (cw_leaf 22 (s_iald 23)) (cw_leaf 23 (s_goto 27))) (cw_node 27 (cw_leaf 26 (s_iconst (-1) 27)) (cw_leaf 27 (s_iret)))))
def c_Mo_at : Nat → Option cw_S := cw_node 10 (cw_node 5 (cw_node 1 (cw_leaf 0 (s_iload 1 1)) (cw_node 2 (cw_leaf 1 (s_iload 2 2)) (cw_leaf 2 (s_callS m_Mo_isSpot 2 5)))) (cw_node 8 (cw_leaf 5 (s_if (fun x => decide (x = 0)) 17 8)) (cw_node 9 (cw_leaf 8 (s_aload 0 9)) (cw_leaf 9 (s_iload 1 10))))) (cw_node 17 (cw_node 11 (cw_leaf 10 (s_iload 2 11)) (cw_node 14 (cw_leaf 11 (s_callV 9 m_Mo_isAt 2 14)) (cw_leaf 14 (s_goto 21)))) (cw_node 18 (cw_leaf 17 (s_aload 0 18)) (cw_node 21 (cw_leaf 18 (s_callV 9 m_Mo_bad 0 21)) (cw_leaf 21 (s_iret)))))
def c_Mo_joins : Nat → Option cw_S := cw_node 28 (cw_node 16 (cw_node 8 (cw_node 2 (cw_node 1 (cw_leaf 0 (s_aload 0 1)) (cw_leaf 1 (s_iload 1 2))) (cw_node 5 (cw_leaf 2 (s_callV 9 m_Mo_isNode 1 5)) (cw_leaf 5 (s_if (fun x => decide (x = 0)) 21 8)))) (cw_node 10 (cw_node 9 (cw_leaf 8 (s_aload 0 9)) (cw_leaf 9 (s_iload 2 10))) (cw_node 13 (cw_leaf 10 (s_callV 9 m_Mo_isNode 1 13)) (cw_leaf 13 (s_if (fun x => decide (x = 0)) 21 16))))) (cw_node 22 (cw_node 18 (cw_node 17 (cw_leaf 16 (s_iload 1 17)) (cw_leaf 17 (s_iload 2 18))) (cw_node 21 (cw_leaf 18 (s_icmp (fun x y => decide (¬ x = y)) 26 21)) (cw_leaf 21 (s_aload 0 22)))) (cw_node 26 (cw_node 25 (cw_leaf 22 (s_callV 9 m_Mo_bad 0 25)) (cw_leaf 25 (s_iret))) (cw_node 27 (cw_leaf 26 (s_aload 0 27)) (cw_leaf 27 (s_iload 1 28)))))) (cw_node 46 (cw_node 36 (cw_node 34 (cw_node 31 (cw_leaf 28 (s_callV 9 m_Mo_isTop 1 31)) (cw_leaf 31 (s_if (fun x => decide (x = 0)) 42 34))) (cw_node 35 (cw_leaf 34 (s_aload 0 35)) (cw_leaf 35 (s_iload 2 36)))) (cw_node 42 (cw_node 39 (cw_leaf 36 (s_callV 9 m_Mo_isTop 1 39)) (cw_leaf 39 (s_if (fun x => decide (¬ x = 0)) 47 42))) (cw_node 43 (cw_leaf 42 (s_aload 0 43)) (cw_leaf 43 (s_callV 9 m_Mo_no 0 46))))) (cw_node 52 (cw_node 48 (cw_node 47 (cw_leaf 46 (s_iret)) (cw_leaf 47 (s_aload 0 48))) (cw_node 51 (cw_leaf 48 (s_callV 9 m_Mo_leavesState 0 51)) (cw_leaf 51 (s_aload 0 52)))) (cw_node 54 (cw_node 53 (cw_leaf 52 (s_iload 1 53)) (cw_leaf 53 (s_iload 2 54))) (cw_node 57 (cw_leaf 54 (s_callV 9 m_Mo_lays 2 57)) (cw_leaf 57 (s_iret))))))
def c_Mo_findsPair : Nat → Option cw_S := cw_node 54 (cw_node 24 (cw_node 12 (cw_node 6 (cw_node 4 (cw_node 1 (cw_leaf 0 (s_aload 0 1)) (cw_leaf 1 (s_callV 9 m_Mo_tellsAll 0 4))) (cw_node 5 (cw_leaf 4 (s_aload 0 5)) (cw_leaf 5 (s_iconst (-1) 6)))) (cw_node 10 (cw_node 9 (cw_leaf 6 (s_put 9 33 0 9)) (cw_leaf 9 (s_iconst 0 10))) (cw_node 11 (cw_leaf 10 (s_istore 1 11)) (cw_leaf 11 (s_iconst 0 12))))) (cw_node 19 (cw_node 14 (cw_node 13 (cw_leaf 12 (s_istore 2 13)) (cw_leaf 13 (s_iload 2 14))) (cw_node 16 (cw_leaf 14 (s_iconst 15 16)) (cw_leaf 16 (s_icmp (fun x y => decide (y ≤ x)) 114 19)))) (cw_node 21 (cw_node 20 (cw_leaf 19 (s_iload 2 20)) (cw_leaf 20 (s_iconst 1 21))) (cw_node 22 (cw_leaf 21 (s_ibin (fun x y => x + y) 22)) (cw_node 23 (cw_leaf 22 (s_istore 3 23)) (cw_leaf 23 (s_iload 3 24))))))) (cw_node 39 (cw_node 33 (cw_node 29 (cw_node 26 (cw_leaf 24 (s_iconst 15 26)) (cw_leaf 26 (s_icmp (fun x y => decide (y ≤ x)) 108 29))) (cw_node 30 (cw_leaf 29 (s_aload 0 30)) (cw_leaf 30 (s_get 9 8 33)))) (cw_node 35 (cw_node 34 (cw_leaf 33 (s_iload 2 34)) (cw_leaf 34 (s_iald 35))) (cw_node 36 (cw_leaf 35 (s_iconst 1 36)) (cw_leaf 36 (s_icmp (fun x y => decide (¬ x = y)) 102 39))))) (cw_node 45 (cw_node 43 (cw_node 40 (cw_leaf 39 (s_aload 0 40)) (cw_leaf 40 (s_get 9 8 43))) (cw_node 44 (cw_leaf 43 (s_iload 3 44)) (cw_leaf 44 (s_iald 45)))) (cw_node 49 (cw_node 46 (cw_leaf 45 (s_iconst 1 46)) (cw_leaf 46 (s_icmp (fun x y => decide (¬ x = y)) 102 49))) (cw_node 50 (cw_leaf 49 (s_aload 0 50)) (cw_node 51 (cw_leaf 50 (s_iload 2 51)) (cw_leaf 51 (s_callV 9 m_Mo_isTop 1 54)))))))) (cw_node 87 (cw_node 68 (cw_node 62 (cw_node 58 (cw_node 57 (cw_leaf 54 (s_if (fun x => decide (x = 0)) 102 57)) (cw_leaf 57 (s_aload 0 58))) (cw_node 59 (cw_leaf 58 (s_iload 3 59)) (cw_leaf 59 (s_callV 9 m_Mo_isTop 1 62)))) (cw_node 66 (cw_node 65 (cw_leaf 62 (s_if (fun x => decide (x = 0)) 102 65)) (cw_leaf 65 (s_aload 0 66))) (cw_node 67 (cw_leaf 66 (s_iload 2 67)) (cw_leaf 67 (s_iload 3 68))))) (cw_node 76 (cw_node 72 (cw_node 71 (cw_leaf 68 (s_callV 9 m_Mo_reckons 2 71)) (cw_leaf 71 (s_aload 0 72))) (cw_node 75 (cw_leaf 72 (s_get 9 33 75)) (cw_leaf 75 (s_iconst (-1) 76)))) (cw_node 80 (cw_node 79 (cw_leaf 76 (s_icmp (fun x y => decide (x = y)) 87 79)) (cw_leaf 79 (s_aload 0 80))) (cw_node 83 (cw_leaf 80 (s_get 9 26 83)) (cw_node 84 (cw_leaf 83 (s_iload 1 84)) (cw_leaf 84 (s_icmp (fun x y => decide (y ≤ x)) 102 87))))))) (cw_node 98 (cw_node 92 (cw_node 90 (cw_node 88 (cw_leaf 87 (s_aload 0 88)) (cw_leaf 88 (s_iconst 16 90))) (cw_node 91 (cw_leaf 90 (s_iload 2 91)) (cw_leaf 91 (s_ibin (fun x y => x * y) 92)))) (cw_node 94 (cw_node 93 (cw_leaf 92 (s_iload 3 93)) (cw_leaf 93 (s_ibin (fun x y => x + y) 94))) (cw_node 97 (cw_leaf 94 (s_put 9 33 0 97)) (cw_leaf 97 (s_aload 0 98))))) (cw_node 108 (cw_node 102 (cw_node 101 (cw_leaf 98 (s_get 9 26 101)) (cw_leaf 101 (s_istore 1 102))) (cw_node 105 (cw_leaf 102 (s_iinc 3 1 105)) (cw_leaf 105 (s_goto 23)))) (cw_node 114 (cw_node 111 (cw_leaf 108 (s_iinc 2 1 111)) (cw_leaf 111 (s_goto 13))) (cw_node 115 (cw_leaf 114 (s_aload 0 115)) (cw_node 118 (cw_leaf 115 (s_get 9 33 118)) (cw_leaf 118 (s_iret))))))))
def c_Mo_pairs : Nat → Option cw_S := cw_node 32 (cw_node 17 (cw_node 8 (cw_node 4 (cw_node 1 (cw_leaf 0 (s_aload 0 1)) (cw_leaf 1 (s_get 9 1 4))) (cw_node 7 (cw_leaf 4 (s_if (fun x => decide (¬ x = 0)) 12 7)) (cw_leaf 7 (s_aload 0 8)))) (cw_node 12 (cw_node 11 (cw_leaf 8 (s_callV 9 m_Mo_no 0 11)) (cw_leaf 11 (s_iret))) (cw_node 13 (cw_leaf 12 (s_aload 0 13)) (cw_node 16 (cw_leaf 13 (s_callV 9 m_Mo_leavesState 0 16)) (cw_leaf 16 (s_iconst 0 17)))))) (cw_node 24 (cw_node 19 (cw_node 18 (cw_leaf 17 (s_istore 1 18)) (cw_leaf 18 (s_aload 0 19))) (cw_node 22 (cw_leaf 19 (s_callV 9 m_Mo_findsPair 0 22)) (cw_node 23 (cw_leaf 22 (s_istore 2 23)) (cw_leaf 23 (s_iload 2 24))))) (cw_node 28 (cw_node 25 (cw_leaf 24 (s_iconst (-1) 25)) (cw_leaf 25 (s_icmp (fun x y => decide (x = y)) 61 28))) (cw_node 29 (cw_leaf 28 (s_aload 0 29)) (cw_node 30 (cw_leaf 29 (s_iload 2 30)) (cw_leaf 30 (s_iconst 16 32))))))) (cw_node 47 (cw_node 40 (cw_node 34 (cw_node 33 (cw_leaf 32 (s_idiv (fun x y => x / y) 33)) (cw_leaf 33 (s_iload 2 34))) (cw_node 36 (cw_leaf 34 (s_iconst 16 36)) (cw_node 37 (cw_leaf 36 (s_idiv (fun x y => x - x / y * y) 37)) (cw_leaf 37 (s_callV 9 m_Mo_lays 2 40))))) (cw_node 42 (cw_node 41 (cw_leaf 40 (s_istore 3 41)) (cw_leaf 41 (s_iload 1 42))) (cw_node 43 (cw_leaf 42 (s_iload 3 43)) (cw_node 46 (cw_leaf 43 (s_if (fun x => decide (x ≤ 0)) 50 46)) (cw_leaf 46 (s_iconst 1 47)))))) (cw_node 54 (cw_node 51 (cw_node 50 (cw_leaf 47 (s_goto 51)) (cw_leaf 50 (s_iconst 0 51))) (cw_node 52 (cw_leaf 51 (s_ibin (fun x y => x + y) 52)) (cw_node 53 (cw_leaf 52 (s_istore 1 53)) (cw_leaf 53 (s_aload 0 54))))) (cw_node 58 (cw_node 57 (cw_leaf 54 (s_callV 9 m_Mo_findsPair 0 57)) (cw_leaf 57 (s_istore 2 58))) (cw_node 61 (cw_leaf 58 (s_goto 23)) (cw_node 62 (cw_leaf 61 (s_iload 1 62)) (cw_leaf 62 (s_iret)))))))
def c_Mo_frees : Nat → Option cw_S := cw_node 4 (cw_node 1 (cw_leaf 0 (s_aload 0 1)) (cw_leaf 1 (s_callV 9 m_Mo_leavesState 0 4))) (cw_node 5 (cw_leaf 4 (s_aload 0 5)) (cw_node 8 (cw_leaf 5 (s_callV 9 m_Mo_noJoints 0 8)) (cw_leaf 8 (s_iret))))
def c_Mo_cuts : Nat → Option cw_S := cw_node 18 (cw_node 9 (cw_node 2 (cw_node 1 (cw_leaf 0 (s_aload 0 1)) (cw_leaf 1 (s_iload 1 2))) (cw_node 5 (cw_leaf 2 (s_callV 9 m_Mo_isNode 1 5)) (cw_node 8 (cw_leaf 5 (s_if (fun x => decide (¬ x = 0)) 13 8)) (cw_leaf 8 (s_aload 0 9))))) (cw_node 13 (cw_node 12 (cw_leaf 9 (s_callV 9 m_Mo_bad 0 12)) (cw_leaf 12 (s_iret))) (cw_node 14 (cw_leaf 13 (s_aload 0 14)) (cw_node 15 (cw_leaf 14 (s_iload 1 15)) (cw_leaf 15 (s_callV 9 m_Mo_isTop 1 18)))))) (cw_node 27 (cw_node 22 (cw_node 21 (cw_leaf 18 (s_if (fun x => decide (x = 0)) 26 21)) (cw_leaf 21 (s_aload 0 22))) (cw_node 25 (cw_leaf 22 (s_callV 9 m_Mo_no 0 25)) (cw_node 26 (cw_leaf 25 (s_iret)) (cw_leaf 26 (s_aload 0 27))))) (cw_node 31 (cw_node 30 (cw_leaf 27 (s_callV 9 m_Mo_leavesState 0 30)) (cw_leaf 30 (s_aload 0 31))) (cw_node 32 (cw_leaf 31 (s_iload 1 32)) (cw_node 35 (cw_leaf 32 (s_callV 9 m_Mo_takesOff 1 35)) (cw_leaf 35 (s_iret))))))
def c_Mo_bestFor : Nat → Option cw_S := cw_node 40 (cw_node 18 (cw_node 5 (cw_node 2 (cw_node 1 (cw_leaf 0 (s_iconst (-1) 1)) (cw_leaf 1 (s_istore 2 2))) (cw_node 3 (cw_leaf 2 (s_iconst 0 3)) (cw_node 4 (cw_leaf 3 (s_istore 3 4)) (cw_leaf 4 (s_aload 0 5))))) (cw_node 11 (cw_node 8 (cw_leaf 5 (s_callV 9 m_Mo_laysAside 0 8)) (cw_node 9 (cw_leaf 8 (s_iconst 0 9)) (cw_leaf 9 (s_istore 4 11)))) (cw_node 13 (cw_leaf 11 (s_iload 4 13)) (cw_node 15 (cw_leaf 13 (s_iconst 15 15)) (cw_leaf 15 (s_icmp (fun x y => decide (y ≤ x)) 81 18)))))) (cw_node 29 (cw_node 24 (cw_node 19 (cw_leaf 18 (s_aload 0 19)) (cw_node 22 (cw_leaf 19 (s_get 9 8 22)) (cw_leaf 22 (s_iload 4 24)))) (cw_node 25 (cw_leaf 24 (s_iald 25)) (cw_node 26 (cw_leaf 25 (s_iconst 1 26)) (cw_leaf 26 (s_icmp (fun x y => decide (¬ x = y)) 75 29))))) (cw_node 33 (cw_node 30 (cw_leaf 29 (s_aload 0 30)) (cw_node 32 (cw_leaf 30 (s_iload 4 32)) (cw_leaf 32 (s_iload 1 33)))) (cw_node 36 (cw_leaf 33 (s_callV 9 m_Mo_isWithin 2 36)) (cw_node 39 (cw_leaf 36 (s_if (fun x => decide (¬ x = 0)) 75 39)) (cw_leaf 39 (s_aload 0 40))))))) (cw_node 61 (cw_node 49 (cw_node 43 (cw_node 42 (cw_leaf 40 (s_iload 4 42)) (cw_leaf 42 (s_iload 1 43))) (cw_node 46 (cw_leaf 43 (s_callV 9 m_Mo_lays 2 46)) (cw_node 48 (cw_leaf 46 (s_istore 5 48)) (cw_leaf 48 (s_aload 0 49))))) (cw_node 55 (cw_node 52 (cw_leaf 49 (s_callV 9 m_Mo_costOfAll 0 52)) (cw_node 54 (cw_leaf 52 (s_istore 6 54)) (cw_leaf 54 (s_iload 2 55)))) (cw_node 56 (cw_leaf 55 (s_iconst (-1) 56)) (cw_node 59 (cw_leaf 56 (s_icmp (fun x y => decide (x = y)) 65 59)) (cw_leaf 59 (s_iload 6 61)))))) (cw_node 71 (cw_node 67 (cw_node 62 (cw_leaf 61 (s_iload 3 62)) (cw_node 65 (cw_leaf 62 (s_icmp (fun x y => decide (y ≤ x)) 71 65)) (cw_leaf 65 (s_iload 4 67)))) (cw_node 68 (cw_leaf 67 (s_istore 2 68)) (cw_node 70 (cw_leaf 68 (s_iload 6 70)) (cw_leaf 70 (s_istore 3 71))))) (cw_node 78 (cw_node 72 (cw_leaf 71 (s_aload 0 72)) (cw_node 75 (cw_leaf 72 (s_callV 9 m_Mo_takesBack 0 75)) (cw_leaf 75 (s_iinc 4 1 78)))) (cw_node 81 (cw_leaf 78 (s_goto 11)) (cw_node 82 (cw_leaf 81 (s_iload 2 82)) (cw_leaf 82 (s_iret)))))))
def c_Mo_grafts : Nat → Option cw_S := cw_node 45 (cw_node 22 (cw_node 10 (cw_node 5 (cw_node 1 (cw_leaf 0 (s_aload 0 1)) (cw_node 2 (cw_leaf 1 (s_iload 1 2)) (cw_leaf 2 (s_callV 9 m_Mo_isNode 1 5)))) (cw_node 8 (cw_leaf 5 (s_if (fun x => decide (x = 0)) 21 8)) (cw_node 9 (cw_leaf 8 (s_iload 2 9)) (cw_leaf 9 (s_iconst (-1) 10))))) (cw_node 15 (cw_node 13 (cw_leaf 10 (s_icmp (fun x y => decide (x = y)) 26 13)) (cw_node 14 (cw_leaf 13 (s_aload 0 14)) (cw_leaf 14 (s_iload 2 15)))) (cw_node 18 (cw_leaf 15 (s_callV 9 m_Mo_isNode 1 18)) (cw_node 21 (cw_leaf 18 (s_if (fun x => decide (¬ x = 0)) 26 21)) (cw_leaf 21 (s_aload 0 22)))))) (cw_node 34 (cw_node 27 (cw_node 25 (cw_leaf 22 (s_callV 9 m_Mo_bad 0 25)) (cw_node 26 (cw_leaf 25 (s_iret)) (cw_leaf 26 (s_aload 0 27)))) (cw_node 28 (cw_leaf 27 (s_iload 1 28)) (cw_node 31 (cw_leaf 28 (s_callV 9 m_Mo_isTop 1 31)) (cw_leaf 31 (s_if (fun x => decide (x = 0)) 48 34))))) (cw_node 39 (cw_node 35 (cw_leaf 34 (s_iload 2 35)) (cw_node 36 (cw_leaf 35 (s_iconst (-1) 36)) (cw_leaf 36 (s_icmp (fun x y => decide (x = y)) 53 39)))) (cw_node 41 (cw_node 40 (cw_leaf 39 (s_aload 0 40)) (cw_leaf 40 (s_iload 2 41))) (cw_node 42 (cw_leaf 41 (s_iload 1 42)) (cw_leaf 42 (s_callV 9 m_Mo_isWithin 2 45))))))) (cw_node 68 (cw_node 55 (cw_node 52 (cw_node 48 (cw_leaf 45 (s_if (fun x => decide (x = 0)) 53 48)) (cw_node 49 (cw_leaf 48 (s_aload 0 49)) (cw_leaf 49 (s_callV 9 m_Mo_no 0 52)))) (cw_node 53 (cw_leaf 52 (s_iret)) (cw_node 54 (cw_leaf 53 (s_iload 2 54)) (cw_leaf 54 (s_iconst (-1) 55))))) (cw_node 60 (cw_node 58 (cw_leaf 55 (s_icmp (fun x y => decide (¬ x = y)) 66 58)) (cw_node 59 (cw_leaf 58 (s_aload 0 59)) (cw_leaf 59 (s_iload 1 60)))) (cw_node 66 (cw_node 63 (cw_leaf 60 (s_callV 9 m_Mo_bestFor 1 63)) (cw_leaf 63 (s_goto 67))) (cw_node 67 (cw_leaf 66 (s_iload 2 67)) (cw_leaf 67 (s_istore 3 68)))))) (cw_node 78 (cw_node 73 (cw_node 69 (cw_leaf 68 (s_iload 3 69)) (cw_node 70 (cw_leaf 69 (s_iconst (-1) 70)) (cw_leaf 70 (s_icmp (fun x y => decide (¬ x = y)) 78 73)))) (cw_node 74 (cw_leaf 73 (s_aload 0 74)) (cw_node 77 (cw_leaf 74 (s_callV 9 m_Mo_no 0 77)) (cw_leaf 77 (s_iret))))) (cw_node 83 (cw_node 79 (cw_leaf 78 (s_aload 0 79)) (cw_node 82 (cw_leaf 79 (s_callV 9 m_Mo_leavesState 0 82)) (cw_leaf 82 (s_aload 0 83)))) (cw_node 85 (cw_node 84 (cw_leaf 83 (s_iload 3 84)) (cw_leaf 84 (s_iload 1 85))) (cw_node 88 (cw_leaf 85 (s_callV 9 m_Mo_lays 2 88)) (cw_leaf 88 (s_iret)))))))
def c_Mo_exchanges : Nat → Option cw_S := cw_node 30 (cw_node 16 (cw_node 8 (cw_node 2 (cw_node 1 (cw_leaf 0 (s_aload 0 1)) (cw_leaf 1 (s_iload 1 2))) (cw_node 5 (cw_leaf 2 (s_callV 9 m_Mo_isNode 1 5)) (cw_leaf 5 (s_if (fun x => decide (x = 0)) 16 8)))) (cw_node 10 (cw_node 9 (cw_leaf 8 (s_aload 0 9)) (cw_leaf 9 (s_iload 2 10))) (cw_node 13 (cw_leaf 10 (s_callV 9 m_Mo_isNode 1 13)) (cw_leaf 13 (s_if (fun x => decide (¬ x = 0)) 21 16))))) (cw_node 22 (cw_node 20 (cw_node 17 (cw_leaf 16 (s_aload 0 17)) (cw_leaf 17 (s_callV 9 m_Mo_bad 0 20))) (cw_node 21 (cw_leaf 20 (s_iret)) (cw_leaf 21 (s_aload 0 22)))) (cw_node 24 (cw_node 23 (cw_leaf 22 (s_iload 1 23)) (cw_leaf 23 (s_iload 2 24))) (cw_node 27 (cw_leaf 24 (s_callV 9 m_Mo_canExchange 2 27)) (cw_leaf 27 (s_if (fun x => decide (¬ x = 0)) 35 30)))))) (cw_node 44 (cw_node 36 (cw_node 34 (cw_node 31 (cw_leaf 30 (s_aload 0 31)) (cw_leaf 31 (s_callV 9 m_Mo_no 0 34))) (cw_node 35 (cw_leaf 34 (s_iret)) (cw_leaf 35 (s_aload 0 36)))) (cw_node 40 (cw_node 39 (cw_leaf 36 (s_callV 9 m_Mo_leavesState 0 39)) (cw_leaf 39 (s_aload 0 40))) (cw_node 43 (cw_leaf 40 (s_callV 9 m_Mo_costOfAll 0 43)) (cw_leaf 43 (s_istore 3 44))))) (cw_node 50 (cw_node 46 (cw_node 45 (cw_leaf 44 (s_aload 0 45)) (cw_leaf 45 (s_iload 1 46))) (cw_node 47 (cw_leaf 46 (s_iload 2 47)) (cw_leaf 47 (s_callV 9 m_Mo_swaps 2 50)))) (cw_node 54 (cw_node 51 (cw_leaf 50 (s_aload 0 51)) (cw_leaf 51 (s_callV 9 m_Mo_costOfAll 0 54))) (cw_node 55 (cw_leaf 54 (s_iload 3 55)) (cw_node 56 (cw_leaf 55 (s_ibin (fun x y => x - y) 56)) (cw_leaf 56 (s_iret)))))))
def c_Mo_betters : Nat → Option cw_S := cw_node 76 (cw_node 34 (cw_node 14 (cw_node 9 (cw_node 4 (cw_node 1 (cw_leaf 0 (s_aload 0 1)) (cw_leaf 1 (s_callV 9 m_Mo_leavesState 0 4))) (cw_node 5 (cw_leaf 4 (s_aload 0 5)) (cw_node 8 (cw_leaf 5 (s_callV 9 m_Mo_costOfAll 0 8)) (cw_leaf 8 (s_istore 1 9))))) (cw_node 11 (cw_node 10 (cw_leaf 9 (s_iload 1 10)) (cw_leaf 10 (s_istore 2 11))) (cw_node 12 (cw_leaf 11 (s_iconst (-1) 12)) (cw_node 13 (cw_leaf 12 (s_istore 3 13)) (cw_leaf 13 (s_iconst (-1) 14)))))) (cw_node 23 (cw_node 17 (cw_node 16 (cw_leaf 14 (s_istore 4 16)) (cw_leaf 16 (s_aload 0 17))) (cw_node 20 (cw_leaf 17 (s_callV 9 m_Mo_laysAside 0 20)) (cw_node 21 (cw_leaf 20 (s_iconst 0 21)) (cw_leaf 21 (s_istore 5 23))))) (cw_node 30 (cw_node 25 (cw_leaf 23 (s_iload 5 25)) (cw_node 27 (cw_leaf 25 (s_iconst 15 27)) (cw_leaf 27 (s_icmp (fun x y => decide (y ≤ x)) 141 30)))) (cw_node 32 (cw_leaf 30 (s_iload 5 32)) (cw_node 33 (cw_leaf 32 (s_iconst 1 33)) (cw_leaf 33 (s_ibin (fun x y => x + y) 34))))))) (cw_node 54 (cw_node 44 (cw_node 38 (cw_node 36 (cw_leaf 34 (s_istore 6 36)) (cw_leaf 36 (s_iload 6 38))) (cw_node 40 (cw_leaf 38 (s_iconst 15 40)) (cw_node 43 (cw_leaf 40 (s_icmp (fun x y => decide (y ≤ x)) 135 43)) (cw_leaf 43 (s_aload 0 44))))) (cw_node 49 (cw_node 47 (cw_leaf 44 (s_get 9 8 47)) (cw_leaf 47 (s_iload 5 49))) (cw_node 50 (cw_leaf 49 (s_iald 50)) (cw_node 51 (cw_leaf 50 (s_iconst 1 51)) (cw_leaf 51 (s_icmp (fun x y => decide (¬ x = y)) 129 54)))))) (cw_node 62 (cw_node 58 (cw_node 55 (cw_leaf 54 (s_aload 0 55)) (cw_leaf 55 (s_get 9 8 58))) (cw_node 60 (cw_leaf 58 (s_iload 6 60)) (cw_node 61 (cw_leaf 60 (s_iald 61)) (cw_leaf 61 (s_iconst 1 62))))) (cw_node 68 (cw_node 65 (cw_leaf 62 (s_icmp (fun x y => decide (¬ x = y)) 129 65)) (cw_node 66 (cw_leaf 65 (s_aload 0 66)) (cw_leaf 66 (s_iload 5 68)))) (cw_node 70 (cw_leaf 68 (s_iload 6 70)) (cw_node 73 (cw_leaf 70 (s_callV 9 m_Mo_canExchange 2 73)) (cw_leaf 73 (s_if (fun x => decide (x = 0)) 129 76)))))))) (cw_node 118 (cw_node 96 (cw_node 85 (cw_node 79 (cw_node 77 (cw_leaf 76 (s_aload 0 77)) (cw_leaf 77 (s_iload 5 79))) (cw_node 81 (cw_leaf 79 (s_iload 6 81)) (cw_node 84 (cw_leaf 81 (s_callV 9 m_Mo_swaps 2 84)) (cw_leaf 84 (s_aload 0 85))))) (cw_node 90 (cw_node 88 (cw_leaf 85 (s_callV 9 m_Mo_costOfAll 0 88)) (cw_leaf 88 (s_istore 7 90))) (cw_node 92 (cw_leaf 90 (s_iload 7 92)) (cw_node 93 (cw_leaf 92 (s_iload 2 93)) (cw_leaf 93 (s_icmp (fun x y => decide (y ≤ x)) 101 96)))))) (cw_node 105 (cw_node 101 (cw_node 98 (cw_leaf 96 (s_iload 5 98)) (cw_leaf 98 (s_goto 102))) (cw_node 102 (cw_leaf 101 (s_iload 3 102)) (cw_node 103 (cw_leaf 102 (s_istore 3 103)) (cw_leaf 103 (s_iload 7 105))))) (cw_node 111 (cw_node 106 (cw_leaf 105 (s_iload 2 106)) (cw_node 109 (cw_leaf 106 (s_icmp (fun x y => decide (y ≤ x)) 114 109)) (cw_leaf 109 (s_iload 6 111)))) (cw_node 114 (cw_leaf 111 (s_goto 116)) (cw_node 116 (cw_leaf 114 (s_iload 4 116)) (cw_leaf 116 (s_istore 4 118))))))) (cw_node 141 (cw_node 126 (cw_node 121 (cw_node 120 (cw_leaf 118 (s_iload 7 120)) (cw_leaf 120 (s_iload 2 121))) (cw_node 124 (cw_leaf 121 (s_callS m_Mo_lesser 2 124)) (cw_node 125 (cw_leaf 124 (s_istore 2 125)) (cw_leaf 125 (s_aload 0 126))))) (cw_node 132 (cw_node 129 (cw_leaf 126 (s_callV 9 m_Mo_takesBack 0 129)) (cw_leaf 129 (s_iinc 6 1 132))) (cw_node 135 (cw_leaf 132 (s_goto 36)) (cw_node 138 (cw_leaf 135 (s_iinc 5 1 138)) (cw_leaf 138 (s_goto 23)))))) (cw_node 148 (cw_node 143 (cw_node 142 (cw_leaf 141 (s_iload 3 142)) (cw_leaf 142 (s_iconst (-1) 143))) (cw_node 146 (cw_leaf 143 (s_icmp (fun x y => decide (x = y)) 153 146)) (cw_node 147 (cw_leaf 146 (s_aload 0 147)) (cw_leaf 147 (s_iload 3 148))))) (cw_node 154 (cw_node 150 (cw_leaf 148 (s_iload 4 150)) (cw_node 153 (cw_leaf 150 (s_callV 9 m_Mo_swaps 2 153)) (cw_leaf 153 (s_iload 1 154)))) (cw_node 155 (cw_leaf 154 (s_iload 2 155)) (cw_node 156 (cw_leaf 155 (s_ibin (fun x y => x - y) 156)) (cw_leaf 156 (s_iret))))))))
def c_Mo_about : Nat → Option cw_S := cw_node 106 (cw_node 81 (cw_node 68 (cw_node 64 (cw_node 60 (cw_node 1 (cw_leaf 0 (s_iload 2 1)) (cw_leaf 1 (s_table 0 [60, 67, 74, 81, 88, 95, 102, 109, 116, 123, 142] 149))) (cw_node 61 (cw_leaf 60 (s_aload 0 61)) (cw_leaf 61 (s_get 9 9 64)))) (cw_node 66 (cw_node 65 (cw_leaf 64 (s_iload 1 65)) (cw_leaf 65 (s_iald 66))) (cw_node 67 (cw_leaf 66 (s_iret)) (cw_leaf 67 (s_aload 0 68))))) (cw_node 74 (cw_node 72 (cw_node 71 (cw_leaf 68 (s_get 9 10 71)) (cw_leaf 71 (s_iload 1 72))) (cw_node 73 (cw_leaf 72 (s_iald 73)) (cw_leaf 73 (s_iret)))) (cw_node 78 (cw_node 75 (cw_leaf 74 (s_aload 0 75)) (cw_leaf 75 (s_get 9 11 78))) (cw_node 79 (cw_leaf 78 (s_iload 1 79)) (cw_node 80 (cw_leaf 79 (s_iald 80)) (cw_leaf 80 (s_iret))))))) (cw_node 93 (cw_node 87 (cw_node 85 (cw_node 82 (cw_leaf 81 (s_aload 0 82)) (cw_leaf 82 (s_get 9 15 85))) (cw_node 86 (cw_leaf 85 (s_iload 1 86)) (cw_leaf 86 (s_iald 87)))) (cw_node 89 (cw_node 88 (cw_leaf 87 (s_iret)) (cw_leaf 88 (s_aload 0 89))) (cw_node 92 (cw_leaf 89 (s_get 9 16 92)) (cw_leaf 92 (s_iload 1 93))))) (cw_node 99 (cw_node 95 (cw_node 94 (cw_leaf 93 (s_iald 94)) (cw_leaf 94 (s_iret))) (cw_node 96 (cw_leaf 95 (s_aload 0 96)) (cw_leaf 96 (s_get 9 17 99)))) (cw_node 101 (cw_node 100 (cw_leaf 99 (s_iload 1 100)) (cw_leaf 100 (s_iald 101))) (cw_node 102 (cw_leaf 101 (s_iret)) (cw_node 103 (cw_leaf 102 (s_aload 0 103)) (cw_leaf 103 (s_get 9 18 106)))))))) (cw_node 131 (cw_node 116 (cw_node 110 (cw_node 108 (cw_node 107 (cw_leaf 106 (s_iload 1 107)) (cw_leaf 107 (s_iald 108))) (cw_node 109 (cw_leaf 108 (s_iret)) (cw_leaf 109 (s_aload 0 110)))) (cw_node 114 (cw_node 113 (cw_leaf 110 (s_get 9 19 113)) (cw_leaf 113 (s_iload 1 114))) (cw_node 115 (cw_leaf 114 (s_iald 115)) (cw_leaf 115 (s_iret))))) (cw_node 122 (cw_node 120 (cw_node 117 (cw_leaf 116 (s_aload 0 117)) (cw_leaf 117 (s_get 9 20 120))) (cw_node 121 (cw_leaf 120 (s_iload 1 121)) (cw_leaf 121 (s_iald 122)))) (cw_node 124 (cw_node 123 (cw_leaf 122 (s_iret)) (cw_leaf 123 (s_aload 0 124))) (cw_node 125 (cw_leaf 124 (s_iload 1 125)) (cw_node 128 (cw_leaf 125 (s_callV 9 m_Mo_isTop 1 128)) (cw_leaf 128 (s_if (fun x => decide (x = 0)) 135 131))))))) (cw_node 143 (cw_node 139 (cw_node 135 (cw_node 132 (cw_leaf 131 (s_iconst (-1) 132)) (cw_leaf 132 (s_goto 141))) (cw_node 136 (cw_leaf 135 (s_aload 0 136)) (cw_leaf 136 (s_get 9 21 139)))) (cw_node 141 (cw_node 140 (cw_leaf 139 (s_iload 1 140)) (cw_leaf 140 (s_iald 141))) (cw_node 142 (cw_leaf 141 (s_iret)) (cw_leaf 142 (s_aload 0 143))))) (cw_node 149 (cw_node 147 (cw_node 146 (cw_leaf 143 (s_get 9 22 146)) (cw_leaf 146 (s_iload 1 147))) (cw_node 148 (cw_leaf 147 (s_iald 148)) (cw_leaf 148 (s_iret)))) (cw_node 153 (cw_node 150 (cw_leaf 149 (s_aload 0 150)) (cw_leaf 150 (s_get 9 23 153))) (cw_node 154 (cw_leaf 153 (s_iload 1 154)) (cw_node 155 (cw_leaf 154 (s_iald 155)) (cw_leaf 155 (s_iret))))))))
def c_Mo_node : Nat → Option cw_S := cw_node 18 (cw_node 8 (cw_node 2 (cw_node 1 (cw_leaf 0 (s_aload 0 1)) (cw_leaf 1 (s_iload 1 2))) (cw_node 5 (cw_leaf 2 (s_callV 9 m_Mo_isNode 1 5)) (cw_leaf 5 (s_if (fun x => decide (x = 0)) 18 8)))) (cw_node 10 (cw_node 9 (cw_leaf 8 (s_iload 2 9)) (cw_leaf 9 (s_iconst 0 10))) (cw_node 12 (cw_leaf 10 (s_iconst 11 12)) (cw_node 15 (cw_leaf 12 (s_callS m_Mo_in 3 15)) (cw_leaf 15 (s_if (fun x => decide (¬ x = 0)) 23 18)))))) (cw_node 27 (cw_node 22 (cw_node 19 (cw_leaf 18 (s_aload 0 19)) (cw_leaf 19 (s_callV 9 m_Mo_bad 0 22))) (cw_node 23 (cw_leaf 22 (s_iret)) (cw_node 24 (cw_leaf 23 (s_aload 0 24)) (cw_leaf 24 (s_callV 9 m_Mo_tellsAll 0 27))))) (cw_node 29 (cw_node 28 (cw_leaf 27 (s_aload 0 28)) (cw_leaf 28 (s_iload 1 29))) (cw_node 30 (cw_leaf 29 (s_iload 2 30)) (cw_node 33 (cw_leaf 30 (s_callV 9 m_Mo_about 2 33)) (cw_leaf 33 (s_iret))))))
def c_Mo_would : Nat → Option cw_S := cw_node 42 (cw_node 22 (cw_node 10 (cw_node 5 (cw_node 1 (cw_leaf 0 (s_aload 0 1)) (cw_node 2 (cw_leaf 1 (s_iload 1 2)) (cw_leaf 2 (s_callV 9 m_Mo_isNode 1 5)))) (cw_node 8 (cw_leaf 5 (s_if (fun x => decide (x = 0)) 30 8)) (cw_node 9 (cw_leaf 8 (s_aload 0 9)) (cw_leaf 9 (s_iload 2 10))))) (cw_node 17 (cw_node 13 (cw_leaf 10 (s_callV 9 m_Mo_isNode 1 13)) (cw_node 16 (cw_leaf 13 (s_if (fun x => decide (x = 0)) 30 16)) (cw_leaf 16 (s_iload 1 17)))) (cw_node 18 (cw_leaf 17 (s_iload 2 18)) (cw_node 21 (cw_leaf 18 (s_icmp (fun x y => decide (x = y)) 30 21)) (cw_leaf 21 (s_iload 3 22)))))) (cw_node 34 (cw_node 27 (cw_node 23 (cw_leaf 22 (s_iconst 0 23)) (cw_node 24 (cw_leaf 23 (s_iconst 3 24)) (cw_leaf 24 (s_callS m_Mo_in 3 27)))) (cw_node 30 (cw_leaf 27 (s_if (fun x => decide (¬ x = 0)) 35 30)) (cw_node 31 (cw_leaf 30 (s_aload 0 31)) (cw_leaf 31 (s_callV 9 m_Mo_bad 0 34))))) (cw_node 39 (cw_node 35 (cw_leaf 34 (s_iret)) (cw_node 36 (cw_leaf 35 (s_aload 0 36)) (cw_leaf 36 (s_callV 9 m_Mo_tellsAll 0 39)))) (cw_node 40 (cw_leaf 39 (s_aload 0 40)) (cw_node 41 (cw_leaf 40 (s_iload 1 41)) (cw_leaf 41 (s_iload 2 42))))))) (cw_node 66 (cw_node 56 (cw_node 49 (cw_node 45 (cw_leaf 42 (s_callV 9 m_Mo_reckons 2 45)) (cw_node 46 (cw_leaf 45 (s_iload 3 46)) (cw_leaf 46 (s_if (fun x => decide (¬ x = 0)) 56 49)))) (cw_node 50 (cw_leaf 49 (s_aload 0 50)) (cw_node 53 (cw_leaf 50 (s_get 9 26 53)) (cw_leaf 53 (s_goto 89))))) (cw_node 61 (cw_node 57 (cw_leaf 56 (s_iload 3 57)) (cw_node 58 (cw_leaf 57 (s_iconst 1 58)) (cw_leaf 58 (s_icmp (fun x y => decide (¬ x = y)) 73 61)))) (cw_node 62 (cw_leaf 61 (s_aload 0 62)) (cw_node 65 (cw_leaf 62 (s_get 9 26 65)) (cw_leaf 65 (s_aload 0 66)))))) (cw_node 78 (cw_node 73 (cw_node 69 (cw_leaf 66 (s_get 9 25 69)) (cw_node 70 (cw_leaf 69 (s_ibin (fun x y => x - y) 70)) (cw_leaf 70 (s_goto 89)))) (cw_node 74 (cw_leaf 73 (s_iload 3 74)) (cw_node 75 (cw_leaf 74 (s_iconst 2 75)) (cw_leaf 75 (s_icmp (fun x y => decide (¬ x = y)) 85 78))))) (cw_node 85 (cw_node 79 (cw_leaf 78 (s_aload 0 79)) (cw_node 82 (cw_leaf 79 (s_get 9 27 82)) (cw_leaf 82 (s_goto 89)))) (cw_node 86 (cw_leaf 85 (s_aload 0 86)) (cw_node 89 (cw_leaf 86 (s_get 9 28 89)) (cw_leaf 89 (s_iret)))))))
def c_Mo_nearest : Nat → Option cw_S := cw_node 1 (cw_leaf 0 (s_aload 0 1)) (cw_node 4 (cw_leaf 1 (s_callV 9 m_Mo_findsPair 0 4)) (cw_leaf 4 (s_iret)))
def c_Mo_tops : Nat → Option cw_S := cw_node 1 (cw_leaf 0 (s_aload 0 1)) (cw_node 4 (cw_leaf 1 (s_callV 9 m_Mo_topMany 0 4)) (cw_leaf 4 (s_iret)))
def c_Mo_growsBy : Nat → Option cw_S := cw_node 39 (cw_node 17 (cw_node 8 (cw_node 3 (cw_node 1 (cw_leaf 0 (s_iload 1 1)) (cw_node 2 (cw_leaf 1 (s_istore 2 2)) (cw_leaf 2 (s_aload 0 3)))) (cw_node 6 (cw_leaf 3 (s_callV 9 m_Mo_noJoints 0 6)) (cw_node 7 (cw_leaf 6 (s_istore 3 7)) (cw_leaf 7 (s_iconst 1 8))))) (cw_node 14 (cw_node 10 (cw_leaf 8 (s_istore 4 10)) (cw_node 11 (cw_leaf 10 (s_aload 0 11)) (cw_leaf 11 (s_get 9 34 14)))) (cw_node 15 (cw_leaf 14 (s_iconst 0 15)) (cw_node 16 (cw_leaf 15 (s_iconst 0 16)) (cw_leaf 16 (s_iast 17)))))) (cw_node 29 (cw_node 22 (cw_node 18 (cw_leaf 17 (s_iconst 1 18)) (cw_node 20 (cw_leaf 18 (s_istore 5 20)) (cw_leaf 20 (s_iload 5 22)))) (cw_node 23 (cw_leaf 22 (s_aload 0 23)) (cw_node 26 (cw_leaf 23 (s_get 9 1 26)) (cw_leaf 26 (s_icmp (fun x y => decide (y ≤ x)) 84 29))))) (cw_node 33 (cw_node 30 (cw_leaf 29 (s_iload 2 30)) (cw_node 32 (cw_leaf 30 (s_iload 4 32)) (cw_leaf 32 (s_idiv (fun x y => x - x / y * y) 33)))) (cw_node 36 (cw_node 35 (cw_leaf 33 (s_istore 6 35)) (cw_leaf 35 (s_iload 2 36))) (cw_node 38 (cw_leaf 36 (s_iload 4 38)) (cw_leaf 38 (s_idiv (fun x y => x / y) 39))))))) (cw_node 61 (cw_node 48 (cw_node 42 (cw_node 40 (cw_leaf 39 (s_istore 2 40)) (cw_node 41 (cw_leaf 40 (s_aload 0 41)) (cw_leaf 41 (s_aload 0 42)))) (cw_node 45 (cw_leaf 42 (s_get 9 34 45)) (cw_node 47 (cw_leaf 45 (s_iload 6 47)) (cw_leaf 47 (s_iald 48))))) (cw_node 55 (cw_node 50 (cw_leaf 48 (s_iload 5 50)) (cw_node 53 (cw_leaf 50 (s_callV 9 m_Mo_lays 2 53)) (cw_leaf 53 (s_istore 7 55)))) (cw_node 56 (cw_leaf 55 (s_aload 0 56)) (cw_node 59 (cw_leaf 56 (s_get 9 34 59)) (cw_leaf 59 (s_iload 4 61)))))) (cw_node 71 (cw_node 65 (cw_node 63 (cw_leaf 61 (s_iload 5 63)) (cw_node 64 (cw_leaf 63 (s_iast 64)) (cw_leaf 64 (s_aload 0 65)))) (cw_node 68 (cw_leaf 65 (s_get 9 34 68)) (cw_node 70 (cw_leaf 68 (s_iload 4 70)) (cw_leaf 70 (s_iconst 1 71))))) (cw_node 75 (cw_node 72 (cw_leaf 71 (s_ibin (fun x y => x + y) 72)) (cw_node 74 (cw_leaf 72 (s_iload 7 74)) (cw_leaf 74 (s_iast 75)))) (cw_node 81 (cw_node 78 (cw_leaf 75 (s_iinc 4 2 78)) (cw_leaf 78 (s_iinc 5 1 81))) (cw_node 84 (cw_leaf 81 (s_goto 20)) (cw_leaf 84 (s_vret)))))))
def c_Mo_least : Nat → Option cw_S := cw_node 70 (cw_node 36 (cw_node 18 (cw_node 9 (cw_node 2 (cw_node 1 (cw_leaf 0 (s_iload 1 1)) (cw_leaf 1 (s_iconst 0 2))) (cw_node 3 (cw_leaf 2 (s_iconst 1 3)) (cw_node 6 (cw_leaf 3 (s_callS m_Mo_in 3 6)) (cw_leaf 6 (s_if (fun x => decide (¬ x = 0)) 14 9))))) (cw_node 13 (cw_node 10 (cw_leaf 9 (s_aload 0 10)) (cw_leaf 10 (s_callV 9 m_Mo_bad 0 13))) (cw_node 14 (cw_leaf 13 (s_iret)) (cw_node 15 (cw_leaf 14 (s_aload 0 15)) (cw_leaf 15 (s_get 9 1 18)))))) (cw_node 28 (cw_node 21 (cw_node 19 (cw_leaf 18 (s_iconst 1 19)) (cw_leaf 19 (s_iconst 6 21))) (cw_node 24 (cw_leaf 21 (s_callS m_Mo_in 3 24)) (cw_node 27 (cw_leaf 24 (s_if (fun x => decide (¬ x = 0)) 32 27)) (cw_leaf 27 (s_aload 0 28))))) (cw_node 33 (cw_node 31 (cw_leaf 28 (s_callV 9 m_Mo_no 0 31)) (cw_node 32 (cw_leaf 31 (s_iret)) (cw_leaf 32 (s_iconst 1 33)))) (cw_node 34 (cw_leaf 33 (s_istore 2 34)) (cw_node 35 (cw_leaf 34 (s_iconst 1 35)) (cw_leaf 35 (s_istore 3 36))))))) (cw_node 51 (cw_node 45 (cw_node 38 (cw_node 37 (cw_leaf 36 (s_iload 3 37)) (cw_leaf 37 (s_aload 0 38))) (cw_node 41 (cw_leaf 38 (s_get 9 1 41)) (cw_node 44 (cw_leaf 41 (s_icmp (fun x y => decide (y ≤ x)) 58 44)) (cw_leaf 44 (s_iload 2 45))))) (cw_node 48 (cw_node 46 (cw_leaf 45 (s_iconst 2 46)) (cw_node 47 (cw_leaf 46 (s_iload 3 47)) (cw_leaf 47 (s_ibin (fun x y => x * y) 48)))) (cw_node 49 (cw_leaf 48 (s_iconst 1 49)) (cw_node 50 (cw_leaf 49 (s_ibin (fun x y => x - y) 50)) (cw_leaf 50 (s_ibin (fun x y => x * y) 51)))))) (cw_node 62 (cw_node 55 (cw_node 52 (cw_leaf 51 (s_istore 2 52)) (cw_leaf 52 (s_iinc 3 1 55))) (cw_node 58 (cw_leaf 55 (s_goto 36)) (cw_node 59 (cw_leaf 58 (s_aload 0 59)) (cw_leaf 59 (s_callV 9 m_Mo_laysAside 0 62))))) (cw_node 65 (cw_node 63 (cw_leaf 62 (s_iconst 0 63)) (cw_node 64 (cw_leaf 63 (s_istore 3 64)) (cw_leaf 64 (s_iconst 0 65)))) (cw_node 67 (cw_leaf 65 (s_istore 4 67)) (cw_node 68 (cw_leaf 67 (s_iconst 0 68)) (cw_leaf 68 (s_istore 5 70)))))))) (cw_node 113 (cw_node 93 (cw_node 79 (cw_node 73 (cw_node 72 (cw_leaf 70 (s_iload 5 72)) (cw_leaf 72 (s_iload 2 73))) (cw_node 76 (cw_leaf 73 (s_icmp (fun x y => decide (y ≤ x)) 144 76)) (cw_node 77 (cw_leaf 76 (s_aload 0 77)) (cw_leaf 77 (s_iload 5 79))))) (cw_node 86 (cw_node 82 (cw_leaf 79 (s_callV 9 m_Mo_growsBy 1 82)) (cw_node 83 (cw_leaf 82 (s_aload 0 83)) (cw_leaf 83 (s_callV 9 m_Mo_costOfAll 0 86)))) (cw_node 88 (cw_leaf 86 (s_istore 6 88)) (cw_node 90 (cw_leaf 88 (s_iload 5 90)) (cw_leaf 90 (s_if (fun x => decide (x = 0)) 99 93)))))) (cw_node 103 (cw_node 96 (cw_node 95 (cw_leaf 93 (s_iload 6 95)) (cw_leaf 95 (s_iload 3 96))) (cw_node 99 (cw_leaf 96 (s_icmp (fun x y => decide (y ≤ x)) 103 99)) (cw_node 100 (cw_leaf 99 (s_iconst 1 100)) (cw_leaf 100 (s_goto 118))))) (cw_node 109 (cw_node 105 (cw_leaf 103 (s_iload 6 105)) (cw_node 106 (cw_leaf 105 (s_iload 3 106)) (cw_leaf 106 (s_icmp (fun x y => decide (¬ x = y)) 116 109)))) (cw_node 111 (cw_leaf 109 (s_iload 4 111)) (cw_node 112 (cw_leaf 111 (s_iconst 1 112)) (cw_leaf 112 (s_ibin (fun x y => x + y) 113))))))) (cw_node 137 (cw_node 125 (cw_node 118 (cw_node 116 (cw_leaf 113 (s_goto 118)) (cw_leaf 116 (s_iload 4 118))) (cw_node 120 (cw_leaf 118 (s_istore 4 120)) (cw_node 122 (cw_leaf 120 (s_iload 5 122)) (cw_leaf 122 (s_if (fun x => decide (x = 0)) 131 125))))) (cw_node 131 (cw_node 127 (cw_leaf 125 (s_iload 6 127)) (cw_node 128 (cw_leaf 127 (s_iload 3 128)) (cw_leaf 128 (s_icmp (fun x y => decide (y ≤ x)) 136 131)))) (cw_node 133 (cw_leaf 131 (s_iload 6 133)) (cw_node 136 (cw_leaf 133 (s_goto 137)) (cw_leaf 136 (s_iload 3 137)))))) (cw_node 148 (cw_node 141 (cw_node 138 (cw_leaf 137 (s_istore 3 138)) (cw_leaf 138 (s_iinc 5 1 141))) (cw_node 144 (cw_leaf 141 (s_goto 70)) (cw_node 145 (cw_leaf 144 (s_aload 0 145)) (cw_leaf 145 (s_callV 9 m_Mo_takesBack 0 148))))) (cw_node 153 (cw_node 149 (cw_leaf 148 (s_iload 1 149)) (cw_node 152 (cw_leaf 149 (s_if (fun x => decide (¬ x = 0)) 156 152)) (cw_leaf 152 (s_iload 3 153)))) (cw_node 156 (cw_leaf 153 (s_goto 158)) (cw_node 158 (cw_leaf 156 (s_iload 4 158)) (cw_leaf 158 (s_iret))))))))
def c_Mo_place : Nat → Option cw_S := cw_node 39 (cw_node 18 (cw_node 9 (cw_node 2 (cw_node 1 (cw_leaf 0 (s_aload 0 1)) (cw_leaf 1 (s_iload 1 2))) (cw_node 5 (cw_leaf 2 (s_callV 9 m_Mo_isNode 1 5)) (cw_node 8 (cw_leaf 5 (s_if (fun x => decide (x = 0)) 17 8)) (cw_leaf 8 (s_iload 2 9))))) (cw_node 11 (cw_node 10 (cw_leaf 9 (s_iconst 0 10)) (cw_leaf 10 (s_iconst 2 11))) (cw_node 14 (cw_leaf 11 (s_callS m_Mo_in 3 14)) (cw_node 17 (cw_leaf 14 (s_if (fun x => decide (¬ x = 0)) 22 17)) (cw_leaf 17 (s_aload 0 18)))))) (cw_node 29 (cw_node 22 (cw_node 21 (cw_leaf 18 (s_callV 9 m_Mo_bad 0 21)) (cw_leaf 21 (s_iret))) (cw_node 23 (cw_leaf 22 (s_aload 0 23)) (cw_node 26 (cw_leaf 23 (s_callV 9 m_Mo_areLaid 0 26)) (cw_leaf 26 (s_if (fun x => decide (¬ x = 0)) 34 29))))) (cw_node 34 (cw_node 30 (cw_leaf 29 (s_aload 0 30)) (cw_node 33 (cw_leaf 30 (s_callV 9 m_Mo_no 0 33)) (cw_leaf 33 (s_iret)))) (cw_node 35 (cw_leaf 34 (s_iload 2 35)) (cw_node 38 (cw_leaf 35 (s_if (fun x => decide (¬ x = 0)) 47 38)) (cw_leaf 38 (s_aload 0 39))))))) (cw_node 58 (cw_node 48 (cw_node 43 (cw_node 42 (cw_leaf 39 (s_get 9 29 42)) (cw_leaf 42 (s_iload 1 43))) (cw_node 44 (cw_leaf 43 (s_iald 44)) (cw_node 47 (cw_leaf 44 (s_goto 78)) (cw_leaf 47 (s_iload 2 48))))) (cw_node 53 (cw_node 49 (cw_leaf 48 (s_iconst 1 49)) (cw_node 52 (cw_leaf 49 (s_icmp (fun x y => decide (¬ x = y)) 61 52)) (cw_leaf 52 (s_aload 0 53)))) (cw_node 56 (cw_leaf 53 (s_get 9 30 56)) (cw_node 57 (cw_leaf 56 (s_iload 1 57)) (cw_leaf 57 (s_iald 58)))))) (cw_node 69 (cw_node 62 (cw_node 61 (cw_leaf 58 (s_goto 78)) (cw_leaf 61 (s_iload 1 62))) (cw_node 63 (cw_leaf 62 (s_aload 0 63)) (cw_node 66 (cw_leaf 63 (s_get 9 32 66)) (cw_leaf 66 (s_icmp (fun x y => decide (¬ x = y)) 73 69))))) (cw_node 74 (cw_node 70 (cw_leaf 69 (s_iconst (-1) 70)) (cw_node 73 (cw_leaf 70 (s_goto 78)) (cw_leaf 73 (s_aload 0 74)))) (cw_node 75 (cw_leaf 74 (s_iload 1 75)) (cw_node 78 (cw_leaf 75 (s_callV 9 m_Mo_loop 1 78)) (cw_leaf 78 (s_iret)))))))
def c_Mo_arrival : Nat → Option cw_S := cw_node 14 (cw_node 8 (cw_node 2 (cw_node 1 (cw_leaf 0 (s_aload 0 1)) (cw_leaf 1 (s_iload 1 2))) (cw_node 5 (cw_leaf 2 (s_callV 9 m_Mo_isSink 1 5)) (cw_leaf 5 (s_if (fun x => decide (¬ x = 0)) 13 8)))) (cw_node 12 (cw_node 9 (cw_leaf 8 (s_aload 0 9)) (cw_leaf 9 (s_callV 9 m_Mo_bad 0 12))) (cw_node 13 (cw_leaf 12 (s_iret)) (cw_leaf 13 (s_aload 0 14))))) (cw_node 22 (cw_node 20 (cw_node 17 (cw_leaf 14 (s_callV 9 m_Mo_areLaid 0 17)) (cw_leaf 17 (s_if (fun x => decide (x = 0)) 28 20))) (cw_node 21 (cw_leaf 20 (s_aload 0 21)) (cw_leaf 21 (s_iload 1 22)))) (cw_node 28 (cw_node 25 (cw_leaf 22 (s_callV 9 m_Mo_arrives 1 25)) (cw_leaf 25 (s_goto 32))) (cw_node 29 (cw_leaf 28 (s_aload 0 29)) (cw_node 32 (cw_leaf 29 (s_callV 9 m_Mo_no 0 32)) (cw_leaf 32 (s_iret))))))
def c_Mo_below : Nat → Option cw_S := cw_node 31 (cw_node 13 (cw_node 6 (cw_node 4 (cw_node 1 (cw_leaf 0 (s_aload 0 1)) (cw_leaf 1 (s_get 9 22 4))) (cw_node 5 (cw_leaf 4 (s_iload 1 5)) (cw_leaf 5 (s_iald 6)))) (cw_node 8 (cw_node 7 (cw_leaf 6 (s_i2l 7)) (cw_leaf 7 (s_lstore 2 8))) (cw_node 9 (cw_leaf 8 (s_iconst 0 9)) (cw_node 11 (cw_leaf 9 (s_istore 4 11)) (cw_leaf 11 (s_iload 4 13)))))) (cw_node 21 (cw_node 17 (cw_node 14 (cw_leaf 13 (s_aload 0 14)) (cw_leaf 14 (s_get 9 1 17))) (cw_node 20 (cw_leaf 17 (s_icmp (fun x y => decide (y ≤ x)) 59 20)) (cw_leaf 20 (s_lload 2 21)))) (cw_node 24 (cw_node 22 (cw_leaf 21 (s_aload 0 22)) (cw_leaf 22 (s_iload 4 24))) (cw_node 25 (cw_leaf 24 (s_iload 1 25)) (cw_node 28 (cw_leaf 25 (s_callV 9 m_Mo_isWithin 2 28)) (cw_leaf 28 (s_if (fun x => decide (x = 0)) 50 31))))))) (cw_node 43 (cw_node 38 (cw_node 35 (cw_node 32 (cw_leaf 31 (s_aload 0 32)) (cw_leaf 32 (s_get 9 2 35))) (cw_node 36 (cw_leaf 35 (s_iconst 4 36)) (cw_leaf 36 (s_iload 4 38)))) (cw_node 40 (cw_node 39 (cw_leaf 38 (s_ibin (fun x y => x * y) 39)) (cw_leaf 39 (s_iconst 3 40))) (cw_node 41 (cw_leaf 40 (s_ibin (fun x y => x + y) 41)) (cw_node 42 (cw_leaf 41 (s_iald 42)) (cw_leaf 42 (s_i2l 43)))))) (cw_node 52 (cw_node 47 (cw_node 46 (cw_leaf 43 (s_lconst 65536 46)) (cw_leaf 46 (s_lbin (fun x y => x * y) 47))) (cw_node 50 (cw_leaf 47 (s_goto 51)) (cw_node 51 (cw_leaf 50 (s_lconst 0 51)) (cw_leaf 51 (s_lbin (fun x y => x + y) 52))))) (cw_node 56 (cw_node 53 (cw_leaf 52 (s_lstore 2 53)) (cw_leaf 53 (s_iinc 4 1 56))) (cw_node 59 (cw_leaf 56 (s_goto 11)) (cw_node 60 (cw_leaf 59 (s_lload 2 60)) (cw_leaf 60 (s_lret)))))))
def c_Mo_slow : Nat → Option cw_S := cw_node 51 (cw_node 26 (cw_node 13 (cw_node 5 (cw_node 1 (cw_leaf 0 (s_aload 0 1)) (cw_node 2 (cw_leaf 1 (s_iload 1 2)) (cw_leaf 2 (s_callV 9 m_Mo_isSink 1 5)))) (cw_node 9 (cw_node 8 (cw_leaf 5 (s_if (fun x => decide (¬ x = 0)) 14 8)) (cw_leaf 8 (s_aload 0 9))) (cw_node 12 (cw_leaf 9 (s_callV 9 m_Mo_bad 0 12)) (cw_leaf 12 (s_i2l 13))))) (cw_node 18 (cw_node 14 (cw_leaf 13 (s_lret)) (cw_node 15 (cw_leaf 14 (s_aload 0 15)) (cw_leaf 15 (s_callV 9 m_Mo_areLaid 0 18)))) (cw_node 22 (cw_node 21 (cw_leaf 18 (s_if (fun x => decide (¬ x = 0)) 27 21)) (cw_leaf 21 (s_aload 0 22))) (cw_node 25 (cw_leaf 22 (s_callV 9 m_Mo_no 0 25)) (cw_leaf 25 (s_i2l 26)))))) (cw_node 35 (cw_node 29 (cw_node 27 (cw_leaf 26 (s_lret)) (cw_node 28 (cw_leaf 27 (s_lconst 0 28)) (cw_leaf 28 (s_lstore 2 29)))) (cw_node 32 (cw_node 30 (cw_leaf 29 (s_iload 1 30)) (cw_leaf 30 (s_istore 4 32))) (cw_node 34 (cw_leaf 32 (s_iload 4 34)) (cw_leaf 34 (s_iconst (-1) 35))))) (cw_node 41 (cw_node 38 (cw_leaf 35 (s_icmp (fun x y => decide (x = y)) 96 38)) (cw_node 40 (cw_leaf 38 (s_iload 4 40)) (cw_leaf 40 (s_aload 0 41)))) (cw_node 47 (cw_node 44 (cw_leaf 41 (s_get 9 32 44)) (cw_leaf 44 (s_icmp (fun x y => decide (¬ x = y)) 55 47))) (cw_node 48 (cw_leaf 47 (s_aload 0 48)) (cw_leaf 48 (s_callV 9 m_Mo_trunk 0 51))))))) (cw_node 76 (cw_node 63 (cw_node 56 (cw_node 52 (cw_leaf 51 (s_i2l 52)) (cw_node 55 (cw_leaf 52 (s_goto 63)) (cw_leaf 55 (s_aload 0 56)))) (cw_node 61 (cw_node 59 (cw_leaf 56 (s_get 9 21 59)) (cw_leaf 59 (s_iload 4 61))) (cw_node 62 (cw_leaf 61 (s_iald 62)) (cw_leaf 62 (s_i2l 63))))) (cw_node 68 (cw_node 65 (cw_leaf 63 (s_lstore 5 65)) (cw_node 66 (cw_leaf 65 (s_lload 2 66)) (cw_leaf 66 (s_lload 5 68)))) (cw_node 73 (cw_node 70 (cw_leaf 68 (s_lload 5 70)) (cw_leaf 70 (s_lconst 2 73))) (cw_node 74 (cw_leaf 73 (s_aload 0 74)) (cw_leaf 74 (s_iload 4 76)))))) (cw_node 85 (cw_node 81 (cw_node 79 (cw_leaf 76 (s_callV 9 m_Mo_below 1 79)) (cw_node 80 (cw_leaf 79 (s_lbin (fun x y => x * y) 80)) (cw_leaf 80 (s_lbin (fun x y => x + y) 81)))) (cw_node 83 (cw_node 82 (cw_leaf 81 (s_lbin (fun x y => x * y) 82)) (cw_leaf 82 (s_lbin (fun x y => x + y) 83))) (cw_node 84 (cw_leaf 83 (s_lstore 2 84)) (cw_leaf 84 (s_aload 0 85))))) (cw_node 91 (cw_node 88 (cw_leaf 85 (s_get 9 11 88)) (cw_node 90 (cw_leaf 88 (s_iload 4 90)) (cw_leaf 90 (s_iald 91)))) (cw_node 96 (cw_node 93 (cw_leaf 91 (s_istore 4 93)) (cw_leaf 93 (s_goto 32))) (cw_node 97 (cw_leaf 96 (s_lload 2 97)) (cw_leaf 97 (s_lret)))))))
def c_Mo_loops : Nat → Option cw_S := cw_node 30 (cw_node 14 (cw_node 4 (cw_node 2 (cw_node 1 (cw_leaf 0 (s_iconst 0 1)) (cw_leaf 1 (s_istore 2 2))) (cw_node 3 (cw_leaf 2 (s_iconst 0 3)) (cw_leaf 3 (s_istore 3 4)))) (cw_node 7 (cw_node 5 (cw_leaf 4 (s_iload 3 5)) (cw_leaf 5 (s_iconst 15 7))) (cw_node 10 (cw_leaf 7 (s_icmp (fun x y => decide (y ≤ x)) 67 10)) (cw_node 11 (cw_leaf 10 (s_aload 0 11)) (cw_leaf 11 (s_get 9 8 14)))))) (cw_node 21 (cw_node 16 (cw_node 15 (cw_leaf 14 (s_iload 3 15)) (cw_leaf 15 (s_iald 16))) (cw_node 17 (cw_leaf 16 (s_iconst 1 17)) (cw_node 20 (cw_leaf 17 (s_icmp (fun x y => decide (¬ x = y)) 36 20)) (cw_leaf 20 (s_iload 3 21))))) (cw_node 25 (cw_node 22 (cw_leaf 21 (s_aload 0 22)) (cw_leaf 22 (s_get 9 32 25))) (cw_node 28 (cw_leaf 25 (s_icmp (fun x y => decide (x = y)) 36 28)) (cw_node 29 (cw_leaf 28 (s_aload 0 29)) (cw_leaf 29 (s_iload 3 30))))))) (cw_node 50 (cw_node 40 (cw_node 36 (cw_node 33 (cw_leaf 30 (s_callV 9 m_Mo_loop 1 33)) (cw_leaf 33 (s_goto 37))) (cw_node 37 (cw_leaf 36 (s_iconst 0 37)) (cw_node 39 (cw_leaf 37 (s_istore 4 39)) (cw_leaf 39 (s_iload 2 40))))) (cw_node 44 (cw_node 41 (cw_leaf 40 (s_iload 1 41)) (cw_leaf 41 (s_if (fun x => decide (x = 0)) 57 44))) (cw_node 46 (cw_leaf 44 (s_iload 4 46)) (cw_node 49 (cw_leaf 46 (s_if (fun x => decide (x ≤ 0)) 53 49)) (cw_leaf 49 (s_iconst 1 50)))))) (cw_node 60 (cw_node 54 (cw_node 53 (cw_leaf 50 (s_goto 59)) (cw_leaf 53 (s_iconst 0 54))) (cw_node 57 (cw_leaf 54 (s_goto 59)) (cw_node 59 (cw_leaf 57 (s_iload 4 59)) (cw_leaf 59 (s_ibin (fun x y => x + y) 60))))) (cw_node 64 (cw_node 61 (cw_leaf 60 (s_istore 2 61)) (cw_leaf 61 (s_iinc 3 1 64))) (cw_node 67 (cw_leaf 64 (s_goto 4)) (cw_node 68 (cw_leaf 67 (s_iload 2 68)) (cw_leaf 68 (s_iret)))))))
def c_Mo_spread : Nat → Option cw_S := cw_node 21 (cw_node 9 (cw_node 5 (cw_node 1 (cw_leaf 0 (s_aload 0 1)) (cw_node 2 (cw_leaf 1 (s_iconst 0 2)) (cw_leaf 2 (s_callV 9 m_Mo_arrives 1 5)))) (cw_node 7 (cw_node 6 (cw_leaf 5 (s_istore 1 6)) (cw_leaf 6 (s_iload 1 7))) (cw_node 8 (cw_leaf 7 (s_istore 2 8)) (cw_leaf 8 (s_iconst 1 9))))) (cw_node 15 (cw_node 11 (cw_node 10 (cw_leaf 9 (s_istore 3 10)) (cw_leaf 10 (s_iload 3 11))) (cw_node 12 (cw_leaf 11 (s_aload 0 12)) (cw_leaf 12 (s_get 9 1 15)))) (cw_node 19 (cw_node 18 (cw_leaf 15 (s_icmp (fun x y => decide (y ≤ x)) 44 18)) (cw_leaf 18 (s_iload 1 19))) (cw_node 20 (cw_leaf 19 (s_aload 0 20)) (cw_leaf 20 (s_iload 3 21)))))) (cw_node 34 (cw_node 28 (cw_node 24 (cw_leaf 21 (s_callV 9 m_Mo_arrives 1 24)) (cw_node 27 (cw_leaf 24 (s_callS m_Mo_greater 2 27)) (cw_leaf 27 (s_istore 1 28)))) (cw_node 30 (cw_node 29 (cw_leaf 28 (s_iload 2 29)) (cw_leaf 29 (s_aload 0 30))) (cw_node 31 (cw_leaf 30 (s_iload 3 31)) (cw_leaf 31 (s_callV 9 m_Mo_arrives 1 34))))) (cw_node 44 (cw_node 38 (cw_node 37 (cw_leaf 34 (s_callS m_Mo_lesser 2 37)) (cw_leaf 37 (s_istore 2 38))) (cw_node 41 (cw_leaf 38 (s_iinc 3 1 41)) (cw_leaf 41 (s_goto 10)))) (cw_node 46 (cw_node 45 (cw_leaf 44 (s_iload 1 45)) (cw_leaf 45 (s_iload 2 46))) (cw_node 47 (cw_leaf 46 (s_ibin (fun x y => x - y) 47)) (cw_leaf 47 (s_iret))))))
def c_Mo_totalBy : Nat → Option cw_S := cw_node 27 (cw_node 13 (cw_node 5 (cw_node 1 (cw_leaf 0 (s_iload 1 1)) (cw_node 4 (cw_leaf 1 (s_if (fun x => decide (¬ x = 0)) 9 4)) (cw_leaf 4 (s_aload 0 5)))) (cw_node 9 (cw_node 8 (cw_leaf 5 (s_callV 9 m_Mo_costOfAll 0 8)) (cw_leaf 8 (s_iret))) (cw_node 10 (cw_leaf 9 (s_aload 0 10)) (cw_leaf 10 (s_callV 9 m_Mo_areLaid 0 13))))) (cw_node 19 (cw_node 17 (cw_node 16 (cw_leaf 13 (s_if (fun x => decide (¬ x = 0)) 18 16)) (cw_leaf 16 (s_iconst (-1) 17))) (cw_node 18 (cw_leaf 17 (s_iret)) (cw_leaf 18 (s_iload 1 19)))) (cw_node 23 (cw_node 20 (cw_leaf 19 (s_iconst 1 20)) (cw_leaf 20 (s_icmp (fun x y => decide (¬ x = y)) 30 23))) (cw_node 24 (cw_leaf 23 (s_aload 0 24)) (cw_leaf 24 (s_callV 9 m_Mo_trunk 0 27)))))) (cw_node 43 (cw_node 35 (cw_node 31 (cw_node 30 (cw_leaf 27 (s_goto 56)) (cw_leaf 30 (s_iload 1 31))) (cw_node 32 (cw_leaf 31 (s_iconst 3 32)) (cw_leaf 32 (s_icmp (fun x y => decide (¬ x = y)) 42 35)))) (cw_node 39 (cw_node 36 (cw_leaf 35 (s_aload 0 36)) (cw_leaf 36 (s_callV 9 m_Mo_spread 0 39))) (cw_node 42 (cw_leaf 39 (s_goto 56)) (cw_leaf 42 (s_aload 0 43))))) (cw_node 49 (cw_node 45 (cw_node 44 (cw_leaf 43 (s_iload 1 44)) (cw_leaf 44 (s_iconst 4 45))) (cw_node 48 (cw_leaf 45 (s_icmp (fun x y => decide (¬ x = y)) 52 48)) (cw_leaf 48 (s_iconst 1 49)))) (cw_node 53 (cw_node 52 (cw_leaf 49 (s_goto 53)) (cw_leaf 52 (s_iconst 0 53))) (cw_node 56 (cw_leaf 53 (s_callV 9 m_Mo_loops 1 56)) (cw_leaf 56 (s_iret))))))
def c_Mo_total : Nat → Option cw_S := cw_node 10 (cw_node 3 (cw_node 1 (cw_leaf 0 (s_iload 1 1)) (cw_node 2 (cw_leaf 1 (s_iconst 0 2)) (cw_leaf 2 (s_iconst 4 3)))) (cw_node 6 (cw_leaf 3 (s_callS m_Mo_in 3 6)) (cw_node 9 (cw_leaf 6 (s_if (fun x => decide (x = 0)) 17 9)) (cw_leaf 9 (s_aload 0 10))))) (cw_node 17 (cw_node 11 (cw_leaf 10 (s_iload 1 11)) (cw_node 14 (cw_leaf 11 (s_callV 9 m_Mo_totalBy 1 14)) (cw_leaf 14 (s_goto 21)))) (cw_node 18 (cw_leaf 17 (s_aload 0 18)) (cw_node 21 (cw_leaf 18 (s_callV 9 m_Mo_bad 0 21)) (cw_leaf 21 (s_iret)))))
def c_Mo_type : Nat → Option cw_S := cw_node 29 (cw_node 14 (cw_node 4 (cw_node 1 (cw_leaf 0 (s_iload 1 1)) (cw_node 2 (cw_leaf 1 (s_iconst 0 2)) (cw_leaf 2 (s_iconst 127 4)))) (cw_node 10 (cw_node 7 (cw_leaf 4 (s_callS m_Mo_in 3 7)) (cw_leaf 7 (s_if (fun x => decide (¬ x = 0)) 15 10))) (cw_node 11 (cw_leaf 10 (s_aload 0 11)) (cw_leaf 11 (s_callV 9 m_Mo_bad 0 14))))) (cw_node 21 (cw_node 16 (cw_node 15 (cw_leaf 14 (s_iret)) (cw_leaf 15 (s_aload 0 16))) (cw_node 19 (cw_leaf 16 (s_get 9 36 19)) (cw_leaf 19 (s_iconst 60 21)))) (cw_node 25 (cw_node 24 (cw_leaf 21 (s_icmp (fun x y => decide (¬ x = y)) 29 24)) (cw_leaf 24 (s_aload 0 25))) (cw_node 28 (cw_leaf 25 (s_callV 9 m_Mo_full 0 28)) (cw_leaf 28 (s_iret)))))) (cw_node 40 (cw_node 34 (cw_node 30 (cw_leaf 29 (s_aload 0 30)) (cw_node 33 (cw_leaf 30 (s_get 9 35 33)) (cw_leaf 33 (s_aload 0 34)))) (cw_node 38 (cw_node 37 (cw_leaf 34 (s_get 9 36 37)) (cw_leaf 37 (s_iload 1 38))) (cw_node 39 (cw_leaf 38 (s_iast 39)) (cw_leaf 39 (s_aload 0 40))))) (cw_node 46 (cw_node 44 (cw_node 41 (cw_leaf 40 (s_dup 41)) (cw_leaf 41 (s_get 9 36 44))) (cw_node 45 (cw_leaf 44 (s_iconst 1 45)) (cw_leaf 45 (s_ibin (fun x y => x + y) 46)))) (cw_node 50 (cw_node 49 (cw_leaf 46 (s_put 9 36 0 49)) (cw_leaf 49 (s_aload 0 50))) (cw_node 53 (cw_leaf 50 (s_get 9 36 53)) (cw_leaf 53 (s_iret))))))
def c_Mo_clear : Nat → Option cw_S := cw_node 6 (cw_node 4 (cw_node 1 (cw_leaf 0 (s_aload 0 1)) (cw_leaf 1 (s_get 9 36 4))) (cw_node 5 (cw_leaf 4 (s_istore 1 5)) (cw_leaf 5 (s_aload 0 6)))) (cw_node 10 (cw_node 7 (cw_leaf 6 (s_iconst 0 7)) (cw_leaf 7 (s_put 9 36 0 10))) (cw_node 11 (cw_leaf 10 (s_iload 1 11)) (cw_leaf 11 (s_iret))))
def c_Mo_here : Nat → Option cw_S := cw_node 31 (cw_node 16 (cw_node 8 (cw_node 4 (cw_node 1 (cw_leaf 0 (s_aload 0 1)) (cw_leaf 1 (s_get 9 37 4))) (cw_node 5 (cw_leaf 4 (s_aload 0 5)) (cw_leaf 5 (s_get 9 36 8)))) (cw_node 12 (cw_node 11 (cw_leaf 8 (s_icmp (fun x y => decide (y ≤ x)) 38 11)) (cw_leaf 11 (s_aload 0 12))) (cw_node 15 (cw_leaf 12 (s_get 9 35 15)) (cw_leaf 15 (s_aload 0 16))))) (cw_node 25 (cw_node 20 (cw_node 19 (cw_leaf 16 (s_get 9 37 19)) (cw_leaf 19 (s_iald 20))) (cw_node 22 (cw_leaf 20 (s_iconst 32 22)) (cw_leaf 22 (s_icmp (fun x y => decide (¬ x = y)) 38 25)))) (cw_node 27 (cw_node 26 (cw_leaf 25 (s_aload 0 26)) (cw_leaf 26 (s_dup 27))) (cw_node 30 (cw_leaf 27 (s_get 9 37 30)) (cw_leaf 30 (s_iconst 1 31)))))) (cw_node 49 (cw_node 39 (cw_node 35 (cw_node 32 (cw_leaf 31 (s_ibin (fun x y => x + y) 32)) (cw_leaf 32 (s_put 9 37 0 35))) (cw_node 38 (cw_leaf 35 (s_goto 0)) (cw_leaf 38 (s_aload 0 39)))) (cw_node 43 (cw_node 42 (cw_leaf 39 (s_get 9 37 42)) (cw_leaf 42 (s_aload 0 43))) (cw_node 46 (cw_leaf 43 (s_get 9 36 46)) (cw_leaf 46 (s_icmp (fun x y => decide (y ≤ x)) 61 49))))) (cw_node 57 (cw_node 53 (cw_node 50 (cw_leaf 49 (s_aload 0 50)) (cw_leaf 50 (s_get 9 35 53))) (cw_node 54 (cw_leaf 53 (s_aload 0 54)) (cw_leaf 54 (s_get 9 37 57)))) (cw_node 61 (cw_node 58 (cw_leaf 57 (s_iald 58)) (cw_leaf 58 (s_goto 62))) (cw_node 62 (cw_leaf 61 (s_iconst (-1) 62)) (cw_leaf 62 (s_iret))))))
def c_Mo_tells : Nat → Option cw_S := cw_node 42 (cw_node 24 (cw_node 12 (cw_node 7 (cw_node 1 (cw_leaf 0 (s_aload 0 1)) (cw_node 4 (cw_leaf 1 (s_get 9 39 4)) (cw_leaf 4 (s_if (fun x => decide (¬ x = 0)) 15 7)))) (cw_node 8 (cw_leaf 7 (s_aload 0 8)) (cw_node 9 (cw_leaf 8 (s_iload 1 9)) (cw_leaf 9 (s_put 9 42 0 12))))) (cw_node 19 (cw_node 15 (cw_leaf 12 (s_goto 80)) (cw_node 16 (cw_leaf 15 (s_aload 0 16)) (cw_leaf 16 (s_get 9 43 19)))) (cw_node 20 (cw_leaf 19 (s_aload 0 20)) (cw_node 23 (cw_leaf 20 (s_get 9 39 23)) (cw_leaf 23 (s_iconst 1 24)))))) (cw_node 34 (cw_node 29 (cw_node 25 (cw_leaf 24 (s_ibin (fun x y => x - y) 25)) (cw_node 26 (cw_leaf 25 (s_iald 26)) (cw_leaf 26 (s_if (fun x => decide (¬ x = 0)) 56 29)))) (cw_node 30 (cw_leaf 29 (s_aload 0 30)) (cw_node 33 (cw_leaf 30 (s_get 9 38 33)) (cw_leaf 33 (s_aload 0 34))))) (cw_node 39 (cw_node 37 (cw_leaf 34 (s_get 9 39 37)) (cw_node 38 (cw_leaf 37 (s_iconst 1 38)) (cw_leaf 38 (s_ibin (fun x y => x - y) 39)))) (cw_node 40 (cw_leaf 39 (s_iload 1 40)) (cw_node 41 (cw_leaf 40 (s_iast 41)) (cw_leaf 41 (s_aload 0 42))))))) (cw_node 64 (cw_node 52 (cw_node 49 (cw_node 45 (cw_leaf 42 (s_get 9 43 45)) (cw_node 46 (cw_leaf 45 (s_aload 0 46)) (cw_leaf 46 (s_get 9 39 49)))) (cw_node 50 (cw_leaf 49 (s_iconst 1 50)) (cw_node 51 (cw_leaf 50 (s_ibin (fun x y => x - y) 51)) (cw_leaf 51 (s_iconst 1 52))))) (cw_node 57 (cw_node 53 (cw_leaf 52 (s_iast 53)) (cw_node 56 (cw_leaf 53 (s_goto 80)) (cw_leaf 56 (s_aload 0 57)))) (cw_node 60 (cw_leaf 57 (s_get 9 44 60)) (cw_node 61 (cw_leaf 60 (s_aload 0 61)) (cw_leaf 61 (s_get 9 39 64)))))) (cw_node 72 (cw_node 67 (cw_node 65 (cw_leaf 64 (s_iconst 1 65)) (cw_node 66 (cw_leaf 65 (s_ibin (fun x y => x - y) 66)) (cw_leaf 66 (s_iload 1 67)))) (cw_node 68 (cw_leaf 67 (s_iast 68)) (cw_node 69 (cw_leaf 68 (s_aload 0 69)) (cw_leaf 69 (s_get 9 43 72))))) (cw_node 77 (cw_node 73 (cw_leaf 72 (s_aload 0 73)) (cw_node 76 (cw_leaf 73 (s_get 9 39 76)) (cw_leaf 76 (s_iconst 1 77)))) (cw_node 79 (cw_node 78 (cw_leaf 77 (s_ibin (fun x y => x - y) 78)) (cw_leaf 78 (s_iconst 2 79))) (cw_node 80 (cw_leaf 79 (s_iast 80)) (cw_leaf 80 (s_vret)))))))
def c_Mo_reads : Nat → Option cw_S := cw_node 103 (cw_node 52 (cw_node 24 (cw_node 13 (cw_node 5 (cw_node 1 (cw_leaf 0 (s_aload 0 1)) (cw_node 4 (cw_leaf 1 (s_callV 9 m_Mo_here 0 4)) (cw_leaf 4 (s_istore 2 5)))) (cw_node 9 (cw_node 6 (cw_leaf 5 (s_aload 0 6)) (cw_leaf 6 (s_get 9 39 9))) (cw_node 12 (cw_leaf 9 (s_if (fun x => decide (x = 0)) 27 12)) (cw_leaf 12 (s_aload 0 13))))) (cw_node 20 (cw_node 16 (cw_leaf 13 (s_get 9 43 16)) (cw_node 17 (cw_leaf 16 (s_aload 0 17)) (cw_leaf 17 (s_get 9 39 20)))) (cw_node 22 (cw_node 21 (cw_leaf 20 (s_iconst 1 21)) (cw_leaf 21 (s_ibin (fun x y => x - y) 22))) (cw_node 23 (cw_leaf 22 (s_iald 23)) (cw_leaf 23 (s_iconst 2 24)))))) (cw_node 35 (cw_node 31 (cw_node 27 (cw_leaf 24 (s_icmp (fun x y => decide (y ≤ x)) 31 27)) (cw_node 28 (cw_leaf 27 (s_iconst 1 28)) (cw_leaf 28 (s_goto 32)))) (cw_node 33 (cw_node 32 (cw_leaf 31 (s_iconst 0 32)) (cw_leaf 32 (s_istore 3 33))) (cw_node 34 (cw_leaf 33 (s_aload 0 34)) (cw_leaf 34 (s_aload 0 35))))) (cw_node 44 (cw_node 41 (cw_node 38 (cw_leaf 35 (s_get 9 37 38)) (cw_leaf 38 (s_put 9 40 0 41))) (cw_node 42 (cw_leaf 41 (s_iload 2 42)) (cw_leaf 42 (s_iconst 40 44)))) (cw_node 48 (cw_node 47 (cw_leaf 44 (s_icmp (fun x y => decide (¬ x = y)) 74 47)) (cw_leaf 47 (s_iload 3 48))) (cw_node 51 (cw_leaf 48 (s_if (fun x => decide (x = 0)) 74 51)) (cw_leaf 51 (s_aload 0 52))))))) (cw_node 78 (cw_node 63 (cw_node 59 (cw_node 55 (cw_leaf 52 (s_get 9 43 55)) (cw_node 56 (cw_leaf 55 (s_aload 0 56)) (cw_leaf 56 (s_get 9 39 59)))) (cw_node 61 (cw_node 60 (cw_leaf 59 (s_iconst 0 60)) (cw_leaf 60 (s_iast 61))) (cw_node 62 (cw_leaf 61 (s_aload 0 62)) (cw_leaf 62 (s_dup 63))))) (cw_node 68 (cw_node 66 (cw_leaf 63 (s_get 9 39 66)) (cw_node 67 (cw_leaf 66 (s_iconst 1 67)) (cw_leaf 67 (s_ibin (fun x y => x + y) 68)))) (cw_node 74 (cw_node 71 (cw_leaf 68 (s_put 9 39 0 71)) (cw_leaf 71 (s_goto 196))) (cw_node 75 (cw_leaf 74 (s_iload 3 75)) (cw_leaf 75 (s_if (fun x => decide (x = 0)) 128 78)))))) (cw_node 88 (cw_node 82 (cw_node 79 (cw_leaf 78 (s_iload 2 79)) (cw_node 81 (cw_leaf 79 (s_iconst 48 81)) (cw_leaf 81 (s_ibin (fun x y => x - y) 82)))) (cw_node 84 (cw_node 83 (cw_leaf 82 (s_iconst 0 83)) (cw_leaf 83 (s_aload 0 84))) (cw_node 87 (cw_leaf 84 (s_get 9 1 87)) (cw_leaf 87 (s_iconst 1 88))))) (cw_node 96 (cw_node 92 (cw_node 89 (cw_leaf 88 (s_ibin (fun x y => x - y) 89)) (cw_leaf 89 (s_callS m_Mo_in 3 92))) (cw_node 95 (cw_leaf 92 (s_if (fun x => decide (x = 0)) 128 95)) (cw_leaf 95 (s_aload 0 96)))) (cw_node 100 (cw_node 99 (cw_leaf 96 (s_get 9 41 99)) (cw_leaf 99 (s_iload 2 100))) (cw_node 102 (cw_leaf 100 (s_iconst 48 102)) (cw_leaf 102 (s_ibin (fun x y => x - y) 103)))))))) (cw_node 153 (cw_node 125 (cw_node 115 (cw_node 108 (cw_node 104 (cw_leaf 103 (s_iald 104)) (cw_node 107 (cw_leaf 104 (s_if (fun x => decide (¬ x = 0)) 128 107)) (cw_leaf 107 (s_aload 0 108)))) (cw_node 112 (cw_node 111 (cw_leaf 108 (s_get 9 41 111)) (cw_leaf 111 (s_iload 2 112))) (cw_node 114 (cw_leaf 112 (s_iconst 48 114)) (cw_leaf 114 (s_ibin (fun x y => x - y) 115))))) (cw_node 118 (cw_node 116 (cw_leaf 115 (s_iconst 1 116)) (cw_node 117 (cw_leaf 116 (s_iast 117)) (cw_leaf 117 (s_aload 0 118)))) (cw_node 121 (cw_node 119 (cw_leaf 118 (s_iload 2 119)) (cw_leaf 119 (s_iconst 48 121))) (cw_node 122 (cw_leaf 121 (s_ibin (fun x y => x - y) 122)) (cw_leaf 122 (s_callV 9 m_Mo_tells 1 125)))))) (cw_node 139 (cw_node 131 (cw_node 128 (cw_leaf 125 (s_goto 196)) (cw_node 129 (cw_leaf 128 (s_iload 2 129)) (cw_leaf 129 (s_iconst 41 131)))) (cw_node 135 (cw_node 134 (cw_leaf 131 (s_icmp (fun x y => decide (¬ x = y)) 194 134)) (cw_leaf 134 (s_iload 3 135))) (cw_node 138 (cw_leaf 135 (s_if (fun x => decide (¬ x = 0)) 194 138)) (cw_leaf 138 (s_aload 0 139))))) (cw_node 145 (cw_node 143 (cw_node 140 (cw_leaf 139 (s_dup 140)) (cw_leaf 140 (s_get 9 39 143))) (cw_node 144 (cw_leaf 143 (s_iconst 1 144)) (cw_leaf 144 (s_ibin (fun x y => x - y) 145)))) (cw_node 149 (cw_node 148 (cw_leaf 145 (s_put 9 39 0 148)) (cw_leaf 148 (s_aload 0 149))) (cw_node 152 (cw_leaf 149 (s_get 9 38 152)) (cw_leaf 152 (s_aload 0 153))))))) (cw_node 180 (cw_node 167 (cw_node 159 (cw_node 156 (cw_leaf 153 (s_get 9 39 156)) (cw_node 157 (cw_leaf 156 (s_iald 157)) (cw_leaf 157 (s_istore 4 159)))) (cw_node 163 (cw_node 160 (cw_leaf 159 (s_aload 0 160)) (cw_leaf 160 (s_get 9 44 163))) (cw_node 164 (cw_leaf 163 (s_aload 0 164)) (cw_leaf 164 (s_get 9 39 167))))) (cw_node 172 (cw_node 170 (cw_node 168 (cw_leaf 167 (s_iald 168)) (cw_leaf 168 (s_istore 5 170))) (cw_node 171 (cw_leaf 170 (s_aload 0 171)) (cw_leaf 171 (s_iload 1 172)))) (cw_node 176 (cw_node 175 (cw_leaf 172 (s_if (fun x => decide (x = 0)) 186 175)) (cw_leaf 175 (s_aload 0 176))) (cw_node 178 (cw_leaf 176 (s_iload 4 178)) (cw_leaf 178 (s_iload 5 180)))))) (cw_node 196 (cw_node 188 (cw_node 183 (cw_leaf 180 (s_callV 9 m_Mo_lays 2 183)) (cw_node 186 (cw_leaf 183 (s_goto 188)) (cw_leaf 186 (s_iconst 8 188)))) (cw_node 194 (cw_node 191 (cw_leaf 188 (s_callV 9 m_Mo_tells 1 191)) (cw_leaf 191 (s_goto 196))) (cw_node 195 (cw_leaf 194 (s_iconst 0 195)) (cw_leaf 195 (s_zret))))) (cw_node 202 (cw_node 198 (cw_node 197 (cw_leaf 196 (s_aload 0 197)) (cw_leaf 197 (s_dup 198))) (cw_node 201 (cw_leaf 198 (s_get 9 37 201)) (cw_leaf 201 (s_iconst 1 202)))) (cw_node 206 (cw_node 203 (cw_leaf 202 (s_ibin (fun x y => x + y) 203)) (cw_leaf 203 (s_put 9 37 0 206))) (cw_node 207 (cw_leaf 206 (s_iconst 1 207)) (cw_leaf 207 (s_zret))))))))
def c_Mo_readsAll : Nat → Option cw_S := cw_node 39 (cw_node 18 (cw_node 10 (cw_node 5 (cw_node 1 (cw_leaf 0 (s_aload 0 1)) (cw_node 2 (cw_leaf 1 (s_iconst 0 2)) (cw_leaf 2 (s_put 9 37 0 5)))) (cw_node 6 (cw_leaf 5 (s_aload 0 6)) (cw_node 7 (cw_leaf 6 (s_iconst 0 7)) (cw_leaf 7 (s_put 9 39 0 10))))) (cw_node 15 (cw_node 11 (cw_leaf 10 (s_aload 0 11)) (cw_node 12 (cw_leaf 11 (s_iconst (-1) 12)) (cw_leaf 12 (s_put 9 42 0 15)))) (cw_node 16 (cw_leaf 15 (s_iconst 0 16)) (cw_node 17 (cw_leaf 16 (s_istore 2 17)) (cw_leaf 17 (s_iload 2 18)))))) (cw_node 29 (cw_node 24 (cw_node 20 (cw_leaf 18 (s_iconst 8 20)) (cw_node 23 (cw_leaf 20 (s_icmp (fun x y => decide (y ≤ x)) 36 23)) (cw_leaf 23 (s_aload 0 24)))) (cw_node 27 (cw_leaf 24 (s_get 9 41 27)) (cw_node 28 (cw_leaf 27 (s_iload 2 28)) (cw_leaf 28 (s_iconst 0 29))))) (cw_node 36 (cw_node 30 (cw_leaf 29 (s_iast 30)) (cw_node 33 (cw_leaf 30 (s_iinc 2 1 33)) (cw_leaf 33 (s_goto 17)))) (cw_node 37 (cw_leaf 36 (s_iconst 1 37)) (cw_node 38 (cw_leaf 37 (s_istore 2 38)) (cw_leaf 38 (s_iload 2 39))))))) (cw_node 63 (cw_node 51 (cw_node 46 (cw_node 42 (cw_leaf 39 (s_if (fun x => decide (x = 0)) 59 42)) (cw_node 43 (cw_leaf 42 (s_aload 0 43)) (cw_leaf 43 (s_get 9 42 46)))) (cw_node 47 (cw_leaf 46 (s_iconst (-1) 47)) (cw_node 50 (cw_leaf 47 (s_icmp (fun x y => decide (¬ x = y)) 59 50)) (cw_leaf 50 (s_aload 0 51))))) (cw_node 56 (cw_node 52 (cw_leaf 51 (s_iload 1 52)) (cw_node 55 (cw_leaf 52 (s_callV 9 m_Mo_reads 1 55)) (cw_leaf 55 (s_istore 2 56)))) (cw_node 59 (cw_leaf 56 (s_goto 38)) (cw_node 60 (cw_leaf 59 (s_iload 2 60)) (cw_leaf 60 (s_if (fun x => decide (x = 0)) 81 63)))))) (cw_node 73 (cw_node 68 (cw_node 64 (cw_leaf 63 (s_aload 0 64)) (cw_node 67 (cw_leaf 64 (s_callV 9 m_Mo_here 0 67)) (cw_leaf 67 (s_iconst (-1) 68)))) (cw_node 71 (cw_leaf 68 (s_icmp (fun x y => decide (x = y)) 81 71)) (cw_node 72 (cw_leaf 71 (s_aload 0 72)) (cw_leaf 72 (s_aload 0 73))))) (cw_node 80 (cw_node 76 (cw_leaf 73 (s_get 9 37 76)) (cw_node 79 (cw_leaf 76 (s_put 9 40 0 79)) (cw_leaf 79 (s_iconst 0 80)))) (cw_node 81 (cw_leaf 80 (s_istore 2 81)) (cw_node 82 (cw_leaf 81 (s_iload 2 82)) (cw_leaf 82 (s_zret)))))))
def c_Mo_builds : Nat → Option cw_S := cw_node 31 (cw_node 16 (cw_node 8 (cw_node 2 (cw_node 1 (cw_leaf 0 (s_aload 0 1)) (cw_leaf 1 (s_iconst 0 2))) (cw_node 5 (cw_leaf 2 (s_callV 9 m_Mo_readsAll 1 5)) (cw_leaf 5 (s_if (fun x => decide (¬ x = 0)) 16 8)))) (cw_node 11 (cw_node 10 (cw_leaf 8 (s_iconst (-10) 10)) (cw_leaf 10 (s_aload 0 11))) (cw_node 14 (cw_leaf 11 (s_get 9 40 14)) (cw_node 15 (cw_leaf 14 (s_ibin (fun x y => x - y) 15)) (cw_leaf 15 (s_iret)))))) (cw_node 24 (cw_node 20 (cw_node 17 (cw_leaf 16 (s_aload 0 17)) (cw_leaf 17 (s_callV 9 m_Mo_leavesState 0 20))) (cw_node 21 (cw_leaf 20 (s_aload 0 21)) (cw_leaf 21 (s_callV 9 m_Mo_noJoints 0 24)))) (cw_node 26 (cw_node 25 (cw_leaf 24 (s_istore 1 25)) (cw_leaf 25 (s_aload 0 26))) (cw_node 27 (cw_leaf 26 (s_iconst 1 27)) (cw_node 30 (cw_leaf 27 (s_callV 9 m_Mo_readsAll 1 30)) (cw_leaf 30 (s_pop 31))))))) (cw_node 44 (cw_node 36 (cw_node 33 (cw_node 32 (cw_leaf 31 (s_iconst 0 32)) (cw_leaf 32 (s_istore 2 33))) (cw_node 35 (cw_leaf 33 (s_iconst 8 35)) (cw_leaf 35 (s_istore 3 36)))) (cw_node 39 (cw_node 37 (cw_leaf 36 (s_iload 3 37)) (cw_leaf 37 (s_iconst 15 39))) (cw_node 42 (cw_leaf 39 (s_icmp (fun x y => decide (y ≤ x)) 57 42)) (cw_node 43 (cw_leaf 42 (s_iload 2 43)) (cw_leaf 43 (s_aload 0 44)))))) (cw_node 50 (cw_node 48 (cw_node 47 (cw_leaf 44 (s_get 9 8 47)) (cw_leaf 47 (s_iload 3 48))) (cw_node 49 (cw_leaf 48 (s_iald 49)) (cw_leaf 49 (s_ibin (fun x y => x + y) 50)))) (cw_node 54 (cw_node 51 (cw_leaf 50 (s_istore 2 51)) (cw_leaf 51 (s_iinc 3 1 54))) (cw_node 57 (cw_leaf 54 (s_goto 36)) (cw_node 58 (cw_leaf 57 (s_iload 2 58)) (cw_leaf 58 (s_iret)))))))
def c_Mo_byteOf : Nat → Option cw_S := cw_node 76 (cw_node 34 (cw_node 13 (cw_node 5 (cw_node 2 (cw_node 1 (cw_leaf 0 (s_iload 1 1)) (cw_leaf 1 (s_istore 3 2))) (cw_node 3 (cw_leaf 2 (s_iload 1 3)) (cw_leaf 3 (s_istore 4 5)))) (cw_node 8 (cw_node 6 (cw_leaf 5 (s_iload 2 6)) (cw_leaf 6 (s_istore 5 8))) (cw_node 9 (cw_leaf 8 (s_iconst 1 9)) (cw_node 11 (cw_leaf 9 (s_istore 6 11)) (cw_leaf 11 (s_iload 5 13)))))) (cw_node 23 (cw_node 17 (cw_node 16 (cw_leaf 13 (s_if (fun x => decide (x < 0)) 140 16)) (cw_leaf 16 (s_iload 3 17))) (cw_node 19 (cw_leaf 17 (s_iconst 8 19)) (cw_node 22 (cw_leaf 19 (s_icmp (fun x y => decide (y ≤ x)) 26 22)) (cw_leaf 22 (s_iconst 1 23))))) (cw_node 27 (cw_node 26 (cw_leaf 23 (s_goto 27)) (cw_leaf 26 (s_iconst 0 27))) (cw_node 29 (cw_leaf 27 (s_istore 7 29)) (cw_node 31 (cw_leaf 29 (s_iload 5 31)) (cw_leaf 31 (s_if (fun x => decide (¬ x = 0)) 59 34))))))) (cw_node 56 (cw_node 43 (cw_node 39 (cw_node 36 (cw_leaf 34 (s_iload 7 36)) (cw_leaf 36 (s_if (fun x => decide (x = 0)) 46 39))) (cw_node 41 (cw_leaf 39 (s_iconst 48 41)) (cw_node 42 (cw_leaf 41 (s_iload 3 42)) (cw_leaf 42 (s_ibin (fun x y => x + y) 43))))) (cw_node 48 (cw_node 46 (cw_leaf 43 (s_goto 58)) (cw_leaf 46 (s_iload 6 48))) (cw_node 51 (cw_leaf 48 (s_if (fun x => decide (x = 0)) 56 51)) (cw_node 53 (cw_leaf 51 (s_iconst 40 53)) (cw_leaf 53 (s_goto 58)))))) (cw_node 67 (cw_node 59 (cw_node 58 (cw_leaf 56 (s_iconst 41 58)) (cw_leaf 58 (s_iret))) (cw_node 62 (cw_leaf 59 (s_iinc 5 (-1) 62)) (cw_node 64 (cw_leaf 62 (s_iload 6 64)) (cw_leaf 64 (s_if (fun x => decide (x = 0)) 85 67))))) (cw_node 72 (cw_node 69 (cw_leaf 67 (s_iload 7 69)) (cw_leaf 69 (s_if (fun x => decide (¬ x = 0)) 85 72))) (cw_node 73 (cw_leaf 72 (s_iload 3 73)) (cw_node 75 (cw_leaf 73 (s_istore 4 75)) (cw_leaf 75 (s_aload 0 76)))))))) (cw_node 107 (cw_node 91 (cw_node 82 (cw_node 80 (cw_node 79 (cw_leaf 76 (s_get 9 9 79)) (cw_leaf 79 (s_iload 3 80))) (cw_node 81 (cw_leaf 80 (s_iald 81)) (cw_leaf 81 (s_istore 3 82)))) (cw_node 86 (cw_node 85 (cw_leaf 82 (s_goto 137)) (cw_leaf 85 (s_iload 3 86))) (cw_node 87 (cw_leaf 86 (s_iload 1 87)) (cw_node 90 (cw_leaf 87 (s_icmp (fun x y => decide (¬ x = y)) 92 90)) (cw_leaf 90 (s_iconst (-1) 91)))))) (cw_node 99 (cw_node 93 (cw_node 92 (cw_leaf 91 (s_iret)) (cw_leaf 92 (s_iload 3 93))) (cw_node 95 (cw_leaf 93 (s_istore 4 95)) (cw_node 96 (cw_leaf 95 (s_aload 0 96)) (cw_leaf 96 (s_get 9 11 99))))) (cw_node 102 (cw_node 101 (cw_leaf 99 (s_iload 4 101)) (cw_leaf 101 (s_iald 102))) (cw_node 103 (cw_leaf 102 (s_istore 3 103)) (cw_node 104 (cw_leaf 103 (s_aload 0 104)) (cw_leaf 104 (s_get 9 9 107))))))) (cw_node 126 (cw_node 115 (cw_node 109 (cw_node 108 (cw_leaf 107 (s_iload 3 108)) (cw_leaf 108 (s_iald 109))) (cw_node 111 (cw_leaf 109 (s_iload 4 111)) (cw_node 114 (cw_leaf 111 (s_icmp (fun x y => decide (¬ x = y)) 118 114)) (cw_leaf 114 (s_iconst 1 115))))) (cw_node 119 (cw_node 118 (cw_leaf 115 (s_goto 119)) (cw_leaf 118 (s_iconst 0 119))) (cw_node 121 (cw_leaf 119 (s_istore 6 121)) (cw_node 123 (cw_leaf 121 (s_iload 6 123)) (cw_leaf 123 (s_if (fun x => decide (x = 0)) 135 126)))))) (cw_node 135 (cw_node 130 (cw_node 127 (cw_leaf 126 (s_aload 0 127)) (cw_leaf 127 (s_get 9 10 130))) (cw_node 131 (cw_leaf 130 (s_iload 3 131)) (cw_node 132 (cw_leaf 131 (s_iald 132)) (cw_leaf 132 (s_goto 136))))) (cw_node 137 (cw_node 136 (cw_leaf 135 (s_iload 3 136)) (cw_leaf 136 (s_istore 3 137))) (cw_node 140 (cw_leaf 137 (s_goto 11)) (cw_node 141 (cw_leaf 140 (s_iconst (-1) 141)) (cw_leaf 141 (s_iret))))))))
def c_Mo_shown : Nat → Option cw_S := cw_node 13 (cw_node 5 (cw_node 1 (cw_leaf 0 (s_aload 0 1)) (cw_node 2 (cw_leaf 1 (s_iload 1 2)) (cw_leaf 2 (s_callV 9 m_Mo_isNode 1 5)))) (cw_node 9 (cw_node 8 (cw_leaf 5 (s_if (fun x => decide (x = 0)) 21 8)) (cw_leaf 8 (s_iload 2 9))) (cw_node 12 (cw_leaf 9 (s_if (fun x => decide (x < 0)) 21 12)) (cw_leaf 12 (s_aload 0 13))))) (cw_node 18 (cw_node 14 (cw_leaf 13 (s_iload 1 14)) (cw_node 15 (cw_leaf 14 (s_iload 2 15)) (cw_leaf 15 (s_callV 9 m_Mo_byteOf 2 18)))) (cw_node 22 (cw_node 21 (cw_leaf 18 (s_goto 25)) (cw_leaf 21 (s_aload 0 22))) (cw_node 25 (cw_leaf 22 (s_callV 9 m_Mo_bad 0 25)) (cw_leaf 25 (s_iret)))))
def c_Mo_toldBy : Nat → Option cw_S := cw_node 70 (cw_node 59 (cw_node 53 (cw_node 1 (cw_leaf 0 (s_iload 1 1)) (cw_node 52 (cw_leaf 1 (s_table 0 [52, 52, 52, 59, 64, 69, 74, 79, 84] 89)) (cw_leaf 52 (s_aload 0 53)))) (cw_node 57 (cw_node 56 (cw_leaf 53 (s_get 9 0 56)) (cw_leaf 56 (s_iload 1 57))) (cw_node 58 (cw_leaf 57 (s_iald 58)) (cw_leaf 58 (s_iret))))) (cw_node 64 (cw_node 60 (cw_leaf 59 (s_aload 0 60)) (cw_node 63 (cw_leaf 60 (s_get 9 1 63)) (cw_leaf 63 (s_iret)))) (cw_node 68 (cw_node 65 (cw_leaf 64 (s_aload 0 65)) (cw_leaf 65 (s_callV 9 m_Mo_jointMany 0 68))) (cw_node 69 (cw_leaf 68 (s_iret)) (cw_leaf 69 (s_aload 0 70)))))) (cw_node 83 (cw_node 75 (cw_node 73 (cw_leaf 70 (s_get 9 3 73)) (cw_node 74 (cw_leaf 73 (s_iret)) (cw_leaf 74 (s_aload 0 75)))) (cw_node 79 (cw_node 78 (cw_leaf 75 (s_get 9 4 78)) (cw_leaf 78 (s_iret))) (cw_node 80 (cw_leaf 79 (s_aload 0 80)) (cw_leaf 80 (s_get 9 5 83))))) (cw_node 88 (cw_node 84 (cw_leaf 83 (s_iret)) (cw_node 85 (cw_leaf 84 (s_aload 0 85)) (cw_leaf 85 (s_get 9 36 88)))) (cw_node 90 (cw_node 89 (cw_leaf 88 (s_iret)) (cw_leaf 89 (s_aload 0 90))) (cw_node 93 (cw_leaf 90 (s_get 9 13 93)) (cw_leaf 93 (s_iret))))))
def c_Mo_jointMany : Nat → Option cw_S := cw_node 13 (cw_node 5 (cw_node 2 (cw_node 1 (cw_leaf 0 (s_iconst 0 1)) (cw_leaf 1 (s_istore 1 2))) (cw_node 4 (cw_leaf 2 (s_iconst 8 4)) (cw_leaf 4 (s_istore 2 5)))) (cw_node 8 (cw_node 6 (cw_leaf 5 (s_iload 2 6)) (cw_leaf 6 (s_iconst 15 8))) (cw_node 11 (cw_leaf 8 (s_icmp (fun x y => decide (y ≤ x)) 26 11)) (cw_node 12 (cw_leaf 11 (s_iload 1 12)) (cw_leaf 12 (s_aload 0 13)))))) (cw_node 19 (cw_node 17 (cw_node 16 (cw_leaf 13 (s_get 9 8 16)) (cw_leaf 16 (s_iload 2 17))) (cw_node 18 (cw_leaf 17 (s_iald 18)) (cw_leaf 18 (s_ibin (fun x y => x + y) 19)))) (cw_node 23 (cw_node 20 (cw_leaf 19 (s_istore 1 20)) (cw_leaf 20 (s_iinc 2 1 23))) (cw_node 26 (cw_leaf 23 (s_goto 5)) (cw_node 27 (cw_leaf 26 (s_iload 1 27)) (cw_leaf 27 (s_iret))))))
def c_Mo_told : Nat → Option cw_S := cw_node 11 (cw_node 4 (cw_node 1 (cw_leaf 0 (s_iload 1 1)) (cw_node 2 (cw_leaf 1 (s_iconst 0 2)) (cw_leaf 2 (s_iconst 9 4)))) (cw_node 7 (cw_leaf 4 (s_callS m_Mo_in 3 7)) (cw_node 10 (cw_leaf 7 (s_if (fun x => decide (x = 0)) 18 10)) (cw_leaf 10 (s_aload 0 11))))) (cw_node 18 (cw_node 12 (cw_leaf 11 (s_iload 1 12)) (cw_node 15 (cw_leaf 12 (s_callV 9 m_Mo_toldBy 1 15)) (cw_leaf 15 (s_goto 22)))) (cw_node 19 (cw_leaf 18 (s_aload 0 19)) (cw_node 22 (cw_leaf 19 (s_callV 9 m_Mo_bad 0 22)) (cw_leaf 22 (s_iret)))))
def c_Mo_digest : Nat → Option cw_S := cw_node 79 (cw_node 36 (cw_node 18 (cw_node 7 (cw_node 4 (cw_node 3 (cw_leaf 0 (s_lconst 1680 3)) (cw_leaf 3 (s_lstore 1 4))) (cw_node 5 (cw_leaf 4 (s_iconst 0 5)) (cw_node 6 (cw_leaf 5 (s_istore 3 6)) (cw_leaf 6 (s_iload 3 7))))) (cw_node 15 (cw_node 9 (cw_leaf 7 (s_iconst 10 9)) (cw_node 12 (cw_leaf 9 (s_icmp (fun x y => decide (y ≤ x)) 31 12)) (cw_leaf 12 (s_lconst 31 15)))) (cw_node 16 (cw_leaf 15 (s_lload 1 16)) (cw_node 17 (cw_leaf 16 (s_lbin (fun x y => x * y) 17)) (cw_leaf 17 (s_aload 0 18)))))) (cw_node 28 (cw_node 23 (cw_node 19 (cw_leaf 18 (s_iload 3 19)) (cw_node 22 (cw_leaf 19 (s_callV 9 m_Mo_toldBy 1 22)) (cw_leaf 22 (s_i2l 23)))) (cw_node 24 (cw_leaf 23 (s_lbin (fun x y => x + y) 24)) (cw_node 25 (cw_leaf 24 (s_lstore 1 25)) (cw_leaf 25 (s_iinc 3 1 28))))) (cw_node 33 (cw_node 31 (cw_leaf 28 (s_goto 6)) (cw_node 32 (cw_leaf 31 (s_iconst 0 32)) (cw_leaf 32 (s_istore 3 33)))) (cw_node 34 (cw_leaf 33 (s_iload 3 34)) (cw_node 35 (cw_leaf 34 (s_iconst 4 35)) (cw_leaf 35 (s_aload 0 36))))))) (cw_node 56 (cw_node 48 (cw_node 43 (cw_node 39 (cw_leaf 36 (s_get 9 1 39)) (cw_node 40 (cw_leaf 39 (s_ibin (fun x y => x * y) 40)) (cw_leaf 40 (s_icmp (fun x y => decide (y ≤ x)) 63 43)))) (cw_node 46 (cw_leaf 43 (s_lconst 31 46)) (cw_node 47 (cw_leaf 46 (s_lload 1 47)) (cw_leaf 47 (s_lbin (fun x y => x * y) 48))))) (cw_node 53 (cw_node 49 (cw_leaf 48 (s_aload 0 49)) (cw_node 52 (cw_leaf 49 (s_get 9 2 52)) (cw_leaf 52 (s_iload 3 53)))) (cw_node 54 (cw_leaf 53 (s_iald 54)) (cw_node 55 (cw_leaf 54 (s_i2l 55)) (cw_leaf 55 (s_lbin (fun x y => x + y) 56)))))) (cw_node 68 (cw_node 63 (cw_node 57 (cw_leaf 56 (s_lstore 1 57)) (cw_node 60 (cw_leaf 57 (s_iinc 3 1 60)) (cw_leaf 60 (s_goto 33)))) (cw_node 64 (cw_leaf 63 (s_aload 0 64)) (cw_node 67 (cw_leaf 64 (s_callV 9 m_Mo_tellsAll 0 67)) (cw_leaf 67 (s_iconst 0 68))))) (cw_node 72 (cw_node 69 (cw_leaf 68 (s_istore 3 69)) (cw_node 70 (cw_leaf 69 (s_iload 3 70)) (cw_leaf 70 (s_iconst 15 72)))) (cw_node 75 (cw_leaf 72 (s_icmp (fun x y => decide (y ≤ x)) 131 75)) (cw_node 76 (cw_leaf 75 (s_aload 0 76)) (cw_leaf 76 (s_get 9 8 79)))))))) (cw_node 117 (cw_node 95 (cw_node 89 (cw_node 82 (cw_node 80 (cw_leaf 79 (s_iload 3 80)) (cw_node 81 (cw_leaf 80 (s_iald 81)) (cw_leaf 81 (s_iconst 1 82)))) (cw_node 85 (cw_leaf 82 (s_icmp (fun x y => decide (¬ x = y)) 125 85)) (cw_node 88 (cw_leaf 85 (s_lconst 31 88)) (cw_leaf 88 (s_lload 1 89))))) (cw_node 92 (cw_node 90 (cw_leaf 89 (s_lbin (fun x y => x * y) 90)) (cw_node 91 (cw_leaf 90 (s_iload 3 91)) (cw_leaf 91 (s_i2l 92)))) (cw_node 93 (cw_leaf 92 (s_lbin (fun x y => x + y) 93)) (cw_node 94 (cw_leaf 93 (s_lstore 1 94)) (cw_leaf 94 (s_iconst 0 95)))))) (cw_node 108 (cw_node 101 (cw_node 97 (cw_leaf 95 (s_istore 4 97)) (cw_node 99 (cw_leaf 97 (s_iload 4 99)) (cw_leaf 99 (s_iconst 11 101)))) (cw_node 104 (cw_leaf 101 (s_icmp (fun x y => decide (y ≤ x)) 125 104)) (cw_node 107 (cw_leaf 104 (s_lconst 31 107)) (cw_leaf 107 (s_lload 1 108))))) (cw_node 111 (cw_node 109 (cw_leaf 108 (s_lbin (fun x y => x * y) 109)) (cw_node 110 (cw_leaf 109 (s_aload 0 110)) (cw_leaf 110 (s_iload 3 111)))) (cw_node 113 (cw_leaf 111 (s_iload 4 113)) (cw_node 116 (cw_leaf 113 (s_callV 9 m_Mo_about 2 116)) (cw_leaf 116 (s_i2l 117))))))) (cw_node 141 (cw_node 131 (cw_node 122 (cw_node 118 (cw_leaf 117 (s_lbin (fun x y => x + y) 118)) (cw_node 119 (cw_leaf 118 (s_lstore 1 119)) (cw_leaf 119 (s_iinc 4 1 122)))) (cw_node 125 (cw_leaf 122 (s_goto 97)) (cw_node 128 (cw_leaf 125 (s_iinc 3 1 128)) (cw_leaf 128 (s_goto 69))))) (cw_node 134 (cw_node 132 (cw_leaf 131 (s_iconst 0 132)) (cw_node 133 (cw_leaf 132 (s_istore 3 133)) (cw_leaf 133 (s_iload 3 134)))) (cw_node 135 (cw_leaf 134 (s_iconst 5 135)) (cw_node 138 (cw_leaf 135 (s_icmp (fun x y => decide (y ≤ x)) 157 138)) (cw_leaf 138 (s_lconst 31 141)))))) (cw_node 149 (cw_node 144 (cw_node 142 (cw_leaf 141 (s_lload 1 142)) (cw_node 143 (cw_leaf 142 (s_lbin (fun x y => x * y) 143)) (cw_leaf 143 (s_aload 0 144)))) (cw_node 145 (cw_leaf 144 (s_iload 3 145)) (cw_node 148 (cw_leaf 145 (s_callV 9 m_Mo_totalBy 1 148)) (cw_leaf 148 (s_i2l 149))))) (cw_node 154 (cw_node 150 (cw_leaf 149 (s_lbin (fun x y => x + y) 150)) (cw_node 151 (cw_leaf 150 (s_lstore 1 151)) (cw_leaf 151 (s_iinc 3 1 154)))) (cw_node 157 (cw_leaf 154 (s_goto 133)) (cw_node 158 (cw_leaf 157 (s_lload 1 158)) (cw_leaf 158 (s_lret))))))))
def cw_mleaf (k : Nat) (t : Nat → Option cw_S) (M pc : Nat) : Option cw_S := bif Nat.beq M k then t pc else none
def cw_mnode (k : Nat) (a b : Nat → Nat → Option cw_S) (M pc : Nat) : Option cw_S := bif Nat.ble k M then b M pc else a M pc
def cw_tb : Nat → Nat → Option cw_S := cw_mnode 97 (cw_mnode 48 (cw_mnode 24 (cw_mnode 12 (cw_mnode 6 (cw_mnode 3 (cw_mnode 1 (cw_mleaf 0 c_History_init) (cw_mnode 2 (cw_mleaf 1 c_History_save) (cw_mleaf 2 c_History_restore))) (cw_mnode 4 (cw_mleaf 3 c_Merge_init) (cw_mnode 5 (cw_mleaf 4 c_Merge_weigh) (cw_mleaf 5 c_Merge_gapBetween)))) (cw_mnode 9 (cw_mnode 7 (cw_mleaf 6 c_Merge_leadOf) (cw_mnode 8 (cw_mleaf 7 c_Merge_join) (cw_mleaf 8 c_Part_init))) (cw_mnode 10 (cw_mleaf 9 c_Part_setSink) (cw_mnode 11 (cw_mleaf 10 c_Part_capacity) (cw_mleaf 11 c_Places_init))))) (cw_mnode 18 (cw_mnode 15 (cw_mnode 13 (cw_mleaf 12 c_Places_embed) (cw_mnode 14 (cw_mleaf 13 c_Places_setTop) (cw_mleaf 14 c_Places_setChild))) (cw_mnode 16 (cw_mleaf 15 c_Places_setSpread) (cw_mnode 17 (cw_mleaf 16 c_Places_arrivalOf) (cw_mleaf 17 c_Places_delayOf)))) (cw_mnode 21 (cw_mnode 19 (cw_mleaf 18 c_Places_movedInto) (cw_mnode 20 (cw_mleaf 19 c_Search_init) (cw_mleaf 20 c_Search_bestGraft))) (cw_mnode 22 (cw_mleaf 21 c_Search_bestExchange) (cw_mnode 23 (cw_mleaf 22 c_Search_findLeast) (cw_mleaf 23 c_Search_growTrees)))))) (cw_mnode 36 (cw_mnode 30 (cw_mnode 27 (cw_mnode 25 (cw_mleaf 24 c_Search_countTree) (cw_mnode 26 (cw_mleaf 25 c_Text_init) (cw_mleaf 26 c_Text_append))) (cw_mnode 28 (cw_mleaf 27 c_Text_parse) (cw_mnode 29 (cw_mleaf 28 c_Text_accepts) (cw_mleaf 29 c_Text_opens)))) (cw_mnode 33 (cw_mnode 31 (cw_mleaf 30 c_Text_closes) (cw_mnode 32 (cw_mleaf 31 c_Text_takesSink) (cw_mleaf 32 c_Text_wantsPart))) (cw_mnode 34 (cw_mleaf 33 c_Text_addPart) (cw_mnode 35 (cw_mleaf 34 c_Tree_init) (cw_mleaf 35 c_Tree_copyFrom))))) (cw_mnode 42 (cw_mnode 39 (cw_mnode 37 (cw_mleaf 36 c_Tree_hasSink) (cw_mnode 38 (cw_mleaf 37 c_Tree_hasNode) (cw_mleaf 38 c_Tree_isJoint))) (cw_mnode 40 (cw_mleaf 39 c_Tree_isTop) (cw_mnode 41 (cw_mleaf 40 c_Tree_leftOf) (cw_mleaf 41 c_Tree_rightOf)))) (cw_mnode 45 (cw_mnode 43 (cw_mleaf 42 c_Tree_parentOf) (cw_mnode 44 (cw_mleaf 43 c_Tree_jointCount) (cw_mleaf 44 c_Tree_sinkAt))) (cw_mnode 46 (cw_mleaf 45 c_Tree_sinkValue) (cw_mnode 47 (cw_mleaf 46 c_Tree_addSink) (cw_mleaf 47 c_Tree_moveSink))))))) (cw_mnode 72 (cw_mnode 60 (cw_mnode 54 (cw_mnode 51 (cw_mnode 49 (cw_mleaf 48 c_Tree_touch) (cw_mnode 50 (cw_mleaf 49 c_Tree_touchedBefore) (cw_mleaf 50 c_Tree_removeJoints))) (cw_mnode 52 (cw_mleaf 51 c_Tree_freeJoint) (cw_mnode 53 (cw_mleaf 52 c_Tree_addJoint) (cw_mleaf 53 c_Tree_replaceChild)))) (cw_mnode 57 (cw_mnode 55 (cw_mleaf 54 c_Tree_isWithin) (cw_mnode 56 (cw_mleaf 55 c_Tree_canGraft) (cw_mleaf 56 c_Tree_graft))) (cw_mnode 58 (cw_mleaf 57 c_Tree_cut) (cw_mnode 59 (cw_mleaf 58 c_Tree_canExchange) (cw_mleaf 59 c_Tree_exchange))))) (cw_mnode 66 (cw_mnode 63 (cw_mnode 61 (cw_mleaf 60 c_Wires_init) (cw_mnode 62 (cw_mleaf 61 c_Wires_part) (cw_mleaf 62 c_Wires_measure))) (cw_mnode 64 (cw_mleaf 63 c_Wires_listDownward) (cw_mnode 65 (cw_mleaf 64 c_Wires_list) (cw_mleaf 65 c_Wires_nearestPair)))) (cw_mnode 69 (cw_mnode 67 (cw_mleaf 66 c_CW_init) (cw_mnode 68 (cw_mleaf 67 c_CW_sink) (cw_mleaf 68 c_CW_moves))) (cw_mnode 70 (cw_mleaf 69 c_CW_sets) (cw_mnode 71 (cw_mleaf 70 c_CW_skew) (cw_mleaf 71 c_CW_source)))))) (cw_mnode 84 (cw_mnode 78 (cw_mnode 75 (cw_mnode 73 (cw_mleaf 72 c_CW_end) (cw_mnode 74 (cw_mleaf 73 c_CW_touched) (cw_mleaf 74 c_CW_at))) (cw_mnode 76 (cw_mleaf 75 c_CW_joins) (cw_mnode 77 (cw_mleaf 76 c_CW_pairs) (cw_mleaf 77 c_CW_frees)))) (cw_mnode 81 (cw_mnode 79 (cw_mleaf 78 c_CW_cuts) (cw_mnode 80 (cw_mleaf 79 c_CW_grafts) (cw_mleaf 80 c_CW_exchanges))) (cw_mnode 82 (cw_mleaf 81 c_CW_betters) (cw_mnode 83 (cw_mleaf 82 c_CW_node) (cw_mleaf 83 c_CW_would))))) (cw_mnode 90 (cw_mnode 87 (cw_mnode 85 (cw_mleaf 84 c_CW_nearest) (cw_mnode 86 (cw_mleaf 85 c_CW_tops) (cw_mleaf 86 c_CW_least))) (cw_mnode 88 (cw_mleaf 87 c_CW_place) (cw_mnode 89 (cw_mleaf 88 c_CW_arrival) (cw_mleaf 89 c_CW_slow)))) (cw_mnode 93 (cw_mnode 91 (cw_mleaf 90 c_CW_total) (cw_mnode 92 (cw_mleaf 91 c_CW_type) (cw_mleaf 92 c_CW_clear))) (cw_mnode 95 (cw_mnode 94 (cw_mleaf 93 c_CW_builds) (cw_mleaf 94 c_CW_shown)) (cw_mnode 96 (cw_mleaf 95 c_CW_back) (cw_mleaf 96 c_CW_told)))))))) (cw_mnode 146 (cw_mnode 121 (cw_mnode 109 (cw_mnode 103 (cw_mnode 100 (cw_mnode 98 (cw_mleaf 97 c_CW_digest) (cw_mnode 99 (cw_mleaf 98 c_CW_refuse) (cw_mleaf 99 c_CW_refresh))) (cw_mnode 101 (cw_mleaf 100 c_CW_exchangeAndCompare) (cw_mnode 102 (cw_mleaf 101 c_CW_nodeValue) (cw_mleaf 102 c_CW_totalValue)))) (cw_mnode 106 (cw_mnode 104 (cw_mleaf 103 c_CW_toldValue) (cw_mnode 105 (cw_mleaf 104 c_CW_shownByte) (cw_mleaf 105 c_CW_shownLength))) (cw_mnode 107 (cw_mleaf 106 c_CW_isOnGrid) (cw_mnode 108 (cw_mleaf 107 c_CW_isSetting) (cw_mleaf 108 c_CW_gridDistance))))) (cw_mnode 115 (cw_mnode 112 (cw_mnode 110 (cw_mleaf 109 c_CW_distance) (cw_mnode 111 (cw_mleaf 110 c_Mo_init) (cw_mleaf 111 c_Mo_bad))) (cw_mnode 113 (cw_mleaf 112 c_Mo_no) (cw_mnode 114 (cw_mleaf 113 c_Mo_full) (cw_mleaf 114 c_Mo_in)))) (cw_mnode 118 (cw_mnode 116 (cw_mleaf 115 c_Mo_greater) (cw_mnode 117 (cw_mleaf 116 c_Mo_lesser) (cw_mleaf 117 c_Mo_size))) (cw_mnode 119 (cw_mleaf 118 c_Mo_isSink) (cw_mnode 120 (cw_mleaf 119 c_Mo_isNode) (cw_mleaf 120 c_Mo_isSpot)))))) (cw_mnode 133 (cw_mnode 127 (cw_mnode 124 (cw_mnode 122 (cw_mleaf 121 c_Mo_isTop) (cw_mnode 123 (cw_mleaf 122 c_Mo_topMany) (cw_mleaf 123 c_Mo_isWithin))) (cw_mnode 125 (cw_mleaf 124 c_Mo_replaces) (cw_mnode 126 (cw_mleaf 125 c_Mo_comes) (cw_mleaf 126 c_Mo_lays)))) (cw_mnode 130 (cw_mnode 128 (cw_mleaf 127 c_Mo_goes) (cw_mnode 129 (cw_mleaf 128 c_Mo_takesOff) (cw_mleaf 129 c_Mo_canExchange))) (cw_mnode 131 (cw_mleaf 130 c_Mo_swaps) (cw_mnode 132 (cw_mleaf 131 c_Mo_noJoints) (cw_mleaf 132 c_Mo_laysAside))))) (cw_mnode 139 (cw_mnode 136 (cw_mnode 134 (cw_mleaf 133 c_Mo_takesBack) (cw_mnode 135 (cw_mleaf 134 c_Mo_leavesState) (cw_mleaf 135 c_Mo_back))) (cw_mnode 137 (cw_mleaf 136 c_Mo_reckons) (cw_mnode 138 (cw_mleaf 137 c_Mo_tellsSink) (cw_mleaf 138 c_Mo_tellsJoint)))) (cw_mnode 142 (cw_mnode 140 (cw_mleaf 139 c_Mo_tellsAll) (cw_mnode 141 (cw_mleaf 140 c_Mo_costOfAll) (cw_mleaf 141 c_Mo_into))) (cw_mnode 144 (cw_mnode 143 (cw_mleaf 142 c_Mo_settles) (cw_mleaf 143 c_Mo_areLaid)) (cw_mnode 145 (cw_mleaf 144 c_Mo_trunk) (cw_mleaf 145 c_Mo_loop))))))) (cw_mnode 170 (cw_mnode 158 (cw_mnode 152 (cw_mnode 149 (cw_mnode 147 (cw_mleaf 146 c_Mo_arrives) (cw_mnode 148 (cw_mleaf 147 c_Mo_isAt) (cw_mleaf 148 c_Mo_touches))) (cw_mnode 150 (cw_mleaf 149 c_Mo_apart) (cw_mnode 151 (cw_mleaf 150 c_Mo_sink) (cw_mleaf 151 c_Mo_moves)))) (cw_mnode 155 (cw_mnode 153 (cw_mleaf 152 c_Mo_sets) (cw_mnode 154 (cw_mleaf 153 c_Mo_skew) (cw_mleaf 154 c_Mo_source))) (cw_mnode 156 (cw_mleaf 155 c_Mo_end) (cw_mnode 157 (cw_mleaf 156 c_Mo_touched) (cw_mleaf 157 c_Mo_at))))) (cw_mnode 164 (cw_mnode 161 (cw_mnode 159 (cw_mleaf 158 c_Mo_joins) (cw_mnode 160 (cw_mleaf 159 c_Mo_findsPair) (cw_mleaf 160 c_Mo_pairs))) (cw_mnode 162 (cw_mleaf 161 c_Mo_frees) (cw_mnode 163 (cw_mleaf 162 c_Mo_cuts) (cw_mleaf 163 c_Mo_bestFor)))) (cw_mnode 167 (cw_mnode 165 (cw_mleaf 164 c_Mo_grafts) (cw_mnode 166 (cw_mleaf 165 c_Mo_exchanges) (cw_mleaf 166 c_Mo_betters))) (cw_mnode 168 (cw_mleaf 167 c_Mo_about) (cw_mnode 169 (cw_mleaf 168 c_Mo_node) (cw_mleaf 169 c_Mo_would)))))) (cw_mnode 182 (cw_mnode 176 (cw_mnode 173 (cw_mnode 171 (cw_mleaf 170 c_Mo_nearest) (cw_mnode 172 (cw_mleaf 171 c_Mo_tops) (cw_mleaf 172 c_Mo_growsBy))) (cw_mnode 174 (cw_mleaf 173 c_Mo_least) (cw_mnode 175 (cw_mleaf 174 c_Mo_place) (cw_mleaf 175 c_Mo_arrival)))) (cw_mnode 179 (cw_mnode 177 (cw_mleaf 176 c_Mo_below) (cw_mnode 178 (cw_mleaf 177 c_Mo_slow) (cw_mleaf 178 c_Mo_loops))) (cw_mnode 180 (cw_mleaf 179 c_Mo_spread) (cw_mnode 181 (cw_mleaf 180 c_Mo_totalBy) (cw_mleaf 181 c_Mo_total))))) (cw_mnode 188 (cw_mnode 185 (cw_mnode 183 (cw_mleaf 182 c_Mo_type) (cw_mnode 184 (cw_mleaf 183 c_Mo_clear) (cw_mleaf 184 c_Mo_here))) (cw_mnode 186 (cw_mleaf 185 c_Mo_tells) (cw_mnode 187 (cw_mleaf 186 c_Mo_reads) (cw_mleaf 187 c_Mo_readsAll)))) (cw_mnode 191 (cw_mnode 189 (cw_mleaf 188 c_Mo_builds) (cw_mnode 190 (cw_mleaf 189 c_Mo_byteOf) (cw_mleaf 190 c_Mo_shown))) (cw_mnode 193 (cw_mnode 192 (cw_mleaf 191 c_Mo_toldBy) (cw_mleaf 192 c_Mo_jointMany)) (cw_mnode 194 (cw_mleaf 193 c_Mo_told) (cw_mleaf 194 c_Mo_digest))))))))
def cw_ctab : List (Nat × Nat × Nat) := [(0, 73, 784), (3, 0, 0), (8, 0, 0), (11, 5, 75), (19, 29, 298), (25, 5, 196), (34, 8, 85), (60, 19, 194), (66, 145, 1678), (110, 28, 1325)]
def cw_cM (M : Nat) : Nat := ((cw_ctab.lookup M).getD (0, 0)).1
def cw_sM (M : Nat) : Nat := ((cw_ctab.lookup M).getD (0, 0)).2
def cw_Z (d M : Nat) (as : List Value) (h : cw_H) (Q : Option Value → cw_H → Prop) : Prop := cw_X cw_tb cw_mx cw_cM cw_sM d M as h Q
end
section
/-! the machine, run -/
def cw_ev : Nat → Nat → Nat → Nat → Nat → Nat → cw_L → List Value → cw_H → Option (Option Value × cw_H)
  | 0, _, _, _, _, _, _, _, _ => none
  | n + 1, d, M, bc, bs, pc, L, S, h => match cw_tb M pc with
    | none => none
    | some sem => match sem d L S h with
      | none => none
      | some (.inl (pc, L, S, h)) => cw_ev n d M bc bs pc L S h
      | some (.inr (.inl (b, t, f, L, S, h))) => cw_ev n d M bc bs (bif b then t else f) L S h
      | some (.inr (.inr (.inl (M', as, pc, L, S, h)))) => match d with
        | 0 => none
        | d' + 1 => bif cw_aok (cw_mx M') as then (match cw_ev n d' M' (h.length + cw_cM M') (cw_sl h + cw_sM M') 0 (cw_entry (cw_mx M') as) [] h with
          | some (r, h') => cw_ev n (d' + 1) M bc bs pc L (r.toList ++ S) h'
          | none => none) else none
      | some (.inr (.inr (.inr (.inl (r, h))))) => some (r, h)
      | some (.inr (.inr (.inr (.inr (.inl (c, k, pc, L, S, h)))))) => bif Nat.ble (h.length + 1) bc && (Nat.ble (cw_sl h + k) bs && (cw_ho h.length h && (cw_lo h.length L && cw_so h.length S))) then cw_ev n d M bc bs pc L (.ref h.length :: S) (h ++ [c]) else none
      | some (.inr (.inr (.inr (.inr (.inr (M', as, pc, L, S, h)))))) => match d with
        | 0 => none
        | d' + 1 => bif cw_aok (cw_mx M') as && (Nat.ble (h.length + cw_cM M') bc && (Nat.ble (cw_sl h + cw_sM M') bs && (cw_ho h.length h && (cw_lo h.length L && cw_so h.length S)))) then (match cw_ev n d' M' (h.length + cw_cM M') (cw_sl h + cw_sM M') 0 (cw_entry (cw_mx M') as) [] h with
          | some (none, h') => bif Nat.beq h'.length (h.length + cw_cM M') && Nat.beq (cw_sl h') (cw_sl h + cw_sM M') then cw_ev n (d' + 1) M bc bs pc L S h' else none
          | _ => none) else none
end
section
/-! THE SHAPE OF THE HEAP behind both constructors: an object (its class; of each field the place that it refers to, or none: a number), or a row (kind, length; of references: first place and step) -/
abbrev cw_Sh : Type := (Nat × List (Option Nat)) ⊕ (Nat × Nat × Nat × Nat)
def cw_hl (s : cw_Sh) (_ : Nat) : cw_Sh := s
def cw_hn (k : Nat) (a b : Nat → cw_Sh) (p : Nat) : cw_Sh := bif Nat.ble k p then b p else a p
def cw_shp : Nat → cw_Sh := cw_hn 87 (cw_hn 43 (cw_hn 21 (cw_hn 10 (cw_hn 5 (cw_hn 2 (cw_hn 1 (cw_hl (.inl (8, [some 1, some 10, some 30, some 36, some 66, some 140, none, none, none]))) (cw_hl (.inl (6, [some 2, some 3, some 4, some 5, some 6, some 7, some 8, some 9, none, none, none, none])))) (cw_hn 3 (cw_hl (.inr (0, 8, 0, 0))) (cw_hn 4 (cw_hl (.inr (0, 8, 0, 0))) (cw_hl (.inr (0, 8, 0, 0)))))) (cw_hn 7 (cw_hn 6 (cw_hl (.inr (0, 8, 0, 0))) (cw_hl (.inr (0, 8, 0, 0)))) (cw_hn 8 (cw_hl (.inr (0, 15, 0, 0))) (cw_hn 9 (cw_hl (.inr (0, 15, 0, 0))) (cw_hl (.inr (0, 15, 0, 0))))))) (cw_hn 15 (cw_hn 12 (cw_hn 11 (cw_hl (.inl (7, [some 11, some 12, some 13, some 14, none, none, none]))) (cw_hl (.inr (3, 15, 15, 1)))) (cw_hn 13 (cw_hl (.inl (2, [none, none, none, none, none, none, none, none, none, none]))) (cw_hn 14 (cw_hl (.inl (1, [none, none, none, none]))) (cw_hl (.inr (0, 15, 0, 0)))))) (cw_hn 18 (cw_hn 16 (cw_hl (.inl (2, [none, none, none, none, none, none, none, none, none, none]))) (cw_hn 17 (cw_hl (.inl (2, [none, none, none, none, none, none, none, none, none, none]))) (cw_hl (.inl (2, [none, none, none, none, none, none, none, none, none, none]))))) (cw_hn 19 (cw_hl (.inl (2, [none, none, none, none, none, none, none, none, none, none]))) (cw_hn 20 (cw_hl (.inl (2, [none, none, none, none, none, none, none, none, none, none]))) (cw_hl (.inl (2, [none, none, none, none, none, none, none, none, none, none])))))))) (cw_hn 32 (cw_hn 26 (cw_hn 23 (cw_hn 22 (cw_hl (.inl (2, [none, none, none, none, none, none, none, none, none, none]))) (cw_hl (.inl (2, [none, none, none, none, none, none, none, none, none, none])))) (cw_hn 24 (cw_hl (.inl (2, [none, none, none, none, none, none, none, none, none, none]))) (cw_hn 25 (cw_hl (.inl (2, [none, none, none, none, none, none, none, none, none, none]))) (cw_hl (.inl (2, [none, none, none, none, none, none, none, none, none, none])))))) (cw_hn 29 (cw_hn 27 (cw_hl (.inl (2, [none, none, none, none, none, none, none, none, none, none]))) (cw_hn 28 (cw_hl (.inl (2, [none, none, none, none, none, none, none, none, none, none]))) (cw_hl (.inl (2, [none, none, none, none, none, none, none, none, none, none]))))) (cw_hn 30 (cw_hl (.inl (2, [none, none, none, none, none, none, none, none, none, none]))) (cw_hn 31 (cw_hl (.inl (3, [some 31, some 32, some 33, some 34, some 35, none, none, none, none, none]))) (cw_hl (.inr (0, 15, 0, 0))))))) (cw_hn 37 (cw_hn 34 (cw_hn 33 (cw_hl (.inr (0, 15, 0, 0))) (cw_hl (.inr (0, 15, 0, 0)))) (cw_hn 35 (cw_hl (.inr (0, 15, 0, 0))) (cw_hn 36 (cw_hl (.inr (1, 15, 0, 0))) (cw_hl (.inl (4, [some 37, some 46, none, none, none])))))) (cw_hn 40 (cw_hn 38 (cw_hl (.inl (6, [some 38, some 39, some 40, some 41, some 42, some 43, some 44, some 45, none, none, none, none]))) (cw_hn 39 (cw_hl (.inr (0, 8, 0, 0))) (cw_hl (.inr (0, 8, 0, 0))))) (cw_hn 41 (cw_hl (.inr (0, 8, 0, 0))) (cw_hn 42 (cw_hl (.inr (0, 8, 0, 0))) (cw_hl (.inr (0, 8, 0, 0))))))))) (cw_hn 65 (cw_hn 54 (cw_hn 48 (cw_hn 45 (cw_hn 44 (cw_hl (.inr (0, 15, 0, 0))) (cw_hl (.inr (0, 15, 0, 0)))) (cw_hn 46 (cw_hl (.inr (0, 15, 0, 0))) (cw_hn 47 (cw_hl (.inl (7, [some 47, some 48, some 49, some 50, none, none, none]))) (cw_hl (.inr (3, 15, 51, 1)))))) (cw_hn 51 (cw_hn 49 (cw_hl (.inl (2, [none, none, none, none, none, none, none, none, none, none]))) (cw_hn 50 (cw_hl (.inl (1, [none, none, none, none]))) (cw_hl (.inr (0, 15, 0, 0))))) (cw_hn 52 (cw_hl (.inl (2, [none, none, none, none, none, none, none, none, none, none]))) (cw_hn 53 (cw_hl (.inl (2, [none, none, none, none, none, none, none, none, none, none]))) (cw_hl (.inl (2, [none, none, none, none, none, none, none, none, none, none]))))))) (cw_hn 59 (cw_hn 56 (cw_hn 55 (cw_hl (.inl (2, [none, none, none, none, none, none, none, none, none, none]))) (cw_hl (.inl (2, [none, none, none, none, none, none, none, none, none, none])))) (cw_hn 57 (cw_hl (.inl (2, [none, none, none, none, none, none, none, none, none, none]))) (cw_hn 58 (cw_hl (.inl (2, [none, none, none, none, none, none, none, none, none, none]))) (cw_hl (.inl (2, [none, none, none, none, none, none, none, none, none, none])))))) (cw_hn 62 (cw_hn 60 (cw_hl (.inl (2, [none, none, none, none, none, none, none, none, none, none]))) (cw_hn 61 (cw_hl (.inl (2, [none, none, none, none, none, none, none, none, none, none]))) (cw_hl (.inl (2, [none, none, none, none, none, none, none, none, none, none]))))) (cw_hn 63 (cw_hl (.inl (2, [none, none, none, none, none, none, none, none, none, none]))) (cw_hn 64 (cw_hl (.inl (2, [none, none, none, none, none, none, none, none, none, none]))) (cw_hl (.inl (2, [none, none, none, none, none, none, none, none, none, none])))))))) (cw_hn 76 (cw_hn 70 (cw_hn 67 (cw_hn 66 (cw_hl (.inl (2, [none, none, none, none, none, none, none, none, none, none]))) (cw_hl (.inl (0, [some 67, none, none])))) (cw_hn 68 (cw_hl (.inr (2, 8, 68, 9))) (cw_hn 69 (cw_hl (.inl (6, [some 69, some 70, some 71, some 72, some 73, some 74, some 75, some 76, none, none, none, none]))) (cw_hl (.inr (0, 8, 0, 0)))))) (cw_hn 73 (cw_hn 71 (cw_hl (.inr (0, 8, 0, 0))) (cw_hn 72 (cw_hl (.inr (0, 8, 0, 0))) (cw_hl (.inr (0, 8, 0, 0))))) (cw_hn 74 (cw_hl (.inr (0, 8, 0, 0))) (cw_hn 75 (cw_hl (.inr (0, 15, 0, 0))) (cw_hl (.inr (0, 15, 0, 0))))))) (cw_hn 81 (cw_hn 78 (cw_hn 77 (cw_hl (.inr (0, 15, 0, 0))) (cw_hl (.inl (6, [some 78, some 79, some 80, some 81, some 82, some 83, some 84, some 85, none, none, none, none])))) (cw_hn 79 (cw_hl (.inr (0, 8, 0, 0))) (cw_hn 80 (cw_hl (.inr (0, 8, 0, 0))) (cw_hl (.inr (0, 8, 0, 0)))))) (cw_hn 84 (cw_hn 82 (cw_hl (.inr (0, 8, 0, 0))) (cw_hn 83 (cw_hl (.inr (0, 8, 0, 0))) (cw_hl (.inr (0, 15, 0, 0))))) (cw_hn 85 (cw_hl (.inr (0, 15, 0, 0))) (cw_hn 86 (cw_hl (.inr (0, 15, 0, 0))) (cw_hl (.inl (6, [some 87, some 88, some 89, some 90, some 91, some 92, some 93, some 94, none, none, none, none])))))))))) (cw_hn 131 (cw_hn 109 (cw_hn 98 (cw_hn 92 (cw_hn 89 (cw_hn 88 (cw_hl (.inr (0, 8, 0, 0))) (cw_hl (.inr (0, 8, 0, 0)))) (cw_hn 90 (cw_hl (.inr (0, 8, 0, 0))) (cw_hn 91 (cw_hl (.inr (0, 8, 0, 0))) (cw_hl (.inr (0, 8, 0, 0)))))) (cw_hn 95 (cw_hn 93 (cw_hl (.inr (0, 15, 0, 0))) (cw_hn 94 (cw_hl (.inr (0, 15, 0, 0))) (cw_hl (.inr (0, 15, 0, 0))))) (cw_hn 96 (cw_hl (.inl (6, [some 96, some 97, some 98, some 99, some 100, some 101, some 102, some 103, none, none, none, none]))) (cw_hn 97 (cw_hl (.inr (0, 8, 0, 0))) (cw_hl (.inr (0, 8, 0, 0))))))) (cw_hn 103 (cw_hn 100 (cw_hn 99 (cw_hl (.inr (0, 8, 0, 0))) (cw_hl (.inr (0, 8, 0, 0)))) (cw_hn 101 (cw_hl (.inr (0, 8, 0, 0))) (cw_hn 102 (cw_hl (.inr (0, 15, 0, 0))) (cw_hl (.inr (0, 15, 0, 0)))))) (cw_hn 106 (cw_hn 104 (cw_hl (.inr (0, 15, 0, 0))) (cw_hn 105 (cw_hl (.inl (6, [some 105, some 106, some 107, some 108, some 109, some 110, some 111, some 112, none, none, none, none]))) (cw_hl (.inr (0, 8, 0, 0))))) (cw_hn 107 (cw_hl (.inr (0, 8, 0, 0))) (cw_hn 108 (cw_hl (.inr (0, 8, 0, 0))) (cw_hl (.inr (0, 8, 0, 0)))))))) (cw_hn 120 (cw_hn 114 (cw_hn 111 (cw_hn 110 (cw_hl (.inr (0, 8, 0, 0))) (cw_hl (.inr (0, 15, 0, 0)))) (cw_hn 112 (cw_hl (.inr (0, 15, 0, 0))) (cw_hn 113 (cw_hl (.inr (0, 15, 0, 0))) (cw_hl (.inl (6, [some 114, some 115, some 116, some 117, some 118, some 119, some 120, some 121, none, none, none, none])))))) (cw_hn 117 (cw_hn 115 (cw_hl (.inr (0, 8, 0, 0))) (cw_hn 116 (cw_hl (.inr (0, 8, 0, 0))) (cw_hl (.inr (0, 8, 0, 0))))) (cw_hn 118 (cw_hl (.inr (0, 8, 0, 0))) (cw_hn 119 (cw_hl (.inr (0, 8, 0, 0))) (cw_hl (.inr (0, 15, 0, 0))))))) (cw_hn 125 (cw_hn 122 (cw_hn 121 (cw_hl (.inr (0, 15, 0, 0))) (cw_hl (.inr (0, 15, 0, 0)))) (cw_hn 123 (cw_hl (.inl (6, [some 123, some 124, some 125, some 126, some 127, some 128, some 129, some 130, none, none, none, none]))) (cw_hn 124 (cw_hl (.inr (0, 8, 0, 0))) (cw_hl (.inr (0, 8, 0, 0)))))) (cw_hn 128 (cw_hn 126 (cw_hl (.inr (0, 8, 0, 0))) (cw_hn 127 (cw_hl (.inr (0, 8, 0, 0))) (cw_hl (.inr (0, 8, 0, 0))))) (cw_hn 129 (cw_hl (.inr (0, 15, 0, 0))) (cw_hn 130 (cw_hl (.inr (0, 15, 0, 0))) (cw_hl (.inr (0, 15, 0, 0))))))))) (cw_hn 153 (cw_hn 142 (cw_hn 136 (cw_hn 133 (cw_hn 132 (cw_hl (.inl (6, [some 132, some 133, some 134, some 135, some 136, some 137, some 138, some 139, none, none, none, none]))) (cw_hl (.inr (0, 8, 0, 0)))) (cw_hn 134 (cw_hl (.inr (0, 8, 0, 0))) (cw_hn 135 (cw_hl (.inr (0, 8, 0, 0))) (cw_hl (.inr (0, 8, 0, 0)))))) (cw_hn 139 (cw_hn 137 (cw_hl (.inr (0, 8, 0, 0))) (cw_hn 138 (cw_hl (.inr (0, 15, 0, 0))) (cw_hl (.inr (0, 15, 0, 0))))) (cw_hn 140 (cw_hl (.inr (0, 15, 0, 0))) (cw_hn 141 (cw_hl (.inl (5, [some 141, some 142, some 143, some 144, some 145, none, none, none, none]))) (cw_hl (.inr (0, 60, 0, 0))))))) (cw_hn 147 (cw_hn 144 (cw_hn 143 (cw_hl (.inr (0, 61, 0, 0))) (cw_hl (.inr (0, 61, 0, 0)))) (cw_hn 145 (cw_hl (.inr (0, 7, 0, 0))) (cw_hn 146 (cw_hl (.inr (0, 7, 0, 0))) (cw_hl (.inl (9, [some 147, none, some 148, none, none, none, none, some 149, some 150, some 151, some 152, some 153, some 154, none, some 155, some 156, some 157, some 158, some 159, some 160, some 161, some 162, some 163, some 164, some 165, none, none, none, none, some 166, some 167, some 168, none, none, some 169, some 170, none, none, some 171, none, none, some 172, none, some 173, some 174])))))) (cw_hn 150 (cw_hn 148 (cw_hl (.inr (0, 3, 0, 0))) (cw_hn 149 (cw_hl (.inr (0, 32, 0, 0))) (cw_hl (.inr (0, 8, 0, 0))))) (cw_hn 151 (cw_hl (.inr (0, 15, 0, 0))) (cw_hn 152 (cw_hl (.inr (0, 15, 0, 0))) (cw_hl (.inr (0, 15, 0, 0)))))))) (cw_hn 164 (cw_hn 158 (cw_hn 155 (cw_hn 154 (cw_hl (.inr (0, 15, 0, 0))) (cw_hl (.inr (0, 60, 0, 0)))) (cw_hn 156 (cw_hl (.inr (0, 704, 0, 0))) (cw_hn 157 (cw_hl (.inr (0, 15, 0, 0))) (cw_hl (.inr (0, 15, 0, 0)))))) (cw_hn 161 (cw_hn 159 (cw_hl (.inr (0, 15, 0, 0))) (cw_hn 160 (cw_hl (.inr (0, 15, 0, 0))) (cw_hl (.inr (0, 15, 0, 0))))) (cw_hn 162 (cw_hl (.inr (0, 15, 0, 0))) (cw_hn 163 (cw_hl (.inr (0, 15, 0, 0))) (cw_hl (.inr (0, 15, 0, 0))))))) (cw_hn 169 (cw_hn 166 (cw_hn 165 (cw_hl (.inr (0, 15, 0, 0))) (cw_hl (.inr (0, 15, 0, 0)))) (cw_hn 167 (cw_hl (.inr (0, 15, 0, 0))) (cw_hn 168 (cw_hl (.inr (0, 15, 0, 0))) (cw_hl (.inr (0, 15, 0, 0)))))) (cw_hn 172 (cw_hn 170 (cw_hl (.inr (0, 15, 0, 0))) (cw_hn 171 (cw_hl (.inr (0, 60, 0, 0))) (cw_hl (.inr (0, 60, 0, 0))))) (cw_hn 173 (cw_hl (.inr (0, 8, 0, 0))) (cw_hn 174 (cw_hl (.inr (0, 60, 0, 0))) (cw_hl (.inr (0, 60, 0, 0))))))))))
/-- the numbers: of each cell and slot; the row of longs -/
abbrev cw_V : Type := Nat → Nat → Int32
def cw_fv (σ : cw_V) (p : Nat) : Nat → List (Option Nat) → List Value
  | _, [] => []
  | k, f :: r => (match f with
    | some q => .ref q
    | none => .int (σ p k)) :: cw_fv σ p (k + 1) r
def cw_rq (n b s : Nat) : Nat → Option Nat := fun j => if j < n then some (b + s * j) else none
def cw_mk (σ : cw_V) (lam : Nat → Int64) (p : Nat) (s : cw_Sh) : cw_C := match s with
  | .inl (c, fs) => .inr (c, cw_fv σ p 0 fs)
  | .inr (0, n, _, _) => .inl (0, n, .inl (σ p))
  | .inr (1, n, _, _) => .inl (1, n, .inr (.inl lam))
  | .inr (t, n, b, st) => .inl (t, n, .inr (.inr (.inr (.inr (cw_rq n b st)))))
def cw_B (σ : cw_V) (lam : Nat → Int64) : cw_H := (List.range 175).map fun p => cw_mk σ lam p (cw_shp p)
theorem cw_B_get {σ : cw_V} {lam : Nat → Int64} {p : Nat} (h : p < 175) : (cw_B σ lam)[p]? = some (cw_mk σ lam p (cw_shp p)) := by
  unfold cw_B
  rw [List.getElem?_map, List.getElem?_range h]
  rfl
def cw_up (σ : cw_V) (p k : Nat) (x : Int32) : cw_V := fun q => if q = p then upd (σ p) k x else σ q
theorem cw_mk_ne {σ σ' : cw_V} {lam : Nat → Int64} {p : Nat} {s : cw_Sh} (h : σ' p = σ p) : cw_mk σ' lam p s = cw_mk σ lam p s := by
  have hf : ∀ (fs : List (Option Nat)) (k : Nat), cw_fv σ' p k fs = cw_fv σ p k fs := by
    intro fs
    induction fs with
    | nil => intro k; rfl
    | cons f r ih =>
      intro k
      unfold cw_fv
      rw [ih (k + 1), h]
  unfold cw_mk
  split
  · rw [hf]
  · rw [h]
  · rfl
  · rfl
theorem cw_B_set {σ σ' : cw_V} {lam : Nat → Int64} {p : Nat} {c : cw_C} (hp : p < 175) (hc : c = cw_mk σ' lam p (cw_shp p)) (h : ∀ q, q ≠ p → σ' q = σ q) : (cw_B σ lam).set p c = cw_B σ' lam := by
  apply List.ext_getElem?
  intro i
  rw [List.getElem?_set]
  have hl : (cw_B σ lam).length = 175 := by simp [cw_B]
  split
  · rename_i e
    subst e
    rw [hl, if_pos hp, cw_B_get hp, hc]
  · rename_i e
    rcases Nat.lt_or_ge i 175 with q | q
    · rw [cw_B_get q, cw_B_get q, cw_mk_ne (h i (fun z => e z.symm))]
    · rw [List.getElem?_eq_none (by simp [cw_B]; exact q), List.getElem?_eq_none (by simp [cw_B]; exact q)]
/-- what the shape says of a field; of a row -/
def cw_fR (p ci k : Nat) : Option (Option Nat) := bif Nat.ble p 174 then (match cw_shp p with
  | .inl (c, fs) => bif Nat.beq c ci then fs[k]? else none
  | .inr _ => none) else none
def cw_aR (p : Nat) : Option (Nat × Nat × Nat × Nat) := bif Nat.ble p 174 then (match cw_shp p with
  | .inl _ => none
  | .inr a => some a) else none
def cw_cR (p : Nat) : Option Nat := bif Nat.ble p 174 then (match cw_shp p with
  | .inl (c, _) => some c
  | .inr _ => none) else none
theorem cw_fR_is {p ci k : Nat} {f : Option Nat} (h : cw_fR p ci k = some f) : p < 175 ∧ ∃ fs, cw_shp p = .inl (ci, fs) ∧ fs[k]? = some f := by
  unfold cw_fR at h
  cases e : Nat.ble p 174 with
  | false => rw [e] at h; cases h
  | true =>
    rw [e] at h
    have hp := Nat.le_of_ble_eq_true e
    refine ⟨by omega, ?_⟩
    cases hs : cw_shp p with
    | inr a => rw [hs] at h; cases h
    | inl o =>
      obtain ⟨c, fs⟩ := o
      rw [hs] at h
      dsimp only [cond_true] at h
      cases e2 : Nat.beq c ci with
      | false => rw [e2] at h; cases h
      | true =>
        rw [e2] at h
        cases Nat.eq_of_beq_eq_true e2
        exact ⟨fs, rfl, h⟩
theorem cw_aR_is {p : Nat} {a : Nat × Nat × Nat × Nat} (h : cw_aR p = some a) : p < 175 ∧ cw_shp p = .inr a := by
  unfold cw_aR at h
  cases e : Nat.ble p 174 with
  | false => rw [e] at h; cases h
  | true =>
    rw [e] at h
    have hp := Nat.le_of_ble_eq_true e
    refine ⟨by omega, ?_⟩
    cases hs : cw_shp p with
    | inl o => rw [hs] at h; cases h
    | inr b => rw [hs] at h; cases h; rfl
theorem cw_cR_is {p c : Nat} (h : cw_cR p = some c) : p < 175 ∧ ∃ fs, cw_shp p = .inl (c, fs) := by
  unfold cw_cR at h
  cases e : Nat.ble p 174 with
  | false => rw [e] at h; cases h
  | true =>
    rw [e] at h
    have hp := Nat.le_of_ble_eq_true e
    refine ⟨by omega, ?_⟩
    cases hs : cw_shp p with
    | inr a => rw [hs] at h; cases h
    | inl o =>
      obtain ⟨c, fs⟩ := o
      rw [hs] at h
      cases h
      exact ⟨fs, rfl⟩
theorem cw_fv_get {σ : cw_V} {p : Nat} : ∀ (fs : List (Option Nat)) (j k : Nat) (f : Option Nat), fs[k]? = some f → (cw_fv σ p j fs)[k]? = some (match f with
    | some q => .ref q
    | none => .int (σ p (j + k)))
  | [], _, _, _, h => by simp at h
  | f0 :: r, j, 0, f, h => by
    simp at h
    subst h
    cases f0 <;> simp [cw_fv]
  | f0 :: r, j, k + 1, f, h => by
    simp at h
    have := cw_fv_get (σ := σ) (p := p) r (j + 1) k f h
    unfold cw_fv
    rw [List.getElem?_cons_succ, this, show j + 1 + k = j + (k + 1) by omega]
theorem cw_fv_len {σ : cw_V} {p : Nat} : ∀ (fs : List (Option Nat)) (j : Nat), (cw_fv σ p j fs).length = fs.length
  | [], _ => rfl
  | f0 :: r, j => by unfold cw_fv; rw [List.length_cons, cw_fv_len r (j + 1), List.length_cons]
theorem cw_fv_set {σ : cw_V} {p : Nat} {x : Int32} : ∀ (fs : List (Option Nat)) (j k : Nat), fs[k]? = some none → (cw_fv σ p j fs).set k (.int x) = cw_fv (cw_up σ p (j + k) x) p j fs
  | [], _, _, h => by simp at h
  | f0 :: r, j, 0, h => by
    simp at h
    subst h
    have hr : ∀ (fs : List (Option Nat)) (i : Nat), j < i → cw_fv (cw_up σ p j x) p i fs = cw_fv σ p i fs := by
      intro fs
      induction fs with
      | nil => intro i _; rfl
      | cons f r ih =>
        intro i hi
        unfold cw_fv
        rw [ih (i + 1) (by omega)]
        cases f with
        | some q => rfl
        | none =>
          have : cw_up σ p j x p i = σ p i := by
            unfold cw_up upd
            rw [if_pos rfl, if_neg (by omega)]
          rw [this]
    rw [Nat.add_zero]
    unfold cw_fv
    rw [List.set_cons_zero, hr r (j + 1) (by omega)]
    have : cw_up σ p j x p j = x := by
      unfold cw_up upd
      rw [if_pos rfl, if_pos rfl]
    rw [this]
  | f0 :: r, j, k + 1, h => by
    simp at h
    have ih := cw_fv_set (σ := σ) (p := p) (x := x) r (j + 1) k h
    unfold cw_fv
    rw [List.set_cons_succ, ih, show j + 1 + k = j + (k + 1) by omega]
    congr 1
    cases f0 with
    | some q => rfl
    | none =>
      have : cw_up σ p (j + (k + 1)) x p j = σ p j := by
        unfold cw_up upd
        rw [if_pos rfl, if_neg (by omega)]
      rw [this]
end
section
/-! RULES: how a closed K is walked, over the store -/
abbrev cw_Q : Type := Option Value → cw_H → Prop
abbrev cw_KT : Type := Nat → cw_L → List Value → cw_H → Prop
abbrev cw_Kc (d M : Nat) (h0 : cw_H) (Q : cw_Q) (K : cw_KT) : Prop := cw_Cl cw_tb cw_cM cw_sM (cw_Z d) (d + 1) M h0 Q K
theorem zi {d M : Nat} {as : List Value} {h : cw_H} {Q : cw_Q} {L : cw_L} (ho : cw_aok (cw_mx M) as = true) (hL : cw_entry (cw_mx M) as = L) (k : ∀ K : cw_KT, cw_Kc d M h Q K → K 0 L [] h) : cw_Z (d + 1) M as h Q := by
  subst hL
  exact ⟨ho, k⟩
theorem zmono {d M : Nat} {as : List Value} {h : cw_H} {Q Q' : cw_Q} (hX : cw_Z d M as h Q) (hQ : ∀ r g, Q r g → Q' r g) : cw_Z d M as h Q' := cw_X_mono d M as h Q Q' hQ hX
section
variable {d M : Nat} {h0 : cw_H} {Q : cw_Q} {K : cw_KT} {pc nx : Nat} {L L' : cw_L} {S S' : List Value} {h h' : cw_H} {σ : cw_V} {lam : Nat → Int64}
theorem st_go {sem : cw_S} (hK : cw_Kc d M h0 Q K) (hf : cw_tb M pc = some sem) (hs : sem (d + 1) L S h = cw_go nx L' S' h') (k : K nx L' S' h') : K pc L S h := hK pc L S h sem hf (by rw [hs]; exact k)
theorem st_if {sem : cw_S} {P : Prop} {inst : Decidable P} {t f : Nat} (hK : cw_Kc d M h0 Q K) (hf : cw_tb M pc = some sem) (hs : sem (d + 1) L S h = cw_br (@decide P inst) t f L' S' h') (kt : P → K t L' S' h') (kf : ¬ P → K f L' S' h') : K pc L S h := hK pc L S h sem hf (by rw [hs]; exact ⟨fun e => kt (of_decide_eq_true e), fun e => kf (of_decide_eq_false e)⟩)
theorem st_ret {sem : cw_S} {r : Option Value} (hK : cw_Kc d M h0 Q K) (hf : cw_tb M pc = some sem) (hs : sem (d + 1) L S h = cw_re r h') (k : Q r h') : K pc L S h := hK pc L S h sem hf (by rw [hs]; exact k)
theorem st_zret {x : Int32} (hK : cw_Kc d M h0 Q K) (hf : cw_tb M pc = some s_zret) (hx : x = 0 ∨ x = 1) (k : Q (some (.int x)) h) : K pc L [.int x] h := hK pc L _ h _ hf (by show cw_wp _ _ _ _ _ _ _ (if _ then _ else _); rw [if_pos hx]; exact k)
theorem st_geti {p ci k : Nat} (hK : cw_Kc d M h0 Q K) (hf : cw_tb M pc = some (s_get ci k nx)) (hs : cw_fR p ci k = some none) (kk : K nx L (.int (σ p k) :: S) (cw_B σ lam)) : K pc L (.ref p :: S) (cw_B σ lam) := by
  refine hK pc L _ _ _ hf ?_
  obtain ⟨hp, fs, h1, h2⟩ := cw_fR_is hs
  have h3 : (cw_B σ lam)[p]? = some (.inr (ci, cw_fv σ p 0 fs)) := by rw [cw_B_get hp, h1]; rfl
  have h4 := cw_fv_get (σ := σ) (p := p) fs 0 k none h2
  unfold s_get
  simp only [h3, if_true, h4]
  rw [Nat.zero_add]
  exact kk
theorem st_getr {p ci k r : Nat} (hK : cw_Kc d M h0 Q K) (hf : cw_tb M pc = some (s_get ci k nx)) (hs : cw_fR p ci k = some (some r)) (kk : K nx L (.ref r :: S) (cw_B σ lam)) : K pc L (.ref p :: S) (cw_B σ lam) := by
  refine hK pc L _ _ _ hf ?_
  obtain ⟨hp, fs, h1, h2⟩ := cw_fR_is hs
  have h3 : (cw_B σ lam)[p]? = some (.inr (ci, cw_fv σ p 0 fs)) := by rw [cw_B_get hp, h1]; rfl
  have h4 := cw_fv_get (σ := σ) (p := p) fs 0 k (some r) h2
  unfold s_get
  simp only [h3, if_true, h4]
  exact kk
theorem st_put {p ci k kd : Nat} {x : Int32} (hK : cw_Kc d M h0 Q K) (hf : cw_tb M pc = some (s_put ci k kd nx)) (hs : cw_fR p ci k = some none) (ht : cw_takes kd (.int x) = true) (kk : K nx L S (cw_B (cw_up σ p k x) lam)) : K pc L (.int x :: .ref p :: S) (cw_B σ lam) := by
  refine hK pc L _ _ _ hf ?_
  obtain ⟨hp, fs, h1, h2⟩ := cw_fR_is hs
  have h3 : (cw_B σ lam)[p]? = some (.inr (ci, cw_fv σ p 0 fs)) := by rw [cw_B_get hp, h1]; rfl
  have hl : k < (cw_fv σ p 0 fs).length := by rw [cw_fv_len]; exact (List.getElem?_eq_some_iff.mp h2).1
  unfold s_put
  simp only [h3, ht, hl, and_self, if_true]
  rw [cw_fv_set fs 0 k h2, Nat.zero_add]
  rw [cw_B_set (σ' := cw_up σ p k x) hp (by rw [h1]; rfl) (fun q hq => by unfold cw_up; rw [if_neg hq])]
  exact kk
theorem st_iald {p n b st : Nat} {i : Int32} (hK : cw_Kc d M h0 Q K) (hf : cw_tb M pc = some (s_iald nx)) (hs : cw_aR p = some (0, n, b, st)) (hi : cw_in i n = true) (kk : K nx L (.int (σ p i.toNatClampNeg) :: S) (cw_B σ lam)) : K pc L (.int i :: .ref p :: S) (cw_B σ lam) := by
  refine hK pc L _ _ _ hf ?_
  obtain ⟨hp, h1⟩ := cw_aR_is hs
  have h3 : (cw_B σ lam)[p]? = some (.inl (0, n, .inl (σ p))) := by rw [cw_B_get hp, h1]; rfl
  unfold s_iald
  simp only [h3, hi, if_true]
  exact kk
theorem st_iast {p n b st : Nat} {i x : Int32} (hK : cw_Kc d M h0 Q K) (hf : cw_tb M pc = some (s_iast nx)) (hs : cw_aR p = some (0, n, b, st)) (hi : cw_in i n = true) (kk : K nx L S (cw_B (cw_up σ p i.toNatClampNeg x) lam)) : K pc L (.int x :: .int i :: .ref p :: S) (cw_B σ lam) := by
  refine hK pc L _ _ _ hf ?_
  obtain ⟨hp, h1⟩ := cw_aR_is hs
  have h3 : (cw_B σ lam)[p]? = some (.inl (0, n, .inl (σ p))) := by rw [cw_B_get hp, h1]; rfl
  unfold s_iast
  simp only [h3, hi, if_true]
  rw [cw_B_set (σ' := cw_up σ p i.toNatClampNeg x) hp (by rw [h1]; show _ = Sum.inl (0, n, Sum.inl (cw_up σ p i.toNatClampNeg x p)); unfold cw_up; rw [if_pos rfl]) (fun q hq => by unfold cw_up; rw [if_neg hq])]
  exact kk
theorem st_lald {p n b st : Nat} {i : Int32} (hK : cw_Kc d M h0 Q K) (hf : cw_tb M pc = some (s_lald nx)) (hs : cw_aR p = some (1, n, b, st)) (hi : cw_in i n = true) (kk : K nx L (.long (lam i.toNatClampNeg) :: S) (cw_B σ lam)) : K pc L (.int i :: .ref p :: S) (cw_B σ lam) := by
  refine hK pc L _ _ _ hf ?_
  obtain ⟨hp, h1⟩ := cw_aR_is hs
  have h3 : (cw_B σ lam)[p]? = some (.inl (1, n, .inr (.inl lam))) := by rw [cw_B_get hp, h1]; rfl
  unfold s_lald
  simp only [h3, hi, if_true]
  exact kk
theorem st_last {i : Int32} {x : Int64} (hK : cw_Kc d M h0 Q K) (hf : cw_tb M pc = some (s_last nx)) (hi : cw_in i 15 = true) (kk : K nx L S (cw_B σ (vp_updL lam i.toNatClampNeg x))) : K pc L (.long x :: .int i :: .ref 35 :: S) (cw_B σ lam) := by
  refine hK pc L _ _ _ hf ?_
  have h3 : (cw_B σ lam)[35]? = some (.inl (1, 15, .inr (.inl lam))) := by rw [cw_B_get (by decide)]; rfl
  unfold s_last
  simp only [h3, hi, if_true]
  have : (cw_B σ lam).set 35 (.inl (1, 15, .inr (.inl (vp_updL lam i.toNatClampNeg x)))) = cw_B σ (vp_updL lam i.toNatClampNeg x) := by
    apply List.ext_getElem?
    intro j
    rw [List.getElem?_set]
    have hl : (cw_B σ lam).length = 175 := by simp [cw_B]
    split
    · rename_i e
      subst e
      rw [hl, if_pos (by decide), cw_B_get (by decide)]
      rfl
    · rename_i e
      rcases Nat.lt_or_ge j 175 with q | q
      · rw [cw_B_get q, cw_B_get q]
        have hone : ∀ p, p < 175 → p ≠ 35 → ∀ a, cw_shp p = .inr a → a.1 ≠ 1 := by
          intro p hp hne a ha
          have hall : (List.range 175).all (fun p => Nat.beq p 35 || (match cw_shp p with
            | .inr a => !(Nat.beq a.1 1)
            | .inl _ => true)) = true := by decide +kernel
          have h5 := List.all_eq_true.mp hall p (List.mem_range.mpr hp)
          rw [ha] at h5
          have h6 : Nat.beq p 35 = false := by
            cases e : Nat.beq p 35 with
            | true => exact absurd (Nat.eq_of_beq_eq_true e) hne
            | false => rfl
          rw [h6] at h5
          intro h7
          have h8 : (false || !(Nat.beq a.1 1)) = true := h5
          rw [h7] at h8
          exact absurd h8 (by decide)
        cases hs : cw_shp j with
        | inl o => rfl
        | inr a =>
          obtain ⟨t, n, b, s⟩ := a
          have := hone j q (fun z => e z.symm) _ hs
          match t, this with
          | 0, _ => rfl
          | 1, h => exact absurd rfl h
          | t + 2, _ => rfl
      · rw [List.getElem?_eq_none (by simp [cw_B]; exact q), List.getElem?_eq_none (by simp [cw_B]; exact q)]
  rw [this]
  exact kk
theorem st_aald {p t n b st : Nat} {i : Int32} (hK : cw_Kc d M h0 Q K) (hf : cw_tb M pc = some (s_aald nx)) (hs : cw_aR p = some (t + 2, n, b, st)) (ht : t < 2) (hi : cw_in i n = true) (kk : K nx L (.ref (b + st * i.toNatClampNeg) :: S) (cw_B σ lam)) : K pc L (.int i :: .ref p :: S) (cw_B σ lam) := by
  refine hK pc L _ _ _ hf ?_
  obtain ⟨hp, h1⟩ := cw_aR_is hs
  have h3 : (cw_B σ lam)[p]? = some (.inl (t + 2, n, .inr (.inr (.inr (.inr (cw_rq n b st)))))) := by rw [cw_B_get hp, h1]; rfl
  have h4 : cw_rq n b st i.toNatClampNeg = some (b + st * i.toNatClampNeg) := by
    unfold cw_rq
    unfold cw_in at hi
    simp only [Bool.and_eq_true, decide_eq_true_eq] at hi
    rw [if_pos hi.2]
  unfold s_aald
  simp only [h3, hi, ht, and_self, if_true, h4]
  exact kk
theorem st_alen {p t n b st : Nat} (hK : cw_Kc d M h0 Q K) (hf : cw_tb M pc = some (s_alen nx)) (hs : cw_aR p = some (t, n, b, st)) (ht : t = 0) (kk : K nx L (.int (Int32.ofNat n) :: S) (cw_B σ lam)) : K pc L (.ref p :: S) (cw_B σ lam) := by
  refine hK pc L _ _ _ hf ?_
  obtain ⟨hp, h1⟩ := cw_aR_is hs
  subst ht
  have h3 : (cw_B σ lam)[p]? = some (.inl (0, n, .inl (σ p))) := by rw [cw_B_get hp, h1]; rfl
  unfold s_alen
  simp only [h3]
  exact kk
theorem st_copy {p q n0 n1 b0 b1 s0 s1 : Nat} {sp dp n : Int32} (hK : cw_Kc d M h0 Q K) (hf : cw_tb M pc = some (s_copy nx)) (hp0 : cw_aR p = some (0, n0, b0, s0)) (hq0 : cw_aR q = some (0, n1, b1, s1)) (hc : cw_ct S ≤ 8) (h1 : ¬ sp < 0) (h2 : ¬ dp < 0) (h3 : ¬ n < 0) (h4 : sp.toNatClampNeg + n.toNatClampNeg ≤ n0) (h5 : dp.toNatClampNeg + n.toNatClampNeg ≤ n1)
    (kk : K nx L S (cw_B (fun r => if r = q then va_cpy (σ p) (σ q) sp.toNatClampNeg dp.toNatClampNeg n.toNatClampNeg else σ r) lam)) : K pc L (.int n :: .int dp :: .ref q :: .int sp :: .ref p :: S) (cw_B σ lam) := by
  refine hK pc L _ _ _ hf ?_
  obtain ⟨hp, e1⟩ := cw_aR_is hp0
  obtain ⟨hq, e2⟩ := cw_aR_is hq0
  have g1 : (cw_B σ lam)[p]? = some (.inl (0, n0, .inl (σ p))) := by rw [cw_B_get hp, e1]; rfl
  have g2 : (cw_B σ lam)[q]? = some (.inl (0, n1, .inl (σ q))) := by rw [cw_B_get hq, e2]; rfl
  unfold s_copy
  simp only [g1, g2, hc, h1, h2, h3, h4, h5, Nat.zero_lt_succ, not_false_eq_true, and_self, if_true]
  rw [cw_B_set (σ' := fun r => if r = q then va_cpy (σ p) (σ q) sp.toNatClampNeg dp.toNatClampNeg n.toNatClampNeg else σ r) hq (by rw [e2]; show _ = Sum.inl (0, n1, Sum.inl (if q = q then _ else σ q)); rw [if_pos rfl]) (fun r hr => if_neg hr)]
  exact kk
theorem st_max {x y : Int32} (hK : cw_Kc d M h0 Q K) (hf : cw_tb M pc = some (s_max nx)) (hc : cw_ct S ≤ 8) (kk : K nx L (.int (if x < y then y else x) :: S) h) : K pc L (.int y :: .int x :: S) h := by
  refine hK pc L _ _ _ hf ?_
  unfold s_max
  simp only [hc, Nat.zero_lt_succ, and_self, if_true]
  exact kk
theorem st_min {x y : Int32} (hK : cw_Kc d M h0 Q K) (hf : cw_tb M pc = some (s_min nx)) (hc : cw_ct S ≤ 8) (kk : K nx L (.int (if y < x then y else x) :: S) h) : K pc L (.int y :: .int x :: S) h := by
  refine hK pc L _ _ _ hf ?_
  unfold s_min
  simp only [hc, Nat.zero_lt_succ, and_self, if_true]
  exact kk
theorem st_abs {x : Int32} (hK : cw_Kc d M h0 Q K) (hf : cw_tb M pc = some (s_abs nx)) (hc : cw_ct S ≤ 8) (kk : K nx L (.int (if 0 ≤ x then x else 0 - x) :: S) h) : K pc L (.int x :: S) h := by
  refine hK pc L _ _ _ hf ?_
  unfold s_abs
  simp only [hc, Nat.zero_lt_succ, and_self, if_true]
  exact kk
theorem st_bin {x y : Int32} {f : Int32 → Int32 → Int32} (hK : cw_Kc d M h0 Q K) (hf : cw_tb M pc = some (s_ibin f nx)) (kk : K nx L (.int (f x y) :: S) h) : K pc L (.int y :: .int x :: S) h := hK pc L _ _ _ hf kk
theorem st_lbin {x y : Int64} {f : Int64 → Int64 → Int64} (hK : cw_Kc d M h0 Q K) (hf : cw_tb M pc = some (s_lbin f nx)) (kk : K nx L (.long (f x y) :: S) h) : K pc L (.long y :: .long x :: S) h := hK pc L _ _ _ hf kk
theorem st_div {x y : Int32} {f : Int32 → Int32 → Int32} (hK : cw_Kc d M h0 Q K) (hf : cw_tb M pc = some (s_idiv f nx)) (hy : ¬ y = 0) (kk : K nx L (.int (f x y) :: S) h) : K pc L (.int y :: .int x :: S) h := by
  refine hK pc L _ _ _ hf ?_
  unfold s_idiv
  simp only [hy, if_false]
  exact kk
theorem st_callV {ci M' n p : Nat} {as : List Value} (hK : cw_Kc d M h0 Q K) (hf : cw_tb M pc = some (s_callV ci M' n nx)) (hc : cw_cR p = some ci) (hn : as.length = n) (hct : cw_ct S ≤ 8) (k : cw_Z d M' (.ref p :: as) (cw_B σ lam) (fun r h' => K nx L (r.toList ++ S) h')) : K pc L (as.reverse ++ .ref p :: S) (cw_B σ lam) := by
  refine hK pc L _ _ _ hf ?_
  obtain ⟨hp, fs, h1⟩ := cw_cR_is hc
  have h3 : (cw_B σ lam)[p]? = some (.inr (ci, cw_fv σ p 0 fs)) := by rw [cw_B_get hp, h1]; rfl
  have h4 : cw_pop n (as.reverse ++ .ref p :: S) = (as, .ref p :: S) := by
    subst hn
    unfold cw_pop
    rw [List.take_append_of_le_length (by simp), List.drop_append_of_le_length (by simp)]
    simp [List.take_of_length_le]
  unfold s_callV
  simp only [h4, h3, hct, Nat.zero_lt_succ, true_and]
  rw [if_pos (by simp; omega)]
  exact k
theorem st_callS {M' n : Nat} {as : List Value} (hK : cw_Kc d M h0 Q K) (hf : cw_tb M pc = some (s_callS M' n nx)) (hn : as.length = n) (hct : cw_ct S ≤ 8) (k : cw_Z d M' as h (fun r h' => K nx L (r.toList ++ S) h')) : K pc L (as.reverse ++ S) h := by
  refine hK pc L _ _ _ hf ?_
  have h4 : cw_pop n (as.reverse ++ S) = (as, S) := by
    subst hn
    unfold cw_pop
    rw [List.take_append_of_le_length (by simp), List.drop_append_of_le_length (by simp)]
    simp [List.take_of_length_le]
  unfold s_callS
  simp only [h4, hct, Nat.zero_lt_succ, true_and]
  rw [if_pos (by simp; omega)]
  exact k
theorem cv0 {ci M' p : Nat} (hK : cw_Kc d M h0 Q K) (hf : cw_tb M pc = some (s_callV ci M' 0 nx)) (hc : cw_cR p = some ci) (hct : cw_ct S ≤ 8) (k : cw_Z d M' [.ref p] (cw_B σ lam) (fun r h' => K nx L (r.toList ++ S) h')) : K pc L (.ref p :: S) (cw_B σ lam) := st_callV (as := []) hK hf hc rfl hct k
theorem cv1 {ci M' p : Nat} {a : Value} (hK : cw_Kc d M h0 Q K) (hf : cw_tb M pc = some (s_callV ci M' 1 nx)) (hc : cw_cR p = some ci) (hct : cw_ct S ≤ 8) (k : cw_Z d M' [.ref p, a] (cw_B σ lam) (fun r h' => K nx L (r.toList ++ S) h')) : K pc L (a :: .ref p :: S) (cw_B σ lam) := st_callV (as := [a]) hK hf hc rfl hct k
theorem cv2 {ci M' p : Nat} {a b : Value} (hK : cw_Kc d M h0 Q K) (hf : cw_tb M pc = some (s_callV ci M' 2 nx)) (hc : cw_cR p = some ci) (hct : cw_ct S ≤ 8) (k : cw_Z d M' [.ref p, a, b] (cw_B σ lam) (fun r h' => K nx L (r.toList ++ S) h')) : K pc L (b :: a :: .ref p :: S) (cw_B σ lam) := st_callV (as := [a, b]) hK hf hc rfl hct k
theorem cv3 {ci M' p : Nat} {a b c : Value} (hK : cw_Kc d M h0 Q K) (hf : cw_tb M pc = some (s_callV ci M' 3 nx)) (hc : cw_cR p = some ci) (hct : cw_ct S ≤ 8) (k : cw_Z d M' [.ref p, a, b, c] (cw_B σ lam) (fun r h' => K nx L (r.toList ++ S) h')) : K pc L (c :: b :: a :: .ref p :: S) (cw_B σ lam) := st_callV (as := [a, b, c]) hK hf hc rfl hct k
theorem cs1 {M' : Nat} {a : Value} (hK : cw_Kc d M h0 Q K) (hf : cw_tb M pc = some (s_callS M' 1 nx)) (hct : cw_ct S ≤ 8) (k : cw_Z d M' [a] h (fun r h' => K nx L (r.toList ++ S) h')) : K pc L (a :: S) h := st_callS (as := [a]) hK hf rfl hct k
theorem cs2 {M' : Nat} {a b : Value} (hK : cw_Kc d M h0 Q K) (hf : cw_tb M pc = some (s_callS M' 2 nx)) (hct : cw_ct S ≤ 8) (k : cw_Z d M' [a, b] h (fun r h' => K nx L (r.toList ++ S) h')) : K pc L (b :: a :: S) h := st_callS (as := [a, b]) hK hf rfl hct k
theorem cs3 {M' : Nat} {a b c : Value} (hK : cw_Kc d M h0 Q K) (hf : cw_tb M pc = some (s_callS M' 3 nx)) (hct : cw_ct S ≤ 8) (k : cw_Z d M' [a, b, c] h (fun r h' => K nx L (r.toList ++ S) h')) : K pc L (c :: b :: a :: S) h := st_callS (as := [a, b, c]) hK hf rfl hct k
theorem cs4 {M' : Nat} {a b c e : Value} (hK : cw_Kc d M h0 Q K) (hf : cw_tb M pc = some (s_callS M' 4 nx)) (hct : cw_ct S ≤ 8) (k : cw_Z d M' [a, b, c, e] h (fun r h' => K nx L (r.toList ++ S) h')) : K pc L (e :: c :: b :: a :: S) h := st_callS (as := [a, b, c, e]) hK hf rfl hct k
end
end
section
/-! TREES -/
def isT (t : Nat) : Prop := t = 1 ∨ t = 37 ∨ ∃ i : Nat, i < 8 ∧ t = 68 + 9 * i
theorem isT.cases {P : Nat → Prop} {t : Nat} (h : isT t) (h1 : P 1) (h2 : P 37) (h3 : ∀ i, i < 8 → P (68 + 9 * i)) : P t := by
  rcases h with rfl | rfl | ⟨i, hi, rfl⟩
  · exact h1
  · exact h2
  · exact h3 i hi
theorem Tree_f0 {t : Nat} (h : isT t) : cw_fR t 6 0 = some (some (t + 1)) := by
  refine h.cases (P := fun t => cw_fR t 6 0 = some (some (t + 1))) rfl rfl (fun i hi => ?_)
  rcases (show i = 0 ∨ i = 1 ∨ i = 2 ∨ i = 3 ∨ i = 4 ∨ i = 5 ∨ i = 6 ∨ i = 7 by omega) with rfl | rfl | rfl | rfl | rfl | rfl | rfl | rfl <;> rfl
theorem Tree_f1 {t : Nat} (h : isT t) : cw_fR t 6 1 = some (some (t + 2)) := by
  refine h.cases (P := fun t => cw_fR t 6 1 = some (some (t + 2))) rfl rfl (fun i hi => ?_)
  rcases (show i = 0 ∨ i = 1 ∨ i = 2 ∨ i = 3 ∨ i = 4 ∨ i = 5 ∨ i = 6 ∨ i = 7 by omega) with rfl | rfl | rfl | rfl | rfl | rfl | rfl | rfl <;> rfl
theorem Tree_f2 {t : Nat} (h : isT t) : cw_fR t 6 2 = some (some (t + 3)) := by
  refine h.cases (P := fun t => cw_fR t 6 2 = some (some (t + 3))) rfl rfl (fun i hi => ?_)
  rcases (show i = 0 ∨ i = 1 ∨ i = 2 ∨ i = 3 ∨ i = 4 ∨ i = 5 ∨ i = 6 ∨ i = 7 by omega) with rfl | rfl | rfl | rfl | rfl | rfl | rfl | rfl <;> rfl
theorem Tree_f3 {t : Nat} (h : isT t) : cw_fR t 6 3 = some (some (t + 4)) := by
  refine h.cases (P := fun t => cw_fR t 6 3 = some (some (t + 4))) rfl rfl (fun i hi => ?_)
  rcases (show i = 0 ∨ i = 1 ∨ i = 2 ∨ i = 3 ∨ i = 4 ∨ i = 5 ∨ i = 6 ∨ i = 7 by omega) with rfl | rfl | rfl | rfl | rfl | rfl | rfl | rfl <;> rfl
theorem Tree_f4 {t : Nat} (h : isT t) : cw_fR t 6 4 = some (some (t + 5)) := by
  refine h.cases (P := fun t => cw_fR t 6 4 = some (some (t + 5))) rfl rfl (fun i hi => ?_)
  rcases (show i = 0 ∨ i = 1 ∨ i = 2 ∨ i = 3 ∨ i = 4 ∨ i = 5 ∨ i = 6 ∨ i = 7 by omega) with rfl | rfl | rfl | rfl | rfl | rfl | rfl | rfl <;> rfl
theorem Tree_f5 {t : Nat} (h : isT t) : cw_fR t 6 5 = some (some (t + 6)) := by
  refine h.cases (P := fun t => cw_fR t 6 5 = some (some (t + 6))) rfl rfl (fun i hi => ?_)
  rcases (show i = 0 ∨ i = 1 ∨ i = 2 ∨ i = 3 ∨ i = 4 ∨ i = 5 ∨ i = 6 ∨ i = 7 by omega) with rfl | rfl | rfl | rfl | rfl | rfl | rfl | rfl <;> rfl
theorem Tree_f6 {t : Nat} (h : isT t) : cw_fR t 6 6 = some (some (t + 7)) := by
  refine h.cases (P := fun t => cw_fR t 6 6 = some (some (t + 7))) rfl rfl (fun i hi => ?_)
  rcases (show i = 0 ∨ i = 1 ∨ i = 2 ∨ i = 3 ∨ i = 4 ∨ i = 5 ∨ i = 6 ∨ i = 7 by omega) with rfl | rfl | rfl | rfl | rfl | rfl | rfl | rfl <;> rfl
theorem Tree_f7 {t : Nat} (h : isT t) : cw_fR t 6 7 = some (some (t + 8)) := by
  refine h.cases (P := fun t => cw_fR t 6 7 = some (some (t + 8))) rfl rfl (fun i hi => ?_)
  rcases (show i = 0 ∨ i = 1 ∨ i = 2 ∨ i = 3 ∨ i = 4 ∨ i = 5 ∨ i = 6 ∨ i = 7 by omega) with rfl | rfl | rfl | rfl | rfl | rfl | rfl | rfl <;> rfl
theorem Tree_f8 {t : Nat} (h : isT t) : cw_fR t 6 8 = some none := by
  refine h.cases (P := fun t => cw_fR t 6 8 = some none) rfl rfl (fun i hi => ?_)
  rcases (show i = 0 ∨ i = 1 ∨ i = 2 ∨ i = 3 ∨ i = 4 ∨ i = 5 ∨ i = 6 ∨ i = 7 by omega) with rfl | rfl | rfl | rfl | rfl | rfl | rfl | rfl <;> rfl
theorem Tree_f9 {t : Nat} (h : isT t) : cw_fR t 6 9 = some none := by
  refine h.cases (P := fun t => cw_fR t 6 9 = some none) rfl rfl (fun i hi => ?_)
  rcases (show i = 0 ∨ i = 1 ∨ i = 2 ∨ i = 3 ∨ i = 4 ∨ i = 5 ∨ i = 6 ∨ i = 7 by omega) with rfl | rfl | rfl | rfl | rfl | rfl | rfl | rfl <;> rfl
theorem Tree_f10 {t : Nat} (h : isT t) : cw_fR t 6 10 = some none := by
  refine h.cases (P := fun t => cw_fR t 6 10 = some none) rfl rfl (fun i hi => ?_)
  rcases (show i = 0 ∨ i = 1 ∨ i = 2 ∨ i = 3 ∨ i = 4 ∨ i = 5 ∨ i = 6 ∨ i = 7 by omega) with rfl | rfl | rfl | rfl | rfl | rfl | rfl | rfl <;> rfl
theorem Tree_f11 {t : Nat} (h : isT t) : cw_fR t 6 11 = some none := by
  refine h.cases (P := fun t => cw_fR t 6 11 = some none) rfl rfl (fun i hi => ?_)
  rcases (show i = 0 ∨ i = 1 ∨ i = 2 ∨ i = 3 ∨ i = 4 ∨ i = 5 ∨ i = 6 ∨ i = 7 by omega) with rfl | rfl | rfl | rfl | rfl | rfl | rfl | rfl <;> rfl
theorem Tree_a0 {t : Nat} (h : isT t) : cw_aR (t + 1) = some (0, 8, 0, 0) := by
  refine h.cases (P := fun t => cw_aR (t + 1) = some (0, 8, 0, 0)) rfl rfl (fun i hi => ?_)
  rcases (show i = 0 ∨ i = 1 ∨ i = 2 ∨ i = 3 ∨ i = 4 ∨ i = 5 ∨ i = 6 ∨ i = 7 by omega) with rfl | rfl | rfl | rfl | rfl | rfl | rfl | rfl <;> rfl
theorem Tree_a1 {t : Nat} (h : isT t) : cw_aR (t + 2) = some (0, 8, 0, 0) := by
  refine h.cases (P := fun t => cw_aR (t + 2) = some (0, 8, 0, 0)) rfl rfl (fun i hi => ?_)
  rcases (show i = 0 ∨ i = 1 ∨ i = 2 ∨ i = 3 ∨ i = 4 ∨ i = 5 ∨ i = 6 ∨ i = 7 by omega) with rfl | rfl | rfl | rfl | rfl | rfl | rfl | rfl <;> rfl
theorem Tree_a2 {t : Nat} (h : isT t) : cw_aR (t + 3) = some (0, 8, 0, 0) := by
  refine h.cases (P := fun t => cw_aR (t + 3) = some (0, 8, 0, 0)) rfl rfl (fun i hi => ?_)
  rcases (show i = 0 ∨ i = 1 ∨ i = 2 ∨ i = 3 ∨ i = 4 ∨ i = 5 ∨ i = 6 ∨ i = 7 by omega) with rfl | rfl | rfl | rfl | rfl | rfl | rfl | rfl <;> rfl
theorem Tree_a3 {t : Nat} (h : isT t) : cw_aR (t + 4) = some (0, 8, 0, 0) := by
  refine h.cases (P := fun t => cw_aR (t + 4) = some (0, 8, 0, 0)) rfl rfl (fun i hi => ?_)
  rcases (show i = 0 ∨ i = 1 ∨ i = 2 ∨ i = 3 ∨ i = 4 ∨ i = 5 ∨ i = 6 ∨ i = 7 by omega) with rfl | rfl | rfl | rfl | rfl | rfl | rfl | rfl <;> rfl
theorem Tree_a4 {t : Nat} (h : isT t) : cw_aR (t + 5) = some (0, 8, 0, 0) := by
  refine h.cases (P := fun t => cw_aR (t + 5) = some (0, 8, 0, 0)) rfl rfl (fun i hi => ?_)
  rcases (show i = 0 ∨ i = 1 ∨ i = 2 ∨ i = 3 ∨ i = 4 ∨ i = 5 ∨ i = 6 ∨ i = 7 by omega) with rfl | rfl | rfl | rfl | rfl | rfl | rfl | rfl <;> rfl
theorem Tree_a5 {t : Nat} (h : isT t) : cw_aR (t + 6) = some (0, 15, 0, 0) := by
  refine h.cases (P := fun t => cw_aR (t + 6) = some (0, 15, 0, 0)) rfl rfl (fun i hi => ?_)
  rcases (show i = 0 ∨ i = 1 ∨ i = 2 ∨ i = 3 ∨ i = 4 ∨ i = 5 ∨ i = 6 ∨ i = 7 by omega) with rfl | rfl | rfl | rfl | rfl | rfl | rfl | rfl <;> rfl
theorem Tree_a6 {t : Nat} (h : isT t) : cw_aR (t + 7) = some (0, 15, 0, 0) := by
  refine h.cases (P := fun t => cw_aR (t + 7) = some (0, 15, 0, 0)) rfl rfl (fun i hi => ?_)
  rcases (show i = 0 ∨ i = 1 ∨ i = 2 ∨ i = 3 ∨ i = 4 ∨ i = 5 ∨ i = 6 ∨ i = 7 by omega) with rfl | rfl | rfl | rfl | rfl | rfl | rfl | rfl <;> rfl
theorem Tree_a7 {t : Nat} (h : isT t) : cw_aR (t + 8) = some (0, 15, 0, 0) := by
  refine h.cases (P := fun t => cw_aR (t + 8) = some (0, 15, 0, 0)) rfl rfl (fun i hi => ?_)
  rcases (show i = 0 ∨ i = 1 ∨ i = 2 ∨ i = 3 ∨ i = 4 ∨ i = 5 ∨ i = 6 ∨ i = 7 by omega) with rfl | rfl | rfl | rfl | rfl | rfl | rfl | rfl <;> rfl
theorem Tree_c {t : Nat} (h : isT t) : cw_cR t = some 6 := by
  refine h.cases (P := fun t => cw_cR t = some 6) rfl rfl (fun i hi => ?_)
  rcases (show i = 0 ∨ i = 1 ∨ i = 2 ∨ i = 3 ∨ i = 4 ∨ i = 5 ∨ i = 6 ∨ i = 7 by omega) with rfl | rfl | rfl | rfl | rfl | rfl | rfl | rfl <;> rfl
theorem cw_in_iff {i : Int32} {n : Nat} : cw_in i n = true ↔ 0 ≤ i.toInt ∧ i.toInt < n := by
  unfold cw_in
  simp only [Bool.and_eq_true, decide_eq_true_eq, Int32.not_lt, Int32.le_iff_toInt_le]
  show (0 : Int32).toInt ≤ i.toInt ∧ i.toInt.toNat < n ↔ _
  have : (0 : Int32).toInt = 0 := by decide
  rw [this]
  omega
theorem cw_in_of {i : Int32} {n : Nat} {m : Int32} (h1 : ¬ i < 0) (h2 : i < m) (hm : m.toInt = n) : cw_in i n = true := by
  rw [cw_in_iff]
  have e1 : (0 : Int32).toInt = 0 := by decide
  rw [Int32.lt_iff_toInt_lt] at h1 h2
  omega
theorem i_nle {x y : Int32} (h : ¬ x ≤ y) : y < x := Int32.not_le.mp h
theorem i_nlt {x y : Int32} (h : ¬ x < y) : y ≤ x := Int32.not_lt.mp h
/-- there is such a sink; such a node; such a joint; it is a top -/
def hSink (σ : cw_V) (t : Nat) (k : Int32) : Prop := 0 ≤ k ∧ k < σ t 8 ∧ k < 8
def hNode (σ : cw_V) (t : Nat) (n : Int32) : Prop := 0 ≤ n ∧ n < 15 ∧ ((n < 8 ∧ n < σ t 8) ∨ (8 ≤ n ∧ σ (t + 6) n.toNatClampNeg ≠ -1))
def hJoint (σ : cw_V) (t : Nat) (n : Int32) : Prop := 8 ≤ n ∧ n < 15 ∧ σ (t + 6) n.toNatClampNeg ≠ -1
def hTop (σ : cw_V) (t : Nat) (n : Int32) : Prop := hNode σ t n ∧ σ (t + 8) n.toNatClampNeg = -1
theorem i_ge0 {n : Int32} (h : 8 ≤ n) : ¬ n < 0 := by
  rw [Int32.lt_iff_toInt_lt]
  rw [Int32.le_iff_toInt_le] at h
  have e1 : (0 : Int32).toInt = 0 := by decide
  have e2 : (8 : Int32).toInt = 8 := by decide
  omega
theorem i_in15 {n : Int32} (h1 : ¬ n < 0) (h2 : n < 15) : cw_in n 15 = true := cw_in_of h1 h2 (by decide)
theorem i_in8 {n : Int32} (h1 : ¬ n < 0) (h2 : n < 8) : cw_in n 8 = true := cw_in_of h1 h2 (by decide)
section
variable {d t : Nat} {σ : cw_V} {lam : Nat → Int64} {Q : cw_Q} {n k : Int32}
theorem z_hasSink (ht : isT t) (k1 : hSink σ t n → Q (some (.int 1)) (cw_B σ lam)) (k0 : ¬ hSink σ t n → Q (some (.int 0)) (cw_B σ lam)) : cw_Z (d + 1) m_Tree_hasSink [.ref t, .int n] (cw_B σ lam) Q := by
  refine zi (L := [some (.ref t), some (.int n)]) rfl rfl (fun K hK => ?_)
  refine st_go hK rfl rfl ?_
  refine st_if hK rfl rfl (fun c1 => ?_) (fun c1 => ?_)
  · refine st_go hK rfl rfl ?_
    refine st_zret hK rfl (Or.inl rfl) ?_
    exact k0 (fun q => (by first | exact absurd q.1 (Int32.not_le.mpr c1) | exact absurd q.2.1 (Int32.not_lt.mpr c9) | exact absurd q.2.2 (Int32.not_lt.mpr c15)))
  · refine st_go hK rfl rfl ?_
    refine st_go hK rfl rfl ?_
    refine st_geti hK rfl (Tree_f8 ht) ?_
    refine st_if hK rfl rfl (fun c9 => ?_) (fun c9 => ?_)
    · refine st_go hK rfl rfl ?_
      refine st_zret hK rfl (Or.inl rfl) ?_
      exact k0 (fun q => (by first | exact absurd q.1 (Int32.not_le.mpr c1) | exact absurd q.2.1 (Int32.not_lt.mpr c9) | exact absurd q.2.2 (Int32.not_lt.mpr c15)))
    · refine st_go hK rfl rfl ?_
      refine st_go hK rfl rfl ?_
      refine st_if hK rfl rfl (fun c15 => ?_) (fun c15 => ?_)
      · refine st_go hK rfl rfl ?_
        refine st_zret hK rfl (Or.inl rfl) ?_
        exact k0 (fun q => (by first | exact absurd q.1 (Int32.not_le.mpr c1) | exact absurd q.2.1 (Int32.not_lt.mpr c9) | exact absurd q.2.2 (Int32.not_lt.mpr c15)))
      · refine st_go hK rfl rfl ?_
        refine st_go hK rfl rfl ?_
        refine st_zret hK rfl (Or.inr rfl) ?_
        exact k1 ⟨i_nlt c1, i_nle c9, i_nle c15⟩
theorem z_hasNode (ht : isT t) (k1 : hNode σ t n → Q (some (.int 1)) (cw_B σ lam)) (k0 : ¬ hNode σ t n → Q (some (.int 0)) (cw_B σ lam)) : cw_Z (d + 1) m_Tree_hasNode [.ref t, .int n] (cw_B σ lam) Q := by
  refine zi (L := [some (.ref t), some (.int n)]) rfl rfl (fun K hK => ?_)
  refine st_go hK rfl rfl ?_
  refine st_if hK rfl rfl (fun c1 => ?_) (fun c1 => ?_)
  · refine st_go hK rfl rfl ?_
    refine st_zret hK rfl (Or.inl rfl) ?_
    exact k0 (fun q => (by first | exact absurd q.1 (Int32.not_le.mpr c1) | exact absurd q.2.1 (Int32.not_lt.mpr c7) | exact q.2.2.elim (fun z => absurd z.2 (Int32.not_lt.mpr c21)) (fun z => absurd z.1 (Int32.not_le.mpr (i_nle c13))) | exact q.2.2.elim (fun z => absurd z.1 (Int32.not_lt.mpr c13)) (fun z => z.2 c34)))
  · refine st_go hK rfl rfl ?_
    refine st_go hK rfl rfl ?_
    refine st_if hK rfl rfl (fun c7 => ?_) (fun c7 => ?_)
    · refine st_go hK rfl rfl ?_
      refine st_zret hK rfl (Or.inl rfl) ?_
      exact k0 (fun q => (by first | exact absurd q.1 (Int32.not_le.mpr c1) | exact absurd q.2.1 (Int32.not_lt.mpr c7) | exact q.2.2.elim (fun z => absurd z.2 (Int32.not_lt.mpr c21)) (fun z => absurd z.1 (Int32.not_le.mpr (i_nle c13))) | exact q.2.2.elim (fun z => absurd z.1 (Int32.not_lt.mpr c13)) (fun z => z.2 c34)))
    · refine st_go hK rfl rfl ?_
      refine st_go hK rfl rfl ?_
      refine st_if hK rfl rfl (fun c13 => ?_) (fun c13 => ?_)
      · refine st_go hK rfl rfl ?_
        refine st_getr hK rfl (Tree_f5 ht) ?_
        refine st_go hK rfl rfl ?_
        refine st_iald hK rfl (Tree_a5 ht) (i_in15 c1 (i_nle c7)) ?_
        refine st_go hK rfl rfl ?_
        refine st_if hK rfl rfl (fun c34 => ?_) (fun c34 => ?_)
        · refine st_go hK rfl rfl ?_
          refine st_zret hK rfl (Or.inl rfl) ?_
          exact k0 (fun q => (by first | exact absurd q.1 (Int32.not_le.mpr c1) | exact absurd q.2.1 (Int32.not_lt.mpr c7) | exact q.2.2.elim (fun z => absurd z.2 (Int32.not_lt.mpr c21)) (fun z => absurd z.1 (Int32.not_le.mpr (i_nle c13))) | exact q.2.2.elim (fun z => absurd z.1 (Int32.not_lt.mpr c13)) (fun z => z.2 c34)))
        · refine st_go hK rfl rfl ?_
          refine st_go hK rfl rfl ?_
          refine st_zret hK rfl (Or.inr rfl) ?_
          first
            | exact k1 ⟨i_nlt c1, i_nle c7, Or.inl ⟨i_nle c13, i_nle c21⟩⟩
            | exact k1 ⟨i_nlt c1, i_nle c7, Or.inr ⟨c13, c34⟩⟩
      · refine st_go hK rfl rfl ?_
        refine st_go hK rfl rfl ?_
        refine st_geti hK rfl (Tree_f8 ht) ?_
        refine st_if hK rfl rfl (fun c21 => ?_) (fun c21 => ?_)
        · refine st_go hK rfl rfl ?_
          refine st_zret hK rfl (Or.inl rfl) ?_
          exact k0 (fun q => (by first | exact absurd q.1 (Int32.not_le.mpr c1) | exact absurd q.2.1 (Int32.not_lt.mpr c7) | exact q.2.2.elim (fun z => absurd z.2 (Int32.not_lt.mpr c21)) (fun z => absurd z.1 (Int32.not_le.mpr (i_nle c13))) | exact q.2.2.elim (fun z => absurd z.1 (Int32.not_lt.mpr c13)) (fun z => z.2 c34)))
        · refine st_go hK rfl rfl ?_
          refine st_go hK rfl rfl ?_
          refine st_go hK rfl rfl ?_
          refine st_zret hK rfl (Or.inr rfl) ?_
          first
            | exact k1 ⟨i_nlt c1, i_nle c7, Or.inl ⟨i_nle c13, i_nle c21⟩⟩
            | exact k1 ⟨i_nlt c1, i_nle c7, Or.inr ⟨c13, c34⟩⟩
theorem z_isJoint (ht : isT t) (k1 : hJoint σ t n → Q (some (.int 1)) (cw_B σ lam)) (k0 : ¬ hJoint σ t n → Q (some (.int 0)) (cw_B σ lam)) : cw_Z (d + 1) m_Tree_isJoint [.ref t, .int n] (cw_B σ lam) Q := by
  refine zi (L := [some (.ref t), some (.int n)]) rfl rfl (fun K hK => ?_)
  refine st_go hK rfl rfl ?_
  refine st_go hK rfl rfl ?_
  refine st_if hK rfl rfl (fun c3 => ?_) (fun c3 => ?_)
  · refine st_go hK rfl rfl ?_
    refine st_zret hK rfl (Or.inl rfl) ?_
    exact k0 (fun q => (by first | exact absurd q.1 (Int32.not_le.mpr c3) | exact absurd q.2.1 (Int32.not_lt.mpr c9) | exact q.2.2 c19))
  · refine st_go hK rfl rfl ?_
    refine st_go hK rfl rfl ?_
    refine st_if hK rfl rfl (fun c9 => ?_) (fun c9 => ?_)
    · refine st_go hK rfl rfl ?_
      refine st_zret hK rfl (Or.inl rfl) ?_
      exact k0 (fun q => (by first | exact absurd q.1 (Int32.not_le.mpr c3) | exact absurd q.2.1 (Int32.not_lt.mpr c9) | exact q.2.2 c19))
    · refine st_go hK rfl rfl ?_
      refine st_getr hK rfl (Tree_f5 ht) ?_
      refine st_go hK rfl rfl ?_
      refine st_iald hK rfl (Tree_a5 ht) (i_in15 (i_ge0 (i_nlt c3)) (i_nle c9)) ?_
      refine st_go hK rfl rfl ?_
      refine st_if hK rfl rfl (fun c19 => ?_) (fun c19 => ?_)
      · refine st_go hK rfl rfl ?_
        refine st_zret hK rfl (Or.inl rfl) ?_
        exact k0 (fun q => (by first | exact absurd q.1 (Int32.not_le.mpr c3) | exact absurd q.2.1 (Int32.not_lt.mpr c9) | exact q.2.2 c19))
      · refine st_go hK rfl rfl ?_
        refine st_go hK rfl rfl ?_
        refine st_zret hK rfl (Or.inr rfl) ?_
        exact k1 ⟨i_nlt c3, i_nle c9, c19⟩
theorem hNode.in {σ : cw_V} {t : Nat} {n : Int32} (h : hNode σ t n) : cw_in n 15 = true := i_in15 (Int32.not_lt.mpr h.1) h.2.1
theorem hSink.in {σ : cw_V} {t : Nat} {n : Int32} (h : hSink σ t n) : cw_in n 8 = true := i_in8 (Int32.not_lt.mpr h.1) h.2.2
theorem hJoint.in {σ : cw_V} {t : Nat} {n : Int32} (h : hJoint σ t n) : cw_in n 15 = true := i_in15 (i_ge0 h.1) h.2.1
theorem z_isTop (ht : isT t) (k1 : hTop σ t n → Q (some (.int 1)) (cw_B σ lam)) (k0 : ¬ hTop σ t n → Q (some (.int 0)) (cw_B σ lam)) : cw_Z (d + 2) m_Tree_isTop [.ref t, .int n] (cw_B σ lam) Q := by
  refine zi (L := [some (.ref t), some (.int n)]) rfl rfl (fun K hK => ?_)
  refine st_go hK rfl rfl ?_
  refine st_go hK rfl rfl ?_
  refine cv1 hK rfl (Tree_c ht) (Nat.le_of_ble_eq_true rfl) ?_
  refine z_hasNode ht (fun hn => ?_) (fun hn => ?_)
  · change K _ _ (_ :: _) _
    refine st_if hK rfl rfl (fun c => absurd c (by decide)) (fun _ => ?_)
    refine st_go hK rfl rfl ?_
    refine st_getr hK rfl (Tree_f7 ht) ?_
    refine st_go hK rfl rfl ?_
    refine st_iald hK rfl (Tree_a7 ht) hn.in ?_
    refine st_go hK rfl rfl ?_
    refine st_if hK rfl rfl (fun c15 => ?_) (fun c15 => ?_)
    · refine st_go hK rfl rfl ?_
      refine st_zret hK rfl (Or.inl rfl) ?_
      exact k0 (fun q => (by first | exact hn q.1 | exact c15 q.2))
    · refine st_go hK rfl rfl ?_
      refine st_go hK rfl rfl ?_
      refine st_zret hK rfl (Or.inr rfl) ?_
      exact k1 ⟨hn, Classical.not_not.mp c15⟩
  · change K _ _ (_ :: _) _
    refine st_if hK rfl rfl (fun _ => ?_) (fun c => absurd (by decide) c)
    refine st_go hK rfl rfl ?_
    refine st_zret hK rfl (Or.inl rfl) ?_
    exact k0 (fun q => (by first | exact hn q.1 | exact c15 q.2))
theorem z_leftOf (ht : isT t) (k1 : hNode σ t n → Q (some (.int (σ (t + 6) n.toNatClampNeg))) (cw_B σ lam)) (k0 : ¬ hNode σ t n → Q (some (.int (-1))) (cw_B σ lam)) : cw_Z (d + 2) m_Tree_leftOf [.ref t, .int n] (cw_B σ lam) Q := by
  refine zi (L := [some (.ref t), some (.int n)]) rfl rfl (fun K hK => ?_)
  refine st_go hK rfl rfl ?_
  refine st_go hK rfl rfl ?_
  refine cv1 hK rfl (Tree_c ht) (Nat.le_of_ble_eq_true rfl) ?_
  refine z_hasNode ht (fun hn => ?_) (fun hn => ?_)
  · change K _ _ (_ :: _) _
    refine st_if hK rfl rfl (fun c => absurd c (by decide)) (fun _ => ?_)
    refine st_go hK rfl rfl ?_
    refine st_getr hK rfl (Tree_f5 ht) ?_
    refine st_go hK rfl rfl ?_
    refine st_iald hK rfl (Tree_a5 ht) hn.in ?_
    refine st_go hK rfl rfl ?_
    refine st_ret hK rfl rfl ?_
    first
      | exact k1 hn
      | exact k0 hn
  · change K _ _ (_ :: _) _
    refine st_if hK rfl rfl (fun _ => ?_) (fun c => absurd (by decide) c)
    refine st_go hK rfl rfl ?_
    refine st_ret hK rfl rfl ?_
    first
      | exact k1 hn
      | exact k0 hn
theorem z_rightOf (ht : isT t) (k1 : hNode σ t n → Q (some (.int (σ (t + 7) n.toNatClampNeg))) (cw_B σ lam)) (k0 : ¬ hNode σ t n → Q (some (.int (-1))) (cw_B σ lam)) : cw_Z (d + 2) m_Tree_rightOf [.ref t, .int n] (cw_B σ lam) Q := by
  refine zi (L := [some (.ref t), some (.int n)]) rfl rfl (fun K hK => ?_)
  refine st_go hK rfl rfl ?_
  refine st_go hK rfl rfl ?_
  refine cv1 hK rfl (Tree_c ht) (Nat.le_of_ble_eq_true rfl) ?_
  refine z_hasNode ht (fun hn => ?_) (fun hn => ?_)
  · change K _ _ (_ :: _) _
    refine st_if hK rfl rfl (fun c => absurd c (by decide)) (fun _ => ?_)
    refine st_go hK rfl rfl ?_
    refine st_getr hK rfl (Tree_f6 ht) ?_
    refine st_go hK rfl rfl ?_
    refine st_iald hK rfl (Tree_a6 ht) hn.in ?_
    refine st_go hK rfl rfl ?_
    refine st_ret hK rfl rfl ?_
    first
      | exact k1 hn
      | exact k0 hn
  · change K _ _ (_ :: _) _
    refine st_if hK rfl rfl (fun _ => ?_) (fun c => absurd (by decide) c)
    refine st_go hK rfl rfl ?_
    refine st_ret hK rfl rfl ?_
    first
      | exact k1 hn
      | exact k0 hn
theorem z_parentOf (ht : isT t) (k1 : hNode σ t n → Q (some (.int (σ (t + 8) n.toNatClampNeg))) (cw_B σ lam)) (k0 : ¬ hNode σ t n → Q (some (.int (-1))) (cw_B σ lam)) : cw_Z (d + 2) m_Tree_parentOf [.ref t, .int n] (cw_B σ lam) Q := by
  refine zi (L := [some (.ref t), some (.int n)]) rfl rfl (fun K hK => ?_)
  refine st_go hK rfl rfl ?_
  refine st_go hK rfl rfl ?_
  refine cv1 hK rfl (Tree_c ht) (Nat.le_of_ble_eq_true rfl) ?_
  refine z_hasNode ht (fun hn => ?_) (fun hn => ?_)
  · change K _ _ (_ :: _) _
    refine st_if hK rfl rfl (fun c => absurd c (by decide)) (fun _ => ?_)
    refine st_go hK rfl rfl ?_
    refine st_getr hK rfl (Tree_f7 ht) ?_
    refine st_go hK rfl rfl ?_
    refine st_iald hK rfl (Tree_a7 ht) hn.in ?_
    refine st_go hK rfl rfl ?_
    refine st_ret hK rfl rfl ?_
    first
      | exact k1 hn
      | exact k0 hn
  · change K _ _ (_ :: _) _
    refine st_if hK rfl rfl (fun _ => ?_) (fun c => absurd (by decide) c)
    refine st_go hK rfl rfl ?_
    refine st_ret hK rfl rfl ?_
    first
      | exact k1 hn
      | exact k0 hn
theorem z_touchedBefore (ht : isT t) (k1 : hSink σ t n → Q (some (.int (σ (t + 5) n.toNatClampNeg))) (cw_B σ lam)) (k0 : ¬ hSink σ t n → Q (some (.int (-1))) (cw_B σ lam)) : cw_Z (d + 2) m_Tree_touchedBefore [.ref t, .int n] (cw_B σ lam) Q := by
  refine zi (L := [some (.ref t), some (.int n)]) rfl rfl (fun K hK => ?_)
  refine st_go hK rfl rfl ?_
  refine st_go hK rfl rfl ?_
  refine cv1 hK rfl (Tree_c ht) (Nat.le_of_ble_eq_true rfl) ?_
  refine z_hasSink ht (fun hn => ?_) (fun hn => ?_)
  · change K _ _ (_ :: _) _
    refine st_if hK rfl rfl (fun c => absurd c (by decide)) (fun _ => ?_)
    refine st_go hK rfl rfl ?_
    refine st_getr hK rfl (Tree_f4 ht) ?_
    refine st_go hK rfl rfl ?_
    refine st_iald hK rfl (Tree_a4 ht) hn.in ?_
    refine st_go hK rfl rfl ?_
    refine st_ret hK rfl rfl ?_
    first
      | exact k1 hn
      | exact k0 hn
  · change K _ _ (_ :: _) _
    refine st_if hK rfl rfl (fun _ => ?_) (fun c => absurd (by decide) c)
    refine st_go hK rfl rfl ?_
    refine st_ret hK rfl rfl ?_
    first
      | exact k1 hn
      | exact k0 hn
theorem lit_le {a i : Nat} (ha : a < 2 ^ 31) (hi : i < 2 ^ 31) : ((OfNat.ofNat a : Int32) ≤ nI i) ↔ a ≤ i := nI_leI (a := a) (b := i) ha hi
theorem lit_lt {a i : Nat} (ha : a < 2 ^ 31) (hi : i < 2 ^ 31) : (nI i < (OfNat.ofNat a : Int32)) ↔ i < a := nI_ltI (a := i) (b := a) hi ha
theorem yle {a i : Nat} (ha : a < 2 ^ 31) (hi : i < 2 ^ 31) (h : (OfNat.ofNat a : Int32) ≤ nI i) : a ≤ i := (lit_le ha hi).mp h
theorem nle {a i : Nat} (ha : a < 2 ^ 31) (hi : i < 2 ^ 31) (h : ¬ ((OfNat.ofNat a : Int32) ≤ nI i)) : i < a := Nat.not_le.mp (fun z => h ((lit_le ha hi).mpr z))
theorem cw_in_nI {i n : Nat} (h : i < n) (hn : n < 2 ^ 31) : cw_in (nI i) n = true := by
  rw [cw_in_iff, nI_toInt (by omega)]
  omega
theorem up_ne {σ : cw_V} {p q k : Nat} {x : Int32} (h : q ≠ p) : cw_up σ p k x q = σ q := if_neg h
theorem up_eq {σ : cw_V} {p k : Nat} {x : Int32} : cw_up σ p k x p = upd (σ p) k x := if_pos rfl
theorem upd_eq {f : Nat → Int32} {k : Nat} {x : Int32} : upd f k x k = x := if_pos rfl
theorem upd_ne {f : Nat → Int32} {k j : Nat} {x : Int32} (h : j ≠ k) : upd f k x j = f j := if_neg h
theorem hJoint_nI {σ : cw_V} {t j : Nat} (h8 : 8 ≤ j) (h15 : j < 15) : hJoint σ t (nI j) ↔ σ (t + 6) j ≠ -1 := by
  unfold hJoint
  rw [nI_clamp (by omega)]
  exact ⟨fun q => q.2.2, fun q => ⟨(lit_le (a := 8) (by decide) (by omega)).mpr h8, (lit_lt (a := 15) (by decide) (by omega)).mpr h15, q⟩⟩
/-- how many joints there are among the first m -/
def jcN (σ : cw_V) (t : Nat) : Nat → Nat
  | 0 => 0
  | m + 1 => jcN σ t m + (if σ (t + 6) (8 + m) ≠ -1 then 1 else 0)
theorem z_jointCount (ht : isT t) (k : Q (some (.int (nI (jcN σ t 7)))) (cw_B σ lam)) : cw_Z (d + 2) m_Tree_jointCount [.ref t] (cw_B σ lam) Q := by
  refine zi (L := [some (.ref t), none, none]) rfl rfl (fun K hK => ?_)
  have loop : ∀ m i, 7 < i + m → i ≤ 7 → K 5 [some (.ref t), some (.int (nI (jcN σ t i))), some (.int (nI (8 + i)))] [] (cw_B σ lam) := by
    intro m
    induction m with
    | zero => intro i hi h7; omega
    | succ m ih =>
      intro i hi h7
      refine st_go hK rfl rfl ?_
      refine st_go hK rfl rfl ?_
      refine st_if hK rfl rfl (fun c8 => ?_) (fun c8 => ?_)
      · refine st_go hK rfl rfl ?_
        refine st_ret hK rfl rfl ?_
        have e : i = 7 := by
          have := yle (a := 15) (i := 8 + i) (by decide) (by omega) c8
          omega
        subst e
        exact k
      · refine st_go hK rfl rfl ?_
        refine st_go hK rfl rfl ?_
        refine cv1 hK rfl (Tree_c ht) (Nat.le_of_ble_eq_true rfl) ?_
        refine z_isJoint ht (fun hn => ?_) (fun hn => ?_)
        · change K _ _ (_ :: _) _
          refine st_if hK rfl rfl (fun c => absurd c (by decide)) (fun _ => ?_)
          refine st_go hK rfl rfl ?_
          refine st_go hK rfl rfl ?_
          refine st_go hK rfl rfl ?_
          have hlt : i + 1 ≤ 7 := by
            have := nle (a := 15) (i := 8 + i) (by decide) (by omega) c8
            omega
          rw [hJoint_nI (by omega) (by omega)] at hn
          first
            | (have e : jcN σ t (i + 1) = jcN σ t i + 1 := by show jcN σ t i + _ = _; rw [if_pos hn]
               have := ih (i + 1) (by omega) hlt
               rw [e, ← nI_1, show 8 + (i + 1) = (8 + i) + 1 by omega, ← nI_1] at this
               exact this)
            | (have e : jcN σ t (i + 1) = jcN σ t i := by show jcN σ t i + _ = _; rw [if_neg hn]; rfl
               have := ih (i + 1) (by omega) hlt
               rw [e, show 8 + (i + 1) = (8 + i) + 1 by omega, ← nI_1] at this
               exact this)
        · change K _ _ (_ :: _) _
          refine st_if hK rfl rfl (fun _ => ?_) (fun c => absurd (by decide) c)
          refine st_go hK rfl rfl ?_
          refine st_go hK rfl rfl ?_
          have hlt : i + 1 ≤ 7 := by
            have := nle (a := 15) (i := 8 + i) (by decide) (by omega) c8
            omega
          rw [hJoint_nI (by omega) (by omega)] at hn
          first
            | (have e : jcN σ t (i + 1) = jcN σ t i + 1 := by show jcN σ t i + _ = _; rw [if_pos hn]
               have := ih (i + 1) (by omega) hlt
               rw [e, ← nI_1, show 8 + (i + 1) = (8 + i) + 1 by omega, ← nI_1] at this
               exact this)
            | (have e : jcN σ t (i + 1) = jcN σ t i := by show jcN σ t i + _ = _; rw [if_neg hn]; rfl
               have := ih (i + 1) (by omega) hlt
               rw [e, show 8 + (i + 1) = (8 + i) + 1 by omega, ← nI_1] at this
               exact this)
  refine st_go hK rfl rfl ?_
  refine st_go hK rfl rfl ?_
  refine st_go hK rfl rfl ?_
  refine st_go hK rfl rfl ?_
  exact loop 8 0 (by decide) (by decide)
/-- the first index from i on, of m, for which P; else -1 -/
def ff (P : Nat → Bool) : Nat → Nat → Int32
  | 0, _ => -1
  | m + 1, i => if P i then nI i else ff P m (i + 1)
theorem ff_pos {P : Nat → Bool} {m i : Nat} (h : P i = true) : ff P (m + 1) i = nI i := if_pos h
theorem ff_neg {P : Nat → Bool} {m i : Nat} (h : ¬ P i = true) : ff P (m + 1) i = ff P m (i + 1) := if_neg h
def atP (σ : cw_V) (t : Nat) (X Y : Int32) (i : Nat) : Bool := decide (σ (t + 1) i = X) && decide (σ (t + 2) i = Y)
theorem z_sinkAt {X Y : Int32} {s : Nat} (ht : isT t) (hs : σ t 8 = nI s) (h8 : s ≤ 8) (k : Q (some (.int (ff (atP σ t X Y) s 0))) (cw_B σ lam)) : cw_Z (d + 1) m_Tree_sinkAt [.ref t, .int X, .int Y] (cw_B σ lam) Q := by
  refine zi (L := [some (.ref t), some (.int X), some (.int Y), none]) rfl rfl (fun K hK => ?_)
  have loop : ∀ m i m1, s < i + m → i ≤ s → i + m1 = s → Q (some (.int (ff (atP σ t X Y) m1 i))) (cw_B σ lam) → K 2 [some (.ref t), some (.int X), some (.int Y), some (.int (nI i))] [] (cw_B σ lam) := by
    intro m
    induction m with
    | zero => intro i m1 hi h7; omega
    | succ m ih =>
      intro i m1 hi h7 h9 kk
      refine st_go hK rfl rfl ?_
      refine st_go hK rfl rfl ?_
      refine st_geti hK rfl (Tree_f8 ht) ?_
      rw [hs]
      refine st_if hK rfl rfl (fun c7 => ?_) (fun c7 => ?_)
      · refine st_go hK rfl rfl ?_
        refine st_ret hK rfl rfl ?_
        have e : m1 = 0 := by
          first
            | (have c7 : nI s ≤ nI i := c7; rw [nI_leI (by omega) (by omega)] at c7; omega)
            | (have := yle (a := 8) (i := i) (by decide) (by omega) c13; omega)
        subst e
        exact kk
      · refine st_go hK rfl rfl ?_
        refine st_go hK rfl rfl ?_
        refine st_if hK rfl rfl (fun c13 => ?_) (fun c13 => ?_)
        · refine st_go hK rfl rfl ?_
          refine st_ret hK rfl rfl ?_
          have e : m1 = 0 := by
            first
              | (have c7 : nI s ≤ nI i := c7; rw [nI_leI (by omega) (by omega)] at c7; omega)
              | (have := yle (a := 8) (i := i) (by decide) (by omega) c13; omega)
          subst e
          exact kk
        · refine st_go hK rfl rfl ?_
          refine st_getr hK rfl (Tree_f0 ht) ?_
          refine st_go hK rfl rfl ?_
          refine st_iald hK rfl (Tree_a0 ht) (cw_in_nI (n := 8) (nle (a := 8) (i := i) (by decide) (by omega) c13) (by decide)) ?_
          refine st_go hK rfl rfl ?_
          refine st_if hK rfl rfl (fun c23 => ?_) (fun c23 => ?_)
          · refine st_go hK rfl rfl ?_
            refine st_go hK rfl rfl ?_
            first | rw [nI_clamp (by omega)] at c33 | skip
            rw [nI_clamp (by omega)] at c23
            have c7 : ¬ nI s ≤ nI i := c7
            rw [nI_leI (by omega) (by omega)] at c7
            obtain ⟨q, rfl⟩ : ∃ q, m1 = q + 1 := ⟨m1 - 1, by omega⟩
            rw [ff_neg (by unfold atP; first | (simp [c23]; done) | (simp [c33]; done))] at kk
            have := ih (i + 1) q (by omega) (by omega) (by omega) kk
            rw [← nI_1] at this
            exact this
          · refine st_go hK rfl rfl ?_
            refine st_getr hK rfl (Tree_f1 ht) ?_
            refine st_go hK rfl rfl ?_
            refine st_iald hK rfl (Tree_a1 ht) (cw_in_nI (n := 8) (nle (a := 8) (i := i) (by decide) (by omega) c13) (by decide)) ?_
            refine st_go hK rfl rfl ?_
            refine st_if hK rfl rfl (fun c33 => ?_) (fun c33 => ?_)
            · refine st_go hK rfl rfl ?_
              refine st_go hK rfl rfl ?_
              first | rw [nI_clamp (by omega)] at c33 | skip
              rw [nI_clamp (by omega)] at c23
              have c7 : ¬ nI s ≤ nI i := c7
              rw [nI_leI (by omega) (by omega)] at c7
              obtain ⟨q, rfl⟩ : ∃ q, m1 = q + 1 := ⟨m1 - 1, by omega⟩
              rw [ff_neg (by unfold atP; first | (simp [c23]; done) | (simp [c33]; done))] at kk
              have := ih (i + 1) q (by omega) (by omega) (by omega) kk
              rw [← nI_1] at this
              exact this
            · refine st_go hK rfl rfl ?_
              refine st_ret hK rfl rfl ?_
              rw [nI_clamp (by omega)] at c23 c33
              have c7 : ¬ nI s ≤ nI i := c7
              rw [nI_leI (by omega) (by omega)] at c7
              obtain ⟨q, rfl⟩ : ∃ q, m1 = q + 1 := ⟨m1 - 1, by omega⟩
              rw [ff_pos (by unfold atP; rw [Classical.not_not.mp c23, Classical.not_not.mp c33]; simp)] at kk
              exact kk
  refine st_go hK rfl rfl ?_
  refine st_go hK rfl rfl ?_
  exact loop (s + 1) 0 s (by omega) (by omega) (by omega) k
def svF (σ : cw_V) (t : Nat) (k : Nat) : Nat → Int32
  | 0 => σ (t + 1) k
  | 1 => σ (t + 2) k
  | 2 => σ (t + 3) k
  | _ => σ (t + 4) k
theorem z_sinkValue {w : Nat} (ht : isT t) (hk : hSink σ t k) (hw : w < 4) (k1 : Q (some (.int (svF σ t k.toNatClampNeg w))) (cw_B σ lam)) : cw_Z (d + 2) m_Tree_sinkValue [.ref t, .int k, .int (nI w)] (cw_B σ lam) Q := by
  refine zi (L := [some (.ref t), some (.int k), some (.int (nI w))]) rfl rfl (fun K hK => ?_)
  refine st_go hK rfl rfl ?_
  refine st_go hK rfl rfl ?_
  refine cv1 hK rfl (Tree_c ht) (Nat.le_of_ble_eq_true rfl) ?_
  refine z_hasSink ht (fun hn => ?_) (fun hn => absurd hk hn)
  change K _ _ (_ :: _) _
  refine st_if hK rfl rfl (fun _ => ?_) (fun c => absurd (by decide) c)
  refine st_go hK rfl rfl ?_
  refine st_go hK rfl rfl ?_
  rcases (show w = 0 ∨ w = 1 ∨ w = 2 ∨ w = 3 by omega) with rfl | rfl | rfl | rfl
  · change K 36 _ _ _
    refine st_go hK rfl rfl ?_
    refine st_getr hK rfl (Tree_f0 ht) ?_
    refine st_go hK rfl rfl ?_
    refine st_iald hK rfl (Tree_a0 ht) hk.in ?_
    refine st_ret hK rfl rfl ?_
    exact k1
  · change K 43 _ _ _
    refine st_go hK rfl rfl ?_
    refine st_getr hK rfl (Tree_f1 ht) ?_
    refine st_go hK rfl rfl ?_
    refine st_iald hK rfl (Tree_a1 ht) hk.in ?_
    refine st_ret hK rfl rfl ?_
    exact k1
  · change K 50 _ _ _
    refine st_go hK rfl rfl ?_
    refine st_getr hK rfl (Tree_f2 ht) ?_
    refine st_go hK rfl rfl ?_
    refine st_iald hK rfl (Tree_a2 ht) hk.in ?_
    refine st_ret hK rfl rfl ?_
    exact k1
  · change K 57 _ _ _
    refine st_go hK rfl rfl ?_
    refine st_getr hK rfl (Tree_f3 ht) ?_
    refine st_go hK rfl rfl ?_
    refine st_iald hK rfl (Tree_a3 ht) hk.in ?_
    refine st_ret hK rfl rfl ?_
    exact k1
def rmF (σ : cw_V) (t i : Nat) : cw_V := fun p => if p = t + 6 ∨ p = t + 7 ∨ p = t + 8 then (fun j => if j < i then -1 else σ p j) else σ p
theorem rmF_0 {σ : cw_V} {t : Nat} : rmF σ t 0 = σ := by
  funext p
  unfold rmF
  split <;> simp
theorem rmF_s {σ : cw_V} {t i : Nat} : cw_up (cw_up (cw_up (rmF σ t i) (t + 6) i (-1)) (t + 7) i (-1)) (t + 8) i (-1) = rmF σ t (i + 1) := by
  have one : ∀ p, (fun j => if j < i + 1 then (-1 : Int32) else σ p j) = upd (fun j => if j < i then -1 else σ p j) i (-1) := by
    intro p
    funext j
    unfold upd
    by_cases h : j = i
    · subst h; simp
    · rw [if_neg h]
      show _ = if j < i then (-1 : Int32) else σ p j
      by_cases h2 : j < i
      · rw [if_pos h2, if_pos (by omega)]
      · rw [if_neg h2, if_neg (by omega)]
  funext p
  by_cases h8 : p = t + 8
  · subst h8
    rw [up_eq, up_ne (by omega), up_ne (by omega)]
    unfold rmF
    rw [if_pos (by omega), if_pos (by omega), one]
  · rw [up_ne h8]
    by_cases h7 : p = t + 7
    · subst h7
      rw [up_eq, up_ne (by omega)]
      unfold rmF
      rw [if_pos (by omega), if_pos (by omega), one]
    · rw [up_ne h7]
      by_cases h6 : p = t + 6
      · subst h6
        rw [up_eq]
        unfold rmF
        rw [if_pos (by omega), if_pos (by omega), one]
      · rw [up_ne h6]
        unfold rmF
        rw [if_neg (by omega), if_neg (by omega)]
theorem z_removeJoints (ht : isT t) (k : Q none (cw_B (rmF σ t 15) lam)) : cw_Z (d + 1) m_Tree_removeJoints [.ref t] (cw_B σ lam) Q := by
  refine zi (L := [some (.ref t), none]) rfl rfl (fun K hK => ?_)
  have loop : ∀ m i, 15 < i + m → i ≤ 15 → K 2 [some (.ref t), some (.int (nI i))] [] (cw_B (rmF σ t i) lam) := by
    intro m
    induction m with
    | zero => intro i hi h7; omega
    | succ m ih =>
      intro i hi h7
      refine st_go hK rfl rfl ?_
      refine st_go hK rfl rfl ?_
      refine st_if hK rfl rfl (fun c5 => ?_) (fun c5 => ?_)
      · refine st_ret hK rfl rfl ?_
        have e : i = 15 := by
          have := yle (a := 15) (i := i) (by decide) (by omega) c5
          omega
        subst e
        exact k
      · have hlt : i < 15 := nle (a := 15) (i := i) (by decide) (by omega) c5
        refine st_go hK rfl rfl ?_
        refine st_getr hK rfl (Tree_f5 ht) ?_
        refine st_go hK rfl rfl ?_
        refine st_go hK rfl rfl ?_
        refine st_iast hK rfl (Tree_a5 ht) (cw_in_nI (n := 15) hlt (by decide)) ?_
        refine st_go hK rfl rfl ?_
        refine st_getr hK rfl (Tree_f6 ht) ?_
        refine st_go hK rfl rfl ?_
        refine st_go hK rfl rfl ?_
        refine st_iast hK rfl (Tree_a6 ht) (cw_in_nI (n := 15) hlt (by decide)) ?_
        refine st_go hK rfl rfl ?_
        refine st_getr hK rfl (Tree_f7 ht) ?_
        refine st_go hK rfl rfl ?_
        refine st_go hK rfl rfl ?_
        refine st_iast hK rfl (Tree_a7 ht) (cw_in_nI (n := 15) hlt (by decide)) ?_
        refine st_go hK rfl rfl ?_
        refine st_go hK rfl rfl ?_
        rw [nI_clamp (by omega), rmF_s]
        have := ih (i + 1) (by omega) (by omega)
        rw [← nI_1] at this
        exact this
  refine st_go hK rfl rfl ?_
  refine st_go hK rfl rfl ?_
  have := loop 16 0 (by decide) (by decide)
  rw [rmF_0] at this
  exact this
/-- j is the joint that is free first -/
def isF (f : Nat → Int32) (j : Nat) : Prop := (8 ≤ j ∧ j < 15) ∧ f j = -1 ∧ ∀ i, 8 ≤ i → i < j → f i ≠ -1
theorem z_freeJoint {j : Nat} (ht : isT t) (hj : isF (σ (t + 6)) j) (k : Q (some (.int (nI j))) (cw_B σ lam)) : cw_Z (d + 2) m_Tree_freeJoint [.ref t] (cw_B σ lam) Q := by
  refine zi (L := [some (.ref t), none]) rfl rfl (fun K hK => ?_)
  have h15 := hj.1.2
  have loop : ∀ m i, 14 < i + m → i ≤ j → 8 ≤ i → K 3 [some (.ref t), some (.int (nI i))] [] (cw_B σ lam) := by
    intro m
    induction m with
    | zero => intro i hi h7 h8; omega
    | succ m ih =>
      intro i hi h7 h8
      refine st_go hK rfl rfl ?_
      refine st_go hK rfl rfl ?_
      refine st_if hK rfl rfl (fun c6 => ?_) (fun c6 => ?_)
      · refine st_go hK rfl rfl ?_
        refine st_ret hK rfl rfl ?_
        have := yle (a := 15) (i := i) (by decide) (by omega) c6
        have := hj.1.2
        omega
      · refine st_go hK rfl rfl ?_
        refine st_go hK rfl rfl ?_
        refine cv1 hK rfl (Tree_c ht) (Nat.le_of_ble_eq_true rfl) ?_
        refine z_isJoint ht (fun hn => ?_) (fun hn => ?_)
        · change K _ _ (_ :: _) _
          refine st_if hK rfl rfl (fun _ => ?_) (fun c => absurd (by decide) c)
          refine st_go hK rfl rfl ?_
          refine st_go hK rfl rfl ?_
          rw [hJoint_nI (by omega) (by omega)] at hn
          have hne : i ≠ j := fun e => hn (e ▸ hj.2.1)
          have := ih (i + 1) (by omega) (by omega) (by omega)
          rw [← nI_1] at this
          exact this
        · change K _ _ (_ :: _) _
          refine st_if hK rfl rfl (fun c => absurd c (by decide)) (fun _ => ?_)
          refine st_go hK rfl rfl ?_
          refine st_ret hK rfl rfl ?_
          rw [hJoint_nI (by omega) (by omega)] at hn
          have e : i = j := by
            rcases Nat.lt_or_ge i j with q | q
            · exact absurd (hj.2.2 i h8 q) hn
            · omega
          subst e
          exact k
  refine st_go hK rfl rfl ?_
  refine st_go hK rfl rfl ?_
  exact loop 7 8 (by decide) hj.1.1 (by decide)
end
end
section
section
variable {d t : Nat} {σ : cw_V} {lam : Nat → Int64} {Q : cw_Q} {n k : Int32}
/-- the last index below m at which f is k, or 0 -/
def lastK (f : Nat → Int32) (k : Int32) : Nat → Nat
  | 0 => 0
  | m + 1 => if f m = k then m else lastK f k m
theorem lastK_le {f : Nat → Int32} {k : Int32} : ∀ m, lastK f k m ≤ m
  | 0 => Nat.le_refl 0
  | m + 1 => by
    unfold lastK
    split
    · omega
    · have := lastK_le (f := f) (k := k) m
      omega
theorem lastK_lt {f : Nat → Int32} {k : Int32} {m : Nat} (h : 0 < m) : lastK f k m < m := by
  obtain ⟨q, rfl⟩ : ∃ q, m = q + 1 := ⟨m - 1, by omega⟩
  unfold lastK
  split
  · omega
  · have := lastK_le (f := f) (k := k) q
    omega
/-- those from i on up to fr have moved by one -/
def shF (f : Nat → Int32) (fr i : Nat) : Nat → Int32 := fun j => if i < j ∧ j ≤ fr then f (j - 1) else f j
def tchF (f : Nat → Int32) (fr : Nat) (k : Int32) : Nat → Int32 := upd (shF f fr 0) 0 k
theorem shF_self {f : Nat → Int32} {fr : Nat} : shF f fr fr = f := by
  funext j
  unfold shF
  rw [if_neg (by omega)]
theorem shF_s {f : Nat → Int32} {fr i : Nat} (h : i + 1 ≤ fr) : upd (shF f fr (i + 1)) (i + 1) (shF f fr (i + 1) i) = shF f fr i := by
  funext j
  unfold upd
  by_cases e : j = i + 1
  · subst e
    rw [if_pos rfl]
    unfold shF
    rw [if_neg (by omega), if_pos (by omega)]
    rfl
  · rw [if_neg e]
    unfold shF
    by_cases z : i + 1 < j ∧ j ≤ fr
    · rw [if_pos z, if_pos (by omega)]
    · rw [if_neg z, if_neg (by omega)]
def rowF (σ : cw_V) (p : Nat) (f : Nat → Int32) : cw_V := fun q => if q = p then f else σ q
theorem row_eq {σ : cw_V} {p : Nat} {f : Nat → Int32} : rowF σ p f p = f := if_pos rfl
theorem row_ne {σ : cw_V} {p q : Nat} {f : Nat → Int32} (h : q ≠ p) : rowF σ p f q = σ q := if_neg h
theorem row_self {σ : cw_V} {p : Nat} : rowF σ p (σ p) = σ := by
  funext q
  unfold rowF
  split
  · rename_i e; rw [e]
  · rfl
theorem up_row {σ : cw_V} {p k : Nat} {f : Nat → Int32} {x : Int32} : cw_up (rowF σ p f) p k x = rowF σ p (upd f k x) := by
  funext q
  by_cases e : q = p
  · subst e; rw [up_eq, row_eq, row_eq]
  · rw [up_ne e, row_ne e, row_ne e]
theorem z_touch {s : Nat} (ht : isT t) (hs : σ t 8 = nI s) (h8 : s ≤ 8) (kk : Q none (cw_B (rowF σ (t + 5) (tchF (σ (t + 5)) (lastK (σ (t + 5)) k s) k)) lam)) : cw_Z (d + 1) m_Tree_touch [.ref t, .int k] (cw_B σ lam) Q := by
  refine zi (L := [some (.ref t), some (.int k), none, none]) rfl rfl (fun K hK => ?_)
  have loop2 : ∀ fr i, fr ≤ 8 → i ≤ fr → (fr < 8) → Q none (cw_B (rowF σ (t + 5) (tchF (σ (t + 5)) fr k)) lam) → K 38 [some (.ref t), some (.int k), some (.int (nI fr)), some (.int (nI i))] [] (cw_B (rowF σ (t + 5) (shF (σ (t + 5)) fr i)) lam) := by
    intro fr i h1 h2 h3 kq
    induction i with
    | zero =>
      refine st_go hK rfl rfl ?_
      refine st_if hK rfl rfl (fun c39 => ?_) (fun c39 => absurd (by decide) c39)
      refine st_go hK rfl rfl ?_
      refine st_getr hK rfl (Tree_f4 ht) ?_
      refine st_go hK rfl rfl ?_
      refine st_go hK rfl rfl ?_
      refine st_iast hK rfl (Tree_a4 ht) (by decide) ?_
      refine st_ret hK rfl rfl ?_
      rw [up_row]
      exact kq
    | succ i ih =>
      refine st_go hK rfl rfl ?_
      refine st_if hK rfl rfl (fun c39 => ?_) (fun c39 => ?_)
      · have : i + 1 ≤ 0 := (nI_leI (a := i + 1) (b := 0) (by omega) (by decide)).mp c39
        omega
      · refine st_go hK rfl rfl ?_
        refine st_getr hK rfl (Tree_f4 ht) ?_
        refine st_go hK rfl rfl ?_
        refine st_go hK rfl rfl ?_
        refine st_getr hK rfl (Tree_f4 ht) ?_
        refine st_go hK rfl rfl ?_
        refine st_go hK rfl rfl ?_
        refine st_go hK rfl rfl ?_
        have e1 : nI (i + 1) - 1 = nI i := nI_pred i
        refine st_iald hK rfl (Tree_a4 ht) (by show cw_in (nI (i + 1) - 1) 8 = true; rw [e1]; exact cw_in_nI (by omega) (by decide)) ?_
        refine st_iast hK rfl (Tree_a4 ht) (cw_in_nI (by omega) (by decide)) ?_
        refine st_go hK rfl rfl ?_
        refine st_go hK rfl rfl ?_
        show K 38 [some (.ref t), some (.int k), some (.int (nI fr)), some (.int (nI (i + 1) + -1))] [] (cw_B (cw_up (rowF σ (t + 5) (shF (σ (t + 5)) fr (i + 1))) (t + 5) (nI (i + 1)).toNatClampNeg (rowF σ (t + 5) (shF (σ (t + 5)) fr (i + 1)) (t + 5) (nI (i + 1) - 1).toNatClampNeg)) lam)
        rw [e1, nI_clamp (by omega), nI_clamp (by omega), up_row, row_eq, shF_s (by omega), pk_m1]
        exact ih (by omega)
  have mid : ∀ s0, s0 = s → K 36 [some (.ref t), some (.int k), some (.int (nI (lastK (σ (t + 5)) k s))), some (.int (nI s0))] [] (cw_B σ lam) := by
    intro s0 _
    refine st_go hK rfl rfl ?_
    refine st_go hK rfl rfl ?_
    have hlt : lastK (σ (t + 5)) k s < 8 := by
      rcases Nat.eq_zero_or_pos s with q | q
      · subst q; exact (by decide : 0 < 8)
      · have := lastK_lt (f := σ (t + 5)) (k := k) q
        omega
    have := loop2 (lastK (σ (t + 5)) k s) (lastK (σ (t + 5)) k s) (by omega) (Nat.le_refl _) hlt kk
    rw [shF_self, row_self] at this
    exact this
  have loop : ∀ m i, s < i + m → i ≤ s → K 4 [some (.ref t), some (.int k), some (.int (nI (lastK (σ (t + 5)) k i))), some (.int (nI i))] [] (cw_B σ lam) := by
    intro m
    induction m with
    | zero => intro i hi h7; omega
    | succ m ih =>
      intro i hi h7
      refine st_go hK rfl rfl ?_
      refine st_go hK rfl rfl ?_
      refine st_geti hK rfl (Tree_f8 ht) ?_
      rw [hs]
      refine st_if hK rfl rfl (fun c9 => ?_) (fun c9 => ?_)
      · have e : i = s := by
          first
            | (have c9 : nI s ≤ nI i := c9; rw [nI_leI (by omega) (by omega)] at c9; omega)
            | (have := yle (a := 8) (i := i) (by decide) (by omega) c15; omega)
        subst e
        exact mid _ rfl
      · refine st_go hK rfl rfl ?_
        refine st_go hK rfl rfl ?_
        refine st_if hK rfl rfl (fun c15 => ?_) (fun c15 => ?_)
        · have e : i = s := by
            first
              | (have c9 : nI s ≤ nI i := c9; rw [nI_leI (by omega) (by omega)] at c9; omega)
              | (have := yle (a := 8) (i := i) (by decide) (by omega) c15; omega)
          subst e
          exact mid _ rfl
        · refine st_go hK rfl rfl ?_
          refine st_getr hK rfl (Tree_f4 ht) ?_
          refine st_go hK rfl rfl ?_
          refine st_iald hK rfl (Tree_a4 ht) (cw_in_nI (n := 8) (nle (a := 8) (i := i) (by decide) (by omega) c15) (by decide)) ?_
          refine st_go hK rfl rfl ?_
          refine st_if hK rfl rfl (fun c25 => ?_) (fun c25 => ?_)
          · refine st_go hK rfl rfl ?_
            refine st_go hK rfl rfl ?_
            have c9 : ¬ nI s ≤ nI i := c9
            rw [nI_leI (by omega) (by omega)] at c9
            rw [nI_clamp (by omega)] at c25
            have := ih (i + 1) (by omega) (by omega)
            unfold lastK at this
            first
              | (rw [if_pos (Classical.not_not.mp c25), ← nI_1] at this; exact this)
              | (rw [if_neg c25, ← nI_1] at this; exact this)
          · refine st_go hK rfl rfl ?_
            refine st_go hK rfl rfl ?_
            refine st_go hK rfl rfl ?_
            refine st_go hK rfl rfl ?_
            have c9 : ¬ nI s ≤ nI i := c9
            rw [nI_leI (by omega) (by omega)] at c9
            rw [nI_clamp (by omega)] at c25
            have := ih (i + 1) (by omega) (by omega)
            unfold lastK at this
            first
              | (rw [if_pos (Classical.not_not.mp c25), ← nI_1] at this; exact this)
              | (rw [if_neg c25, ← nI_1] at this; exact this)
  refine st_go hK rfl rfl ?_
  refine st_go hK rfl rfl ?_
  refine st_go hK rfl rfl ?_
  refine st_go hK rfl rfl ?_
  exact loop (s + 1) 0 (by omega) (by omega)
end
end
section
section
variable {d t : Nat} {σ : cw_V} {lam : Nat → Int64} {Q : cw_Q} {n k : Int32}
theorem lastK_hit {f : Nat → Int32} {k : Int32} {m : Nat} (h : f m = k) : lastK f k (m + 1) = m := if_pos h
def addF (σ : cw_V) (t s : Nat) (X Y : Int32) : cw_V := rowF (cw_up (cw_up (cw_up (cw_up (cw_up (cw_up σ (t + 1) s X) (t + 2) s Y) (t + 3) s 0) (t + 4) s 1) (t + 5) s (nI s)) t 8 (nI (s + 1))) (t + 5) (tchF (upd (σ (t + 5)) s (nI s)) s (nI s))
theorem z_addSink {X Y : Int32} {s : Nat} (ht : isT t) (hs : σ t 8 = nI s) (h8 : s < 8) (kk : Q (some (.int (nI s))) (cw_B (addF σ t s X Y) lam)) : cw_Z (d + 2) m_Tree_addSink [.ref t, .int X, .int Y] (cw_B σ lam) Q := by
  refine zi (L := [some (.ref t), some (.int X), some (.int Y), none]) rfl rfl (fun K hK => ?_)
  refine st_go hK rfl rfl ?_
  refine st_geti hK rfl (Tree_f8 ht) ?_
  rw [hs]
  refine st_go hK rfl rfl ?_
  refine st_go hK rfl rfl ?_
  refine st_if hK rfl rfl (fun c6 => ?_) (fun c6 => ?_)
  · refine st_go hK rfl rfl ?_
    refine st_ret hK rfl rfl ?_
    first
      | exact absurd c6 (nI_pos (by omega))
      | exact absurd (nI_lt (b := 8) h8 (by decide)) c12
  · refine st_go hK rfl rfl ?_
    refine st_go hK rfl rfl ?_
    refine st_if hK rfl rfl (fun c12 => ?_) (fun c12 => ?_)
    · refine st_go hK rfl rfl ?_
      refine st_getr hK rfl (Tree_f0 ht) ?_
      refine st_go hK rfl rfl ?_
      refine st_go hK rfl rfl ?_
      refine st_iast hK rfl (Tree_a0 ht) (cw_in_nI (n := 8) h8 (by decide)) ?_
      refine st_go hK rfl rfl ?_
      refine st_getr hK rfl (Tree_f1 ht) ?_
      refine st_go hK rfl rfl ?_
      refine st_go hK rfl rfl ?_
      refine st_iast hK rfl (Tree_a1 ht) (cw_in_nI (n := 8) h8 (by decide)) ?_
      refine st_go hK rfl rfl ?_
      refine st_getr hK rfl (Tree_f2 ht) ?_
      refine st_go hK rfl rfl ?_
      refine st_go hK rfl rfl ?_
      refine st_iast hK rfl (Tree_a2 ht) (cw_in_nI (n := 8) h8 (by decide)) ?_
      refine st_go hK rfl rfl ?_
      refine st_getr hK rfl (Tree_f3 ht) ?_
      refine st_go hK rfl rfl ?_
      refine st_go hK rfl rfl ?_
      refine st_iast hK rfl (Tree_a3 ht) (cw_in_nI (n := 8) h8 (by decide)) ?_
      refine st_go hK rfl rfl ?_
      refine st_getr hK rfl (Tree_f4 ht) ?_
      refine st_go hK rfl rfl ?_
      refine st_go hK rfl rfl ?_
      refine st_iast hK rfl (Tree_a4 ht) (cw_in_nI (n := 8) h8 (by decide)) ?_
      refine st_go hK rfl rfl ?_
      refine st_go hK rfl rfl ?_
      refine st_go hK rfl rfl ?_
      refine st_bin hK rfl ?_
      refine st_put hK rfl (Tree_f8 ht) rfl ?_
      refine st_go hK rfl rfl ?_
      refine st_go hK rfl rfl ?_
      refine cv1 hK rfl (Tree_c ht) (Nat.le_of_ble_eq_true rfl) ?_
      rw [nI_clamp (by omega), nI_1]
      refine z_touch (s := s + 1) ht (by rw [up_eq, upd_eq]) (by omega) ?_
      have e : cw_up (cw_up (cw_up (cw_up (cw_up (cw_up σ (t + 1) s X) (t + 2) s Y) (t + 3) s 0) (t + 4) s 1) (t + 5) s (nI s)) t 8 (nI (s + 1)) (t + 5) = upd (σ (t + 5)) s (nI s) := by
        rw [up_ne (by omega), up_eq, up_ne (by omega), up_ne (by omega), up_ne (by omega), up_ne (by omega)]
      rw [e, lastK_hit upd_eq]
      change K _ _ _ _
      refine st_go hK rfl rfl ?_
      refine st_ret hK rfl rfl ?_
      exact kk
    · refine st_go hK rfl rfl ?_
      refine st_ret hK rfl rfl ?_
      first
        | exact absurd c6 (nI_pos (by omega))
        | exact absurd (nI_lt (b := 8) h8 (by decide)) c12
theorem z_moveSink {X Y : Int32} {s : Nat} (ht : isT t) (hs : σ t 8 = nI s) (h8 : s ≤ 8) (hk : hSink σ t k) (kk : Q none (cw_B (rowF (cw_up (cw_up σ (t + 1) k.toNatClampNeg X) (t + 2) k.toNatClampNeg Y) (t + 5) (tchF (σ (t + 5)) (lastK (σ (t + 5)) k s) k)) lam)) : cw_Z (d + 2) m_Tree_moveSink [.ref t, .int k, .int X, .int Y] (cw_B σ lam) Q := by
  refine zi (L := [some (.ref t), some (.int k), some (.int X), some (.int Y)]) rfl rfl (fun K hK => ?_)
  refine st_go hK rfl rfl ?_
  refine st_go hK rfl rfl ?_
  refine cv1 hK rfl (Tree_c ht) (Nat.le_of_ble_eq_true rfl) ?_
  refine z_hasSink ht (fun _ => ?_) (fun hn => absurd hk hn)
  change K _ _ (_ :: _) _
  refine st_if hK rfl rfl (fun c => absurd c (by decide)) (fun _ => ?_)
  refine st_go hK rfl rfl ?_
  refine st_getr hK rfl (Tree_f0 ht) ?_
  refine st_go hK rfl rfl ?_
  refine st_go hK rfl rfl ?_
  refine st_iast hK rfl (Tree_a0 ht) hk.in ?_
  refine st_go hK rfl rfl ?_
  refine st_getr hK rfl (Tree_f1 ht) ?_
  refine st_go hK rfl rfl ?_
  refine st_go hK rfl rfl ?_
  refine st_iast hK rfl (Tree_a1 ht) hk.in ?_
  refine st_go hK rfl rfl ?_
  refine st_go hK rfl rfl ?_
  refine cv1 hK rfl (Tree_c ht) (Nat.le_of_ble_eq_true rfl) ?_
  refine z_touch (s := s) ht (by rw [up_ne (by omega), up_ne (by omega)]; exact hs) h8 ?_
  rw [up_ne (by omega), up_ne (by omega)]
  change K _ _ _ _
  refine st_ret hK rfl rfl ?_
  exact kk
def ajF (σ : cw_V) (t j : Nat) (a b : Int32) : cw_V := cw_up (cw_up (cw_up (cw_up (cw_up σ (t + 6) j a) (t + 7) j b) (t + 8) j (-1)) (t + 8) a.toNatClampNeg (nI j)) (t + 8) b.toNatClampNeg (nI j)
theorem nI_ne1 {j : Nat} (h : j < 2 ^ 31) : ¬ nI j = -1 := fun e => by
  have := congrArg Int32.toInt e
  rw [nI_toInt h] at this
  have e2 : (-1 : Int32).toInt = -1 := by decide
  omega
theorem z_addJoint {a b : Int32} {j : Nat} (ht : isT t) (hj : isF (σ (t + 6)) j) (ha : hNode σ t a) (hb : hNode σ t b) (kk : Q (some (.int (nI j))) (cw_B (ajF σ t j a b) lam)) : cw_Z (d + 3) m_Tree_addJoint [.ref t, .int a, .int b] (cw_B σ lam) Q := by
  have h15 := hj.1.2
  have hin : cw_in (nI j) 15 = true := cw_in_nI h15 (by decide)
  refine zi (L := [some (.ref t), some (.int a), some (.int b), none]) rfl rfl (fun K hK => ?_)
  refine st_go hK rfl rfl ?_
  refine cv0 hK rfl (Tree_c ht) (Nat.le_of_ble_eq_true rfl) ?_
  refine z_freeJoint ht hj ?_
  change K _ _ (_ :: _) _
  refine st_go hK rfl rfl ?_
  refine st_go hK rfl rfl ?_
  refine st_go hK rfl rfl ?_
  refine st_if hK rfl rfl (fun c7 => ?_) (fun c7 => ?_)
  · refine st_go hK rfl rfl ?_
    refine st_ret hK rfl rfl ?_
    exact absurd c7 (nI_ne1 (by omega))
  · refine st_go hK rfl rfl ?_
    refine st_go hK rfl rfl ?_
    refine cv1 hK rfl (Tree_c ht) (Nat.le_of_ble_eq_true rfl) ?_
    refine z_hasNode ht (fun _ => ?_) (fun hn => absurd ha hn)
    change K _ _ (_ :: _) _
    refine st_if hK rfl rfl (fun c => absurd c (by decide)) (fun _ => ?_)
    refine st_go hK rfl rfl ?_
    refine st_go hK rfl rfl ?_
    refine cv1 hK rfl (Tree_c ht) (Nat.le_of_ble_eq_true rfl) ?_
    refine z_hasNode ht (fun _ => ?_) (fun hn => absurd hb hn)
    change K _ _ (_ :: _) _
    refine st_if hK rfl rfl (fun _ => ?_) (fun c => absurd (by decide) c)
    refine st_go hK rfl rfl ?_
    refine st_getr hK rfl (Tree_f5 ht) ?_
    refine st_go hK rfl rfl ?_
    refine st_go hK rfl rfl ?_
    refine st_iast hK rfl (Tree_a5 ht) hin ?_
    refine st_go hK rfl rfl ?_
    refine st_getr hK rfl (Tree_f6 ht) ?_
    refine st_go hK rfl rfl ?_
    refine st_go hK rfl rfl ?_
    refine st_iast hK rfl (Tree_a6 ht) hin ?_
    refine st_go hK rfl rfl ?_
    refine st_getr hK rfl (Tree_f7 ht) ?_
    refine st_go hK rfl rfl ?_
    refine st_go hK rfl rfl ?_
    refine st_iast hK rfl (Tree_a7 ht) hin ?_
    refine st_go hK rfl rfl ?_
    refine st_getr hK rfl (Tree_f7 ht) ?_
    refine st_go hK rfl rfl ?_
    refine st_go hK rfl rfl ?_
    refine st_iast hK rfl (Tree_a7 ht) ha.in ?_
    refine st_go hK rfl rfl ?_
    refine st_getr hK rfl (Tree_f7 ht) ?_
    refine st_go hK rfl rfl ?_
    refine st_go hK rfl rfl ?_
    refine st_iast hK rfl (Tree_a7 ht) hb.in ?_
    refine st_go hK rfl rfl ?_
    refine st_ret hK rfl rfl ?_
    have hc : (nI j).toNatClampNeg = j := nI_clamp (by omega)
    rw [hc]
    exact kk
def hJointB (σ : cw_V) (t : Nat) (n : Int32) : Bool := decide (8 ≤ n) && decide (n < 15) && decide (σ (t + 6) n.toNatClampNeg ≠ -1)
theorem hJointB_iff {σ : cw_V} {t : Nat} {n : Int32} : hJointB σ t n = true ↔ hJoint σ t n := by
  unfold hJointB hJoint
  simp only [Bool.and_eq_true, decide_eq_true_eq, and_assoc]
def hNodeB (σ : cw_V) (t : Nat) (n : Int32) : Bool := decide (0 ≤ n) && decide (n < 15) && ((decide (n < 8) && decide (n < σ t 8)) || (decide (8 ≤ n) && decide (σ (t + 6) n.toNatClampNeg ≠ -1)))
theorem hNodeB_iff {σ : cw_V} {t : Nat} {n : Int32} : hNodeB σ t n = true ↔ hNode σ t n := by
  unfold hNodeB hNode
  simp only [Bool.and_eq_true, Bool.or_eq_true, decide_eq_true_eq, and_assoc]
def rcF (σ : cw_V) (t : Nat) (above old node : Int32) : cw_V := bif hJointB σ t above then (bif decide (σ (t + 6) above.toNatClampNeg = old) then cw_up (cw_up σ (t + 8) node.toNatClampNeg above) (t + 6) above.toNatClampNeg node else cw_up (cw_up σ (t + 8) node.toNatClampNeg above) (t + 7) above.toNatClampNeg node) else cw_up σ (t + 8) node.toNatClampNeg above
theorem rcF_0 {σ : cw_V} {t : Nat} {above old node : Int32} (h : ¬ hJoint σ t above) : rcF σ t above old node = cw_up σ (t + 8) node.toNatClampNeg above := by
  unfold rcF
  cases e : hJointB σ t above with
  | true => exact absurd (hJointB_iff.mp e) h
  | false => rfl
theorem rcF_l {σ : cw_V} {t : Nat} {above old node : Int32} (h : hJoint σ t above) (h2 : σ (t + 6) above.toNatClampNeg = old) : rcF σ t above old node = cw_up (cw_up σ (t + 8) node.toNatClampNeg above) (t + 6) above.toNatClampNeg node := by
  unfold rcF
  rw [hJointB_iff.mpr h, decide_eq_true h2]
  rfl
theorem rcF_r {σ : cw_V} {t : Nat} {above old node : Int32} (h : hJoint σ t above) (h2 : ¬ σ (t + 6) above.toNatClampNeg = old) : rcF σ t above old node = cw_up (cw_up σ (t + 8) node.toNatClampNeg above) (t + 7) above.toNatClampNeg node := by
  unfold rcF
  rw [hJointB_iff.mpr h, decide_eq_false h2]
  rfl
theorem hJoint_up8 {σ : cw_V} {t k : Nat} {x n : Int32} : hJoint (cw_up σ (t + 8) k x) t n ↔ hJoint σ t n := by
  unfold hJoint
  rw [up_ne (by omega)]
theorem hNode_up8 {σ : cw_V} {t k : Nat} {x n : Int32} : hNode (cw_up σ (t + 8) k x) t n ↔ hNode σ t n := by
  unfold hNode
  rw [up_ne (by omega), up_ne (by omega)]
theorem z_replaceChild {a b : Int32} (ht : isT t) (hn : hNode σ t n) (kk : Q none (cw_B (rcF σ t a b n) lam)) : cw_Z (d + 2) m_Tree_replaceChild [.ref t, .int a, .int b, .int n] (cw_B σ lam) Q := by
  refine zi (L := [some (.ref t), some (.int a), some (.int b), some (.int n)]) rfl rfl (fun K hK => ?_)
  refine st_go hK rfl rfl ?_
  refine st_go hK rfl rfl ?_
  refine cv1 hK rfl (Tree_c ht) (Nat.le_of_ble_eq_true rfl) ?_
  refine z_hasNode ht (fun _ => ?_) (fun z => absurd hn z)
  change K _ _ (_ :: _) _
  refine st_if hK rfl rfl (fun _ => ?_) (fun c => absurd (by decide) c)
  refine st_go hK rfl rfl ?_
  refine st_getr hK rfl (Tree_f7 ht) ?_
  refine st_go hK rfl rfl ?_
  refine st_go hK rfl rfl ?_
  refine st_iast hK rfl (Tree_a7 ht) hn.in ?_
  refine st_go hK rfl rfl ?_
  refine st_go hK rfl rfl ?_
  refine cv1 hK rfl (Tree_c ht) (Nat.le_of_ble_eq_true rfl) ?_
  refine z_isJoint ht (fun hj => ?_) (fun hj => ?_)
  all_goals rw [hJoint_up8] at hj
  · change K _ _ (_ :: _) _
    refine st_if hK rfl rfl (fun c => absurd c (by decide)) (fun _ => ?_)
    refine st_go hK rfl rfl ?_
    refine st_getr hK rfl (Tree_f5 ht) ?_
    refine st_go hK rfl rfl ?_
    refine st_iald hK rfl (Tree_a5 ht) hj.in ?_
    refine st_go hK rfl rfl ?_
    refine st_if hK rfl rfl (fun c31 => ?_) (fun c31 => ?_)
    · refine st_go hK rfl rfl ?_
      refine st_getr hK rfl (Tree_f6 ht) ?_
      refine st_go hK rfl rfl ?_
      refine st_go hK rfl rfl ?_
      refine st_iast hK rfl (Tree_a6 ht) hj.in ?_
      refine st_ret hK rfl rfl ?_
      first
        | (rw [up_ne (by omega)] at c31; rw [rcF_l hj (Classical.not_not.mp c31)] at kk; exact kk)
        | (rw [up_ne (by omega)] at c31; rw [rcF_r hj c31] at kk; exact kk)
        | (rw [rcF_0 hj] at kk; exact kk)
    · refine st_go hK rfl rfl ?_
      refine st_getr hK rfl (Tree_f5 ht) ?_
      refine st_go hK rfl rfl ?_
      refine st_go hK rfl rfl ?_
      refine st_iast hK rfl (Tree_a5 ht) hj.in ?_
      refine st_go hK rfl rfl ?_
      refine st_ret hK rfl rfl ?_
      first
        | (rw [up_ne (by omega)] at c31; rw [rcF_l hj (Classical.not_not.mp c31)] at kk; exact kk)
        | (rw [up_ne (by omega)] at c31; rw [rcF_r hj c31] at kk; exact kk)
        | (rw [rcF_0 hj] at kk; exact kk)
  · change K _ _ (_ :: _) _
    refine st_if hK rfl rfl (fun _ => ?_) (fun c => absurd (by decide) c)
    refine st_ret hK rfl rfl ?_
    first
      | (rw [up_ne (by omega)] at c31; rw [rcF_l hj (Classical.not_not.mp c31)] at kk; exact kk)
      | (rw [up_ne (by omega)] at c31; rw [rcF_r hj c31] at kk; exact kk)
      | (rw [rcF_0 hj] at kk; exact kk)
/-- the joint above, or -1 -/
def pof (σ : cw_V) (t : Nat) (n : Int32) : Int32 := bif hNodeB σ t n then σ (t + 8) n.toNatClampNeg else -1
theorem pof_1 {σ : cw_V} {t : Nat} {n : Int32} (h : hNode σ t n) : pof σ t n = σ (t + 8) n.toNatClampNeg := by
  unfold pof
  rw [hNodeB_iff.mpr h]
  rfl
theorem pof_0 {σ : cw_V} {t : Nat} {n : Int32} (h : ¬ hNode σ t n) : pof σ t n = -1 := by
  unfold pof
  cases e : hNodeB σ t n with
  | true => exact absurd (hNodeB_iff.mp e) h
  | false => rfl
/-- whether a is n or above n, within m steps -/
def wiF (σ : cw_V) (t : Nat) (a : Int32) : Nat → Int32 → Prop
  | 0, _ => False
  | m + 1, n => n ≠ -1 ∧ (n = a ∨ wiF σ t a m (pof σ t n))
theorem z_isWithin {a : Int32} (ht : isT t) (k1 : wiF σ t a 15 n → Q (some (.int 1)) (cw_B σ lam)) (k0 : ¬ wiF σ t a 15 n → Q (some (.int 0)) (cw_B σ lam)) : cw_Z (d + 3) m_Tree_isWithin [.ref t, .int n, .int a] (cw_B σ lam) Q := by
  refine zi (L := [some (.ref t), some (.int n), some (.int a), none, none]) rfl rfl (fun K hK => ?_)
  have loop : ∀ m i x, i + m = 15 → (wiF σ t a m x → Q (some (.int 1)) (cw_B σ lam)) → (¬ wiF σ t a m x → Q (some (.int 0)) (cw_B σ lam)) → K 5 [some (.ref t), some (.int n), some (.int a), some (.int x), some (.int (nI i))] [] (cw_B σ lam) := by
    intro m
    induction m with
    | zero =>
      intro i x hi q1 q0
      refine st_go hK rfl rfl ?_
      refine st_go hK rfl rfl ?_
      refine st_if hK rfl rfl (fun c9 => ?_) (fun c9 => ?_)
      · refine st_go hK rfl rfl ?_
        refine st_zret hK rfl (Or.inl rfl) ?_
        exact q0 (fun z => z)
      · have := nle (a := 15) (i := i) (by decide) (by omega) c9
        omega
    | succ m ih =>
      intro i x hi q1 q0
      refine st_go hK rfl rfl ?_
      refine st_go hK rfl rfl ?_
      refine st_if hK rfl rfl (fun c9 => ?_) (fun c9 => ?_)
      · have := yle (a := 15) (i := i) (by decide) (by omega) c9
        omega
      · refine st_go hK rfl rfl ?_
        refine st_go hK rfl rfl ?_
        refine st_if hK rfl rfl (fun c14 => ?_) (fun c14 => ?_)
        · refine st_go hK rfl rfl ?_
          refine st_zret hK rfl (Or.inl rfl) ?_
          exact q0 (fun z => z.1 c14)
        · refine st_go hK rfl rfl ?_
          refine st_go hK rfl rfl ?_
          refine st_if hK rfl rfl (fun c19 => ?_) (fun c19 => ?_)
          · refine st_go hK rfl rfl ?_
            refine st_go hK rfl rfl ?_
            refine cv1 hK rfl (Tree_c ht) (Nat.le_of_ble_eq_true rfl) ?_
            have hp : K 29 [some (.ref t), some (.int n), some (.int a), some (.int x), some (.int (nI i))] [.int (pof σ t x)] (cw_B σ lam) := by
              refine st_go hK rfl rfl ?_
              refine st_go hK rfl rfl ?_
              refine st_go hK rfl rfl ?_
              have := ih (i + 1) (pof σ t x) (by omega) (fun z => q1 ⟨c14, Or.inr z⟩) (fun z => q0 (fun y => y.2.elim (fun e => c19 e) z))
              rw [← nI_1] at this
              exact this
            refine z_parentOf ht (fun hn => ?_) (fun hn => ?_)
            · rw [pof_1 hn] at hp
              exact hp
            · rw [pof_0 hn] at hp
              exact hp
          · refine st_go hK rfl rfl ?_
            refine st_zret hK rfl (Or.inr rfl) ?_
            exact q1 ⟨c14, Or.inl (Classical.not_not.mp c19)⟩
  refine st_go hK rfl rfl ?_
  refine st_go hK rfl rfl ?_
  refine st_go hK rfl rfl ?_
  refine st_go hK rfl rfl ?_
  exact loop 15 0 n rfl k1 k0
end
end
section
section
variable {d t : Nat} {σ : cw_V} {lam : Nat → Int64} {Q : cw_Q} {n k : Int32}
def cGr (σ : cw_V) (t : Nat) (k n : Int32) : Prop := hTop σ t k ∧ hNode σ t n ∧ ¬ wiF σ t k 15 n
theorem z_canGraft (ht : isT t) (k1 : cGr σ t k n → Q (some (.int 1)) (cw_B σ lam)) (k0 : ¬ cGr σ t k n → Q (some (.int 0)) (cw_B σ lam)) : cw_Z (d + 4) m_Tree_canGraft [.ref t, .int k, .int n] (cw_B σ lam) Q := by
  refine zi (L := [some (.ref t), some (.int k), some (.int n)]) rfl rfl (fun K hK => ?_)
  refine st_go hK rfl rfl ?_
  refine st_go hK rfl rfl ?_
  refine cv1 hK rfl (Tree_c ht) (Nat.le_of_ble_eq_true rfl) ?_
  refine z_isTop ht (fun h1 => ?_) (fun h1 => ?_)
  · change K _ _ (_ :: _) _
    refine st_if hK rfl rfl (fun c => absurd c (by decide)) (fun _ => ?_)
    refine st_go hK rfl rfl ?_
    refine st_go hK rfl rfl ?_
    refine cv1 hK rfl (Tree_c ht) (Nat.le_of_ble_eq_true rfl) ?_
    refine z_hasNode ht (fun h2 => ?_) (fun h2 => ?_)
    · change K _ _ (_ :: _) _
      refine st_if hK rfl rfl (fun c => absurd c (by decide)) (fun _ => ?_)
      refine st_go hK rfl rfl ?_
      refine st_go hK rfl rfl ?_
      refine st_go hK rfl rfl ?_
      refine cv2 hK rfl (Tree_c ht) (Nat.le_of_ble_eq_true rfl) ?_
      refine z_isWithin ht (fun h3 => ?_) (fun h3 => ?_)
      · change K _ _ (_ :: _) _
        refine st_if hK rfl rfl (fun _ => ?_) (fun c => absurd (by decide) c)
        refine st_go hK rfl rfl ?_
        refine st_zret hK rfl (Or.inl rfl) ?_
        exact k0 (fun q => (by first | exact h1 q.1 | exact h2 q.2.1 | exact q.2.2 h3))
      · change K _ _ (_ :: _) _
        refine st_if hK rfl rfl (fun c => absurd c (by decide)) (fun _ => ?_)
        refine st_go hK rfl rfl ?_
        refine st_go hK rfl rfl ?_
        refine st_zret hK rfl (Or.inr rfl) ?_
        exact k1 ⟨h1, h2, h3⟩
    · change K _ _ (_ :: _) _
      refine st_if hK rfl rfl (fun _ => ?_) (fun c => absurd (by decide) c)
      refine st_go hK rfl rfl ?_
      refine st_zret hK rfl (Or.inl rfl) ?_
      exact k0 (fun q => (by first | exact h1 q.1 | exact h2 q.2.1 | exact q.2.2 h3))
  · change K _ _ (_ :: _) _
    refine st_if hK rfl rfl (fun _ => ?_) (fun c => absurd (by decide) c)
    refine st_go hK rfl rfl ?_
    refine st_zret hK rfl (Or.inl rfl) ?_
    exact k0 (fun q => (by first | exact h1 q.1 | exact h2 q.2.1 | exact q.2.2 h3))
def cEx (σ : cw_V) (t : Nat) (a b : Int32) : Prop := pof σ t a ≠ -1 ∧ pof σ t b ≠ -1 ∧ pof σ t a ≠ pof σ t b ∧ ¬ wiF σ t b 15 a ∧ ¬ wiF σ t a 15 b
/-- parentOf, its answer as one word -/
theorem z_parentOf' (ht : isT t) (kk : Q (some (.int (pof σ t n))) (cw_B σ lam)) : cw_Z (d + 2) m_Tree_parentOf [.ref t, .int n] (cw_B σ lam) Q := z_parentOf ht (fun h => by rw [pof_1 h] at kk; exact kk) (fun h => by rw [pof_0 h] at kk; exact kk)
theorem z_canExchange {a b : Int32} (ht : isT t) (k1 : cEx σ t a b → Q (some (.int 1)) (cw_B σ lam)) (k0 : ¬ cEx σ t a b → Q (some (.int 0)) (cw_B σ lam)) : cw_Z (d + 4) m_Tree_canExchange [.ref t, .int a, .int b] (cw_B σ lam) Q := by
  refine zi (L := [some (.ref t), some (.int a), some (.int b), none, none]) rfl rfl (fun K hK => ?_)
  refine st_go hK rfl rfl ?_
  refine st_go hK rfl rfl ?_
  refine cv1 hK rfl (Tree_c ht) (Nat.le_of_ble_eq_true rfl) ?_
  refine z_parentOf' ht ?_
  change K _ _ (_ :: _) _
  refine st_go hK rfl rfl ?_
  refine st_go hK rfl rfl ?_
  refine st_go hK rfl rfl ?_
  refine cv1 hK rfl (Tree_c ht) (Nat.le_of_ble_eq_true rfl) ?_
  refine z_parentOf' ht ?_
  change K _ _ (_ :: _) _
  refine st_go hK rfl rfl ?_
  refine st_go hK rfl rfl ?_
  refine st_go hK rfl rfl ?_
  refine st_if hK rfl rfl (fun c15 => ?_) (fun c15 => ?_)
  · refine st_go hK rfl rfl ?_
    refine st_zret hK rfl (Or.inl rfl) ?_
    exact k0 (fun q => (by first | exact q.1 c15 | exact q.2.1 c21 | exact q.2.2.1 c27 | exact q.2.2.2.1 h4 | exact q.2.2.2.2 h5))
  · refine st_go hK rfl rfl ?_
    refine st_go hK rfl rfl ?_
    refine st_if hK rfl rfl (fun c21 => ?_) (fun c21 => ?_)
    · refine st_go hK rfl rfl ?_
      refine st_zret hK rfl (Or.inl rfl) ?_
      exact k0 (fun q => (by first | exact q.1 c15 | exact q.2.1 c21 | exact q.2.2.1 c27 | exact q.2.2.2.1 h4 | exact q.2.2.2.2 h5))
    · refine st_go hK rfl rfl ?_
      refine st_go hK rfl rfl ?_
      refine st_if hK rfl rfl (fun c27 => ?_) (fun c27 => ?_)
      · refine st_go hK rfl rfl ?_
        refine st_zret hK rfl (Or.inl rfl) ?_
        exact k0 (fun q => (by first | exact q.1 c15 | exact q.2.1 c21 | exact q.2.2.1 c27 | exact q.2.2.2.1 h4 | exact q.2.2.2.2 h5))
      · refine st_go hK rfl rfl ?_
        refine st_go hK rfl rfl ?_
        refine st_go hK rfl rfl ?_
        refine cv2 hK rfl (Tree_c ht) (Nat.le_of_ble_eq_true rfl) ?_
        refine z_isWithin ht (fun h4 => ?_) (fun h4 => ?_)
        · change K _ _ (_ :: _) _
          refine st_if hK rfl rfl (fun _ => ?_) (fun c => absurd (by decide) c)
          refine st_go hK rfl rfl ?_
          refine st_zret hK rfl (Or.inl rfl) ?_
          exact k0 (fun q => (by first | exact q.1 c15 | exact q.2.1 c21 | exact q.2.2.1 c27 | exact q.2.2.2.1 h4 | exact q.2.2.2.2 h5))
        · change K _ _ (_ :: _) _
          refine st_if hK rfl rfl (fun c => absurd c (by decide)) (fun _ => ?_)
          refine st_go hK rfl rfl ?_
          refine st_go hK rfl rfl ?_
          refine st_go hK rfl rfl ?_
          refine cv2 hK rfl (Tree_c ht) (Nat.le_of_ble_eq_true rfl) ?_
          refine z_isWithin ht (fun h5 => ?_) (fun h5 => ?_)
          · change K _ _ (_ :: _) _
            refine st_if hK rfl rfl (fun _ => ?_) (fun c => absurd (by decide) c)
            refine st_go hK rfl rfl ?_
            refine st_zret hK rfl (Or.inl rfl) ?_
            exact k0 (fun q => (by first | exact q.1 c15 | exact q.2.1 c21 | exact q.2.2.1 c27 | exact q.2.2.2.1 h4 | exact q.2.2.2.2 h5))
          · change K _ _ (_ :: _) _
            refine st_if hK rfl rfl (fun c => absurd c (by decide)) (fun _ => ?_)
            refine st_go hK rfl rfl ?_
            refine st_go hK rfl rfl ?_
            refine st_zret hK rfl (Or.inr rfl) ?_
            exact k1 ⟨c15, c21, c27, h4, h5⟩
theorem hNode_rc {σ : cw_V} {t : Nat} {a b m n : Int32} (hm : hNode σ t m) : hNode (rcF σ t a b m) t n ↔ hNode σ t n := by
  have hm1 : m ≠ -1 := fun e => by
    have := hm.1
    rw [e] at this
    exact absurd this (by decide)
  by_cases hj : hJoint σ t a
  · by_cases h2 : σ (t + 6) a.toNatClampNeg = b
    · rw [rcF_l hj h2]
      unfold hNode
      rw [up_ne (by omega), up_ne (by omega), up_eq, up_ne (by omega)]
      by_cases e : n.toNatClampNeg = a.toNatClampNeg
      · rw [e, upd_eq]
        have h3 := hj.2.2
        exact ⟨fun q => ⟨q.1, q.2.1, q.2.2.elim Or.inl (fun z => Or.inr ⟨z.1, h3⟩)⟩, fun q => ⟨q.1, q.2.1, q.2.2.elim Or.inl (fun z => Or.inr ⟨z.1, hm1⟩)⟩⟩
      · rw [upd_ne e]
    · rw [rcF_r hj h2]
      unfold hNode
      rw [up_ne (by omega), up_ne (by omega), up_ne (by omega), up_ne (by omega)]
  · rw [rcF_0 hj]
    exact hNode_up8
theorem z_exchange {a b : Int32} (ht : isT t) (ha : hNode σ t a) (hb : hNode σ t b) (kk : Q none (cw_B (rcF (rcF σ t (pof σ t a) a b) t (pof σ t b) b a) lam)) : cw_Z (d + 3) m_Tree_exchange [.ref t, .int a, .int b] (cw_B σ lam) Q := by
  refine zi (L := [some (.ref t), some (.int a), some (.int b), none, none]) rfl rfl (fun K hK => ?_)
  refine st_go hK rfl rfl ?_
  refine st_go hK rfl rfl ?_
  refine cv1 hK rfl (Tree_c ht) (Nat.le_of_ble_eq_true rfl) ?_
  refine z_parentOf' ht ?_
  change K _ _ (_ :: _) _
  refine st_go hK rfl rfl ?_
  refine st_go hK rfl rfl ?_
  refine st_go hK rfl rfl ?_
  refine cv1 hK rfl (Tree_c ht) (Nat.le_of_ble_eq_true rfl) ?_
  refine z_parentOf' ht ?_
  change K _ _ (_ :: _) _
  refine st_go hK rfl rfl ?_
  refine st_go hK rfl rfl ?_
  refine st_go hK rfl rfl ?_
  refine st_go hK rfl rfl ?_
  refine st_go hK rfl rfl ?_
  refine cv3 hK rfl (Tree_c ht) (Nat.le_of_ble_eq_true rfl) ?_
  refine z_replaceChild ht hb ?_
  change K _ _ _ _
  refine st_go hK rfl rfl ?_
  refine st_go hK rfl rfl ?_
  refine st_go hK rfl rfl ?_
  refine st_go hK rfl rfl ?_
  refine cv3 hK rfl (Tree_c ht) (Nat.le_of_ble_eq_true rfl) ?_
  refine z_replaceChild ht ((hNode_rc hb).mpr ha) ?_
  change K _ _ _ _
  refine st_ret hK rfl rfl ?_
  exact kk
theorem hNode_pos {σ : cw_V} {t : Nat} {m : Int32} (hm : hNode σ t m) : m ≠ -1 := fun e => by
  have := hm.1
  rw [e] at this
  exact absurd this (by decide)
theorem ajF_6 {σ : cw_V} {t j : Nat} {a b : Int32} : ajF σ t j a b (t + 6) = upd (σ (t + 6)) j a := by
  unfold ajF
  rw [up_ne (by omega), up_ne (by omega), up_ne (by omega), up_ne (by omega), up_eq]
theorem ajF_7 {σ : cw_V} {t j : Nat} {a b : Int32} : ajF σ t j a b (t + 7) = upd (σ (t + 7)) j b := by
  unfold ajF
  rw [up_ne (by omega), up_ne (by omega), up_ne (by omega), up_eq, up_ne (by omega)]
theorem ajF_8 {σ : cw_V} {t j : Nat} {a b : Int32} : ajF σ t j a b (t + 8) = upd (upd (upd (σ (t + 8)) j (-1)) a.toNatClampNeg (nI j)) b.toNatClampNeg (nI j) := by
  unfold ajF
  rw [up_eq, up_eq, up_eq, up_ne (by omega), up_ne (by omega)]
theorem ajF_ne {σ : cw_V} {t j p : Nat} {a b : Int32} (h : p ≠ t + 6 ∧ p ≠ t + 7 ∧ p ≠ t + 8) : ajF σ t j a b p = σ p := by
  unfold ajF
  rw [up_ne h.2.2, up_ne h.2.2, up_ne h.2.2, up_ne h.2.1, up_ne h.1]
theorem hNode_aj {σ : cw_V} {t j : Nat} {a b : Int32} (hj : isF (σ (t + 6)) j) (ha : hNode σ t a) : hNode (ajF σ t j a b) t (nI j) := by
  have h1 := hj.1
  refine ⟨nI_pos' (by omega), (lit_lt (a := 15) (by decide) (by omega)).mpr h1.2, Or.inr ⟨(lit_le (a := 8) (by decide) (by omega)).mpr h1.1, ?_⟩⟩
  rw [ajF_6, nI_clamp (by omega), upd_eq]
  exact hNode_pos ha
def grF (σ : cw_V) (t j : Nat) (k n : Int32) : cw_V := rcF (ajF σ t j n k) t (pof σ t n) n (nI j)
theorem z_graft {j : Nat} (ht : isT t) (hj : isF (σ (t + 6)) j) (hk : hNode σ t k) (hn : hNode σ t n) (kk : Q (some (.int (nI j))) (cw_B (grF σ t j k n) lam)) : cw_Z (d + 4) m_Tree_graft [.ref t, .int k, .int n] (cw_B σ lam) Q := by
  refine zi (L := [some (.ref t), some (.int k), some (.int n), none, none]) rfl rfl (fun K hK => ?_)
  refine st_go hK rfl rfl ?_
  refine st_go hK rfl rfl ?_
  refine cv1 hK rfl (Tree_c ht) (Nat.le_of_ble_eq_true rfl) ?_
  refine z_parentOf' ht ?_
  change K _ _ (_ :: _) _
  refine st_go hK rfl rfl ?_
  refine st_go hK rfl rfl ?_
  refine st_go hK rfl rfl ?_
  refine st_go hK rfl rfl ?_
  refine cv2 hK rfl (Tree_c ht) (Nat.le_of_ble_eq_true rfl) ?_
  refine z_addJoint ht hj hn hk ?_
  change K _ _ (_ :: _) _
  refine st_go hK rfl rfl ?_
  refine st_go hK rfl rfl ?_
  refine st_go hK rfl rfl ?_
  refine st_go hK rfl rfl ?_
  refine st_go hK rfl rfl ?_
  refine cv3 hK rfl (Tree_c ht) (Nat.le_of_ble_eq_true rfl) ?_
  refine z_replaceChild ht (hNode_aj hj hn) ?_
  change K _ _ _ _
  refine st_go hK rfl rfl ?_
  refine st_ret hK rfl rfl ?_
  exact kk
def otF (σ : cw_V) (t : Nat) (n : Int32) : Int32 := bif decide (σ (t + 6) (σ (t + 8) n.toNatClampNeg).toNatClampNeg = n) then σ (t + 7) (σ (t + 8) n.toNatClampNeg).toNatClampNeg else σ (t + 6) (σ (t + 8) n.toNatClampNeg).toNatClampNeg
def ctF (σ : cw_V) (t : Nat) (n : Int32) : cw_V := cw_up (cw_up (cw_up (cw_up (rcF σ t (σ (t + 8) (σ (t + 8) n.toNatClampNeg).toNatClampNeg) (σ (t + 8) n.toNatClampNeg) (otF σ t n)) (t + 6) (σ (t + 8) n.toNatClampNeg).toNatClampNeg (-1)) (t + 7) (σ (t + 8) n.toNatClampNeg).toNatClampNeg (-1)) (t + 8) (σ (t + 8) n.toNatClampNeg).toNatClampNeg (-1)) (t + 8) n.toNatClampNeg (-1)
theorem z_cut (ht : isT t) (hn : hNode σ t n) (hp : hJoint σ t (σ (t + 8) n.toNatClampNeg)) (ho : hNode σ t (otF σ t n)) (kk : Q (some (.int (σ (t + 8) n.toNatClampNeg))) (cw_B (ctF σ t n) lam)) : cw_Z (d + 3) m_Tree_cut [.ref t, .int n] (cw_B σ lam) Q := by
  refine zi (L := [some (.ref t), some (.int n), none, none]) rfl rfl (fun K hK => ?_)
  refine st_go hK rfl rfl ?_
  refine st_go hK rfl rfl ?_
  refine cv1 hK rfl (Tree_c ht) (Nat.le_of_ble_eq_true rfl) ?_
  refine z_parentOf' ht ?_
  rw [pof_1 hn]
  change K _ _ (_ :: _) _
  refine st_go hK rfl rfl ?_
  refine st_go hK rfl rfl ?_
  refine st_go hK rfl rfl ?_
  refine cv1 hK rfl (Tree_c ht) (Nat.le_of_ble_eq_true rfl) ?_
  refine z_isJoint ht (fun _ => ?_) (fun z => absurd hp z)
  change K _ _ (_ :: _) _
  refine st_if hK rfl rfl (fun _ => ?_) (fun c => absurd (by decide) c)
  refine st_go hK rfl rfl ?_
  refine st_getr hK rfl (Tree_f5 ht) ?_
  refine st_go hK rfl rfl ?_
  refine st_iald hK rfl (Tree_a5 ht) hp.in ?_
  refine st_go hK rfl rfl ?_
  refine st_if hK rfl rfl (fun c23 => ?_) (fun c23 => ?_)
  · refine st_go hK rfl rfl ?_
    refine st_getr hK rfl (Tree_f5 ht) ?_
    refine st_go hK rfl rfl ?_
    refine st_iald hK rfl (Tree_a5 ht) hp.in ?_
    refine st_go hK rfl rfl ?_
    refine st_go hK rfl rfl ?_
    refine st_go hK rfl rfl ?_
    refine st_getr hK rfl (Tree_f7 ht) ?_
    refine st_go hK rfl rfl ?_
    refine st_iald hK rfl (Tree_a7 ht) hp.in ?_
    refine st_go hK rfl rfl ?_
    refine st_go hK rfl rfl ?_
    refine cv3 hK rfl (Tree_c ht) (Nat.le_of_ble_eq_true rfl) ?_
    first
      | (have eo : otF σ t n = σ (t + 6) (σ (t + 8) n.toNatClampNeg).toNatClampNeg := by unfold otF; rw [decide_eq_false c23]; rfl
         rw [← eo])
      | (have eo : otF σ t n = σ (t + 7) (σ (t + 8) n.toNatClampNeg).toNatClampNeg := by unfold otF; rw [decide_eq_true (Classical.not_not.mp c23)]; rfl
         rw [← eo])
    refine z_replaceChild ht ho ?_
    change K _ _ _ _
    refine st_go hK rfl rfl ?_
    refine st_getr hK rfl (Tree_f5 ht) ?_
    refine st_go hK rfl rfl ?_
    refine st_go hK rfl rfl ?_
    refine st_iast hK rfl (Tree_a5 ht) hp.in ?_
    refine st_go hK rfl rfl ?_
    refine st_getr hK rfl (Tree_f6 ht) ?_
    refine st_go hK rfl rfl ?_
    refine st_go hK rfl rfl ?_
    refine st_iast hK rfl (Tree_a6 ht) hp.in ?_
    refine st_go hK rfl rfl ?_
    refine st_getr hK rfl (Tree_f7 ht) ?_
    refine st_go hK rfl rfl ?_
    refine st_go hK rfl rfl ?_
    refine st_iast hK rfl (Tree_a7 ht) hp.in ?_
    refine st_go hK rfl rfl ?_
    refine st_getr hK rfl (Tree_f7 ht) ?_
    refine st_go hK rfl rfl ?_
    refine st_go hK rfl rfl ?_
    refine st_iast hK rfl (Tree_a7 ht) hn.in ?_
    refine st_go hK rfl rfl ?_
    refine st_ret hK rfl rfl ?_
    exact kk
  · refine st_go hK rfl rfl ?_
    refine st_getr hK rfl (Tree_f6 ht) ?_
    refine st_go hK rfl rfl ?_
    refine st_iald hK rfl (Tree_a6 ht) hp.in ?_
    refine st_go hK rfl rfl ?_
    refine st_go hK rfl rfl ?_
    refine st_go hK rfl rfl ?_
    refine st_go hK rfl rfl ?_
    refine st_getr hK rfl (Tree_f7 ht) ?_
    refine st_go hK rfl rfl ?_
    refine st_iald hK rfl (Tree_a7 ht) hp.in ?_
    refine st_go hK rfl rfl ?_
    refine st_go hK rfl rfl ?_
    refine cv3 hK rfl (Tree_c ht) (Nat.le_of_ble_eq_true rfl) ?_
    first
      | (have eo : otF σ t n = σ (t + 6) (σ (t + 8) n.toNatClampNeg).toNatClampNeg := by unfold otF; rw [decide_eq_false c23]; rfl
         rw [← eo])
      | (have eo : otF σ t n = σ (t + 7) (σ (t + 8) n.toNatClampNeg).toNatClampNeg := by unfold otF; rw [decide_eq_true (Classical.not_not.mp c23)]; rfl
         rw [← eo])
    refine z_replaceChild ht ho ?_
    change K _ _ _ _
    refine st_go hK rfl rfl ?_
    refine st_getr hK rfl (Tree_f5 ht) ?_
    refine st_go hK rfl rfl ?_
    refine st_go hK rfl rfl ?_
    refine st_iast hK rfl (Tree_a5 ht) hp.in ?_
    refine st_go hK rfl rfl ?_
    refine st_getr hK rfl (Tree_f6 ht) ?_
    refine st_go hK rfl rfl ?_
    refine st_go hK rfl rfl ?_
    refine st_iast hK rfl (Tree_a6 ht) hp.in ?_
    refine st_go hK rfl rfl ?_
    refine st_getr hK rfl (Tree_f7 ht) ?_
    refine st_go hK rfl rfl ?_
    refine st_go hK rfl rfl ?_
    refine st_iast hK rfl (Tree_a7 ht) hp.in ?_
    refine st_go hK rfl rfl ?_
    refine st_getr hK rfl (Tree_f7 ht) ?_
    refine st_go hK rfl rfl ?_
    refine st_go hK rfl rfl ?_
    refine st_iast hK rfl (Tree_a7 ht) hn.in ?_
    refine st_go hK rfl rfl ?_
    refine st_ret hK rfl rfl ?_
    exact kk
/-- a row copied from its start -/
def cpS (σ : cw_V) (p q n : Nat) : cw_V := fun r => if r = q then va_cpy (σ p) (σ q) 0 0 n else σ r
theorem cps_ne {σ : cw_V} {p q n r : Nat} (h : r ≠ q) : cpS σ p q n r = σ r := if_neg h
theorem cps_eq {σ : cw_V} {p q n j : Nat} (h : j < n) : cpS σ p q n q j = σ p j := by
  unfold cpS
  rw [if_pos rfl]
  show (if 0 ≤ j ∧ j < 0 + n then σ p (0 + (j - 0)) else σ q j) = σ p j
  rw [if_pos ⟨Nat.zero_le _, by omega⟩, Nat.sub_zero, Nat.zero_add]
theorem st_cpy {M : Nat} {h0 : cw_H} {K : cw_KT} {pc nx : Nat} {L : cw_L} {S : List Value} {p q n0 n1 b0 b1 s0 s1 : Nat} {n : Int32} (hK : cw_Kc d M h0 Q K) (hf : cw_tb M pc = some (s_copy nx)) (hp0 : cw_aR p = some (0, n0, b0, s0)) (hq0 : cw_aR q = some (0, n1, b1, s1)) (hc : cw_ct S ≤ 8) (h3 : ¬ n < 0) (h4 : n.toNatClampNeg ≤ n0) (h5 : n.toNatClampNeg ≤ n1)
    (kk : K nx L S (cw_B (cpS σ p q n.toNatClampNeg) lam)) : K pc L (.int n :: .int 0 :: .ref q :: .int 0 :: .ref p :: S) (cw_B σ lam) :=
  st_copy hK hf hp0 hq0 hc (by decide) (by decide) h3 (by rw [show (0 : Int32).toNatClampNeg = 0 by decide, Nat.zero_add]; exact h4) (by rw [show (0 : Int32).toNatClampNeg = 0 by decide, Nat.zero_add]; exact h5) kk
/-- the tree at t is that at u, as far as it is used; nothing else has changed -/
def cpy (σ σ' : cw_V) (t u : Nat) : Prop := (∀ p, (p < t ∨ t + 8 < p) → σ' p = σ p) ∧ (∀ i, 1 ≤ i → i ≤ 5 → ∀ j, j < 8 → σ' (t + i) j = σ (u + i) j) ∧ (∀ i, 6 ≤ i → i ≤ 8 → ∀ j, j < 15 → σ' (t + i) j = σ (u + i) j) ∧ ∀ k, 8 ≤ k → k ≤ 11 → σ' t k = σ u k
theorem z_copyFrom {u : Nat} (ht : isT t) (hu : isT u) (hne : t + 8 < u ∨ u + 8 < t) (kk : ∀ σ', cpy σ σ' t u → Q none (cw_B σ' lam)) : cw_Z (d + 1) m_Tree_copyFrom [.ref t, .ref u] (cw_B σ lam) Q := by
  refine zi (L := [some (.ref t), some (.ref u)]) rfl rfl (fun K hK => ?_)
  refine st_go hK rfl rfl ?_
  refine st_getr hK rfl (Tree_f0 hu) ?_
  refine st_go hK rfl rfl ?_
  refine st_go hK rfl rfl ?_
  refine st_getr hK rfl (Tree_f0 ht) ?_
  refine st_go hK rfl rfl ?_
  refine st_go hK rfl rfl ?_
  refine st_cpy hK rfl (Tree_a0 hu) (Tree_a0 ht) (Nat.le_of_ble_eq_true rfl) (by decide) (by decide) (by decide) ?_
  refine st_go hK rfl rfl ?_
  refine st_getr hK rfl (Tree_f1 hu) ?_
  refine st_go hK rfl rfl ?_
  refine st_go hK rfl rfl ?_
  refine st_getr hK rfl (Tree_f1 ht) ?_
  refine st_go hK rfl rfl ?_
  refine st_go hK rfl rfl ?_
  refine st_cpy hK rfl (Tree_a1 hu) (Tree_a1 ht) (Nat.le_of_ble_eq_true rfl) (by decide) (by decide) (by decide) ?_
  refine st_go hK rfl rfl ?_
  refine st_getr hK rfl (Tree_f2 hu) ?_
  refine st_go hK rfl rfl ?_
  refine st_go hK rfl rfl ?_
  refine st_getr hK rfl (Tree_f2 ht) ?_
  refine st_go hK rfl rfl ?_
  refine st_go hK rfl rfl ?_
  refine st_cpy hK rfl (Tree_a2 hu) (Tree_a2 ht) (Nat.le_of_ble_eq_true rfl) (by decide) (by decide) (by decide) ?_
  refine st_go hK rfl rfl ?_
  refine st_getr hK rfl (Tree_f3 hu) ?_
  refine st_go hK rfl rfl ?_
  refine st_go hK rfl rfl ?_
  refine st_getr hK rfl (Tree_f3 ht) ?_
  refine st_go hK rfl rfl ?_
  refine st_go hK rfl rfl ?_
  refine st_cpy hK rfl (Tree_a3 hu) (Tree_a3 ht) (Nat.le_of_ble_eq_true rfl) (by decide) (by decide) (by decide) ?_
  refine st_go hK rfl rfl ?_
  refine st_getr hK rfl (Tree_f4 hu) ?_
  refine st_go hK rfl rfl ?_
  refine st_go hK rfl rfl ?_
  refine st_getr hK rfl (Tree_f4 ht) ?_
  refine st_go hK rfl rfl ?_
  refine st_go hK rfl rfl ?_
  refine st_cpy hK rfl (Tree_a4 hu) (Tree_a4 ht) (Nat.le_of_ble_eq_true rfl) (by decide) (by decide) (by decide) ?_
  refine st_go hK rfl rfl ?_
  refine st_getr hK rfl (Tree_f5 hu) ?_
  refine st_go hK rfl rfl ?_
  refine st_go hK rfl rfl ?_
  refine st_getr hK rfl (Tree_f5 ht) ?_
  refine st_go hK rfl rfl ?_
  refine st_go hK rfl rfl ?_
  refine st_cpy hK rfl (Tree_a5 hu) (Tree_a5 ht) (Nat.le_of_ble_eq_true rfl) (by decide) (by decide) (by decide) ?_
  refine st_go hK rfl rfl ?_
  refine st_getr hK rfl (Tree_f6 hu) ?_
  refine st_go hK rfl rfl ?_
  refine st_go hK rfl rfl ?_
  refine st_getr hK rfl (Tree_f6 ht) ?_
  refine st_go hK rfl rfl ?_
  refine st_go hK rfl rfl ?_
  refine st_cpy hK rfl (Tree_a6 hu) (Tree_a6 ht) (Nat.le_of_ble_eq_true rfl) (by decide) (by decide) (by decide) ?_
  refine st_go hK rfl rfl ?_
  refine st_getr hK rfl (Tree_f7 hu) ?_
  refine st_go hK rfl rfl ?_
  refine st_go hK rfl rfl ?_
  refine st_getr hK rfl (Tree_f7 ht) ?_
  refine st_go hK rfl rfl ?_
  refine st_go hK rfl rfl ?_
  refine st_cpy hK rfl (Tree_a7 hu) (Tree_a7 ht) (Nat.le_of_ble_eq_true rfl) (by decide) (by decide) (by decide) ?_
  refine st_go hK rfl rfl ?_
  refine st_go hK rfl rfl ?_
  refine st_geti hK rfl (Tree_f8 hu) ?_
  refine st_put hK rfl (Tree_f8 ht) rfl ?_
  refine st_go hK rfl rfl ?_
  refine st_go hK rfl rfl ?_
  refine st_geti hK rfl (Tree_f9 hu) ?_
  refine st_put hK rfl (Tree_f9 ht) rfl ?_
  refine st_go hK rfl rfl ?_
  refine st_go hK rfl rfl ?_
  refine st_geti hK rfl (Tree_f10 hu) ?_
  refine st_put hK rfl (Tree_f10 ht) rfl ?_
  refine st_go hK rfl rfl ?_
  refine st_go hK rfl rfl ?_
  refine st_geti hK rfl (Tree_f11 hu) ?_
  refine st_put hK rfl (Tree_f11 ht) rfl ?_
  refine st_ret hK rfl rfl ?_
  refine kk _ ?_
  rw [show (8 : Int32).toNatClampNeg = 8 by decide, show (15 : Int32).toNatClampNeg = 15 by decide]
  refine ⟨fun p hp => ?_, fun i h1 h5 j hj => ?_, fun i h6 h8 j hj => ?_, fun k h8 h11 => ?_⟩
  · rw [up_ne (by omega), up_ne (by omega), up_ne (by omega), up_ne (by omega), cps_ne (by omega), cps_ne (by omega), cps_ne (by omega), cps_ne (by omega), cps_ne (by omega), cps_ne (by omega), cps_ne (by omega), cps_ne (by omega)]
  · rw [up_ne (by omega), up_ne (by omega), up_ne (by omega), up_ne (by omega), cps_ne (by omega), cps_ne (by omega), cps_ne (by omega)]
    rcases (show i = 1 ∨ i = 2 ∨ i = 3 ∨ i = 4 ∨ i = 5 by omega) with rfl | rfl | rfl | rfl | rfl
    · rw [cps_ne (by omega), cps_ne (by omega), cps_ne (by omega), cps_ne (by omega), cps_eq hj]
    · rw [cps_ne (by omega), cps_ne (by omega), cps_ne (by omega), cps_eq hj, cps_ne (by omega)]
    · rw [cps_ne (by omega), cps_ne (by omega), cps_eq hj, cps_ne (by omega), cps_ne (by omega)]
    · rw [cps_ne (by omega), cps_eq hj, cps_ne (by omega), cps_ne (by omega), cps_ne (by omega)]
    · rw [cps_eq hj, cps_ne (by omega), cps_ne (by omega), cps_ne (by omega), cps_ne (by omega)]
  · rw [up_ne (by omega), up_ne (by omega), up_ne (by omega), up_ne (by omega)]
    rcases (show i = 6 ∨ i = 7 ∨ i = 8 by omega) with rfl | rfl | rfl
    · rw [cps_ne (by omega), cps_ne (by omega), cps_eq hj, cps_ne (by omega), cps_ne (by omega), cps_ne (by omega), cps_ne (by omega), cps_ne (by omega)]
    · rw [cps_ne (by omega), cps_eq hj, cps_ne (by omega), cps_ne (by omega), cps_ne (by omega), cps_ne (by omega), cps_ne (by omega), cps_ne (by omega)]
    · rw [cps_eq hj, cps_ne (by omega), cps_ne (by omega), cps_ne (by omega), cps_ne (by omega), cps_ne (by omega), cps_ne (by omega), cps_ne (by omega)]
  · have hut : u ≠ t := by omega
    have eu : ∀ τ : cw_V, τ = cpS (cpS (cpS (cpS (cpS (cpS (cpS (cpS σ (u + 1) (t + 1) 8) (u + 2) (t + 2) 8) (u + 3) (t + 3) 8) (u + 4) (t + 4) 8) (u + 5) (t + 5) 8) (u + 6) (t + 6) 15) (u + 7) (t + 7) 15) (u + 8) (t + 8) 15 → τ u = σ u := by
      intro τ hτ
      rw [hτ, cps_ne (by omega), cps_ne (by omega), cps_ne (by omega), cps_ne (by omega), cps_ne (by omega), cps_ne (by omega), cps_ne (by omega), cps_ne (by omega)]
    have eu' := eu _ rfl
    rcases (show k = 8 ∨ k = 9 ∨ k = 10 ∨ k = 11 by omega) with rfl | rfl | rfl | rfl
    · rw [up_eq, up_eq, up_eq, up_eq, upd_ne (by decide), upd_ne (by decide), upd_ne (by decide), upd_eq]
      exact congrFun eu' 8
    · rw [up_eq, up_eq, up_eq, up_eq, upd_ne (by decide), upd_ne (by decide), upd_eq, up_ne hut]
      exact congrFun eu' 9
    · rw [up_eq, up_eq, up_eq, up_eq, upd_ne (by decide), upd_eq, up_ne hut, up_ne hut]
      exact congrFun eu' 10
    · rw [up_eq, up_eq, up_eq, up_eq, upd_eq, up_ne hut, up_ne hut, up_ne hut]
      exact congrFun eu' 11
end
end
section
/-! PARTS AND MERGES -/
def isW (w : Nat) : Prop := w = 10 ∨ w = 46
def isP (p : Nat) : Prop := ∃ w, isW w ∧ (p = w + 2 ∨ ∃ n, n < 15 ∧ p = w + 5 + n)
def isM (m : Nat) : Prop := ∃ w, isW w ∧ m = w + 3
theorem Wires_f0 {w : Nat} (h : isW w) : cw_fR w 7 0 = some (some (w + 1)) := by rcases h with rfl | rfl <;> rfl
theorem Wires_f1 {w : Nat} (h : isW w) : cw_fR w 7 1 = some (some (w + 2)) := by rcases h with rfl | rfl <;> rfl
theorem Wires_f2 {w : Nat} (h : isW w) : cw_fR w 7 2 = some (some (w + 3)) := by rcases h with rfl | rfl <;> rfl
theorem Wires_f3 {w : Nat} (h : isW w) : cw_fR w 7 3 = some (some (w + 4)) := by rcases h with rfl | rfl <;> rfl
theorem Wires_f4 {w : Nat} (h : isW w) : cw_fR w 7 4 = some none := by rcases h with rfl | rfl <;> rfl
theorem Wires_f5 {w : Nat} (h : isW w) : cw_fR w 7 5 = some none := by rcases h with rfl | rfl <;> rfl
theorem Wires_f6 {w : Nat} (h : isW w) : cw_fR w 7 6 = some none := by rcases h with rfl | rfl <;> rfl
theorem Wires_c {w : Nat} (h : isW w) : cw_cR w = some 7 := by rcases h with rfl | rfl <;> rfl
theorem Wires_a0 {w : Nat} (h : isW w) : cw_aR (w + 1) = some (1 + 2, 15, w + 5, 1) := by rcases h with rfl | rfl <;> rfl
theorem Wires_a3 {w : Nat} (h : isW w) : cw_aR (w + 4) = some (0, 15, 0, 0) := by rcases h with rfl | rfl <;> rfl
theorem Merge_f0 {m : Nat} (h : isM m) : cw_fR m 1 0 = some none := by obtain ⟨w, rfl | rfl, rfl⟩ := h <;> rfl
theorem Merge_f1 {m : Nat} (h : isM m) : cw_fR m 1 1 = some none := by obtain ⟨w, rfl | rfl, rfl⟩ := h <;> rfl
theorem Merge_f2 {m : Nat} (h : isM m) : cw_fR m 1 2 = some none := by obtain ⟨w, rfl | rfl, rfl⟩ := h <;> rfl
theorem Merge_f3 {m : Nat} (h : isM m) : cw_fR m 1 3 = some none := by obtain ⟨w, rfl | rfl, rfl⟩ := h <;> rfl
theorem Merge_c {m : Nat} (h : isM m) : cw_cR m = some 1 := by obtain ⟨w, rfl | rfl, rfl⟩ := h <;> rfl
theorem isP.all {X : Nat → Prop} {p : Nat} (h : isP p) (hc : ∀ q, q < 66 → (q = 12 ∨ q = 48 ∨ (15 ≤ q ∧ q < 30) ∨ (51 ≤ q ∧ q < 66)) → X q) : X p := by
  obtain ⟨w, hw, h⟩ := h
  rcases hw with rfl | rfl
  · rcases h with rfl | ⟨n, hn, rfl⟩
    · exact hc _ (by omega) (by omega)
    · exact hc _ (by omega) (by omega)
  · rcases h with rfl | ⟨n, hn, rfl⟩
    · exact hc _ (by omega) (by omega)
    · exact hc _ (by omega) (by omega)
theorem Part_f0 {p : Nat} (h : isP p) : cw_fR p 2 0 = some none := h.all (X := fun p => cw_fR p 2 0 = some none) (by decide +kernel)
theorem Part_f1 {p : Nat} (h : isP p) : cw_fR p 2 1 = some none := h.all (X := fun p => cw_fR p 2 1 = some none) (by decide +kernel)
theorem Part_f2 {p : Nat} (h : isP p) : cw_fR p 2 2 = some none := h.all (X := fun p => cw_fR p 2 2 = some none) (by decide +kernel)
theorem Part_f3 {p : Nat} (h : isP p) : cw_fR p 2 3 = some none := h.all (X := fun p => cw_fR p 2 3 = some none) (by decide +kernel)
theorem Part_f4 {p : Nat} (h : isP p) : cw_fR p 2 4 = some none := h.all (X := fun p => cw_fR p 2 4 = some none) (by decide +kernel)
theorem Part_f5 {p : Nat} (h : isP p) : cw_fR p 2 5 = some none := h.all (X := fun p => cw_fR p 2 5 = some none) (by decide +kernel)
theorem Part_f6 {p : Nat} (h : isP p) : cw_fR p 2 6 = some none := h.all (X := fun p => cw_fR p 2 6 = some none) (by decide +kernel)
theorem Part_f7 {p : Nat} (h : isP p) : cw_fR p 2 7 = some none := h.all (X := fun p => cw_fR p 2 7 = some none) (by decide +kernel)
theorem Part_f8 {p : Nat} (h : isP p) : cw_fR p 2 8 = some none := h.all (X := fun p => cw_fR p 2 8 = some none) (by decide +kernel)
theorem Part_f9 {p : Nat} (h : isP p) : cw_fR p 2 9 = some none := h.all (X := fun p => cw_fR p 2 9 = some none) (by decide +kernel)
theorem Part_c {p : Nat} (h : isP p) : cw_cR p = some 2 := h.all (X := fun p => cw_cR p = some 2) (by decide +kernel)
theorem isPM {p m : Nat} (hp : isP p) (hm : isM m) : p ≠ m := by
  obtain ⟨w, hw, rfl⟩ := hm
  refine hp.all (X := fun p => p ≠ w + 3) (fun q _ h => ?_)
  rcases hw with rfl | rfl <;> omega
/-- the greater, the lesser, the size, as the machine has them -/
def mx (x y : Int32) : Int32 := if x < y then y else x
def mn (x y : Int32) : Int32 := if y < x then y else x
def ab (x : Int32) : Int32 := if 0 ≤ x then x else 0 - x
/-- of two parts (0 U1, 1 U2, 2 V1, 3 V2, 4 early, 5 late, 6 wire, 7 cost, 8 sinks, 9 loads): D, d, s, the wires -/
def gapF (a b : Nat → Int32) : Int32 := mx 0 (mx (mx (b 0 - a 1) (a 0 - b 1)) (mx (b 2 - a 3) (a 2 - b 3)))
def wantF (a b : Nat → Int32) : Int32 := (b 4 + b 5 - a 4 - a 5) / 2
def leadF (a b : Nat → Int32) (g sk : Int32) : Int32 := if wantF a b ≤ g then (if -g ≤ wantF a b then wantF a b else mn (-g) (sk + b 4 - a 5)) else mx g (b 5 - a 4 - sk)
def spanF (a b : Nat → Int32) (sk : Int32) : Int32 := mx (gapF a b) (ab (leadF a b (gapF a b) sk))
def lwF (a b : Nat → Int32) (sk : Int32) : Int32 := (spanF a b sk + leadF a b (gapF a b) sk) / 2
def rwF (a b : Nat → Int32) (sk : Int32) : Int32 := (spanF a b sk - leadF a b (gapF a b) sk) / 2
section
variable {d : Nat} {σ : cw_V} {lam : Nat → Int64} {Q : cw_Q} {a b m j : Nat} {sk : Int32}
theorem z_gapBetween (hm : isM m) (ha : isP a) (hb : isP b) (kk : Q (some (.int (gapF (σ a) (σ b)))) (cw_B σ lam)) : cw_Z (d + 1) m_Merge_gapBetween [.ref m, .ref a, .ref b] (cw_B σ lam) Q := by
  refine zi (L := [some (.ref m), some (.ref a), some (.ref b), none, none]) rfl rfl (fun K hK => ?_)
  refine st_go hK rfl rfl ?_
  refine st_geti hK rfl (Part_f0 hb) ?_
  refine st_go hK rfl rfl ?_
  refine st_geti hK rfl (Part_f1 ha) ?_
  refine st_bin hK rfl ?_
  refine st_go hK rfl rfl ?_
  refine st_geti hK rfl (Part_f0 ha) ?_
  refine st_go hK rfl rfl ?_
  refine st_geti hK rfl (Part_f1 hb) ?_
  refine st_bin hK rfl ?_
  refine st_max hK rfl (Nat.le_of_ble_eq_true rfl) ?_
  refine st_go hK rfl rfl ?_
  refine st_go hK rfl rfl ?_
  refine st_geti hK rfl (Part_f2 hb) ?_
  refine st_go hK rfl rfl ?_
  refine st_geti hK rfl (Part_f3 ha) ?_
  refine st_bin hK rfl ?_
  refine st_go hK rfl rfl ?_
  refine st_geti hK rfl (Part_f2 ha) ?_
  refine st_go hK rfl rfl ?_
  refine st_geti hK rfl (Part_f3 hb) ?_
  refine st_bin hK rfl ?_
  refine st_max hK rfl (Nat.le_of_ble_eq_true rfl) ?_
  refine st_go hK rfl rfl ?_
  refine st_go hK rfl rfl ?_
  refine st_go hK rfl rfl ?_
  refine st_go hK rfl rfl ?_
  refine st_max hK rfl (Nat.le_of_ble_eq_true rfl) ?_
  refine st_max hK rfl (Nat.le_of_ble_eq_true rfl) ?_
  refine st_ret hK rfl rfl ?_
  exact kk
theorem z_leadOf (hm : isM m) (ha : isP a) (hb : isP b) (kk : Q (some (.int (leadF (σ a) (σ b) (σ m 0) sk))) (cw_B σ lam)) : cw_Z (d + 1) m_Merge_leadOf [.ref m, .ref a, .ref b, .int sk] (cw_B σ lam) Q := by
  refine zi (L := [some (.ref m), some (.ref a), some (.ref b), some (.int sk), none]) rfl rfl (fun K hK => ?_)
  refine st_go hK rfl rfl ?_
  refine st_geti hK rfl (Part_f4 hb) ?_
  refine st_go hK rfl rfl ?_
  refine st_geti hK rfl (Part_f5 hb) ?_
  refine st_bin hK rfl ?_
  refine st_go hK rfl rfl ?_
  refine st_geti hK rfl (Part_f4 ha) ?_
  refine st_bin hK rfl ?_
  refine st_go hK rfl rfl ?_
  refine st_geti hK rfl (Part_f5 ha) ?_
  refine st_bin hK rfl ?_
  refine st_go hK rfl rfl ?_
  refine st_div hK rfl (by decide) ?_
  refine st_go hK rfl rfl ?_
  refine st_go hK rfl rfl ?_
  refine st_go hK rfl rfl ?_
  refine st_geti hK rfl (Merge_f0 hm) ?_
  refine st_if hK rfl rfl (fun c29 => ?_) (fun c29 => ?_)
  · refine st_go hK rfl rfl ?_
    refine st_go hK rfl rfl ?_
    refine st_geti hK rfl (Merge_f0 hm) ?_
    refine st_go hK rfl rfl ?_
    refine st_if hK rfl rfl (fun c58 => ?_) (fun c58 => ?_)
    · refine st_go hK rfl rfl ?_
      refine st_ret hK rfl rfl ?_
      rw [show leadF (σ a) (σ b) (σ m 0) sk = wantF (σ a) (σ b) from (if_pos c29).trans (if_pos c58)] at kk
      exact kk
    · refine st_go hK rfl rfl ?_
      refine st_geti hK rfl (Merge_f0 hm) ?_
      refine st_go hK rfl rfl ?_
      refine st_go hK rfl rfl ?_
      refine st_go hK rfl rfl ?_
      refine st_geti hK rfl (Part_f4 hb) ?_
      refine st_bin hK rfl ?_
      refine st_go hK rfl rfl ?_
      refine st_geti hK rfl (Part_f5 ha) ?_
      refine st_bin hK rfl ?_
      refine st_min hK rfl (Nat.le_of_ble_eq_true rfl) ?_
      refine st_ret hK rfl rfl ?_
      rw [show leadF (σ a) (σ b) (σ m 0) sk = mn (-(σ m 0)) (sk + σ b 4 - σ a 5) from (if_pos c29).trans (if_neg c58)] at kk
      exact kk
  · refine st_go hK rfl rfl ?_
    refine st_geti hK rfl (Merge_f0 hm) ?_
    refine st_go hK rfl rfl ?_
    refine st_geti hK rfl (Part_f5 hb) ?_
    refine st_go hK rfl rfl ?_
    refine st_geti hK rfl (Part_f4 ha) ?_
    refine st_bin hK rfl ?_
    refine st_go hK rfl rfl ?_
    refine st_bin hK rfl ?_
    refine st_max hK rfl (Nat.le_of_ble_eq_true rfl) ?_
    refine st_ret hK rfl rfl ?_
    rw [show leadF (σ a) (σ b) (σ m 0) sk = mx (σ m 0) (σ b 5 - σ a 4 - sk) from if_neg c29] at kk
    exact kk
def wgF (σ : cw_V) (m a b : Nat) (sk : Int32) : cw_V := cw_up (cw_up (cw_up (cw_up σ m 0 (gapF (σ a) (σ b))) m 1 (spanF (σ a) (σ b) sk)) m 2 (lwF (σ a) (σ b) sk)) m 3 (rwF (σ a) (σ b) sk)
theorem wgF_ne {p : Nat} (h : p ≠ m) : wgF σ m a b sk p = σ p := by
  unfold wgF
  rw [up_ne h, up_ne h, up_ne h, up_ne h]
theorem wgF_0 : wgF σ m a b sk m 0 = gapF (σ a) (σ b) := by
  unfold wgF
  rw [up_eq, up_eq, up_eq, up_eq, upd_ne (by decide), upd_ne (by decide), upd_ne (by decide), upd_eq]
theorem wgF_1 : wgF σ m a b sk m 1 = spanF (σ a) (σ b) sk := by
  unfold wgF
  rw [up_eq, up_eq, up_eq, up_eq, upd_ne (by decide), upd_ne (by decide), upd_eq]
theorem wgF_2 : wgF σ m a b sk m 2 = lwF (σ a) (σ b) sk := by
  unfold wgF
  rw [up_eq, up_eq, up_eq, up_eq, upd_ne (by decide), upd_eq]
theorem wgF_3 : wgF σ m a b sk m 3 = rwF (σ a) (σ b) sk := by
  unfold wgF
  rw [up_eq, upd_eq]
theorem z_weigh (hm : isM m) (ha : isP a) (hb : isP b) (kk : Q none (cw_B (wgF σ m a b sk) lam)) : cw_Z (d + 2) m_Merge_weigh [.ref m, .ref a, .ref b, .int sk] (cw_B σ lam) Q := by
  have e1 : cw_up σ m 0 (gapF (σ a) (σ b)) m 0 = gapF (σ a) (σ b) := by rw [up_eq, upd_eq]
  have e2 : ∀ x : Int32, cw_up (cw_up σ m 0 (gapF (σ a) (σ b))) m 1 x m 1 = x := fun x => by rw [up_eq, upd_eq]
  have e3 : ∀ x y : Int32, cw_up (cw_up (cw_up σ m 0 (gapF (σ a) (σ b))) m 1 x) m 2 y m 1 = x := fun x y => by rw [up_eq, up_eq, upd_ne (by decide), upd_eq]
  refine zi (L := [some (.ref m), some (.ref a), some (.ref b), some (.int sk), none]) rfl rfl (fun K hK => ?_)
  refine st_go hK rfl rfl ?_
  refine st_go hK rfl rfl ?_
  refine st_go hK rfl rfl ?_
  refine st_go hK rfl rfl ?_
  refine cv2 hK rfl (Merge_c hm) (Nat.le_of_ble_eq_true rfl) ?_
  refine z_gapBetween hm ha hb ?_
  change K _ _ (_ :: _) _
  refine st_put hK rfl (Merge_f0 hm) rfl ?_
  refine st_go hK rfl rfl ?_
  refine st_go hK rfl rfl ?_
  refine st_go hK rfl rfl ?_
  refine st_go hK rfl rfl ?_
  refine cv3 hK rfl (Merge_c hm) (Nat.le_of_ble_eq_true rfl) ?_
  refine z_leadOf hm ha hb ?_
  rw [up_ne (isPM ha hm), up_ne (isPM hb hm), up_eq, upd_eq]
  change K _ _ (_ :: _) _
  refine st_go hK rfl rfl ?_
  refine st_go hK rfl rfl ?_
  refine st_go hK rfl rfl ?_
  refine st_geti hK rfl (Merge_f0 hm) ?_
  refine st_go hK rfl rfl ?_
  refine st_abs hK rfl (Nat.le_of_ble_eq_true rfl) ?_
  refine st_max hK rfl (Nat.le_of_ble_eq_true rfl) ?_
  refine st_put hK rfl (Merge_f1 hm) rfl ?_
  refine st_go hK rfl rfl ?_
  refine st_go hK rfl rfl ?_
  refine st_geti hK rfl (Merge_f1 hm) ?_
  refine st_go hK rfl rfl ?_
  refine st_bin hK rfl ?_
  refine st_go hK rfl rfl ?_
  refine st_div hK rfl (by decide) ?_
  refine st_put hK rfl (Merge_f2 hm) rfl ?_
  refine st_go hK rfl rfl ?_
  refine st_go hK rfl rfl ?_
  refine st_geti hK rfl (Merge_f1 hm) ?_
  refine st_go hK rfl rfl ?_
  refine st_bin hK rfl ?_
  refine st_go hK rfl rfl ?_
  refine st_div hK rfl (by decide) ?_
  refine st_put hK rfl (Merge_f3 hm) rfl ?_
  refine st_ret hK rfl rfl ?_
  rw [e1, e2, e3] ; exact kk
/-- the joint's part, out of its children's and their wires -/
def jnF (f a b : Nat → Int32) (l r : Int32) : Nat → Int32 := fun k => if k = 0 then mx (a 0 - l) (b 0 - r) else if k = 1 then mn (a 1 + l) (b 1 + r) else if k = 2 then mx (a 2 - l) (b 2 - r) else if k = 3 then mn (a 3 + l) (b 3 + r) else if k = 4 then mn (a 4 + l) (b 4 + r) else if k = 5 then mx (a 5 + l) (b 5 + r) else if k = 7 then a 7 + b 7 + l + r else if k = 8 then a 8 + b 8 else if k = 9 then a 9 + b 9 else f k
def jnS (σ σ' : cw_V) (m j a b : Nat) : Prop := (∀ p, p ≠ a → p ≠ b → p ≠ j → σ' p = σ p) ∧ σ' a = upd (σ a) 6 (σ m 2) ∧ σ' b = upd (σ b) 6 (σ m 3) ∧ ∀ k, σ' j k = jnF (σ j) (σ a) (σ b) (σ m 2) (σ m 3) k
theorem z_join (hm : isM m) (hj : isP j) (ha : isP a) (hb : isP b) (n1 : j ≠ a) (n2 : j ≠ b) (n3 : a ≠ b) (kk : ∀ σ', jnS σ σ' m j a b → Q none (cw_B σ' lam)) : cw_Z (d + 1) m_Merge_join [.ref m, .ref j, .ref a, .ref b] (cw_B σ lam) Q := by
  have q1 := isPM hj hm
  have q2 := isPM ha hm
  have q3 := isPM hb hm
  refine zi (L := [some (.ref m), some (.ref j), some (.ref a), some (.ref b)]) rfl rfl (fun K hK => ?_)
  refine st_go hK rfl rfl ?_
  refine st_go hK rfl rfl ?_
  refine st_geti hK rfl (Merge_f2 hm) ?_
  refine st_put hK rfl (Part_f6 ha) rfl ?_
  refine st_go hK rfl rfl ?_
  refine st_go hK rfl rfl ?_
  refine st_geti hK rfl (Merge_f3 hm) ?_
  refine st_put hK rfl (Part_f6 hb) rfl ?_
  refine st_go hK rfl rfl ?_
  refine st_go hK rfl rfl ?_
  refine st_geti hK rfl (Part_f4 ha) ?_
  refine st_go hK rfl rfl ?_
  refine st_geti hK rfl (Merge_f2 hm) ?_
  refine st_bin hK rfl ?_
  refine st_go hK rfl rfl ?_
  refine st_geti hK rfl (Part_f4 hb) ?_
  refine st_go hK rfl rfl ?_
  refine st_geti hK rfl (Merge_f3 hm) ?_
  refine st_bin hK rfl ?_
  refine st_min hK rfl (Nat.le_of_ble_eq_true rfl) ?_
  refine st_put hK rfl (Part_f4 hj) rfl ?_
  refine st_go hK rfl rfl ?_
  refine st_go hK rfl rfl ?_
  refine st_geti hK rfl (Part_f5 ha) ?_
  refine st_go hK rfl rfl ?_
  refine st_geti hK rfl (Merge_f2 hm) ?_
  refine st_bin hK rfl ?_
  refine st_go hK rfl rfl ?_
  refine st_geti hK rfl (Part_f5 hb) ?_
  refine st_go hK rfl rfl ?_
  refine st_geti hK rfl (Merge_f3 hm) ?_
  refine st_bin hK rfl ?_
  refine st_max hK rfl (Nat.le_of_ble_eq_true rfl) ?_
  refine st_put hK rfl (Part_f5 hj) rfl ?_
  refine st_go hK rfl rfl ?_
  refine st_go hK rfl rfl ?_
  refine st_geti hK rfl (Part_f0 ha) ?_
  refine st_go hK rfl rfl ?_
  refine st_geti hK rfl (Merge_f2 hm) ?_
  refine st_bin hK rfl ?_
  refine st_go hK rfl rfl ?_
  refine st_geti hK rfl (Part_f0 hb) ?_
  refine st_go hK rfl rfl ?_
  refine st_geti hK rfl (Merge_f3 hm) ?_
  refine st_bin hK rfl ?_
  refine st_max hK rfl (Nat.le_of_ble_eq_true rfl) ?_
  refine st_put hK rfl (Part_f0 hj) rfl ?_
  refine st_go hK rfl rfl ?_
  refine st_go hK rfl rfl ?_
  refine st_geti hK rfl (Part_f1 ha) ?_
  refine st_go hK rfl rfl ?_
  refine st_geti hK rfl (Merge_f2 hm) ?_
  refine st_bin hK rfl ?_
  refine st_go hK rfl rfl ?_
  refine st_geti hK rfl (Part_f1 hb) ?_
  refine st_go hK rfl rfl ?_
  refine st_geti hK rfl (Merge_f3 hm) ?_
  refine st_bin hK rfl ?_
  refine st_min hK rfl (Nat.le_of_ble_eq_true rfl) ?_
  refine st_put hK rfl (Part_f1 hj) rfl ?_
  refine st_go hK rfl rfl ?_
  refine st_go hK rfl rfl ?_
  refine st_geti hK rfl (Part_f2 ha) ?_
  refine st_go hK rfl rfl ?_
  refine st_geti hK rfl (Merge_f2 hm) ?_
  refine st_bin hK rfl ?_
  refine st_go hK rfl rfl ?_
  refine st_geti hK rfl (Part_f2 hb) ?_
  refine st_go hK rfl rfl ?_
  refine st_geti hK rfl (Merge_f3 hm) ?_
  refine st_bin hK rfl ?_
  refine st_max hK rfl (Nat.le_of_ble_eq_true rfl) ?_
  refine st_put hK rfl (Part_f2 hj) rfl ?_
  refine st_go hK rfl rfl ?_
  refine st_go hK rfl rfl ?_
  refine st_geti hK rfl (Part_f3 ha) ?_
  refine st_go hK rfl rfl ?_
  refine st_geti hK rfl (Merge_f2 hm) ?_
  refine st_bin hK rfl ?_
  refine st_go hK rfl rfl ?_
  refine st_geti hK rfl (Part_f3 hb) ?_
  refine st_go hK rfl rfl ?_
  refine st_geti hK rfl (Merge_f3 hm) ?_
  refine st_bin hK rfl ?_
  refine st_min hK rfl (Nat.le_of_ble_eq_true rfl) ?_
  refine st_put hK rfl (Part_f3 hj) rfl ?_
  refine st_go hK rfl rfl ?_
  refine st_go hK rfl rfl ?_
  refine st_geti hK rfl (Part_f7 ha) ?_
  refine st_go hK rfl rfl ?_
  refine st_geti hK rfl (Part_f7 hb) ?_
  refine st_bin hK rfl ?_
  refine st_go hK rfl rfl ?_
  refine st_geti hK rfl (Merge_f2 hm) ?_
  refine st_bin hK rfl ?_
  refine st_go hK rfl rfl ?_
  refine st_geti hK rfl (Merge_f3 hm) ?_
  refine st_bin hK rfl ?_
  refine st_put hK rfl (Part_f7 hj) rfl ?_
  refine st_go hK rfl rfl ?_
  refine st_go hK rfl rfl ?_
  refine st_geti hK rfl (Part_f8 ha) ?_
  refine st_go hK rfl rfl ?_
  refine st_geti hK rfl (Part_f8 hb) ?_
  refine st_bin hK rfl ?_
  refine st_put hK rfl (Part_f8 hj) rfl ?_
  refine st_go hK rfl rfl ?_
  refine st_go hK rfl rfl ?_
  refine st_geti hK rfl (Part_f9 ha) ?_
  refine st_go hK rfl rfl ?_
  refine st_geti hK rfl (Part_f9 hb) ?_
  refine st_bin hK rfl ?_
  refine st_put hK rfl (Part_f9 hj) rfl ?_
  refine st_ret hK rfl rfl ?_
  refine kk _ ?_
  have n1' := n1.symm
  have n2' := n2.symm
  have n3' := n3.symm
  have q1' := q1.symm
  have q2' := q2.symm
  have q3' := q3.symm
  refine ⟨fun p h1 h2 h3 => ?_, ?_, ?_, ?_⟩
  · simp only [cw_up, h1, h2, h3, if_false]
  · simp only [cw_up, n1, n2, n3, n1', n2', n3', q1, q2, q3, q1', q2', q3', if_true, if_false]
  · simp only [cw_up, n1, n2, n3, n1', n2', n3', q1, q2, q3, q1', q2', q3', if_true, if_false]
  · intro k
    simp only [cw_up, n1, n2, n3, n1', n2', n3', q1, q2, q3, q1', q2', q3', if_true, if_false]
    rcases (show k = 0 ∨ k = 1 ∨ k = 2 ∨ k = 3 ∨ k = 4 ∨ k = 5 ∨ k = 6 ∨ k = 7 ∨ k = 8 ∨ k = 9 ∨ 10 ≤ k by omega) with rfl | rfl | rfl | rfl | rfl | rfl | rfl | rfl | rfl | rfl | h
    all_goals first
      | (simp [upd, jnF, mx, mn]; done)
      | (have z0 : k ≠ 0 := by omega
         have z1 : k ≠ 1 := by omega
         have z2 : k ≠ 2 := by omega
         have z3 : k ≠ 3 := by omega
         have z4 : k ≠ 4 := by omega
         have z5 : k ≠ 5 := by omega
         have z7 : k ≠ 7 := by omega
         have z8 : k ≠ 8 := by omega
         have z9 : k ≠ 9 := by omega
         simp [upd, jnF, z0, z1, z2, z3, z4, z5, z7, z8, z9]; done)
/-- a sink's part -/
def ssF (f : Nat → Int32) (x y o l : Int32) : Nat → Int32 := fun k => if k = 0 ∨ k = 1 then (x + y) * 65536 else if k = 2 ∨ k = 3 then (x - y) * 65536 else if k = 4 ∨ k = 5 then o * 65536 else if k = 7 then 0 else if k = 8 then 1 else if k = 9 then l else f k
theorem isPT {p t i : Nat} (hp : isP p) (ht : isT t) (hi : i ≤ 8) : t + i ≠ p := by
  refine hp.all (X := fun p => t + i ≠ p) (fun q _ h => ?_)
  refine ht.cases (P := fun t => t + i ≠ q) (by omega) (by omega) (fun i' hi' => by omega)

theorem z_setSink {t : Nat} {k : Int32} (hj : isP j) (ht : isT t) (hk : hSink σ t k) (kk : ∀ σ', ((∀ p, p ≠ j → σ' p = σ p) ∧ ∀ i, σ' j i = ssF (σ j) (σ (t + 1) k.toNatClampNeg) (σ (t + 2) k.toNatClampNeg) (σ (t + 3) k.toNatClampNeg) (σ (t + 4) k.toNatClampNeg) i) → Q none (cw_B σ' lam)) : cw_Z (d + 2) m_Part_setSink [.ref j, .ref t, .int k] (cw_B σ lam) Q := by
  have r1 := isPT hj ht (i := 1) (by decide)
  have r2 := isPT hj ht (i := 2) (by decide)
  have r3 := isPT hj ht (i := 3) (by decide)
  have r4 := isPT hj ht (i := 4) (by decide)
  refine zi (L := [some (.ref j), some (.ref t), some (.int k)]) rfl rfl (fun K hK => ?_)
  refine st_go hK rfl rfl ?_
  refine st_go hK rfl rfl ?_
  refine cv1 hK rfl (Tree_c ht) (Nat.le_of_ble_eq_true rfl) ?_
  refine z_hasSink ht (fun _ => ?_) (fun z => absurd hk z)
  change K _ _ (_ :: _) _
  refine st_if hK rfl rfl (fun _ => ?_) (fun c => absurd (by decide) c)
  refine st_go hK rfl rfl ?_
  refine st_go hK rfl rfl ?_
  refine st_getr hK rfl (Tree_f0 ht) ?_
  refine st_go hK rfl rfl ?_
  refine st_iald hK rfl (Tree_a0 ht) hk.in ?_
  refine st_go hK rfl rfl ?_
  refine st_getr hK rfl (Tree_f1 ht) ?_
  refine st_go hK rfl rfl ?_
  refine st_iald hK rfl (Tree_a1 ht) hk.in ?_
  refine st_bin hK rfl ?_
  refine st_go hK rfl rfl ?_
  refine st_bin hK rfl ?_
  refine st_put hK rfl (Part_f0 hj) rfl ?_
  refine st_go hK rfl rfl ?_
  refine st_go hK rfl rfl ?_
  refine st_geti hK rfl (Part_f0 hj) ?_
  refine st_put hK rfl (Part_f1 hj) rfl ?_
  refine st_go hK rfl rfl ?_
  refine st_go hK rfl rfl ?_
  refine st_getr hK rfl (Tree_f0 ht) ?_
  refine st_go hK rfl rfl ?_
  refine st_iald hK rfl (Tree_a0 ht) hk.in ?_
  refine st_go hK rfl rfl ?_
  refine st_getr hK rfl (Tree_f1 ht) ?_
  refine st_go hK rfl rfl ?_
  refine st_iald hK rfl (Tree_a1 ht) hk.in ?_
  refine st_bin hK rfl ?_
  refine st_go hK rfl rfl ?_
  refine st_bin hK rfl ?_
  refine st_put hK rfl (Part_f2 hj) rfl ?_
  refine st_go hK rfl rfl ?_
  refine st_go hK rfl rfl ?_
  refine st_geti hK rfl (Part_f2 hj) ?_
  refine st_put hK rfl (Part_f3 hj) rfl ?_
  refine st_go hK rfl rfl ?_
  refine st_go hK rfl rfl ?_
  refine st_getr hK rfl (Tree_f2 ht) ?_
  refine st_go hK rfl rfl ?_
  refine st_iald hK rfl (Tree_a2 ht) hk.in ?_
  refine st_go hK rfl rfl ?_
  refine st_bin hK rfl ?_
  refine st_put hK rfl (Part_f4 hj) rfl ?_
  refine st_go hK rfl rfl ?_
  refine st_go hK rfl rfl ?_
  refine st_geti hK rfl (Part_f4 hj) ?_
  refine st_put hK rfl (Part_f5 hj) rfl ?_
  refine st_go hK rfl rfl ?_
  refine st_go hK rfl rfl ?_
  refine st_put hK rfl (Part_f7 hj) rfl ?_
  refine st_go hK rfl rfl ?_
  refine st_go hK rfl rfl ?_
  refine st_put hK rfl (Part_f8 hj) rfl ?_
  refine st_go hK rfl rfl ?_
  refine st_go hK rfl rfl ?_
  refine st_getr hK rfl (Tree_f3 ht) ?_
  refine st_go hK rfl rfl ?_
  refine st_iald hK rfl (Tree_a3 ht) hk.in ?_
  refine st_put hK rfl (Part_f9 hj) rfl ?_
  refine st_ret hK rfl rfl ?_
  refine kk _ ?_
  refine ⟨fun p hp => ?_, fun i => ?_⟩
  · simp only [cw_up, hp, if_false]
  · simp only [cw_up, r1, r2, r3, r4, if_true, if_false]
    rcases (show i = 0 ∨ i = 1 ∨ i = 2 ∨ i = 3 ∨ i = 4 ∨ i = 5 ∨ i = 6 ∨ i = 7 ∨ i = 8 ∨ i = 9 ∨ 10 ≤ i by omega) with rfl | rfl | rfl | rfl | rfl | rfl | rfl | rfl | rfl | rfl | h
    all_goals first
      | (simp [upd, ssF]; done)
      | (have z0 : i ≠ 0 := by omega
         have z1 : i ≠ 1 := by omega
         have z2 : i ≠ 2 := by omega
         have z3 : i ≠ 3 := by omega
         have z4 : i ≠ 4 := by omega
         have z5 : i ≠ 5 := by omega
         have z7 : i ≠ 7 := by omega
         have z8 : i ≠ 8 := by omega
         have z9 : i ≠ 9 := by omega
         simp [upd, ssF, z0, z1, z2, z3, z4, z5, z7, z8, z9]; done)
def capF (f : Nat → Int32) : Int64 := (f 7).toInt64 + (f 9).toInt64 * 65536
theorem z_capacity (hj : isP j) (kk : Q (some (.long (capF (σ j)))) (cw_B σ lam)) : cw_Z (d + 1) m_Part_capacity [.ref j] (cw_B σ lam) Q := by
  refine zi (L := [some (.ref j)]) rfl rfl (fun K hK => ?_)
  refine st_go hK rfl rfl ?_
  refine st_geti hK rfl (Part_f7 hj) ?_
  refine st_go hK rfl rfl ?_
  refine st_go hK rfl rfl ?_
  refine st_geti hK rfl (Part_f9 hj) ?_
  refine st_go hK rfl rfl ?_
  refine st_go hK rfl rfl ?_
  refine st_lbin hK rfl ?_
  refine st_lbin hK rfl ?_
  refine st_ret hK rfl rfl ?_
  exact kk
/-- where a node's part lies -/
theorem z_part {w : Nat} {n : Int32} (hw : isW w) (hn : cw_in n 15 = true) (kk : Q (some (.ref (w + 5 + n.toNatClampNeg))) (cw_B σ lam)) : cw_Z (d + 1) m_Wires_part [.ref w, .int n] (cw_B σ lam) Q := by
  have hn2 := cw_in_iff.mp hn
  have e0 : (0 : Int32).toInt = 0 := by decide
  have e15 : (15 : Int32).toInt = 15 := by decide
  rw [show w + 5 + n.toNatClampNeg = w + 5 + 1 * n.toNatClampNeg by omega] at kk
  refine zi (L := [some (.ref w), some (.int n)]) rfl rfl (fun K hK => ?_)
  refine st_go hK rfl rfl ?_
  refine st_if hK rfl rfl (fun c1 => ?_) (fun c1 => ?_)
  · rw [Int32.lt_iff_toInt_lt] at c1
    omega
  · refine st_go hK rfl rfl ?_
    refine st_go hK rfl rfl ?_
    refine st_if hK rfl rfl (fun c7 => ?_) (fun c7 => ?_)
    · rw [Int32.le_iff_toInt_le] at c7
      omega
    · refine st_go hK rfl rfl ?_
      refine st_getr hK rfl (Wires_f0 hw) ?_
      refine st_go hK rfl rfl ?_
      refine st_aald hK rfl (Wires_a0 hw) (by decide) hn ?_
      refine st_go hK rfl rfl ?_
      refine st_ret hK rfl rfl ?_
      exact kk
end
end
section
/-! WIRES: the nodes listed downward -/
theorem isWT {w t i k : Nat} (hw : isW w) (ht : isT t) (hi : i ≤ 8) (hk : k ≤ 19) : t + i ≠ w + k := by
  refine ht.cases (P := fun t => t + i ≠ w + k) ?_ ?_ (fun j hj => ?_) <;> (rcases hw with rfl | rfl <;> omega)
section
variable {d w t : Nat} {σ τ : cw_V} {lam : Nat → Int64} {Q : cw_Q} {n : Int32}
theorem z_list {c : Nat} (hw : isW w) (h4 : σ w 4 = nI c) (hc : c < 15) (kk : Q none (cw_B (cw_up (cw_up σ (w + 4) c n) w 4 (nI (c + 1))) lam)) : cw_Z (d + 1) m_Wires_list [.ref w, .int n] (cw_B σ lam) Q := by
  refine zi (L := [some (.ref w), some (.int n)]) rfl rfl (fun K hK => ?_)
  refine st_go hK rfl rfl ?_
  refine st_geti hK rfl (Wires_f4 hw) ?_
  rw [h4]
  refine st_if hK rfl rfl (fun c4 => ?_) (fun c4 => ?_)
  · refine st_ret hK rfl rfl ?_
    first
      | (exfalso; exact nI_pos (by omega) c4)
      | (exfalso; have := yle (a := 15) (i := c) (by decide) (by omega) c13; omega)
      | (rw [nI_clamp (by omega), up_ne (by omega), h4, nI_1]; exact kk)
  · refine st_go hK rfl rfl ?_
    refine st_geti hK rfl (Wires_f4 hw) ?_
    rw [h4]
    refine st_go hK rfl rfl ?_
    refine st_if hK rfl rfl (fun c13 => ?_) (fun c13 => ?_)
    · refine st_ret hK rfl rfl ?_
      first
        | (exfalso; exact nI_pos (by omega) c4)
        | (exfalso; have := yle (a := 15) (i := c) (by decide) (by omega) c13; omega)
        | (rw [nI_clamp (by omega), up_ne (by omega), h4, nI_1]; exact kk)
    · refine st_go hK rfl rfl ?_
      refine st_getr hK rfl (Wires_f3 hw) ?_
      refine st_go hK rfl rfl ?_
      refine st_geti hK rfl (Wires_f4 hw) ?_
      rw [h4]
      refine st_go hK rfl rfl ?_
      refine st_iast hK rfl (Wires_a3 hw) (cw_in_nI hc (by decide)) ?_
      refine st_go hK rfl rfl ?_
      refine st_go hK rfl rfl ?_
      refine st_geti hK rfl (Wires_f4 hw) ?_
      refine st_go hK rfl rfl ?_
      refine st_bin hK rfl ?_
      refine st_put hK rfl (Wires_f4 hw) rfl ?_
      refine st_ret hK rfl rfl ?_
      first
        | (exfalso; exact nI_pos (by omega) c4)
        | (exfalso; have := yle (a := 15) (i := c) (by decide) (by omega) c13; omega)
        | (rw [nI_clamp (by omega), up_ne (by omega), h4, nI_1]; exact kk)
/-- the list D lies in the wires at w; besides, only the counts may differ -/
def LR (σ τ : cw_V) (w : Nat) (D : List Int32) : Prop := (∀ p, p ≠ w → p ≠ w + 4 → τ p = σ p) ∧ τ w 6 = σ w 6 ∧ τ w 4 = nI D.length ∧ D.length ≤ 15 ∧ ∀ j, j < D.length → τ (w + 4) j = D.getD j 0
theorem LR.push {D : List Int32} (h : LR σ τ w D) (hl : D.length < 15) : LR σ (cw_up (cw_up τ (w + 4) D.length n) w 4 (nI (D.length + 1))) w (D ++ [n]) := by
  obtain ⟨h1, h6, h2, h3, h4⟩ := h
  refine ⟨fun p p1 p2 => ?_, ?_, ?_, ?_, fun j hj => ?_⟩
  · rw [up_ne p1, up_ne p2, h1 p p1 p2]
  · rw [up_eq, upd_ne (by decide), up_ne (by omega), h6]
  · rw [up_eq, upd_eq, List.length_append, List.length_singleton]
  · rw [List.length_append, List.length_singleton]
    omega
  · rw [List.length_append, List.length_singleton] at hj
    rw [up_ne (by omega), up_eq]
    rcases Nat.lt_or_ge j D.length with q | q
    · rw [upd_ne (by omega), h4 j q, List.getD_eq_getElem?_getD, List.getD_eq_getElem?_getD, List.getElem?_append_left q]
    · have e : j = D.length := by omega
      subst e
      rw [upd_eq, List.getD_eq_getElem?_getD, List.getElem?_append_right (Nat.le_refl _)]
      simp
theorem LR.row {D : List Int32} (h : LR σ τ w D) (hw : isW w) (ht : isT t) {i : Nat} (hi : i ≤ 8) : τ (t + i) = σ (t + i) := h.1 _ (isWT hw ht hi (k := 0) (by decide)) (isWT hw ht hi (k := 4) (by decide))
theorem LR.row0 {D : List Int32} (h : LR σ τ w D) (hw : isW w) (ht : isT t) : τ t = σ t := h.row hw ht (i := 0) (by decide)
theorem hNode_eq {m : Int32} (e0 : τ t 8 = σ t 8) (e6 : τ (t + 6) = σ (t + 6)) : hNode τ t m ↔ hNode σ t m := by
  unfold hNode
  rw [e0, e6]
theorem hTop_eq {m : Int32} (e0 : τ t 8 = σ t 8) (e6 : τ (t + 6) = σ (t + 6)) (e8 : τ (t + 8) = σ (t + 8)) : hTop τ t m ↔ hTop σ t m := by
  unfold hTop
  rw [hNode_eq e0 e6, e8]
theorem hJoint_eq {m : Int32} (e6 : τ (t + 6) = σ (t + 6)) : hJoint τ t m ↔ hJoint σ t m := by
  unfold hJoint
  rw [e6]
def topB (σ : cw_V) (t n : Nat) : Bool := hNodeB σ t (nI n) && decide (σ (t + 8) n = -1)
theorem topB_iff {n : Nat} (hn : n < 15) : topB σ t n = true ↔ hTop σ t (nI n) := by
  unfold topB hTop
  rw [Bool.and_eq_true, hNodeB_iff, decide_eq_true_eq, nI_clamp (by omega)]
/-- the tops below m, ascending -/
def tlF (σ : cw_V) (t : Nat) : Nat → List Int32
  | 0 => []
  | m + 1 => bif topB σ t m then tlF σ t m ++ [nI m] else tlF σ t m
theorem tlF_len : ∀ m, (tlF σ t m).length ≤ m
  | 0 => Nat.le_refl 0
  | m + 1 => by
    have := tlF_len m
    unfold tlF
    cases topB σ t m with
    | true => simp; omega
    | false => simp; omega
/-- then the children, each behind its joint -/
def bf (σ : cw_V) (t : Nat) : Nat → Nat → List Int32 → List Int32
  | 0, _, D => D
  | f + 1, i, D => match D[i]? with
    | none => D
    | some n => bf σ t f (i + 1) (bif hJointB σ t n then D ++ [σ (t + 6) n.toNatClampNeg, σ (t + 7) n.toNatClampNeg] else D)
theorem bf_len : ∀ (f i : Nat) (D : List Int32), D.length ≤ (bf σ t f i D).length
  | 0, _, _ => Nat.le_refl _
  | f + 1, i, D => by
    unfold bf
    split
    · exact Nat.le_refl _
    · rename_i n _
      refine Nat.le_trans ?_ (bf_len f (i + 1) _)
      cases hJointB σ t n with
      | true => simp
      | false => exact Nat.le_refl _
theorem bf_s {f i : Nat} {D : List Int32} {n : Int32} (h : D[i]? = some n) : bf σ t (f + 1) i D = bf σ t f (i + 1) (bif hJointB σ t n then D ++ [σ (t + 6) n.toNatClampNeg, σ (t + 7) n.toNatClampNeg] else D) := by
  show (match D[i]? with
    | none => D
    | some n => bf σ t f (i + 1) (bif hJointB σ t n then D ++ [σ (t + 6) n.toNatClampNeg, σ (t + 7) n.toNatClampNeg] else D)) = _
  rw [h]
theorem bf_0 {f i : Nat} {D : List Int32} (h : D.length ≤ i) : bf σ t f i D = D := by
  cases f with
  | zero => rfl
  | succ f =>
    show (match D[i]? with
      | none => D
      | some n => bf σ t f (i + 1) (bif hJointB σ t n then D ++ [σ (t + 6) n.toNatClampNeg, σ (t + 7) n.toNatClampNeg] else D)) = _
    rw [List.getElem?_eq_none h]
/-- all nodes, downward -/
def dnF (σ : cw_V) (t : Nat) : List Int32 := bf σ t 16 0 (tlF σ t 15)
theorem hJoint.node {m : Int32} (h : hJoint σ t m) : hNode σ t m := ⟨Int32.not_lt.mp (i_ge0 h.1), h.2.1, Or.inr ⟨h.1, h.2.2⟩⟩
theorem z_listDownward (hw : isW w) (ht : isT t) (hlen : (dnF σ t).length ≤ 15) (kk : ∀ τ, LR σ τ w (dnF σ t) → τ w 5 = nI (tlF σ t 15).length → Q none (cw_B τ lam)) : cw_Z (d + 3) m_Wires_listDownward [.ref w, .ref t] (cw_B σ lam) Q := by
  refine zi (L := [some (.ref w), some (.ref t), none, none]) rfl rfl (fun K hK => ?_)
  have loop2 : ∀ f i τ (D : List Int32) (x : Option Value), LR σ τ w D → τ w 5 = nI (tlF σ t 15).length → i ≤ D.length → i + f = 16 → bf σ t f i D = dnF σ t → K 42 [some (.ref w), some (.ref t), some (.int (nI i)), x] [] (cw_B τ lam) := by
    intro f
    induction f with
    | zero =>
      intro i τ D x hD h5 hi hf e
      have := hD.2.2.2.1
      omega
    | succ f ih =>
      intro i τ D x hD h5 hi hf e
      have hle := hD.2.2.2.1
      refine st_go hK rfl rfl ?_
      refine st_go hK rfl rfl ?_
      refine st_geti hK rfl (Wires_f4 hw) ?_
      rw [hD.2.2.1]
      refine st_if hK rfl rfl (fun c47 => ?_) (fun c47 => ?_)
      · refine st_ret hK rfl rfl ?_
        have : D.length ≤ i := (nI_leI (by omega) (by omega)).mp c47
        rw [bf_0 this] at e
        subst e
        exact kk τ hD h5
      · have hlt : i < D.length := Nat.not_le.mp (fun z => c47 ((nI_leI (by omega) (by omega)).mpr z))
        refine st_go hK rfl rfl ?_
        refine st_go hK rfl rfl ?_
        refine st_if hK rfl rfl (fun c53 => ?_) (fun c53 => ?_)
        · have := yle (a := 15) (i := i) (by decide) (by omega) c53
          omega
        · refine st_go hK rfl rfl ?_
          refine st_getr hK rfl (Wires_f3 hw) ?_
          refine st_go hK rfl rfl ?_
          refine st_iald hK rfl (Wires_a3 hw) (cw_in_nI (n := 15) (by omega) (by decide)) ?_
          rw [nI_clamp (by omega), hD.2.2.2.2 i hlt]
          have hget : D[i]? = some (D.getD i 0) := by rw [List.getD_eq_getElem?_getD, List.getElem?_eq_getElem hlt]; rfl
          rw [bf_s hget] at e
          generalize D.getD i 0 = n at e hget ⊢
          refine st_go hK rfl rfl ?_
          refine st_go hK rfl rfl ?_
          refine st_go hK rfl rfl ?_
          refine cv1 hK rfl (Tree_c ht) (Nat.le_of_ble_eq_true rfl) ?_
          refine z_isJoint ht (fun hj => ?_) (fun hj => ?_)
          · change K _ _ (_ :: _) _
            rw [hJoint_eq (hD.row hw ht (by decide))] at hj
            rw [hJointB_iff.mpr hj] at e
            have e' : bf σ t f (i + 1) (D ++ [σ (t + 6) n.toNatClampNeg, σ (t + 7) n.toNatClampNeg]) = dnF σ t := e
            have hl2 := bf_len (σ := σ) (t := t) f (i + 1) (D ++ [σ (t + 6) n.toNatClampNeg, σ (t + 7) n.toNatClampNeg])
            rw [e', List.length_append] at hl2
            have hl3 : D.length + 2 ≤ 15 := Nat.le_trans hl2 hlen
            refine st_if hK rfl rfl (fun c => absurd c (by decide)) (fun _ => ?_)
            refine st_go hK rfl rfl ?_
            refine st_go hK rfl rfl ?_
            refine st_go hK rfl rfl ?_
            refine cv1 hK rfl (Tree_c ht) (Nat.le_of_ble_eq_true rfl) ?_
            refine z_leftOf ht (fun _ => ?_) (fun z => absurd ((hNode_eq (congrFun (hD.row0 hw ht) 8) (hD.row hw ht (by decide))).mpr hj.node) z)
            change K _ _ (_ :: _) _
            rw [hD.row hw ht (i := 6) (by decide)]
            refine cv1 hK rfl (Wires_c hw) (Nat.le_of_ble_eq_true rfl) ?_
            refine z_list hw hD.2.2.1 (by omega) ?_
            have hD1 := hD.push (n := σ (t + 6) n.toNatClampNeg) (by omega)
            have h51 : cw_up (cw_up τ (w + 4) D.length (σ (t + 6) n.toNatClampNeg)) w 4 (nI (D.length + 1)) w 5 = nI (tlF σ t 15).length := by rw [up_eq, upd_ne (by decide), up_ne (by omega), h5]
            generalize cw_up (cw_up τ (w + 4) D.length (σ (t + 6) n.toNatClampNeg)) w 4 (nI (D.length + 1)) = τ1 at hD1 h51 ⊢
            change K _ _ _ _
            refine st_go hK rfl rfl ?_
            refine st_go hK rfl rfl ?_
            refine st_go hK rfl rfl ?_
            refine cv1 hK rfl (Tree_c ht) (Nat.le_of_ble_eq_true rfl) ?_
            refine z_rightOf ht (fun _ => ?_) (fun z => absurd ((hNode_eq (congrFun (hD1.row0 hw ht) 8) (hD1.row hw ht (by decide))).mpr hj.node) z)
            change K _ _ (_ :: _) _
            rw [hD1.row hw ht (i := 7) (by decide)]
            refine cv1 hK rfl (Wires_c hw) (Nat.le_of_ble_eq_true rfl) ?_
            refine z_list hw hD1.2.2.1 (by rw [List.length_append, List.length_singleton]; omega) ?_
            have hD2 := hD1.push (n := σ (t + 7) n.toNatClampNeg) (by rw [List.length_append, List.length_singleton]; omega)
            have h52 : cw_up (cw_up τ1 (w + 4) (D ++ [σ (t + 6) n.toNatClampNeg]).length (σ (t + 7) n.toNatClampNeg)) w 4 (nI ((D ++ [σ (t + 6) n.toNatClampNeg]).length + 1)) w 5 = nI (tlF σ t 15).length := by rw [up_eq, upd_ne (by decide), up_ne (by omega), h51]
            generalize cw_up (cw_up τ1 (w + 4) (D ++ [σ (t + 6) n.toNatClampNeg]).length (σ (t + 7) n.toNatClampNeg)) w 4 (nI ((D ++ [σ (t + 6) n.toNatClampNeg]).length + 1)) = τ2 at hD2 h52 ⊢
            change K _ _ _ _
            refine st_go hK rfl rfl ?_
            refine st_go hK rfl rfl ?_
            rw [List.append_assoc] at hD2
            have := ih (i + 1) τ2 _ (some (.int n)) hD2 h52 (by rw [List.length_append]; omega) (by omega) e'
            rw [← nI_1] at this
            exact this
          · change K _ _ (_ :: _) _
            rw [hJoint_eq (hD.row hw ht (by decide))] at hj
            have hjb : hJointB σ t n = false := by
              cases z : hJointB σ t n with
              | true => exact absurd (hJointB_iff.mp z) hj
              | false => rfl
            rw [hjb] at e
            refine st_if hK rfl rfl (fun _ => ?_) (fun c => absurd (by decide) c)
            refine st_go hK rfl rfl ?_
            refine st_go hK rfl rfl ?_
            have := ih (i + 1) τ D (some (.int n)) hD h5 (by omega) (by omega) e
            rw [← nI_1] at this
            exact this
  have loop1 : ∀ m i τ, i + m = 15 → LR σ τ w (tlF σ t i) → K 7 [some (.ref w), some (.ref t), some (.int (nI i)), none] [] (cw_B τ lam) := by
    intro m
    induction m with
    | zero =>
      intro i τ hi hD
      refine st_go hK rfl rfl ?_
      refine st_go hK rfl rfl ?_
      refine st_if hK rfl rfl (fun c10 => ?_) (fun c10 => ?_)
      · refine st_go hK rfl rfl ?_
        refine st_go hK rfl rfl ?_
        refine st_geti hK rfl (Wires_f4 hw) ?_
        refine st_put hK rfl (Wires_f5 hw) rfl ?_
        refine st_go hK rfl rfl ?_
        refine st_go hK rfl rfl ?_
        have e15 : i = 15 := by omega
        subst e15
        rw [hD.2.2.1]
        refine loop2 16 0 _ (tlF σ t 15) none ⟨fun p p1 p2 => ?_, ?_, ?_, hD.2.2.2.1, fun j hj => ?_⟩ ?_ (Nat.zero_le _) rfl rfl
        · rw [up_ne p1, hD.1 p p1 p2]
        · rw [up_eq, upd_ne (by decide), hD.2.1]
        · rw [up_eq, upd_ne (by decide), hD.2.2.1]
        · rw [up_ne (by omega), hD.2.2.2.2 j hj]
        · rw [up_eq, upd_eq]
      · have := nle (a := 15) (i := i) (by decide) (by omega) c10
        omega
    | succ m ih =>
      intro i τ hi hD
      have hlen1 := tlF_len (σ := σ) (t := t) i
      refine st_go hK rfl rfl ?_
      refine st_go hK rfl rfl ?_
      refine st_if hK rfl rfl (fun c10 => ?_) (fun c10 => ?_)
      · have := yle (a := 15) (i := i) (by decide) (by omega) c10
        omega
      · refine st_go hK rfl rfl ?_
        refine st_go hK rfl rfl ?_
        refine cv1 hK rfl (Tree_c ht) (Nat.le_of_ble_eq_true rfl) ?_
        refine z_isTop ht (fun hj => ?_) (fun hj => ?_)
        · change K _ _ (_ :: _) _
          rw [hTop_eq (congrFun (hD.row0 hw ht) 8) (hD.row hw ht (by decide)) (hD.row hw ht (by decide)), ← topB_iff (by omega)] at hj
          refine st_if hK rfl rfl (fun c => absurd c (by decide)) (fun _ => ?_)
          refine st_go hK rfl rfl ?_
          refine st_go hK rfl rfl ?_
          refine cv1 hK rfl (Wires_c hw) (Nat.le_of_ble_eq_true rfl) ?_
          refine z_list hw hD.2.2.1 (by omega) ?_
          have hD1 := hD.push (n := nI i) (by omega)
          generalize cw_up (cw_up τ (w + 4) (tlF σ t i).length (nI i)) w 4 (nI ((tlF σ t i).length + 1)) = τ1 at hD1 ⊢
          change K _ _ _ _
          refine st_go hK rfl rfl ?_
          refine st_go hK rfl rfl ?_
          have e : tlF σ t (i + 1) = tlF σ t i ++ [nI i] := by
            show (bif topB σ t i then _ else _) = _
            rw [hj]
            rfl
          rw [← e] at hD1
          have := ih (i + 1) τ1 (by omega) hD1
          rw [← nI_1] at this
          exact this
        · change K _ _ (_ :: _) _
          rw [hTop_eq (congrFun (hD.row0 hw ht) 8) (hD.row hw ht (by decide)) (hD.row hw ht (by decide)), ← topB_iff (by omega)] at hj
          refine st_if hK rfl rfl (fun _ => ?_) (fun c => absurd (by decide) c)
          refine st_go hK rfl rfl ?_
          refine st_go hK rfl rfl ?_
          have e : tlF σ t (i + 1) = tlF σ t i := by
            show (bif topB σ t i then _ else _) = _
            rw [Bool.eq_false_iff.mpr hj]
            rfl
          rw [← e] at hD
          have := ih (i + 1) τ (by omega) hD
          rw [← nI_1] at this
          exact this
  refine st_go hK rfl rfl ?_
  refine st_go hK rfl rfl ?_
  refine st_put hK rfl (Wires_f4 hw) rfl ?_
  refine st_go hK rfl rfl ?_
  refine st_go hK rfl rfl ?_
  refine loop1 15 0 _ rfl ⟨fun p p1 p2 => up_ne p1, ?_, ?_, Nat.zero_le _, fun j hj => absurd hj (Nat.not_lt_zero j)⟩
  · rw [up_eq, upd_ne (by decide)]
  · rw [up_eq, upd_eq]
    rfl
end
end
section
/-! MEASURING: the parts become a labelling that is right at each node -/
theorem gap_congr {a a' b b' : Nat → Int32} (ha : ∀ k, k < 6 → a k = a' k) (hb : ∀ k, k < 6 → b k = b' k) : gapF a b = gapF a' b' := by
  unfold gapF
  rw [ha 0 (by decide), ha 1 (by decide), ha 2 (by decide), ha 3 (by decide), hb 0 (by decide), hb 1 (by decide), hb 2 (by decide), hb 3 (by decide)]
theorem lead_congr {a a' b b' : Nat → Int32} {g sk : Int32} (ha : ∀ k, k < 6 → a k = a' k) (hb : ∀ k, k < 6 → b k = b' k) : leadF a b g sk = leadF a' b' g sk := by
  unfold leadF wantF
  rw [ha 4 (by decide), ha 5 (by decide), hb 4 (by decide), hb 5 (by decide)]
theorem span_congr {a a' b b' : Nat → Int32} {sk : Int32} (ha : ∀ k, k < 6 → a k = a' k) (hb : ∀ k, k < 6 → b k = b' k) : spanF a b sk = spanF a' b' sk := by
  unfold spanF
  rw [gap_congr ha hb, lead_congr ha hb]
theorem lw_congr {a a' b b' : Nat → Int32} {sk : Int32} (ha : ∀ k, k < 6 → a k = a' k) (hb : ∀ k, k < 6 → b k = b' k) : lwF a b sk = lwF a' b' sk := by
  unfold lwF
  rw [span_congr ha hb, gap_congr ha hb, lead_congr ha hb]
theorem rw_congr {a a' b b' : Nat → Int32} {sk : Int32} (ha : ∀ k, k < 6 → a k = a' k) (hb : ∀ k, k < 6 → b k = b' k) : rwF a b sk = rwF a' b' sk := by
  unfold rwF
  rw [span_congr ha hb, gap_congr ha hb, lead_congr ha hb]
/-- alike, but for the wire -/
def ev9 (f g : Nat → Int32) : Prop := ∀ k, k < 10 → k ≠ 6 → f k = g k
theorem ev9.six {f g : Nat → Int32} (h : ev9 f g) : ∀ k, k < 6 → f k = g k := fun k hk => h k (by omega) (by omega)
theorem jn_congr {f f' a a' b b' : Nat → Int32} {l r : Int32} (ha : ev9 a a') (hb : ev9 b b') : ev9 (jnF f a b l r) (jnF f' a' b' l r) := by
  intro k h1 h2
  have e0 := ha 0 (by decide) (by decide)
  have e1 := ha 1 (by decide) (by decide)
  have e2 := ha 2 (by decide) (by decide)
  have e3 := ha 3 (by decide) (by decide)
  have e4 := ha 4 (by decide) (by decide)
  have e5 := ha 5 (by decide) (by decide)
  have e7 := ha 7 (by decide) (by decide)
  have e8 := ha 8 (by decide) (by decide)
  have e9 := ha 9 (by decide) (by decide)
  have g0 := hb 0 (by decide) (by decide)
  have g1 := hb 1 (by decide) (by decide)
  have g2 := hb 2 (by decide) (by decide)
  have g3 := hb 3 (by decide) (by decide)
  have g4 := hb 4 (by decide) (by decide)
  have g5 := hb 5 (by decide) (by decide)
  have g7 := hb 7 (by decide) (by decide)
  have g8 := hb 8 (by decide) (by decide)
  have g9 := hb 9 (by decide) (by decide)
  unfold jnF
  rw [e0, e1, e2, e3, e4, e5, e7, e8, e9, g0, g1, g2, g3, g4, g5, g7, g8, g9]
  rcases (show k = 0 ∨ k = 1 ∨ k = 2 ∨ k = 3 ∨ k = 4 ∨ k = 5 ∨ k = 7 ∨ k = 8 ∨ k = 9 by omega) with rfl | rfl | rfl | rfl | rfl | rfl | rfl | rfl | rfl <;> rfl
theorem ss_congr {f f' : Nat → Int32} {x y o l : Int32} : ev9 (ssF f x y o l) (ssF f' x y o l) := by
  intro k h1 h2
  unfold ssF
  rcases (show k = 0 ∨ k = 1 ∨ k = 2 ∨ k = 3 ∨ k = 4 ∨ k = 5 ∨ k = 7 ∨ k = 8 ∨ k = 9 by omega) with rfl | rfl | rfl | rfl | rfl | rfl | rfl | rfl | rfl <;> rfl
theorem ev9.trans {f g h : Nat → Int32} (a : ev9 f g) (b : ev9 g h) : ev9 f h := fun k h1 h2 => (a k h1 h2).trans (b k h1 h2)
theorem ev9.symm {f g : Nat → Int32} (a : ev9 f g) : ev9 g f := fun k h1 h2 => (a k h1 h2).symm
theorem ev9.refl {f : Nat → Int32} : ev9 f f := fun _ _ _ => rfl
abbrev nd (x : Int32) : Nat := x.toNatClampNeg
def lfT (σ : cw_V) (t : Nat) (m : Int32) : Int32 := σ (t + 6) (nd m)
def rtT (σ : cw_V) (t : Nat) (m : Int32) : Int32 := σ (t + 7) (nd m)
def skT (σ : cw_V) (t : Nat) : Int32 := σ t 9 * 65536
/-- a labelling that is right at each node of the tree -/
def Lab (σ : cw_V) (t : Nat) (U : Int32 → Nat → Int32) : Prop := (∀ m, hJoint σ t m → ev9 (U m) (jnF (fun _ => 0) (U (lfT σ t m)) (U (rtT σ t m)) (lwF (U (lfT σ t m)) (U (rtT σ t m)) (skT σ t)) (rwF (U (lfT σ t m)) (U (rtT σ t m)) (skT σ t)))) ∧
  (∀ m, hSink σ t m → ev9 (U m) (ssF (fun _ => 0) (σ (t + 1) (nd m)) (σ (t + 2) (nd m)) (σ (t + 3) (nd m)) (σ (t + 4) (nd m))))
/-- a good list: all are nodes, none twice, children behind their joints, each of one joint; those below tc are no children -/
def GD (σ : cw_V) (t : Nat) (D : List Int32) (tc : Nat) : Prop := (D.length ≤ 15 ∧ tc ≤ D.length) ∧ (∀ k, k < D.length → hNode σ t (D.getD k 0)) ∧
  (∀ k, k < D.length → hJoint σ t (D.getD k 0) → ∃ ka kb, k < ka ∧ ka < D.length ∧ k < kb ∧ kb < D.length ∧ ka ≠ kb ∧ D.getD ka 0 = lfT σ t (D.getD k 0) ∧ D.getD kb 0 = rtT σ t (D.getD k 0)) ∧
  (∀ k k', k < D.length → k' < D.length → nd (D.getD k 0) = nd (D.getD k' 0) → k = k') ∧
  (∀ k k' c, k < D.length → k' < D.length → c < D.length → hJoint σ t (D.getD k 0) → hJoint σ t (D.getD k' 0) → (D.getD c 0 = lfT σ t (D.getD k 0) ∨ D.getD c 0 = rtT σ t (D.getD k 0)) → (D.getD c 0 = lfT σ t (D.getD k' 0) ∨ D.getD c 0 = rtT σ t (D.getD k' 0)) → k = k') ∧
  (∀ k c, k < D.length → c < D.length → hJoint σ t (D.getD k 0) → (D.getD c 0 = lfT σ t (D.getD k 0) ∨ D.getD c 0 = rtT σ t (D.getD k 0)) → tc ≤ c)
/-- the sum of the costs of the first m of the list -/
def scF (U : Int32 → Nat → Int32) (D : List Int32) : Nat → Int32
  | 0 => 0
  | m + 1 => scF U D m + U (D.getD m 0) 7
def pp (w : Nat) (m : Int32) : Nat := w + 5 + nd m
/-- what is measured from the i-th on -/
def MI (σ τ : cw_V) (w t : Nat) (D : List Int32) (tc : Nat) (U : Int32 → Nat → Int32) (i : Nat) : Prop :=
  (∀ p, (p < w ∨ w + 19 < p) → τ p = σ p) ∧ (τ w 4 = nI D.length ∧ τ w 5 = nI tc ∧ ∀ j, j < D.length → τ (w + 4) j = D.getD j 0) ∧
  (∀ k, i ≤ k → k < D.length → ev9 (τ (pp w (D.getD k 0))) (U (D.getD k 0))) ∧
  (∀ k, i ≤ k → k < D.length → hJoint σ t (D.getD k 0) → τ (pp w (lfT σ t (D.getD k 0))) 6 = lwF (U (lfT σ t (D.getD k 0))) (U (rtT σ t (D.getD k 0))) (skT σ t) ∧ τ (pp w (rtT σ t (D.getD k 0))) 6 = rwF (U (lfT σ t (D.getD k 0))) (U (rtT σ t (D.getD k 0))) (skT σ t))
/-- measured -/
def MS (σ τ : cw_V) (w t : Nat) (D : List Int32) (tc : Nat) (U : Int32 → Nat → Int32) : Prop := MI σ τ w t D tc U 0 ∧ (∀ k, k < tc → τ (pp w (D.getD k 0)) 6 = -1) ∧ τ w 6 = scF U D tc
theorem isP_of {w : Nat} {m : Int32} (hw : isW w) (h : cw_in m 15 = true) : isP (pp w m) := by
  have := cw_in_iff.mp h
  refine ⟨w, hw, Or.inr ⟨nd m, ?_, rfl⟩⟩
  show m.toInt.toNat < 15
  omega
theorem hNode.sink {σ : cw_V} {t : Nat} {m : Int32} (h : hNode σ t m) (hj : ¬ hJoint σ t m) : hSink σ t m := by
  obtain ⟨h1, h2, h3 | h3⟩ := h
  · exact ⟨h1, h3.2, h3.1⟩
  · exact absurd ⟨h3.1, h2, h3.2⟩ hj
section
variable {d w t : Nat} {σ τ : cw_V} {lam : Nat → Int64} {Q : cw_Q} {D : List Int32} {tc i : Nat} {U : Int32 → Nat → Int32}
theorem MI.row (h : MI σ τ w t D tc U i) (hw : isW w) (ht : isT t) {k : Nat} (hk : k ≤ 8) : τ (t + k) = σ (t + k) := by
  refine h.1 _ ?_
  have : ∀ k', k' ≤ 19 → t + k ≠ w + k' := fun k' h' => isWT hw ht hk h'
  rcases Nat.lt_or_ge (t + k) w with z | z
  · exact Or.inl z
  · rcases Nat.lt_or_ge (w + 19) (t + k) with y | y
    · exact Or.inr y
    · exact absurd (show t + k = w + (t + k - w) by omega) (this (t + k - w) (by omega))
theorem pp_lt {m : Int32} (h : cw_in m 15 = true) : w + 5 ≤ pp w m ∧ pp w m ≤ w + 19 := by
  have := cw_in_iff.mp h
  have e : nd m = m.toInt.toNat := rfl
  unfold pp
  omega
theorem MI.joint (hw : isW w) (hD : GD σ t D tc) (hU : Lab σ t U) (hi : i < D.length) (hj : hJoint σ t (D.getD i 0)) (h : MI σ τ w t D tc U (i + 1)) {τ1 : cw_V}
    (hs : jnS (wgF τ (w + 3) (pp w (lfT σ t (D.getD i 0))) (pp w (rtT σ t (D.getD i 0))) (skT σ t)) τ1 (w + 3) (pp w (D.getD i 0)) (pp w (lfT σ t (D.getD i 0))) (pp w (rtT σ t (D.getD i 0)))) : MI σ τ1 w t D tc U i := by
  obtain ⟨hlen, hN, hC, hnd, hpar, htop⟩ := hD
  obtain ⟨ka, kb, a1, a2, b1, b2, hab, ea, eb⟩ := hC i hi hj
  obtain ⟨s1, s2, s3, s4⟩ := hs
  obtain ⟨m1, m2, m3, m4⟩ := h
  have ina := (hN ka a2).in
  have inb := (hN kb b2).in
  have inn := (hN i hi).in
  rw [ea] at ina
  rw [eb] at inb
  have la := pp_lt (w := w) ina
  have lb := pp_lt (w := w) inb
  have ln := pp_lt (w := w) inn
  have ra := m3 ka (by omega) a2
  have rb := m3 kb (by omega) b2
  rw [ea] at ra
  rw [eb] at rb
  have wne : ∀ p, p ≠ w + 3 → wgF τ (w + 3) (pp w (lfT σ t (D.getD i 0))) (pp w (rtT σ t (D.getD i 0))) (skT σ t) p = τ p := fun p hp => wgF_ne hp
  have el : wgF τ (w + 3) (pp w (lfT σ t (D.getD i 0))) (pp w (rtT σ t (D.getD i 0))) (skT σ t) (w + 3) 2 = lwF (U (lfT σ t (D.getD i 0))) (U (rtT σ t (D.getD i 0))) (skT σ t) := by
    rw [wgF_2]
    exact lw_congr ra.six rb.six
  have er : wgF τ (w + 3) (pp w (lfT σ t (D.getD i 0))) (pp w (rtT σ t (D.getD i 0))) (skT σ t) (w + 3) 3 = rwF (U (lfT σ t (D.getD i 0))) (U (rtT σ t (D.getD i 0))) (skT σ t) := by
    rw [wgF_3]
    exact rw_congr ra.six rb.six
  rw [el] at s2 s4
  rw [er] at s3 s4
  rw [wne _ (by omega)] at s2
  rw [wne _ (by omega)] at s3
  rw [wne _ (by omega), wne _ (by omega), wne _ (by omega)] at s4
  -- an index whose part lies at a place
  have at' : ∀ k c, k < D.length → c < D.length → pp w (D.getD k 0) = pp w (D.getD c 0) → k = c := fun k c hk hc e => hnd k c hk hc (by unfold pp at e; omega)
  refine ⟨fun p hp => ?_, ⟨?_, ?_, fun j hj' => ?_⟩, fun k hk hkl => ?_, fun k hk hkl hjk => ?_⟩
  · rw [s1 p (by omega) (by omega) (by omega), wne p (by omega), m1 p hp]
  · rw [s1 w (by omega) (by omega) (by omega), wne w (by omega), m2.1]
  · rw [s1 w (by omega) (by omega) (by omega), wne w (by omega), m2.2.1]
  · rw [s1 (w + 4) (by omega) (by omega) (by omega), wne (w + 4) (by omega), m2.2.2 j hj']
  · rcases Nat.eq_or_lt_of_le hk with e | hlt
    · subst e
      have e1 : ev9 (τ1 (pp w (D.getD i 0))) (jnF (τ (pp w (D.getD i 0))) (τ (pp w (lfT σ t (D.getD i 0)))) (τ (pp w (rtT σ t (D.getD i 0)))) (lwF (U (lfT σ t (D.getD i 0))) (U (rtT σ t (D.getD i 0))) (skT σ t)) (rwF (U (lfT σ t (D.getD i 0))) (U (rtT σ t (D.getD i 0))) (skT σ t))) := fun k _ _ => s4 k
      exact (e1.trans (jn_congr ra rb)).trans (hU.1 _ hj).symm
    · by_cases ca : k = ka
      · subst ca
        have : τ1 (pp w (D.getD k 0)) = upd (τ (pp w (D.getD k 0))) 6 (lwF (U (lfT σ t (D.getD i 0))) (U (rtT σ t (D.getD i 0))) (skT σ t)) := by rw [ea]; exact s2
        intro k' h1 h2
        rw [this, upd_ne h2]
        exact m3 k (by omega) hkl k' h1 h2
      · by_cases cb : k = kb
        · subst cb
          have : τ1 (pp w (D.getD k 0)) = upd (τ (pp w (D.getD k 0))) 6 (rwF (U (lfT σ t (D.getD i 0))) (U (rtT σ t (D.getD i 0))) (skT σ t)) := by rw [eb]; exact s3
          intro k' h1 h2
          rw [this, upd_ne h2]
          exact m3 k (by omega) hkl k' h1 h2
        · have lk := pp_lt (w := w) (hN k hkl).in
          have n1 : pp w (D.getD k 0) ≠ pp w (lfT σ t (D.getD i 0)) := fun e => ca (at' k ka hkl a2 (by rw [ea]; exact e))
          have n2 : pp w (D.getD k 0) ≠ pp w (rtT σ t (D.getD i 0)) := fun e => cb (at' k kb hkl b2 (by rw [eb]; exact e))
          have n3 : pp w (D.getD k 0) ≠ pp w (D.getD i 0) := fun e => absurd (at' k i hkl hi e) (by omega)
          rw [s1 _ n1 n2 n3, wne _ (by omega)]
          exact m3 k (by omega) hkl
  · rcases Nat.eq_or_lt_of_le hk with e | hlt
    · subst e
      refine ⟨?_, ?_⟩
      · rw [s2, upd_eq]
      · rw [s3, upd_eq]
    · obtain ⟨kc, kd, c1, c2, d1, d2, hcd, ec, ed⟩ := hC k hkl hjk
      have old := m4 k (by omega) hkl hjk
      have key : ∀ c, c < D.length → (D.getD c 0 = lfT σ t (D.getD k 0) ∨ D.getD c 0 = rtT σ t (D.getD k 0)) → k < c → τ1 (pp w (D.getD c 0)) 6 = τ (pp w (D.getD c 0)) 6 := by
        intro c hc hch hkc
        have lk := pp_lt (w := w) (hN c hc).in
        have n1 : pp w (D.getD c 0) ≠ pp w (lfT σ t (D.getD i 0)) := fun e => by
          have e2 : c = ka := at' c ka hc a2 (by rw [ea]; exact e)
          subst e2
          exact absurd (hpar k i c hkl hi hc hjk hj hch (Or.inl ea)) (by omega)
        have n2 : pp w (D.getD c 0) ≠ pp w (rtT σ t (D.getD i 0)) := fun e => by
          have e2 : c = kb := at' c kb hc b2 (by rw [eb]; exact e)
          subst e2
          exact absurd (hpar k i c hkl hi hc hjk hj hch (Or.inr eb)) (by omega)
        have n3 : pp w (D.getD c 0) ≠ pp w (D.getD i 0) := fun e => absurd (at' c i hc hi e) (by omega)
        rw [s1 _ n1 n2 n3, wne _ (by omega)]
      have k1 := key kc c2 (Or.inl ec) c1
      have k2 := key kd d2 (Or.inr ed) d1
      rw [ec] at k1
      rw [ed] at k2
      rw [k1, k2]
      exact old
theorem MI.sink (hw : isW w) (ht : isT t) (hD : GD σ t D tc) (hU : Lab σ t U) (hi : i < D.length) (hk0 : hSink σ t (D.getD i 0)) (hnj : ¬ hJoint σ t (D.getD i 0)) (h : MI σ τ w t D tc U (i + 1)) {τ1 : cw_V}
    (s1 : ∀ p, p ≠ pp w (D.getD i 0) → τ1 p = τ p) (s2 : ∀ k, τ1 (pp w (D.getD i 0)) k = ssF (τ (pp w (D.getD i 0))) (τ (t + 1) (nd (D.getD i 0))) (τ (t + 2) (nd (D.getD i 0))) (τ (t + 3) (nd (D.getD i 0))) (τ (t + 4) (nd (D.getD i 0))) k) : MI σ τ1 w t D tc U i := by
  have r1 := h.row hw ht (k := 1) (by decide)
  have r2 := h.row hw ht (k := 2) (by decide)
  have r3 := h.row hw ht (k := 3) (by decide)
  have r4 := h.row hw ht (k := 4) (by decide)
  rw [r1, r2, r3, r4] at s2
  obtain ⟨hlen, hN, hC, hnd, hpar, htop⟩ := hD
  obtain ⟨m1, m2, m3, m4⟩ := h
  have ln := pp_lt (w := w) (hN i hi).in
  have six : τ1 (pp w (D.getD i 0)) 6 = τ (pp w (D.getD i 0)) 6 := by rw [s2]; rfl
  refine ⟨fun p hp => ?_, ⟨?_, ?_, fun j hj' => ?_⟩, fun k hk hkl => ?_, fun k hk hkl hjk => ?_⟩
  · rw [s1 p (by omega), m1 p hp]
  · rw [s1 w (by omega), m2.1]
  · rw [s1 w (by omega), m2.2.1]
  · rw [s1 (w + 4) (by omega), m2.2.2 j hj']
  · rcases Nat.eq_or_lt_of_le hk with e | hlt
    · subst e
      have e1 : ev9 (τ1 (pp w (D.getD i 0))) (ssF (τ (pp w (D.getD i 0))) (σ (t + 1) (nd (D.getD i 0))) (σ (t + 2) (nd (D.getD i 0))) (σ (t + 3) (nd (D.getD i 0))) (σ (t + 4) (nd (D.getD i 0)))) := fun k _ _ => s2 k
      exact (e1.trans ss_congr).trans (hU.2 _ hk0).symm
    · have n3 : pp w (D.getD k 0) ≠ pp w (D.getD i 0) := fun e => by
        have := hnd k i hkl hi (by unfold pp at e; omega)
        omega
      rw [s1 _ n3]
      exact m3 k (by omega) hkl
  · have hki : k ≠ i := fun e => hnj (e ▸ hjk)
    have key : ∀ m : Int32, τ1 (pp w m) 6 = τ (pp w m) 6 := by
      intro m
      by_cases e : pp w m = pp w (D.getD i 0)
      · rw [e, six]
      · rw [s1 _ e]
    rw [key, key]
    exact m4 k (by omega) hkl hjk
end
end
section
section
variable {d w t : Nat} {σ : cw_V} {lam : Nat → Int64} {Q : cw_Q} {U : Int32 → Nat → Int32}
theorem isM_of {w : Nat} (hw : isW w) : isM (w + 3) := ⟨w, hw, rfl⟩
theorem z_measure (hw : isW w) (ht : isT t) (hD : GD σ t (dnF σ t) (tlF σ t 15).length) (hU : Lab σ t U) (kk : ∀ τ, MS σ τ w t (dnF σ t) (tlF σ t 15).length U → Q none (cw_B τ lam)) : cw_Z (d + 4) m_Wires_measure [.ref w, .ref t] (cw_B σ lam) Q := by
  refine zi (L := [some (.ref w), some (.ref t), none, none, none, none, none]) rfl rfl (fun K hK => ?_)
  have hlen := hD.1.1
  have htc := hD.1.2
  generalize eD : dnF σ t = D at hD kk hlen htc
  generalize etc : (tlF σ t 15).length = tc at hD kk htc
  -- the tops
  have loop2 : ∀ m i τ (x4 x5 x6 : Option Value) (sk : Int32), i + m = tc → MI σ τ w t D tc U 0 → (∀ k, k < i → τ (pp w (D.getD k 0)) 6 = -1) → τ w 6 = scF U D i → K 127 [some (.ref w), some (.ref t), some (.int sk), some (.int (nI i)), x4, x5, x6] [] (cw_B τ lam) := by
    intro m
    induction m with
    | zero =>
      intro i τ x4 x5 x6 sk hi hM h6 hs
      refine st_go hK rfl rfl ?_
      refine st_go hK rfl rfl ?_
      refine st_geti hK rfl (Wires_f5 hw) ?_
      rw [hM.2.1.2.1]
      refine st_if hK rfl rfl (fun _ => ?_) (fun c => absurd ((nI_leI (by omega) (by omega)).mpr (by omega)) c)
      refine st_ret hK rfl rfl ?_
      have : i = tc := by omega
      subst this
      exact kk τ ⟨hM, h6, hs⟩
    | succ m ih =>
      intro i τ x4 x5 x6 sk hi hM h6 hs
      have hin := (hD.2.1 i (by omega)).in
      refine st_go hK rfl rfl ?_
      refine st_go hK rfl rfl ?_
      refine st_geti hK rfl (Wires_f5 hw) ?_
      rw [hM.2.1.2.1]
      refine st_if hK rfl rfl (fun c => absurd ((nI_leI (by omega) (by omega)).mp c) (by omega)) (fun _ => ?_)
      refine st_go hK rfl rfl ?_
      refine st_go hK rfl rfl ?_
      refine st_if hK rfl rfl (fun c => absurd (yle (a := 15) (i := i) (by decide) (by omega) c) (by omega)) (fun _ => ?_)
      refine st_go hK rfl rfl ?_
      refine st_go hK rfl rfl ?_
      refine st_getr hK rfl (Wires_f3 hw) ?_
      refine st_go hK rfl rfl ?_
      refine st_iald hK rfl (Wires_a3 hw) (cw_in_nI (n := 15) (by omega) (by decide)) ?_
      rw [nI_clamp (by omega), hM.2.1.2.2 i (by omega)]
      refine cv1 hK rfl (Wires_c hw) (Nat.le_of_ble_eq_true rfl) ?_
      refine z_part hw hin ?_
      change K _ _ (_ :: _) _
      have hP := isP_of hw hin
      have lp := pp_lt (w := w) hin
      refine st_go hK rfl rfl ?_
      refine st_go hK rfl rfl ?_
      refine st_go hK rfl rfl ?_
      refine st_put hK rfl (Part_f6 hP) rfl ?_
      refine st_go hK rfl rfl ?_
      refine st_go hK rfl rfl ?_
      refine st_geti hK rfl (Wires_f6 hw) ?_
      refine st_go hK rfl rfl ?_
      refine st_geti hK rfl (Part_f7 hP) ?_
      refine st_bin hK rfl ?_
      refine st_put hK rfl (Wires_f6 hw) rfl ?_
      refine st_go hK rfl rfl ?_
      refine st_go hK rfl rfl ?_
      have epp : w + 5 + (D.getD i 0).toNatClampNeg = pp w (D.getD i 0) := rfl
      rw [epp]
      have hcost : τ (pp w (D.getD i 0)) 7 = U (D.getD i 0) 7 := hM.2.2.1 i (Nat.zero_le _) (by omega) 7 (by decide) (by decide)
      have e1 : cw_up τ (pp w (D.getD i 0)) 6 (-1) w 6 + cw_up τ (pp w (D.getD i 0)) 6 (-1) (pp w (D.getD i 0)) 7 = scF U D (i + 1) := by
        rw [up_ne (by omega), up_eq, upd_ne (by decide), hs, hcost]
        rfl
      rw [e1]
      generalize eτ : cw_up (cw_up τ (pp w (D.getD i 0)) 6 (-1)) w 6 (scF U D (i + 1)) = τ1
      have t1 : ∀ p, p ≠ w → p ≠ pp w (D.getD i 0) → τ1 p = τ p := fun p h1 h2 => by rw [← eτ, up_ne h1, up_ne h2]
      have t2 : τ1 (pp w (D.getD i 0)) = upd (τ (pp w (D.getD i 0))) 6 (-1) := by rw [← eτ, up_ne (by omega), up_eq]
      have t3 : τ1 w = upd (τ w) 6 (scF U D (i + 1)) := by rw [← eτ, up_eq, up_ne (by omega)]
      have six : ∀ m' : Int32, cw_in m' 15 = true → pp w m' ≠ pp w (D.getD i 0) → τ1 (pp w m') 6 = τ (pp w m') 6 := fun m' h' hne => by
        have := pp_lt (w := w) h'
        rw [t1 _ (by omega) hne]
      have := ih (i + 1) τ1 (some (.ref (pp w (D.getD i 0)))) x5 x6 sk (by omega) ⟨fun p hp => ?_, ⟨?_, ?_, fun j hj => ?_⟩, fun k hk hkl => ?_, fun k hk hkl hjk => ?_⟩ (fun k hk => ?_) (by rw [t3, upd_eq])
      · rw [← nI_1] at this
        exact this
      · rw [t1 p (by omega) (by omega), hM.1 p hp]
      · rw [t3, upd_ne (by decide), hM.2.1.1]
      · rw [t3, upd_ne (by decide), hM.2.1.2.1]
      · rw [t1 (w + 4) (by omega) (by omega), hM.2.1.2.2 j hj]
      · by_cases e : k = i
        · subst e
          intro k' h1 h2
          rw [t2, upd_ne h2]
          exact hM.2.2.1 k hk hkl k' h1 h2
        · have lk := pp_lt (w := w) (hD.2.1 k hkl).in
          rw [t1 _ (by omega) (fun z => e (hD.2.2.2.1 k i hkl (by omega) (by unfold pp at z; omega)))]
          exact hM.2.2.1 k hk hkl
      · obtain ⟨ka, kb, a1, a2, b1, b2, hab, ea, eb⟩ := hD.2.2.1 k hkl hjk
        have old := hM.2.2.2 k hk hkl hjk
        have q1 := hD.2.2.2.2.2 k ka hkl a2 hjk (Or.inl ea)
        have q2 := hD.2.2.2.2.2 k kb hkl b2 hjk (Or.inr eb)
        have z1 := six (D.getD ka 0) (hD.2.1 ka a2).in (fun z => absurd (hD.2.2.2.1 ka i a2 (by omega) (by unfold pp at z; omega)) (by omega))
        have z2 := six (D.getD kb 0) (hD.2.1 kb b2).in (fun z => absurd (hD.2.2.2.1 kb i b2 (by omega) (by unfold pp at z; omega)) (by omega))
        rw [ea] at z1
        rw [eb] at z2
        rw [z1, z2]
        exact old
      · by_cases e : k = i
        · subst e
          rw [t2, upd_eq]
        · rw [six _ (hD.2.1 k (by omega)).in (fun z => e (hD.2.2.2.1 k i (by omega) (by omega) (by unfold pp at z; omega)))]
          exact h6 k (by omega)
  -- the nodes, upward
  have loop1 : ∀ i τ (x4 x5 x6 : Option Value), i ≤ D.length → MI σ τ w t D tc U i → K 25 [some (.ref w), some (.ref t), some (.int (skT σ t)), some (.int (nI i - 1)), x4, x5, x6] [] (cw_B τ lam) := by
    intro i
    induction i with
    | zero =>
      intro τ x4 x5 x6 hi hM
      refine st_go hK rfl rfl ?_
      refine st_if hK rfl rfl (fun _ => ?_) (fun c => absurd (by decide) c)
      refine st_go hK rfl rfl ?_
      refine st_go hK rfl rfl ?_
      refine st_put hK rfl (Wires_f6 hw) rfl ?_
      refine st_go hK rfl rfl ?_
      refine st_go hK rfl rfl ?_
      refine loop2 tc 0 _ x4 x5 x6 _ (by omega) ⟨fun p hp => ?_, ⟨?_, ?_, fun j hj => ?_⟩, fun k hk hkl => ?_, fun k hk hkl hjk => ?_⟩ (fun k hk => absurd hk (Nat.not_lt_zero k)) (by rw [up_eq, upd_eq]; rfl)
      · rw [up_ne (by omega), hM.1 p hp]
      · rw [up_eq, upd_ne (by decide), hM.2.1.1]
      · rw [up_eq, upd_ne (by decide), hM.2.1.2.1]
      · rw [up_ne (by omega), hM.2.1.2.2 j hj]
      · have lk := pp_lt (w := w) (hD.2.1 k hkl).in
        rw [up_ne (by omega)]
        exact hM.2.2.1 k hk hkl
      · have old := hM.2.2.2 k hk hkl hjk
        have e1 : pp w (lfT σ t (D.getD k 0)) ≠ w := by unfold pp; omega
        have e2 : pp w (rtT σ t (D.getD k 0)) ≠ w := by unfold pp; omega
        rw [up_ne e1, up_ne e2]
        exact old
    | succ i ih =>
      intro τ x4 x5 x6 hi hM
      rw [nI_pred]
      have hin := (hD.2.1 i (by omega)).in
      have hP := isP_of hw hin
      refine st_go hK rfl rfl ?_
      refine st_if hK rfl rfl (fun c => absurd c (nI_pos (by omega))) (fun _ => ?_)
      refine st_go hK rfl rfl ?_
      refine st_getr hK rfl (Wires_f3 hw) ?_
      refine st_go hK rfl rfl ?_
      refine st_iald hK rfl (Wires_a3 hw) (cw_in_nI (n := 15) (by omega) (by decide)) ?_
      rw [nI_clamp (by omega), hM.2.1.2.2 i (by omega)]
      refine st_go hK rfl rfl ?_
      refine st_go hK rfl rfl ?_
      refine st_go hK rfl rfl ?_
      refine cv1 hK rfl (Tree_c ht) (Nat.le_of_ble_eq_true rfl) ?_
      have row := fun k (hk : k ≤ 8) => hM.row hw ht hk
      have row0 : τ t = σ t := row 0 (by decide)
      refine z_isJoint ht (fun hj => ?_) (fun hj => ?_)
      · change K _ _ (_ :: _) _
        rw [hJoint_eq (row 6 (by decide))] at hj
        obtain ⟨ka, kb, a1, a2, b1, b2, hab, ea, eb⟩ := hD.2.2.1 i (by omega) hj
        have ina := (hD.2.1 ka a2).in
        have inb := (hD.2.1 kb b2).in
        rw [ea] at ina
        rw [eb] at inb
        have hPa := isP_of hw ina
        have hPb := isP_of hw inb
        have hnode : hNode τ t (D.getD i 0) := (hNode_eq (congrFun row0 8) (row 6 (by decide))).mpr hj.node
        refine st_if hK rfl rfl (fun c => absurd c (by decide)) (fun _ => ?_)
        refine st_go hK rfl rfl ?_
        refine st_go hK rfl rfl ?_
        refine st_go hK rfl rfl ?_
        refine cv1 hK rfl (Tree_c ht) (Nat.le_of_ble_eq_true rfl) ?_
        refine z_leftOf ht (fun _ => ?_) (fun z => absurd hnode z)
        change K _ _ (_ :: _) _
        rw [row 6 (by decide)]
        refine cv1 hK rfl (Wires_c hw) (Nat.le_of_ble_eq_true rfl) ?_
        refine z_part hw ina ?_
        change K _ _ (_ :: _) _
        refine st_go hK rfl rfl ?_
        refine st_go hK rfl rfl ?_
        refine st_go hK rfl rfl ?_
        refine st_go hK rfl rfl ?_
        refine cv1 hK rfl (Tree_c ht) (Nat.le_of_ble_eq_true rfl) ?_
        refine z_rightOf ht (fun _ => ?_) (fun z => absurd hnode z)
        change K _ _ (_ :: _) _
        rw [row 7 (by decide)]
        refine cv1 hK rfl (Wires_c hw) (Nat.le_of_ble_eq_true rfl) ?_
        refine z_part hw inb ?_
        change K _ _ (_ :: _) _
        refine st_go hK rfl rfl ?_
        refine st_go hK rfl rfl ?_
        refine st_getr hK rfl (Wires_f2 hw) ?_
        refine st_go hK rfl rfl ?_
        refine st_go hK rfl rfl ?_
        refine st_go hK rfl rfl ?_
        refine cv3 hK rfl (Merge_c (isM_of hw)) (Nat.le_of_ble_eq_true rfl) ?_
        refine z_weigh (isM_of hw) hPa hPb ?_
        change K _ _ _ _
        refine st_go hK rfl rfl ?_
        refine st_getr hK rfl (Wires_f2 hw) ?_
        refine st_go hK rfl rfl ?_
        refine st_go hK rfl rfl ?_
        refine cv1 hK rfl (Wires_c hw) (Nat.le_of_ble_eq_true rfl) ?_
        refine z_part hw hin ?_
        change K _ _ (_ :: _) _
        refine st_go hK rfl rfl ?_
        refine st_go hK rfl rfl ?_
        refine cv3 hK rfl (Merge_c (isM_of hw)) (Nat.le_of_ble_eq_true rfl) ?_
        have nia : nd (D.getD i 0) ≠ nd (lfT σ t (D.getD i 0)) := fun e => by
          rw [← ea] at e
          have := hD.2.2.2.1 i ka (by omega) a2 e
          omega
        have nib : nd (D.getD i 0) ≠ nd (rtT σ t (D.getD i 0)) := fun e => by
          rw [← eb] at e
          have := hD.2.2.2.1 i kb (by omega) b2 e
          omega
        have nab : nd (lfT σ t (D.getD i 0)) ≠ nd (rtT σ t (D.getD i 0)) := fun e => by
          rw [← ea, ← eb] at e
          exact hab (hD.2.2.2.1 ka kb a2 b2 e)
        refine z_join (isM_of hw) hP hPa hPb (fun e => nia (Nat.add_left_cancel e)) (fun e => nib (Nat.add_left_cancel e)) (fun e => nab (Nat.add_left_cancel e)) (fun τ1 hτ1 => ?_)
        change K _ _ _ _
        refine st_go hK rfl rfl ?_
        refine st_go hK rfl rfl ?_
        refine st_go hK rfl rfl ?_
        have hM1 := hM.joint hw hD hU (by omega) hj hτ1
        have := ih τ1 (some (.int (D.getD i 0))) (some (.ref (pp w (lfT σ t (D.getD i 0))))) (some (.ref (pp w (rtT σ t (D.getD i 0))))) (by omega) hM1
        rw [Int32.sub_eq_add_neg] at this
        exact this
      · change K _ _ (_ :: _) _
        rw [hJoint_eq (row 6 (by decide))] at hj
        have hs := (hD.2.1 i (by omega)).sink hj
        have hs' : hSink τ t (D.getD i 0) := by
          unfold hSink
          rw [congrFun row0 8]
          exact hs
        refine st_if hK rfl rfl (fun _ => ?_) (fun c => absurd (by decide) c)
        refine st_go hK rfl rfl ?_
        refine st_go hK rfl rfl ?_
        refine cv1 hK rfl (Wires_c hw) (Nat.le_of_ble_eq_true rfl) ?_
        refine z_part hw hin ?_
        change K _ _ (_ :: _) _
        refine st_go hK rfl rfl ?_
        refine st_go hK rfl rfl ?_
        refine cv2 hK rfl (Part_c hP) (Nat.le_of_ble_eq_true rfl) ?_
        refine z_setSink hP ht hs' (fun τ1 hτ1 => ?_)
        change K _ _ _ _
        refine st_go hK rfl rfl ?_
        refine st_go hK rfl rfl ?_
        have hM1 := hM.sink hw ht hD hU (by omega) hs hj hτ1.1 hτ1.2
        have := ih τ1 (some (.int (D.getD i 0))) x5 x6 (by omega) hM1
        rw [Int32.sub_eq_add_neg] at this
        exact this
  refine st_go hK rfl rfl ?_
  refine st_go hK rfl rfl ?_
  refine cv1 hK rfl (Wires_c hw) (Nat.le_of_ble_eq_true rfl) ?_
  refine z_listDownward hw ht (by rw [eD]; exact hlen) (fun τ hτ h5 => ?_)
  rw [eD] at hτ
  rw [etc] at h5
  change K _ _ _ _
  refine st_go hK rfl rfl ?_
  refine st_geti hK rfl (Tree_f9 ht) ?_
  rw [hτ.row0 hw ht]
  refine st_go hK rfl rfl ?_
  refine st_bin hK rfl ?_
  refine st_go hK rfl rfl ?_
  refine st_go hK rfl rfl ?_
  refine st_geti hK rfl (Wires_f4 hw) ?_
  rw [hτ.2.2.1]
  refine st_go hK rfl rfl ?_
  refine st_min hK rfl (Nat.le_of_ble_eq_true rfl) ?_
  have e15 : (if (15 : Int32) < nI D.length then (15 : Int32) else nI D.length) = nI D.length := by
    rw [if_neg]
    exact nI_nlt (a := 15) (b := D.length) hlen (by decide)
  rw [e15]
  refine st_go hK rfl rfl ?_
  refine st_bin hK rfl ?_
  refine st_go hK rfl rfl ?_
  exact loop1 D.length τ none none none (Nat.le_refl _) ⟨fun p hp => hτ.1 p (by omega) (by omega), ⟨hτ.2.2.1, h5, hτ.2.2.2.2⟩, fun k h1 h2 => absurd h1 (by omega), fun k h1 h2 => absurd h1 (by omega)⟩
end
end
section
/-- the nearest pair among the first tc of the list -/
def npS (U : Int32 → Nat → Int32) (sk : Int32) (x y : Int32) (s : Int32 × Int32) : Int32 × Int32 := if s.1 = -1 ∨ spanF (U x) (U y) sk < s.2 then (16 * x + y, spanF (U x) (U y) sk) else s
def np2 (U : Int32 → Nat → Int32) (sk : Int32) (D : List Int32) (i : Nat) : Nat → Nat → Int32 × Int32 → Int32 × Int32
  | 0, _, s => s
  | m + 1, j, s => np2 U sk D i m (j + 1) (npS U sk (D.getD i 0) (D.getD j 0) s)
def np1 (U : Int32 → Nat → Int32) (sk : Int32) (D : List Int32) (tc : Nat) : Nat → Nat → Int32 × Int32 → Int32 × Int32
  | 0, _, s => s
  | m + 1, i, s => np1 U sk D tc m (i + 1) (np2 U sk D i (tc - (i + 1)) (i + 1) s)
section
variable {d w t : Nat} {σ : cw_V} {lam : Nat → Int64} {Q : cw_Q} {U : Int32 → Nat → Int32}
theorem z_nearestPair {D : List Int32} {tc : Nat} (hw : isW w) (ht : isT t) (htc : tc ≤ 15) (h5 : σ w 5 = nI tc) (hl : ∀ j, j < tc → σ (w + 4) j = D.getD j 0) (hin : ∀ k, k < tc → cw_in (D.getD k 0) 15 = true) (hU : ∀ k, k < tc → ev9 (σ (pp w (D.getD k 0))) (U (D.getD k 0)))
    (kk : ∀ τ, (∀ p, p ≠ w + 3 → τ p = σ p) → Q (some (.int (np1 U (skT σ t) D tc tc 0 (-1, 0)).1)) (cw_B τ lam)) : cw_Z (d + 3) m_Wires_nearestPair [.ref w, .ref t] (cw_B σ lam) Q := by
  refine zi (L := [some (.ref w), some (.ref t), none, none, none, none, none]) rfl rfl (fun K hK => ?_)
  have loop1 : ∀ m i τ (x6 : Option Value) (s : Int32 × Int32), i + m = tc → (∀ p, p ≠ w + 3 → τ p = σ p) → np1 U (skT σ t) D tc m i s = np1 U (skT σ t) D tc tc 0 (-1, 0) → K 16 [some (.ref w), some (.ref t), some (.int (skT σ t)), some (.int s.1), some (.int s.2), some (.int (nI i)), x6] [] (cw_B τ lam) := by
    intro m
    induction m with
    | zero =>
      intro i τ x6 s hi hτ e
      refine st_go hK rfl rfl ?_
      refine st_go hK rfl rfl ?_
      refine st_geti hK rfl (Wires_f5 hw) ?_
      rw [hτ w (by omega), h5]
      refine st_if hK rfl rfl (fun _ => ?_) (fun c => absurd ((nI_leI (by omega) (by omega)).mpr (by omega)) c)
      refine st_go hK rfl rfl ?_
      refine st_ret hK rfl rfl ?_
      have := kk τ hτ
      rw [← e] at this
      exact this
    | succ m ih =>
      intro i τ x6 s hi hτ e
      refine st_go hK rfl rfl ?_
      refine st_go hK rfl rfl ?_
      refine st_geti hK rfl (Wires_f5 hw) ?_
      rw [hτ w (by omega), h5]
      refine st_if hK rfl rfl (fun c => absurd ((nI_leI (by omega) (by omega)).mp c) (by omega)) (fun _ => ?_)
      refine st_go hK rfl rfl ?_
      refine st_go hK rfl rfl ?_
      refine st_if hK rfl rfl (fun c => absurd (yle (a := 15) (i := i) (by decide) (by omega) c) (by omega)) (fun _ => ?_)
      refine st_go hK rfl rfl ?_
      refine st_go hK rfl rfl ?_
      refine st_bin hK rfl ?_
      rw [nI_1]
      refine st_go hK rfl rfl ?_
      have e' : np1 U (skT σ t) D tc m (i + 1) (np2 U (skT σ t) D i (tc - (i + 1)) (i + 1) s) = np1 U (skT σ t) D tc tc 0 (-1, 0) := e
      have loop2 : ∀ q j τ (s : Int32 × Int32), j + q = tc → i < j → (∀ p, p ≠ w + 3 → τ p = σ p) → np1 U (skT σ t) D tc m (i + 1) (np2 U (skT σ t) D i q j s) = np1 U (skT σ t) D tc tc 0 (-1, 0) → K 38 [some (.ref w), some (.ref t), some (.int (skT σ t)), some (.int s.1), some (.int s.2), some (.int (nI i)), some (.int (nI j))] [] (cw_B τ lam) := by
        intro q
        induction q with
        | zero =>
          intro j τ s hj hij hτ e
          refine st_go hK rfl rfl ?_
          refine st_go hK rfl rfl ?_
          refine st_geti hK rfl (Wires_f5 hw) ?_
          rw [hτ w (by omega), h5]
          refine st_if hK rfl rfl (fun _ => ?_) (fun c => absurd ((nI_leI (by omega) (by omega)).mpr (by omega)) c)
          refine st_go hK rfl rfl ?_
          refine st_go hK rfl rfl ?_
          have := ih (i + 1) τ (some (.int (nI j))) s (by omega) hτ e
          rw [← nI_1] at this
          exact this
        | succ q ih2 =>
          intro j τ s hj hij hτ e
          have rD : ∀ k, k < tc → k < 2 ^ 31 → τ (w + 4) (nI k).toNatClampNeg = D.getD k 0 := fun k hk h31 => by rw [nI_clamp h31, hτ (w + 4) (by omega), hl k hk]
          have hinI := hin i (by omega)
          have hinJ := hin j (by omega)
          have hPi := isP_of hw hinI
          have hPj := isP_of hw hinJ
          refine st_go hK rfl rfl ?_
          refine st_go hK rfl rfl ?_
          refine st_geti hK rfl (Wires_f5 hw) ?_
          rw [hτ w (by omega), h5]
          refine st_if hK rfl rfl (fun c => absurd ((nI_leI (by omega) (by omega)).mp c) (by omega)) (fun _ => ?_)
          refine st_go hK rfl rfl ?_
          refine st_go hK rfl rfl ?_
          refine st_if hK rfl rfl (fun c => absurd (yle (a := 15) (i := j) (by decide) (by omega) c) (by omega)) (fun _ => ?_)
          refine st_go hK rfl rfl ?_
          refine st_getr hK rfl (Wires_f2 hw) ?_
          refine st_go hK rfl rfl ?_
          refine st_go hK rfl rfl ?_
          refine st_getr hK rfl (Wires_f3 hw) ?_
          refine st_go hK rfl rfl ?_
          refine st_iald hK rfl (Wires_a3 hw) (cw_in_nI (n := 15) (by omega) (by decide)) ?_
          refine cv1 hK rfl (Wires_c hw) (Nat.le_of_ble_eq_true rfl) ?_
          rw [rD i (by omega) (by omega)]
          refine z_part hw hinI ?_
          change K _ _ (_ :: _) _
          refine st_go hK rfl rfl ?_
          refine st_go hK rfl rfl ?_
          refine st_getr hK rfl (Wires_f3 hw) ?_
          refine st_go hK rfl rfl ?_
          refine st_iald hK rfl (Wires_a3 hw) (cw_in_nI (n := 15) (by omega) (by decide)) ?_
          refine cv1 hK rfl (Wires_c hw) (Nat.le_of_ble_eq_true rfl) ?_
          rw [rD j (by omega) (by omega)]
          refine z_part hw hinJ ?_
          change K _ _ (_ :: _) _
          refine st_go hK rfl rfl ?_
          refine cv3 hK rfl (Merge_c (isM_of hw)) (Nat.le_of_ble_eq_true rfl) ?_
          refine z_weigh (isM_of hw) hPi hPj ?_
          change K _ _ _ _
          have lpi := pp_lt (w := w) hinI
          have lpj := pp_lt (w := w) hinJ
          have esp : spanF (τ (pp w (D.getD i 0))) (τ (pp w (D.getD j 0))) (skT σ t) = spanF (U (D.getD i 0)) (U (D.getD j 0)) (skT σ t) := by
            rw [hτ _ (by omega), hτ _ (by omega)]
            exact span_congr (hU i (by omega)).six (hU j (by omega)).six
          have e1 : wgF τ (w + 3) (pp w (D.getD i 0)) (pp w (D.getD j 0)) (skT σ t) (w + 3) 1 = spanF (U (D.getD i 0)) (U (D.getD j 0)) (skT σ t) := by rw [wgF_1, esp]
          have h2 : ∀ p, p ≠ w + 3 → wgF τ (w + 3) (pp w (D.getD i 0)) (pp w (D.getD j 0)) (skT σ t) p = σ p := fun p hp => by rw [wgF_ne hp, hτ p hp]
          change K 84 _ _ (cw_B (wgF τ (w + 3) (pp w (D.getD i 0)) (pp w (D.getD j 0)) (skT σ t)) lam)
          generalize wgF τ (w + 3) (pp w (D.getD i 0)) (pp w (D.getD j 0)) (skT σ t) = τ1 at e1 h2 ⊢
          have rD1 : ∀ k, k < tc → k < 2 ^ 31 → τ1 (w + 4) (nI k).toNatClampNeg = D.getD k 0 := fun k hk h31 => by rw [nI_clamp h31, h2 (w + 4) (by omega), hl k hk]
          have take : (s.1 = -1 ∨ spanF (U (D.getD i 0)) (U (D.getD j 0)) (skT σ t) < s.2) → K 101 [some (.ref w), some (.ref t), some (.int (skT σ t)), some (.int s.1), some (.int s.2), some (.int (nI i)), some (.int (nI j))] [] (cw_B τ1 lam) := by
            intro hc
            refine st_go hK rfl rfl ?_
            refine st_go hK rfl rfl ?_
            refine st_getr hK rfl (Wires_f3 hw) ?_
            refine st_go hK rfl rfl ?_
            refine st_iald hK rfl (Wires_a3 hw) (cw_in_nI (n := 15) (by omega) (by decide)) ?_
            refine st_bin hK rfl ?_
            refine st_go hK rfl rfl ?_
            refine st_getr hK rfl (Wires_f3 hw) ?_
            refine st_go hK rfl rfl ?_
            refine st_iald hK rfl (Wires_a3 hw) (cw_in_nI (n := 15) (by omega) (by decide)) ?_
            refine st_bin hK rfl ?_
            refine st_go hK rfl rfl ?_
            refine st_go hK rfl rfl ?_
            refine st_getr hK rfl (Wires_f2 hw) ?_
            refine st_geti hK rfl (Merge_f1 (isM_of hw)) ?_
            refine st_go hK rfl rfl ?_
            rw [rD1 i (by omega) (by omega), rD1 j (by omega) (by omega), e1]
            refine st_go hK rfl rfl ?_
            refine st_go hK rfl rfl ?_
            have := ih2 (j + 1) τ1 (16 * D.getD i 0 + D.getD j 0, spanF (U (D.getD i 0)) (U (D.getD j 0)) (skT σ t)) (by omega) (by omega) h2 (by rw [← e]; show _ = np1 U (skT σ t) D tc m (i + 1) (np2 U (skT σ t) D i q (j + 1) (npS U (skT σ t) (D.getD i 0) (D.getD j 0) s)); unfold npS; rw [if_pos hc])
            rw [← nI_1] at this
            dsimp only at this
            exact this
          have keep : ¬ (s.1 = -1 ∨ spanF (U (D.getD i 0)) (U (D.getD j 0)) (skT σ t) < s.2) → K 129 [some (.ref w), some (.ref t), some (.int (skT σ t)), some (.int s.1), some (.int s.2), some (.int (nI i)), some (.int (nI j))] [] (cw_B τ1 lam) := by
            intro hc
            refine st_go hK rfl rfl ?_
            refine st_go hK rfl rfl ?_
            have := ih2 (j + 1) τ1 s (by omega) (by omega) h2 (by rw [← e]; show _ = np1 U (skT σ t) D tc m (i + 1) (np2 U (skT σ t) D i q (j + 1) (npS U (skT σ t) (D.getD i 0) (D.getD j 0) s)); unfold npS; rw [if_neg hc])
            rw [← nI_1] at this
            exact this
          refine st_go hK rfl rfl ?_
          refine st_go hK rfl rfl ?_
          refine st_if hK rfl rfl (fun c86 => ?_) (fun c86 => ?_)
          · exact take (Or.inl c86)
          · refine st_go hK rfl rfl ?_
            refine st_getr hK rfl (Wires_f2 hw) ?_
            refine st_geti hK rfl (Merge_f1 (isM_of hw)) ?_
            rw [e1]
            refine st_go hK rfl rfl ?_
            refine st_if hK rfl rfl (fun c98 => ?_) (fun c98 => ?_)
            · exact keep (fun z => z.elim c86 (fun y => absurd y (Int32.not_lt.mpr c98)))
            · exact take (Or.inr (i_nle c98))
      have := loop2 (tc - (i + 1)) (i + 1) τ s (by omega) (by omega) hτ e'
      exact this
  refine st_go hK rfl rfl ?_
  refine st_geti hK rfl (Tree_f9 ht) ?_
  refine st_go hK rfl rfl ?_
  refine st_bin hK rfl ?_
  refine st_go hK rfl rfl ?_
  refine st_go hK rfl rfl ?_
  refine st_go hK rfl rfl ?_
  refine st_go hK rfl rfl ?_
  refine st_go hK rfl rfl ?_
  refine st_go hK rfl rfl ?_
  refine st_go hK rfl rfl ?_
  exact loop1 tc 0 σ none (-1, 0) (by omega) (fun _ _ => rfl) rfl
end
end
section
/-! PLACES -/
theorem hT1 : isT 1 := Or.inl rfl
theorem hW10 : isW 10 := Or.inl rfl
def movF (v lo hi : Int32) : Int32 := mx lo (mn hi v)
def dsF (u v x y : Int32) : Int32 := mx (ab (u - x)) (ab (v - y))
def dlF (w : Int32) (f : Nat → Int32) : Int64 := w.toInt64 * (w.toInt64 + 2 * capF f)
section
variable {d : Nat} {σ : cw_V} {lam : Nat → Int64} {Q : cw_Q}
theorem z_movedInto {a b c : Int32} {h : cw_H} (kk : Q (some (.int (movF a b c))) h) : cw_Z (d + 1) m_Places_movedInto [.int a, .int b, .int c] h Q := by
  refine zi (L := [some (.int a), some (.int b), some (.int c)]) rfl rfl (fun K hK => ?_)
  refine st_go hK rfl rfl ?_
  refine st_go hK rfl rfl ?_
  refine st_go hK rfl rfl ?_
  refine st_min hK rfl (Nat.le_of_ble_eq_true rfl) ?_
  refine st_max hK rfl (Nat.le_of_ble_eq_true rfl) ?_
  refine st_ret hK rfl rfl ?_
  exact kk
theorem z_distance {a b c e : Int32} {h : cw_H} (kk : Q (some (.int (dsF a b c e))) h) : cw_Z (d + 1) m_CW_distance [.int a, .int b, .int c, .int e] h Q := by
  refine zi (L := [some (.int a), some (.int b), some (.int c), some (.int e)]) rfl rfl (fun K hK => ?_)
  refine st_go hK rfl rfl ?_
  refine st_go hK rfl rfl ?_
  refine st_bin hK rfl ?_
  refine st_abs hK rfl (Nat.le_of_ble_eq_true rfl) ?_
  refine st_go hK rfl rfl ?_
  refine st_go hK rfl rfl ?_
  refine st_bin hK rfl ?_
  refine st_abs hK rfl (Nat.le_of_ble_eq_true rfl) ?_
  refine st_max hK rfl (Nat.le_of_ble_eq_true rfl) ?_
  refine st_ret hK rfl rfl ?_
  exact kk
theorem z_gridDistance {a b c e : Int32} {h : cw_H} (kk : Q (some (.int (dsF ((a + b) * 65536) ((a - b) * 65536) ((c + e) * 65536) ((c - e) * 65536)))) h) : cw_Z (d + 2) m_CW_gridDistance [.int a, .int b, .int c, .int e] h Q := by
  refine zi (L := [some (.int a), some (.int b), some (.int c), some (.int e)]) rfl rfl (fun K hK => ?_)
  refine st_go hK rfl rfl ?_
  refine st_go hK rfl rfl ?_
  refine st_bin hK rfl ?_
  refine st_go hK rfl rfl ?_
  refine st_bin hK rfl ?_
  refine st_go hK rfl rfl ?_
  refine st_go hK rfl rfl ?_
  refine st_bin hK rfl ?_
  refine st_go hK rfl rfl ?_
  refine st_bin hK rfl ?_
  refine st_go hK rfl rfl ?_
  refine st_go hK rfl rfl ?_
  refine st_bin hK rfl ?_
  refine st_go hK rfl rfl ?_
  refine st_bin hK rfl ?_
  refine st_go hK rfl rfl ?_
  refine st_go hK rfl rfl ?_
  refine st_bin hK rfl ?_
  refine st_go hK rfl rfl ?_
  refine st_bin hK rfl ?_
  refine cs4 hK rfl (Nat.le_of_ble_eq_true rfl) ?_
  refine z_distance ?_
  change K _ _ (_ :: _) _
  refine st_ret hK rfl rfl ?_
  exact kk
theorem z_delayOf {a : Int32} {p : Nat} (hp : isP p) (kk : Q (some (.long (dlF a (σ p)))) (cw_B σ lam)) : cw_Z (d + 2) m_Places_delayOf [.int a, .ref p] (cw_B σ lam) Q := by
  refine zi (L := [some (.int a), some (.ref p)]) rfl rfl (fun K hK => ?_)
  refine st_go hK rfl rfl ?_
  refine st_go hK rfl rfl ?_
  refine st_go hK rfl rfl ?_
  refine st_go hK rfl rfl ?_
  refine st_go hK rfl rfl ?_
  refine st_go hK rfl rfl ?_
  refine cv0 hK rfl (Part_c hp) (Nat.le_of_ble_eq_true rfl) ?_
  refine z_capacity hp ?_
  change K _ _ (_ :: _) _
  refine st_lbin hK rfl ?_
  refine st_lbin hK rfl ?_
  refine st_lbin hK rfl ?_
  refine st_ret hK rfl rfl ?_
  exact kk
theorem cw_in_mono {i : Int32} (h : cw_in i 8 = true) : cw_in i 15 = true := by
  rw [cw_in_iff] at h ⊢
  omega
theorem z_arrivalOf {k : Int32} (hk : hSink σ 1 k) (kk : Q (some (.int (σ 34 (nd k) + σ (1 + 3) (nd k) * 65536))) (cw_B σ lam)) : cw_Z (d + 2) m_Places_arrivalOf [.ref 30, .ref 1, .int k] (cw_B σ lam) Q := by
  refine zi (L := [some (.ref 30), some (.ref 1), some (.int k)]) rfl rfl (fun K hK => ?_)
  refine st_go hK rfl rfl ?_
  refine st_go hK rfl rfl ?_
  refine cv1 hK rfl (Tree_c hT1) (Nat.le_of_ble_eq_true rfl) ?_
  refine z_hasSink hT1 (fun _ => ?_) (fun z => absurd hk z)
  change K _ _ (_ :: _) _
  refine st_if hK rfl rfl (fun c => absurd c (by decide)) (fun _ => ?_)
  refine st_go hK rfl rfl ?_
  refine st_getr hK rfl rfl ?_
  refine st_go hK rfl rfl ?_
  refine st_iald hK rfl rfl (cw_in_mono hk.in) ?_
  refine st_go hK rfl rfl ?_
  refine st_getr hK rfl (Tree_f2 hT1) ?_
  refine st_go hK rfl rfl ?_
  refine st_iald hK rfl (Tree_a2 hT1) hk.in ?_
  refine st_go hK rfl rfl ?_
  refine st_bin hK rfl ?_
  refine st_bin hK rfl ?_
  refine st_go hK rfl rfl ?_
  refine st_ret hK rfl rfl ?_
  exact kk
/-- the greatest minus the least of f 0 .. f (m) -/
def sprF (f : Nat → Int32) : Nat → Nat → Int32 × Int32 → Int32 × Int32
  | 0, _, s => s
  | m + 1, i, s => sprF f m (i + 1) (mn s.1 (f i), mx s.2 (f i))
def arF (σ : cw_V) (k : Nat) : Int32 := σ 34 k + σ (1 + 3) k * 65536
theorem hSink_nI {σ : cw_V} {t s i : Nat} (hs : σ t 8 = nI s) (h8 : s ≤ 8) (hi : i < s) : hSink σ t (nI i) := by
  refine ⟨nI_pos' (by omega), ?_, (lit_lt (a := 8) (by decide) (by omega)).mpr (by omega)⟩
  rw [hs]
  exact nI_lt hi (by omega)
theorem z_setSpread {s : Nat} (hs : σ 1 8 = nI s) (h8 : s ≤ 8) (h0 : 0 < s) (kk : Q none (cw_B (cw_up σ 30 9 ((sprF (arF σ) (s - 1) 1 (arF σ 0, arF σ 0)).2 - (sprF (arF σ) (s - 1) 1 (arF σ 0, arF σ 0)).1)) lam)) : cw_Z (d + 3) m_Places_setSpread [.ref 30, .ref 1] (cw_B σ lam) Q := by
  refine zi (L := [some (.ref 30), some (.ref 1), none, none, none]) rfl rfl (fun K hK => ?_)
  have hS : ∀ i, i < s → hSink σ 1 (nI i) := fun i hi => hSink_nI hs h8 hi
  have loop : ∀ m i (q : Int32 × Int32), i + m = s → sprF (arF σ) m i q = sprF (arF σ) (s - 1) 1 (arF σ 0, arF σ 0) → K 12 [some (.ref 30), some (.ref 1), some (.int q.1), some (.int q.2), some (.int (nI i))] [] (cw_B σ lam) := by
    intro m
    induction m with
    | zero =>
      intro i q hi e
      have e' : q = sprF (arF σ) (s - 1) 1 (arF σ 0, arF σ 0) := e
      subst e'
      refine st_go hK rfl rfl ?_
      refine st_go hK rfl rfl ?_
      refine st_geti hK rfl (Tree_f8 hT1) ?_
      rw [hs]
      refine st_if hK rfl rfl (fun _ => ?_) (fun c => absurd ((nI_leI (by omega) (by omega)).mpr (by omega)) c)
      refine st_go hK rfl rfl ?_
      refine st_go hK rfl rfl ?_
      refine st_go hK rfl rfl ?_
      refine st_bin hK rfl ?_
      refine st_put hK rfl rfl rfl ?_
      refine st_ret hK rfl rfl ?_
      exact kk
    | succ m ih =>
      intro i q hi e
      refine st_go hK rfl rfl ?_
      refine st_go hK rfl rfl ?_
      refine st_geti hK rfl (Tree_f8 hT1) ?_
      rw [hs]
      refine st_if hK rfl rfl (fun c => absurd ((nI_leI (by omega) (by omega)).mp c) (by omega)) (fun _ => ?_)
      refine st_go hK rfl rfl ?_
      refine st_go hK rfl rfl ?_
      refine st_go hK rfl rfl ?_
      refine st_go hK rfl rfl ?_
      refine cv2 hK rfl rfl (Nat.le_of_ble_eq_true rfl) ?_
      refine z_arrivalOf (hS i (by omega)) ?_
      change K _ _ (_ :: _) _
      refine st_min hK rfl (Nat.le_of_ble_eq_true rfl) ?_
      refine st_go hK rfl rfl ?_
      refine st_go hK rfl rfl ?_
      refine st_go hK rfl rfl ?_
      refine st_go hK rfl rfl ?_
      refine st_go hK rfl rfl ?_
      refine cv2 hK rfl rfl (Nat.le_of_ble_eq_true rfl) ?_
      refine z_arrivalOf (hS i (by omega)) ?_
      change K _ _ (_ :: _) _
      refine st_max hK rfl (Nat.le_of_ble_eq_true rfl) ?_
      refine st_go hK rfl rfl ?_
      refine st_go hK rfl rfl ?_
      refine st_go hK rfl rfl ?_
      change K 12 [some (.ref 30), some (.ref 1), some (.int (mn q.1 (σ 34 (nd (nI i)) + σ (1 + 3) (nd (nI i)) * 65536))), some (.int (mx q.2 (σ 34 (nd (nI i)) + σ (1 + 3) (nd (nI i)) * 65536))), some (.int (nI i + 1))] [] (cw_B σ lam)
      rw [show nd (nI i) = i from nI_clamp (by omega)]
      have := ih (i + 1) (mn q.1 (arF σ i), mx q.2 (arF σ i)) (by omega) e
      rw [← nI_1] at this
      dsimp only at this
      exact this
  refine st_go hK rfl rfl ?_
  refine st_go hK rfl rfl ?_
  refine st_go hK rfl rfl ?_
  refine cv2 hK rfl rfl (Nat.le_of_ble_eq_true rfl) ?_
  refine z_arrivalOf (hS 0 h0) ?_
  change K _ _ (_ :: _) _
  refine st_go hK rfl rfl ?_
  refine st_go hK rfl rfl ?_
  refine st_go hK rfl rfl ?_
  refine st_go hK rfl rfl ?_
  refine st_go hK rfl rfl ?_
  exact loop (s - 1) 1 (arF σ 0, arF σ 0) (by omega) rfl
end
end
section
section
variable {d : Nat} {σ : cw_V} {lam : Nat → Int64} {Q : cw_Q}
theorem isP_ne {p : Nat} (h : isP p) : p ≠ 30 ∧ p ≠ 31 ∧ p ≠ 32 ∧ p ≠ 33 ∧ p ≠ 34 ∧ p ≠ 1 := h.all (X := fun p => p ≠ 30 ∧ p ≠ 31 ∧ p ≠ 32 ∧ p ≠ 33 ∧ p ≠ 34 ∧ p ≠ 1) (fun q _ h => by omega)
def suF (σ : cw_V) : Int32 := (σ 1 10 + σ 1 11) * 65536
def svF' (σ : cw_V) : Int32 := (σ 1 10 - σ 1 11) * 65536
def u0F (σ : cw_V) (p : Nat) : Int32 := movF (suF σ) (σ p 0) (σ p 1)
def v0F (σ : cw_V) (p : Nat) : Int32 := movF (svF' σ) (σ p 2) (σ p 3)
def trF (σ : cw_V) (p : Nat) : Int32 := dsF (suF σ) (svF' σ) (u0F σ p) (v0F σ p)
def stS (σ : cw_V) (n : Int32) : cw_V := cw_up (cw_up (cw_up (cw_up (cw_up σ 31 (nd n) (u0F σ (pp 10 n))) 32 (nd n) (v0F σ (pp 10 n))) 33 (nd n) (-1)) 30 6 (trF σ (pp 10 n))) 34 (nd n) (trF σ (pp 10 n))
theorem z_setTop {n : Int32} (hn : hNode σ 1 n) (kk : Q none (cw_B (stS σ n) (vp_updL lam (nd n) (dlF (trF σ (pp 10 n)) (σ (pp 10 n)))))) : cw_Z (d + 3) m_Places_setTop [.ref 30, .ref 1, .ref 10, .int n] (cw_B σ lam) Q := by
  have hp := isP_of hW10 hn.in
  obtain ⟨h30, h31, h32, h33, h34, h1⟩ := isP_ne hp
  refine zi (L := [some (.ref 30), some (.ref 1), some (.ref 10), some (.int n), none, none, none]) rfl rfl (fun K hK => ?_)
  refine st_go hK rfl rfl ?_
  refine st_go hK rfl rfl ?_
  refine cv1 hK rfl (Tree_c hT1) (Nat.le_of_ble_eq_true rfl) ?_
  refine z_hasNode hT1 (fun _ => ?_) (fun z => absurd hn z)
  change K _ _ (_ :: _) _
  refine st_if hK rfl rfl (fun _ => ?_) (fun c => absurd (by decide) c)
  refine st_go hK rfl rfl ?_
  refine st_go hK rfl rfl ?_
  refine cv1 hK rfl (Wires_c hW10) (Nat.le_of_ble_eq_true rfl) ?_
  refine z_part hW10 hn.in ?_
  change K _ _ (_ :: _) _
  refine st_go hK rfl rfl ?_
  refine st_go hK rfl rfl ?_
  refine st_geti hK rfl (Tree_f10 hT1) ?_
  refine st_go hK rfl rfl ?_
  refine st_geti hK rfl (Tree_f11 hT1) ?_
  refine st_bin hK rfl ?_
  refine st_go hK rfl rfl ?_
  refine st_bin hK rfl ?_
  refine st_go hK rfl rfl ?_
  refine st_go hK rfl rfl ?_
  refine st_geti hK rfl (Tree_f10 hT1) ?_
  refine st_go hK rfl rfl ?_
  refine st_geti hK rfl (Tree_f11 hT1) ?_
  refine st_bin hK rfl ?_
  refine st_go hK rfl rfl ?_
  refine st_bin hK rfl ?_
  refine st_go hK rfl rfl ?_
  refine st_go hK rfl rfl ?_
  refine st_getr hK rfl rfl ?_
  refine st_go hK rfl rfl ?_
  refine st_go hK rfl rfl ?_
  refine st_go hK rfl rfl ?_
  refine st_geti hK rfl (Part_f0 hp) ?_
  refine st_go hK rfl rfl ?_
  refine st_geti hK rfl (Part_f1 hp) ?_
  refine cs3 hK rfl (Nat.le_of_ble_eq_true rfl) ?_
  refine z_movedInto ?_
  change K _ _ (_ :: _) _
  refine st_iast hK rfl rfl hn.in ?_
  refine st_go hK rfl rfl ?_
  refine st_getr hK rfl rfl ?_
  refine st_go hK rfl rfl ?_
  refine st_go hK rfl rfl ?_
  refine st_go hK rfl rfl ?_
  refine st_geti hK rfl (Part_f2 hp) ?_
  refine st_go hK rfl rfl ?_
  refine st_geti hK rfl (Part_f3 hp) ?_
  refine cs3 hK rfl (Nat.le_of_ble_eq_true rfl) ?_
  refine z_movedInto ?_
  change K _ _ (_ :: _) _
  refine st_iast hK rfl rfl hn.in ?_
  refine st_go hK rfl rfl ?_
  refine st_getr hK rfl rfl ?_
  refine st_go hK rfl rfl ?_
  refine st_go hK rfl rfl ?_
  refine st_iast hK rfl rfl hn.in ?_
  refine st_go hK rfl rfl ?_
  refine st_go hK rfl rfl ?_
  refine st_go hK rfl rfl ?_
  refine st_go hK rfl rfl ?_
  refine st_getr hK rfl rfl ?_
  refine st_go hK rfl rfl ?_
  refine st_iald hK rfl rfl hn.in ?_
  refine st_go hK rfl rfl ?_
  refine st_getr hK rfl rfl ?_
  refine st_go hK rfl rfl ?_
  refine st_iald hK rfl rfl hn.in ?_
  refine cs4 hK rfl (Nat.le_of_ble_eq_true rfl) ?_
  refine z_distance ?_
  change K _ _ (_ :: _) _
  refine st_put hK rfl rfl rfl ?_
  refine st_go hK rfl rfl ?_
  refine st_getr hK rfl rfl ?_
  refine st_go hK rfl rfl ?_
  refine st_go hK rfl rfl ?_
  refine st_geti hK rfl rfl ?_
  refine st_iast hK rfl rfl hn.in ?_
  refine st_go hK rfl rfl ?_
  refine st_getr hK rfl rfl ?_
  refine st_go hK rfl rfl ?_
  refine st_go hK rfl rfl ?_
  refine st_geti hK rfl rfl ?_
  refine st_go hK rfl rfl ?_
  refine cs2 hK rfl (Nat.le_of_ble_eq_true rfl) ?_
  refine z_delayOf hp ?_
  change K _ _ (_ :: _) _
  refine st_last hK rfl hn.in ?_
  refine st_ret hK rfl rfl ?_
  have e : ∀ (τ1 τ2 : cw_V) (x y : Int64), τ1 = τ2 → x = y → Q none (cw_B τ2 (vp_updL lam (nd n) y)) → Q none (cw_B τ1 (vp_updL lam (nd n) x)) := fun _ _ _ _ e1 e2 z => by rw [e1, e2]; exact z
  refine e _ _ _ _ ?_ ?_ kk
  · unfold stS trF u0F v0F suF svF'
    have epp : (10 : Nat) + 5 + n.toNatClampNeg = pp 10 n := rfl
    simp only [epp, up_ne (show pp 10 n ≠ 31 from h31), up_ne (show pp 10 n ≠ 32 from h32), up_ne (show pp 10 n ≠ 33 from h33), up_ne (show pp 10 n ≠ 34 from h34), up_ne (show pp 10 n ≠ 30 from h30), up_ne (show (31 : Nat) ≠ 32 by decide), up_ne (show (31 : Nat) ≠ 33 by decide), up_ne (show (32 : Nat) ≠ 33 by decide), up_eq, upd_eq]
  · unfold trF u0F v0F suF svF'
    have epp : (10 : Nat) + 5 + n.toNatClampNeg = pp 10 n := rfl
    simp only [epp, up_ne (show pp 10 n ≠ 31 from h31), up_ne (show pp 10 n ≠ 32 from h32), up_ne (show pp 10 n ≠ 33 from h33), up_ne (show pp 10 n ≠ 34 from h34), up_ne (show pp 10 n ≠ 30 from h30), up_ne (show (30 : Nat) ≠ 34 by decide), up_ne (show (31 : Nat) ≠ 32 by decide), up_ne (show (31 : Nat) ≠ 33 by decide), up_ne (show (32 : Nat) ≠ 33 by decide), up_eq, upd_eq]
/-- a child's places: U, V, loop -/
def cuF (σ : cw_V) (p : Nat) (j : Int32) : Int32 := movF (σ 31 (nd j)) (σ p 0) (σ p 1)
def cvF (σ : cw_V) (p : Nat) (j : Int32) : Int32 := movF (σ 32 (nd j)) (σ p 2) (σ p 3)
def clF (σ : cw_V) (p : Nat) (j : Int32) : Int32 := σ p 6 - dsF (cuF σ p j) (cvF σ p j) (σ 31 (nd j)) (σ 32 (nd j))
def scS (σ τ : cw_V) (p : Nat) (n j : Int32) : Prop := (∀ q, q ≠ 30 → q ≠ 31 → q ≠ 32 → q ≠ 33 → q ≠ 34 → τ q = σ q) ∧ τ 31 = upd (σ 31) (nd n) (cuF σ p j) ∧ τ 32 = upd (σ 32) (nd n) (cvF σ p j) ∧ τ 33 = upd (σ 33) (nd n) (clF σ p j) ∧ τ 34 = upd (σ 34) (nd n) (σ 34 (nd j) + σ p 6) ∧
  τ 30 7 = σ 30 7 + clF σ p j ∧ τ 30 8 = (if 0 < clF σ p j then σ 30 8 + 1 else σ 30 8) ∧ (∀ k, k ≠ 7 → k ≠ 8 → τ 30 k = σ 30 k)
theorem z_setChild {p : Nat} {n j : Int32} (hp : isP p) (hnin : cw_in n 15 = true) (hjin : cw_in j 15 = true) (hne : nd j ≠ nd n) (kk : ∀ τ, scS σ τ p n j → Q none (cw_B τ (vp_updL lam (nd n) (lam (nd j) + dlF (σ p 6) (σ p))))) : cw_Z (d + 3) m_Places_setChild [.ref 30, .ref p, .int n, .int j] (cw_B σ lam) Q := by
  obtain ⟨h30, h31, h32, h33, h34, h1⟩ := isP_ne hp
  have n1 : ¬ n < 0 := fun h => by have := cw_in_iff.mp hnin; rw [Int32.lt_iff_toInt_lt] at h; have e : (0 : Int32).toInt = 0 := by decide
                                   omega
  have n2 : n < 15 := by have := cw_in_iff.mp hnin; rw [Int32.lt_iff_toInt_lt]; have e : (15 : Int32).toInt = 15 := by decide
                         omega
  have j1 : ¬ j < 0 := fun h => by have := cw_in_iff.mp hjin; rw [Int32.lt_iff_toInt_lt] at h; have e : (0 : Int32).toInt = 0 := by decide
                                   omega
  have j2 : j < 15 := by have := cw_in_iff.mp hjin; rw [Int32.lt_iff_toInt_lt]; have e : (15 : Int32).toInt = 15 := by decide
                         omega
  have hjn : j.toNatClampNeg ≠ n.toNatClampNeg := hne
  have n87 : (8 : Nat) ≠ 7 := by decide
  have n78 : (7 : Nat) ≠ 8 := by decide
  have n3031 : (30 : Nat) ≠ 31 := by decide
  have n3032 : (30 : Nat) ≠ 32 := by decide
  have n3033 : (30 : Nat) ≠ 33 := by decide
  have n3034 : (30 : Nat) ≠ 34 := by decide
  have n3130 : (31 : Nat) ≠ 30 := by decide
  have n3132 : (31 : Nat) ≠ 32 := by decide
  have n3133 : (31 : Nat) ≠ 33 := by decide
  have n3134 : (31 : Nat) ≠ 34 := by decide
  have n3230 : (32 : Nat) ≠ 30 := by decide
  have n3231 : (32 : Nat) ≠ 31 := by decide
  have n3233 : (32 : Nat) ≠ 33 := by decide
  have n3234 : (32 : Nat) ≠ 34 := by decide
  have n3330 : (33 : Nat) ≠ 30 := by decide
  have n3331 : (33 : Nat) ≠ 31 := by decide
  have n3332 : (33 : Nat) ≠ 32 := by decide
  have n3334 : (33 : Nat) ≠ 34 := by decide
  have n3430 : (34 : Nat) ≠ 30 := by decide
  have n3431 : (34 : Nat) ≠ 31 := by decide
  have n3432 : (34 : Nat) ≠ 32 := by decide
  have n3433 : (34 : Nat) ≠ 33 := by decide
  refine zi (L := [some (.ref 30), some (.ref p), some (.int n), some (.int j)]) rfl rfl (fun K hK => ?_)
  refine st_go hK rfl rfl ?_
  refine st_if hK rfl rfl (fun c1 => ?_) (fun c1 => ?_)
  · refine st_ret hK rfl rfl ?_
    exfalso
    first | exact n1 c1 | exact absurd n2 (Int32.not_lt.mpr c7) | exact j1 c11 | exact c17 j2
  · refine st_go hK rfl rfl ?_
    refine st_go hK rfl rfl ?_
    refine st_if hK rfl rfl (fun c7 => ?_) (fun c7 => ?_)
    · refine st_ret hK rfl rfl ?_
      exfalso
      first | exact n1 c1 | exact absurd n2 (Int32.not_lt.mpr c7) | exact j1 c11 | exact c17 j2
    · refine st_go hK rfl rfl ?_
      refine st_if hK rfl rfl (fun c11 => ?_) (fun c11 => ?_)
      · refine st_ret hK rfl rfl ?_
        exfalso
        first | exact n1 c1 | exact absurd n2 (Int32.not_lt.mpr c7) | exact j1 c11 | exact c17 j2
      · refine st_go hK rfl rfl ?_
        refine st_go hK rfl rfl ?_
        refine st_if hK rfl rfl (fun c17 => ?_) (fun c17 => ?_)
        · refine st_go hK rfl rfl ?_
          refine st_getr hK rfl rfl ?_
          refine st_go hK rfl rfl ?_
          refine st_go hK rfl rfl ?_
          refine st_getr hK rfl rfl ?_
          refine st_go hK rfl rfl ?_
          refine st_iald hK rfl rfl hjin ?_
          refine st_go hK rfl rfl ?_
          refine st_geti hK rfl (Part_f0 hp) ?_
          refine st_go hK rfl rfl ?_
          refine st_geti hK rfl (Part_f1 hp) ?_
          refine cs3 hK rfl (Nat.le_of_ble_eq_true rfl) ?_
          refine z_movedInto ?_
          change K _ _ (_ :: _) _
          refine st_iast hK rfl rfl hnin ?_
          refine st_go hK rfl rfl ?_
          refine st_getr hK rfl rfl ?_
          refine st_go hK rfl rfl ?_
          refine st_go hK rfl rfl ?_
          refine st_getr hK rfl rfl ?_
          refine st_go hK rfl rfl ?_
          refine st_iald hK rfl rfl hjin ?_
          refine st_go hK rfl rfl ?_
          refine st_geti hK rfl (Part_f2 hp) ?_
          refine st_go hK rfl rfl ?_
          refine st_geti hK rfl (Part_f3 hp) ?_
          refine cs3 hK rfl (Nat.le_of_ble_eq_true rfl) ?_
          refine z_movedInto ?_
          change K _ _ (_ :: _) _
          refine st_iast hK rfl rfl hnin ?_
          refine st_go hK rfl rfl ?_
          refine st_getr hK rfl rfl ?_
          refine st_go hK rfl rfl ?_
          refine st_go hK rfl rfl ?_
          refine st_geti hK rfl (Part_f6 hp) ?_
          refine st_go hK rfl rfl ?_
          refine st_getr hK rfl rfl ?_
          refine st_go hK rfl rfl ?_
          refine st_iald hK rfl rfl hnin ?_
          refine st_go hK rfl rfl ?_
          refine st_getr hK rfl rfl ?_
          refine st_go hK rfl rfl ?_
          refine st_iald hK rfl rfl hnin ?_
          refine st_go hK rfl rfl ?_
          refine st_getr hK rfl rfl ?_
          refine st_go hK rfl rfl ?_
          refine st_iald hK rfl rfl hjin ?_
          refine st_go hK rfl rfl ?_
          refine st_getr hK rfl rfl ?_
          refine st_go hK rfl rfl ?_
          refine st_iald hK rfl rfl hjin ?_
          refine cs4 hK rfl (Nat.le_of_ble_eq_true rfl) ?_
          refine z_distance ?_
          change K _ _ (_ :: _) _
          refine st_bin hK rfl ?_
          refine st_iast hK rfl rfl hnin ?_
          refine st_go hK rfl rfl ?_
          refine st_go hK rfl rfl ?_
          refine st_geti hK rfl rfl ?_
          refine st_go hK rfl rfl ?_
          refine st_getr hK rfl rfl ?_
          refine st_go hK rfl rfl ?_
          refine st_iald hK rfl rfl hnin ?_
          refine st_bin hK rfl ?_
          refine st_put hK rfl rfl rfl ?_
          refine st_go hK rfl rfl ?_
          refine st_getr hK rfl rfl ?_
          refine st_go hK rfl rfl ?_
          refine st_iald hK rfl rfl hnin ?_
          refine st_if hK rfl rfl (fun c126 => ?_) (fun c126 => ?_)
          · refine st_go hK rfl rfl ?_
            refine st_getr hK rfl rfl ?_
            refine st_go hK rfl rfl ?_
            refine st_go hK rfl rfl ?_
            refine st_getr hK rfl rfl ?_
            refine st_go hK rfl rfl ?_
            refine st_iald hK rfl rfl hjin ?_
            refine st_go hK rfl rfl ?_
            refine st_geti hK rfl (Part_f6 hp) ?_
            refine st_bin hK rfl ?_
            refine st_iast hK rfl rfl hnin ?_
            refine st_go hK rfl rfl ?_
            refine st_getr hK rfl rfl ?_
            refine st_go hK rfl rfl ?_
            refine st_go hK rfl rfl ?_
            refine st_getr hK rfl rfl ?_
            refine st_go hK rfl rfl ?_
            refine st_lald hK rfl rfl hjin ?_
            refine st_go hK rfl rfl ?_
            refine st_geti hK rfl (Part_f6 hp) ?_
            refine st_go hK rfl rfl ?_
            refine cs2 hK rfl (Nat.le_of_ble_eq_true rfl) ?_
            refine z_delayOf hp ?_
            change K _ _ (_ :: _) _
            refine st_lbin hK rfl ?_
            refine st_last hK rfl hnin ?_
            refine st_ret hK rfl rfl ?_
            have e : ∀ (τ1 : cw_V) (x : Int64), scS σ τ1 p n j → x = lam (nd j) + dlF (σ p 6) (σ p) → Q none (cw_B τ1 (vp_updL lam (nd n) x)) := fun _ _ e1 e2 => by rw [e2]; exact kk _ e1
            simp only [up_ne h31, up_ne h32, up_ne h33, up_ne h34, up_ne h30, up_ne n3132, up_ne n3133, up_ne n3134, up_ne n3130, up_ne n3231, up_ne n3233, up_ne n3234, up_ne n3230, up_ne n3331, up_ne n3332, up_ne n3334, up_ne n3330, up_ne n3430, up_ne n3431, up_ne n3432, up_ne n3433, up_ne n3031, up_ne n3032, up_ne n3033, up_ne n3034, up_eq, upd_eq, upd_ne hjn, upd_ne n87, upd_ne n78] at c126 ⊢
            refine e _ _ ⟨fun q q0 q1 q2 q3 q4 => ?_, ?_, ?_, ?_, ?_, ?_, ?_, fun k k7 k8 => ?_⟩ ?_
            · simp only [up_ne q0, up_ne q1, up_ne q2, up_ne q3, up_ne q4]
            · simp only [up_ne n3132, up_ne n3133, up_ne n3134, up_ne n3130, up_eq]; rfl
            · simp only [up_ne n3231, up_ne n3233, up_ne n3234, up_ne n3230, up_eq]; rfl
            · simp only [up_ne n3331, up_ne n3332, up_ne n3334, up_ne n3330, up_eq]; rfl
            · simp only [up_ne n3430, up_ne n3431, up_ne n3432, up_ne n3433, up_eq]
            · simp only [up_ne n3031, up_ne n3032, up_ne n3033, up_ne n3034, up_eq, upd_eq, upd_ne n78]; rfl
            · simp only [up_ne n3031, up_ne n3032, up_ne n3033, up_ne n3034, up_eq, upd_eq, upd_ne n87]
              first
                | (rw [if_pos (show 0 < clF σ p j from i_nle c126)])
                | (rw [if_neg (show ¬ 0 < clF σ p j from Int32.not_lt.mpr c126)])
            · simp only [up_ne n3031, up_ne n3032, up_ne n3033, up_ne n3034, up_eq, upd_ne k7, upd_ne k8]
            · rfl
          · refine st_go hK rfl rfl ?_
            refine st_go hK rfl rfl ?_
            refine st_geti hK rfl rfl ?_
            refine st_go hK rfl rfl ?_
            refine st_bin hK rfl ?_
            refine st_put hK rfl rfl rfl ?_
            refine st_go hK rfl rfl ?_
            refine st_getr hK rfl rfl ?_
            refine st_go hK rfl rfl ?_
            refine st_go hK rfl rfl ?_
            refine st_getr hK rfl rfl ?_
            refine st_go hK rfl rfl ?_
            refine st_iald hK rfl rfl hjin ?_
            refine st_go hK rfl rfl ?_
            refine st_geti hK rfl (Part_f6 hp) ?_
            refine st_bin hK rfl ?_
            refine st_iast hK rfl rfl hnin ?_
            refine st_go hK rfl rfl ?_
            refine st_getr hK rfl rfl ?_
            refine st_go hK rfl rfl ?_
            refine st_go hK rfl rfl ?_
            refine st_getr hK rfl rfl ?_
            refine st_go hK rfl rfl ?_
            refine st_lald hK rfl rfl hjin ?_
            refine st_go hK rfl rfl ?_
            refine st_geti hK rfl (Part_f6 hp) ?_
            refine st_go hK rfl rfl ?_
            refine cs2 hK rfl (Nat.le_of_ble_eq_true rfl) ?_
            refine z_delayOf hp ?_
            change K _ _ (_ :: _) _
            refine st_lbin hK rfl ?_
            refine st_last hK rfl hnin ?_
            refine st_ret hK rfl rfl ?_
            have e : ∀ (τ1 : cw_V) (x : Int64), scS σ τ1 p n j → x = lam (nd j) + dlF (σ p 6) (σ p) → Q none (cw_B τ1 (vp_updL lam (nd n) x)) := fun _ _ e1 e2 => by rw [e2]; exact kk _ e1
            simp only [up_ne h31, up_ne h32, up_ne h33, up_ne h34, up_ne h30, up_ne n3132, up_ne n3133, up_ne n3134, up_ne n3130, up_ne n3231, up_ne n3233, up_ne n3234, up_ne n3230, up_ne n3331, up_ne n3332, up_ne n3334, up_ne n3330, up_ne n3430, up_ne n3431, up_ne n3432, up_ne n3433, up_ne n3031, up_ne n3032, up_ne n3033, up_ne n3034, up_eq, upd_eq, upd_ne hjn, upd_ne n87, upd_ne n78] at c126 ⊢
            refine e _ _ ⟨fun q q0 q1 q2 q3 q4 => ?_, ?_, ?_, ?_, ?_, ?_, ?_, fun k k7 k8 => ?_⟩ ?_
            · simp only [up_ne q0, up_ne q1, up_ne q2, up_ne q3, up_ne q4]
            · simp only [up_ne n3132, up_ne n3133, up_ne n3134, up_ne n3130, up_eq]; rfl
            · simp only [up_ne n3231, up_ne n3233, up_ne n3234, up_ne n3230, up_eq]; rfl
            · simp only [up_ne n3331, up_ne n3332, up_ne n3334, up_ne n3330, up_eq]; rfl
            · simp only [up_ne n3430, up_ne n3431, up_ne n3432, up_ne n3433, up_eq]
            · simp only [up_ne n3031, up_ne n3032, up_ne n3033, up_ne n3034, up_eq, upd_eq, upd_ne n78]; rfl
            · simp only [up_ne n3031, up_ne n3032, up_ne n3033, up_ne n3034, up_eq, upd_eq, upd_ne n87]
              first
                | (rw [if_pos (show 0 < clF σ p j from i_nle c126)])
                | (rw [if_neg (show ¬ 0 < clF σ p j from Int32.not_lt.mpr c126)])
            · simp only [up_ne n3031, up_ne n3032, up_ne n3033, up_ne n3034, up_eq, upd_ne k7, upd_ne k8]
            · rfl
        · refine st_ret hK rfl rfl ?_
          exfalso
          first | exact n1 c1 | exact absurd n2 (Int32.not_lt.mpr c7) | exact j1 c11 | exact c17 j2
end
end
section
/-- places (0 U, 1 V, 2 loop, 3 the way from the source) and delays, right at each node -/
def PLab (σ : cw_V) (U : Int32 → Nat → Int32) (wr : Int32 → Int32) (top : Int32) (E : Int32 → Nat → Int32) (Ed : Int32 → Int64) : Prop :=
  (E top 0 = movF (suF σ) (U top 0) (U top 1) ∧ E top 1 = movF (svF' σ) (U top 2) (U top 3) ∧ E top 2 = -1 ∧ E top 3 = dsF (suF σ) (svF' σ) (E top 0) (E top 1) ∧ Ed top = dlF (E top 3) (U top)) ∧
  ∀ m, hNode σ 1 m → pof σ 1 m ≠ -1 → E m 0 = movF (E (pof σ 1 m) 0) (U m 0) (U m 1) ∧ E m 1 = movF (E (pof σ 1 m) 1) (U m 2) (U m 3) ∧ E m 2 = wr m - dsF (E m 0) (E m 1) (E (pof σ 1 m) 0) (E (pof σ 1 m) 1) ∧ E m 3 = E (pof σ 1 m) 3 + wr m ∧ Ed m = Ed (pof σ 1 m) + dlF (wr m) (U m)
def lsF (E : Int32 → Nat → Int32) (D : List Int32) : Nat → Int32
  | 0 => 0
  | 1 => 0
  | m + 2 => lsF E D (m + 1) + E (D.getD (m + 1) 0) 2
def lcF (E : Int32 → Nat → Int32) (D : List Int32) : Nat → Int32
  | 0 => 0
  | 1 => 0
  | m + 2 => if 0 < E (D.getD (m + 1) 0) 2 then lcF E D (m + 1) + 1 else lcF E D (m + 1)
theorem dl_congr {w : Int32} {f g : Nat → Int32} (h : ev9 f g) : dlF w f = dlF w g := by
  unfold dlF capF
  rw [h 7 (by decide) (by decide), h 9 (by decide) (by decide)]
/-- embedded up to the i-th of the list -/
def EI (σ τ : cw_V) (lam' : Nat → Int64) (D : List Int32) (E : Int32 → Nat → Int32) (Ed : Int32 → Int64) (i : Nat) : Prop :=
  (∀ q, (q < 30 ∨ 34 < q) → τ q = σ q) ∧ τ 30 5 = 1 ∧ τ 30 6 = E (D.getD 0 0) 3 ∧ τ 30 7 = lsF E D i ∧ τ 30 8 = lcF E D i ∧
  ∀ k, k < i → τ 31 (nd (D.getD k 0)) = E (D.getD k 0) 0 ∧ τ 32 (nd (D.getD k 0)) = E (D.getD k 0) 1 ∧ τ 33 (nd (D.getD k 0)) = E (D.getD k 0) 2 ∧ τ 34 (nd (D.getD k 0)) = E (D.getD k 0) 3 ∧ lam' (nd (D.getD k 0)) = Ed (D.getD k 0)
theorem updL_eq {f : Nat → Int64} {k : Nat} {x : Int64} : vp_updL f k x k = x := if_pos rfl
theorem updL_ne {f : Nat → Int64} {k j : Nat} {x : Int64} (h : j ≠ k) : vp_updL f k x j = f j := if_neg h
theorem spr_congr {f g : Nat → Int32} : ∀ (m i : Nat) (s : Int32 × Int32), (∀ k, i ≤ k → k < i + m → f k = g k) → sprF f m i s = sprF g m i s
  | 0, _, _, _ => rfl
  | m + 1, i, s, h => by
    show sprF f m (i + 1) (mn s.1 (f i), mx s.2 (f i)) = sprF g m (i + 1) (mn s.1 (g i), mx s.2 (g i))
    rw [h i (Nat.le_refl _) (by omega)]
    exact spr_congr m (i + 1) _ (fun k h1 h2 => h k (by omega) (by omega))
section
variable {d : Nat} {σ : cw_V} {lam : Nat → Int64} {Q : cw_Q}
theorem z_embed0 {tc : Nat} (h5 : σ 10 5 = nI tc) (htc : tc ≤ 15) (h1 : tc ≠ 1) (kk : Q none (cw_B (cw_up σ 30 5 0) lam)) : cw_Z (d + 4) m_Places_embed [.ref 30, .ref 1, .ref 10] (cw_B σ lam) Q := by
  refine zi (L := [some (.ref 30), some (.ref 1), some (.ref 10), none, none]) rfl rfl (fun K hK => ?_)
  refine st_go hK rfl rfl ?_
  refine st_go hK rfl rfl ?_
  refine st_geti hK rfl rfl ?_
  rw [h5]
  refine st_go hK rfl rfl ?_
  refine st_if hK rfl rfl (fun _ => ?_) (fun c => absurd ((nI_eq (a := tc) (b := 1) (by omega) (by decide)).mp (Classical.not_not.mp c)) h1)
  refine st_go hK rfl rfl ?_
  refine st_put hK rfl rfl rfl ?_
  refine st_go hK rfl rfl ?_
  refine st_geti hK rfl rfl ?_
  rw [up_eq, upd_eq]
  refine st_if hK rfl rfl (fun c => absurd rfl c) (fun _ => ?_)
  refine st_ret hK rfl rfl ?_
  exact kk
theorem z_embed1 {D : List Int32} {U E : Int32 → Nat → Int32} {Ed : Int32 → Int64} {wr : Int32 → Int32} {s : Nat} (h5 : σ 10 5 = 1) (h4 : σ 10 4 = nI D.length) (hlen : D.length ≤ 15) (hpos : 0 < D.length) (hl : ∀ j, j < D.length → σ (10 + 4) j = D.getD j 0) (hN : ∀ k, k < D.length → hNode σ 1 (D.getD k 0)) (hnd : ∀ k k', k < D.length → k' < D.length → nd (D.getD k 0) = nd (D.getD k' 0) → k = k')
    (hpar : ∀ i, 1 ≤ i → i < D.length → ∃ k, k < i ∧ D.getD k 0 = pof σ 1 (D.getD i 0)) (hU : ∀ k, k < D.length → ev9 (σ (pp 10 (D.getD k 0))) (U (D.getD k 0))) (hwr : ∀ k, 1 ≤ k → k < D.length → σ (pp 10 (D.getD k 0)) 6 = wr (D.getD k 0)) (hE : PLab σ U wr (D.getD 0 0) E Ed)
    (hs : σ 1 8 = nI s) (h8 : s ≤ 8) (h0 : 0 < s) (hall : ∀ k, k < s → ∃ i, i < D.length ∧ D.getD i 0 = nI k)
    (kk : ∀ τ lam', EI σ τ lam' D E Ed D.length → τ 30 9 = (sprF (fun k => E (nI k) 3 + σ (1 + 3) k * 65536) (s - 1) 1 (E (nI 0) 3 + σ (1 + 3) 0 * 65536, E (nI 0) 3 + σ (1 + 3) 0 * 65536)).2 - (sprF (fun k => E (nI k) 3 + σ (1 + 3) k * 65536) (s - 1) 1 (E (nI 0) 3 + σ (1 + 3) 0 * 65536, E (nI 0) 3 + σ (1 + 3) 0 * 65536)).1 → Q none (cw_B τ lam')) : cw_Z (d + 4) m_Places_embed [.ref 30, .ref 1, .ref 10] (cw_B σ lam) Q := by
  refine zi (L := [some (.ref 30), some (.ref 1), some (.ref 10), none, none]) rfl rfl (fun K hK => ?_)
  have loop : ∀ m i τ lam' (x4 : Option Value), i + m = D.length → 1 ≤ i → EI σ τ lam' D E Ed i → K 49 [some (.ref 30), some (.ref 1), some (.ref 10), some (.int (nI i)), x4] [] (cw_B τ lam') := by
    intro m
    induction m with
    | zero =>
      intro i τ lam' x4 hi h1 hI
      have ei : i = D.length := by omega
      subst ei
      obtain ⟨r, r5, r6, r7, r8, rk⟩ := hI
      refine st_go hK rfl rfl ?_
      refine st_go hK rfl rfl ?_
      refine st_geti hK rfl rfl ?_
      rw [r 10 (by decide), h4]
      refine st_if hK rfl rfl (fun _ => ?_) (fun c => absurd ((nI_leI (by omega) (by omega)).mpr (Nat.le_refl _)) c)
      refine st_go hK rfl rfl ?_
      refine st_go hK rfl rfl ?_
      refine cv1 hK rfl rfl (Nat.le_of_ble_eq_true rfl) ?_
      refine z_setSpread (s := s) (by rw [r 1 (by decide)]; exact hs) h8 h0 ?_
      change K _ _ _ _
      refine st_ret hK rfl rfl ?_
      have ear : ∀ k, k < s → arF τ k = E (nI k) 3 + σ (1 + 3) k * 65536 := by
        intro k hk
        obtain ⟨i, hi1, hi2⟩ := hall k hk
        have := (rk i hi1).2.2.2.1
        rw [hi2, show nd (nI k) = k from nI_clamp (by omega)] at this
        unfold arF
        rw [this, r (1 + 3) (by decide)]
      have esp : sprF (arF τ) (s - 1) 1 (arF τ 0, arF τ 0) = sprF (fun k => E (nI k) 3 + σ (1 + 3) k * 65536) (s - 1) 1 (E (nI 0) 3 + σ (1 + 3) 0 * 65536, E (nI 0) 3 + σ (1 + 3) 0 * 65536) := by
        rw [ear 0 h0]
        exact spr_congr _ _ _ (fun k h1 h2 => ear k (by omega))
      rw [esp]
      refine kk _ lam' ⟨fun q hq => ?_, ?_, ?_, ?_, ?_, fun k hk => ?_⟩ ?_
      · rw [up_ne (by omega), r q hq]
      · rw [up_eq, upd_ne (by decide), r5]
      · rw [up_eq, upd_ne (by decide), r6]
      · rw [up_eq, upd_ne (by decide), r7]
      · rw [up_eq, upd_ne (by decide), r8]
      · rw [up_ne (by decide), up_ne (by decide), up_ne (by decide), up_ne (by decide)]
        exact rk k hk
      · rw [up_eq, upd_eq]
    | succ m ih =>
      intro i τ lam' x4 hi h1 hI
      obtain ⟨r, r5, r6, r7, r8, rk⟩ := hI
      have hin := (hN i (by omega)).in
      have hP := isP_of hW10 hin
      have lp := pp_lt (w := 10) hin
      have e1 : τ 1 = σ 1 := r 1 (by decide)
      have e9 : τ (1 + 8) = σ (1 + 8) := r 9 (by decide)
      have e7 : τ (1 + 6) = σ (1 + 6) := r 7 (by decide)
      have hNτ : hNode τ 1 (D.getD i 0) := (hNode_eq (congrFun e1 8) e7).mpr (hN i (by omega))
      have epof : pof τ 1 (D.getD i 0) = pof σ 1 (D.getD i 0) := by rw [pof_1 hNτ, pof_1 (hN i (by omega)), e9]
      obtain ⟨k, hk, ek⟩ := hpar i h1 (by omega)
      have hink := (hN k (by omega)).in
      rw [ek] at hink
      have hkn : nd (pof σ 1 (D.getD i 0)) ≠ nd (D.getD i 0) := fun e => by
        rw [← ek] at e
        have := hnd k i (by omega) (by omega) e
        omega
      refine st_go hK rfl rfl ?_
      refine st_go hK rfl rfl ?_
      refine st_geti hK rfl rfl ?_
      rw [r 10 (by decide), h4]
      refine st_if hK rfl rfl (fun c => absurd ((nI_leI (by omega) (by omega)).mp c) (by omega)) (fun _ => ?_)
      refine st_go hK rfl rfl ?_
      refine st_go hK rfl rfl ?_
      refine st_if hK rfl rfl (fun c => absurd (yle (a := 15) (i := i) (by decide) (by omega) c) (by omega)) (fun _ => ?_)
      refine st_go hK rfl rfl ?_
      refine st_getr hK rfl rfl ?_
      refine st_go hK rfl rfl ?_
      refine st_iald hK rfl rfl (cw_in_nI (n := 15) (by omega) (by decide)) ?_
      have erow : τ 14 = σ (10 + 4) := r 14 (by decide)
      rw [nI_clamp (by omega), erow, hl i (by omega)]
      refine st_go hK rfl rfl ?_
      refine st_go hK rfl rfl ?_
      refine st_go hK rfl rfl ?_
      refine st_go hK rfl rfl ?_
      refine cv1 hK rfl rfl (Nat.le_of_ble_eq_true rfl) ?_
      refine z_part hW10 hin ?_
      change K _ _ (_ :: _) _
      refine st_go hK rfl rfl ?_
      refine st_go hK rfl rfl ?_
      refine st_go hK rfl rfl ?_
      refine cv1 hK rfl rfl (Nat.le_of_ble_eq_true rfl) ?_
      refine z_parentOf' hT1 ?_
      change K _ _ (_ :: _) _
      rw [epof]
      refine cv3 hK rfl rfl (Nat.le_of_ble_eq_true rfl) ?_
      refine z_setChild hP hin hink hkn (fun τ1 hτ1 => ?_)
      change K _ _ _ _
      have epart : τ (pp 10 (D.getD i 0)) = σ (pp 10 (D.getD i 0)) := r _ (by omega)
      have hτ1 : scS τ τ1 (pp 10 (D.getD i 0)) (D.getD i 0) (pof σ 1 (D.getD i 0)) := hτ1
      obtain ⟨s0, s1, s2, s3, s4, s5, s6, s7⟩ := hτ1
      have hpne : pof σ 1 (D.getD i 0) ≠ -1 := fun e => by
        rw [← ek] at e
        exact hNode_pos (hN k (by omega)) e
      obtain ⟨g0, g1, g2, g3, g4⟩ := hE.2 _ (hN i (by omega)) hpne
      have ev := hU i (by omega)
      have rkk := rk k hk
      rw [ek] at rkk
      obtain ⟨k0, k1, k2, k3, k4⟩ := rkk
      have ecu : cuF τ (pp 10 (D.getD i 0)) (pof σ 1 (D.getD i 0)) = E (D.getD i 0) 0 := by
        unfold cuF
        rw [epart, k0, ev 0 (by decide) (by decide), ev 1 (by decide) (by decide), g0]
      have ecv : cvF τ (pp 10 (D.getD i 0)) (pof σ 1 (D.getD i 0)) = E (D.getD i 0) 1 := by
        unfold cvF
        rw [epart, k1, ev 2 (by decide) (by decide), ev 3 (by decide) (by decide), g1]
      have ecl : clF τ (pp 10 (D.getD i 0)) (pof σ 1 (D.getD i 0)) = E (D.getD i 0) 2 := by
        unfold clF
        rw [ecu, ecv, epart, k0, k1, hwr i h1 (by omega), g2]
      have epa : τ 34 (nd (pof σ 1 (D.getD i 0))) + τ (pp 10 (D.getD i 0)) 6 = E (D.getD i 0) 3 := by rw [k3, epart, hwr i h1 (by omega), g3]
      have edl : lam' (nd (pof σ 1 (D.getD i 0))) + dlF (τ (pp 10 (D.getD i 0)) 6) (τ (pp 10 (D.getD i 0))) = Ed (D.getD i 0) := by rw [k4, epart, hwr i h1 (by omega), dl_congr ev, g4]
      refine st_go hK rfl rfl ?_
      refine st_go hK rfl rfl ?_
      have := ih (i + 1) τ1 (vp_updL lam' (nd (D.getD i 0)) (lam' (nd (pof σ 1 (D.getD i 0))) + dlF (τ (pp 10 (D.getD i 0)) 6) (τ (pp 10 (D.getD i 0))))) (some (.int (D.getD i 0))) (by omega) (by omega) ⟨fun q hq => ?_, ?_, ?_, ?_, ?_, fun k' hk' => ?_⟩
      · rw [← nI_1] at this
        exact this
      · rw [s0 q (by omega) (by omega) (by omega) (by omega) (by omega), r q hq]
      · rw [s7 5 (by decide) (by decide), r5]
      · rw [s7 6 (by decide) (by decide), r6]
      · rw [s5, r7, ecl]
        obtain ⟨z, rfl⟩ : ∃ z, i = z + 1 := ⟨i - 1, by omega⟩
        rfl
      · rw [s6, r8, ecl]
        obtain ⟨z, rfl⟩ : ∃ z, i = z + 1 := ⟨i - 1, by omega⟩
        rfl
      · rw [s1, s2, s3, s4, ecu, ecv, ecl, epa, edl]
        by_cases e : k' = i
        · subst e
          exact ⟨upd_eq, upd_eq, upd_eq, upd_eq, updL_eq⟩
        · have hne : nd (D.getD k' 0) ≠ nd (D.getD i 0) := fun z => e (hnd k' i (by omega) (by omega) z)
          rw [upd_ne hne, upd_ne hne, upd_ne hne, upd_ne hne, updL_ne hne]
          exact rk k' (by omega)
  have hn0 := hN 0 hpos
  have hin0 := hn0.in
  have lp0 := pp_lt (w := 10) hin0
  refine st_go hK rfl rfl ?_
  refine st_go hK rfl rfl ?_
  refine st_geti hK rfl rfl ?_
  rw [h5]
  refine st_go hK rfl rfl ?_
  refine st_if hK rfl rfl (fun c => absurd rfl c) (fun _ => ?_)
  refine st_go hK rfl rfl ?_
  refine st_go hK rfl rfl ?_
  refine st_put hK rfl rfl rfl ?_
  refine st_go hK rfl rfl ?_
  refine st_geti hK rfl rfl ?_
  rw [up_eq, upd_eq]
  refine st_if hK rfl rfl (fun _ => ?_) (fun c => absurd (by decide) c)
  refine st_go hK rfl rfl ?_
  refine st_go hK rfl rfl ?_
  refine st_put hK rfl rfl rfl ?_
  refine st_go hK rfl rfl ?_
  refine st_go hK rfl rfl ?_
  refine st_put hK rfl rfl rfl ?_
  refine st_go hK rfl rfl ?_
  refine st_go hK rfl rfl ?_
  refine st_go hK rfl rfl ?_
  refine st_go hK rfl rfl ?_
  refine st_getr hK rfl rfl ?_
  refine st_go hK rfl rfl ?_
  refine st_iald hK rfl rfl (by decide) ?_
  have e0 : cw_up (cw_up (cw_up σ 30 5 1) 30 7 0) 30 8 0 14 (0 : Int32).toNatClampNeg = D.getD 0 0 := by
    rw [up_ne (by decide), up_ne (by decide), up_ne (by decide)]
    exact hl 0 hpos
  rw [e0]
  generalize eτ : cw_up (cw_up (cw_up σ 30 5 1) 30 7 0) 30 8 0 = τ0
  have t0 : ∀ q, q ≠ 30 → τ0 q = σ q := fun q hq => by rw [← eτ, up_ne hq, up_ne hq, up_ne hq]
  have t5 : τ0 30 5 = 1 := by rw [← eτ, up_eq, up_eq, up_eq, upd_ne (by decide), upd_ne (by decide), upd_eq]
  have t7 : τ0 30 7 = 0 := by rw [← eτ, up_eq, up_eq, up_eq, upd_ne (by decide), upd_eq]
  have t8 : τ0 30 8 = 0 := by rw [← eτ, up_eq, upd_eq]
  refine cv3 hK rfl rfl (Nat.le_of_ble_eq_true rfl) ?_
  refine z_setTop ((hNode_eq (congrFun (t0 1 (by decide)) 8) (t0 7 (by decide))).mpr hn0) ?_
  change K _ _ _ _
  refine st_go hK rfl rfl ?_
  refine st_go hK rfl rfl ?_
  have ev := hU 0 hpos
  have epart : τ0 (pp 10 (D.getD 0 0)) = σ (pp 10 (D.getD 0 0)) := t0 _ (by omega)
  have esu : suF τ0 = suF σ := by unfold suF; rw [t0 1 (by decide)]
  have esv : svF' τ0 = svF' σ := by unfold svF'; rw [t0 1 (by decide)]
  obtain ⟨g0, g1, g2, g3, g4⟩ := hE.1
  have eu : u0F τ0 (pp 10 (D.getD 0 0)) = E (D.getD 0 0) 0 := by
    unfold u0F
    rw [esu, epart, ev 0 (by decide) (by decide), ev 1 (by decide) (by decide), g0]
  have evv : v0F τ0 (pp 10 (D.getD 0 0)) = E (D.getD 0 0) 1 := by
    unfold v0F
    rw [esv, epart, ev 2 (by decide) (by decide), ev 3 (by decide) (by decide), g1]
  have etr : trF τ0 (pp 10 (D.getD 0 0)) = E (D.getD 0 0) 3 := by
    unfold trF
    rw [esu, esv, eu, evv, g3]
  have edl : dlF (E (D.getD 0 0) 3) (τ0 (pp 10 (D.getD 0 0))) = Ed (D.getD 0 0) := by rw [epart, dl_congr ev, g4]
  unfold stS
  rw [eu, evv, etr, edl]
  refine loop (D.length - 1) 1 _ _ none (by omega) (Nat.le_refl 1) ⟨fun q hq => ?_, ?_, ?_, ?_, ?_, fun k hk => ?_⟩
  · rw [up_ne (by omega), up_ne (by omega), up_ne (by omega), up_ne (by omega), up_ne (by omega), t0 q (by omega)]
  · rw [up_ne (by decide), up_eq, upd_ne (by decide), up_ne (by decide), up_ne (by decide), up_ne (by decide), t5]
  · rw [up_ne (by decide), up_eq, upd_eq]
  · rw [up_ne (by decide), up_eq, upd_ne (by decide), up_ne (by decide), up_ne (by decide), up_ne (by decide), t7]
    rfl
  · rw [up_ne (by decide), up_eq, upd_ne (by decide), up_ne (by decide), up_ne (by decide), up_ne (by decide), t8]
    rfl
  · have : k = 0 := by omega
    subst this
    refine ⟨?_, ?_, ?_, ?_, updL_eq⟩
    · rw [up_ne (by decide), up_ne (by decide), up_ne (by decide), up_ne (by decide), up_eq, upd_eq]
    · rw [up_ne (by decide), up_ne (by decide), up_ne (by decide), up_eq, upd_eq]
    · rw [up_ne (by decide), up_ne (by decide), up_eq, upd_eq, g2]
    · rw [up_eq, upd_eq]
end
end
section
/-! HISTORY -/
/-- the tree at t in τ is that at u in σ -/
def TE (τ : cw_V) (t : Nat) (σ : cw_V) (u : Nat) : Prop := (∀ i, 1 ≤ i → i ≤ 5 → ∀ j, j < 8 → τ (t + i) j = σ (u + i) j) ∧ (∀ i, 6 ≤ i → i ≤ 8 → ∀ j, j < 15 → τ (t + i) j = σ (u + i) j) ∧ ∀ k, 8 ≤ k → k ≤ 11 → τ t k = σ u k
theorem isT_s {i : Nat} (h : i < 8) : isT (68 + 9 * i) := Or.inr (Or.inr ⟨i, h, rfl⟩)
section
variable {d : Nat} {σ : cw_V} {lam : Nat → Int64} {Q : cw_Q} {nx c : Nat}
theorem rem8 {a : Nat} (h : a < 2 ^ 31) : nI a - nI a / 8 * 8 = nI (a % 8) := pk_rem (a := a) (d := 8) h (by decide) (by decide)
def SV (σ τ : cw_V) (nx c : Nat) : Prop := (∀ p, p ≠ 66 → (p < 68 + 9 * nx ∨ 68 + 9 * nx + 8 < p) → τ p = σ p) ∧ TE τ (68 + 9 * nx) σ 1 ∧ τ 66 1 = nI ((nx + 1) % 8) ∧ τ 66 2 = nI (if c = 8 then 8 else c + 1)
theorem z_save (h66 : σ 66 1 = nI nx) (hn : nx < 8) (h662 : σ 66 2 = nI c) (hc : c ≤ 8) (kk : ∀ τ, SV σ τ nx c → Q none (cw_B τ lam)) : cw_Z (d + 2) m_History_save [.ref 66, .ref 1] (cw_B σ lam) Q := by
  refine zi (L := [some (.ref 66), some (.ref 1)]) rfl rfl (fun K hK => ?_)
  refine st_go hK rfl rfl ?_
  refine st_geti hK rfl rfl ?_
  rw [h66]
  refine st_if hK rfl rfl (fun c4 => ?_) (fun c4 => ?_)
  · refine st_ret hK rfl rfl ?_
    exfalso
    first | exact nI_pos (by omega) c4 | exact c13 ((lit_lt (a := 8) (by decide) (by omega)).mpr hn)
  · refine st_go hK rfl rfl ?_
    refine st_geti hK rfl rfl ?_
    rw [h66]
    refine st_go hK rfl rfl ?_
    refine st_if hK rfl rfl (fun c13 => ?_) (fun c13 => ?_)
    · refine st_go hK rfl rfl ?_
      refine st_getr hK rfl rfl ?_
      refine st_go hK rfl rfl ?_
      refine st_geti hK rfl rfl ?_
      rw [h66]
      refine st_aald hK rfl rfl (by decide) (cw_in_nI (n := 8) hn (by decide)) ?_
      refine st_go hK rfl rfl ?_
      rw [nI_clamp (by omega)]
      refine cv1 hK rfl (Tree_c (isT_s hn)) (Nat.le_of_ble_eq_true rfl) ?_
      refine z_copyFrom (isT_s hn) hT1 (by omega) (fun σ1 h1 => ?_)
      change K _ _ _ _
      refine st_go hK rfl rfl ?_
      refine st_go hK rfl rfl ?_
      refine st_geti hK rfl rfl ?_
      have e66 : σ1 66 1 = nI nx := by rw [h1.1 66 (by omega), h66]
      rw [e66]
      refine st_go hK rfl rfl ?_
      refine st_bin hK rfl ?_
      refine st_go hK rfl rfl ?_
      refine st_div hK rfl (by decide) ?_
      refine st_put hK rfl rfl rfl ?_
      refine st_go hK rfl rfl ?_
      refine st_go hK rfl rfl ?_
      refine st_geti hK rfl rfl ?_
      have e67 : ∀ x, cw_up σ1 66 1 x 66 2 = nI c := fun x => by rw [up_eq, upd_ne (by decide), h1.1 66 (by omega), h662]
      rw [e67]
      refine st_go hK rfl rfl ?_
      refine st_bin hK rfl ?_
      refine st_go hK rfl rfl ?_
      refine st_min hK rfl (Nat.le_of_ble_eq_true rfl) ?_
      refine st_put hK rfl rfl rfl ?_
      refine st_ret hK rfl rfl ?_
      have e1 : nI nx + 1 - (nI nx + 1) / 8 * 8 = nI ((nx + 1) % 8) := by rw [nI_1, rem8 (by omega)]
      have e2 : (if (8 : Int32) < nI c + 1 then (8 : Int32) else nI c + 1) = nI (if c = 8 then 8 else c + 1) := by
        rw [nI_1]
        by_cases z : c = 8
        · rw [if_pos z, if_pos (show (8 : Int32) < nI (c + 1) from nI_lt (a := 8) (b := c + 1) (by omega) (by omega))]
          rfl
        · rw [if_neg z, if_neg (show ¬ (8 : Int32) < nI (c + 1) from nI_nlt (a := 8) (b := c + 1) (by omega) (by decide))]
      rw [e1, e2]
      obtain ⟨q0, q1, q2, q3⟩ := h1
      refine kk _ ⟨fun p p1 p2 => ?_, ⟨fun i i1 i5 j hj => ?_, fun i i1 i5 j hj => ?_, fun k k1 k2 => ?_⟩, ?_, ?_⟩
      · rw [up_ne p1, up_ne p1, q0 p p2]
      · rw [up_ne (by omega), up_ne (by omega), q1 i i1 i5 j hj]
      · rw [up_ne (by omega), up_ne (by omega), q2 i i1 i5 j hj]
      · rw [up_ne (by omega), up_ne (by omega), q3 k k1 k2]
      · rw [up_eq, upd_ne (by decide), up_eq, upd_eq]
      · rw [up_eq, upd_eq]
    · refine st_ret hK rfl rfl ?_
      exfalso
      first | exact nI_pos (by omega) c4 | exact c13 ((lit_lt (a := 8) (by decide) (by omega)).mpr hn)
def RS (σ τ : cw_V) (nx c : Nat) : Prop := (∀ p, p ≠ 66 → (p < 1 ∨ 9 < p) → τ p = σ p) ∧ TE τ 1 σ (68 + 9 * ((nx + 7) % 8)) ∧ τ 66 1 = nI ((nx + 7) % 8) ∧ τ 66 2 = nI (c - 1)
theorem z_restore (h66 : σ 66 1 = nI nx) (hn : nx < 8) (h662 : σ 66 2 = nI c) (hc : c ≤ 8) (hc0 : 0 < c) (kk : ∀ τ, RS σ τ nx c → Q none (cw_B τ lam)) : cw_Z (d + 2) m_History_restore [.ref 66, .ref 1] (cw_B σ lam) Q := by
  have hm : (nx + 7) % 8 < 8 := Nat.mod_lt _ (by decide)
  refine zi (L := [some (.ref 66), some (.ref 1)]) rfl rfl (fun K hK => ?_)
  refine st_go hK rfl rfl ?_
  refine st_geti hK rfl rfl ?_
  rw [h662]
  refine st_if hK rfl rfl (fun c4 => ?_) (fun c4 => ?_)
  · refine st_ret hK rfl rfl ?_
    exfalso
    first | exact nI_nle (by omega) (by omega) c4 | exact c11 (nI_pos' (by omega))
  · refine st_go hK rfl rfl ?_
    refine st_geti hK rfl rfl ?_
    rw [h66]
    refine st_if hK rfl rfl (fun c11 => ?_) (fun c11 => ?_)
    · refine st_go hK rfl rfl ?_
      refine st_go hK rfl rfl ?_
      refine st_geti hK rfl rfl ?_
      rw [h66]
      refine st_go hK rfl rfl ?_
      refine st_bin hK rfl ?_
      refine st_go hK rfl rfl ?_
      refine st_bin hK rfl ?_
      refine st_go hK rfl rfl ?_
      refine st_div hK rfl (by decide) ?_
      refine st_put hK rfl rfl rfl ?_
      refine st_go hK rfl rfl ?_
      refine st_go hK rfl rfl ?_
      refine st_getr hK rfl rfl ?_
      refine st_go hK rfl rfl ?_
      refine st_geti hK rfl rfl ?_
      have e66 : cw_up σ 66 1 (nI nx + 8 - 1 - (nI nx + 8 - 1) / 8 * 8) 66 1 = nI ((nx + 7) % 8) := by rw [up_eq, upd_eq, show nI nx + 8 = nI (nx + 8) from nI_add nx 8, show nx + 8 = nx + 7 + 1 by omega, nI_pred, rem8 (by omega)]
      rw [e66]
      refine st_aald hK rfl rfl (by decide) (cw_in_nI (n := 8) (Nat.mod_lt _ (by decide)) (by decide)) ?_
      rw [nI_clamp (show (nx + 7) % 8 < 2 ^ 31 by omega)]
      refine cv1 hK rfl (Tree_c hT1) (Nat.le_of_ble_eq_true rfl) ?_
      refine z_copyFrom hT1 (isT_s (Nat.mod_lt _ (by decide))) (by omega) (fun σ1 h1 => ?_)
      change K _ _ _ _
      refine st_go hK rfl rfl ?_
      refine st_go hK rfl rfl ?_
      refine st_geti hK rfl rfl ?_
      have e67 : σ1 66 2 = nI c := by rw [h1.1 66 (by omega), up_eq, upd_ne (by decide), h662]
      rw [e67]
      refine st_go hK rfl rfl ?_
      refine st_bin hK rfl ?_
      refine st_put hK rfl rfl rfl ?_
      refine st_ret hK rfl rfl ?_
      have e1 : nI c - 1 = nI (c - 1) := by
        obtain ⟨z, rfl⟩ : ∃ z, c = z + 1 := ⟨c - 1, by omega⟩
        rw [nI_pred]
        rfl
      rw [e1]
      obtain ⟨q0, q1, q2, q3⟩ := h1
      refine kk _ ⟨fun p p1 p2 => ?_, ⟨fun i i1 i5 j hj => ?_, fun i i1 i5 j hj => ?_, fun k k1 k2 => ?_⟩, ?_, ?_⟩
      · rw [up_ne p1, q0 p (by omega), up_ne p1]
      · rw [up_ne (by omega), q1 i i1 i5 j hj, up_ne (by omega)]
      · rw [up_ne (by omega), q2 i i1 i5 j hj, up_ne (by omega)]
      · rw [up_ne (by omega), q3 k k1 k2, up_ne (by omega)]
      · rw [up_eq, upd_ne (by decide), q0 66 (by omega)]
        exact e66
      · rw [up_eq, upd_eq]
    · refine st_ret hK rfl rfl ?_
      exfalso
      first | exact nI_nle (by omega) (by omega) c4 | exact c11 (nI_pos' (by omega))
end
end
section
/-! TREES, PURE -/
theorem php : ∀ (n m : Nat) (f : Nat → Nat), (∀ k, k < m → f k < n) → (∀ k k', k < m → k' < m → f k = f k' → k = k') → m ≤ n
  | 0, m, f, hb, _ => by
    rcases Nat.eq_zero_or_pos m with h | h
    · omega
    · exact absurd (hb 0 h) (by omega)
  | n + 1, 0, _, _, _ => by omega
  | n + 1, m + 1, f, hb, hi => by
    have : m ≤ n := by
      refine php n m (fun k => if f k = n then f m else f k) (fun k hk => ?_) (fun k k' hk hk' e => ?_)
      · show (if f k = n then f m else f k) < n
        by_cases h : f k = n
        · rw [if_pos h]
          have h1 := hb m (by omega)
          have h2 : f m ≠ n := fun z => by
            have := hi k m (by omega) (by omega) (h.trans z.symm)
            omega
          omega
        · rw [if_neg h]
          have := hb k (by omega)
          omega
      · have e : (if f k = n then f m else f k) = (if f k' = n then f m else f k') := e
        by_cases h : f k = n
        · rw [if_pos h] at e
          by_cases h' : f k' = n
          · exact hi k k' (by omega) (by omega) (h.trans h'.symm)
          · rw [if_neg h'] at e
            have := hi m k' (by omega) (by omega) e
            omega
        · rw [if_neg h] at e
          by_cases h' : f k' = n
          · rw [if_pos h'] at e
            have := hi k m (by omega) (by omega) e
            omega
          · rw [if_neg h'] at e
            exact hi k k' (by omega) (by omega) e
    omega
theorem nI_inj {a b : Nat} (ha : a < 2 ^ 31) (hb : b < 2 ^ 31) (e : nI a = nI b) : a = b := (nI_eq ha hb).mp e
/-- there is a node n: a sink below s, or a joint -/
def nodeN (s : Nat) (lf : Nat → Int32) (n : Nat) : Prop := n < s ∨ (8 ≤ n ∧ n < 15 ∧ lf n ≠ -1)
/-- a forest: what is not there is empty; children and joints agree; depths -/
def WFt (s : Nat) (lf rt pa : Nat → Int32) : Prop := s ≤ 8 ∧ (∀ n, n < 15 → (n < 8 ∨ lf n = -1) → lf n = -1 ∧ rt n = -1) ∧ (∀ n, n < 15 → ¬ nodeN s lf n → pa n = -1) ∧
  (∀ j, 8 ≤ j → j < 15 → lf j ≠ -1 → ∃ a b, lf j = nI a ∧ rt j = nI b ∧ nodeN s lf a ∧ nodeN s lf b ∧ a ≠ b ∧ pa a = nI j ∧ pa b = nI j) ∧
  (∀ n, nodeN s lf n → pa n ≠ -1 → ∃ j, 8 ≤ j ∧ j < 15 ∧ pa n = nI j ∧ (lf j = nI n ∨ rt j = nI n)) ∧
  ∃ ρ : Nat → Nat, ∀ n, nodeN s lf n → (pa n = -1 → ρ n = 0) ∧ ∀ j, j < 15 → pa n = nI j → ρ n = ρ j + 1
section
variable {s : Nat} {lf rt pa : Nat → Int32}
theorem nodeN.lt {n : Nat} (h : nodeN s lf n) (hs : s ≤ 8) : n < 15 := by
  rcases h with h | h <;> omega
theorem WFt.lt (h : WFt s lf rt pa) {n : Nat} (hn : nodeN s lf n) : n < 15 := hn.lt h.1
/-- the joint above a node that is no top -/
theorem WFt.up (h : WFt s lf rt pa) {n : Nat} (hn : nodeN s lf n) (hp : pa n ≠ -1) : ∃ j, 8 ≤ j ∧ j < 15 ∧ pa n = nI j ∧ lf j ≠ -1 ∧ nodeN s lf j ∧ (lf j = nI n ∨ rt j = nI n) := by
  obtain ⟨j, h1, h2, h3, h4⟩ := h.2.2.2.2.1 n hn hp
  have hlt := h.lt hn
  have hl : lf j ≠ -1 := by
    intro e
    have h5 := h.2.1 j h2 (Or.inr e)
    rcases h4 with h4 | h4
    · exact nI_ne1 (by omega) (h4.symm.trans h5.1)
    · exact nI_ne1 (by omega) (h4.symm.trans h5.2)
  exact ⟨j, h1, h2, h3, hl, Or.inr ⟨h1, h2, hl⟩, h4⟩
/-- a joint's children -/
theorem WFt.dn (h : WFt s lf rt pa) {j : Nat} (h1 : 8 ≤ j) (h2 : j < 15) (hl : lf j ≠ -1) : ∃ a b, lf j = nI a ∧ rt j = nI b ∧ nodeN s lf a ∧ nodeN s lf b ∧ a ≠ b ∧ pa a = nI j ∧ pa b = nI j := h.2.2.2.1 j h1 h2 hl
/-- going up i times, as long as there is something -/
def upN (pa : Nat → Int32) : Nat → Nat → Nat
  | 0, n => n
  | i + 1, n => upN pa i (pa n).toNatClampNeg
theorem upN_s {i n : Nat} : upN pa (i + 1) n = upN pa i (pa n).toNatClampNeg := rfl
/-- depths are below 8 -/
theorem WFt.anc (h : WFt s lf rt pa) {ρ : Nat → Nat} (hρ : ∀ n, nodeN s lf n → (pa n = -1 → ρ n = 0) ∧ ∀ j, j < 15 → pa n = nI j → ρ n = ρ j + 1) : ∀ (i n : Nat), nodeN s lf n → i ≤ ρ n → nodeN s lf (upN pa i n) ∧ ρ (upN pa i n) + i = ρ n ∧ (0 < i → 8 ≤ upN pa i n)
  | 0, n, hn, hi => ⟨hn, rfl, fun z => absurd z (by omega)⟩
  | i + 1, n, hn, hi => by
    have hp : pa n ≠ -1 := fun e => by
      have := (hρ n hn).1 e
      omega
    obtain ⟨j, j1, j2, j3, j4, j5, j6⟩ := h.up hn hp
    have e := (hρ n hn).2 j j2 j3
    rw [upN_s, j3, nI_clamp (by omega)]
    obtain ⟨q1, q2, q3⟩ := WFt.anc h hρ i j j5 (by omega)
    refine ⟨q1, by omega, fun _ => ?_⟩
    rcases Nat.eq_zero_or_pos i with z | z
    · subst z
      exact j1
    · exact q3 z
theorem WFt.depth (h : WFt s lf rt pa) {ρ : Nat → Nat} (hρ : ∀ n, nodeN s lf n → (pa n = -1 → ρ n = 0) ∧ ∀ j, j < 15 → pa n = nI j → ρ n = ρ j + 1) {n : Nat} (hn : nodeN s lf n) : ρ n ≤ 7 := by
  refine php 7 (ρ n) (fun i => upN pa (i + 1) n - 8) (fun k hk => ?_) (fun k k' hk hk' e => ?_)
  · obtain ⟨q1, q2, q3⟩ := h.anc hρ (k + 1) n hn (by omega)
    have := h.lt q1
    have := q3 (by omega)
    show upN pa (k + 1) n - 8 < 7
    omega
  · obtain ⟨q1, q2, q3⟩ := h.anc hρ (k + 1) n hn (by omega)
    obtain ⟨r1, r2, r3⟩ := h.anc hρ (k' + 1) n hn (by omega)
    have e : upN pa (k + 1) n - 8 = upN pa (k' + 1) n - 8 := e
    have := q3 (by omega)
    have := r3 (by omega)
    have e2 : upN pa (k + 1) n = upN pa (k' + 1) n := by omega
    rw [e2] at q2
    omega
/-- a free joint, where there are two tops -/
theorem WFt.free (h : WFt s lf rt pa) {a b : Nat} (ha : nodeN s lf a) (hb : nodeN s lf b) (hab : a ≠ b) (pa_a : pa a = -1) (pa_b : pa b = -1) : ∃ j, isF lf j := by
  have hex : ∃ j, 8 ≤ j ∧ j < 15 ∧ lf j = -1 := by
    apply Classical.byContradiction
    intro hno
    have hall : ∀ j, 8 ≤ j → j < 15 → lf j ≠ -1 := fun j h1 h2 e => hno ⟨j, h1, h2, e⟩
    have hch : ∀ k, k < 14 → ∃ c, nodeN s lf c ∧ pa c = nI (8 + k / 2) ∧ (if k % 2 = 0 then lf (8 + k / 2) else rt (8 + k / 2)) = nI c := by
      intro k hk
      obtain ⟨x, y, e1, e2, n1, n2, n3, p1, p2⟩ := h.dn (j := 8 + k / 2) (by omega) (by omega) (hall _ (by omega) (by omega))
      by_cases hz : k % 2 = 0
      · exact ⟨x, n1, p1, by rw [if_pos hz]; exact e1⟩
      · exact ⟨y, n2, p2, by rw [if_neg hz]; exact e2⟩
    have hf : ∃ f : Nat → Nat, ∀ k, k < 14 → nodeN s lf (f k) ∧ pa (f k) = nI (8 + k / 2) ∧ (if k % 2 = 0 then lf (8 + k / 2) else rt (8 + k / 2)) = nI (f k) :=
      ⟨fun k => if hk : k < 14 then (hch k hk).choose else 0, fun k hk => by
        show nodeN s lf (if hk : k < 14 then (hch k hk).choose else 0) ∧ pa (if hk : k < 14 then (hch k hk).choose else 0) = _ ∧ _ = nI (if hk : k < 14 then (hch k hk).choose else 0)
        rw [dif_pos hk]
        exact (hch k hk).choose_spec⟩
    obtain ⟨f, hf⟩ := hf
    have := php 15 16 (fun k => if k < 14 then f k else if k = 14 then a else b) (fun k hk => ?_) (fun k k' hk hk' e => ?_)
    · omega
    · show (if k < 14 then f k else if k = 14 then a else b) < 15
      split
      · rename_i z
        exact h.lt (hf k z).1
      · split
        · exact h.lt ha
        · exact h.lt hb
    · have e : (if k < 14 then f k else if k = 14 then a else b) = (if k' < 14 then f k' else if k' = 14 then a else b) := e
      have key : ∀ k, k < 14 → f k ≠ a ∧ f k ≠ b := fun k hk => by
        have := (hf k hk).2.1
        refine ⟨fun z => ?_, fun z => ?_⟩
        · rw [z, pa_a] at this
          exact nI_ne1 (by omega) this.symm
        · rw [z, pa_b] at this
          exact nI_ne1 (by omega) this.symm
      by_cases z : k < 14
      · rw [if_pos z] at e
        by_cases z' : k' < 14
        · rw [if_pos z'] at e
          obtain ⟨u1, u2, u3⟩ := hf k z
          obtain ⟨v1, v2, v3⟩ := hf k' z'
          rw [e] at u2 u3
          have e2 : 8 + k / 2 = 8 + k' / 2 := nI_inj (by omega) (by omega) (u2.symm.trans v2)
          have e3 : k / 2 = k' / 2 := by omega
          rw [e2] at u3
          obtain ⟨x, y, e1, e4, n1, n2, n3, p1, p2⟩ := h.dn (j := 8 + k' / 2) (by omega) (by omega) (hall _ (by omega) (by omega))
          rw [e1, e4] at u3 v3
          by_cases w : k % 2 = 0
          · by_cases w' : k' % 2 = 0
            · omega
            · rw [if_pos w] at u3
              rw [if_neg w'] at v3
              exact absurd (nI_inj (by have := h.lt n1; omega) (by have := h.lt n2; omega) (u3.trans v3.symm)) n3
          · by_cases w' : k' % 2 = 0
            · rw [if_neg w] at u3
              rw [if_pos w'] at v3
              exact absurd (nI_inj (by have := h.lt n1; omega) (by have := h.lt n2; omega) (v3.trans u3.symm)) n3
            · omega
        · rw [if_neg z'] at e
          by_cases w : k' = 14
          · rw [if_pos w] at e
            exact absurd e (key k z).1
          · rw [if_neg w] at e
            exact absurd e (key k z).2
      · rw [if_neg z] at e
        by_cases z' : k' < 14
        · rw [if_pos z'] at e
          by_cases w : k = 14
          · rw [if_pos w] at e
            exact absurd e.symm (key k' z').1
          · rw [if_neg w] at e
            exact absurd e.symm (key k' z').2
        · rw [if_neg z'] at e
          by_cases w : k = 14
          · by_cases w' : k' = 14
            · omega
            · rw [if_pos w, if_neg w'] at e
              exact absurd e hab
          · by_cases w' : k' = 14
            · rw [if_neg w, if_pos w'] at e
              exact absurd e.symm hab
            · omega
  obtain ⟨j, hj, hmin⟩ := pk_least (fun j => 8 ≤ j ∧ j < 15 ∧ lf j = -1) hex
  exact ⟨j, ⟨hj.1, hj.2.1⟩, hj.2.2, fun i h1 h2 e => hmin i h2 ⟨h1, by omega, e⟩⟩
end
end
section
/-! THE LIST OF A FOREST IS GOOD -/
def WF (σ : cw_V) (t s : Nat) : Prop := σ t 8 = nI s ∧ WFt s (σ (t + 6)) (σ (t + 7)) (σ (t + 8))
theorem gd_l {D X : List Int32} {k : Nat} (h : k < D.length) : (D ++ X).getD k 0 = D.getD k 0 := by
  rw [List.getD_eq_getElem?_getD, List.getD_eq_getElem?_getD, List.getElem?_append_left h]
theorem gd_0 {D : List Int32} {x y : Int32} : (D ++ [x, y]).getD D.length 0 = x := by
  rw [List.getD_eq_getElem?_getD, List.getElem?_append_right (Nat.le_refl _)]
  simp
theorem gd_1 {D : List Int32} {x y : Int32} : (D ++ [x, y]).getD (D.length + 1) 0 = y := by
  rw [List.getD_eq_getElem?_getD, List.getElem?_append_right (by omega)]
  simp
theorem gd_z {D : List Int32} {x : Int32} : (D ++ [x]).getD D.length 0 = x := by
  rw [List.getD_eq_getElem?_getD, List.getElem?_append_right (Nat.le_refl _)]
  simp
section
variable {σ : cw_V} {t s : Nat}
theorem hNode_N (h8 : σ t 8 = nI s) (hs : s ≤ 8) {m : Int32} : hNode σ t m ↔ ∃ n, n < 15 ∧ m = nI n ∧ nodeN s (σ (t + 6)) n := by
  constructor
  · rintro ⟨h1, h2, h3⟩
    have e0 : (0 : Int32).toInt = 0 := by decide
    have e15 : (15 : Int32).toInt = 15 := by decide
    have e8 : (8 : Int32).toInt = 8 := by decide
    obtain ⟨n, hn, rfl⟩ := nI_of (Int32.not_lt.mpr h1)
    have hn15 : n < 15 := (lit_lt (a := 15) (by decide) hn).mp h2
    refine ⟨n, hn15, rfl, ?_⟩
    rcases h3 with h3 | h3
    · rw [h8] at h3
      exact Or.inl ((nI_ltI (by omega) (by omega)).mp h3.2)
    · rw [nI_clamp hn] at h3
      exact Or.inr ⟨(lit_le (a := 8) (by decide) hn).mp h3.1, hn15, h3.2⟩
  · rintro ⟨n, hn, rfl, hN⟩
    refine ⟨nI_pos' (by omega), (lit_lt (a := 15) (by decide) (by omega)).mpr hn, ?_⟩
    rcases hN with h | h
    · refine Or.inl ⟨(lit_lt (a := 8) (by decide) (by omega)).mpr (by omega), ?_⟩
      rw [h8]
      exact nI_lt h (by omega)
    · refine Or.inr ⟨(lit_le (a := 8) (by decide) (by omega)).mpr h.1, ?_⟩
      rw [nI_clamp (by omega)]
      exact h.2.2
theorem WF.node (h : WF σ t s) {n : Nat} (hn : nodeN s (σ (t + 6)) n) : hNode σ t (nI n) := (hNode_N h.1 h.2.1).mpr ⟨n, h.2.lt hn, rfl, hn⟩
theorem WF.nn (h : WF σ t s) {m : Int32} (hm : hNode σ t m) : ∃ n, n < 15 ∧ m = nI n ∧ nodeN s (σ (t + 6)) n := (hNode_N h.1 h.2.1).mp hm
theorem WF.joint (h : WF σ t s) {m : Int32} (hm : hJoint σ t m) : ∃ n, 8 ≤ n ∧ n < 15 ∧ m = nI n ∧ σ (t + 6) n ≠ -1 := by
  obtain ⟨n, hn, rfl, hN⟩ := h.nn hm.node
  have h1 := hm.1
  have h2 : 8 ≤ n := (lit_le (a := 8) (by decide) (by omega)).mp h1
  exact ⟨n, h2, hn, rfl, (hJoint_nI h2 hn).mp hm⟩
theorem WF.top (h : WF σ t s) {n : Nat} (hn : n < 15) : hTop σ t (nI n) ↔ nodeN s (σ (t + 6)) n ∧ σ (t + 8) n = -1 := by
  unfold hTop
  rw [nI_clamp (by omega)]
  constructor
  · rintro ⟨h1, h2⟩
    obtain ⟨n', hn', e, hN⟩ := h.nn h1
    cases nI_inj (by omega) (by omega) e
    exact ⟨hN, h2⟩
  · rintro ⟨h1, h2⟩
    exact ⟨h.node h1, h2⟩
/-- the tops: ascending, complete -/
theorem tl_ok (h : WF σ t s) : ∀ m, m ≤ 15 → (∀ k, k < (tlF σ t m).length → ∃ n, n < m ∧ (tlF σ t m).getD k 0 = nI n ∧ nodeN s (σ (t + 6)) n ∧ σ (t + 8) n = -1) ∧ (∀ k k', k < (tlF σ t m).length → k' < (tlF σ t m).length → (tlF σ t m).getD k 0 = (tlF σ t m).getD k' 0 → k = k') ∧ (∀ n, n < m → nodeN s (σ (t + 6)) n → σ (t + 8) n = -1 → ∃ k, k < (tlF σ t m).length ∧ (tlF σ t m).getD k 0 = nI n)
  | 0, _ => ⟨fun k hk => absurd hk (Nat.not_lt_zero k), fun k k' hk => absurd hk (Nat.not_lt_zero k), fun n hn => absurd hn (Nat.not_lt_zero n)⟩
  | m + 1, hm => by
    obtain ⟨i1, i2, i3⟩ := tl_ok h m (by omega)
    cases e : topB σ t m with
    | false =>
      have e2 : tlF σ t (m + 1) = tlF σ t m := by
        show (bif topB σ t m then _ else _) = _
        rw [e]
        rfl
      rw [e2]
      refine ⟨fun k hk => ?_, i2, fun n hn h1 h2 => ?_⟩
      · obtain ⟨n, a, b⟩ := i1 k hk
        exact ⟨n, by omega, b⟩
      · rcases Nat.lt_or_ge n m with z | z
        · exact i3 n z h1 h2
        · have : n = m := by omega
          subst this
          have := (topB_iff (by omega)).mpr ((h.top (by omega)).mpr ⟨h1, h2⟩)
          rw [e] at this
          cases this
    | true =>
      have e2 : tlF σ t (m + 1) = tlF σ t m ++ [nI m] := by
        show (bif topB σ t m then _ else _) = _
        rw [e]
        rfl
      have ht := (h.top (by omega)).mp ((topB_iff (by omega)).mp e)
      rw [e2]
      have hlen : (tlF σ t m ++ [nI m]).length = (tlF σ t m).length + 1 := by simp
      have last : ∀ k, k < (tlF σ t m ++ [nI m]).length → k < (tlF σ t m).length ∨ k = (tlF σ t m).length := fun k hk => by omega
      refine ⟨fun k hk => ?_, fun k k' hk hk' ee => ?_, fun n hn h1 h2 => ?_⟩
      · rcases last k hk with z | z
        · rw [gd_l z]
          obtain ⟨n, a, b⟩ := i1 k z
          exact ⟨n, by omega, b⟩
        · subst z
          exact ⟨m, by omega, gd_z, ht⟩
      · rcases last k hk with z | z
        · rw [gd_l z] at ee
          rcases last k' hk' with z' | z'
          · rw [gd_l z'] at ee
            exact i2 k k' z z' ee
          · subst z'
            rw [gd_z] at ee
            obtain ⟨n, a, b, _⟩ := i1 k z
            have := nI_inj (by omega) (by omega) (b.symm.trans ee)
            omega
        · subst z
          rw [gd_z] at ee
          rcases last k' hk' with z' | z'
          · rw [gd_l z'] at ee
            obtain ⟨n, a, b, _⟩ := i1 k' z'
            have := nI_inj (by omega) (by omega) (b.symm.trans ee.symm)
            omega
          · omega
      · rcases Nat.lt_or_ge n m with z | z
        · obtain ⟨k, a, b⟩ := i3 n z h1 h2
          exact ⟨k, by omega, by rw [gd_l a]; exact b⟩
        · have : n = m := by omega
          subst this
          exact ⟨(tlF σ t n).length, by omega, gd_z⟩
/-- what holds of the list while it grows -/
def BI (σ : cw_V) (t s : Nat) (D : List Int32) (tc i : Nat) : Prop := (∀ k, k < D.length → ∃ n, n < 15 ∧ D.getD k 0 = nI n ∧ nodeN s (σ (t + 6)) n) ∧ (∀ k k', k < D.length → k' < D.length → D.getD k 0 = D.getD k' 0 → k = k') ∧ (tc ≤ D.length ∧ ∀ k, k < tc → σ (t + 8) (nd (D.getD k 0)) = -1) ∧
  (∀ c, tc ≤ c → c < D.length → ∃ k, k < i ∧ k < c ∧ σ (t + 8) (nd (D.getD c 0)) = D.getD k 0) ∧
  (∀ k, k < i → k < D.length → hJoint σ t (D.getD k 0) → ∃ ka kb, k < ka ∧ ka < D.length ∧ k < kb ∧ kb < D.length ∧ ka ≠ kb ∧ D.getD ka 0 = lfT σ t (D.getD k 0) ∧ D.getD kb 0 = rtT σ t (D.getD k 0)) ∧
  (∀ n, nodeN s (σ (t + 6)) n → σ (t + 8) n = -1 → ∃ k, k < tc ∧ D.getD k 0 = nI n)
theorem BI.len {D : List Int32} {tc i : Nat} (h : BI σ t s D tc i) : D.length ≤ 15 := by
  refine php 15 D.length (fun k => nd (D.getD k 0)) (fun k hk => ?_) (fun k k' hk hk' e => ?_)
  · obtain ⟨n, a, b, _⟩ := h.1 k hk
    show nd (D.getD k 0) < 15
    rw [b, show nd (nI n) = n from nI_clamp (by omega)]
    exact a
  · obtain ⟨n, a, b, _⟩ := h.1 k hk
    obtain ⟨n', a', b', _⟩ := h.1 k' hk'
    have e : nd (D.getD k 0) = nd (D.getD k' 0) := e
    rw [b, b', show nd (nI n) = n from nI_clamp (by omega), show nd (nI n') = n' from nI_clamp (by omega)] at e
    exact h.2.1 k k' hk hk' (by rw [b, b', e])
theorem BI.keep {D : List Int32} {tc i : Nat} (h : BI σ t s D tc i) (hi : i < D.length) (hj : ¬ hJoint σ t (D.getD i 0)) : BI σ t s D tc (i + 1) := by
  obtain ⟨b1, b2, b3, b4, b5, b6⟩ := h
  refine ⟨b1, b2, b3, fun c h1 h2 => ?_, fun k h1 h2 h3 => ?_, b6⟩
  · obtain ⟨k, x, y⟩ := b4 c h1 h2
    exact ⟨k, by omega, y⟩
  · rcases Nat.lt_or_ge k i with z | z
    · exact b5 k z h2 h3
    · have : k = i := by omega
      subst this
      exact absurd h3 hj
theorem BI.grow (hW : WF σ t s) {D : List Int32} {tc i : Nat} (h : BI σ t s D tc i) (hi : i < D.length) (hj : hJoint σ t (D.getD i 0)) : BI σ t s (D ++ [σ (t + 6) (D.getD i 0).toNatClampNeg, σ (t + 7) (D.getD i 0).toNatClampNeg]) tc (i + 1) := by
  obtain ⟨b1, b2, b3, b4, b5, b6⟩ := h
  obtain ⟨j, j8, j15, ej, jl⟩ := hW.joint hj
  have cj : (D.getD i 0).toNatClampNeg = j := by rw [ej]; exact nI_clamp (by omega)
  obtain ⟨a, b, ea, eb, na, nb, nab, pa_a, pa_b⟩ := hW.2.dn j8 j15 jl
  have la := hW.2.lt na
  have lb := hW.2.lt nb
  rw [cj, ea, eb]
  have hlen : (D ++ [nI a, nI b]).length = D.length + 2 := by simp
  -- a child isn't there yet
  have fresh : ∀ x, x < 15 → σ (t + 8) x = nI j → ∀ k, k < D.length → D.getD k 0 ≠ nI x := by
    intro x hx px k hk e
    rcases Nat.lt_or_ge k tc with z | z
    · have := b3.2 k z
      rw [e, show nd (nI x) = x from nI_clamp (by omega), px] at this
      exact nI_ne1 (by omega) this
    · obtain ⟨k', k1, k2, k3⟩ := b4 k z hk
      rw [e, show nd (nI x) = x from nI_clamp (by omega), px] at k3
      have := b2 i k' hi (by omega) (ej.trans k3)
      omega
  have cases3 : ∀ k, k < (D ++ [nI a, nI b]).length → k < D.length ∨ k = D.length ∨ k = D.length + 1 := fun k hk => by omega
  refine ⟨fun k hk => ?_, fun k k' hk hk' e => ?_, ⟨by omega, fun k hk => ?_⟩, fun c h1 h2 => ?_, fun k h1 h2 h3 => ?_, fun n h1 h2 => ?_⟩
  · rcases cases3 k hk with z | z | z
    · rw [gd_l z]
      exact b1 k z
    · subst z
      exact ⟨a, la, gd_0, na⟩
    · subst z
      exact ⟨b, lb, gd_1, nb⟩
  · rcases cases3 k hk with z | z | z
    · rw [gd_l z] at e
      rcases cases3 k' hk' with z' | z' | z'
      · rw [gd_l z'] at e
        exact b2 k k' z z' e
      · subst z'
        rw [gd_0] at e
        exact absurd e (fresh a la pa_a k z)
      · subst z'
        rw [gd_1] at e
        exact absurd e (fresh b lb pa_b k z)
    · subst z
      rw [gd_0] at e
      rcases cases3 k' hk' with z' | z' | z'
      · rw [gd_l z'] at e
        exact absurd e.symm (fresh a la pa_a k' z')
      · omega
      · subst z'
        rw [gd_1] at e
        exact absurd (nI_inj (by omega) (by omega) e) nab
    · subst z
      rw [gd_1] at e
      rcases cases3 k' hk' with z' | z' | z'
      · rw [gd_l z'] at e
        exact absurd e.symm (fresh b lb pa_b k' z')
      · subst z'
        rw [gd_0] at e
        exact absurd (nI_inj (by omega) (by omega) e.symm) nab
      · omega
  · rw [gd_l (by omega)]
    exact b3.2 k hk
  · rcases cases3 c h2 with z | z | z
    · rw [gd_l z]
      obtain ⟨k, x, y, w⟩ := b4 c h1 z
      exact ⟨k, by omega, y, by rw [gd_l (by omega)]; exact w⟩
    · subst z
      refine ⟨i, by omega, hi, ?_⟩
      rw [gd_0, gd_l hi, show nd (nI a) = a from nI_clamp (by omega), pa_a, ej]
    · subst z
      refine ⟨i, by omega, by omega, ?_⟩
      rw [gd_1, gd_l hi, show nd (nI b) = b from nI_clamp (by omega), pa_b, ej]
  · rcases Nat.lt_or_ge k i with z | z
    · rw [gd_l (by omega)] at h3 ⊢
      obtain ⟨ka, kb, a1, a2, c1, c2, c3, c4, c5⟩ := b5 k z (by omega) h3
      exact ⟨ka, kb, a1, by omega, c1, by omega, c3, by rw [gd_l a2]; exact c4, by rw [gd_l c2]; exact c5⟩
    · have : k = i := by omega
      subst this
      rw [gd_l hi]
      refine ⟨D.length, D.length + 1, hi, by omega, by omega, by omega, by omega, ?_, ?_⟩
      · rw [gd_0]
        unfold lfT
        rw [show nd (D.getD k 0) = j from cj, ea]
      · rw [gd_1]
        unfold rtT
        rw [show nd (D.getD k 0) = j from cj, eb]
  · obtain ⟨k, x, y⟩ := b6 n h1 h2
    exact ⟨k, x, by rw [gd_l (by omega)]; exact y⟩
theorem bf_ok (hW : WF σ t s) {tc : Nat} : ∀ (f i : Nat) (D : List Int32), BI σ t s D tc i → i ≤ D.length → i + f = 16 → BI σ t s (bf σ t f i D) tc (bf σ t f i D).length
  | 0, i, D, hB, hi, hf => by
    have := hB.len
    omega
  | f + 1, i, D, hB, hi, hf => by
    rcases Nat.lt_or_ge i D.length with z | z
    · have hget : D[i]? = some (D.getD i 0) := by rw [List.getD_eq_getElem?_getD, List.getElem?_eq_getElem z]; rfl
      rw [bf_s hget]
      cases e : hJointB σ t (D.getD i 0) with
      | true =>
        have hB1 := hB.grow hW z (hJointB_iff.mp e)
        exact bf_ok hW f (i + 1) _ hB1 (by simp; omega) (by omega)
      | false =>
        have hB1 := hB.keep z (fun q => by rw [hJointB_iff.mpr q] at e; cases e)
        exact bf_ok hW f (i + 1) _ hB1 (by show i + 1 ≤ D.length; omega) (by omega)
    · rw [bf_0 z]
      have : i = D.length := by omega
      rw [this] at hB
      exact hB
theorem dn_ok (hW : WF σ t s) : BI σ t s (dnF σ t) (tlF σ t 15).length (dnF σ t).length := by
  obtain ⟨i1, i2, i3⟩ := tl_ok hW 15 (Nat.le_refl _)
  refine bf_ok hW 16 0 (tlF σ t 15) ⟨fun k hk => ?_, i2, ⟨Nat.le_refl _, fun k hk => ?_⟩, fun c h1 h2 => absurd h2 (by omega), fun k h1 => absurd h1 (Nat.not_lt_zero k), fun n h1 h2 => i3 n (hW.2.lt h1) h1 h2⟩ (Nat.zero_le _) rfl
  · obtain ⟨n, a, b, c, _⟩ := i1 k hk
    exact ⟨n, a, b, c⟩
  · obtain ⟨n, a, b, _, c⟩ := i1 k hk
    rw [b, show nd (nI n) = n from nI_clamp (by omega)]
    exact c
theorem dn_GD (hW : WF σ t s) : GD σ t (dnF σ t) (tlF σ t 15).length := by
  have hB := dn_ok hW
  have hlen := hB.len
  obtain ⟨b1, b2, b3, b4, b5, b6⟩ := hB
  have ndinj : ∀ k k', k < (dnF σ t).length → k' < (dnF σ t).length → nd ((dnF σ t).getD k 0) = nd ((dnF σ t).getD k' 0) → k = k' := fun k k' hk hk' e => by
    obtain ⟨n, a, b, _⟩ := b1 k hk
    obtain ⟨n', a', b', _⟩ := b1 k' hk'
    rw [b, b', show nd (nI n) = n from nI_clamp (by omega), show nd (nI n') = n' from nI_clamp (by omega)] at e
    exact b2 k k' hk hk' (by rw [b, b', e])
  -- the joint above a child
  have par : ∀ k c, k < (dnF σ t).length → c < (dnF σ t).length → hJoint σ t ((dnF σ t).getD k 0) → ((dnF σ t).getD c 0 = lfT σ t ((dnF σ t).getD k 0) ∨ (dnF σ t).getD c 0 = rtT σ t ((dnF σ t).getD k 0)) → σ (t + 8) (nd ((dnF σ t).getD c 0)) = (dnF σ t).getD k 0 := by
    intro k c hk hc hj hch
    obtain ⟨j, j8, j15, ej, jl⟩ := hW.joint hj
    obtain ⟨a, b, ea, eb, na, nb, nab, pa_a, pa_b⟩ := hW.2.dn j8 j15 jl
    have la := hW.2.lt na
    have lb := hW.2.lt nb
    have cj : nd ((dnF σ t).getD k 0) = j := by rw [ej]; exact nI_clamp (by omega)
    rcases hch with e | e
    · unfold lfT at e
      rw [cj, ea] at e
      rw [e, show nd (nI a) = a from nI_clamp (by omega), pa_a, ej]
    · unfold rtT at e
      rw [cj, eb] at e
      rw [e, show nd (nI b) = b from nI_clamp (by omega), pa_b, ej]
  refine ⟨⟨hlen, b3.1⟩, fun k hk => ?_, fun k hk hj => b5 k hk hk hj, ndinj, fun k k' c hk hk' hc hj hj' h1 h2 => ?_, fun k c hk hc hj hch => ?_⟩
  · obtain ⟨n, a, b, c⟩ := b1 k hk
    rw [b]
    exact hW.node c
  · exact b2 k k' hk hk' ((par k c hk hc hj h1).symm.trans (par k' c hk' hc hj' h2))
  · rcases Nat.lt_or_ge c (tlF σ t 15).length with z | z
    · have h1 := b3.2 c z
      rw [par k c hk hc hj hch] at h1
      obtain ⟨n, a, b, _⟩ := b1 k hk
      exact absurd (b.symm.trans h1) (nI_ne1 (by omega))
    · exact z
/-- all nodes are in the list -/
theorem dn_all (hW : WF σ t s) {n : Nat} (hn : nodeN s (σ (t + 6)) n) : ∃ k, k < (dnF σ t).length ∧ (dnF σ t).getD k 0 = nI n := by
  obtain ⟨b1, b2, b3, b4, b5, b6⟩ := dn_ok hW
  obtain ⟨ρ, hρ⟩ := hW.2.2.2.2.2.2
  have key : ∀ r n, nodeN s (σ (t + 6)) n → ρ n = r → ∃ k, k < (dnF σ t).length ∧ (dnF σ t).getD k 0 = nI n := by
    intro r
    induction r with
    | zero =>
      intro n hn hr
      by_cases hp : σ (t + 8) n = -1
      · obtain ⟨k, x, y⟩ := b6 n hn hp
        exact ⟨k, by omega, y⟩
      · obtain ⟨j, j1, j2, j3, _⟩ := hW.2.up hn hp
        have := (hρ n hn).2 j j2 j3
        omega
    | succ r ih =>
      intro n hn hr
      by_cases hp : σ (t + 8) n = -1
      · obtain ⟨k, x, y⟩ := b6 n hn hp
        exact ⟨k, by omega, y⟩
      · obtain ⟨j, j1, j2, j3, j4, j5, j6⟩ := hW.2.up hn hp
        have := (hρ n hn).2 j j2 j3
        obtain ⟨k, x, y⟩ := ih j j5 (by omega)
        have hj : hJoint σ t ((dnF σ t).getD k 0) := by rw [y]; exact (hJoint_nI j1 j2).mpr j4
        obtain ⟨ka, kb, a1, a2, c1, c2, c3, c4, c5⟩ := b5 k x x hj
        unfold lfT at c4
        unfold rtT at c5
        rw [y, show nd (nI j) = j from nI_clamp (by omega)] at c4 c5
        rcases j6 with e | e
        · exact ⟨ka, a2, c4.trans e⟩
        · exact ⟨kb, c2, c5.trans e⟩
  exact key (ρ n) n hn rfl
/-- behind the tops each node's joint stands before it -/
theorem dn_par (hW : WF σ t s) {i : Nat} (h1 : (tlF σ t 15).length ≤ i) (h2 : i < (dnF σ t).length) : ∃ k, k < i ∧ (dnF σ t).getD k 0 = pof σ t ((dnF σ t).getD i 0) := by
  obtain ⟨b1, b2, b3, b4, b5, b6⟩ := dn_ok hW
  obtain ⟨k, _, x, y⟩ := b4 i h1 h2
  obtain ⟨n, a, b, c⟩ := b1 i h2
  refine ⟨k, x, ?_⟩
  rw [pof_1 (by rw [b]; exact hW.node c)]
  exact y.symm
end
end
section
/-! THE LABELLING OF A FOREST -/
def Vf (σ : cw_V) (t : Nat) : Nat → Int32 → Nat → Int32
  | 0, _ => fun _ => 0
  | f + 1, m => bif hJointB σ t m then jnF (fun _ => 0) (Vf σ t f (lfT σ t m)) (Vf σ t f (rtT σ t m)) (lwF (Vf σ t f (lfT σ t m)) (Vf σ t f (rtT σ t m)) (skT σ t)) (rwF (Vf σ t f (lfT σ t m)) (Vf σ t f (rtT σ t m)) (skT σ t)) else ssF (fun _ => 0) (σ (t + 1) (nd m)) (σ (t + 2) (nd m)) (σ (t + 3) (nd m)) (σ (t + 4) (nd m))
def UV (σ : cw_V) (t : Nat) : Int32 → Nat → Int32 := Vf σ t 9
section
variable {σ : cw_V} {t s : Nat}
theorem hJointB_f {m : Int32} (h : ¬ hJoint σ t m) : hJointB σ t m = false := by
  cases e : hJointB σ t m with
  | true => exact absurd (hJointB_iff.mp e) h
  | false => rfl
theorem Vf_j {f : Nat} {m : Int32} (h : hJoint σ t m) : Vf σ t (f + 1) m = jnF (fun _ => 0) (Vf σ t f (lfT σ t m)) (Vf σ t f (rtT σ t m)) (lwF (Vf σ t f (lfT σ t m)) (Vf σ t f (rtT σ t m)) (skT σ t)) (rwF (Vf σ t f (lfT σ t m)) (Vf σ t f (rtT σ t m)) (skT σ t)) := by
  rw [Vf, hJointB_iff.mpr h, cond_true]
theorem Vf_s {f : Nat} {m : Int32} (h : ¬ hJoint σ t m) : Vf σ t (f + 1) m = ssF (fun _ => 0) (σ (t + 1) (nd m)) (σ (t + 2) (nd m)) (σ (t + 3) (nd m)) (σ (t + 4) (nd m)) := by
  rw [Vf, hJointB_f h, cond_false]
/-- children of a joint, as the words say it -/
theorem WF.kids (hW : WF σ t s) {j : Nat} (j8 : 8 ≤ j) (j15 : j < 15) (jl : σ (t + 6) j ≠ -1) : ∃ a b, lfT σ t (nI j) = nI a ∧ rtT σ t (nI j) = nI b ∧ nodeN s (σ (t + 6)) a ∧ nodeN s (σ (t + 6)) b ∧ a ≠ b ∧ σ (t + 8) a = nI j ∧ σ (t + 8) b = nI j := by
  obtain ⟨a, b, ea, eb, r⟩ := hW.2.dn j8 j15 jl
  refine ⟨a, b, ?_, ?_, r⟩
  · unfold lfT
    rw [show nd (nI j) = j from nI_clamp (by omega), ea]
  · unfold rtT
    rw [show nd (nI j) = j from nI_clamp (by omega), eb]
theorem Vf_st (hW : WF σ t s) {ρ : Nat → Nat} (hρ : ∀ n, nodeN s (σ (t + 6)) n → (σ (t + 8) n = -1 → ρ n = 0) ∧ ∀ j, j < 15 → σ (t + 8) n = nI j → ρ n = ρ j + 1) : ∀ (q n f f' : Nat), nodeN s (σ (t + 6)) n → 7 ≤ ρ n + q → q < f → q < f' → Vf σ t f (nI n) = Vf σ t f' (nI n) := by
  intro q
  induction q with
  | zero =>
    intro n f f' hn hq hf hf'
    obtain ⟨f, rfl⟩ : ∃ z, f = z + 1 := ⟨f - 1, by omega⟩
    obtain ⟨f', rfl⟩ : ∃ z, f' = z + 1 := ⟨f' - 1, by omega⟩
    by_cases hj : hJoint σ t (nI n)
    · obtain ⟨j, j8, j15, ej, jl⟩ := hW.joint hj
      obtain ⟨a, b, ea, eb, na, nb, nab, pa_a, pa_b⟩ := hW.2.dn j8 j15 jl
      cases nI_inj (by have := hW.2.lt hn; omega) (by omega) ej
      have h1 := (hρ a na).2 n j15 pa_a
      have h2 := hW.2.depth hρ na
      omega
    · rw [Vf_s hj, Vf_s hj]
  | succ q ih =>
    intro n f f' hn hq hf hf'
    obtain ⟨f, rfl⟩ : ∃ z, f = z + 1 := ⟨f - 1, by omega⟩
    obtain ⟨f', rfl⟩ : ∃ z, f' = z + 1 := ⟨f' - 1, by omega⟩
    by_cases hj : hJoint σ t (nI n)
    · obtain ⟨j, j8, j15, ej, jl⟩ := hW.joint hj
      cases nI_inj (by have := hW.2.lt hn; omega) (by omega) ej
      obtain ⟨a, b, ea, eb, na, nb, nab, pa_a, pa_b⟩ := hW.kids j8 j15 jl
      have h1 := (hρ a na).2 n j15 pa_a
      have h2 := (hρ b nb).2 n j15 pa_b
      rw [Vf_j hj, Vf_j hj, ea, eb, ih a f f' na (by omega) (by omega) (by omega), ih b f f' nb (by omega) (by omega) (by omega)]
    · rw [Vf_s hj, Vf_s hj]
theorem UV_lab (hW : WF σ t s) : Lab σ t (UV σ t) := by
  obtain ⟨ρ, hρ⟩ := hW.2.2.2.2.2.2
  refine ⟨fun m hj => ?_, fun m hs => ?_⟩
  · obtain ⟨j, j8, j15, rfl, jl⟩ := hW.joint hj
    obtain ⟨a, b, ea, eb, na, nb, nab, pa_a, pa_b⟩ := hW.kids j8 j15 jl
    have e : UV σ t (nI j) = jnF (fun _ => 0) (Vf σ t 8 (lfT σ t (nI j))) (Vf σ t 8 (rtT σ t (nI j))) (lwF (Vf σ t 8 (lfT σ t (nI j))) (Vf σ t 8 (rtT σ t (nI j))) (skT σ t)) (rwF (Vf σ t 8 (lfT σ t (nI j))) (Vf σ t 8 (rtT σ t (nI j))) (skT σ t)) := Vf_j hj
    rw [e, ea, eb, Vf_st hW hρ 7 a 8 9 na (by omega) (by omega) (by omega), Vf_st hW hρ 7 b 8 9 nb (by omega) (by omega) (by omega)]
    exact ev9.refl
  · have hj : ¬ hJoint σ t m := fun q => absurd (Int32.lt_of_lt_of_le hs.2.2 q.1) (Int32.lt_irrefl)
    have e : UV σ t m = ssF (fun _ => 0) (σ (t + 1) (nd m)) (σ (t + 2) (nd m)) (σ (t + 3) (nd m)) (σ (t + 4) (nd m)) := Vf_s hj
    rw [e]
    exact ev9.refl
/-- it is the only one -/
theorem lab_uni (hW : WF σ t s) {U U' : Int32 → Nat → Int32} (h : Lab σ t U) (h' : Lab σ t U') {n : Nat} (hn : nodeN s (σ (t + 6)) n) : ev9 (U (nI n)) (U' (nI n)) := by
  obtain ⟨ρ, hρ⟩ := hW.2.2.2.2.2.2
  have key : ∀ q n, nodeN s (σ (t + 6)) n → 7 ≤ ρ n + q → ev9 (U (nI n)) (U' (nI n)) := by
    intro q
    induction q with
    | zero =>
      intro n hn hq
      by_cases hj : hJoint σ t (nI n)
      · obtain ⟨j, j8, j15, ej, jl⟩ := hW.joint hj
        obtain ⟨a, b, ea, eb, na, nb, nab, pa_a, pa_b⟩ := hW.2.dn j8 j15 jl
        cases nI_inj (by have := hW.2.lt hn; omega) (by omega) ej
        have h1 := (hρ a na).2 n j15 pa_a
        have h2 := hW.2.depth hρ na
        omega
      · have hs := (hW.node hn).sink hj
        exact (h.2 _ hs).trans (h'.2 _ hs).symm
    | succ q ih =>
      intro n hn hq
      by_cases hj : hJoint σ t (nI n)
      · obtain ⟨j, j8, j15, ej, jl⟩ := hW.joint hj
        cases nI_inj (by have := hW.2.lt hn; omega) (by omega) ej
        obtain ⟨a, b, ea, eb, na, nb, nab, pa_a, pa_b⟩ := hW.kids j8 j15 jl
        have h1 := (hρ a na).2 n j15 pa_a
        have h2 := (hρ b nb).2 n j15 pa_b
        have va := ih a na (by omega)
        have vb := ih b nb (by omega)
        have l1 := h.1 _ hj
        have l2 := h'.1 _ hj
        rw [ea, eb] at l1 l2
        rw [lw_congr va.six vb.six, rw_congr va.six vb.six] at l1
        exact (l1.trans (jn_congr va vb)).trans l2.symm
      · have hs := (hW.node hn).sink hj
        exact (h.2 _ hs).trans (h'.2 _ hs).symm
  exact key 7 n hn (by omega)
/-- a node's wire -/
def wrF (σ : cw_V) (t : Nat) (U : Int32 → Nat → Int32) (m : Int32) : Int32 := bif decide (lfT σ t (pof σ t m) = m) then lwF (U (lfT σ t (pof σ t m))) (U (rtT σ t (pof σ t m))) (skT σ t) else rwF (U (lfT σ t (pof σ t m))) (U (rtT σ t (pof σ t m))) (skT σ t)
/-- the wires as they are measured -/
theorem MS.wire (hW : WF σ t s) {τ : cw_V} {w : Nat} {U : Int32 → Nat → Int32} (h : MS σ τ w t (dnF σ t) (tlF σ t 15).length U) {i : Nat} (h1 : (tlF σ t 15).length ≤ i) (h2 : i < (dnF σ t).length) : τ (pp w ((dnF σ t).getD i 0)) 6 = wrF σ t U ((dnF σ t).getD i 0) := by
  obtain ⟨k, hk, ek⟩ := dn_par hW h1 h2
  have hB := dn_ok hW
  obtain ⟨n, hn, en, nn⟩ := hB.1 i h2
  have hp := pof_1 (hW.node nn)
  rw [en] at ek ⊢
  rw [hp, show (nI n).toNatClampNeg = n from nI_clamp (by omega)] at ek
  have hne : σ (t + 8) n ≠ -1 := fun e => by
    rw [e] at ek
    obtain ⟨n', a', b', _⟩ := hB.1 k (by omega)
    exact nI_ne1 (by omega) (b'.symm.trans ek)
  obtain ⟨j, j1, j2, j3, j4, j5, j6⟩ := hW.2.up nn hne
  rw [j3] at ek
  have hj : hJoint σ t ((dnF σ t).getD k 0) := by rw [ek]; exact (hJoint_nI j1 j2).mpr j4
  have hw := h.1.2.2.2 k (Nat.zero_le _) (by omega) hj
  rw [ek] at hw
  obtain ⟨a, b, ea, eb, na, nb, nab, pa_a, pa_b⟩ := hW.kids j1 j2 j4
  have epof : pof σ t (nI n) = nI j := by rw [hp, show (nI n).toNatClampNeg = n from nI_clamp (by omega), j3]
  have la := hW.2.lt na
  have lb := hW.2.lt nb
  have rawl : σ (t + 6) j = nI a := by
    unfold lfT at ea
    rw [show nd (nI j) = j from nI_clamp (by omega)] at ea
    exact ea
  have rawr : σ (t + 7) j = nI b := by
    unfold rtT at eb
    rw [show nd (nI j) = j from nI_clamp (by omega)] at eb
    exact eb
  unfold wrF
  rw [epof]
  rcases j6 with e | e
  · have : n = a := nI_inj (by omega) (by omega) (e.symm.trans rawl)
    subst this
    rw [decide_eq_true ea]
    rw [ea] at hw ⊢
    exact hw.1
  · have : n = b := nI_inj (by omega) (by omega) (e.symm.trans rawr)
    subst this
    rw [decide_eq_false (show ¬ lfT σ t (nI j) = nI n from fun z => nab (nI_inj (by omega) (by omega) (ea.symm.trans z)))]
    rw [eb] at hw ⊢
    exact hw.2
/-! places -/
def Ef (σ : cw_V) (U : Int32 → Nat → Int32) (wr : Int32 → Int32) : Nat → Int32 → (Nat → Int32) × Int64
  | 0, _ => (fun _ => 0, 0)
  | f + 1, m => bif decide (pof σ 1 m = -1) then
      (fun k => if k = 0 then movF (suF σ) (U m 0) (U m 1) else if k = 1 then movF (svF' σ) (U m 2) (U m 3) else if k = 2 then -1 else dsF (suF σ) (svF' σ) (movF (suF σ) (U m 0) (U m 1)) (movF (svF' σ) (U m 2) (U m 3)), dlF (dsF (suF σ) (svF' σ) (movF (suF σ) (U m 0) (U m 1)) (movF (svF' σ) (U m 2) (U m 3))) (U m))
    else
      (fun k => if k = 0 then movF ((Ef σ U wr f (pof σ 1 m)).1 0) (U m 0) (U m 1) else if k = 1 then movF ((Ef σ U wr f (pof σ 1 m)).1 1) (U m 2) (U m 3) else if k = 2 then wr m - dsF (movF ((Ef σ U wr f (pof σ 1 m)).1 0) (U m 0) (U m 1)) (movF ((Ef σ U wr f (pof σ 1 m)).1 1) (U m 2) (U m 3)) ((Ef σ U wr f (pof σ 1 m)).1 0) ((Ef σ U wr f (pof σ 1 m)).1 1) else (Ef σ U wr f (pof σ 1 m)).1 3 + wr m, (Ef σ U wr f (pof σ 1 m)).2 + dlF (wr m) (U m))
def eT (σ : cw_V) (U : Int32 → Nat → Int32) (m : Int32) : (Nat → Int32) × Int64 := (fun k => if k = 0 then movF (suF σ) (U m 0) (U m 1) else if k = 1 then movF (svF' σ) (U m 2) (U m 3) else if k = 2 then -1 else dsF (suF σ) (svF' σ) (movF (suF σ) (U m 0) (U m 1)) (movF (svF' σ) (U m 2) (U m 3)), dlF (dsF (suF σ) (svF' σ) (movF (suF σ) (U m 0) (U m 1)) (movF (svF' σ) (U m 2) (U m 3))) (U m))
def eC (U : Int32 → Nat → Int32) (wr : Int32 → Int32) (m : Int32) (g : (Nat → Int32) × Int64) : (Nat → Int32) × Int64 := (fun k => if k = 0 then movF (g.1 0) (U m 0) (U m 1) else if k = 1 then movF (g.1 1) (U m 2) (U m 3) else if k = 2 then wr m - dsF (movF (g.1 0) (U m 0) (U m 1)) (movF (g.1 1) (U m 2) (U m 3)) (g.1 0) (g.1 1) else g.1 3 + wr m, g.2 + dlF (wr m) (U m))
theorem eT_0 {U : Int32 → Nat → Int32} {m : Int32} : (eT σ U m).1 0 = movF (suF σ) (U m 0) (U m 1) := rfl
theorem eT_1 {U : Int32 → Nat → Int32} {m : Int32} : (eT σ U m).1 1 = movF (svF' σ) (U m 2) (U m 3) := rfl
theorem eT_2 {U : Int32 → Nat → Int32} {m : Int32} : (eT σ U m).1 2 = -1 := rfl
theorem eT_3 {U : Int32 → Nat → Int32} {m : Int32} : (eT σ U m).1 3 = dsF (suF σ) (svF' σ) (movF (suF σ) (U m 0) (U m 1)) (movF (svF' σ) (U m 2) (U m 3)) := by
  unfold eT
  dsimp only
  rw [if_neg (by decide), if_neg (by decide), if_neg (by decide)]
theorem eC_0 {U : Int32 → Nat → Int32} {wr : Int32 → Int32} {m : Int32} {g : (Nat → Int32) × Int64} : (eC U wr m g).1 0 = movF (g.1 0) (U m 0) (U m 1) := rfl
theorem eC_1 {U : Int32 → Nat → Int32} {wr : Int32 → Int32} {m : Int32} {g : (Nat → Int32) × Int64} : (eC U wr m g).1 1 = movF (g.1 1) (U m 2) (U m 3) := rfl
theorem eC_2 {U : Int32 → Nat → Int32} {wr : Int32 → Int32} {m : Int32} {g : (Nat → Int32) × Int64} : (eC U wr m g).1 2 = wr m - dsF (movF (g.1 0) (U m 0) (U m 1)) (movF (g.1 1) (U m 2) (U m 3)) (g.1 0) (g.1 1) := rfl
theorem eC_3 {U : Int32 → Nat → Int32} {wr : Int32 → Int32} {m : Int32} {g : (Nat → Int32) × Int64} : (eC U wr m g).1 3 = g.1 3 + wr m := rfl
theorem eT_d {U : Int32 → Nat → Int32} {m : Int32} : (eT σ U m).2 = dlF (dsF (suF σ) (svF' σ) (movF (suF σ) (U m 0) (U m 1)) (movF (svF' σ) (U m 2) (U m 3))) (U m) := rfl
theorem eC_d {U : Int32 → Nat → Int32} {wr : Int32 → Int32} {m : Int32} {g : (Nat → Int32) × Int64} : (eC U wr m g).2 = g.2 + dlF (wr m) (U m) := rfl
theorem Ef_t {U : Int32 → Nat → Int32} {wr : Int32 → Int32} {f : Nat} {m : Int32} (h : pof σ 1 m = -1) : Ef σ U wr (f + 1) m = eT σ U m := by
  rw [Ef, decide_eq_true h, cond_true]
  rfl
theorem Ef_c {U : Int32 → Nat → Int32} {wr : Int32 → Int32} {f : Nat} {m : Int32} (h : ¬ pof σ 1 m = -1) : Ef σ U wr (f + 1) m = eC U wr m (Ef σ U wr f (pof σ 1 m)) := by
  rw [Ef, decide_eq_false h, cond_false]
  rfl
theorem Ef_st (hW : WF σ 1 s) {U : Int32 → Nat → Int32} {wr : Int32 → Int32} {ρ : Nat → Nat} (hρ : ∀ n, nodeN s (σ (1 + 6)) n → (σ (1 + 8) n = -1 → ρ n = 0) ∧ ∀ j, j < 15 → σ (1 + 8) n = nI j → ρ n = ρ j + 1) : ∀ (q n f f' : Nat), nodeN s (σ (1 + 6)) n → ρ n ≤ q → q < f → q < f' → Ef σ U wr f (nI n) = Ef σ U wr f' (nI n) := by
  intro q
  induction q with
  | zero =>
    intro n f f' hn hq hf hf'
    obtain ⟨f, rfl⟩ : ∃ z, f = z + 1 := ⟨f - 1, by omega⟩
    obtain ⟨f', rfl⟩ : ∃ z, f' = z + 1 := ⟨f' - 1, by omega⟩
    have hlt := hW.2.lt hn
    by_cases hp : σ (1 + 8) n = -1
    · have e : pof σ 1 (nI n) = -1 := by rw [pof_1 (hW.node hn), nI_clamp (by omega), hp]
      rw [Ef_t e, Ef_t e]
    · obtain ⟨j, j1, j2, j3, _⟩ := hW.2.up hn hp
      have := (hρ n hn).2 j j2 j3
      omega
  | succ q ih =>
    intro n f f' hn hq hf hf'
    obtain ⟨f, rfl⟩ : ∃ z, f = z + 1 := ⟨f - 1, by omega⟩
    obtain ⟨f', rfl⟩ : ∃ z, f' = z + 1 := ⟨f' - 1, by omega⟩
    have hlt := hW.2.lt hn
    by_cases hp : σ (1 + 8) n = -1
    · have e : pof σ 1 (nI n) = -1 := by rw [pof_1 (hW.node hn), nI_clamp (by omega), hp]
      rw [Ef_t e, Ef_t e]
    · obtain ⟨j, j1, j2, j3, j4, j5, j6⟩ := hW.2.up hn hp
      have := (hρ n hn).2 j j2 j3
      have e : pof σ 1 (nI n) = nI j := by rw [pof_1 (hW.node hn), nI_clamp (by omega), j3]
      have ne : ¬ pof σ 1 (nI n) = -1 := by rw [e]; exact nI_ne1 (by omega)
      rw [Ef_c ne, Ef_c ne, e, ih j f f' j5 (by omega) (by omega) (by omega)]
def EV (σ : cw_V) (U : Int32 → Nat → Int32) (wr : Int32 → Int32) (m : Int32) : Nat → Int32 := (Ef σ U wr 9 m).1
def EVd (σ : cw_V) (U : Int32 → Nat → Int32) (wr : Int32 → Int32) (m : Int32) : Int64 := (Ef σ U wr 9 m).2
theorem EV_lab (hW : WF σ 1 s) {U : Int32 → Nat → Int32} {wr : Int32 → Int32} {n : Nat} (hn : nodeN s (σ (1 + 6)) n) (hp : σ (1 + 8) n = -1) : PLab σ U wr (nI n) (EV σ U wr) (EVd σ U wr) := by
  obtain ⟨ρ, hρ⟩ := hW.2.2.2.2.2.2
  have hlt := hW.2.lt hn
  have e : pof σ 1 (nI n) = -1 := by rw [pof_1 (hW.node hn), nI_clamp (by omega), hp]
  refine ⟨?_, fun m hm hpm => ?_⟩
  · unfold EV EVd
    rw [Ef_t e, eT_0, eT_1, eT_2, eT_3, eT_d]
    exact ⟨rfl, rfl, rfl, rfl, rfl⟩
  · obtain ⟨n', hn', rfl, nn⟩ := hW.nn hm
    rw [pof_1 hm, nI_clamp (by omega)] at hpm
    obtain ⟨j, j1, j2, j3, j4, j5, j6⟩ := hW.2.up nn hpm
    have e2 : pof σ 1 (nI n') = nI j := by rw [pof_1 hm, nI_clamp (by omega), j3]
    have hd := hW.2.depth hρ j5
    have st := Ef_st hW (U := U) (wr := wr) hρ 7 j 8 9 j5 hd (by omega) (by omega)
    have ne : ¬ pof σ 1 (nI n') = -1 := by rw [e2]; exact nI_ne1 (by omega)
    have eu : Ef σ U wr 9 (nI n') = eC U wr (nI n') (Ef σ U wr 9 (nI j)) := by rw [Ef_c ne, e2, st]
    rw [e2]
    unfold EV EVd
    rw [eu, eC_0, eC_1, eC_2, eC_3, eC_d]
    exact ⟨rfl, rfl, rfl, rfl, rfl⟩
end
end
section
/-! REFRESHED: what is kept of the tree, and that refresh() makes it so -/
/-- the same rows -/
def SR (σ τ : cw_V) (t : Nat) : Prop := ∀ i, i ≤ 8 → τ (t + i) = σ (t + i)
section
variable {σ τ : cw_V} {t s : Nat}
theorem SR.z (h : SR σ τ t) : τ t = σ t := h 0 (by decide)
theorem SR.jB (h : SR σ τ t) {m : Int32} : hJointB τ t m = hJointB σ t m := by unfold hJointB; rw [h 6 (by decide)]
theorem SR.nB (h : SR σ τ t) {m : Int32} : hNodeB τ t m = hNodeB σ t m := by unfold hNodeB; rw [h 6 (by decide), h.z]
theorem SR.node (h : SR σ τ t) {m : Int32} : hNode τ t m ↔ hNode σ t m := hNode_eq (congrFun h.z 8) (h 6 (by decide))
theorem SR.joint (h : SR σ τ t) {m : Int32} : hJoint τ t m ↔ hJoint σ t m := hJoint_eq (h 6 (by decide))
theorem SR.sink (h : SR σ τ t) {m : Int32} : hSink τ t m ↔ hSink σ t m := by unfold hSink; rw [h.z]
theorem SR.top (h : SR σ τ t) {m : Int32} : hTop τ t m ↔ hTop σ t m := hTop_eq (congrFun h.z 8) (h 6 (by decide)) (h 8 (by decide))
theorem SR.tB (h : SR σ τ t) {n : Nat} : topB τ t n = topB σ t n := by unfold topB; rw [h.nB, h 8 (by decide)]
theorem SR.tl (h : SR σ τ t) : ∀ m, tlF τ t m = tlF σ t m
  | 0 => rfl
  | m + 1 => by unfold tlF; rw [SR.tl h m, h.tB]
theorem SR.bf (h : SR σ τ t) : ∀ (f i : Nat) (D : List Int32), bf τ t f i D = bf σ t f i D
  | 0, _, _ => rfl
  | f + 1, i, D => by
    cases e : D[i]? with
    | none =>
      have hl : D.length ≤ i := by
        rcases Nat.lt_or_ge i D.length with z | z
        · rw [List.getElem?_eq_getElem z] at e
          cases e
        · exact z
      rw [bf_0 hl, bf_0 hl]
    | some n => rw [bf_s e, bf_s e, h.jB, h 6 (by decide), h 7 (by decide), SR.bf h f (i + 1)]
theorem SR.dn (h : SR σ τ t) : dnF τ t = dnF σ t := by unfold dnF; rw [h.tl, h.bf]
theorem SR.lf (h : SR σ τ t) {m : Int32} : lfT τ t m = lfT σ t m := by unfold lfT; rw [h 6 (by decide)]
theorem SR.rt (h : SR σ τ t) {m : Int32} : rtT τ t m = rtT σ t m := by unfold rtT; rw [h 7 (by decide)]
theorem SR.sk (h : SR σ τ t) : skT τ t = skT σ t := by unfold skT; rw [h.z]
theorem SR.po (h : SR σ τ t) {m : Int32} : pof τ t m = pof σ t m := by unfold pof; rw [h.nB, h 8 (by decide)]
theorem SR.vf (h : SR σ τ t) : ∀ (f : Nat) (m : Int32), Vf τ t f m = Vf σ t f m
  | 0, _ => rfl
  | f + 1, m => by rw [Vf, Vf, h.jB, h.lf, h.rt, h.sk, SR.vf h f, SR.vf h f, h 1 (by decide), h 2 (by decide), h 3 (by decide), h 4 (by decide)]
theorem SR.uv (h : SR σ τ t) : UV τ t = UV σ t := by funext m; exact h.vf 9 m
theorem SR.wr (h : SR σ τ t) {U : Int32 → Nat → Int32} {m : Int32} : wrF τ t U m = wrF σ t U m := by unfold wrF; rw [h.po, h.lf, h.rt, h.sk]
theorem SR.wr' (h : SR σ τ t) {U : Int32 → Nat → Int32} : wrF τ t U = wrF σ t U := by funext m; exact h.wr
theorem SR.wf (h : SR σ τ t) (hW : WF σ t s) : WF τ t s := by
  unfold WF
  rw [h 6 (by decide), h 7 (by decide), h 8 (by decide), h.z]
  exact hW
theorem SR.su (h : SR σ τ 1) : suF τ = suF σ := by unfold suF; rw [h.z]
theorem SR.sv (h : SR σ τ 1) : svF' τ = svF' σ := by unfold svF'; rw [h.z]
theorem SR.ef (h : SR σ τ 1) {U : Int32 → Nat → Int32} {wr : Int32 → Int32} : ∀ (f : Nat) (m : Int32), Ef τ U wr f m = Ef σ U wr f m
  | 0, _ => rfl
  | f + 1, m => by rw [Ef, Ef, h.po, h.su, h.sv, SR.ef h f]
theorem SR.symm (h : SR σ τ t) : SR τ σ t := fun i hi => (h i hi).symm
end
/-- the wires at w are those of the tree at t -/
def MD (σ : cw_V) (w t : Nat) : Prop := (σ w 4 = nI (dnF σ t).length ∧ σ w 5 = nI (tlF σ t 15).length ∧ ∀ j, j < (dnF σ t).length → σ (w + 4) j = (dnF σ t).getD j 0) ∧
  (∀ k, k < (dnF σ t).length → ev9 (σ (pp w ((dnF σ t).getD k 0))) (UV σ t ((dnF σ t).getD k 0))) ∧ (∀ k, (tlF σ t 15).length ≤ k → k < (dnF σ t).length → σ (pp w ((dnF σ t).getD k 0)) 6 = wrF σ t (UV σ t) ((dnF σ t).getD k 0)) ∧
  (∀ k, k < (tlF σ t 15).length → σ (pp w ((dnF σ t).getD k 0)) 6 = -1) ∧ σ w 6 = scF (UV σ t) (dnF σ t) (tlF σ t 15).length
/-- where the main tree is whole, its places -/
def Ev (σ : cw_V) : Int32 → Nat → Int32 := EV σ (UV σ 1) (wrF σ 1 (UV σ 1))
def Evd (σ : cw_V) : Int32 → Int64 := EVd σ (UV σ 1) (wrF σ 1 (UV σ 1))
def arE (σ : cw_V) (k : Nat) : Int32 := Ev σ (nI k) 3 + σ (1 + 3) k * 65536
def PD (σ : cw_V) (lam : Nat → Int64) (s : Nat) : Prop := ((tlF σ 1 15).length ≠ 1 → σ 30 5 = 0) ∧ ((tlF σ 1 15).length = 1 → σ 30 5 = 1 ∧ 0 < s ∧ σ 30 6 = Ev σ ((dnF σ 1).getD 0 0) 3 ∧ σ 30 7 = lsF (Ev σ) (dnF σ 1) (dnF σ 1).length ∧ σ 30 8 = lcF (Ev σ) (dnF σ 1) (dnF σ 1).length ∧
  (∀ k, k < (dnF σ 1).length → σ 31 (nd ((dnF σ 1).getD k 0)) = Ev σ ((dnF σ 1).getD k 0) 0 ∧ σ 32 (nd ((dnF σ 1).getD k 0)) = Ev σ ((dnF σ 1).getD k 0) 1 ∧ σ 33 (nd ((dnF σ 1).getD k 0)) = Ev σ ((dnF σ 1).getD k 0) 2 ∧ σ 34 (nd ((dnF σ 1).getD k 0)) = Ev σ ((dnF σ 1).getD k 0) 3 ∧ lam (nd ((dnF σ 1).getD k 0)) = Evd σ ((dnF σ 1).getD k 0)) ∧
  σ 30 9 = (sprF (arE σ) (s - 1) 1 (arE σ 0, arE σ 0)).2 - (sprF (arE σ) (s - 1) 1 (arE σ 0, arE σ 0)).1)
section
variable {d w t s : Nat} {σ τ : cw_V} {lam : Nat → Int64} {Q : cw_Q}
/-- measured, from its own rows -/
theorem MS.md (hW : WF σ t s) (hw : isW w) (ht : isT t) (h : MS σ τ w t (dnF σ t) (tlF σ t 15).length (UV σ t)) : SR σ τ t ∧ MD τ w t := by
  have hs : SR σ τ t := fun i hi => h.1.row hw ht hi
  refine ⟨hs, ?_⟩
  unfold MD
  rw [hs.dn, hs.tl, hs.uv, hs.wr']
  exact ⟨h.1.2.1, fun k hk => h.1.2.2.1 k (Nat.zero_le _) hk, fun k h1 h2 => h.wire hW h1 h2, h.2.1, h.2.2⟩
theorem z_measure' (hW : WF σ t s) (hw : isW w) (ht : isT t) (kk : ∀ τ, SR σ τ t → MD τ w t → (∀ p, (p < w ∨ w + 19 < p) → τ p = σ p) → Q none (cw_B τ lam)) : cw_Z (d + 4) m_Wires_measure [.ref w, .ref t] (cw_B σ lam) Q :=
  z_measure hw ht (dn_GD hW) (UV_lab hW) (fun τ h => kk τ (h.md hW hw ht).1 (h.md hW hw ht).2 h.1.1)
theorem WF.pos (hW : WF σ t s) (h : 0 < (dnF σ t).length) : 0 < s := by
  obtain ⟨b1, b2, b3, b4, b5, b6⟩ := dn_ok hW
  obtain ⟨n, a, b, c⟩ := b1 ((dnF σ t).length - 1) (by omega)
  rcases c with c | c
  · omega
  · exfalso
    have hj : hJoint σ t ((dnF σ t).getD ((dnF σ t).length - 1) 0) := by rw [b]; exact (hJoint_nI c.1 c.2.1).mpr c.2.2
    obtain ⟨ka, kb, a1, a2, _⟩ := b5 _ (by omega) (by omega) hj
    omega
theorem z_embed (hW : WF σ 1 s) (hM : MD σ 10 1) (kk : ∀ τ lam', SR σ τ 1 → (∀ p, (p < 30 ∨ 34 < p) → τ p = σ p) → PD τ lam' s → Q none (cw_B τ lam')) : cw_Z (d + 4) m_Places_embed [.ref 30, .ref 1, .ref 10] (cw_B σ lam) Q := by
  have hB := dn_ok hW
  have hG := dn_GD hW
  by_cases htc : (tlF σ 1 15).length = 1
  · have hpos : 0 < (dnF σ 1).length := by have := hG.1.2; omega
    have hs := hW.pos hpos
    obtain ⟨n, a, b, c⟩ := hB.1 0 hpos
    have htop : σ (1 + 8) n = -1 := by
      have := hB.2.2.1.2 0 (by omega)
      rw [b, show nd (nI n) = n from nI_clamp (by omega)] at this
      exact this
    have hE := EV_lab hW (U := UV σ 1) (wr := wrF σ 1 (UV σ 1)) c htop
    rw [← b] at hE
    refine z_embed1 (D := dnF σ 1) (U := UV σ 1) (E := Ev σ) (Ed := Evd σ) (wr := wrF σ 1 (UV σ 1)) (s := s) (by rw [hM.1.2.1, htc]; rfl) hM.1.1 hG.1.1 hpos hM.1.2.2 hG.2.1 hG.2.2.2.1 (fun i h1 h2 => dn_par hW (by omega) h2) hM.2.1 (fun k h1 h2 => hM.2.2.1 k (by omega) h2) hE hW.1 hW.2.1 hs (fun k hk => dn_all hW (Or.inl hk)) (fun τ lam' hI h9 => ?_)
    have hsr : SR σ τ 1 := fun i hi => hI.1 _ (by omega)
    refine kk τ lam' hsr hI.1 ?_
    have eE : Ev τ = Ev σ := by
      unfold Ev
      rw [hsr.uv, hsr.wr']
      funext m
      unfold EV
      rw [hsr.ef]
    have eEd : Evd τ = Evd σ := by
      unfold Evd
      rw [hsr.uv, hsr.wr']
      funext m
      unfold EVd
      rw [hsr.ef]
    have ear : arE τ = arE σ := by
      funext k
      unfold arE
      rw [eE, hsr 3 (by decide)]
    unfold PD
    rw [hsr.tl, hsr.dn, eE, eEd, ear]
    refine ⟨fun z => absurd htc z, fun _ => ⟨hI.2.1, hs, hI.2.2.1, hI.2.2.2.1, hI.2.2.2.2.1, hI.2.2.2.2.2, ?_⟩⟩
    exact h9
  · refine z_embed0 hM.1.2.1 (by have := hG.1; omega) htc ?_
    have hsr : SR σ (cw_up σ 30 5 0) 1 := fun i hi => up_ne (by omega)
    refine kk _ lam hsr (fun p hp => up_ne (by omega)) ?_
    unfold PD
    rw [hsr.tl]
    exact ⟨fun _ => by rw [up_eq, upd_eq], fun z => absurd z htc⟩
end
end
section
/-! A FOREST STAYS A FOREST -/
noncomputable def cif (P : Prop) (a b : Nat) : Nat := @ite Nat P (Classical.propDecidable P) a b
theorem cif_p {P : Prop} {a b : Nat} (h : P) : cif P a b = a := if_pos h
theorem cif_n {P : Prop} {a b : Nat} (h : ¬ P) : cif P a b = b := if_neg h
theorem cif_iff {P P' : Prop} {a b : Nat} (h : P ↔ P') : cif P a b = cif P' a b := by
  by_cases z : P
  · rw [cif_p z, cif_p (h.mp z)]
  · rw [cif_n z, cif_n (fun y => z (h.mpr y))]
/-- a is n or above n -/
def Inr (pa : Nat → Int32) (ρ : Nat → Nat) (x a : Nat) : Prop := ∃ i, i ≤ ρ x ∧ upN pa i x = a
/-- depths -/
def Dep (s : Nat) (lf pa : Nat → Int32) (ρ : Nat → Nat) : Prop := ∀ n, nodeN s lf n → (pa n = -1 → ρ n = 0) ∧ ∀ j, j < 15 → pa n = nI j → ρ n = ρ j + 1
section
variable {s : Nat} {lf rt pa : Nat → Int32} {ρ : Nat → Nat}
theorem Inr.rf {x : Nat} : Inr pa ρ x x := ⟨0, Nat.zero_le _, rfl⟩
theorem Inr.top (hρ : Dep s lf pa ρ) {x a : Nat} (hx : nodeN s lf x) (hp : pa x = -1) : Inr pa ρ x a ↔ x = a := by
  constructor
  · rintro ⟨i, h1, h2⟩
    have := (hρ x hx).1 hp
    have : i = 0 := by omega
    subst this
    exact h2
  · rintro rfl
    exact Inr.rf
theorem Inr.st (hρ : Dep s lf pa ρ) {x a j : Nat} (hx : nodeN s lf x) (hj : j < 15) (hp : pa x = nI j) : Inr pa ρ x a ↔ x = a ∨ Inr pa ρ j a := by
  have e := (hρ x hx).2 j hj hp
  constructor
  · rintro ⟨i, h1, h2⟩
    cases i with
    | zero => exact Or.inl h2
    | succ i =>
      rw [upN_s, hp, nI_clamp (by omega)] at h2
      exact Or.inr ⟨i, by omega, h2⟩
  · rintro (rfl | ⟨i, h1, h2⟩)
    · exact Inr.rf
    · exact ⟨i + 1, by omega, by rw [upN_s, hp, nI_clamp (by omega)]; exact h2⟩
theorem Inr.le (hW : WFt s lf rt pa) (hρ : Dep s lf pa ρ) {x a : Nat} (hx : nodeN s lf x) (h : Inr pa ρ x a) : ρ a ≤ ρ x := by
  obtain ⟨i, h1, h2⟩ := h
  have := hW.anc hρ i x hx h1
  rw [h2] at this
  omega
theorem WFt.congr {lf' rt' pa' : Nat → Int32} (hW : WFt s lf rt pa) (h1 : ∀ x, x < 15 → lf' x = lf x) (h2 : ∀ x, x < 15 → rt' x = rt x) (h3 : ∀ x, x < 15 → pa' x = pa x) : WFt s lf' rt' pa' := by
  have hn : ∀ n, nodeN s lf' n ↔ nodeN s lf n := by
    intro n
    unfold nodeN
    constructor
    · rintro (h | ⟨a, b, c⟩)
      · exact Or.inl h
      · exact Or.inr ⟨a, b, by rw [← h1 n b]; exact c⟩
    · rintro (h | ⟨a, b, c⟩)
      · exact Or.inl h
      · exact Or.inr ⟨a, b, by rw [h1 n b]; exact c⟩
  obtain ⟨w0, w1, w2, w3, w4, ρ, w5⟩ := id hW
  refine ⟨w0, fun n hn' h => ?_, fun n hn' h => ?_, fun j j8 j15 hl => ?_, fun n hN hp => ?_, ρ, fun n hN => ?_⟩
  · rw [h1 n hn', h2 n hn']
    rw [h1 n hn'] at h
    exact w1 n hn' h
  · rw [h3 n hn']
    exact w2 n hn' (fun z => h ((hn n).mpr z))
  · rw [h1 j j15] at hl
    obtain ⟨a, b, ea, eb, na, nb, nab, pa_a, pa_b⟩ := w3 j j8 j15 hl
    exact ⟨a, b, by rw [h1 j j15]; exact ea, by rw [h2 j j15]; exact eb, (hn a).mpr na, (hn b).mpr nb, nab, by rw [h3 a (hW.lt na)]; exact pa_a, by rw [h3 b (hW.lt nb)]; exact pa_b⟩
  · have hN' := (hn n).mp hN
    have hlt := hW.lt hN'
    rw [h3 n hlt] at hp
    obtain ⟨j, a, b, c, e⟩ := w4 n hN' hp
    exact ⟨j, a, b, by rw [h3 n hlt]; exact c, by rw [h1 j b, h2 j b]; exact e⟩
  · have hN' := (hn n).mp hN
    rw [h3 n (hW.lt hN')]
    exact w5 n hN'
/-! graft -/
def gL (lf : Nat → Int32) (j n : Nat) : Nat → Int32 := fun x => if x = j then nI n else if lf x = nI n then nI j else lf x
def gR (rt : Nat → Int32) (j n k : Nat) : Nat → Int32 := fun x => if x = j then nI k else if rt x = nI n then nI j else rt x
def gP (pa : Nat → Int32) (j n k : Nat) : Nat → Int32 := fun x => if x = j then pa n else if x = n ∨ x = k then nI j else pa x
/-- the only joint whose child is n -/
theorem WFt.only (hW : WFt s lf rt pa) {x n : Nat} (hx : x < 15) (hn : nodeN s lf n) (h : lf x = nI n ∨ rt x = nI n) : pa n = nI x ∧ 8 ≤ x ∧ lf x ≠ -1 := by
  have hlt := hW.lt hn
  have hl : ¬ (x < 8 ∨ lf x = -1) := fun z => by
    have := hW.2.1 x hx z
    rcases h with h | h
    · exact nI_ne1 (by omega) (h.symm.trans this.1)
    · exact nI_ne1 (by omega) (h.symm.trans this.2)
  have h8 : 8 ≤ x := Nat.not_lt.mp (fun z => hl (Or.inl z))
  have hne : lf x ≠ -1 := fun z => hl (Or.inr z)
  obtain ⟨a, b, ea, eb, na, nb, nab, pa_a, pa_b⟩ := hW.dn h8 hx hne
  have la := hW.lt na
  have lb := hW.lt nb
  rcases h with h | h
  · have : a = n := nI_inj (by omega) (by omega) (ea.symm.trans h)
    subst this
    exact ⟨pa_a, h8, hne⟩
  · have : b = n := nI_inj (by omega) (by omega) (eb.symm.trans h)
    subst this
    exact ⟨pa_b, h8, hne⟩
theorem WFt.graft (hW : WFt s lf rt pa) {j n k : Nat} (hj : isF lf j) (hn : nodeN s lf n) (hk : nodeN s lf k) (hkt : pa k = -1) (hρ : Dep s lf pa ρ) (hnk : ¬ Inr pa ρ n k) : WFt s (gL lf j n) (gR rt j n k) (gP pa j n k) := by
  obtain ⟨⟨j8, j15⟩, jf, -⟩ := hj
  have ln := hW.lt hn
  have lk := hW.lt hk
  have nk : n ≠ k := fun e => hnk (e ▸ Inr.rf)
  have jn : ¬ nodeN s lf j := by
    rintro (z | z)
    · have := hW.1
      omega
    · exact z.2.2 jf
  have j_n : j ≠ n := fun e => jn (e ▸ hn)
  have j_k : j ≠ k := fun e => jn (e ▸ hk)
  have Lj : gL lf j n j = nI n := if_pos rfl
  have Rj : gR rt j n k j = nI k := if_pos rfl
  have Pj : gP pa j n k j = pa n := if_pos rfl
  have Pn : gP pa j n k n = nI j := by unfold gP; rw [if_neg (fun e => j_n e.symm), if_pos (Or.inl rfl)]
  have Pk : gP pa j n k k = nI j := by unfold gP; rw [if_neg (fun e => j_k e.symm), if_pos (Or.inr rfl)]
  have Px : ∀ x, x ≠ j → x ≠ n → x ≠ k → gP pa j n k x = pa x := fun x h1 h2 h3 => by unfold gP; rw [if_neg h1, if_neg (fun z => z.elim h2 h3)]
  have Lx : ∀ x, x ≠ j → gL lf j n x = if lf x = nI n then nI j else lf x := fun x h => if_neg h
  have Rx : ∀ x, x ≠ j → gR rt j n k x = if rt x = nI n then nI j else rt x := fun x h => if_neg h
  have Lne : ∀ x, x ≠ j → (gL lf j n x = -1 ↔ lf x = -1) := by
    intro x hx
    rw [Lx x hx]
    by_cases e : lf x = nI n
    · rw [if_pos e, e]
      exact ⟨fun z => absurd z (nI_ne1 (by omega)), fun z => absurd z (nI_ne1 (by omega))⟩
    · rw [if_neg e]
  have node : ∀ x, nodeN s (gL lf j n) x ↔ x = j ∨ nodeN s lf x := by
    intro x
    unfold nodeN
    by_cases e : x = j
    · subst e
      exact ⟨fun _ => Or.inl rfl, fun _ => Or.inr ⟨j8, j15, by rw [Lj]; exact nI_ne1 (by omega)⟩⟩
    · constructor
      · rintro (h | ⟨a, b, c⟩)
        · exact Or.inr (Or.inl h)
        · exact Or.inr (Or.inr ⟨a, b, fun z => c ((Lne x e).mpr z)⟩)
      · rintro (h | h | ⟨a, b, c⟩)
        · exact absurd h e
        · exact Or.inl h
        · exact Or.inr ⟨a, b, fun z => c ((Lne x e).mp z)⟩
  refine ⟨hW.1, fun x hx h => ?_, fun x hx h => ?_, fun x x8 x15 hl => ?_, fun x hx hp => ?_, fun x => if x = j then ρ n else cif (Inr pa ρ x n) (ρ x + 1) (cif (Inr pa ρ x k) (ρ x + ρ n + 1) (ρ x)), fun x hx => ?_⟩
  · have hxj : x ≠ j := fun e => by
      subst e
      rcases h with h | h
      · omega
      · rw [Lj] at h
        exact nI_ne1 (by omega) h
    rw [Lne x hxj] at h ⊢
    have h1 := hW.2.1 x hx h
    refine ⟨h1.1, ?_⟩
    rw [Rx x hxj, if_neg (fun e => nI_ne1 (by omega) (e.symm.trans h1.2))]
    exact h1.2
  · have hn' : x ≠ j ∧ ¬ nodeN s lf x := ⟨fun e => h ((node x).mpr (Or.inl e)), fun e => h ((node x).mpr (Or.inr e))⟩
    rw [Px x hn'.1 (fun e => hn'.2 (e ▸ hn)) (fun e => hn'.2 (e ▸ hk))]
    exact hW.2.2.1 x hx hn'.2
  · by_cases e : x = j
    · subst e
      exact ⟨n, k, Lj, Rj, (node n).mpr (Or.inr hn), (node k).mpr (Or.inr hk), nk, Pn, Pk⟩
    · have hl' : lf x ≠ -1 := fun z => hl ((Lne x e).mpr z)
      obtain ⟨a, b, ea, eb, na, nb, nab, pa_a, pa_b⟩ := hW.dn x8 x15 hl'
      have la := hW.lt na
      have lb := hW.lt nb
      have a_j : a ≠ j := fun z => jn (z ▸ na)
      have b_j : b ≠ j := fun z => jn (z ▸ nb)
      have a_k : a ≠ k := fun z => by
        subst z
        exact nI_ne1 (by omega) (pa_a.symm.trans hkt)
      have b_k : b ≠ k := fun z => by
        subst z
        exact nI_ne1 (by omega) (pa_b.symm.trans hkt)
      by_cases an : a = n
      · subst an
        refine ⟨j, b, ?_, ?_, (node j).mpr (Or.inl rfl), (node b).mpr (Or.inr nb), fun z => b_j z.symm, ?_, ?_⟩
        · rw [Lx x e, if_pos ea]
        · rw [Rx x e, if_neg (fun z => nab (nI_inj (by omega) (by omega) (z.symm.trans eb))), eb]
        · rw [Pj, pa_a]
        · rw [Px b b_j (fun z => nab z.symm) b_k, pa_b]
      · by_cases bn : b = n
        · subst bn
          refine ⟨a, j, ?_, ?_, (node a).mpr (Or.inr na), (node j).mpr (Or.inl rfl), a_j, ?_, ?_⟩
          · rw [Lx x e, if_neg (fun z => nab (nI_inj (by omega) (by omega) (ea.symm.trans z))), ea]
          · rw [Rx x e, if_pos eb]
          · rw [Px a a_j an a_k, pa_a]
          · rw [Pj, pa_b]
        · refine ⟨a, b, ?_, ?_, (node a).mpr (Or.inr na), (node b).mpr (Or.inr nb), nab, ?_, ?_⟩
          · rw [Lx x e, if_neg (fun z => an (nI_inj (by omega) (by omega) (ea.symm.trans z))), ea]
          · rw [Rx x e, if_neg (fun z => bn (nI_inj (by omega) (by omega) (eb.symm.trans z))), eb]
          · rw [Px a a_j an a_k, pa_a]
          · rw [Px b b_j bn b_k, pa_b]
  · by_cases e : x = j
    · subst e
      rw [Pj] at hp ⊢
      obtain ⟨p, p1, p2, p3, p4, p5, p6⟩ := hW.up hn hp
      have pj : p ≠ x := fun z => jn (z ▸ p5)
      refine ⟨p, p1, p2, p3, ?_⟩
      rw [Lx p pj, Rx p pj]
      rcases p6 with z | z
      · exact Or.inl (if_pos z)
      · exact Or.inr (if_pos z)
    · have hx' : nodeN s lf x := ((node x).mp hx).resolve_left e
      have lx := hW.lt hx'
      by_cases xn : x = n
      · subst xn
        exact ⟨j, j8, j15, Pn, Or.inl Lj⟩
      · by_cases xk : x = k
        · subst xk
          exact ⟨j, j8, j15, Pk, Or.inr Rj⟩
        · rw [Px x e xn xk] at hp ⊢
          obtain ⟨p, p1, p2, p3, p4, p5, p6⟩ := hW.up hx' hp
          have pj : p ≠ j := fun z => jn (z ▸ p5)
          refine ⟨p, p1, p2, p3, ?_⟩
          rw [Lx p pj, Rx p pj]
          rcases p6 with z | z
          · exact Or.inl (by rw [if_neg (fun y => xn (nI_inj (by omega) (by omega) (z.symm.trans y)))]; exact z)
          · exact Or.inr (by rw [if_neg (fun y => xn (nI_inj (by omega) (by omega) (z.symm.trans y)))]; exact z)
  · dsimp only
    have kn : ¬ Inr pa ρ k n := fun z => nk ((Inr.top hρ hk hkt).mp z).symm
    by_cases e : x = j
    · subst e
      rw [Pj, if_pos rfl]
      refine ⟨(hρ n hn).1, fun p p15 hp => ?_⟩
      have hne : pa n ≠ -1 := fun z => nI_ne1 (by omega) (hp.symm.trans z)
      obtain ⟨p', p1, p2, p3, p4, p5, p6⟩ := hW.up hn hne
      have : p' = p := nI_inj (by omega) (by omega) (p3.symm.trans hp)
      subst this
      have h1 := (hρ n hn).2 p' p15 hp
      rw [if_neg (show ¬ p' = x from fun z => jn (z ▸ p5)), cif_n (fun z => by have := Inr.le hW hρ p5 z; omega), cif_n (fun z => hnk ((Inr.st hρ hn p15 hp).mpr (Or.inr z)))]
      exact h1
    · have hx' : nodeN s lf x := ((node x).mp hx).resolve_left e
      have lx := hW.lt hx'
      rw [if_neg e]
      by_cases xn : x = n
      · subst xn
        rw [Pn]
        refine ⟨fun z => absurd z (nI_ne1 (by omega)), fun p p15 hp => ?_⟩
        have : j = p := nI_inj (by omega) (by omega) hp
        subst this
        rw [if_pos rfl, cif_p Inr.rf]
      · by_cases xk : x = k
        · subst xk
          rw [Pk]
          refine ⟨fun z => absurd z (nI_ne1 (by omega)), fun p p15 hp => ?_⟩
          have : j = p := nI_inj (by omega) (by omega) hp
          subst this
          rw [if_pos rfl, cif_n kn, cif_p Inr.rf, (hρ x hk).1 hkt, Nat.zero_add]
        · rw [Px x e xn xk]
          refine ⟨fun hp => ?_, fun p p15 hp => ?_⟩
          · rw [cif_n (fun z => xn ((Inr.top hρ hx' hp).mp z)), cif_n (fun z => xk ((Inr.top hρ hx' hp).mp z))]
            exact (hρ x hx').1 hp
          · have hne : pa x ≠ -1 := fun z => nI_ne1 (by omega) (hp.symm.trans z)
            obtain ⟨p', p1, p2, p3, p4, p5, p6⟩ := hW.up hx' hne
            have : p' = p := nI_inj (by omega) (by omega) (p3.symm.trans hp)
            subst this
            have h1 := (hρ x hx').2 p' p15 hp
            have i1 : Inr pa ρ x n ↔ Inr pa ρ p' n := (Inr.st hρ hx' p15 hp).trans ⟨fun z => z.resolve_left xn, Or.inr⟩
            have i2 : Inr pa ρ x k ↔ Inr pa ρ p' k := (Inr.st hρ hx' p15 hp).trans ⟨fun z => z.resolve_left xk, Or.inr⟩
            rw [if_neg (show ¬ p' = j from fun z => jn (z ▸ p5)), cif_iff i1, cif_iff i2, h1]
            by_cases q1 : Inr pa ρ p' n
            · rw [cif_p q1, cif_p q1]
            · rw [cif_n q1, cif_n q1]
              by_cases q2 : Inr pa ρ p' k
              · rw [cif_p q2, cif_p q2]
                omega
              · rw [cif_n q2, cif_n q2]
/-! exchange -/
def xF (f : Nat → Int32) (a b : Nat) : Nat → Int32 := fun x => if f x = nI a then nI b else if f x = nI b then nI a else f x
def xP (pa : Nat → Int32) (a b : Nat) : Nat → Int32 := fun x => if x = a then pa b else if x = b then pa a else pa x
theorem WFt.exch (hW : WFt s lf rt pa) {a b : Nat} (ha : nodeN s lf a) (hb : nodeN s lf b) (hpa : pa a ≠ -1) (hpb : pa b ≠ -1) (hpp : pa a ≠ pa b) (hρ : Dep s lf pa ρ) (hab : ¬ Inr pa ρ a b) (hba : ¬ Inr pa ρ b a) : WFt s (xF lf a b) (xF rt a b) (xP pa a b) := by
  have la := hW.lt ha
  have lb := hW.lt hb
  have a_b : a ≠ b := fun e => hpp (by rw [e])
  obtain ⟨p, p1, p2, p3, p4, p5, p6⟩ := hW.up ha hpa
  obtain ⟨q, q1, q2, q3, q4, q5, q6⟩ := hW.up hb hpb
  have p_q : p ≠ q := fun e => hpp (by rw [p3, q3, e])
  have Pa : xP pa a b a = pa b := if_pos rfl
  have Pb : xP pa a b b = pa a := by unfold xP; rw [if_neg (fun e => a_b e.symm), if_pos rfl]
  have Px : ∀ x, x ≠ a → x ≠ b → xP pa a b x = pa x := fun x h1 h2 => by unfold xP; rw [if_neg h1, if_neg h2]
  have Fa : ∀ (f : Nat → Int32) x, f x = nI a → xF f a b x = nI b := fun f x h => if_pos h
  have Fb : ∀ (f : Nat → Int32) x, f x = nI b → xF f a b x = nI a := fun f x h => by unfold xF; rw [if_neg (fun e => a_b (nI_inj (by omega) (by omega) (e.symm.trans h))), if_pos h]
  have Fx : ∀ (f : Nat → Int32) x, f x ≠ nI a → f x ≠ nI b → xF f a b x = f x := fun f x h1 h2 => by unfold xF; rw [if_neg h1, if_neg h2]
  have Fn : ∀ (f : Nat → Int32) x, xF f a b x = -1 ↔ f x = -1 := by
    intro f x
    by_cases h1 : f x = nI a
    · rw [Fa f x h1, h1]
      exact ⟨fun z => absurd z (nI_ne1 (by omega)), fun z => absurd z (nI_ne1 (by omega))⟩
    · by_cases h2 : f x = nI b
      · rw [Fb f x h2, h2]
        exact ⟨fun z => absurd z (nI_ne1 (by omega)), fun z => absurd z (nI_ne1 (by omega))⟩
      · rw [Fx f x h1 h2]
  have node : ∀ x, nodeN s (xF lf a b) x ↔ nodeN s lf x := by
    intro x
    unfold nodeN
    constructor
    · rintro (h | ⟨u, v, w⟩)
      · exact Or.inl h
      · exact Or.inr ⟨u, v, fun z => w ((Fn lf x).mpr z)⟩
    · rintro (h | ⟨u, v, w⟩)
      · exact Or.inl h
      · exact Or.inr ⟨u, v, fun z => w ((Fn lf x).mp z)⟩
  -- where a child goes
  have im : ∀ (x c : Nat) (f : Nat → Int32), nodeN s lf c → pa c = nI x → x < 15 → f x = nI c → ∃ c', xF f a b x = nI c' ∧ nodeN s lf c' ∧ xP pa a b c' = nI x ∧ (c = a ∧ c' = b ∨ c = b ∧ c' = a ∨ c ≠ a ∧ c ≠ b ∧ c' = c) := by
    intro x c f hc hpc hx hf
    have lc := hW.lt hc
    by_cases h1 : c = a
    · subst h1
      exact ⟨b, Fa f x hf, hb, by rw [Pb]; exact hpc, Or.inl ⟨rfl, rfl⟩⟩
    · by_cases h2 : c = b
      · subst h2
        exact ⟨a, Fb f x hf, ha, by rw [Pa]; exact hpc, Or.inr (Or.inl ⟨rfl, rfl⟩)⟩
      · exact ⟨c, by rw [Fx f x (fun z => h1 (nI_inj (by omega) (by omega) (hf.symm.trans z))) (fun z => h2 (nI_inj (by omega) (by omega) (hf.symm.trans z)))]; exact hf, hc, by rw [Px c h1 h2]; exact hpc, Or.inr (Or.inr ⟨h1, h2, rfl⟩)⟩
  refine ⟨hW.1, fun x hx h => ?_, fun x hx h => ?_, fun x x8 x15 hl => ?_, fun x hx hp => ?_, fun x => cif (Inr pa ρ x a) (ρ x - ρ a + ρ b) (cif (Inr pa ρ x b) (ρ x - ρ b + ρ a) (ρ x)), fun x hx => ?_⟩
  · rw [Fn] at h ⊢
    rw [Fn]
    exact hW.2.1 x hx h
  · have hn' : ¬ nodeN s lf x := fun z => h ((node x).mpr z)
    rw [Px x (fun e => hn' (e ▸ ha)) (fun e => hn' (e ▸ hb))]
    exact hW.2.2.1 x hx hn'
  · have hl' : lf x ≠ -1 := fun z => hl ((Fn lf x).mpr z)
    obtain ⟨u, v, eu, ev, nu, nv, nuv, pu, pv⟩ := hW.dn x8 x15 hl'
    obtain ⟨u', w1, w2, w3, w4⟩ := im x u lf nu pu x15 eu
    obtain ⟨v', z1, z2, z3, z4⟩ := im x v rt nv pv x15 ev
    refine ⟨u', v', w1, z1, (node u').mpr w2, (node v').mpr z2, fun e => ?_, w3, z3⟩
    have key : ¬ (u = a ∧ v = b) ∧ ¬ (u = b ∧ v = a) := by
      refine ⟨fun ⟨g1, g2⟩ => ?_, fun ⟨g1, g2⟩ => ?_⟩
      · subst g1; subst g2
        exact hpp (pu.trans pv.symm)
      · subst g1; subst g2
        exact hpp (pv.trans pu.symm)
    omega
  · have hx' := (node x).mp hx
    have lx := hW.lt hx'
    by_cases xa : x = a
    · subst xa
      rw [Pa]
      refine ⟨q, q1, q2, q3, ?_⟩
      rcases q6 with z | z
      · exact Or.inl (Fb lf q z)
      · exact Or.inr (Fb rt q z)
    · by_cases xb : x = b
      · subst xb
        rw [Pb]
        refine ⟨p, p1, p2, p3, ?_⟩
        rcases p6 with z | z
        · exact Or.inl (Fa lf p z)
        · exact Or.inr (Fa rt p z)
      · rw [Px x xa xb] at hp ⊢
        obtain ⟨r, r1, r2, r3, r4, r5, r6⟩ := hW.up hx' hp
        refine ⟨r, r1, r2, r3, ?_⟩
        rcases r6 with z | z
        · exact Or.inl (by rw [Fx lf r (fun y => xa (nI_inj (by omega) (by omega) (z.symm.trans y))) (fun y => xb (nI_inj (by omega) (by omega) (z.symm.trans y)))]; exact z)
        · exact Or.inr (by rw [Fx rt r (fun y => xa (nI_inj (by omega) (by omega) (z.symm.trans y))) (fun y => xb (nI_inj (by omega) (by omega) (z.symm.trans y)))]; exact z)
  · dsimp only
    have hx' := (node x).mp hx
    have lx := hW.lt hx'
    have ra := (hρ a ha).2 p p2 p3
    have rb := (hρ b hb).2 q q2 q3
    have pa' : ¬ Inr pa ρ p a := fun z => by have := Inr.le hW hρ p5 z; omega
    have pb' : ¬ Inr pa ρ p b := fun z => hab ((Inr.st hρ ha p2 p3).mpr (Or.inr z))
    have qa' : ¬ Inr pa ρ q a := fun z => hba ((Inr.st hρ hb q2 q3).mpr (Or.inr z))
    have qb' : ¬ Inr pa ρ q b := fun z => by have := Inr.le hW hρ q5 z; omega
    by_cases xa : x = a
    · subst xa
      rw [Pa]
      refine ⟨fun z => absurd z hpb, fun r r15 hr => ?_⟩
      have : q = r := nI_inj (by omega) (by omega) (q3.symm.trans hr)
      subst this
      rw [cif_p Inr.rf, cif_n qa', cif_n qb']
      omega
    · by_cases xb : x = b
      · subst xb
        rw [Pb]
        refine ⟨fun z => absurd z hpa, fun r r15 hr => ?_⟩
        have : p = r := nI_inj (by omega) (by omega) (p3.symm.trans hr)
        subst this
        rw [cif_n hba, cif_p Inr.rf, cif_n pa', cif_n pb']
        omega
      · rw [Px x xa xb]
        refine ⟨fun hp => ?_, fun r r15 hp => ?_⟩
        · rw [cif_n (fun z => xa ((Inr.top hρ hx' hp).mp z)), cif_n (fun z => xb ((Inr.top hρ hx' hp).mp z))]
          exact (hρ x hx').1 hp
        · have hne : pa x ≠ -1 := fun z => nI_ne1 (by omega) (hp.symm.trans z)
          obtain ⟨r', r1, r2, r3, r4, r5, r6⟩ := hW.up hx' hne
          have : r' = r := nI_inj (by omega) (by omega) (r3.symm.trans hp)
          subst this
          have h1 := (hρ x hx').2 r' r15 hp
          have i1 : Inr pa ρ x a ↔ Inr pa ρ r' a := (Inr.st hρ hx' r15 hp).trans ⟨fun z => z.resolve_left xa, Or.inr⟩
          have i2 : Inr pa ρ x b ↔ Inr pa ρ r' b := (Inr.st hρ hx' r15 hp).trans ⟨fun z => z.resolve_left xb, Or.inr⟩
          rw [cif_iff i1, cif_iff i2, h1]
          by_cases g1 : Inr pa ρ r' a
          · have := Inr.le hW hρ r5 g1
            rw [cif_p g1, cif_p g1]
            omega
          · rw [cif_n g1, cif_n g1]
            by_cases g2 : Inr pa ρ r' b
            · have := Inr.le hW hρ r5 g2
              rw [cif_p g2, cif_p g2]
              omega
            · rw [cif_n g2, cif_n g2]
end
end
section
section
variable {s : Nat} {lf rt pa : Nat → Int32} {ρ : Nat → Nat}
/-! cut -/
def cF (f : Nat → Int32) (p o : Nat) : Nat → Int32 := fun x => if x = p then -1 else if f x = nI p then nI o else f x
def cP (pa : Nat → Int32) (p n o : Nat) : Nat → Int32 := fun x => if x = p ∨ x = n then -1 else if x = o then pa p else pa x
theorem WFt.cut (hW : WFt s lf rt pa) {n p o : Nat} (hn : nodeN s lf n) (ho : nodeN s lf o) (hno : n ≠ o) (p8 : 8 ≤ p) (p15 : p < 15) (hpn : pa n = nI p) (hpo : pa o = nI p) : WFt s (cF lf p o) (cF rt p o) (cP pa p n o) := by
  obtain ⟨ρ, hρ⟩ : ∃ ρ, Dep s lf pa ρ := hW.2.2.2.2.2
  have ln := hW.lt hn
  have lo := hW.lt ho
  have rn := (hρ n hn).2 p p15 hpn
  have ro := (hρ o ho).2 p p15 hpo
  have hpl : lf p ≠ -1 := by
    obtain ⟨q, q1, q2, q3, q4, _⟩ := hW.up hn (by rw [hpn]; exact nI_ne1 (by omega))
    have : q = p := nI_inj (by omega) (by omega) (q3.symm.trans hpn)
    subst this
    exact q4
  have hp : nodeN s lf p := Or.inr ⟨p8, p15, hpl⟩
  have n_p : n ≠ p := fun e => by rw [e] at rn; omega
  have o_p : o ≠ p := fun e => by rw [e] at ro; omega
  -- p's children are n and o alone
  have kids : ∀ x, nodeN s lf x → pa x = nI p → x = n ∨ x = o := by
    intro x hx hpx
    obtain ⟨a, b, ea, eb, na, nb, nab, pa_a, pa_b⟩ := hW.dn p8 p15 hpl
    have la := hW.lt na
    have lb := hW.lt nb
    have key : ∀ y, nodeN s lf y → pa y = nI p → y = a ∨ y = b := by
      intro y hy hpy
      have ly := hW.lt hy
      obtain ⟨q, q1, q2, q3, q4, q5, q6⟩ := hW.up hy (by rw [hpy]; exact nI_ne1 (by omega))
      have : q = p := nI_inj (by omega) (by omega) (q3.symm.trans hpy)
      subst this
      rcases q6 with z | z
      · exact Or.inl (nI_inj (by omega) (by omega) (z.symm.trans ea))
      · exact Or.inr (nI_inj (by omega) (by omega) (z.symm.trans eb))
    have k1 := key n hn hpn
    have k2 := key o ho hpo
    have k3 := key x hx hpx
    omega
  have Fp : ∀ f : Nat → Int32, cF f p o p = -1 := fun f => if_pos rfl
  have Fr : ∀ (f : Nat → Int32) x, x ≠ p → f x = nI p → cF f p o x = nI o := fun f x h1 h2 => by unfold cF; rw [if_neg h1, if_pos h2]
  have Fx : ∀ (f : Nat → Int32) x, x ≠ p → f x ≠ nI p → cF f p o x = f x := fun f x h1 h2 => by unfold cF; rw [if_neg h1, if_neg h2]
  have Fn : ∀ (f : Nat → Int32) x, x ≠ p → (cF f p o x = -1 ↔ f x = -1) := by
    intro f x hx
    by_cases h : f x = nI p
    · rw [Fr f x hx h, h]
      exact ⟨fun z => absurd z (nI_ne1 (by omega)), fun z => absurd z (nI_ne1 (by omega))⟩
    · rw [Fx f x hx h]
  have Pp : cP pa p n o p = -1 := if_pos (Or.inl rfl)
  have Pn : cP pa p n o n = -1 := if_pos (Or.inr rfl)
  have Po : cP pa p n o o = pa p := by unfold cP; rw [if_neg (fun z => z.elim o_p (fun y => hno y.symm)), if_pos rfl]
  have Px : ∀ x, x ≠ p → x ≠ n → x ≠ o → cP pa p n o x = pa x := fun x h1 h2 h3 => by unfold cP; rw [if_neg (fun z => z.elim h1 h2), if_neg h3]
  have node : ∀ x, nodeN s (cF lf p o) x ↔ nodeN s lf x ∧ x ≠ p := by
    intro x
    unfold nodeN
    constructor
    · rintro (h | ⟨u, v, w⟩)
      · exact ⟨Or.inl h, by have := hW.1; omega⟩
      · have hx : x ≠ p := fun e => by subst e; exact w (Fp lf)
        exact ⟨Or.inr ⟨u, v, fun z => w ((Fn lf x hx).mpr z)⟩, hx⟩
    · rintro ⟨h | ⟨u, v, w⟩, hx⟩
      · exact Or.inl h
      · exact Or.inr ⟨u, v, fun z => w ((Fn lf x hx).mp z)⟩
  -- where a child goes
  have im : ∀ (x c : Nat) (f : Nat → Int32), x ≠ p → nodeN s lf c → pa c = nI x → x < 15 → f x = nI c → ∃ c', cF f p o x = nI c' ∧ nodeN s lf c' ∧ c' ≠ p ∧ cP pa p n o c' = nI x ∧ (c = p ∧ c' = o ∨ c ≠ p ∧ c' = c ∧ c ≠ o) := by
    intro x c f hx hc hpc hx15 hf
    have lc := hW.lt hc
    by_cases h1 : c = p
    · subst h1
      exact ⟨o, Fr f x hx hf, ho, o_p, by rw [Po]; exact hpc, Or.inl ⟨rfl, rfl⟩⟩
    · have c_n : c ≠ n := fun e => by
        subst e
        exact hx (nI_inj (by omega) (by omega) (hpc.symm.trans hpn))
      have c_o : c ≠ o := fun e => by
        subst e
        exact hx (nI_inj (by omega) (by omega) (hpc.symm.trans hpo))
      exact ⟨c, by rw [Fx f x hx (fun z => h1 (nI_inj (by omega) (by omega) (hf.symm.trans z)))]; exact hf, hc, h1, by rw [Px c h1 c_n c_o]; exact hpc, Or.inr ⟨h1, rfl, c_o⟩⟩
  refine ⟨hW.1, fun x hx h => ?_, fun x hx h => ?_, fun x x8 x15 hl => ?_, fun x hx hpx => ?_, fun x => cif (Inr pa ρ x n) (ρ x - ρ n) (cif (Inr pa ρ x o) (ρ x - 1) (ρ x)), fun x hx => ?_⟩
  · by_cases e : x = p
    · subst e
      exact ⟨Fp lf, Fp rt⟩
    · rw [Fn lf x e] at h ⊢
      rw [Fn rt x e]
      exact hW.2.1 x hx h
  · by_cases e : x = p
    · subst e
      exact Pp
    · have hn' : ¬ nodeN s lf x := fun z => h ((node x).mpr ⟨z, e⟩)
      rw [Px x e (fun y => hn' (y ▸ hn)) (fun y => hn' (y ▸ ho))]
      exact hW.2.2.1 x hx hn'
  · have xp : x ≠ p := fun e => by subst e; exact hl (Fp lf)
    have hl' : lf x ≠ -1 := fun z => hl ((Fn lf x xp).mpr z)
    obtain ⟨u, v, eu, ev, nu, nv, nuv, pu, pv⟩ := hW.dn x8 x15 hl'
    obtain ⟨u', w1, w2, w3, w4, w5⟩ := im x u lf xp nu pu x15 eu
    obtain ⟨v', z1, z2, z3, z4, z5⟩ := im x v rt xp nv pv x15 ev
    refine ⟨u', v', w1, z1, (node u').mpr ⟨w2, w3⟩, (node v').mpr ⟨z2, z3⟩, ?_, w4, z4⟩
    omega
  · obtain ⟨hx', xp⟩ := (node x).mp hx
    have lx := hW.lt hx'
    by_cases xn : x = n
    · subst xn
      exact absurd Pn hpx
    · by_cases xo : x = o
      · subst xo
        rw [Po] at hpx ⊢
        obtain ⟨r, r1, r2, r3, r4, r5, r6⟩ := hW.up hp hpx
        have r_p : r ≠ p := fun e => by
          have := (hρ p hp).2 r r2 r3
          rw [e] at this
          omega
        refine ⟨r, r1, r2, r3, ?_⟩
        rcases r6 with z | z
        · exact Or.inl (Fr lf r r_p z)
        · exact Or.inr (Fr rt r r_p z)
      · rw [Px x xp xn xo] at hpx ⊢
        obtain ⟨r, r1, r2, r3, r4, r5, r6⟩ := hW.up hx' hpx
        have r_p : r ≠ p := fun e => by
          subst e
          rcases kids x hx' r3 with z | z
          · exact xn z
          · exact xo z
        refine ⟨r, r1, r2, r3, ?_⟩
        rcases r6 with z | z
        · exact Or.inl (by rw [Fx lf r r_p (fun y => xp (nI_inj (by omega) (by omega) (z.symm.trans y)))]; exact z)
        · exact Or.inr (by rw [Fx rt r r_p (fun y => xp (nI_inj (by omega) (by omega) (z.symm.trans y)))]; exact z)
  · dsimp only
    obtain ⟨hx', xp⟩ := (node x).mp hx
    have lx := hW.lt hx'
    have on : ¬ Inr pa ρ o n := fun z => by
      rcases (Inr.st hρ ho p15 hpo).mp z with y | y
      · exact hno y.symm
      · have := Inr.le hW hρ hp y
        omega
    by_cases xn : x = n
    · subst xn
      rw [Pn]
      refine ⟨fun _ => by rw [cif_p Inr.rf]; omega, fun r r15 hr => absurd hr.symm (nI_ne1 (by omega))⟩
    · by_cases xo : x = o
      · subst xo
        rw [Po, cif_n on, cif_p Inr.rf]
        refine ⟨fun z => ?_, fun r r15 hr => ?_⟩
        · have := (hρ p hp).1 z
          omega
        · have h1 := (hρ p hp).2 r r15 hr
          have hne : pa p ≠ -1 := fun z => nI_ne1 (by omega) (hr.symm.trans z)
          obtain ⟨r', r1, r2, r3, r4, r5, r6⟩ := hW.up hp hne
          have : r' = r := nI_inj (by omega) (by omega) (r3.symm.trans hr)
          subst this
          rw [cif_n (fun z => by have := Inr.le hW hρ r5 z; omega), cif_n (fun z => by have := Inr.le hW hρ r5 z; omega)]
          omega
      · rw [Px x xp xn xo]
        refine ⟨fun hpx => ?_, fun r r15 hpx => ?_⟩
        · rw [cif_n (fun z => xn ((Inr.top hρ hx' hpx).mp z)), cif_n (fun z => xo ((Inr.top hρ hx' hpx).mp z))]
          exact (hρ x hx').1 hpx
        · have hne : pa x ≠ -1 := fun z => nI_ne1 (by omega) (hpx.symm.trans z)
          obtain ⟨r', r1, r2, r3, r4, r5, r6⟩ := hW.up hx' hne
          have : r' = r := nI_inj (by omega) (by omega) (r3.symm.trans hpx)
          subst this
          have h1 := (hρ x hx').2 r' r15 hpx
          have i1 : Inr pa ρ x n ↔ Inr pa ρ r' n := (Inr.st hρ hx' r15 hpx).trans ⟨fun z => z.resolve_left xn, Or.inr⟩
          have i2 : Inr pa ρ x o ↔ Inr pa ρ r' o := (Inr.st hρ hx' r15 hpx).trans ⟨fun z => z.resolve_left xo, Or.inr⟩
          rw [cif_iff i1, cif_iff i2, h1]
          by_cases g1 : Inr pa ρ r' n
          · have := Inr.le hW hρ r5 g1
            rw [cif_p g1, cif_p g1]
            omega
          · rw [cif_n g1, cif_n g1]
            by_cases g2 : Inr pa ρ r' o
            · have := Inr.le hW hρ r5 g2
              rw [cif_p g2, cif_p g2]
              omega
            · rw [cif_n g2, cif_n g2]
/-! a new sink; no joints -/
theorem WFt.sink (hW : WFt s lf rt pa) (h8 : s < 8) : WFt (s + 1) lf rt pa := by
  have mono : ∀ n, nodeN s lf n → nodeN (s + 1) lf n := fun n h => h.elim (fun z => Or.inl (by omega)) Or.inr
  have back : ∀ n, nodeN (s + 1) lf n → n = s ∨ nodeN s lf n := fun n h => by
    rcases h with z | z
    · rcases Nat.lt_or_ge n s with y | y
      · exact Or.inr (Or.inl y)
      · exact Or.inl (by omega)
    · exact Or.inr (Or.inr z)
  have hs : ¬ nodeN s lf s := by
    rintro (z | z)
    · omega
    · omega
  have hps := hW.2.2.1 s (by omega) hs
  obtain ⟨ρ, hρ⟩ := hW.2.2.2.2.2
  refine ⟨by omega, hW.2.1, fun n hn h => hW.2.2.1 n hn (fun z => h (mono n z)), fun j j8 j15 hl => ?_, fun n hn hp => ?_, fun n => if n = s then 0 else ρ n, fun n hn => ?_⟩
  · obtain ⟨a, b, ea, eb, na, nb, r⟩ := hW.dn j8 j15 hl
    exact ⟨a, b, ea, eb, mono a na, mono b nb, r⟩
  · rcases back n hn with z | z
    · subst z
      exact absurd hps hp
    · exact hW.2.2.2.2.1 n z hp
  · dsimp only
    rcases back n hn with z | z
    · subst z
      rw [if_pos rfl, hps]
      exact ⟨fun _ => rfl, fun j hj e => absurd e.symm (nI_ne1 (by omega))⟩
    · have hne : n ≠ s := fun e => hs (e ▸ z)
      rw [if_neg hne]
      refine ⟨(hρ n z).1, fun j hj e => ?_⟩
      have hpn : pa n ≠ -1 := fun y => nI_ne1 (by omega) (e.symm.trans y)
      obtain ⟨j', j1, j2, j3, j4, j5, _⟩ := hW.up z hpn
      have : j' = j := nI_inj (by omega) (by omega) (j3.symm.trans e)
      subst this
      rw [if_neg (show ¬ j' = s from by omega)]
      exact (hρ n z).2 j' hj e
theorem WFt.none (h8 : s ≤ 8) (h1 : ∀ n, n < 15 → lf n = -1) (h2 : ∀ n, n < 15 → rt n = -1) (h3 : ∀ n, n < 15 → pa n = -1) : WFt s lf rt pa := by
  refine ⟨h8, fun n hn _ => ⟨h1 n hn, h2 n hn⟩, fun n hn _ => h3 n hn, fun j j8 j15 hl => absurd (h1 j j15) hl, fun n hn hp => ?_, fun _ => 0, fun n hn => ?_⟩
  · exact absurd (h3 n (hn.lt h8)) hp
  · refine ⟨fun _ => rfl, fun j hj e => ?_⟩
    rw [h3 n (hn.lt h8)] at e
    exact absurd e.symm (nI_ne1 (by omega))
end
end
section
/-! THE CLASS'S CHANGES OF A TREE, pointwise -/
section
variable {σ : cw_V} {t s : Nat} {ρ : Nat → Nat}
theorem wi_iff (hW : WF σ t s) (hρ : Dep s (σ (t + 6)) (σ (t + 8)) ρ) {a : Nat} (ha : a < 15) : ∀ (m x : Nat), nodeN s (σ (t + 6)) x → ρ x < m → (wiF σ t (nI a) m (nI x) ↔ Inr (σ (t + 8)) ρ x a) := by
  intro m
  induction m with
  | zero => intro x hx h; omega
  | succ m ih =>
    intro x hx h
    have lx := hW.2.lt hx
    have hpof : pof σ t (nI x) = σ (t + 8) x := by rw [pof_1 (hW.node hx), nI_clamp (by omega)]
    show (nI x ≠ -1 ∧ (nI x = nI a ∨ wiF σ t (nI a) m (pof σ t (nI x)))) ↔ _
    rw [hpof, nI_eq (by omega) (by omega)]
    by_cases hp : σ (t + 8) x = -1
    · rw [hp, Inr.top hρ hx hp]
      have hno : ¬ wiF σ t (nI a) m (-1) := by
        cases m with
        | zero => exact fun z => z
        | succ m => exact fun z => z.1 rfl
      exact ⟨fun z => z.2.resolve_right hno, fun z => ⟨nI_ne1 (by omega), Or.inl z⟩⟩
    · obtain ⟨j, j1, j2, j3, j4, j5, j6⟩ := hW.2.up hx hp
      have := (hρ x hx).2 j j2 j3
      rw [j3, Inr.st hρ hx j2 j3, ih j j5 (by omega)]
      exact ⟨fun z => z.2, fun z => ⟨nI_ne1 (by omega), z⟩⟩
theorem wi_in (hW : WF σ t s) (hρ : Dep s (σ (t + 6)) (σ (t + 8)) ρ) {a x : Nat} (ha : a < 15) (hx : nodeN s (σ (t + 6)) x) : wiF σ t (nI a) 15 (nI x) ↔ Inr (σ (t + 8)) ρ x a := wi_iff hW hρ ha 15 x hx (by have := hW.2.depth hρ hx; omega)
/-- rows other than those of the joints stay; those three become f, g, h -/
def TR (σ τ : cw_V) (t : Nat) (f g h : Nat → Int32) : Prop := (∀ p, p ≠ t + 6 → p ≠ t + 7 → p ≠ t + 8 → τ p = σ p) ∧ (∀ x, x < 15 → τ (t + 6) x = f x) ∧ (∀ x, x < 15 → τ (t + 7) x = g x) ∧ ∀ x, x < 15 → τ (t + 8) x = h x
theorem TR.wf {τ : cw_V} {f g h : Nat → Int32} (hT : TR σ τ t f g h) (h8 : σ t 8 = nI s) (hW : WFt s f g h) : WF τ t s := by
  refine ⟨?_, hW.congr hT.2.1 hT.2.2.1 hT.2.2.2⟩
  rw [hT.1 t (by omega) (by omega) (by omega)]
  exact h8
theorem rcF_ne {a b m : Int32} {p : Nat} (h1 : p ≠ t + 6) (h2 : p ≠ t + 7) (h3 : p ≠ t + 8) : rcF σ t a b m p = σ p := by
  by_cases hj : hJoint σ t a
  · by_cases e : σ (t + 6) a.toNatClampNeg = b
    · rw [rcF_l hj e, up_ne h1, up_ne h3]
    · rw [rcF_r hj e, up_ne h2, up_ne h3]
  · rw [rcF_0 hj, up_ne h3]
/-- a joint in place of a child: rows pointwise, where the joint above is none or p -/
theorem TR.graft (hW : WF σ t s) {j n k : Nat} (hj : isF (σ (t + 6)) j) (hn : nodeN s (σ (t + 6)) n) (hk : nodeN s (σ (t + 6)) k) (hnk : n ≠ k) : TR σ (grF σ t j (nI k) (nI n)) t (gL (σ (t + 6)) j n) (gR (σ (t + 7)) j n k) (gP (σ (t + 8)) j n k) := by
  obtain ⟨⟨j8, j15⟩, jf, -⟩ := hj
  have ln := hW.2.lt hn
  have lk := hW.2.lt hk
  have jn : ¬ nodeN s (σ (t + 6)) j := by
    rintro (z | z)
    · have := hW.2.1
      omega
    · exact z.2.2 jf
  have j_n : j ≠ n := fun e => jn (e ▸ hn)
  have j_k : j ≠ k := fun e => jn (e ▸ hk)
  have hpof : pof σ t (nI n) = σ (t + 8) n := by rw [pof_1 (hW.node hn), nI_clamp (by omega)]
  have cj : (nI j).toNatClampNeg = j := nI_clamp (by omega)
  have cn : (nI n).toNatClampNeg = n := nI_clamp (by omega)
  have ck : (nI k).toNatClampNeg = k := nI_clamp (by omega)
  have A6 := ajF_6 (σ := σ) (t := t) (j := j) (a := nI n) (b := nI k)
  have A7 := ajF_7 (σ := σ) (t := t) (j := j) (a := nI n) (b := nI k)
  have A8 := ajF_8 (σ := σ) (t := t) (j := j) (a := nI n) (b := nI k)
  rw [cn, ck] at A8
  have only := fun x (hx : x < 15) h => hW.2.only (x := x) (n := n) hx hn h
  unfold grF
  rw [hpof]
  have P8 : ∀ x, x < 15 → upd (upd (upd (upd (σ (t + 8)) j (-1)) n (nI j)) k (nI j)) j (σ (t + 8) n) x = gP (σ (t + 8)) j n k x := by
    intro x hx
    unfold gP
    by_cases e1 : x = j
    · rw [if_pos e1, e1, upd_eq]
    · rw [if_neg e1, upd_ne e1]
      by_cases e2 : x = k
      · rw [if_pos (Or.inr e2), e2, upd_eq]
      · rw [upd_ne e2]
        by_cases e3 : x = n
        · rw [if_pos (Or.inl e3), e3, upd_eq]
        · rw [if_neg (fun z => z.elim e3 e2), upd_ne e3, upd_ne e1]
  refine ⟨fun p h1 h2 h3 => by rw [rcF_ne h1 h2 h3, ajF_ne ⟨h1, h2, h3⟩], ?_⟩
  by_cases hp : σ (t + 8) n = -1
  · have hnj : ¬ hJoint (ajF σ t j (nI n) (nI k)) t (σ (t + 8) n) := fun z => by
      rw [hp] at z
      exact absurd z.1 (by decide)
    rw [rcF_0 hnj, cj]
    refine ⟨fun x hx => ?_, fun x hx => ?_, fun x hx => ?_⟩
    · rw [up_ne (by omega), A6]
      unfold gL
      by_cases e : x = j
      · rw [if_pos e, e, upd_eq]
      · rw [if_neg e, upd_ne e, if_neg (fun z => nI_ne1 (by omega) ((only x hx (Or.inl z)).1.symm.trans hp))]
    · rw [up_ne (by omega), A7]
      unfold gR
      by_cases e : x = j
      · rw [if_pos e, e, upd_eq]
      · rw [if_neg e, upd_ne e, if_neg (fun z => nI_ne1 (by omega) ((only x hx (Or.inr z)).1.symm.trans hp))]
    · rw [up_eq, A8]
      exact P8 x hx
  · obtain ⟨p, p1, p2, p3, p4, p5, p6⟩ := hW.2.up hn hp
    have pj : p ≠ j := fun z => jn (z ▸ p5)
    have cp : (nI p).toNatClampNeg = p := nI_clamp (by omega)
    obtain ⟨a, b, ea, eb, na, nb, nab, pa_a, pa_b⟩ := hW.2.dn p1 p2 p4
    have la := hW.2.lt na
    have lb := hW.2.lt nb
    have onlyp : ∀ x, x < 15 → (σ (t + 6) x = nI n ∨ σ (t + 7) x = nI n) → x = p := fun x hx h => nI_inj (by omega) (by omega) ((only x hx h).1.symm.trans p3)
    have hjp : hJoint (ajF σ t j (nI n) (nI k)) t (nI p) := by
      rw [hJoint_nI p1 p2, A6, upd_ne pj]
      exact p4
    rw [p3]
    rw [p3] at P8
    by_cases e : σ (t + 6) p = nI n
    · rw [rcF_l hjp (by rw [cp, A6, upd_ne pj]; exact e), cj, cp]
      have hrt : σ (t + 7) p ≠ nI n := fun z => nab (nI_inj (by omega) (by omega) (ea.symm.trans (e.trans (z.symm.trans eb))))
      refine ⟨fun x hx => ?_, fun x hx => ?_, fun x hx => ?_⟩
      · rw [up_eq, up_ne (by omega), A6]
        unfold gL
        by_cases e1 : x = j
        · rw [if_pos e1, e1, upd_ne (fun z => pj z.symm), upd_eq]
        · rw [if_neg e1]
          by_cases e2 : x = p
          · rw [e2, upd_eq, if_pos e]
          · rw [upd_ne e2, upd_ne e1, if_neg (fun z => e2 (onlyp x hx (Or.inl z)))]
      · rw [up_ne (by omega), up_ne (by omega), A7]
        unfold gR
        by_cases e1 : x = j
        · rw [if_pos e1, e1, upd_eq]
        · rw [if_neg e1, upd_ne e1, if_neg (fun z => hrt (onlyp x hx (Or.inr z) ▸ z))]
      · rw [up_ne (by omega), up_eq, A8]
        exact P8 x hx
    · have er : σ (t + 7) p = nI n := p6.resolve_left e
      rw [rcF_r hjp (by rw [cp, A6, upd_ne pj]; exact e), cj, cp]
      refine ⟨fun x hx => ?_, fun x hx => ?_, fun x hx => ?_⟩
      · rw [up_ne (by omega), up_ne (by omega), A6]
        unfold gL
        by_cases e1 : x = j
        · rw [if_pos e1, e1, upd_eq]
        · rw [if_neg e1, upd_ne e1, if_neg (fun z => e (onlyp x hx (Or.inl z) ▸ z))]
      · rw [up_eq, up_ne (by omega), A7]
        unfold gR
        by_cases e1 : x = j
        · rw [if_pos e1, e1, upd_ne (fun z => pj z.symm), upd_eq]
        · rw [if_neg e1]
          by_cases e2 : x = p
          · rw [e2, upd_eq, if_pos er]
          · rw [upd_ne e2, upd_ne e1, if_neg (fun z => e2 (onlyp x hx (Or.inr z)))]
      · rw [up_ne (by omega), up_eq, A8]
        exact P8 x hx
/-- two tops joined -/
theorem TR.join (hW : WF σ t s) {j n k : Nat} (hj : isF (σ (t + 6)) j) (hn : nodeN s (σ (t + 6)) n) (hk : nodeN s (σ (t + 6)) k) (hnk : n ≠ k) (hp : σ (t + 8) n = -1) : TR σ (ajF σ t j (nI n) (nI k)) t (gL (σ (t + 6)) j n) (gR (σ (t + 7)) j n k) (gP (σ (t + 8)) j n k) := by
  obtain ⟨⟨j8, j15⟩, jf, -⟩ := hj
  have ln := hW.2.lt hn
  have lk := hW.2.lt hk
  have jn : ¬ nodeN s (σ (t + 6)) j := by
    rintro (z | z)
    · have := hW.2.1
      omega
    · exact z.2.2 jf
  have j_n : j ≠ n := fun e => jn (e ▸ hn)
  have j_k : j ≠ k := fun e => jn (e ▸ hk)
  have cn : (nI n).toNatClampNeg = n := nI_clamp (by omega)
  have ck : (nI k).toNatClampNeg = k := nI_clamp (by omega)
  have only := fun x (hx : x < 15) h => hW.2.only (x := x) (n := n) hx hn h
  refine ⟨fun p h1 h2 h3 => ajF_ne ⟨h1, h2, h3⟩, fun x hx => ?_, fun x hx => ?_, fun x hx => ?_⟩
  · rw [ajF_6]
    unfold gL
    by_cases e : x = j
    · rw [if_pos e, e, upd_eq]
    · rw [if_neg e, upd_ne e, if_neg (fun z => nI_ne1 (by omega) ((only x hx (Or.inl z)).1.symm.trans hp))]
  · rw [ajF_7]
    unfold gR
    by_cases e : x = j
    · rw [if_pos e, e, upd_eq]
    · rw [if_neg e, upd_ne e, if_neg (fun z => nI_ne1 (by omega) ((only x hx (Or.inr z)).1.symm.trans hp))]
  · rw [ajF_8, cn, ck]
    unfold gP
    by_cases e1 : x = j
    · rw [if_pos e1, e1, upd_ne j_k, upd_ne j_n, upd_eq, hp]
    · rw [if_neg e1]
      by_cases e2 : x = k
      · rw [if_pos (Or.inr e2), e2, upd_eq]
      · rw [upd_ne e2]
        by_cases e3 : x = n
        · rw [if_pos (Or.inl e3), e3, upd_eq]
        · rw [if_neg (fun z => z.elim e3 e2), upd_ne e3, upd_ne e1]
end
end
section
/-! RULES, with values as they are known -/
section
variable {d M : Nat} {h0 : cw_H} {Q : cw_Q} {K : cw_KT} {pc nx : Nat} {L L' : cw_L} {S S' : List Value} {h h' : cw_H} {σ : cw_V} {lam : Nat → Int64}
theorem gi {p ci k : Nat} {v : Int32} (hK : cw_Kc d M h0 Q K) (hf : cw_tb M pc = some (s_get ci k nx)) (hs : cw_fR p ci k = some none) (hv : σ p k = v) (kk : K nx L (.int v :: S) (cw_B σ lam)) : K pc L (.ref p :: S) (cw_B σ lam) := st_geti hK hf hs (by rw [hv]; exact kk)
theorem ga {p n b st e : Nat} {i v : Int32} (hK : cw_Kc d M h0 Q K) (hf : cw_tb M pc = some (s_iald nx)) (hs : cw_aR p = some (0, n, b, st)) (hi : i = nI e) (he : e < n) (hn : Nat.ble n 1000 = true) (hv : σ p e = v) (kk : K nx L (.int v :: S) (cw_B σ lam)) : K pc L (.int i :: .ref p :: S) (cw_B σ lam) := by
  have hn' := Nat.le_of_ble_eq_true hn
  subst hi
  refine st_iald hK hf hs (cw_in_nI he (by omega)) ?_
  rw [nI_clamp (by omega), hv]
  exact kk
theorem sa {p n b st e : Nat} {i x : Int32} (hK : cw_Kc d M h0 Q K) (hf : cw_tb M pc = some (s_iast nx)) (hs : cw_aR p = some (0, n, b, st)) (hi : i = nI e) (he : e < n) (hn : Nat.ble n 1000 = true) (kk : K nx L S (cw_B (cw_up σ p e x) lam)) : K pc L (.int x :: .int i :: .ref p :: S) (cw_B σ lam) := by
  have hn' := Nat.le_of_ble_eq_true hn
  subst hi
  refine st_iast hK hf hs (cw_in_nI he (by omega)) ?_
  rw [nI_clamp (by omega)]
  exact kk
theorem gl {e : Nat} {i : Int32} (hK : cw_Kc d M h0 Q K) (hf : cw_tb M pc = some (s_lald nx)) (hs : cw_aR 35 = some (1, 15, 0, 0)) (hi : i = nI e) (he : e < 15) (kk : K nx L (.long (lam e) :: S) (cw_B σ lam)) : K pc L (.int i :: .ref 35 :: S) (cw_B σ lam) := by
  subst hi
  refine st_lald hK hf hs (cw_in_nI he (by decide)) ?_
  rw [nI_clamp (by omega)]
  exact kk
theorem bnv {x y v : Int32} {f : Int32 → Int32 → Int32} (hK : cw_Kc d M h0 Q K) (hf : cw_tb M pc = some (s_ibin f nx)) (hv : f x y = v) (kk : K nx L (.int v :: S) h) : K pc L (.int y :: .int x :: S) h := st_bin hK hf (by rw [hv]; exact kk)
theorem dvv {x y v : Int32} {f : Int32 → Int32 → Int32} (hK : cw_Kc d M h0 Q K) (hf : cw_tb M pc = some (s_idiv f nx)) (hy : ¬ y = 0) (hv : f x y = v) (kk : K nx L (.int v :: S) h) : K pc L (.int y :: .int x :: S) h := st_div hK hf hy (by rw [hv]; exact kk)
theorem st_ifn {sem : cw_S} {P P' : Prop} {inst : Decidable P} {t f : Nat} (hK : cw_Kc d M h0 Q K) (hf : cw_tb M pc = some sem) (hs : sem (d + 1) L S h = cw_br (@decide P inst) t f L' S' h') (hP : P ↔ P') (kt : P' → K t L' S' h') (kf : ¬ P' → K f L' S' h') : K pc L S h := st_if hK hf hs (fun c => kt (hP.mp c)) (fun c => kf (fun z => c (hP.mpr z)))
end
theorem nI_mul (a b : Nat) : nI a * nI b = nI (a * b) := (Int32.ofNat_mul a b).symm
theorem nI_dec (n : Nat) : nI (n + 1) + (-1) = nI n := by
  rw [← nI_1, Int32.add_assoc]
  show nI n + 0 = nI n
  rw [Int32.add_zero]
theorem nI_sub {a b : Nat} (h : b ≤ a) : nI a - nI b = nI (a - b) := by
  obtain ⟨c, rfl⟩ : ∃ c, a = c + b := ⟨a - b, by omega⟩
  rw [← nI_add, Int32.add_sub_cancel, Nat.add_sub_cancel]
/-- the words of bounds -/
theorem nI_rg {x M : Int32} {n : Nat} (hM : M = nI n) (hn : n < 2 ^ 31) : (0 ≤ x ∧ x ≤ M) ↔ ∃ i, i ≤ n ∧ x = nI i := by
  subst hM
  refine ⟨fun h => ?_, fun h => ?_⟩
  · obtain ⟨j, j1, rfl⟩ := nI_of (Int32.not_lt.mpr h.1)
    exact ⟨j, (nI_leI j1 hn).mp h.2, rfl⟩
  · obtain ⟨i, h1, rfl⟩ := h
    exact ⟨nI_pos' (by omega), (nI_leI (by omega) hn).mpr h1⟩
theorem mx_of {a b : Int32} : (if b < a then a else b) = mx a b := by
  unfold mx
  by_cases h : b < a
  · rw [if_pos h, if_neg (Int32.not_lt.mpr (Int32.le_of_lt h))]
  · rw [if_neg h]
    by_cases h2 : a < b
    · rw [if_pos h2]
    · rw [if_neg h2]
      exact Int32.le_antisymm (Int32.not_lt.mp h2) (Int32.not_lt.mp h)
theorem mx_ge {a b : Int32} (h : a ≤ b) : mx a b = b := by
  unfold mx
  by_cases h2 : a < b
  · rw [if_pos h2]
  · rw [if_neg h2]
    exact Int32.le_antisymm h (Int32.not_lt.mp h2)
theorem mx_le {a b : Int32} (h : ¬ a ≤ b) : mx a b = a := by
  unfold mx
  rw [if_neg (fun z => h (Int32.le_of_lt z))]
theorem mn_le {a b : Int32} (h : b ≤ a) : mn a b = b := by
  unfold mn
  by_cases h2 : b < a
  · rw [if_pos h2]
  · rw [if_neg h2]
    exact Int32.le_antisymm (Int32.not_lt.mp h2) h
theorem mn_ge {a b : Int32} (h : ¬ b ≤ a) : mn a b = a := by
  unfold mn
  rw [if_neg (fun z => h (Int32.le_of_lt z))]
/-- one number of a store after a write -/
theorem up_at {σ : cw_V} {p k q j : Nat} {x : Int32} : cw_up σ p k x q j = if q = p then (if j = k then x else σ p j) else σ q j := by
  unfold cw_up upd
  split <;> rfl
end
section
/-! THE MODEL: small things -/
section
variable {d : Nat} {σ : cw_V} {lam : Nat → Int64} {Q : cw_Q}
theorem z_mbad (kk : Q (some (.int (-2))) (cw_B (cw_up σ 147 0 (σ 147 0 + 1)) lam)) : cw_Z (d + 1) m_Mo_bad [.ref 146] (cw_B σ lam) Q := by
  refine zi (L := [some (.ref 146)]) rfl rfl (fun K hK => ?_)
  refine st_go hK rfl rfl ?_
  refine st_getr hK rfl rfl ?_
  refine st_go hK rfl rfl ?_
  refine st_go hK rfl rfl ?_
  refine ga (e := 0) (v := σ 147 0) hK rfl rfl rfl (by decide) rfl rfl ?_
  refine st_go hK rfl rfl ?_
  refine st_bin hK rfl ?_
  refine sa (e := 0) hK rfl rfl rfl (by decide) rfl ?_
  refine st_go hK rfl rfl ?_
  refine st_ret hK rfl rfl ?_
  exact kk
theorem z_mno (kk : Q (some (.int (-3))) (cw_B (cw_up σ 147 1 (σ 147 1 + 1)) lam)) : cw_Z (d + 1) m_Mo_no [.ref 146] (cw_B σ lam) Q := by
  refine zi (L := [some (.ref 146)]) rfl rfl (fun K hK => ?_)
  refine st_go hK rfl rfl ?_
  refine st_getr hK rfl rfl ?_
  refine st_go hK rfl rfl ?_
  refine st_go hK rfl rfl ?_
  refine ga (e := 1) (v := σ 147 1) hK rfl rfl rfl (by decide) rfl rfl ?_
  refine st_go hK rfl rfl ?_
  refine st_bin hK rfl ?_
  refine sa (e := 1) hK rfl rfl rfl (by decide) rfl ?_
  refine st_go hK rfl rfl ?_
  refine st_ret hK rfl rfl ?_
  exact kk
theorem z_mfull (kk : Q (some (.int (-4))) (cw_B (cw_up σ 147 2 (σ 147 2 + 1)) lam)) : cw_Z (d + 1) m_Mo_full [.ref 146] (cw_B σ lam) Q := by
  refine zi (L := [some (.ref 146)]) rfl rfl (fun K hK => ?_)
  refine st_go hK rfl rfl ?_
  refine st_getr hK rfl rfl ?_
  refine st_go hK rfl rfl ?_
  refine st_go hK rfl rfl ?_
  refine ga (e := 2) (v := σ 147 2) hK rfl rfl rfl (by decide) rfl rfl ?_
  refine st_go hK rfl rfl ?_
  refine st_bin hK rfl ?_
  refine sa (e := 2) hK rfl rfl rfl (by decide) rfl ?_
  refine st_go hK rfl rfl ?_
  refine st_ret hK rfl rfl ?_
  exact kk
theorem z_min {v lo hi : Int32} {h : cw_H} (k1 : lo ≤ v ∧ v ≤ hi → Q (some (.int 1)) h) (k0 : ¬ (lo ≤ v ∧ v ≤ hi) → Q (some (.int 0)) h) : cw_Z (d + 1) m_Mo_in [.int v, .int lo, .int hi] h Q := by
  refine zi (L := [some (.int v), some (.int lo), some (.int hi)]) rfl rfl (fun K hK => ?_)
  refine st_go hK rfl rfl ?_
  refine st_go hK rfl rfl ?_
  refine st_if hK rfl rfl (fun c2 => ?_) (fun c2 => ?_)
  · refine st_go hK rfl rfl ?_
    refine st_zret hK rfl (Or.inl rfl) ?_
    exact k0 (fun z => by first | exact absurd c2 (Int32.not_lt.mpr z.1) | exact absurd c7 (Int32.not_lt.mpr z.2))
  · refine st_go hK rfl rfl ?_
    refine st_go hK rfl rfl ?_
    refine st_if hK rfl rfl (fun c7 => ?_) (fun c7 => ?_)
    · refine st_go hK rfl rfl ?_
      refine st_zret hK rfl (Or.inl rfl) ?_
      exact k0 (fun z => by first | exact absurd c2 (Int32.not_lt.mpr z.1) | exact absurd c7 (Int32.not_lt.mpr z.2))
    · refine st_go hK rfl rfl ?_
      refine st_go hK rfl rfl ?_
      refine st_zret hK rfl (Or.inr rfl) ?_
      exact k1 ⟨Int32.not_lt.mp c2, Int32.not_lt.mp c7⟩
theorem z_mgreater {v w : Int32} {h : cw_H} (kk : Q (some (.int (mx v w))) h) : cw_Z (d + 1) m_Mo_greater [.int v, .int w] h Q := by
  refine zi (L := [some (.int v), some (.int w)]) rfl rfl (fun K hK => ?_)
  refine st_go hK rfl rfl ?_
  refine st_go hK rfl rfl ?_
  refine st_if hK rfl rfl (fun c2 => ?_) (fun c2 => ?_)
  · refine st_go hK rfl rfl ?_
    refine st_ret hK rfl rfl ?_
    first | (rw [mx_ge c2] at kk; exact kk) | (rw [mx_le c2] at kk; exact kk)
  · refine st_go hK rfl rfl ?_
    refine st_go hK rfl rfl ?_
    refine st_ret hK rfl rfl ?_
    first | (rw [mx_ge c2] at kk; exact kk) | (rw [mx_le c2] at kk; exact kk)
theorem z_mlesser {v w : Int32} {h : cw_H} (kk : Q (some (.int (mn v w))) h) : cw_Z (d + 1) m_Mo_lesser [.int v, .int w] h Q := by
  refine zi (L := [some (.int v), some (.int w)]) rfl rfl (fun K hK => ?_)
  refine st_go hK rfl rfl ?_
  refine st_go hK rfl rfl ?_
  refine st_if hK rfl rfl (fun c2 => ?_) (fun c2 => ?_)
  · refine st_go hK rfl rfl ?_
    refine st_ret hK rfl rfl ?_
    first | (rw [mn_le c2] at kk; exact kk) | (rw [mn_ge c2] at kk; exact kk)
  · refine st_go hK rfl rfl ?_
    refine st_go hK rfl rfl ?_
    refine st_ret hK rfl rfl ?_
    first | (rw [mn_le c2] at kk; exact kk) | (rw [mn_ge c2] at kk; exact kk)
theorem z_msize {v : Int32} {h : cw_H} (kk : Q (some (.int (ab v))) h) : cw_Z (d + 1) m_Mo_size [.int v] h Q := by
  refine zi (L := [some (.int v)]) rfl rfl (fun K hK => ?_)
  refine st_go hK rfl rfl ?_
  refine st_if hK rfl rfl (fun c1 => ?_) (fun c1 => ?_)
  · refine st_go hK rfl rfl ?_
    refine st_ret hK rfl rfl ?_
    unfold ab at kk
    first | (rw [if_pos c1] at kk; exact kk) | (rw [if_neg c1, Int32.zero_sub] at kk; exact kk)
  · refine st_go hK rfl rfl ?_
    refine st_go hK rfl rfl ?_
    refine st_go hK rfl rfl ?_
    refine st_ret hK rfl rfl ?_
    unfold ab at kk
    first | (rw [if_pos c1] at kk; exact kk) | (rw [if_neg c1, Int32.zero_sub] at kk; exact kk)
theorem nI_up {k : Int32} {s : Nat} (h8 : s ≤ 8) : (0 ≤ k ∧ k ≤ nI s - 1) ↔ ∃ i, i < s ∧ k = nI i := by
  cases s with
  | zero => exact ⟨fun h => absurd (Int32.le_trans h.1 h.2) (by decide), fun ⟨i, h, _⟩ => absurd h (by omega)⟩
  | succ s =>
    rw [nI_pred, nI_rg rfl (by omega)]
    exact ⟨fun ⟨i, h1, h2⟩ => ⟨i, by omega, h2⟩, fun ⟨i, h1, h2⟩ => ⟨i, by omega, h2⟩⟩
theorem z_misSink {k : Int32} {s : Nat} (hs : σ 146 1 = nI s) (h8 : s ≤ 8) (k1 : (∃ i, i < s ∧ k = nI i) → Q (some (.int 1)) (cw_B σ lam)) (k0 : ¬ (∃ i, i < s ∧ k = nI i) → Q (some (.int 0)) (cw_B σ lam)) : cw_Z (d + 2) m_Mo_isSink [.ref 146, .int k] (cw_B σ lam) Q := by
  refine zi (L := [some (.ref 146), some (.int k)]) rfl rfl (fun K hK => ?_)
  refine st_go hK rfl rfl ?_
  refine st_go hK rfl rfl ?_
  refine st_go hK rfl rfl ?_
  refine gi (v := nI s) hK rfl rfl hs ?_
  refine st_go hK rfl rfl ?_
  refine st_bin hK rfl ?_
  refine cs3 hK rfl (Nat.le_of_ble_eq_true rfl) ?_
  refine z_min (fun hi => ?_) (fun hi => ?_)
  · change K _ _ (_ :: _) _
    refine st_zret hK rfl (Or.inr rfl) ?_
    exact k1 ((nI_up h8).mp hi)
  · change K _ _ (_ :: _) _
    refine st_zret hK rfl (Or.inl rfl) ?_
    exact k0 (fun z => hi ((nI_up h8).mpr z))
theorem z_misNode {m : Int32} (k1 : (∃ n, n < 15 ∧ m = nI n ∧ σ 150 n = 1) → Q (some (.int 1)) (cw_B σ lam)) (k0 : ¬ (∃ n, n < 15 ∧ m = nI n ∧ σ 150 n = 1) → Q (some (.int 0)) (cw_B σ lam)) : cw_Z (d + 2) m_Mo_isNode [.ref 146, .int m] (cw_B σ lam) Q := by
  by_cases hm : ∃ n, n < 15 ∧ m = nI n
  · obtain ⟨n, hn, rfl⟩ := hm
    refine zi (L := [some (.ref 146), some (.int (nI n))]) rfl rfl (fun K hK => ?_)
    refine st_go hK rfl rfl ?_
    refine st_go hK rfl rfl ?_
    refine st_go hK rfl rfl ?_
    refine cs3 hK rfl (Nat.le_of_ble_eq_true rfl) ?_
    refine z_min (fun _ => ?_) (fun hi => absurd ((nI_rg (n := 14) rfl (by decide)).mpr ⟨n, by omega, rfl⟩) hi)
    change K _ _ (_ :: _) _
    refine st_if hK rfl rfl (fun c => absurd c (by decide)) (fun _ => ?_)
    refine st_go hK rfl rfl ?_
    refine st_getr hK rfl rfl ?_
    refine st_go hK rfl rfl ?_
    refine ga (e := n) (v := σ 150 n) hK rfl rfl rfl (by omega) rfl rfl ?_
    refine st_go hK rfl rfl ?_
    refine st_if hK rfl rfl (fun c17 => ?_) (fun c17 => ?_)
    · refine st_go hK rfl rfl ?_
      refine st_zret hK rfl (Or.inl rfl) ?_
      exact k0 (fun ⟨i, i1, i2, i3⟩ => c17 (by rw [nI_inj (by omega) (by omega) i2]; exact i3))
    · refine st_go hK rfl rfl ?_
      refine st_go hK rfl rfl ?_
      refine st_zret hK rfl (Or.inr rfl) ?_
      exact k1 ⟨n, hn, rfl, Decidable.not_not.mp c17⟩
  · refine zi (L := [some (.ref 146), some (.int m)]) rfl rfl (fun K hK => ?_)
    refine st_go hK rfl rfl ?_
    refine st_go hK rfl rfl ?_
    refine st_go hK rfl rfl ?_
    refine cs3 hK rfl (Nat.le_of_ble_eq_true rfl) ?_
    refine z_min (fun hi => absurd ((nI_rg (n := 14) rfl (by decide)).mp hi) (fun ⟨i, i1, i2⟩ => hm ⟨i, by omega, i2⟩)) (fun _ => ?_)
    change K _ _ (_ :: _) _
    refine st_if hK rfl rfl (fun _ => ?_) (fun c => absurd (by decide) c)
    refine st_go hK rfl rfl ?_
    refine st_zret hK rfl (Or.inl rfl) ?_
    exact k0 (fun ⟨i, i1, i2, i3⟩ => hm ⟨i, i1, i2⟩)
def spot (x y : Int32) : Prop := (0 ≤ x ∧ x ≤ 63) ∧ 0 ≤ y ∧ y ≤ 63
theorem z_misSpot {x y : Int32} {h : cw_H} (k1 : spot x y → Q (some (.int 1)) h) (k0 : ¬ spot x y → Q (some (.int 0)) h) : cw_Z (d + 2) m_Mo_isSpot [.int x, .int y] h Q := by
  refine zi (L := [some (.int x), some (.int y)]) rfl rfl (fun K hK => ?_)
  refine st_go hK rfl rfl ?_
  refine st_go hK rfl rfl ?_
  refine st_go hK rfl rfl ?_
  refine cs3 hK rfl (Nat.le_of_ble_eq_true rfl) ?_
  refine z_min (fun hi1 => ?_) (fun hi1 => ?_)
  · change K _ _ (_ :: _) _
    refine st_if hK rfl rfl (fun c => absurd c (by decide)) (fun _ => ?_)
    refine st_go hK rfl rfl ?_
    refine st_go hK rfl rfl ?_
    refine st_go hK rfl rfl ?_
    refine cs3 hK rfl (Nat.le_of_ble_eq_true rfl) ?_
    refine z_min (fun hi2 => ?_) (fun hi2 => ?_)
    · change K _ _ (_ :: _) _
      refine st_if hK rfl rfl (fun c => absurd c (by decide)) (fun _ => ?_)
      refine st_go hK rfl rfl ?_
      refine st_go hK rfl rfl ?_
      refine st_zret hK rfl (Or.inr rfl) ?_
      exact k1 ⟨hi1, hi2⟩
    · change K _ _ (_ :: _) _
      refine st_if hK rfl rfl (fun _ => ?_) (fun c => absurd (by decide) c)
      refine st_go hK rfl rfl ?_
      refine st_zret hK rfl (Or.inl rfl) ?_
      exact k0 (fun z => by first | exact hi1 z.1 | exact hi2 z.2)
  · change K _ _ (_ :: _) _
    refine st_if hK rfl rfl (fun _ => ?_) (fun c => absurd (by decide) c)
    refine st_go hK rfl rfl ?_
    refine st_zret hK rfl (Or.inl rfl) ?_
    exact k0 (fun z => by first | exact hi1 z.1 | exact hi2 z.2)
theorem z_misTop {n : Nat} (hn : n < 15) (k1 : σ 153 n = -1 → Q (some (.int 1)) (cw_B σ lam)) (k0 : ¬ σ 153 n = -1 → Q (some (.int 0)) (cw_B σ lam)) : cw_Z (d + 1) m_Mo_isTop [.ref 146, .int (nI n)] (cw_B σ lam) Q := by
  refine zi (L := [some (.ref 146), some (.int (nI n))]) rfl rfl (fun K hK => ?_)
  refine st_go hK rfl rfl ?_
  refine st_getr hK rfl rfl ?_
  refine st_go hK rfl rfl ?_
  refine ga (e := n) (v := σ 153 n) hK rfl rfl rfl (by omega) rfl rfl ?_
  refine st_go hK rfl rfl ?_
  refine st_if hK rfl rfl (fun c7 => ?_) (fun c7 => ?_)
  · refine st_go hK rfl rfl ?_
    refine st_zret hK rfl (Or.inl rfl) ?_
    exact k0 c7
  · refine st_go hK rfl rfl ?_
    refine st_go hK rfl rfl ?_
    refine st_zret hK rfl (Or.inr rfl) ?_
    exact k1 (Decidable.not_not.mp c7)
/-- how many tops there are below m -/
def tmB (σ : cw_V) (n : Nat) : Bool := decide (σ 150 n = 1) && decide (σ 153 n = -1)
def tmC (σ : cw_V) : Nat → Nat
  | 0 => 0
  | m + 1 => tmC σ m + (bif tmB σ m then 1 else 0)
theorem tmC_le {σ : cw_V} : ∀ m, tmC σ m ≤ m
  | 0 => Nat.le_refl _
  | m + 1 => by
    have := tmC_le (σ := σ) m
    unfold tmC
    cases tmB σ m
    · exact Nat.le_succ_of_le this
    · exact Nat.succ_le_succ this
theorem z_topMany (kk : Q (some (.int (nI (tmC σ 15)))) (cw_B σ lam)) : cw_Z (d + 2) m_Mo_topMany [.ref 146] (cw_B σ lam) Q := by
  refine zi (L := [some (.ref 146), none, none]) rfl rfl (fun K hK => ?_)
  have loop : ∀ m i, i + m = 15 → K 4 [some (.ref 146), some (.int (nI (tmC σ i))), some (.int (nI i))] [] (cw_B σ lam) := by
    intro m
    induction m with
    | zero =>
      intro i hi
      obtain rfl : i = 15 := by omega
      refine st_go hK rfl rfl ?_
      refine st_go hK rfl rfl ?_
      refine st_ifn hK rfl rfl (nI_leI (a := 15) (b := 15) (by omega) (by omega)) (fun _ => ?_) (fun c => absurd (by omega) c)
      refine st_go hK rfl rfl ?_
      refine st_ret hK rfl rfl ?_
      exact kk
    | succ m ih =>
      intro i hi
      have hle := tmC_le (σ := σ) i
      refine st_go hK rfl rfl ?_
      refine st_go hK rfl rfl ?_
      refine st_ifn hK rfl rfl (nI_leI (a := 15) (b := i) (by omega) (by omega)) (fun c => absurd c (by omega)) (fun _ => ?_)
      refine st_go hK rfl rfl ?_
      refine st_go hK rfl rfl ?_
      refine st_getr hK rfl rfl ?_
      refine st_go hK rfl rfl ?_
      refine ga (e := i) (v := σ 150 i) hK rfl rfl rfl (by omega) rfl rfl ?_
      refine st_go hK rfl rfl ?_
      refine st_if hK rfl rfl (fun c18 => ?_) (fun c18 => ?_)
      · refine st_go hK rfl rfl ?_
        refine st_bin hK rfl ?_
        refine st_go hK rfl rfl ?_
        refine st_go hK rfl rfl ?_
        refine st_go hK rfl rfl ?_
        rw [nI_1]
        have e : tmC σ (i + 1) = tmC σ i + 0 := by
          show tmC σ i + (bif tmB σ i then 1 else 0) = _
          unfold tmB
          first | (rw [decide_eq_false c18]; rfl) | (rw [decide_eq_false ht, Bool.and_false]; rfl)
        have := ih (i + 1) (by omega)
        rw [e] at this
        first | exact this | (rw [← nI_add] at this; exact this)
      · refine st_go hK rfl rfl ?_
        refine st_go hK rfl rfl ?_
        refine cv1 hK rfl rfl (Nat.le_of_ble_eq_true rfl) ?_
        refine z_misTop (by omega) (fun ht => ?_) (fun ht => ?_)
        · change K _ _ (_ :: _) _
          refine st_if hK rfl rfl (fun c => absurd c (by decide)) (fun _ => ?_)
          refine st_go hK rfl rfl ?_
          refine st_go hK rfl rfl ?_
          refine st_bin hK rfl ?_
          refine st_go hK rfl rfl ?_
          refine st_go hK rfl rfl ?_
          refine st_go hK rfl rfl ?_
          rw [nI_1]
          have e : tmC σ (i + 1) = tmC σ i + 1 := by
            show tmC σ i + (bif tmB σ i then 1 else 0) = _
            unfold tmB
            rw [decide_eq_true (Decidable.not_not.mp c18), decide_eq_true ht]; rfl
          have := ih (i + 1) (by omega)
          rw [e] at this
          first | exact this | (rw [← nI_add] at this; exact this)
        · change K _ _ (_ :: _) _
          refine st_if hK rfl rfl (fun _ => ?_) (fun c => absurd (by decide) c)
          refine st_go hK rfl rfl ?_
          refine st_bin hK rfl ?_
          refine st_go hK rfl rfl ?_
          refine st_go hK rfl rfl ?_
          refine st_go hK rfl rfl ?_
          rw [nI_1]
          have e : tmC σ (i + 1) = tmC σ i + 0 := by
            show tmC σ i + (bif tmB σ i then 1 else 0) = _
            unfold tmB
            first | (rw [decide_eq_false c18]; rfl) | (rw [decide_eq_false ht, Bool.and_false]; rfl)
          have := ih (i + 1) (by omega)
          rw [e] at this
          first | exact this | (rw [← nI_add] at this; exact this)
  refine st_go hK rfl rfl ?_
  refine st_go hK rfl rfl ?_
  refine st_go hK rfl rfl ?_
  refine st_go hK rfl rfl ?_
  exact loop 15 0 (by omega)
/-- one within another: the joints upward -/
theorem z_misWithin {s x a : Nat} {ρ : Nat → Nat} (hW : WFt s (σ 151) (σ 152) (σ 153)) (hρ : Dep s (σ 151) (σ 153) ρ) (hx : nodeN s (σ 151) x) (ha : a < 15) (k1 : Inr (σ 153) ρ x a → Q (some (.int 1)) (cw_B σ lam)) (k0 : ¬ Inr (σ 153) ρ x a → Q (some (.int 0)) (cw_B σ lam)) : cw_Z (d + 1) m_Mo_isWithin [.ref 146, .int (nI x), .int (nI a)] (cw_B σ lam) Q := by
  refine zi (L := [some (.ref 146), some (.int (nI x)), some (.int (nI a)), none]) rfl rfl (fun K hK => ?_)
  have loop : ∀ m y, nodeN s (σ 151) y → ρ y < m → (Inr (σ 153) ρ x a ↔ Inr (σ 153) ρ y a) → K 2 [some (.ref 146), some (.int (nI x)), some (.int (nI a)), some (.int (nI y))] [] (cw_B σ lam) := by
    intro m
    induction m with
    | zero => intro y hy hm; omega
    | succ m ih =>
      intro y hy hm hiff
      have hy15 := hW.lt hy
      rcases Classical.em (σ 153 y = -1) with hp | hp
      · skip
        refine st_go hK rfl rfl ?_
        refine st_go hK rfl rfl ?_
        refine st_if hK rfl rfl (fun c => absurd c (nI_ne1 (by omega))) (fun _ => ?_)
        refine st_go hK rfl rfl ?_
        refine st_go hK rfl rfl ?_
        refine st_ifn hK rfl rfl (nI_eq (a := y) (b := a) (by omega) (by omega)) (fun c9 => ?_) (fun c9 => ?_)
        · refine st_go hK rfl rfl ?_
          refine st_go hK rfl rfl ?_
          refine st_ifn hK rfl rfl (not_congr (nI_eq (a := y) (b := a) (by omega) (by omega))) (fun c => absurd c (fun z => z c9)) (fun _ => ?_)
          refine st_go hK rfl rfl ?_
          refine st_go hK rfl rfl ?_
          refine st_zret hK rfl (Or.inr rfl) ?_
          exact k1 (hiff.mpr (by rw [c9]; exact Inr.rf))
        · refine st_go hK rfl rfl ?_
          refine st_getr hK rfl rfl ?_
          refine st_go hK rfl rfl ?_
          refine ga (e := y) (v := (-1 : Int32)) hK rfl rfl rfl (by omega) rfl hp ?_
          refine st_go hK rfl rfl ?_
          refine st_go hK rfl rfl ?_
          refine st_go hK rfl rfl ?_
          refine st_go hK rfl rfl ?_
          refine st_if hK rfl rfl (fun _ => ?_) (fun c => absurd (by decide) c)
          refine st_go hK rfl rfl ?_
          refine st_go hK rfl rfl ?_
          refine st_if hK rfl rfl (fun _ => ?_) (fun c => absurd (fun z => nI_ne1 (by omega) z.symm) c)
          refine st_go hK rfl rfl ?_
          refine st_zret hK rfl (Or.inl rfl) ?_
          exact k0 (fun z => c9 ((Inr.top hρ hy hp).mp (hiff.mp z)))
      · obtain ⟨j, j8, j15, j1, j2, j3, j4⟩ := hW.up hy hp
        refine st_go hK rfl rfl ?_
        refine st_go hK rfl rfl ?_
        refine st_if hK rfl rfl (fun c => absurd c (nI_ne1 (by omega))) (fun _ => ?_)
        refine st_go hK rfl rfl ?_
        refine st_go hK rfl rfl ?_
        refine st_ifn hK rfl rfl (nI_eq (a := y) (b := a) (by omega) (by omega)) (fun c9 => ?_) (fun c9 => ?_)
        · refine st_go hK rfl rfl ?_
          refine st_go hK rfl rfl ?_
          refine st_ifn hK rfl rfl (not_congr (nI_eq (a := y) (b := a) (by omega) (by omega))) (fun c => absurd c (fun z => z c9)) (fun _ => ?_)
          refine st_go hK rfl rfl ?_
          refine st_go hK rfl rfl ?_
          refine st_zret hK rfl (Or.inr rfl) ?_
          exact k1 (hiff.mpr (by rw [c9]; exact Inr.rf))
        · refine st_go hK rfl rfl ?_
          refine st_getr hK rfl rfl ?_
          refine st_go hK rfl rfl ?_
          refine ga (e := y) (v := nI j) hK rfl rfl rfl (by omega) rfl j1 ?_
          refine st_go hK rfl rfl ?_
          refine st_go hK rfl rfl ?_
          exact ih j j3 (by have := (hρ y hy).2 j j15 j1; omega) (by rw [hiff, Inr.st hρ hy j15 j1]; exact ⟨fun z => z.elim (fun q => absurd q c9) id, Or.inr⟩)
  refine st_go hK rfl rfl ?_
  refine st_go hK rfl rfl ?_
  exact loop (ρ x + 1) x hx (by omega) Iff.rfl
theorem z_comes {j : Nat} (j8 : 8 ≤ j) (j15 : j < 15) (h0 : σ 150 j ≠ 1) (h1 : ∀ i, 8 ≤ i → i < j → σ 150 i = 1) (kk : Q (some (.int (nI j))) (cw_B (cw_up (cw_up σ 150 j 1) 153 j (-1)) lam)) : cw_Z (d + 1) m_Mo_comes [.ref 146] (cw_B σ lam) Q := by
  refine zi (L := [some (.ref 146), none]) rfl rfl (fun K hK => ?_)
  have loop : ∀ m i, i + m = j → 8 ≤ i → K 3 [some (.ref 146), some (.int (nI i))] [] (cw_B σ lam) := by
    intro m
    induction m with
    | zero =>
      intro i hi i8
      obtain rfl : i = j := by omega
      refine st_go hK rfl rfl ?_
      refine st_getr hK rfl rfl ?_
      refine st_go hK rfl rfl ?_
      refine ga (e := i) (v := σ 150 i) hK rfl rfl rfl (by omega) rfl rfl ?_
      refine st_go hK rfl rfl ?_
      refine st_if hK rfl rfl (fun _ => ?_) (fun c => absurd h0 c)
      refine st_go hK rfl rfl ?_
      refine st_getr hK rfl rfl ?_
      refine st_go hK rfl rfl ?_
      refine st_go hK rfl rfl ?_
      refine sa (e := i) hK rfl rfl rfl (by omega) rfl ?_
      refine st_go hK rfl rfl ?_
      refine st_getr hK rfl rfl ?_
      refine st_go hK rfl rfl ?_
      refine st_go hK rfl rfl ?_
      refine sa (e := i) hK rfl rfl rfl (by omega) rfl ?_
      refine st_go hK rfl rfl ?_
      refine st_ret hK rfl rfl ?_
      exact kk
    | succ m ih =>
      intro i hi i8
      refine st_go hK rfl rfl ?_
      refine st_getr hK rfl rfl ?_
      refine st_go hK rfl rfl ?_
      refine ga (e := i) (v := σ 150 i) hK rfl rfl rfl (by omega) rfl rfl ?_
      refine st_go hK rfl rfl ?_
      refine st_if hK rfl rfl (fun c => absurd c (fun z => z (h1 i i8 (by omega)))) (fun _ => ?_)
      refine st_go hK rfl rfl ?_
      rw [nI_1]
      refine st_go hK rfl rfl ?_
      exact ih (i + 1) (by omega) (by omega)
  refine st_go hK rfl rfl ?_
  refine st_go hK rfl rfl ?_
  exact loop (j - 8) 8 (by omega) (by omega)
theorem z_repl0 {n j : Nat} (hn : n < 15) (hj : j < 15) (h : σ 153 n = -1) (kk : Q none (cw_B (cw_up σ 153 j (-1)) lam)) : cw_Z (d + 1) m_Mo_replaces [.ref 146, .int (nI n), .int (nI j)] (cw_B σ lam) Q := by
  refine zi (L := [some (.ref 146), some (.int (nI n)), some (.int (nI j)), none]) rfl rfl (fun K hK => ?_)
  refine st_go hK rfl rfl ?_
  refine st_getr hK rfl rfl ?_
  refine st_go hK rfl rfl ?_
  refine ga (e := n) (v := (-1 : Int32)) hK rfl rfl rfl (by omega) rfl h ?_
  refine st_go hK rfl rfl ?_
  refine st_go hK rfl rfl ?_
  refine st_go hK rfl rfl ?_
  refine st_if hK rfl rfl (fun _ => ?_) (fun c => absurd (by decide) c)
  refine st_go hK rfl rfl ?_
  refine st_getr hK rfl rfl ?_
  refine st_go hK rfl rfl ?_
  refine st_go hK rfl rfl ?_
  refine sa (e := j) hK rfl rfl rfl (by omega) rfl ?_
  refine st_ret hK rfl rfl ?_
  exact kk
theorem z_repl1 {n j p : Nat} (hn : n < 15) (hj : j < 15) (hp : p < 15) (h : σ 153 n = nI p) (k1 : σ 151 p = nI n → Q none (cw_B (cw_up (cw_up σ 151 p (nI j)) 153 j (nI p)) lam)) (k0 : ¬ σ 151 p = nI n → Q none (cw_B (cw_up (cw_up σ 152 p (nI j)) 153 j (nI p)) lam)) : cw_Z (d + 1) m_Mo_replaces [.ref 146, .int (nI n), .int (nI j)] (cw_B σ lam) Q := by
  refine zi (L := [some (.ref 146), some (.int (nI n)), some (.int (nI j)), none]) rfl rfl (fun K hK => ?_)
  refine st_go hK rfl rfl ?_
  refine st_getr hK rfl rfl ?_
  refine st_go hK rfl rfl ?_
  refine ga (e := n) (v := nI p) hK rfl rfl rfl (by omega) rfl h ?_
  refine st_go hK rfl rfl ?_
  refine st_go hK rfl rfl ?_
  refine st_go hK rfl rfl ?_
  refine st_if hK rfl rfl (fun c => absurd c (nI_ne1 (by omega))) (fun _ => ?_)
  refine st_go hK rfl rfl ?_
  refine st_getr hK rfl rfl ?_
  refine st_go hK rfl rfl ?_
  refine ga (e := p) (v := σ 151 p) hK rfl rfl rfl (by omega) rfl rfl ?_
  refine st_go hK rfl rfl ?_
  refine st_if hK rfl rfl (fun c19 => ?_) (fun c19 => ?_)
  · refine st_go hK rfl rfl ?_
    refine st_getr hK rfl rfl ?_
    refine st_go hK rfl rfl ?_
    refine st_go hK rfl rfl ?_
    refine sa (e := p) hK rfl rfl rfl (by omega) rfl ?_
    refine st_go hK rfl rfl ?_
    refine st_getr hK rfl rfl ?_
    refine st_go hK rfl rfl ?_
    refine st_go hK rfl rfl ?_
    refine sa (e := j) hK rfl rfl rfl (by omega) rfl ?_
    refine st_ret hK rfl rfl ?_
    first | exact k0 c19 | exact k1 (Decidable.not_not.mp c19)
  · refine st_go hK rfl rfl ?_
    refine st_getr hK rfl rfl ?_
    refine st_go hK rfl rfl ?_
    refine st_go hK rfl rfl ?_
    refine sa (e := p) hK rfl rfl rfl (by omega) rfl ?_
    refine st_go hK rfl rfl ?_
    refine st_go hK rfl rfl ?_
    refine st_getr hK rfl rfl ?_
    refine st_go hK rfl rfl ?_
    refine st_go hK rfl rfl ?_
    refine sa (e := j) hK rfl rfl rfl (by omega) rfl ?_
    refine st_ret hK rfl rfl ?_
    first | exact k0 c19 | exact k1 (Decidable.not_not.mp c19)
theorem z_goes {j : Nat} (hj : j < 15) (kk : Q none (cw_B (cw_up (cw_up (cw_up (cw_up σ 150 j 0) 151 j (-1)) 152 j (-1)) 153 j (-1)) lam)) : cw_Z (d + 1) m_Mo_goes [.ref 146, .int (nI j)] (cw_B σ lam) Q := by
  refine zi (L := [some (.ref 146), some (.int (nI j))]) rfl rfl (fun K hK => ?_)
  refine st_go hK rfl rfl ?_
  refine st_getr hK rfl rfl ?_
  refine st_go hK rfl rfl ?_
  refine st_go hK rfl rfl ?_
  refine sa (e := j) hK rfl rfl rfl (by omega) rfl ?_
  refine st_go hK rfl rfl ?_
  refine st_getr hK rfl rfl ?_
  refine st_go hK rfl rfl ?_
  refine st_go hK rfl rfl ?_
  refine sa (e := j) hK rfl rfl rfl (by omega) rfl ?_
  refine st_go hK rfl rfl ?_
  refine st_getr hK rfl rfl ?_
  refine st_go hK rfl rfl ?_
  refine st_go hK rfl rfl ?_
  refine sa (e := j) hK rfl rfl rfl (by omega) rfl ?_
  refine st_go hK rfl rfl ?_
  refine st_getr hK rfl rfl ?_
  refine st_go hK rfl rfl ?_
  refine st_go hK rfl rfl ?_
  refine sa (e := j) hK rfl rfl rfl (by omega) rfl ?_
  refine st_ret hK rfl rfl ?_
  exact kk
end
end
section
/-! THE MODEL'S TREE -/
section
variable {s : Nat} {lf rt pa : Nat → Int32}
theorem gL_0 {j n : Nat} (only : ∀ x, x < 15 → lf x ≠ nI n) : ∀ x, x < 15 → upd lf j (nI n) x = gL lf j n x := by
  intro x hx
  have := only x hx
  unfold gL upd
  grind
theorem gL_l {j n p : Nat} (hl : lf p = nI n) (pj : p ≠ j) (only : ∀ x, x < 15 → lf x = nI n → x = p) : ∀ x, x < 15 → upd (upd lf p (nI j)) j (nI n) x = gL lf j n x := by
  intro x hx
  have := only x hx
  unfold gL upd
  grind
theorem gR_r {j n p k : Nat} (hl : rt p = nI n) (pj : p ≠ j) (only : ∀ x, x < 15 → rt x = nI n → x = p) : ∀ x, x < 15 → upd (upd rt p (nI j)) j (nI k) x = gR rt j n k x := by
  intro x hx
  have := only x hx
  unfold gR upd
  grind
theorem gR_0 {j n k : Nat} (only : ∀ x, x < 15 → rt x ≠ nI n) : ∀ x, x < 15 → upd rt j (nI k) x = gR rt j n k x := by
  intro x hx
  have := only x hx
  unfold gR upd
  grind
theorem gP_m {j n k : Nat} {y : Int32} (jn : j ≠ n) (jk : j ≠ k) (nk : n ≠ k) (hy : y = pa n) : ∀ x, upd (upd (upd (upd pa j (-1)) j y) n (nI j)) k (nI j) x = gP pa j n k x := by
  intro x
  unfold gP upd
  grind
theorem cF_0 {p o : Nat} (only : ∀ x, x < 15 → lf x ≠ nI p) : ∀ x, x < 15 → upd lf p (-1) x = cF lf p o x := by
  intro x hx
  have := only x hx
  unfold cF upd
  grind
theorem cF_1 {p o q : Nat} (hl : lf q = nI p) (qp : q ≠ p) (only : ∀ x, x < 15 → lf x = nI p → x = q) : ∀ x, x < 15 → upd (upd lf q (nI o)) p (-1) x = cF lf p o x := by
  intro x hx
  have := only x hx
  unfold cF upd
  grind
theorem cP_m {p o n : Nat} {y : Int32} (op : o ≠ p) (on : o ≠ n) (np : n ≠ p) (hy : y = pa p) : ∀ x, upd (upd (upd pa o y) n (-1)) p (-1) x = cP pa p n o x := by
  intro x
  unfold cP upd
  grind
theorem cP_c {p o n : Nat} {y : Int32} (op : o ≠ p) (on : o ≠ n) (np : n ≠ p) (hy : y = pa p) : ∀ x, upd (upd (upd pa o y) p (-1)) n (-1) x = cP pa p n o x := by
  intro x
  unfold cP upd
  grind
theorem xF_0 {a b : Nat} (oa : ∀ x, x < 15 → lf x ≠ nI a) (ob : ∀ x, x < 15 → lf x ≠ nI b) : ∀ x, x < 15 → lf x = xF lf a b x := by
  intro x hx
  have := oa x hx
  have := ob x hx
  unfold xF
  grind
theorem xF_a {a b p : Nat} (hl : lf p = nI a) (oa : ∀ x, x < 15 → lf x = nI a → x = p) (ob : ∀ x, x < 15 → lf x ≠ nI b) : ∀ x, x < 15 → upd lf p (nI b) x = xF lf a b x := by
  intro x hx
  have := oa x hx
  have := ob x hx
  unfold xF upd
  grind
theorem xF_b {a b q : Nat} (hl : lf q = nI b) (oa : ∀ x, x < 15 → lf x ≠ nI a) (ob : ∀ x, x < 15 → lf x = nI b → x = q) : ∀ x, x < 15 → upd lf q (nI a) x = xF lf a b x := by
  intro x hx
  have := oa x hx
  have := ob x hx
  unfold xF upd
  grind
theorem xF_ab {a b p q : Nat} (hl : lf p = nI a) (hr : lf q = nI b) (pq : p ≠ q) (hab : nI a ≠ nI b) (oa : ∀ x, x < 15 → lf x = nI a → x = p) (ob : ∀ x, x < 15 → lf x = nI b → x = q) : ∀ x, x < 15 → upd (upd lf p (nI b)) q (nI a) x = xF lf a b x := by
  intro x hx
  have := oa x hx
  have := ob x hx
  unfold xF upd
  grind
theorem xP_m {a b : Nat} {y z : Int32} (hy : y = pa b) (hz : z = pa a) (ab : a ≠ b) : ∀ x, upd (upd pa a y) b z x = xP pa a b x := by
  intro x
  unfold xP upd
  grind
theorem xP_c {a b : Nat} {y z : Int32} (hy : y = pa b) (hz : z = pa a) (ab : a ≠ b) : ∀ x, upd (upd pa b z) a y x = xP pa a b x := by
  intro x
  unfold xP upd
  grind
theorem nodeN_g {j n x : Nat} (j8 : 8 ≤ j) (j15 : j < 15) (hn : n < 15) : nodeN s (gL lf j n) x ↔ (nodeN s lf x ∨ x = j) := by
  have a1 := nI_ne1 (j := n) (by omega)
  have a2 := nI_ne1 (j := j) (by omega)
  unfold nodeN gL
  grind
theorem nodeN_c {p o x : Nat} (ho : o < 15) (p8 : 8 ≤ p) (p15 : p < 15) (hs : s ≤ 8) : nodeN s (cF lf p o) x ↔ (nodeN s lf x ∧ x ≠ p) := by
  have a1 := nI_ne1 (j := o) (by omega)
  have a2 := nI_ne1 (j := p) (by omega)
  unfold nodeN cF
  grind
theorem nodeN_x {a b x : Nat} (ha : a < 15) (hb : b < 15) : nodeN s (xF lf a b) x ↔ nodeN s lf x := by
  have a1 := nI_ne1 (j := a) (by omega)
  have a2 := nI_ne1 (j := b) (by omega)
  unfold nodeN xF
  grind
end
/-- the model's tree: how many ends, its rows a forest, what is there -/
def MW (σ : cw_V) (s : Nat) : Prop := σ 146 1 = nI s ∧ WFt s (σ 151) (σ 152) (σ 153) ∧ ∀ n, n < 15 → (nodeN s (σ 151) n → σ 150 n = 1) ∧ (¬ nodeN s (σ 151) n → σ 150 n = 0)
/-- its rows become f, g, h -/
def MTR (σ τ : cw_V) (f g h : Nat → Int32) : Prop := (∀ p, (p < 150 ∨ 153 < p) → τ p = σ p) ∧ (∀ x, x < 15 → τ 151 x = f x) ∧ (∀ x, x < 15 → τ 152 x = g x) ∧ ∀ x, x < 15 → τ 153 x = h x
theorem nodeN_congr {s : Nat} {f g : Nat → Int32} (h : ∀ x, x < 15 → f x = g x) {n : Nat} : nodeN s f n ↔ nodeN s g n := by
  unfold nodeN
  constructor
  · rintro (z | ⟨z1, z2, z3⟩)
    · exact Or.inl z
    · exact Or.inr ⟨z1, z2, by rw [← h n z2]; exact z3⟩
  · rintro (z | ⟨z1, z2, z3⟩)
    · exact Or.inl z
    · exact Or.inr ⟨z1, z2, by rw [h n z2]; exact z3⟩
theorem MTR.mw {σ τ : cw_V} {f g h : Nat → Int32} {s : Nat} (hT : MTR σ τ f g h) (h1 : σ 146 1 = nI s) (hW : WFt s f g h) (hI : ∀ n, n < 15 → (nodeN s f n → τ 150 n = 1) ∧ (¬ nodeN s f n → τ 150 n = 0)) : MW τ s := by
  refine ⟨by rw [hT.1 146 (by omega)]; exact h1, hW.congr hT.2.1 hT.2.2.1 hT.2.2.2, fun n hn => ?_⟩
  rw [nodeN_congr hT.2.1]
  exact hI n hn
theorem MW.is1 {σ : cw_V} {s n : Nat} (h : MW σ s) (hn : n < 15) : σ 150 n = 1 ↔ nodeN s (σ 151) n := by
  refine ⟨fun z => ?_, (h.2.2 n hn).1⟩
  rcases Classical.em (nodeN s (σ 151) n) with q | q
  · exact q
  · rw [(h.2.2 n hn).2 q] at z
    exact absurd z (by decide)
section
variable {d s : Nat} {σ : cw_V} {lam : Nat → Int64} {Q : cw_Q} {ρ : Nat → Nat}
theorem MW.freeI (hM : MW σ s) {j : Nat} (hj : isF (σ 151) j) : σ 150 j ≠ 1 ∧ ∀ i, 8 ≤ i → i < j → σ 150 i = 1 := by
  obtain ⟨⟨j8, j15⟩, jf, jl⟩ := hj
  refine ⟨fun z => ?_, fun i i1 i2 => (hM.is1 (by omega)).mpr (Or.inr ⟨i1, by omega, jl i i1 i2⟩)⟩
  rcases (hM.is1 j15).mp z with q | q
  · have := hM.2.1.1
    omega
  · exact q.2.2 jf
theorem z_lays (hM : MW σ s) {j n k : Nat} (hj : isF (σ 151) j) (hn : nodeN s (σ 151) n) (hk : nodeN s (σ 151) k) (hkt : σ 153 k = -1) (hρ : Dep s (σ 151) (σ 153) ρ) (hnk : ¬ Inr (σ 153) ρ n k) (kk : ∀ τ, MW τ s → MTR σ τ (gL (σ 151) j n) (gR (σ 152) j n k) (gP (σ 153) j n k) → Q (some (.int (nI j))) (cw_B τ lam)) : cw_Z (d + 2) m_Mo_lays [.ref 146, .int (nI n), .int (nI k)] (cw_B σ lam) Q := by
  obtain ⟨f0, f1⟩ := hM.freeI hj
  have hW' := hM.2.1.graft hj hn hk hkt hρ hnk
  obtain ⟨⟨j8, j15⟩, jf, -⟩ := hj
  have hW := hM.2.1
  have ln := hW.lt hn
  have lk := hW.lt hk
  have jn : ¬ nodeN s (σ 151) j := by
    rintro (z | z)
    · have := hW.1
      omega
    · exact z.2.2 jf
  have j_n : j ≠ n := fun e => jn (e ▸ hn)
  have j_k : j ≠ k := fun e => jn (e ▸ hk)
  have n_k : n ≠ k := fun e => hnk (e ▸ Inr.rf)
  have only := fun x (hx : x < 15) h => hW.only (x := x) (n := n) hx hn h
  have fin : ∀ τ, MTR σ τ (gL (σ 151) j n) (gR (σ 152) j n k) (gP (σ 153) j n k) → τ 150 = upd (σ 150) j 1 → Q (some (.int (nI j))) (cw_B τ lam) := by
    intro τ hT h150
    refine kk τ (hT.mw hM.1 hW' (fun x hx => ?_)) hT
    rw [nodeN_g j8 j15 ln, h150]
    have := hM.2.2 x hx
    unfold upd
    grind
  refine zi (L := [some (.ref 146), some (.int (nI n)), some (.int (nI k)), none]) rfl rfl (fun K hK => ?_)
  by_cases hp : σ 153 n = -1
  · skip
    refine st_go hK rfl rfl ?_
    refine cv0 hK rfl rfl (Nat.le_of_ble_eq_true rfl) ?_
    refine z_comes j8 j15 f0 f1 ?_
    change K _ _ (_ :: _) _
    refine st_go hK rfl rfl ?_
    refine st_go hK rfl rfl ?_
    refine st_go hK rfl rfl ?_
    refine st_go hK rfl rfl ?_
    refine cv2 hK rfl rfl (Nat.le_of_ble_eq_true rfl) ?_
    refine z_repl0 ln j15 (by rw [up_eq, upd_ne (Ne.symm j_n), up_ne (by decide)]; exact hp) ?_
    change K _ _ _ _
    refine st_go hK rfl rfl ?_
    refine st_getr hK rfl rfl ?_
    refine st_go hK rfl rfl ?_
    refine st_go hK rfl rfl ?_
    refine sa (e := j) hK rfl rfl rfl (by omega) rfl ?_
    refine st_go hK rfl rfl ?_
    refine st_getr hK rfl rfl ?_
    refine st_go hK rfl rfl ?_
    refine st_go hK rfl rfl ?_
    refine sa (e := j) hK rfl rfl rfl (by omega) rfl ?_
    refine st_go hK rfl rfl ?_
    refine st_getr hK rfl rfl ?_
    refine st_go hK rfl rfl ?_
    refine st_go hK rfl rfl ?_
    refine sa (e := n) hK rfl rfl rfl (by omega) rfl ?_
    refine st_go hK rfl rfl ?_
    refine st_getr hK rfl rfl ?_
    refine st_go hK rfl rfl ?_
    refine st_go hK rfl rfl ?_
    refine sa (e := k) hK rfl rfl rfl (by omega) rfl ?_
    refine st_go hK rfl rfl ?_
    refine st_ret hK rfl rfl ?_
    refine fin _ ⟨fun p hp => ?_, gL_0 (fun x hx z => nI_ne1 (by omega) ((only x hx (Or.inl z)).1.symm.trans hp)), gR_0 (fun x hx z => nI_ne1 (by omega) ((only x hx (Or.inr z)).1.symm.trans hp)), fun x _ => gP_m j_n j_k n_k hp.symm x⟩ rfl
    simp only [cw_up]
    rw [if_neg (by omega), if_neg (by omega), if_neg (by omega), if_neg (by omega), if_neg (by omega), if_neg (by omega), if_neg (by omega)]
  · obtain ⟨p, p1, p2, p3, p4, p5, p6⟩ := hW.up hn hp
    have pj : p ≠ j := fun z => jn (z ▸ p5)
    obtain ⟨a, b, ea, eb, na, nb, nab, pa_a, pa_b⟩ := hW.dn p1 p2 p4
    have la := hW.lt na
    have lb := hW.lt nb
    have onlyp : ∀ x, x < 15 → (σ 151 x = nI n ∨ σ 152 x = nI n) → x = p := fun x hx h => nI_inj (by omega) (by omega) ((only x hx h).1.symm.trans p3)
    by_cases e : σ 151 p = nI n
    · have hrt : σ 152 p ≠ nI n := fun z => nab (nI_inj (by omega) (by omega) (ea.symm.trans (e.trans (z.symm.trans eb))))
      refine st_go hK rfl rfl ?_
      refine cv0 hK rfl rfl (Nat.le_of_ble_eq_true rfl) ?_
      refine z_comes j8 j15 f0 f1 ?_
      change K _ _ (_ :: _) _
      refine st_go hK rfl rfl ?_
      refine st_go hK rfl rfl ?_
      refine st_go hK rfl rfl ?_
      refine st_go hK rfl rfl ?_
      refine cv2 hK rfl rfl (Nat.le_of_ble_eq_true rfl) ?_
      refine z_repl1 ln j15 p2 (by rw [up_eq, upd_ne (Ne.symm j_n), up_ne (by decide)]; exact p3) (fun _ => ?_) (fun c => absurd (by rw [up_ne (by decide), up_ne (by decide)]; exact e) c)
      change K _ _ _ _
      refine st_go hK rfl rfl ?_
      refine st_getr hK rfl rfl ?_
      refine st_go hK rfl rfl ?_
      refine st_go hK rfl rfl ?_
      refine sa (e := j) hK rfl rfl rfl (by omega) rfl ?_
      refine st_go hK rfl rfl ?_
      refine st_getr hK rfl rfl ?_
      refine st_go hK rfl rfl ?_
      refine st_go hK rfl rfl ?_
      refine sa (e := j) hK rfl rfl rfl (by omega) rfl ?_
      refine st_go hK rfl rfl ?_
      refine st_getr hK rfl rfl ?_
      refine st_go hK rfl rfl ?_
      refine st_go hK rfl rfl ?_
      refine sa (e := n) hK rfl rfl rfl (by omega) rfl ?_
      refine st_go hK rfl rfl ?_
      refine st_getr hK rfl rfl ?_
      refine st_go hK rfl rfl ?_
      refine st_go hK rfl rfl ?_
      refine sa (e := k) hK rfl rfl rfl (by omega) rfl ?_
      refine st_go hK rfl rfl ?_
      refine st_ret hK rfl rfl ?_
      refine fin _ ⟨fun p hp => ?_, gL_l e pj (fun x hx z => onlyp x hx (Or.inl z)), gR_0 (fun x hx z => hrt (onlyp x hx (Or.inr z) ▸ z)), fun x _ => gP_m j_n j_k n_k p3.symm x⟩ rfl
      simp only [cw_up]
      rw [if_neg (by omega), if_neg (by omega), if_neg (by omega), if_neg (by omega), if_neg (by omega), if_neg (by omega), if_neg (by omega), if_neg (by omega)]
    · have er : σ 152 p = nI n := p6.resolve_left e
      refine st_go hK rfl rfl ?_
      refine cv0 hK rfl rfl (Nat.le_of_ble_eq_true rfl) ?_
      refine z_comes j8 j15 f0 f1 ?_
      change K _ _ (_ :: _) _
      refine st_go hK rfl rfl ?_
      refine st_go hK rfl rfl ?_
      refine st_go hK rfl rfl ?_
      refine st_go hK rfl rfl ?_
      refine cv2 hK rfl rfl (Nat.le_of_ble_eq_true rfl) ?_
      refine z_repl1 ln j15 p2 (by rw [up_eq, upd_ne (Ne.symm j_n), up_ne (by decide)]; exact p3) (fun c => absurd (by rw [up_ne (by decide), up_ne (by decide)] at c; exact c) e) (fun _ => ?_)
      change K _ _ _ _
      refine st_go hK rfl rfl ?_
      refine st_getr hK rfl rfl ?_
      refine st_go hK rfl rfl ?_
      refine st_go hK rfl rfl ?_
      refine sa (e := j) hK rfl rfl rfl (by omega) rfl ?_
      refine st_go hK rfl rfl ?_
      refine st_getr hK rfl rfl ?_
      refine st_go hK rfl rfl ?_
      refine st_go hK rfl rfl ?_
      refine sa (e := j) hK rfl rfl rfl (by omega) rfl ?_
      refine st_go hK rfl rfl ?_
      refine st_getr hK rfl rfl ?_
      refine st_go hK rfl rfl ?_
      refine st_go hK rfl rfl ?_
      refine sa (e := n) hK rfl rfl rfl (by omega) rfl ?_
      refine st_go hK rfl rfl ?_
      refine st_getr hK rfl rfl ?_
      refine st_go hK rfl rfl ?_
      refine st_go hK rfl rfl ?_
      refine sa (e := k) hK rfl rfl rfl (by omega) rfl ?_
      refine st_go hK rfl rfl ?_
      refine st_ret hK rfl rfl ?_
      refine fin _ ⟨fun p hp => ?_, gL_0 (fun x hx z => e (onlyp x hx (Or.inl z) ▸ z)), gR_r er pj (fun x hx z => onlyp x hx (Or.inr z)), fun x _ => gP_m j_n j_k n_k p3.symm x⟩ rfl
      simp only [cw_up]
      rw [if_neg (by omega), if_neg (by omega), if_neg (by omega), if_neg (by omega), if_neg (by omega), if_neg (by omega), if_neg (by omega), if_neg (by omega)]
end
end
section
/-! THE MODEL'S TREE: cut, exchange, no joints, laid aside -/
theorem WFt.sib {s : Nat} {lf rt pa : Nat → Int32} (hW : WFt s lf rt pa) {n : Nat} (hn : nodeN s lf n) (hp : pa n ≠ -1) : ∃ p o, 8 ≤ p ∧ p < 15 ∧ pa n = nI p ∧ lf p ≠ -1 ∧ nodeN s lf p ∧ nodeN s lf o ∧ n ≠ o ∧ pa o = nI p ∧ (lf p = nI n ∧ rt p = nI o ∨ lf p = nI o ∧ rt p = nI n) := by
  obtain ⟨p, p8, p15, p1, p2, p3, p4⟩ := hW.up hn hp
  obtain ⟨a, b, ea, eb, na, nb, nab, pa_a, pa_b⟩ := hW.dn p8 p15 p2
  have la := hW.lt na
  have lb := hW.lt nb
  have ln := hW.lt hn
  rcases p4 with q | q
  · obtain rfl : a = n := nI_inj (by omega) (by omega) (ea.symm.trans q)
    exact ⟨p, b, p8, p15, p1, p2, p3, nb, nab, pa_b, Or.inl ⟨q, eb⟩⟩
  · obtain rfl : b = n := nI_inj (by omega) (by omega) (eb.symm.trans q)
    exact ⟨p, a, p8, p15, p1, p2, p3, na, nab.symm, pa_a, Or.inr ⟨ea, q⟩⟩
section
variable {d s : Nat} {σ : cw_V} {lam : Nat → Int64} {Q : cw_Q} {ρ : Nat → Nat}
theorem z_takesOff (hM : MW σ s) {n p o : Nat} (hn : nodeN s (σ 151) n) (p8 : 8 ≤ p) (p15 : p < 15) (hpn : σ 153 n = nI p) (hp : nodeN s (σ 151) p) (ho : nodeN s (σ 151) o) (n_o : n ≠ o) (hpo : σ 153 o = nI p) (hch : σ 151 p = nI n ∧ σ 152 p = nI o ∨ σ 151 p = nI o ∧ σ 152 p = nI n) (kk : ∀ τ, MW τ s → MTR σ τ (cF (σ 151) p o) (cF (σ 152) p o) (cP (σ 153) p n o) → Q (some (.int (nI p))) (cw_B τ lam)) : cw_Z (d + 2) m_Mo_takesOff [.ref 146, .int (nI n)] (cw_B σ lam) Q := by
  have hW := hM.2.1
  have hW' := hW.cut hn ho n_o p8 p15 hpn hpo
  have ln := hW.lt hn
  have lo := hW.lt ho
  obtain ⟨ρ, hρ⟩ := hW.2.2.2.2.2
  have n_p : n ≠ p := fun e => by have := (hρ n hn).2 p p15 hpn; rw [e] at this; omega
  have o_p : o ≠ p := fun e => by have := (hρ o ho).2 p p15 hpo; rw [e] at this; omega
  have only := fun x (hx : x < 15) h => hW.only (x := x) (n := p) hx hp h
  have fin : ∀ τ, MTR σ τ (cF (σ 151) p o) (cF (σ 152) p o) (cP (σ 153) p n o) → τ 150 = upd (σ 150) p 0 → Q (some (.int (nI p))) (cw_B τ lam) := by
    intro τ hT h150
    refine kk τ (hT.mw hM.1 hW' (fun x hx => ?_)) hT
    rw [nodeN_c lo p8 p15 hW.1, h150]
    have := hM.2.2 x hx
    unfold upd
    grind
  refine zi (L := [some (.ref 146), some (.int (nI n)), none, none]) rfl rfl (fun K hK => ?_)
  have key : K 33 [some (.ref 146), some (.int (nI n)), some (.int (nI p)), some (.int (nI o))] [] (cw_B σ lam) := by
    by_cases hq : σ 153 p = -1
    · skip
      refine st_go hK rfl rfl ?_
      refine st_go hK rfl rfl ?_
      refine st_go hK rfl rfl ?_
      refine cv2 hK rfl rfl (Nat.le_of_ble_eq_true rfl) ?_
      refine z_repl0 p15 lo hq ?_
      change K _ _ _ _
      refine st_go hK rfl rfl ?_
      refine st_getr hK rfl rfl ?_
      refine st_go hK rfl rfl ?_
      refine st_go hK rfl rfl ?_
      refine sa (e := n) hK rfl rfl rfl (by omega) rfl ?_
      refine st_go hK rfl rfl ?_
      refine st_go hK rfl rfl ?_
      refine cv1 hK rfl rfl (Nat.le_of_ble_eq_true rfl) ?_
      refine z_goes p15 ?_
      change K _ _ _ _
      refine st_go hK rfl rfl ?_
      refine st_ret hK rfl rfl ?_
      refine fin _ ⟨fun p hp => ?_, cF_0 (fun x hx z => nI_ne1 (by omega) ((only x hx (Or.inl z)).1.symm.trans hq)), cF_0 (fun x hx z => nI_ne1 (by omega) ((only x hx (Or.inr z)).1.symm.trans hq)), fun x _ => cP_m o_p n_o.symm n_p hq.symm x⟩ rfl
      simp only [cw_up]
      rw [if_neg (by omega), if_neg (by omega), if_neg (by omega), if_neg (by omega), if_neg (by omega), if_neg (by omega)]
    · obtain ⟨q, q1, q2, q3, q4, q5, q6⟩ := hW.up hp hq
      have q_p : q ≠ p := fun e => by have := (hρ p hp).2 q q2 q3; rw [e] at this; omega
      have q_o : q ≠ o := fun e => by
        have h1 := (hρ p hp).2 q q2 q3
        have h2 := (hρ o ho).2 p p15 hpo
        rw [e] at h1; omega
      obtain ⟨a, b, ea, eb, na, nb, nab, pa_a, pa_b⟩ := hW.dn q1 q2 q4
      have la := hW.lt na
      have lb := hW.lt nb
      have onlyq : ∀ x, x < 15 → (σ 151 x = nI p ∨ σ 152 x = nI p) → x = q := fun x hx h => nI_inj (by omega) (by omega) ((only x hx h).1.symm.trans q3)
      by_cases e : σ 151 q = nI p
      · have hrt : σ 152 q ≠ nI p := fun z => nab (nI_inj (by omega) (by omega) (ea.symm.trans (e.trans (z.symm.trans eb))))
        refine st_go hK rfl rfl ?_
        refine st_go hK rfl rfl ?_
        refine st_go hK rfl rfl ?_
        refine cv2 hK rfl rfl (Nat.le_of_ble_eq_true rfl) ?_
        refine z_repl1 p15 lo q2 q3 (fun _ => ?_) (fun c => absurd e c)
        change K _ _ _ _
        refine st_go hK rfl rfl ?_
        refine st_getr hK rfl rfl ?_
        refine st_go hK rfl rfl ?_
        refine st_go hK rfl rfl ?_
        refine sa (e := n) hK rfl rfl rfl (by omega) rfl ?_
        refine st_go hK rfl rfl ?_
        refine st_go hK rfl rfl ?_
        refine cv1 hK rfl rfl (Nat.le_of_ble_eq_true rfl) ?_
        refine z_goes p15 ?_
        change K _ _ _ _
        refine st_go hK rfl rfl ?_
        refine st_ret hK rfl rfl ?_
        refine fin _ ⟨fun p hp => ?_, cF_1 e q_p (fun x hx z => onlyq x hx (Or.inl z)), cF_0 (fun x hx z => hrt (onlyq x hx (Or.inr z) ▸ z)), fun x _ => cP_m o_p n_o.symm n_p q3.symm x⟩ rfl
        simp only [cw_up]
        rw [if_neg (by omega), if_neg (by omega), if_neg (by omega), if_neg (by omega), if_neg (by omega), if_neg (by omega), if_neg (by omega)]
      · have er : σ 152 q = nI p := q6.resolve_left e
        refine st_go hK rfl rfl ?_
        refine st_go hK rfl rfl ?_
        refine st_go hK rfl rfl ?_
        refine cv2 hK rfl rfl (Nat.le_of_ble_eq_true rfl) ?_
        refine z_repl1 p15 lo q2 q3 (fun c => absurd c e) (fun _ => ?_)
        change K _ _ _ _
        refine st_go hK rfl rfl ?_
        refine st_getr hK rfl rfl ?_
        refine st_go hK rfl rfl ?_
        refine st_go hK rfl rfl ?_
        refine sa (e := n) hK rfl rfl rfl (by omega) rfl ?_
        refine st_go hK rfl rfl ?_
        refine st_go hK rfl rfl ?_
        refine cv1 hK rfl rfl (Nat.le_of_ble_eq_true rfl) ?_
        refine z_goes p15 ?_
        change K _ _ _ _
        refine st_go hK rfl rfl ?_
        refine st_ret hK rfl rfl ?_
        refine fin _ ⟨fun p hp => ?_, cF_0 (fun x hx z => e (onlyq x hx (Or.inl z) ▸ z)), cF_1 er q_p (fun x hx z => onlyq x hx (Or.inr z)), fun x _ => cP_m o_p n_o.symm n_p q3.symm x⟩ rfl
        simp only [cw_up]
        rw [if_neg (by omega), if_neg (by omega), if_neg (by omega), if_neg (by omega), if_neg (by omega), if_neg (by omega), if_neg (by omega)]
  rcases hch with ⟨h1, h2⟩ | ⟨h1, h2⟩
  · skip
    refine st_go hK rfl rfl ?_
    refine st_getr hK rfl rfl ?_
    refine st_go hK rfl rfl ?_
    refine ga (e := n) (v := nI p) hK rfl rfl rfl (by omega) rfl hpn ?_
    refine st_go hK rfl rfl ?_
    refine st_go hK rfl rfl ?_
    refine st_getr hK rfl rfl ?_
    refine st_go hK rfl rfl ?_
    refine ga (e := p) (v := nI n) hK rfl rfl rfl (by omega) rfl h1 ?_
    refine st_go hK rfl rfl ?_
    refine st_ifn hK rfl rfl (not_congr (nI_eq (a := n) (b := n) (by omega) (by omega))) (fun c => absurd c (fun z => z rfl)) (fun _ => ?_)
    refine st_go hK rfl rfl ?_
    refine st_getr hK rfl rfl ?_
    refine st_go hK rfl rfl ?_
    refine ga (e := p) (v := nI o) hK rfl rfl rfl (by omega) rfl h2 ?_
    refine st_go hK rfl rfl ?_
    refine st_go hK rfl rfl ?_
    exact key
  · skip
    refine st_go hK rfl rfl ?_
    refine st_getr hK rfl rfl ?_
    refine st_go hK rfl rfl ?_
    refine ga (e := n) (v := nI p) hK rfl rfl rfl (by omega) rfl hpn ?_
    refine st_go hK rfl rfl ?_
    refine st_go hK rfl rfl ?_
    refine st_getr hK rfl rfl ?_
    refine st_go hK rfl rfl ?_
    refine ga (e := p) (v := nI o) hK rfl rfl rfl (by omega) rfl h1 ?_
    refine st_go hK rfl rfl ?_
    refine st_ifn hK rfl rfl (not_congr (nI_eq (a := o) (b := n) (by omega) (by omega))) (fun _ => ?_) (fun c => absurd n_o.symm c)
    refine st_go hK rfl rfl ?_
    refine st_getr hK rfl rfl ?_
    refine st_go hK rfl rfl ?_
    refine ga (e := p) (v := nI o) hK rfl rfl rfl (by omega) rfl h1 ?_
    refine st_go hK rfl rfl ?_
    exact key
/-- two can be exchanged -/
def cEM (σ : cw_V) (ρ : Nat → Nat) (a b : Nat) : Prop := σ 153 a ≠ -1 ∧ σ 153 b ≠ -1 ∧ σ 153 a ≠ σ 153 b ∧ ¬ Inr (σ 153) ρ a b ∧ ¬ Inr (σ 153) ρ b a
theorem z_mcanExchange (hM : MW σ s) {a b : Nat} (hρ : Dep s (σ 151) (σ 153) ρ) (ha : nodeN s (σ 151) a) (hb : nodeN s (σ 151) b) (k1 : cEM σ ρ a b → Q (some (.int 1)) (cw_B σ lam)) (k0 : ¬ cEM σ ρ a b → Q (some (.int 0)) (cw_B σ lam)) : cw_Z (d + 2) m_Mo_canExchange [.ref 146, .int (nI a), .int (nI b)] (cw_B σ lam) Q := by
  have la := hM.2.1.lt ha
  have lb := hM.2.1.lt hb
  refine zi (L := [some (.ref 146), some (.int (nI a)), some (.int (nI b))]) rfl rfl (fun K hK => ?_)
  refine st_go hK rfl rfl ?_
  refine st_getr hK rfl rfl ?_
  refine st_go hK rfl rfl ?_
  refine ga (e := a) (v := σ 153 a) hK rfl rfl rfl (by omega) rfl rfl ?_
  refine st_go hK rfl rfl ?_
  refine st_if hK rfl rfl (fun c7 => ?_) (fun c7 => ?_)
  · refine st_go hK rfl rfl ?_
    refine st_zret hK rfl (Or.inl rfl) ?_
    exact k0 (fun ⟨z1, z2, z3, z4, z5⟩ => by first | exact z1 c7 | exact z2 c17 | exact z3 c32 | exact z4 wa | exact z5 wb)
  · refine st_go hK rfl rfl ?_
    refine st_getr hK rfl rfl ?_
    refine st_go hK rfl rfl ?_
    refine ga (e := b) (v := σ 153 b) hK rfl rfl rfl (by omega) rfl rfl ?_
    refine st_go hK rfl rfl ?_
    refine st_if hK rfl rfl (fun c17 => ?_) (fun c17 => ?_)
    · refine st_go hK rfl rfl ?_
      refine st_zret hK rfl (Or.inl rfl) ?_
      exact k0 (fun ⟨z1, z2, z3, z4, z5⟩ => by first | exact z1 c7 | exact z2 c17 | exact z3 c32 | exact z4 wa | exact z5 wb)
    · refine st_go hK rfl rfl ?_
      refine st_getr hK rfl rfl ?_
      refine st_go hK rfl rfl ?_
      refine ga (e := a) (v := σ 153 a) hK rfl rfl rfl (by omega) rfl rfl ?_
      refine st_go hK rfl rfl ?_
      refine st_getr hK rfl rfl ?_
      refine st_go hK rfl rfl ?_
      refine ga (e := b) (v := σ 153 b) hK rfl rfl rfl (by omega) rfl rfl ?_
      refine st_if hK rfl rfl (fun c32 => ?_) (fun c32 => ?_)
      · refine st_go hK rfl rfl ?_
        refine st_zret hK rfl (Or.inl rfl) ?_
        exact k0 (fun ⟨z1, z2, z3, z4, z5⟩ => by first | exact z1 c7 | exact z2 c17 | exact z3 c32 | exact z4 wa | exact z5 wb)
      · refine st_go hK rfl rfl ?_
        refine st_go hK rfl rfl ?_
        refine st_go hK rfl rfl ?_
        refine cv2 hK rfl rfl (Nat.le_of_ble_eq_true rfl) ?_
        refine z_misWithin hM.2.1 hρ ha lb (fun wa => ?_) (fun wa => ?_)
        · change K _ _ (_ :: _) _
          refine st_if hK rfl rfl (fun _ => ?_) (fun c => absurd (by decide) c)
          refine st_go hK rfl rfl ?_
          refine st_zret hK rfl (Or.inl rfl) ?_
          exact k0 (fun ⟨z1, z2, z3, z4, z5⟩ => by first | exact z1 c7 | exact z2 c17 | exact z3 c32 | exact z4 wa | exact z5 wb)
        · change K _ _ (_ :: _) _
          refine st_if hK rfl rfl (fun c => absurd c (by decide)) (fun _ => ?_)
          refine st_go hK rfl rfl ?_
          refine st_go hK rfl rfl ?_
          refine st_go hK rfl rfl ?_
          refine cv2 hK rfl rfl (Nat.le_of_ble_eq_true rfl) ?_
          refine z_misWithin hM.2.1 hρ hb la (fun wb => ?_) (fun wb => ?_)
          · change K _ _ (_ :: _) _
            refine st_if hK rfl rfl (fun _ => ?_) (fun c => absurd (by decide) c)
            refine st_go hK rfl rfl ?_
            refine st_zret hK rfl (Or.inl rfl) ?_
            exact k0 (fun ⟨z1, z2, z3, z4, z5⟩ => by first | exact z1 c7 | exact z2 c17 | exact z3 c32 | exact z4 wa | exact z5 wb)
          · change K _ _ (_ :: _) _
            refine st_if hK rfl rfl (fun c => absurd c (by decide)) (fun _ => ?_)
            refine st_go hK rfl rfl ?_
            refine st_go hK rfl rfl ?_
            refine st_zret hK rfl (Or.inr rfl) ?_
            exact k1 ⟨c7, c17, c32, wa, wb⟩
theorem z_swaps (hM : MW σ s) {a b : Nat} (hρ : Dep s (σ 151) (σ 153) ρ) (ha : nodeN s (σ 151) a) (hb : nodeN s (σ 151) b) (hc : cEM σ ρ a b) (kk : ∀ τ, MW τ s → MTR σ τ (xF (σ 151) a b) (xF (σ 152) a b) (xP (σ 153) a b) → Q none (cw_B τ lam)) : cw_Z (d + 1) m_Mo_swaps [.ref 146, .int (nI a), .int (nI b)] (cw_B σ lam) Q := by
  have hW := hM.2.1
  have hW' := hW.exch ha hb hc.1 hc.2.1 hc.2.2.1 hρ hc.2.2.2.1 hc.2.2.2.2
  have la := hW.lt ha
  have lb := hW.lt hb
  have a_b : a ≠ b := fun e => hc.2.2.1 (by rw [e])
  have fin : ∀ τ, MTR σ τ (xF (σ 151) a b) (xF (σ 152) a b) (xP (σ 153) a b) → τ 150 = σ 150 → Q none (cw_B τ lam) := by
    intro τ hT h150
    refine kk τ (hT.mw hM.1 hW' (fun x hx => ?_)) hT
    rw [nodeN_x la lb, h150]
    exact hM.2.2 x hx
  obtain ⟨p, a', p8, p15, p1, p2, p3, na', n_a', pa', hpc⟩ := hW.sib ha hc.1
  obtain ⟨q, b', q8, q15, q1, q2, q3, nb', n_b', qb', hqc⟩ := hW.sib hb hc.2.1
  have la' := hW.lt na'
  have lb' := hW.lt nb'
  have p_q : p ≠ q := fun e => hc.2.2.1 (by rw [p1, q1, e])
  have oa : ∀ x, x < 15 → (σ 151 x = nI a ∨ σ 152 x = nI a) → x = p := fun x hx h => nI_inj (by omega) (by omega) ((hW.only hx ha h).1.symm.trans p1)
  have ob : ∀ x, x < 15 → (σ 151 x = nI b ∨ σ 152 x = nI b) → x = q := fun x hx h => nI_inj (by omega) (by omega) ((hW.only hx hb h).1.symm.trans q1)
  have iab : nI a ≠ nI b := fun z => a_b (nI_inj (by omega) (by omega) z)
  have iaa : nI a' ≠ nI a := fun z => n_a' (nI_inj (by omega) (by omega) z.symm)
  have ibb : nI b' ≠ nI b := fun z => n_b' (nI_inj (by omega) (by omega) z.symm)
  refine zi (L := [some (.ref 146), some (.int (nI a)), some (.int (nI b)), none, none, none, none]) rfl rfl (fun K hK => ?_)
  rcases hpc with ⟨u1, u2⟩ | ⟨u1, u2⟩ <;> rcases hqc with ⟨v1, v2⟩ | ⟨v1, v2⟩
  · skip
    refine st_go hK rfl rfl ?_
    refine st_getr hK rfl rfl ?_
    refine st_go hK rfl rfl ?_
    refine ga (e := a) (v := nI p) hK rfl rfl rfl (by omega) rfl p1 ?_
    refine st_go hK rfl rfl ?_
    refine st_go hK rfl rfl ?_
    refine st_getr hK rfl rfl ?_
    refine st_go hK rfl rfl ?_
    refine ga (e := b) (v := nI q) hK rfl rfl rfl (by omega) rfl q1 ?_
    refine st_go hK rfl rfl ?_
    refine st_go hK rfl rfl ?_
    refine st_getr hK rfl rfl ?_
    refine st_go hK rfl rfl ?_
    refine ga (e := p) (v := nI a) hK rfl rfl rfl (by omega) rfl u1 ?_
    refine st_go hK rfl rfl ?_
    refine st_ifn hK rfl rfl (not_congr (nI_eq (a := a) (b := a) (by omega) (by omega))) (fun c => absurd c (fun z => z rfl)) (fun _ => ?_)
    refine st_go hK rfl rfl ?_
    refine st_go hK rfl rfl ?_
    refine st_go hK rfl rfl ?_
    refine st_go hK rfl rfl ?_
    refine st_getr hK rfl rfl ?_
    refine st_go hK rfl rfl ?_
    refine ga (e := q) (v := nI b) hK rfl rfl rfl (by omega) rfl v1 ?_
    refine st_go hK rfl rfl ?_
    refine st_ifn hK rfl rfl (not_congr (nI_eq (a := b) (b := b) (by omega) (by omega))) (fun c => absurd c (fun z => z rfl)) (fun _ => ?_)
    refine st_go hK rfl rfl ?_
    refine st_go hK rfl rfl ?_
    refine st_go hK rfl rfl ?_
    refine st_go hK rfl rfl ?_
    refine st_if hK rfl rfl (fun c => absurd c (by decide)) (fun _ => ?_)
    refine st_go hK rfl rfl ?_
    refine st_getr hK rfl rfl ?_
    refine st_go hK rfl rfl ?_
    refine st_go hK rfl rfl ?_
    refine sa (e := p) hK rfl rfl rfl (by omega) rfl ?_
    refine st_go hK rfl rfl ?_
    refine st_go hK rfl rfl ?_
    refine st_if hK rfl rfl (fun c => absurd c (by decide)) (fun _ => ?_)
    refine st_go hK rfl rfl ?_
    refine st_getr hK rfl rfl ?_
    refine st_go hK rfl rfl ?_
    refine st_go hK rfl rfl ?_
    refine sa (e := q) hK rfl rfl rfl (by omega) rfl ?_
    refine st_go hK rfl rfl ?_
    refine st_go hK rfl rfl ?_
    refine st_getr hK rfl rfl ?_
    refine st_go hK rfl rfl ?_
    refine st_go hK rfl rfl ?_
    refine sa (e := a) hK rfl rfl rfl (by omega) rfl ?_
    refine st_go hK rfl rfl ?_
    refine st_getr hK rfl rfl ?_
    refine st_go hK rfl rfl ?_
    refine st_go hK rfl rfl ?_
    refine sa (e := b) hK rfl rfl rfl (by omega) rfl ?_
    refine st_ret hK rfl rfl ?_
    refine fin _ ⟨fun p hp => ?_, xF_ab u1 v1 p_q iab (fun x hx z => oa x hx (Or.inl z)) (fun x hx z => ob x hx (Or.inl z)), xF_0 (fun x hx z => by have := oa x hx (Or.inr z); subst this; exact iaa (u2.symm.trans z)) (fun x hx z => by have := ob x hx (Or.inr z); subst this; exact ibb (v2.symm.trans z)), fun x _ => xP_m q1.symm p1.symm a_b x⟩ rfl
    simp only [cw_up]
    rw [if_neg (by omega), if_neg (by omega), if_neg (by omega), if_neg (by omega)]
  · skip
    refine st_go hK rfl rfl ?_
    refine st_getr hK rfl rfl ?_
    refine st_go hK rfl rfl ?_
    refine ga (e := a) (v := nI p) hK rfl rfl rfl (by omega) rfl p1 ?_
    refine st_go hK rfl rfl ?_
    refine st_go hK rfl rfl ?_
    refine st_getr hK rfl rfl ?_
    refine st_go hK rfl rfl ?_
    refine ga (e := b) (v := nI q) hK rfl rfl rfl (by omega) rfl q1 ?_
    refine st_go hK rfl rfl ?_
    refine st_go hK rfl rfl ?_
    refine st_getr hK rfl rfl ?_
    refine st_go hK rfl rfl ?_
    refine ga (e := p) (v := nI a) hK rfl rfl rfl (by omega) rfl u1 ?_
    refine st_go hK rfl rfl ?_
    refine st_ifn hK rfl rfl (not_congr (nI_eq (a := a) (b := a) (by omega) (by omega))) (fun c => absurd c (fun z => z rfl)) (fun _ => ?_)
    refine st_go hK rfl rfl ?_
    refine st_go hK rfl rfl ?_
    refine st_go hK rfl rfl ?_
    refine st_go hK rfl rfl ?_
    refine st_getr hK rfl rfl ?_
    refine st_go hK rfl rfl ?_
    refine ga (e := q) (v := nI b') hK rfl rfl rfl (by omega) rfl v1 ?_
    refine st_go hK rfl rfl ?_
    refine st_ifn hK rfl rfl (not_congr (nI_eq (a := b') (b := b) (by omega) (by omega))) (fun _ => ?_) (fun c => absurd (Ne.symm n_b') c)
    refine st_go hK rfl rfl ?_
    refine st_go hK rfl rfl ?_
    refine st_go hK rfl rfl ?_
    refine st_if hK rfl rfl (fun c => absurd c (by decide)) (fun _ => ?_)
    refine st_go hK rfl rfl ?_
    refine st_getr hK rfl rfl ?_
    refine st_go hK rfl rfl ?_
    refine st_go hK rfl rfl ?_
    refine sa (e := p) hK rfl rfl rfl (by omega) rfl ?_
    refine st_go hK rfl rfl ?_
    refine st_go hK rfl rfl ?_
    refine st_if hK rfl rfl (fun _ => ?_) (fun c => absurd (by decide) c)
    refine st_go hK rfl rfl ?_
    refine st_getr hK rfl rfl ?_
    refine st_go hK rfl rfl ?_
    refine st_go hK rfl rfl ?_
    refine sa (e := q) hK rfl rfl rfl (by omega) rfl ?_
    refine st_go hK rfl rfl ?_
    refine st_getr hK rfl rfl ?_
    refine st_go hK rfl rfl ?_
    refine st_go hK rfl rfl ?_
    refine sa (e := a) hK rfl rfl rfl (by omega) rfl ?_
    refine st_go hK rfl rfl ?_
    refine st_getr hK rfl rfl ?_
    refine st_go hK rfl rfl ?_
    refine st_go hK rfl rfl ?_
    refine sa (e := b) hK rfl rfl rfl (by omega) rfl ?_
    refine st_ret hK rfl rfl ?_
    refine fin _ ⟨fun p hp => ?_, xF_a u1 (fun x hx z => oa x hx (Or.inl z)) (fun x hx z => by have := ob x hx (Or.inl z); subst this; exact ibb (v1.symm.trans z)), xF_b v2 (fun x hx z => by have := oa x hx (Or.inr z); subst this; exact iaa (u2.symm.trans z)) (fun x hx z => ob x hx (Or.inr z)), fun x _ => xP_m q1.symm p1.symm a_b x⟩ rfl
    simp only [cw_up]
    rw [if_neg (by omega), if_neg (by omega), if_neg (by omega), if_neg (by omega)]
  · skip
    refine st_go hK rfl rfl ?_
    refine st_getr hK rfl rfl ?_
    refine st_go hK rfl rfl ?_
    refine ga (e := a) (v := nI p) hK rfl rfl rfl (by omega) rfl p1 ?_
    refine st_go hK rfl rfl ?_
    refine st_go hK rfl rfl ?_
    refine st_getr hK rfl rfl ?_
    refine st_go hK rfl rfl ?_
    refine ga (e := b) (v := nI q) hK rfl rfl rfl (by omega) rfl q1 ?_
    refine st_go hK rfl rfl ?_
    refine st_go hK rfl rfl ?_
    refine st_getr hK rfl rfl ?_
    refine st_go hK rfl rfl ?_
    refine ga (e := p) (v := nI a') hK rfl rfl rfl (by omega) rfl u1 ?_
    refine st_go hK rfl rfl ?_
    refine st_ifn hK rfl rfl (not_congr (nI_eq (a := a') (b := a) (by omega) (by omega))) (fun _ => ?_) (fun c => absurd (Ne.symm n_a') c)
    refine st_go hK rfl rfl ?_
    refine st_go hK rfl rfl ?_
    refine st_go hK rfl rfl ?_
    refine st_getr hK rfl rfl ?_
    refine st_go hK rfl rfl ?_
    refine ga (e := q) (v := nI b) hK rfl rfl rfl (by omega) rfl v1 ?_
    refine st_go hK rfl rfl ?_
    refine st_ifn hK rfl rfl (not_congr (nI_eq (a := b) (b := b) (by omega) (by omega))) (fun c => absurd c (fun z => z rfl)) (fun _ => ?_)
    refine st_go hK rfl rfl ?_
    refine st_go hK rfl rfl ?_
    refine st_go hK rfl rfl ?_
    refine st_go hK rfl rfl ?_
    refine st_if hK rfl rfl (fun _ => ?_) (fun c => absurd (by decide) c)
    refine st_go hK rfl rfl ?_
    refine st_getr hK rfl rfl ?_
    refine st_go hK rfl rfl ?_
    refine st_go hK rfl rfl ?_
    refine sa (e := p) hK rfl rfl rfl (by omega) rfl ?_
    refine st_go hK rfl rfl ?_
    refine st_if hK rfl rfl (fun c => absurd c (by decide)) (fun _ => ?_)
    refine st_go hK rfl rfl ?_
    refine st_getr hK rfl rfl ?_
    refine st_go hK rfl rfl ?_
    refine st_go hK rfl rfl ?_
    refine sa (e := q) hK rfl rfl rfl (by omega) rfl ?_
    refine st_go hK rfl rfl ?_
    refine st_go hK rfl rfl ?_
    refine st_getr hK rfl rfl ?_
    refine st_go hK rfl rfl ?_
    refine st_go hK rfl rfl ?_
    refine sa (e := a) hK rfl rfl rfl (by omega) rfl ?_
    refine st_go hK rfl rfl ?_
    refine st_getr hK rfl rfl ?_
    refine st_go hK rfl rfl ?_
    refine st_go hK rfl rfl ?_
    refine sa (e := b) hK rfl rfl rfl (by omega) rfl ?_
    refine st_ret hK rfl rfl ?_
    refine fin _ ⟨fun p hp => ?_, xF_b v1 (fun x hx z => by have := oa x hx (Or.inl z); subst this; exact iaa (u1.symm.trans z)) (fun x hx z => ob x hx (Or.inl z)), xF_a u2 (fun x hx z => oa x hx (Or.inr z)) (fun x hx z => by have := ob x hx (Or.inr z); subst this; exact ibb (v2.symm.trans z)), fun x _ => xP_m q1.symm p1.symm a_b x⟩ rfl
    simp only [cw_up]
    rw [if_neg (by omega), if_neg (by omega), if_neg (by omega), if_neg (by omega)]
  · skip
    refine st_go hK rfl rfl ?_
    refine st_getr hK rfl rfl ?_
    refine st_go hK rfl rfl ?_
    refine ga (e := a) (v := nI p) hK rfl rfl rfl (by omega) rfl p1 ?_
    refine st_go hK rfl rfl ?_
    refine st_go hK rfl rfl ?_
    refine st_getr hK rfl rfl ?_
    refine st_go hK rfl rfl ?_
    refine ga (e := b) (v := nI q) hK rfl rfl rfl (by omega) rfl q1 ?_
    refine st_go hK rfl rfl ?_
    refine st_go hK rfl rfl ?_
    refine st_getr hK rfl rfl ?_
    refine st_go hK rfl rfl ?_
    refine ga (e := p) (v := nI a') hK rfl rfl rfl (by omega) rfl u1 ?_
    refine st_go hK rfl rfl ?_
    refine st_ifn hK rfl rfl (not_congr (nI_eq (a := a') (b := a) (by omega) (by omega))) (fun _ => ?_) (fun c => absurd (Ne.symm n_a') c)
    refine st_go hK rfl rfl ?_
    refine st_go hK rfl rfl ?_
    refine st_go hK rfl rfl ?_
    refine st_getr hK rfl rfl ?_
    refine st_go hK rfl rfl ?_
    refine ga (e := q) (v := nI b') hK rfl rfl rfl (by omega) rfl v1 ?_
    refine st_go hK rfl rfl ?_
    refine st_ifn hK rfl rfl (not_congr (nI_eq (a := b') (b := b) (by omega) (by omega))) (fun _ => ?_) (fun c => absurd (Ne.symm n_b') c)
    refine st_go hK rfl rfl ?_
    refine st_go hK rfl rfl ?_
    refine st_go hK rfl rfl ?_
    refine st_if hK rfl rfl (fun _ => ?_) (fun c => absurd (by decide) c)
    refine st_go hK rfl rfl ?_
    refine st_getr hK rfl rfl ?_
    refine st_go hK rfl rfl ?_
    refine st_go hK rfl rfl ?_
    refine sa (e := p) hK rfl rfl rfl (by omega) rfl ?_
    refine st_go hK rfl rfl ?_
    refine st_if hK rfl rfl (fun _ => ?_) (fun c => absurd (by decide) c)
    refine st_go hK rfl rfl ?_
    refine st_getr hK rfl rfl ?_
    refine st_go hK rfl rfl ?_
    refine st_go hK rfl rfl ?_
    refine sa (e := q) hK rfl rfl rfl (by omega) rfl ?_
    refine st_go hK rfl rfl ?_
    refine st_getr hK rfl rfl ?_
    refine st_go hK rfl rfl ?_
    refine st_go hK rfl rfl ?_
    refine sa (e := a) hK rfl rfl rfl (by omega) rfl ?_
    refine st_go hK rfl rfl ?_
    refine st_getr hK rfl rfl ?_
    refine st_go hK rfl rfl ?_
    refine st_go hK rfl rfl ?_
    refine sa (e := b) hK rfl rfl rfl (by omega) rfl ?_
    refine st_ret hK rfl rfl ?_
    refine fin _ ⟨fun p hp => ?_, xF_0 (fun x hx z => by have := oa x hx (Or.inl z); subst this; exact iaa (u1.symm.trans z)) (fun x hx z => by have := ob x hx (Or.inl z); subst this; exact ibb (v1.symm.trans z)), xF_ab u2 v2 p_q iab (fun x hx z => oa x hx (Or.inr z)) (fun x hx z => ob x hx (Or.inr z)), fun x _ => xP_m q1.symm p1.symm a_b x⟩ rfl
    simp only [cw_up]
    rw [if_neg (by omega), if_neg (by omega), if_neg (by omega), if_neg (by omega)]
end
end
section
/-! THE MODEL'S TREE seen as a tree of the class -/
def mv (σ : cw_V) : cw_V := fun p => if p = 1 then (fun k => if k = 8 then σ 146 1 else if k = 9 then σ 146 3 else if k = 10 then σ 146 4 else σ 146 5) else if p = 2 then (fun k => σ 148 (4 * k)) else if p = 3 then (fun k => σ 148 (4 * k + 1)) else if p = 4 then (fun k => σ 148 (4 * k + 2)) else if p = 5 then (fun k => σ 148 (4 * k + 3)) else if p = 6 then σ 149 else if p = 7 then σ 151 else if p = 8 then σ 152 else if p = 9 then σ 153 else fun _ => 0
theorem MW.wf {σ : cw_V} {s : Nat} (h : MW σ s) : WF (mv σ) 1 s := ⟨h.1, h.2.1⟩
/-- no joints below i -/
def NJ (σ τ : cw_V) (i : Nat) : Prop := (∀ p, (p < 150 ∨ 153 < p) → τ p = σ p) ∧ ∀ x, (8 ≤ x ∧ x < i → τ 150 x = 0 ∧ τ 151 x = -1 ∧ τ 152 x = -1 ∧ τ 153 x = -1) ∧ (¬ (8 ≤ x ∧ x < i) → τ 150 x = σ 150 x ∧ τ 151 x = σ 151 x ∧ τ 152 x = σ 152 x ∧ τ 153 x = σ 153 x)
section
variable {d s : Nat} {σ : cw_V} {lam : Nat → Int64} {Q : cw_Q}
theorem jcN_le {t : Nat} : ∀ m, jcN σ t m ≤ m
  | 0 => Nat.le_refl _
  | m + 1 => by
    have := jcN_le (t := t) m
    unfold jcN
    split <;> omega
theorem MW.jc (hM : MW σ s) {m : Nat} (hm : m < 7) : nI (jcN (mv σ) 1 m) + σ 150 (8 + m) = nI (jcN (mv σ) 1 (m + 1)) := by
  show _ = nI (jcN (mv σ) 1 m + (if σ 151 (8 + m) ≠ -1 then 1 else 0))
  have h1 := hM.2.1.1
  by_cases e : σ 151 (8 + m) ≠ -1
  · rw [if_pos e, (hM.2.2 (8 + m) (by omega)).1 (Or.inr ⟨by omega, by omega, e⟩), nI_1]
  · rw [if_neg e, (hM.2.2 (8 + m) (by omega)).2 (by rintro (z | z); omega; exact e z.2.2), Int32.add_zero]
    rfl
theorem z_noJoints (hM : MW σ s) (kk : ∀ τ, MW τ s → MTR σ τ (fun _ => -1) (fun _ => -1) (fun _ => -1) → Q (some (.int (nI (jcN (mv σ) 1 7)))) (cw_B τ lam)) : cw_Z (d + 2) m_Mo_noJoints [.ref 146] (cw_B σ lam) Q := by
  have hW := hM.2.1
  refine zi (L := [some (.ref 146), none, none]) rfl rfl (fun K hK => ?_)
  have loop2 : ∀ m i τ, i + m = 8 → (NJ σ τ 15 ∨ True) → (∀ p, (p < 150 ∨ 153 < p) → τ p = σ p) → (∀ x, x < 15 → τ 151 x = -1 ∧ τ 152 x = -1 ∧ (8 ≤ x ∨ x < i → τ 153 x = -1) ∧ (8 ≤ x → τ 150 x = 0) ∧ (x < 8 → τ 150 x = σ 150 x)) → K 33 [some (.ref 146), some (.int (nI (jcN (mv σ) 1 7))), some (.int (nI i))] [] (cw_B τ lam) := by
    intro m
    induction m with
    | zero =>
      intro i τ hi _ h0 h1
      obtain rfl : i = 8 := by omega
      refine st_go hK rfl rfl ?_
      refine st_go hK rfl rfl ?_
      refine st_ifn hK rfl rfl (nI_leI (a := 8) (b := 8) (by omega) (by omega)) (fun _ => ?_) (fun c => absurd (by omega) c)
      refine st_go hK rfl rfl ?_
      refine st_ret hK rfl rfl ?_
      refine kk τ ((show MTR σ τ (fun _ => -1) (fun _ => -1) (fun _ => -1) from ⟨h0, fun x hx => (h1 x hx).1, fun x hx => (h1 x hx).2.1, fun x hx => (h1 x hx).2.2.1 (by omega)⟩).mw hM.1 (WFt.none hW.1 (fun _ _ => rfl) (fun _ _ => rfl) (fun _ _ => rfl)) (fun n hn => ?_)) ⟨h0, fun x hx => (h1 x hx).1, fun x hx => (h1 x hx).2.1, fun x hx => (h1 x hx).2.2.1 (by omega)⟩
      have hx := h1 n hn
      have h2 := hM.2.2 n hn
      have h3 := hW.1
      refine ⟨fun z => ?_, fun z => ?_⟩
      · rcases z with z | z
        · rw [hx.2.2.2.2 (by omega)]
          exact h2.1 (Or.inl z)
        · exact absurd rfl z.2.2
      · by_cases e : n < 8
        · rw [hx.2.2.2.2 e]
          exact h2.2 (by rintro (q | q); exact z (Or.inl q); omega)
        · exact hx.2.2.2.1 (by omega)
    | succ m ih =>
      intro i τ hi _ h0 h1
      refine st_go hK rfl rfl ?_
      refine st_go hK rfl rfl ?_
      refine st_ifn hK rfl rfl (nI_leI (a := 8) (b := i) (by omega) (by omega)) (fun c => absurd c (by omega)) (fun _ => ?_)
      refine st_go hK rfl rfl ?_
      refine st_getr hK rfl rfl ?_
      refine st_go hK rfl rfl ?_
      refine st_go hK rfl rfl ?_
      refine sa (e := i) hK rfl rfl rfl (by omega) rfl ?_
      refine st_go hK rfl rfl ?_
      rw [nI_1]
      refine st_go hK rfl rfl ?_
      refine ih (i + 1) _ (by omega) (Or.inr trivial) (fun p hp => ?_) (fun x hx => ?_)
      · rw [up_ne (by omega)]
        exact h0 p hp
      · have hx := h1 x hx
        clear ih kk h1
        simp only [up_at]
        grind
  have loop1 : ∀ m i τ, i + m = 7 → NJ σ τ (8 + i) → K 5 [some (.ref 146), some (.int (nI (jcN (mv σ) 1 i))), some (.int (nI (8 + i)))] [] (cw_B τ lam) := by
    intro m
    induction m with
    | zero =>
      intro i τ hi h
      obtain rfl : i = 7 := by omega
      refine st_go hK rfl rfl ?_
      refine st_go hK rfl rfl ?_
      refine st_ifn hK rfl rfl (nI_leI (a := 15) (b := 8 + 7) (by omega) (by omega)) (fun _ => ?_) (fun c => absurd (by omega) c)
      refine st_go hK rfl rfl ?_
      refine st_go hK rfl rfl ?_
      refine loop2 8 0 τ (by omega) (Or.inr trivial) h.1 (fun x hx => ?_)
      have h2 := h.2 x
      have h3 := hW.2.1 x hx
      by_cases e : x < 8
      · obtain ⟨a0, a1, a2, a3⟩ := h2.2 (by omega)
        obtain ⟨b1, b2⟩ := h3 (Or.inl e)
        exact ⟨a1.trans b1, a2.trans b2, fun z => by omega, fun z => by omega, fun _ => a0⟩
      · obtain ⟨a0, a1, a2, a3⟩ := h2.1 (by omega)
        exact ⟨a1, a2, fun _ => a3, fun _ => a0, fun z => absurd z e⟩
    | succ m ih =>
      intro i τ hi h
      have hs := h.2 (8 + i)
      refine st_go hK rfl rfl ?_
      refine st_go hK rfl rfl ?_
      refine st_ifn hK rfl rfl (nI_leI (a := 15) (b := 8 + i) (by omega) (by omega)) (fun c => absurd c (by omega)) (fun _ => ?_)
      refine st_go hK rfl rfl ?_
      refine st_go hK rfl rfl ?_
      refine st_getr hK rfl rfl ?_
      refine st_go hK rfl rfl ?_
      refine ga (e := 8 + i) (v := σ 150 (8 + i)) hK rfl rfl rfl (by omega) rfl ((hs.2 (by omega)).1) ?_
      refine bnv hK rfl (hM.jc (by omega)) ?_
      refine st_go hK rfl rfl ?_
      refine st_go hK rfl rfl ?_
      refine st_go hK rfl rfl ?_
      refine cv1 hK rfl rfl (Nat.le_of_ble_eq_true rfl) ?_
      refine z_goes (by omega) ?_
      change K _ _ _ _
      refine st_go hK rfl rfl ?_
      rw [nI_1]
      refine st_go hK rfl rfl ?_
      refine ih (i + 1) _ (by omega) ⟨fun p hp => ?_, fun x => ?_⟩
      · rw [up_ne (by omega), up_ne (by omega), up_ne (by omega), up_ne (by omega)]
        exact h.1 p hp
      · have h2 := h.2 x
        clear ih kk
        simp only [up_at]
        grind (splits := 40)
  refine st_go hK rfl rfl ?_
  refine st_go hK rfl rfl ?_
  refine st_go hK rfl rfl ?_
  refine st_go hK rfl rfl ?_
  exact loop1 7 0 σ (by omega) ⟨fun _ _ => rfl, fun x => ⟨fun z => by omega, fun _ => ⟨rfl, rfl, rfl, rfl⟩⟩⟩
/-- laid aside -/
def AS (σ τ : cw_V) (i : Nat) : Prop := (∀ p, p ≠ 154 → τ p = σ p) ∧ ∀ x, x < i → τ 154 x = σ 150 x ∧ τ 154 (15 + x) = σ 151 x ∧ τ 154 (30 + x) = σ 152 x ∧ τ 154 (45 + x) = σ 153 x
theorem z_laysAside (kk : ∀ τ, AS σ τ 15 → Q none (cw_B τ lam)) : cw_Z (d + 1) m_Mo_laysAside [.ref 146] (cw_B σ lam) Q := by
  refine zi (L := [some (.ref 146), none]) rfl rfl (fun K hK => ?_)
  have loop : ∀ m i τ, i + m = 15 → AS σ τ i → K 2 [some (.ref 146), some (.int (nI i))] [] (cw_B τ lam) := by
    intro m
    induction m with
    | zero =>
      intro i τ hi h
      obtain rfl : i = 15 := by omega
      refine st_go hK rfl rfl ?_
      refine st_go hK rfl rfl ?_
      refine st_ifn hK rfl rfl (nI_leI (a := 15) (b := 15) (by omega) (by omega)) (fun _ => ?_) (fun c => absurd (by omega) c)
      refine st_ret hK rfl rfl ?_
      exact kk τ h
    | succ m ih =>
      intro i τ hi h
      refine st_go hK rfl rfl ?_
      refine st_go hK rfl rfl ?_
      refine st_ifn hK rfl rfl (nI_leI (a := 15) (b := i) (by omega) (by omega)) (fun c => absurd c (by omega)) (fun _ => ?_)
      refine st_go hK rfl rfl ?_
      refine st_getr hK rfl rfl ?_
      refine st_go hK rfl rfl ?_
      refine st_go hK rfl rfl ?_
      refine st_getr hK rfl rfl ?_
      refine st_go hK rfl rfl ?_
      refine ga (e := i) (v := σ 150 i) hK rfl rfl rfl (by omega) rfl (congrFun (h.1 150 (by decide)) _) ?_
      refine sa (e := i) hK rfl rfl rfl (by omega) rfl ?_
      refine st_go hK rfl rfl ?_
      refine st_getr hK rfl rfl ?_
      refine st_go hK rfl rfl ?_
      refine st_go hK rfl rfl ?_
      refine bnv hK rfl (show _ = nI (15 + i) from nI_add 15 i) ?_
      refine st_go hK rfl rfl ?_
      refine st_getr hK rfl rfl ?_
      refine st_go hK rfl rfl ?_
      refine ga (e := i) (v := σ 151 i) hK rfl rfl rfl (by omega) rfl (by rw [up_ne (by decide), (congrFun (h.1 151 (by decide)) _)]) ?_
      refine sa (e := 15 + i) hK rfl rfl rfl (by omega) rfl ?_
      refine st_go hK rfl rfl ?_
      refine st_getr hK rfl rfl ?_
      refine st_go hK rfl rfl ?_
      refine st_go hK rfl rfl ?_
      refine bnv hK rfl (show _ = nI (30 + i) from nI_add 30 i) ?_
      refine st_go hK rfl rfl ?_
      refine st_getr hK rfl rfl ?_
      refine st_go hK rfl rfl ?_
      refine ga (e := i) (v := σ 152 i) hK rfl rfl rfl (by omega) rfl (by rw [up_ne (by decide), up_ne (by decide), (congrFun (h.1 152 (by decide)) _)]) ?_
      refine sa (e := 30 + i) hK rfl rfl rfl (by omega) rfl ?_
      refine st_go hK rfl rfl ?_
      refine st_getr hK rfl rfl ?_
      refine st_go hK rfl rfl ?_
      refine st_go hK rfl rfl ?_
      refine bnv hK rfl (show _ = nI (45 + i) from nI_add 45 i) ?_
      refine st_go hK rfl rfl ?_
      refine st_getr hK rfl rfl ?_
      refine st_go hK rfl rfl ?_
      refine ga (e := i) (v := σ 153 i) hK rfl rfl rfl (by omega) rfl (by rw [up_ne (by decide), up_ne (by decide), up_ne (by decide), (congrFun (h.1 153 (by decide)) _)]) ?_
      refine sa (e := 45 + i) hK rfl rfl rfl (by omega) rfl ?_
      refine st_go hK rfl rfl ?_
      rw [nI_1]
      refine st_go hK rfl rfl ?_
      refine ih (i + 1) _ (by omega) ⟨fun p hp => ?_, fun x hx => ?_⟩
      · rw [up_ne hp, up_ne hp, up_ne hp, up_ne hp]
        exact h.1 p hp
      · have h2 := h.2 x
        clear ih kk
        simp only [up_at]
        grind (splits := 40)
  refine st_go hK rfl rfl ?_
  refine st_go hK rfl rfl ?_
  exact loop 15 0 σ (by omega) ⟨fun _ _ => rfl, fun x hx => by omega⟩
/-- taken back -/
def TB (σ τ : cw_V) (i : Nat) : Prop := (∀ p, (p < 150 ∨ 153 < p) → τ p = σ p) ∧ ∀ x, x < i → τ 150 x = σ 154 x ∧ τ 151 x = σ 154 (15 + x) ∧ τ 152 x = σ 154 (30 + x) ∧ τ 153 x = σ 154 (45 + x)
theorem z_takesBack (kk : ∀ τ, TB σ τ 15 → Q none (cw_B τ lam)) : cw_Z (d + 1) m_Mo_takesBack [.ref 146] (cw_B σ lam) Q := by
  refine zi (L := [some (.ref 146), none]) rfl rfl (fun K hK => ?_)
  have loop : ∀ m i τ, i + m = 15 → TB σ τ i → K 2 [some (.ref 146), some (.int (nI i))] [] (cw_B τ lam) := by
    intro m
    induction m with
    | zero =>
      intro i τ hi h
      obtain rfl : i = 15 := by omega
      refine st_go hK rfl rfl ?_
      refine st_go hK rfl rfl ?_
      refine st_ifn hK rfl rfl (nI_leI (a := 15) (b := 15) (by omega) (by omega)) (fun _ => ?_) (fun c => absurd (by omega) c)
      refine st_ret hK rfl rfl ?_
      exact kk τ h
    | succ m ih =>
      intro i τ hi h
      refine st_go hK rfl rfl ?_
      refine st_go hK rfl rfl ?_
      refine st_ifn hK rfl rfl (nI_leI (a := 15) (b := i) (by omega) (by omega)) (fun c => absurd c (by omega)) (fun _ => ?_)
      refine st_go hK rfl rfl ?_
      refine st_getr hK rfl rfl ?_
      refine st_go hK rfl rfl ?_
      refine st_go hK rfl rfl ?_
      refine st_getr hK rfl rfl ?_
      refine st_go hK rfl rfl ?_
      refine ga (e := i) (v := σ 154 i) hK rfl rfl rfl (by omega) rfl (congrFun (h.1 154 (by decide)) _) ?_
      refine sa (e := i) hK rfl rfl rfl (by omega) rfl ?_
      refine st_go hK rfl rfl ?_
      refine st_getr hK rfl rfl ?_
      refine st_go hK rfl rfl ?_
      refine st_go hK rfl rfl ?_
      refine st_getr hK rfl rfl ?_
      refine st_go hK rfl rfl ?_
      refine st_go hK rfl rfl ?_
      refine bnv hK rfl (show _ = nI (15 + i) from nI_add 15 i) ?_
      refine ga (e := 15 + i) (v := σ 154 (15 + i)) hK rfl rfl rfl (by omega) rfl (by rw [up_ne (by decide), (congrFun (h.1 154 (by decide)) _)]) ?_
      refine sa (e := i) hK rfl rfl rfl (by omega) rfl ?_
      refine st_go hK rfl rfl ?_
      refine st_getr hK rfl rfl ?_
      refine st_go hK rfl rfl ?_
      refine st_go hK rfl rfl ?_
      refine st_getr hK rfl rfl ?_
      refine st_go hK rfl rfl ?_
      refine st_go hK rfl rfl ?_
      refine bnv hK rfl (show _ = nI (30 + i) from nI_add 30 i) ?_
      refine ga (e := 30 + i) (v := σ 154 (30 + i)) hK rfl rfl rfl (by omega) rfl (by rw [up_ne (by decide), up_ne (by decide), (congrFun (h.1 154 (by decide)) _)]) ?_
      refine sa (e := i) hK rfl rfl rfl (by omega) rfl ?_
      refine st_go hK rfl rfl ?_
      refine st_getr hK rfl rfl ?_
      refine st_go hK rfl rfl ?_
      refine st_go hK rfl rfl ?_
      refine st_getr hK rfl rfl ?_
      refine st_go hK rfl rfl ?_
      refine st_go hK rfl rfl ?_
      refine bnv hK rfl (show _ = nI (45 + i) from nI_add 45 i) ?_
      refine ga (e := 45 + i) (v := σ 154 (45 + i)) hK rfl rfl rfl (by omega) rfl (by rw [up_ne (by decide), up_ne (by decide), up_ne (by decide), (congrFun (h.1 154 (by decide)) _)]) ?_
      refine sa (e := i) hK rfl rfl rfl (by omega) rfl ?_
      refine st_go hK rfl rfl ?_
      rw [nI_1]
      refine st_go hK rfl rfl ?_
      refine ih (i + 1) _ (by omega) ⟨fun p hp => ?_, fun x hx => ?_⟩
      · rw [up_ne (by omega), up_ne (by omega), up_ne (by omega), up_ne (by omega)]
        exact h.1 p hp
      · have h2 := h.2 x
        clear ih kk
        simp only [up_at]
        grind (splits := 40)
  refine st_go hK rfl rfl ?_
  refine st_go hK rfl rfl ?_
  exact loop 15 0 σ (by omega) ⟨fun _ _ => rfl, fun x hx => by omega⟩
end
end
