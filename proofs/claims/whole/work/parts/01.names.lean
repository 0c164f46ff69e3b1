-- ===== PART A: goes FIRST, ahead of the names: the tables' words, and 'selects' of the private methods out of them =====
/-- a private method of a class that the tables say can be made, by its rows of tables_1 -/
def lw_okq (q : MethodName × Nat) : Prop := (q.1.cls ≠ "java/lang/invoke/MethodHandle" ∧ q.1.cls ≠ "java/lang/invoke/VarHandle") ∧ Cond.instantiable q.1.cls q.2 ∈ tables_1 ∧ Cond.privateMethod q.1 ∈ tables_1 ∧ Cond.instanceMethod q.1 ∈ tables_1
theorem lw_p0 : lw_okq (⟨"StrideTurns", "found", "(I)I"⟩, 17) := ⟨⟨by decide +kernel, by decide +kernel⟩, List.mem_of_getElem? (i := 22) (by decide +kernel), List.mem_of_getElem? (i := 380) (by decide +kernel), List.mem_of_getElem? (i := 381) (by decide +kernel)⟩
theorem lw_p1 : lw_okq (⟨"StrideTurns$History", "latest", "()[I"⟩, 3) := ⟨⟨by decide +kernel, by decide +kernel⟩, List.mem_of_getElem? (i := 164) (by decide +kernel), List.mem_of_getElem? (i := 448) (by decide +kernel), List.mem_of_getElem? (i := 449) (by decide +kernel)⟩
theorem lw_p2 : lw_okq (⟨"StrideTurns", "operationTyped", "()I"⟩, 17) := ⟨⟨by decide +kernel, by decide +kernel⟩, List.mem_of_getElem? (i := 22) (by decide +kernel), List.mem_of_getElem? (i := 468) (by decide +kernel), List.mem_of_getElem? (i := 469) (by decide +kernel)⟩
theorem lw_p3 : lw_okq (⟨"StrideTurns", "isTyped", "(Ljava/lang/String;)Z"⟩, 17) := ⟨⟨by decide +kernel, by decide +kernel⟩, List.mem_of_getElem? (i := 22) (by decide +kernel), List.mem_of_getElem? (i := 488) (by decide +kernel), List.mem_of_getElem? (i := 489) (by decide +kernel)⟩
theorem lw_p4 : lw_okq (⟨"StrideTurns", "isReference", "(II)Z"⟩, 17) := ⟨⟨by decide +kernel, by decide +kernel⟩, List.mem_of_getElem? (i := 22) (by decide +kernel), List.mem_of_getElem? (i := 553) (by decide +kernel), List.mem_of_getElem? (i := 554) (by decide +kernel)⟩
theorem lw_p5 : lw_okq (⟨"StrideTurns", "isStatement", "(I)Z"⟩, 17) := ⟨⟨by decide +kernel, by decide +kernel⟩, List.mem_of_getElem? (i := 22) (by decide +kernel), List.mem_of_getElem? (i := 557) (by decide +kernel), List.mem_of_getElem? (i := 558) (by decide +kernel)⟩
theorem lw_p6 : lw_okq (⟨"StrideTurns", "hasSection", "(I)Z"⟩, 17) := ⟨⟨by decide +kernel, by decide +kernel⟩, List.mem_of_getElem? (i := 22) (by decide +kernel), List.mem_of_getElem? (i := 628) (by decide +kernel), List.mem_of_getElem? (i := 629) (by decide +kernel)⟩
theorem lw_p7 : lw_okq (⟨"StrideTurns", "isTurn", "(I)Z"⟩, 17) := ⟨⟨by decide +kernel, by decide +kernel⟩, List.mem_of_getElem? (i := 22) (by decide +kernel), List.mem_of_getElem? (i := 633) (by decide +kernel), List.mem_of_getElem? (i := 634) (by decide +kernel)⟩
theorem lw_p8 : lw_okq (⟨"StrideTurns", "lay", "(LStrideTurns$Section;II)V"⟩, 17) := ⟨⟨by decide +kernel, by decide +kernel⟩, List.mem_of_getElem? (i := 22) (by decide +kernel), List.mem_of_getElem? (i := 637) (by decide +kernel), List.mem_of_getElem? (i := 638) (by decide +kernel)⟩
theorem lw_p9 : lw_okq (⟨"StrideTurns$Section", "addBehind", "(I)V"⟩, 3) := ⟨⟨by decide +kernel, by decide +kernel⟩, List.mem_of_getElem? (i := 218) (by decide +kernel), List.mem_of_getElem? (i := 671) (by decide +kernel), List.mem_of_getElem? (i := 672) (by decide +kernel)⟩
theorem lw_p10 : lw_okq (⟨"StrideTurns$Kinds", "addFrom", "(LStrideTurns$Statement;III)V"⟩, 4) := ⟨⟨by decide +kernel, by decide +kernel⟩, List.mem_of_getElem? (i := 211) (by decide +kernel), List.mem_of_getElem? (i := 692) (by decide +kernel), List.mem_of_getElem? (i := 693) (by decide +kernel)⟩
theorem lw_p11 : lw_okq (⟨"StrideTurns", "isSet", "(III)Z"⟩, 17) := ⟨⟨by decide +kernel, by decide +kernel⟩, List.mem_of_getElem? (i := 22) (by decide +kernel), List.mem_of_getElem? (i := 714) (by decide +kernel), List.mem_of_getElem? (i := 715) (by decide +kernel)⟩
theorem lw_p12 : lw_okq (⟨"StrideTurns$Summary", "addTurn", "(I)V"⟩, 6) := ⟨⟨by decide +kernel, by decide +kernel⟩, List.mem_of_getElem? (i := 183) (by decide +kernel), List.mem_of_getElem? (i := 722) (by decide +kernel), List.mem_of_getElem? (i := 723) (by decide +kernel)⟩
theorem lw_p13 : lw_okq (⟨"StrideTurns$Summary", "addItem", "(LStrideTurns$Statement;II)Z"⟩, 6) := ⟨⟨by decide +kernel, by decide +kernel⟩, List.mem_of_getElem? (i := 183) (by decide +kernel), List.mem_of_getElem? (i := 731) (by decide +kernel), List.mem_of_getElem? (i := 732) (by decide +kernel)⟩
theorem lw_p14 : lw_okq (⟨"StrideTurns$Summary", "addRead", "(III)V"⟩, 6) := ⟨⟨by decide +kernel, by decide +kernel⟩, List.mem_of_getElem? (i := 183) (by decide +kernel), List.mem_of_getElem? (i := 741) (by decide +kernel), List.mem_of_getElem? (i := 742) (by decide +kernel)⟩
theorem lw_p15 : lw_okq (⟨"StrideTurns$Summary", "addWrite", "(LStrideTurns$Statement;II)V"⟩, 6) := ⟨⟨by decide +kernel, by decide +kernel⟩, List.mem_of_getElem? (i := 183) (by decide +kernel), List.mem_of_getElem? (i := 745) (by decide +kernel), List.mem_of_getElem? (i := 746) (by decide +kernel)⟩
def lw_privs_1 : List (MethodName × Nat) := [(⟨"StrideTurns", "found", "(I)I"⟩, 17), (⟨"StrideTurns$History", "latest", "()[I"⟩, 3), (⟨"StrideTurns", "operationTyped", "()I"⟩, 17), (⟨"StrideTurns", "isTyped", "(Ljava/lang/String;)Z"⟩, 17), (⟨"StrideTurns", "isReference", "(II)Z"⟩, 17), (⟨"StrideTurns", "isStatement", "(I)Z"⟩, 17), (⟨"StrideTurns", "hasSection", "(I)Z"⟩, 17), (⟨"StrideTurns", "isTurn", "(I)Z"⟩, 17), (⟨"StrideTurns", "lay", "(LStrideTurns$Section;II)V"⟩, 17), (⟨"StrideTurns$Section", "addBehind", "(I)V"⟩, 3), (⟨"StrideTurns$Kinds", "addFrom", "(LStrideTurns$Statement;III)V"⟩, 4), (⟨"StrideTurns", "isSet", "(III)Z"⟩, 17), (⟨"StrideTurns$Summary", "addTurn", "(I)V"⟩, 6), (⟨"StrideTurns$Summary", "addItem", "(LStrideTurns$Statement;II)Z"⟩, 6), (⟨"StrideTurns$Summary", "addRead", "(III)V"⟩, 6), (⟨"StrideTurns$Summary", "addWrite", "(LStrideTurns$Statement;II)V"⟩, 6)]
theorem lw_r1 : ∀ q ∈ lw_privs_1, lw_okq q := List.forall_mem_cons.mpr ⟨lw_p0, List.forall_mem_cons.mpr ⟨lw_p1, List.forall_mem_cons.mpr ⟨lw_p2, List.forall_mem_cons.mpr ⟨lw_p3, List.forall_mem_cons.mpr ⟨lw_p4, List.forall_mem_cons.mpr ⟨lw_p5, List.forall_mem_cons.mpr ⟨lw_p6, List.forall_mem_cons.mpr ⟨lw_p7, List.forall_mem_cons.mpr ⟨lw_p8, List.forall_mem_cons.mpr ⟨lw_p9, List.forall_mem_cons.mpr ⟨lw_p10, List.forall_mem_cons.mpr ⟨lw_p11, List.forall_mem_cons.mpr ⟨lw_p12, List.forall_mem_cons.mpr ⟨lw_p13, List.forall_mem_cons.mpr ⟨lw_p14, List.forall_mem_cons.mpr ⟨lw_p15, fun _ h => absurd h List.not_mem_nil⟩⟩⟩⟩⟩⟩⟩⟩⟩⟩⟩⟩⟩⟩⟩⟩
theorem lw_p16 : lw_okq (⟨"StrideTurns$Summary", "isShared", "(I)Z"⟩, 6) := ⟨⟨by decide +kernel, by decide +kernel⟩, List.mem_of_getElem? (i := 183) (by decide +kernel), List.mem_of_getElem? (i := 783) (by decide +kernel), List.mem_of_getElem? (i := 784) (by decide +kernel)⟩
theorem lw_p17 : lw_okq (⟨"StrideTurns$Summary", "isGathered", "(II)Z"⟩, 6) := ⟨⟨by decide +kernel, by decide +kernel⟩, List.mem_of_getElem? (i := 183) (by decide +kernel), List.mem_of_getElem? (i := 787) (by decide +kernel), List.mem_of_getElem? (i := 788) (by decide +kernel)⟩
theorem lw_p18 : lw_okq (⟨"StrideTurns$Runner", "begin", "(LStrideTurns$Rows;LStrideTurns$Outcome;II)V"⟩, 11) := ⟨⟨by decide +kernel, by decide +kernel⟩, List.mem_of_getElem? (i := 253) (by decide +kernel), List.mem_of_getElem? (i := 831) (by decide +kernel), List.mem_of_getElem? (i := 832) (by decide +kernel)⟩
theorem lw_p19 : lw_okq (⟨"StrideTurns$Runner", "enter", "(II)V"⟩, 11) := ⟨⟨by decide +kernel, by decide +kernel⟩, List.mem_of_getElem? (i := 253) (by decide +kernel), List.mem_of_getElem? (i := 843) (by decide +kernel), List.mem_of_getElem? (i := 844) (by decide +kernel)⟩
theorem lw_p20 : lw_okq (⟨"StrideTurns$Runner", "workerOf", "(I)I"⟩, 11) := ⟨⟨by decide +kernel, by decide +kernel⟩, List.mem_of_getElem? (i := 253) (by decide +kernel), List.mem_of_getElem? (i := 847) (by decide +kernel), List.mem_of_getElem? (i := 848) (by decide +kernel)⟩
theorem lw_p21 : lw_okq (⟨"StrideTurns$Runner", "busyWorkers", "()I"⟩, 11) := ⟨⟨by decide +kernel, by decide +kernel⟩, List.mem_of_getElem? (i := 253) (by decide +kernel), List.mem_of_getElem? (i := 855) (by decide +kernel), List.mem_of_getElem? (i := 856) (by decide +kernel)⟩
theorem lw_p22 : lw_okq (⟨"StrideTurns$Runner", "busyWorker", "(I)I"⟩, 11) := ⟨⟨by decide +kernel, by decide +kernel⟩, List.mem_of_getElem? (i := 253) (by decide +kernel), List.mem_of_getElem? (i := 859) (by decide +kernel), List.mem_of_getElem? (i := 860) (by decide +kernel)⟩
theorem lw_p23 : lw_okq (⟨"StrideTurns$Runner", "step", "(I)V"⟩, 11) := ⟨⟨by decide +kernel, by decide +kernel⟩, List.mem_of_getElem? (i := 253) (by decide +kernel), List.mem_of_getElem? (i := 863) (by decide +kernel), List.mem_of_getElem? (i := 864) (by decide +kernel)⟩
theorem lw_p24 : lw_okq (⟨"StrideTurns$Runner", "doItem", "(LStrideTurns$Statement;II)I"⟩, 11) := ⟨⟨by decide +kernel, by decide +kernel⟩, List.mem_of_getElem? (i := 253) (by decide +kernel), List.mem_of_getElem? (i := 867) (by decide +kernel), List.mem_of_getElem? (i := 868) (by decide +kernel)⟩
theorem lw_p25 : lw_okq (⟨"StrideTurns$Runner", "faultOf", "(LStrideTurns$Statement;II)I"⟩, 11) := ⟨⟨by decide +kernel, by decide +kernel⟩, List.mem_of_getElem? (i := 253) (by decide +kernel), List.mem_of_getElem? (i := 871) (by decide +kernel), List.mem_of_getElem? (i := 872) (by decide +kernel)⟩
theorem lw_p26 : lw_okq (⟨"StrideTurns$Runner", "read", "(LStrideTurns$Statement;III)D"⟩, 11) := ⟨⟨by decide +kernel, by decide +kernel⟩, List.mem_of_getElem? (i := 253) (by decide +kernel), List.mem_of_getElem? (i := 893) (by decide +kernel), List.mem_of_getElem? (i := 894) (by decide +kernel)⟩
theorem lw_p27 : lw_okq (⟨"StrideTurns$Runner", "write", "(LStrideTurns$Reference;IID)V"⟩, 11) := ⟨⟨by decide +kernel, by decide +kernel⟩, List.mem_of_getElem? (i := 253) (by decide +kernel), List.mem_of_getElem? (i := 923) (by decide +kernel), List.mem_of_getElem? (i := 924) (by decide +kernel)⟩
theorem lw_p28 : lw_okq (⟨"StrideTurns$Runner", "goOn", "(ILStrideTurns$Statement;I)V"⟩, 11) := ⟨⟨by decide +kernel, by decide +kernel⟩, List.mem_of_getElem? (i := 253) (by decide +kernel), List.mem_of_getElem? (i := 928) (by decide +kernel), List.mem_of_getElem? (i := 929) (by decide +kernel)⟩
theorem lw_p29 : lw_okq (⟨"StrideTurns$Runner", "copyOut", "()V"⟩, 11) := ⟨⟨by decide +kernel, by decide +kernel⟩, List.mem_of_getElem? (i := 253) (by decide +kernel), List.mem_of_getElem? (i := 936) (by decide +kernel), List.mem_of_getElem? (i := 937) (by decide +kernel)⟩
theorem lw_p30 : lw_okq (⟨"StrideTurns$Runner", "copyOutRow", "(II)V"⟩, 11) := ⟨⟨by decide +kernel, by decide +kernel⟩, List.mem_of_getElem? (i := 253) (by decide +kernel), List.mem_of_getElem? (i := 940) (by decide +kernel), List.mem_of_getElem? (i := 941) (by decide +kernel)⟩
theorem lw_p31 : lw_okq (⟨"StrideTurns", "mixedRefusal", "(IIII)I"⟩, 17) := ⟨⟨by decide +kernel, by decide +kernel⟩, List.mem_of_getElem? (i := 22) (by decide +kernel), List.mem_of_getElem? (i := 948) (by decide +kernel), List.mem_of_getElem? (i := 949) (by decide +kernel)⟩
def lw_privs_2 : List (MethodName × Nat) := [(⟨"StrideTurns$Summary", "isShared", "(I)Z"⟩, 6), (⟨"StrideTurns$Summary", "isGathered", "(II)Z"⟩, 6), (⟨"StrideTurns$Runner", "begin", "(LStrideTurns$Rows;LStrideTurns$Outcome;II)V"⟩, 11), (⟨"StrideTurns$Runner", "enter", "(II)V"⟩, 11), (⟨"StrideTurns$Runner", "workerOf", "(I)I"⟩, 11), (⟨"StrideTurns$Runner", "busyWorkers", "()I"⟩, 11), (⟨"StrideTurns$Runner", "busyWorker", "(I)I"⟩, 11), (⟨"StrideTurns$Runner", "step", "(I)V"⟩, 11), (⟨"StrideTurns$Runner", "doItem", "(LStrideTurns$Statement;II)I"⟩, 11), (⟨"StrideTurns$Runner", "faultOf", "(LStrideTurns$Statement;II)I"⟩, 11), (⟨"StrideTurns$Runner", "read", "(LStrideTurns$Statement;III)D"⟩, 11), (⟨"StrideTurns$Runner", "write", "(LStrideTurns$Reference;IID)V"⟩, 11), (⟨"StrideTurns$Runner", "goOn", "(ILStrideTurns$Statement;I)V"⟩, 11), (⟨"StrideTurns$Runner", "copyOut", "()V"⟩, 11), (⟨"StrideTurns$Runner", "copyOutRow", "(II)V"⟩, 11), (⟨"StrideTurns", "mixedRefusal", "(IIII)I"⟩, 17)]
theorem lw_r2 : ∀ q ∈ lw_privs_2, lw_okq q := List.forall_mem_cons.mpr ⟨lw_p16, List.forall_mem_cons.mpr ⟨lw_p17, List.forall_mem_cons.mpr ⟨lw_p18, List.forall_mem_cons.mpr ⟨lw_p19, List.forall_mem_cons.mpr ⟨lw_p20, List.forall_mem_cons.mpr ⟨lw_p21, List.forall_mem_cons.mpr ⟨lw_p22, List.forall_mem_cons.mpr ⟨lw_p23, List.forall_mem_cons.mpr ⟨lw_p24, List.forall_mem_cons.mpr ⟨lw_p25, List.forall_mem_cons.mpr ⟨lw_p26, List.forall_mem_cons.mpr ⟨lw_p27, List.forall_mem_cons.mpr ⟨lw_p28, List.forall_mem_cons.mpr ⟨lw_p29, List.forall_mem_cons.mpr ⟨lw_p30, List.forall_mem_cons.mpr ⟨lw_p31, fun _ h => absurd h List.not_mem_nil⟩⟩⟩⟩⟩⟩⟩⟩⟩⟩⟩⟩⟩⟩⟩⟩
theorem lw_p32 : lw_okq (⟨"StrideTurns", "serialRows", "()I"⟩, 17) := ⟨⟨by decide +kernel, by decide +kernel⟩, List.mem_of_getElem? (i := 22) (by decide +kernel), List.mem_of_getElem? (i := 952) (by decide +kernel), List.mem_of_getElem? (i := 953) (by decide +kernel)⟩
theorem lw_p33 : lw_okq (⟨"StrideTurns", "withStatement", "(JI)J"⟩, 17) := ⟨⟨by decide +kernel, by decide +kernel⟩, List.mem_of_getElem? (i := 22) (by decide +kernel), List.mem_of_getElem? (i := 1007) (by decide +kernel), List.mem_of_getElem? (i := 1008) (by decide +kernel)⟩
theorem lw_p34 : lw_okq (⟨"StrideTurns", "withReference", "(JII)J"⟩, 17) := ⟨⟨by decide +kernel, by decide +kernel⟩, List.mem_of_getElem? (i := 22) (by decide +kernel), List.mem_of_getElem? (i := 1012) (by decide +kernel), List.mem_of_getElem? (i := 1013) (by decide +kernel)⟩
theorem lw_p35 : lw_okq (⟨"StrideTurns", "withSets", "(JI)J"⟩, 17) := ⟨⟨by decide +kernel, by decide +kernel⟩, List.mem_of_getElem? (i := 22) (by decide +kernel), List.mem_of_getElem? (i := 1019) (by decide +kernel), List.mem_of_getElem? (i := 1020) (by decide +kernel)⟩
theorem lw_p36 : lw_okq (⟨"StrideTurns", "withCells", "(JI)J"⟩, 17) := ⟨⟨by decide +kernel, by decide +kernel⟩, List.mem_of_getElem? (i := 22) (by decide +kernel), List.mem_of_getElem? (i := 1027) (by decide +kernel), List.mem_of_getElem? (i := 1028) (by decide +kernel)⟩
theorem lw_p37 : lw_okq (⟨"StrideTurnsModel", "meets", "(I)I"⟩, 47) := ⟨⟨by decide +kernel, by decide +kernel⟩, List.mem_of_getElem? (i := 1036) (by decide +kernel), List.mem_of_getElem? (i := 1195) (by decide +kernel), List.mem_of_getElem? (i := 1196) (by decide +kernel)⟩
theorem lw_p38 : lw_okq (⟨"StrideTurnsModel", "lacks", "(II)I"⟩, 47) := ⟨⟨by decide +kernel, by decide +kernel⟩, List.mem_of_getElem? (i := 1036) (by decide +kernel), List.mem_of_getElem? (i := 1217) (by decide +kernel), List.mem_of_getElem? (i := 1218) (by decide +kernel)⟩
theorem lw_p39 : lw_okq (⟨"StrideTurnsModel", "toldOf", "(I)J"⟩, 47) := ⟨⟨by decide +kernel, by decide +kernel⟩, List.mem_of_getElem? (i := 1036) (by decide +kernel), List.mem_of_getElem? (i := 1221) (by decide +kernel), List.mem_of_getElem? (i := 1222) (by decide +kernel)⟩
theorem lw_p40 : lw_okq (⟨"StrideTurnsModel", "logs", "(IIIII)V"⟩, 47) := ⟨⟨by decide +kernel, by decide +kernel⟩, List.mem_of_getElem? (i := 1036) (by decide +kernel), List.mem_of_getElem? (i := 1238) (by decide +kernel), List.mem_of_getElem? (i := 1239) (by decide +kernel)⟩
theorem lw_p41 : lw_okq (⟨"StrideTurnsModel", "isName", "(I)Z"⟩, 47) := ⟨⟨by decide +kernel, by decide +kernel⟩, List.mem_of_getElem? (i := 1036) (by decide +kernel), List.mem_of_getElem? (i := 1254) (by decide +kernel), List.mem_of_getElem? (i := 1255) (by decide +kernel)⟩
theorem lw_p42 : lw_okq (⟨"StrideTurnsModel", "isTyped", "(IIIII)Z"⟩, 47) := ⟨⟨by decide +kernel, by decide +kernel⟩, List.mem_of_getElem? (i := 1036) (by decide +kernel), List.mem_of_getElem? (i := 1258) (by decide +kernel), List.mem_of_getElem? (i := 1259) (by decide +kernel)⟩
theorem lw_p43 : lw_okq (⟨"StrideTurnsModel", "isStatement", "(I)Z"⟩, 47) := ⟨⟨by decide +kernel, by decide +kernel⟩, List.mem_of_getElem? (i := 1036) (by decide +kernel), List.mem_of_getElem? (i := 1266) (by decide +kernel), List.mem_of_getElem? (i := 1267) (by decide +kernel)⟩
theorem lw_p44 : lw_okq (⟨"StrideTurnsModel", "infoOf", "(II)I"⟩, 47) := ⟨⟨by decide +kernel, by decide +kernel⟩, List.mem_of_getElem? (i := 1036) (by decide +kernel), List.mem_of_getElem? (i := 1290) (by decide +kernel), List.mem_of_getElem? (i := 1291) (by decide +kernel)⟩
theorem lw_p45 : lw_okq (⟨"StrideTurnsModel", "familyAs", "(III)I"⟩, 47) := ⟨⟨by decide +kernel, by decide +kernel⟩, List.mem_of_getElem? (i := 1036) (by decide +kernel), List.mem_of_getElem? (i := 1294) (by decide +kernel), List.mem_of_getElem? (i := 1295) (by decide +kernel)⟩
theorem lw_p46 : lw_okq (⟨"StrideTurnsModel", "formAs", "(III)I"⟩, 47) := ⟨⟨by decide +kernel, by decide +kernel⟩, List.mem_of_getElem? (i := 1036) (by decide +kernel), List.mem_of_getElem? (i := 1298) (by decide +kernel), List.mem_of_getElem? (i := 1299) (by decide +kernel)⟩
theorem lw_p47 : lw_okq (⟨"StrideTurnsModel", "doneMany", "(I)I"⟩, 47) := ⟨⟨by decide +kernel, by decide +kernel⟩, List.mem_of_getElem? (i := 1036) (by decide +kernel), List.mem_of_getElem? (i := 1305) (by decide +kernel), List.mem_of_getElem? (i := 1306) (by decide +kernel)⟩
def lw_privs_3 : List (MethodName × Nat) := [(⟨"StrideTurns", "serialRows", "()I"⟩, 17), (⟨"StrideTurns", "withStatement", "(JI)J"⟩, 17), (⟨"StrideTurns", "withReference", "(JII)J"⟩, 17), (⟨"StrideTurns", "withSets", "(JI)J"⟩, 17), (⟨"StrideTurns", "withCells", "(JI)J"⟩, 17), (⟨"StrideTurnsModel", "meets", "(I)I"⟩, 47), (⟨"StrideTurnsModel", "lacks", "(II)I"⟩, 47), (⟨"StrideTurnsModel", "toldOf", "(I)J"⟩, 47), (⟨"StrideTurnsModel", "logs", "(IIIII)V"⟩, 47), (⟨"StrideTurnsModel", "isName", "(I)Z"⟩, 47), (⟨"StrideTurnsModel", "isTyped", "(IIIII)Z"⟩, 47), (⟨"StrideTurnsModel", "isStatement", "(I)Z"⟩, 47), (⟨"StrideTurnsModel", "infoOf", "(II)I"⟩, 47), (⟨"StrideTurnsModel", "familyAs", "(III)I"⟩, 47), (⟨"StrideTurnsModel", "formAs", "(III)I"⟩, 47), (⟨"StrideTurnsModel", "doneMany", "(I)I"⟩, 47)]
theorem lw_r3 : ∀ q ∈ lw_privs_3, lw_okq q := List.forall_mem_cons.mpr ⟨lw_p32, List.forall_mem_cons.mpr ⟨lw_p33, List.forall_mem_cons.mpr ⟨lw_p34, List.forall_mem_cons.mpr ⟨lw_p35, List.forall_mem_cons.mpr ⟨lw_p36, List.forall_mem_cons.mpr ⟨lw_p37, List.forall_mem_cons.mpr ⟨lw_p38, List.forall_mem_cons.mpr ⟨lw_p39, List.forall_mem_cons.mpr ⟨lw_p40, List.forall_mem_cons.mpr ⟨lw_p41, List.forall_mem_cons.mpr ⟨lw_p42, List.forall_mem_cons.mpr ⟨lw_p43, List.forall_mem_cons.mpr ⟨lw_p44, List.forall_mem_cons.mpr ⟨lw_p45, List.forall_mem_cons.mpr ⟨lw_p46, List.forall_mem_cons.mpr ⟨lw_p47, fun _ h => absurd h List.not_mem_nil⟩⟩⟩⟩⟩⟩⟩⟩⟩⟩⟩⟩⟩⟩⟩⟩
theorem lw_p48 : lw_okq (⟨"StrideTurnsModel", "isDone", "(II)Z"⟩, 47) := ⟨⟨by decide +kernel, by decide +kernel⟩, List.mem_of_getElem? (i := 1036) (by decide +kernel), List.mem_of_getElem? (i := 1309) (by decide +kernel), List.mem_of_getElem? (i := 1310) (by decide +kernel)⟩
theorem lw_p49 : lw_okq (⟨"StrideTurnsModel", "referenceOf", "(II)I"⟩, 47) := ⟨⟨by decide +kernel, by decide +kernel⟩, List.mem_of_getElem? (i := 1036) (by decide +kernel), List.mem_of_getElem? (i := 1317) (by decide +kernel), List.mem_of_getElem? (i := 1318) (by decide +kernel)⟩
theorem lw_p50 : lw_okq (⟨"StrideTurnsModel", "isSection", "(II)Z"⟩, 47) := ⟨⟨by decide +kernel, by decide +kernel⟩, List.mem_of_getElem? (i := 1036) (by decide +kernel), List.mem_of_getElem? (i := 1325) (by decide +kernel), List.mem_of_getElem? (i := 1326) (by decide +kernel)⟩
theorem lw_p51 : lw_okq (⟨"StrideTurnsModel", "sectionOf", "(III)I"⟩, 47) := ⟨⟨by decide +kernel, by decide +kernel⟩, List.mem_of_getElem? (i := 1036) (by decide +kernel), List.mem_of_getElem? (i := 1329) (by decide +kernel), List.mem_of_getElem? (i := 1330) (by decide +kernel)⟩
theorem lw_p52 : lw_okq (⟨"StrideTurnsModel", "firstOf", "(II)I"⟩, 47) := ⟨⟨by decide +kernel, by decide +kernel⟩, List.mem_of_getElem? (i := 1036) (by decide +kernel), List.mem_of_getElem? (i := 1333) (by decide +kernel), List.mem_of_getElem? (i := 1334) (by decide +kernel)⟩
theorem lw_p53 : lw_okq (⟨"StrideTurnsModel", "placeOf", "(III)I"⟩, 47) := ⟨⟨by decide +kernel, by decide +kernel⟩, List.mem_of_getElem? (i := 1036) (by decide +kernel), List.mem_of_getElem? (i := 1337) (by decide +kernel), List.mem_of_getElem? (i := 1338) (by decide +kernel)⟩
theorem lw_p54 : lw_okq (⟨"StrideTurnsModel", "strideOf", "(I)I"⟩, 47) := ⟨⟨by decide +kernel, by decide +kernel⟩, List.mem_of_getElem? (i := 1036) (by decide +kernel), List.mem_of_getElem? (i := 1341) (by decide +kernel), List.mem_of_getElem? (i := 1342) (by decide +kernel)⟩
theorem lw_p55 : lw_okq (⟨"StrideTurnsModel", "manyOf", "(I)I"⟩, 47) := ⟨⟨by decide +kernel, by decide +kernel⟩, List.mem_of_getElem? (i := 1036) (by decide +kernel), List.mem_of_getElem? (i := 1345) (by decide +kernel), List.mem_of_getElem? (i := 1346) (by decide +kernel)⟩
theorem lw_p56 : lw_okq (⟨"StrideTurnsModel", "meetOf", "(IIIII)I"⟩, 47) := ⟨⟨by decide +kernel, by decide +kernel⟩, List.mem_of_getElem? (i := 1036) (by decide +kernel), List.mem_of_getElem? (i := 1353) (by decide +kernel), List.mem_of_getElem? (i := 1354) (by decide +kernel)⟩
theorem lw_p57 : lw_okq (⟨"StrideTurnsModel", "hasPlace", "(III)Z"⟩, 47) := ⟨⟨by decide +kernel, by decide +kernel⟩, List.mem_of_getElem? (i := 1036) (by decide +kernel), List.mem_of_getElem? (i := 1357) (by decide +kernel), List.mem_of_getElem? (i := 1358) (by decide +kernel)⟩
theorem lw_p58 : lw_okq (⟨"StrideTurnsModel", "findsKinds", "(II)I"⟩, 47) := ⟨⟨by decide +kernel, by decide +kernel⟩, List.mem_of_getElem? (i := 1036) (by decide +kernel), List.mem_of_getElem? (i := 1365) (by decide +kernel), List.mem_of_getElem? (i := 1366) (by decide +kernel)⟩
theorem lw_p59 : lw_okq (⟨"StrideTurnsModel", "addsIf", "(III)V"⟩, 47) := ⟨⟨by decide +kernel, by decide +kernel⟩, List.mem_of_getElem? (i := 1036) (by decide +kernel), List.mem_of_getElem? (i := 1369) (by decide +kernel), List.mem_of_getElem? (i := 1370) (by decide +kernel)⟩
theorem lw_p60 : lw_okq (⟨"StrideTurnsModel", "isLooked", "(I)Z"⟩, 47) := ⟨⟨by decide +kernel, by decide +kernel⟩, List.mem_of_getElem? (i := 1036) (by decide +kernel), List.mem_of_getElem? (i := 1373) (by decide +kernel), List.mem_of_getElem? (i := 1374) (by decide +kernel)⟩
theorem lw_p61 : lw_okq (⟨"StrideTurnsModel", "addsKind", "(II)V"⟩, 47) := ⟨⟨by decide +kernel, by decide +kernel⟩, List.mem_of_getElem? (i := 1036) (by decide +kernel), List.mem_of_getElem? (i := 1377) (by decide +kernel), List.mem_of_getElem? (i := 1378) (by decide +kernel)⟩
theorem lw_p62 : lw_okq (⟨"StrideTurnsModel", "isSet", "(III)Z"⟩, 47) := ⟨⟨by decide +kernel, by decide +kernel⟩, List.mem_of_getElem? (i := 1036) (by decide +kernel), List.mem_of_getElem? (i := 1389) (by decide +kernel), List.mem_of_getElem? (i := 1390) (by decide +kernel)⟩
theorem lw_p63 : lw_okq (⟨"StrideTurnsModel", "bitsOfSet", "(III)I"⟩, 47) := ⟨⟨by decide +kernel, by decide +kernel⟩, List.mem_of_getElem? (i := 1036) (by decide +kernel), List.mem_of_getElem? (i := 1393) (by decide +kernel), List.mem_of_getElem? (i := 1394) (by decide +kernel)⟩
def lw_privs_4 : List (MethodName × Nat) := [(⟨"StrideTurnsModel", "isDone", "(II)Z"⟩, 47), (⟨"StrideTurnsModel", "referenceOf", "(II)I"⟩, 47), (⟨"StrideTurnsModel", "isSection", "(II)Z"⟩, 47), (⟨"StrideTurnsModel", "sectionOf", "(III)I"⟩, 47), (⟨"StrideTurnsModel", "firstOf", "(II)I"⟩, 47), (⟨"StrideTurnsModel", "placeOf", "(III)I"⟩, 47), (⟨"StrideTurnsModel", "strideOf", "(I)I"⟩, 47), (⟨"StrideTurnsModel", "manyOf", "(I)I"⟩, 47), (⟨"StrideTurnsModel", "meetOf", "(IIIII)I"⟩, 47), (⟨"StrideTurnsModel", "hasPlace", "(III)Z"⟩, 47), (⟨"StrideTurnsModel", "findsKinds", "(II)I"⟩, 47), (⟨"StrideTurnsModel", "addsIf", "(III)V"⟩, 47), (⟨"StrideTurnsModel", "isLooked", "(I)Z"⟩, 47), (⟨"StrideTurnsModel", "addsKind", "(II)V"⟩, 47), (⟨"StrideTurnsModel", "isSet", "(III)Z"⟩, 47), (⟨"StrideTurnsModel", "bitsOfSet", "(III)I"⟩, 47)]
theorem lw_r4 : ∀ q ∈ lw_privs_4, lw_okq q := List.forall_mem_cons.mpr ⟨lw_p48, List.forall_mem_cons.mpr ⟨lw_p49, List.forall_mem_cons.mpr ⟨lw_p50, List.forall_mem_cons.mpr ⟨lw_p51, List.forall_mem_cons.mpr ⟨lw_p52, List.forall_mem_cons.mpr ⟨lw_p53, List.forall_mem_cons.mpr ⟨lw_p54, List.forall_mem_cons.mpr ⟨lw_p55, List.forall_mem_cons.mpr ⟨lw_p56, List.forall_mem_cons.mpr ⟨lw_p57, List.forall_mem_cons.mpr ⟨lw_p58, List.forall_mem_cons.mpr ⟨lw_p59, List.forall_mem_cons.mpr ⟨lw_p60, List.forall_mem_cons.mpr ⟨lw_p61, List.forall_mem_cons.mpr ⟨lw_p62, List.forall_mem_cons.mpr ⟨lw_p63, fun _ h => absurd h List.not_mem_nil⟩⟩⟩⟩⟩⟩⟩⟩⟩⟩⟩⟩⟩⟩⟩⟩
theorem lw_p64 : lw_okq (⟨"StrideTurnsModel", "findsSets", "()V"⟩, 47) := ⟨⟨by decide +kernel, by decide +kernel⟩, List.mem_of_getElem? (i := 1036) (by decide +kernel), List.mem_of_getElem? (i := 1397) (by decide +kernel), List.mem_of_getElem? (i := 1398) (by decide +kernel)⟩
theorem lw_p65 : lw_okq (⟨"StrideTurnsModel", "findsTurn", "(I)V"⟩, 47) := ⟨⟨by decide +kernel, by decide +kernel⟩, List.mem_of_getElem? (i := 1036) (by decide +kernel), List.mem_of_getElem? (i := 1401) (by decide +kernel), List.mem_of_getElem? (i := 1402) (by decide +kernel)⟩
theorem lw_p66 : lw_okq (⟨"StrideTurnsModel", "knows", "(III)Z"⟩, 47) := ⟨⟨by decide +kernel, by decide +kernel⟩, List.mem_of_getElem? (i := 1036) (by decide +kernel), List.mem_of_getElem? (i := 1405) (by decide +kernel), List.mem_of_getElem? (i := 1406) (by decide +kernel)⟩
theorem lw_p67 : lw_okq (⟨"StrideTurnsModel", "reads", "(III)Z"⟩, 47) := ⟨⟨by decide +kernel, by decide +kernel⟩, List.mem_of_getElem? (i := 1036) (by decide +kernel), List.mem_of_getElem? (i := 1409) (by decide +kernel), List.mem_of_getElem? (i := 1410) (by decide +kernel)⟩
theorem lw_p68 : lw_okq (⟨"StrideTurnsModel", "bitAt", "(III)I"⟩, 47) := ⟨⟨by decide +kernel, by decide +kernel⟩, List.mem_of_getElem? (i := 1036) (by decide +kernel), List.mem_of_getElem? (i := 1413) (by decide +kernel), List.mem_of_getElem? (i := 1414) (by decide +kernel)⟩
theorem lw_p69 : lw_okq (⟨"StrideTurnsModel", "bitsOfTurn", "(III)I"⟩, 47) := ⟨⟨by decide +kernel, by decide +kernel⟩, List.mem_of_getElem? (i := 1036) (by decide +kernel), List.mem_of_getElem? (i := 1417) (by decide +kernel), List.mem_of_getElem? (i := 1418) (by decide +kernel)⟩
theorem lw_p70 : lw_okq (⟨"StrideTurnsModel", "piecesOf", "(I)I"⟩, 47) := ⟨⟨by decide +kernel, by decide +kernel⟩, List.mem_of_getElem? (i := 1036) (by decide +kernel), List.mem_of_getElem? (i := 1428) (by decide +kernel), List.mem_of_getElem? (i := 1429) (by decide +kernel)⟩
theorem lw_p71 : lw_okq (⟨"StrideTurnsModel", "without", "(I)I"⟩, 47) := ⟨⟨by decide +kernel, by decide +kernel⟩, List.mem_of_getElem? (i := 1036) (by decide +kernel), List.mem_of_getElem? (i := 1432) (by decide +kernel), List.mem_of_getElem? (i := 1433) (by decide +kernel)⟩
theorem lw_p72 : lw_okq (⟨"StrideTurnsModel", "pieceOf", "(III)I"⟩, 47) := ⟨⟨by decide +kernel, by decide +kernel⟩, List.mem_of_getElem? (i := 1036) (by decide +kernel), List.mem_of_getElem? (i := 1443) (by decide +kernel), List.mem_of_getElem? (i := 1444) (by decide +kernel)⟩
theorem lw_p73 : lw_okq (⟨"StrideTurnsModel", "verdictOf", "(I)I"⟩, 47) := ⟨⟨by decide +kernel, by decide +kernel⟩, List.mem_of_getElem? (i := 1036) (by decide +kernel), List.mem_of_getElem? (i := 1451) (by decide +kernel), List.mem_of_getElem? (i := 1452) (by decide +kernel)⟩
theorem lw_p74 : lw_okq (⟨"StrideTurnsModel", "verdictAs", "(III)I"⟩, 47) := ⟨⟨by decide +kernel, by decide +kernel⟩, List.mem_of_getElem? (i := 1036) (by decide +kernel), List.mem_of_getElem? (i := 1455) (by decide +kernel), List.mem_of_getElem? (i := 1456) (by decide +kernel)⟩
theorem lw_p75 : lw_okq (⟨"StrideTurnsModel", "isWritten", "(I)Z"⟩, 47) := ⟨⟨by decide +kernel, by decide +kernel⟩, List.mem_of_getElem? (i := 1036) (by decide +kernel), List.mem_of_getElem? (i := 1459) (by decide +kernel), List.mem_of_getElem? (i := 1460) (by decide +kernel)⟩
theorem lw_p76 : lw_okq (⟨"StrideTurnsModel", "isShared", "(I)Z"⟩, 47) := ⟨⟨by decide +kernel, by decide +kernel⟩, List.mem_of_getElem? (i := 1036) (by decide +kernel), List.mem_of_getElem? (i := 1463) (by decide +kernel), List.mem_of_getElem? (i := 1464) (by decide +kernel)⟩
theorem lw_p77 : lw_okq (⟨"StrideTurnsModel", "isGathered", "(III)Z"⟩, 47) := ⟨⟨by decide +kernel, by decide +kernel⟩, List.mem_of_getElem? (i := 1036) (by decide +kernel), List.mem_of_getElem? (i := 1467) (by decide +kernel), List.mem_of_getElem? (i := 1468) (by decide +kernel)⟩
theorem lw_p78 : lw_okq (⟨"StrideTurnsModel", "isAbout", "(II)Z"⟩, 47) := ⟨⟨by decide +kernel, by decide +kernel⟩, List.mem_of_getElem? (i := 1036) (by decide +kernel), List.mem_of_getElem? (i := 1471) (by decide +kernel), List.mem_of_getElem? (i := 1472) (by decide +kernel)⟩
theorem lw_p79 : lw_okq (⟨"StrideTurnsModel", "isCopied", "(I)Z"⟩, 47) := ⟨⟨by decide +kernel, by decide +kernel⟩, List.mem_of_getElem? (i := 1036) (by decide +kernel), List.mem_of_getElem? (i := 1475) (by decide +kernel), List.mem_of_getElem? (i := 1476) (by decide +kernel)⟩
def lw_privs_5 : List (MethodName × Nat) := [(⟨"StrideTurnsModel", "findsSets", "()V"⟩, 47), (⟨"StrideTurnsModel", "findsTurn", "(I)V"⟩, 47), (⟨"StrideTurnsModel", "knows", "(III)Z"⟩, 47), (⟨"StrideTurnsModel", "reads", "(III)Z"⟩, 47), (⟨"StrideTurnsModel", "bitAt", "(III)I"⟩, 47), (⟨"StrideTurnsModel", "bitsOfTurn", "(III)I"⟩, 47), (⟨"StrideTurnsModel", "piecesOf", "(I)I"⟩, 47), (⟨"StrideTurnsModel", "without", "(I)I"⟩, 47), (⟨"StrideTurnsModel", "pieceOf", "(III)I"⟩, 47), (⟨"StrideTurnsModel", "verdictOf", "(I)I"⟩, 47), (⟨"StrideTurnsModel", "verdictAs", "(III)I"⟩, 47), (⟨"StrideTurnsModel", "isWritten", "(I)Z"⟩, 47), (⟨"StrideTurnsModel", "isShared", "(I)Z"⟩, 47), (⟨"StrideTurnsModel", "isGathered", "(III)Z"⟩, 47), (⟨"StrideTurnsModel", "isAbout", "(II)Z"⟩, 47), (⟨"StrideTurnsModel", "isCopied", "(I)Z"⟩, 47)]
theorem lw_r5 : ∀ q ∈ lw_privs_5, lw_okq q := List.forall_mem_cons.mpr ⟨lw_p64, List.forall_mem_cons.mpr ⟨lw_p65, List.forall_mem_cons.mpr ⟨lw_p66, List.forall_mem_cons.mpr ⟨lw_p67, List.forall_mem_cons.mpr ⟨lw_p68, List.forall_mem_cons.mpr ⟨lw_p69, List.forall_mem_cons.mpr ⟨lw_p70, List.forall_mem_cons.mpr ⟨lw_p71, List.forall_mem_cons.mpr ⟨lw_p72, List.forall_mem_cons.mpr ⟨lw_p73, List.forall_mem_cons.mpr ⟨lw_p74, List.forall_mem_cons.mpr ⟨lw_p75, List.forall_mem_cons.mpr ⟨lw_p76, List.forall_mem_cons.mpr ⟨lw_p77, List.forall_mem_cons.mpr ⟨lw_p78, List.forall_mem_cons.mpr ⟨lw_p79, fun _ h => absurd h List.not_mem_nil⟩⟩⟩⟩⟩⟩⟩⟩⟩⟩⟩⟩⟩⟩⟩⟩
theorem lw_p80 : lw_okq (⟨"StrideTurnsModel", "witnessOf", "(II)I"⟩, 47) := ⟨⟨by decide +kernel, by decide +kernel⟩, List.mem_of_getElem? (i := 1036) (by decide +kernel), List.mem_of_getElem? (i := 1487) (by decide +kernel), List.mem_of_getElem? (i := 1488) (by decide +kernel)⟩
theorem lw_p81 : lw_okq (⟨"StrideTurnsModel", "lastOf", "(III)I"⟩, 47) := ⟨⟨by decide +kernel, by decide +kernel⟩, List.mem_of_getElem? (i := 1036) (by decide +kernel), List.mem_of_getElem? (i := 1495) (by decide +kernel), List.mem_of_getElem? (i := 1496) (by decide +kernel)⟩
theorem lw_p82 : lw_okq (⟨"StrideTurnsModel", "runNow", "()I"⟩, 47) := ⟨⟨by decide +kernel, by decide +kernel⟩, List.mem_of_getElem? (i := 1036) (by decide +kernel), List.mem_of_getElem? (i := 1503) (by decide +kernel), List.mem_of_getElem? (i := 1504) (by decide +kernel)⟩
theorem lw_p83 : lw_okq (⟨"StrideTurnsModel", "begins", "()V"⟩, 47) := ⟨⟨by decide +kernel, by decide +kernel⟩, List.mem_of_getElem? (i := 1036) (by decide +kernel), List.mem_of_getElem? (i := 1507) (by decide +kernel), List.mem_of_getElem? (i := 1508) (by decide +kernel)⟩
theorem lw_p84 : lw_okq (⟨"StrideTurnsModel", "firstFrom", "(II)I"⟩, 47) := ⟨⟨by decide +kernel, by decide +kernel⟩, List.mem_of_getElem? (i := 1036) (by decide +kernel), List.mem_of_getElem? (i := 1511) (by decide +kernel), List.mem_of_getElem? (i := 1512) (by decide +kernel)⟩
theorem lw_p85 : lw_okq (⟨"StrideTurnsModel", "steps", "(I)V"⟩, 47) := ⟨⟨by decide +kernel, by decide +kernel⟩, List.mem_of_getElem? (i := 1036) (by decide +kernel), List.mem_of_getElem? (i := 1515) (by decide +kernel), List.mem_of_getElem? (i := 1516) (by decide +kernel)⟩
theorem lw_p86 : lw_okq (⟨"StrideTurnsModel", "item", "(III)Z"⟩, 47) := ⟨⟨by decide +kernel, by decide +kernel⟩, List.mem_of_getElem? (i := 1036) (by decide +kernel), List.mem_of_getElem? (i := 1519) (by decide +kernel), List.mem_of_getElem? (i := 1520) (by decide +kernel)⟩
theorem lw_p87 : lw_okq (⟨"StrideTurnsModel", "read", "(III)D"⟩, 47) := ⟨⟨by decide +kernel, by decide +kernel⟩, List.mem_of_getElem? (i := 1036) (by decide +kernel), List.mem_of_getElem? (i := 1523) (by decide +kernel), List.mem_of_getElem? (i := 1524) (by decide +kernel)⟩
theorem lw_p88 : lw_okq (⟨"StrideTurnsModel", "lacksPlace", "(III)I"⟩, 47) := ⟨⟨by decide +kernel, by decide +kernel⟩, List.mem_of_getElem? (i := 1036) (by decide +kernel), List.mem_of_getElem? (i := 1527) (by decide +kernel), List.mem_of_getElem? (i := 1528) (by decide +kernel)⟩
theorem lw_p89 : lw_okq (⟨"StrideTurnsModel", "does", "(IDD)D"⟩, 47) := ⟨⟨by decide +kernel, by decide +kernel⟩, List.mem_of_getElem? (i := 1036) (by decide +kernel), List.mem_of_getElem? (i := 1531) (by decide +kernel), List.mem_of_getElem? (i := 1532) (by decide +kernel)⟩
theorem lw_p90 : lw_okq (⟨"StrideTurnsModel", "widthOf", "(I)I"⟩, 47) := ⟨⟨by decide +kernel, by decide +kernel⟩, List.mem_of_getElem? (i := 1036) (by decide +kernel), List.mem_of_getElem? (i := 1535) (by decide +kernel), List.mem_of_getElem? (i := 1536) (by decide +kernel)⟩
theorem lw_p91 : lw_okq (⟨"StrideTurnsModel", "formBy", "(I)I"⟩, 47) := ⟨⟨by decide +kernel, by decide +kernel⟩, List.mem_of_getElem? (i := 1036) (by decide +kernel), List.mem_of_getElem? (i := 1539) (by decide +kernel), List.mem_of_getElem? (i := 1540) (by decide +kernel)⟩
theorem lw_p92 : lw_okq (⟨"StrideTurnsModel", "byInts", "(III)I"⟩, 47) := ⟨⟨by decide +kernel, by decide +kernel⟩, List.mem_of_getElem? (i := 1036) (by decide +kernel), List.mem_of_getElem? (i := 1543) (by decide +kernel), List.mem_of_getElem? (i := 1544) (by decide +kernel)⟩
theorem lw_p93 : lw_okq (⟨"StrideTurnsModel", "byFloats", "(IFF)F"⟩, 47) := ⟨⟨by decide +kernel, by decide +kernel⟩, List.mem_of_getElem? (i := 1036) (by decide +kernel), List.mem_of_getElem? (i := 1552) (by decide +kernel), List.mem_of_getElem? (i := 1553) (by decide +kernel)⟩
theorem lw_p94 : lw_okq (⟨"StrideTurnsModel", "byDoubles", "(IDD)D"⟩, 47) := ⟨⟨by decide +kernel, by decide +kernel⟩, List.mem_of_getElem? (i := 1036) (by decide +kernel), List.mem_of_getElem? (i := 1560) (by decide +kernel), List.mem_of_getElem? (i := 1561) (by decide +kernel)⟩
theorem lw_p95 : lw_okq (⟨"StrideTurnsModel", "writes", "(IID)V"⟩, 47) := ⟨⟨by decide +kernel, by decide +kernel⟩, List.mem_of_getElem? (i := 1036) (by decide +kernel), List.mem_of_getElem? (i := 1568) (by decide +kernel), List.mem_of_getElem? (i := 1569) (by decide +kernel)⟩
def lw_privs_6 : List (MethodName × Nat) := [(⟨"StrideTurnsModel", "witnessOf", "(II)I"⟩, 47), (⟨"StrideTurnsModel", "lastOf", "(III)I"⟩, 47), (⟨"StrideTurnsModel", "runNow", "()I"⟩, 47), (⟨"StrideTurnsModel", "begins", "()V"⟩, 47), (⟨"StrideTurnsModel", "firstFrom", "(II)I"⟩, 47), (⟨"StrideTurnsModel", "steps", "(I)V"⟩, 47), (⟨"StrideTurnsModel", "item", "(III)Z"⟩, 47), (⟨"StrideTurnsModel", "read", "(III)D"⟩, 47), (⟨"StrideTurnsModel", "lacksPlace", "(III)I"⟩, 47), (⟨"StrideTurnsModel", "does", "(IDD)D"⟩, 47), (⟨"StrideTurnsModel", "widthOf", "(I)I"⟩, 47), (⟨"StrideTurnsModel", "formBy", "(I)I"⟩, 47), (⟨"StrideTurnsModel", "byInts", "(III)I"⟩, 47), (⟨"StrideTurnsModel", "byFloats", "(IFF)F"⟩, 47), (⟨"StrideTurnsModel", "byDoubles", "(IDD)D"⟩, 47), (⟨"StrideTurnsModel", "writes", "(IID)V"⟩, 47)]
theorem lw_r6 : ∀ q ∈ lw_privs_6, lw_okq q := List.forall_mem_cons.mpr ⟨lw_p80, List.forall_mem_cons.mpr ⟨lw_p81, List.forall_mem_cons.mpr ⟨lw_p82, List.forall_mem_cons.mpr ⟨lw_p83, List.forall_mem_cons.mpr ⟨lw_p84, List.forall_mem_cons.mpr ⟨lw_p85, List.forall_mem_cons.mpr ⟨lw_p86, List.forall_mem_cons.mpr ⟨lw_p87, List.forall_mem_cons.mpr ⟨lw_p88, List.forall_mem_cons.mpr ⟨lw_p89, List.forall_mem_cons.mpr ⟨lw_p90, List.forall_mem_cons.mpr ⟨lw_p91, List.forall_mem_cons.mpr ⟨lw_p92, List.forall_mem_cons.mpr ⟨lw_p93, List.forall_mem_cons.mpr ⟨lw_p94, List.forall_mem_cons.mpr ⟨lw_p95, fun _ h => absurd h List.not_mem_nil⟩⟩⟩⟩⟩⟩⟩⟩⟩⟩⟩⟩⟩⟩⟩⟩
theorem lw_p96 : lw_okq (⟨"StrideTurnsModel", "mayMix", "(IIII)I"⟩, 47) := ⟨⟨by decide +kernel, by decide +kernel⟩, List.mem_of_getElem? (i := 1036) (by decide +kernel), List.mem_of_getElem? (i := 1576) (by decide +kernel), List.mem_of_getElem? (i := 1577) (by decide +kernel)⟩
theorem lw_p97 : lw_okq (⟨"StrideTurnsModel", "serials", "()I"⟩, 47) := ⟨⟨by decide +kernel, by decide +kernel⟩, List.mem_of_getElem? (i := 1036) (by decide +kernel), List.mem_of_getElem? (i := 1580) (by decide +kernel), List.mem_of_getElem? (i := 1581) (by decide +kernel)⟩
theorem lw_p98 : lw_okq (⟨"StrideTurnsModel", "mixes", "(III)I"⟩, 47) := ⟨⟨by decide +kernel, by decide +kernel⟩, List.mem_of_getElem? (i := 1036) (by decide +kernel), List.mem_of_getElem? (i := 1584) (by decide +kernel), List.mem_of_getElem? (i := 1585) (by decide +kernel)⟩
theorem lw_p99 : lw_okq (⟨"StrideTurnsModel", "left", "(II)I"⟩, 47) := ⟨⟨by decide +kernel, by decide +kernel⟩, List.mem_of_getElem? (i := 1036) (by decide +kernel), List.mem_of_getElem? (i := 1588) (by decide +kernel), List.mem_of_getElem? (i := 1589) (by decide +kernel)⟩
theorem lw_p100 : lw_okq (⟨"StrideTurnsModel", "turnOf", "(III)I"⟩, 47) := ⟨⟨by decide +kernel, by decide +kernel⟩, List.mem_of_getElem? (i := 1036) (by decide +kernel), List.mem_of_getElem? (i := 1592) (by decide +kernel), List.mem_of_getElem? (i := 1593) (by decide +kernel)⟩
theorem lw_p101 : lw_okq (⟨"StrideTurnsModel", "copiesOut", "()V"⟩, 47) := ⟨⟨by decide +kernel, by decide +kernel⟩, List.mem_of_getElem? (i := 1036) (by decide +kernel), List.mem_of_getElem? (i := 1596) (by decide +kernel), List.mem_of_getElem? (i := 1597) (by decide +kernel)⟩
theorem lw_p102 : lw_okq (⟨"StrideTurnsModel", "sameNow", "(III)I"⟩, 47) := ⟨⟨by decide +kernel, by decide +kernel⟩, List.mem_of_getElem? (i := 1036) (by decide +kernel), List.mem_of_getElem? (i := 1604) (by decide +kernel), List.mem_of_getElem? (i := 1605) (by decide +kernel)⟩
theorem lw_p103 : lw_okq (⟨"StrideTurnsModel", "missing", "()I"⟩, 47) := ⟨⟨by decide +kernel, by decide +kernel⟩, List.mem_of_getElem? (i := 1036) (by decide +kernel), List.mem_of_getElem? (i := 1624) (by decide +kernel), List.mem_of_getElem? (i := 1625) (by decide +kernel)⟩
theorem lw_p104 : lw_okq (⟨"StrideTurnsModel", "statementDigest", "(JI)J"⟩, 47) := ⟨⟨by decide +kernel, by decide +kernel⟩, List.mem_of_getElem? (i := 1036) (by decide +kernel), List.mem_of_getElem? (i := 1635) (by decide +kernel), List.mem_of_getElem? (i := 1636) (by decide +kernel)⟩
theorem lw_p105 : lw_okq (⟨"StrideTurnsModel", "rowDigest", "(JI)J"⟩, 47) := ⟨⟨by decide +kernel, by decide +kernel⟩, List.mem_of_getElem? (i := 1036) (by decide +kernel), List.mem_of_getElem? (i := 1639) (by decide +kernel), List.mem_of_getElem? (i := 1640) (by decide +kernel)⟩
theorem lw_p106 : lw_okq (⟨"StrideTurnsModel", "cellsDigest", "(JI)J"⟩, 47) := ⟨⟨by decide +kernel, by decide +kernel⟩, List.mem_of_getElem? (i := 1036) (by decide +kernel), List.mem_of_getElem? (i := 1643) (by decide +kernel), List.mem_of_getElem? (i := 1644) (by decide +kernel)⟩
def lw_privs_7 : List (MethodName × Nat) := [(⟨"StrideTurnsModel", "mayMix", "(IIII)I"⟩, 47), (⟨"StrideTurnsModel", "serials", "()I"⟩, 47), (⟨"StrideTurnsModel", "mixes", "(III)I"⟩, 47), (⟨"StrideTurnsModel", "left", "(II)I"⟩, 47), (⟨"StrideTurnsModel", "turnOf", "(III)I"⟩, 47), (⟨"StrideTurnsModel", "copiesOut", "()V"⟩, 47), (⟨"StrideTurnsModel", "sameNow", "(III)I"⟩, 47), (⟨"StrideTurnsModel", "missing", "()I"⟩, 47), (⟨"StrideTurnsModel", "statementDigest", "(JI)J"⟩, 47), (⟨"StrideTurnsModel", "rowDigest", "(JI)J"⟩, 47), (⟨"StrideTurnsModel", "cellsDigest", "(JI)J"⟩, 47)]
theorem lw_r7 : ∀ q ∈ lw_privs_7, lw_okq q := List.forall_mem_cons.mpr ⟨lw_p96, List.forall_mem_cons.mpr ⟨lw_p97, List.forall_mem_cons.mpr ⟨lw_p98, List.forall_mem_cons.mpr ⟨lw_p99, List.forall_mem_cons.mpr ⟨lw_p100, List.forall_mem_cons.mpr ⟨lw_p101, List.forall_mem_cons.mpr ⟨lw_p102, List.forall_mem_cons.mpr ⟨lw_p103, List.forall_mem_cons.mpr ⟨lw_p104, List.forall_mem_cons.mpr ⟨lw_p105, List.forall_mem_cons.mpr ⟨lw_p106, fun _ h => absurd h List.not_mem_nil⟩⟩⟩⟩⟩⟩⟩⟩⟩⟩⟩
def lw_privs : List (MethodName × Nat) := lw_privs_1 ++ (lw_privs_2 ++ (lw_privs_3 ++ (lw_privs_4 ++ (lw_privs_5 ++ (lw_privs_6 ++ (lw_privs_7))))))
def lw_tbl : List Cond := k2_sels lw_privs ++ tables_1
theorem lw_privs_ok : ∀ q ∈ lw_privs, lw_okq q := by
  show ∀ q ∈ lw_privs_1 ++ (lw_privs_2 ++ (lw_privs_3 ++ (lw_privs_4 ++ (lw_privs_5 ++ (lw_privs_6 ++ (lw_privs_7)))))), lw_okq q
  exact List.forall_mem_append.mpr ⟨lw_r1, List.forall_mem_append.mpr ⟨lw_r2, List.forall_mem_append.mpr ⟨lw_r3, List.forall_mem_append.mpr ⟨lw_r4, List.forall_mem_append.mpr ⟨lw_r5, List.forall_mem_append.mpr ⟨lw_r6, lw_r7⟩⟩⟩⟩⟩⟩
/-- the streams that the claim lets the run draw from -/
abbrev lw_cs : List Choice := [Jvm.Choice.named "NaN.bits"]
theorem lw_bits : nanBits ∈ lw_cs := by first | decide | exact List.mem_cons_self | simp [lw_cs, nanBits]
-- ===== end of PART A =====

def RX0 : String := "StrideTurns$History"
def TX0 : u_T := fun k => match k with
  | 0 => ("StrideTurns$History", "told", "[[I", true)
  | 1 => ("StrideTurns$History", "oldest", "I", false)
  | _ => ("StrideTurns$History", "held", "I", false)
def tyX0 : Nat → FieldType := fun k => match k with
  | 0 => .array (.array .int)
  | 1 => .int
  | _ => .int
abbrev wsX00 : List Cond := u_ws RX0 TX0 3
theorem nmX0 : ∀ a, a < 3 → ∀ b, b < 3 → a ≠ b → (TX0 a).2.1 ≠ (TX0 b).2.1 := by decide +kernel
theorem tyX0_ok : ∀ k, k < 3 → parseFieldDescriptor (TX0 k).2.2.1 = some (tyX0 k) := by decide +kernel
abbrev cX0_init : ByteArray := prog_2_method_1_code
def yX0_init : MethodName := ⟨RX0, "<init>", "()V"⟩
abbrev cX0_note : ByteArray := prog_2_method_2_code
def yX0_note : MethodName := ⟨RX0, "note", "(III)V"⟩
abbrev cX0_keep : ByteArray := prog_2_method_3_code
def yX0_keep : MethodName := ⟨RX0, "keep", "(III)V"⟩
abbrev cX0_latest : ByteArray := prog_2_method_4_code
def yX0_latest : MethodName := ⟨RX0, "latest", "()[I"⟩
abbrev cX0_takeBack : ByteArray := prog_2_method_5_code
def yX0_takeBack : MethodName := ⟨RX0, "takeBack", "(LStrideTurns$Loop;)I"⟩
def RX1 : String := "StrideTurns$Kinds"
def TX1 : u_T := fun k => match k with
  | 0 => ("StrideTurns$Kinds", "sections", "[LStrideTurns$Section;", true)
  | 1 => ("StrideTurns$Kinds", "often", "[I", true)
  | 2 => ("StrideTurns$Kinds", "next", "LStrideTurns$Section;", true)
  | _ => ("StrideTurns$Kinds", "found", "I", false)
def tyX1 : Nat → FieldType := fun k => match k with
  | 0 => .array (.object "StrideTurns$Section")
  | 1 => .array .int
  | 2 => .object "StrideTurns$Section"
  | _ => .int
abbrev wsX10 : List Cond := u_ws RX1 TX1 4
theorem nmX1 : ∀ a, a < 4 → ∀ b, b < 4 → a ≠ b → (TX1 a).2.1 ≠ (TX1 b).2.1 := by decide +kernel
theorem tyX1_ok : ∀ k, k < 4 → parseFieldDescriptor (TX1 k).2.2.1 = some (tyX1 k) := by decide +kernel
abbrev cX1_init : ByteArray := prog_3_method_1_code
def yX1_init : MethodName := ⟨RX1, "<init>", "()V"⟩
abbrev cX1_collect : ByteArray := prog_3_method_2_code
def yX1_collect : MethodName := ⟨RX1, "collect", "(LStrideTurns$Loop;LStrideTurns$Rows;LStrideTurns$Statement;I)V"⟩
abbrev cX1_addFrom : ByteArray := prog_3_method_3_code
def yX1_addFrom : MethodName := ⟨RX1, "addFrom", "(LStrideTurns$Statement;III)V"⟩
def RX2 : String := "StrideTurns$Loop"
def TX2 : u_T := fun k => match k with
  | 0 => ("StrideTurns$Loop", "statements", "[LStrideTurns$Statement;", true)
  | 1 => ("StrideTurns$Loop", "turnCount", "I", false)
  | _ => ("StrideTurns$Loop", "statementCount", "I", false)
def tyX2 : Nat → FieldType := fun k => match k with
  | 0 => .array (.object "StrideTurns$Statement")
  | 1 => .int
  | _ => .int
abbrev wsX20 : List Cond := u_ws RX2 TX2 3
theorem nmX2 : ∀ a, a < 3 → ∀ b, b < 3 → a ≠ b → (TX2 a).2.1 ≠ (TX2 b).2.1 := by decide +kernel
theorem tyX2_ok : ∀ k, k < 3 → parseFieldDescriptor (TX2 k).2.2.1 = some (tyX2 k) := by decide +kernel
abbrev cX2_init : ByteArray := prog_4_method_1_code
def yX2_init : MethodName := ⟨RX2, "<init>", "()V"⟩
abbrev cX2_turnsDone : ByteArray := prog_4_method_2_code
def yX2_turnsDone : MethodName := ⟨RX2, "turnsDone", "(LStrideTurns$Statement;LStrideTurns$Rows;)I"⟩
abbrev cX2_nextDone : ByteArray := prog_4_method_3_code
def yX2_nextDone : MethodName := ⟨RX2, "nextDone", "(IILStrideTurns$Rows;)I"⟩
def RX3 : String := "StrideTurns$Numbers"
def TX3 : u_T := fun k => match k with
  | _ => ("", "", "", false)
def tyX3 : Nat → FieldType := fun k => match k with
  | _ => .int
abbrev wsX30 : List Cond := u_ws RX3 TX3 0
theorem nmX3 : ∀ a, a < 0 → ∀ b, b < 0 → a ≠ b → (TX3 a).2.1 ≠ (TX3 b).2.1 := by decide +kernel
theorem tyX3_ok : ∀ k, k < 0 → parseFieldDescriptor (TX3 k).2.2.1 = some (tyX3 k) := by decide +kernel
abbrev cX3_told : ByteArray := prog_5_method_2_code
def yX3_told : MethodName := ⟨RX3, "told", "(II)D"⟩
abbrev cX3_shown : ByteArray := prog_5_method_3_code
def yX3_shown : MethodName := ⟨RX3, "shown", "(ID)J"⟩
abbrev cX3_bits : ByteArray := prog_5_method_4_code
def yX3_bits : MethodName := ⟨RX3, "bits", "(DII)J"⟩
abbrev cX3_cast : ByteArray := prog_5_method_5_code
def yX3_cast : MethodName := ⟨RX3, "cast", "(ID)D"⟩
abbrev cX3_plain : ByteArray := prog_5_method_6_code
def yX3_plain : MethodName := ⟨RX3, "plain", "(D)D"⟩
abbrev cX3_sizeOf : ByteArray := prog_5_method_7_code
def yX3_sizeOf : MethodName := ⟨RX3, "sizeOf", "(D)D"⟩
abbrev cX3_isOver : ByteArray := prog_5_method_8_code
def yX3_isOver : MethodName := ⟨RX3, "isOver", "(III)Z"⟩
abbrev cX3_calculate : ByteArray := prog_5_method_9_code
def yX3_calculate : MethodName := ⟨RX3, "calculate", "(IIDD)D"⟩
abbrev cX3_calculateInts : ByteArray := prog_5_method_10_code
def yX3_calculateInts : MethodName := ⟨RX3, "calculateInts", "(III)I"⟩
abbrev cX3_calculateFloats : ByteArray := prog_5_method_11_code
def yX3_calculateFloats : MethodName := ⟨RX3, "calculateFloats", "(IFF)F"⟩
abbrev cX3_calculateDoubles : ByteArray := prog_5_method_12_code
def yX3_calculateDoubles : MethodName := ⟨RX3, "calculateDoubles", "(IDD)D"⟩
abbrev cX3_remainder : ByteArray := prog_5_method_13_code
def yX3_remainder : MethodName := ⟨RX3, "remainder", "(DD)D"⟩
def RX4 : String := "StrideTurns$Outcome"
def TX4 : u_T := fun k => match k with
  | 0 => ("StrideTurns$Outcome", "faulted", "[I", true)
  | 1 => ("StrideTurns$Outcome", "order", "[I", true)
  | 2 => ("StrideTurns$Outcome", "endings", "I", false)
  | _ => ("StrideTurns$Outcome", "items", "I", false)
def tyX4 : Nat → FieldType := fun k => match k with
  | 0 => .array .int
  | 1 => .array .int
  | 2 => .int
  | _ => .int
abbrev wsX40 : List Cond := u_ws RX4 TX4 4
theorem nmX4 : ∀ a, a < 4 → ∀ b, b < 4 → a ≠ b → (TX4 a).2.1 ≠ (TX4 b).2.1 := by decide +kernel
theorem tyX4_ok : ∀ k, k < 4 → parseFieldDescriptor (TX4 k).2.2.1 = some (tyX4 k) := by decide +kernel
abbrev cX4_init : ByteArray := prog_6_method_1_code
def yX4_init : MethodName := ⟨RX4, "<init>", "()V"⟩
abbrev cX4_begin : ByteArray := prog_6_method_2_code
def yX4_begin : MethodName := ⟨RX4, "begin", "()V"⟩
abbrev cX4_end : ByteArray := prog_6_method_3_code
def yX4_end : MethodName := ⟨RX4, "end", "(I)V"⟩
abbrev cX4_alike : ByteArray := prog_6_method_4_code
def yX4_alike : MethodName := ⟨RX4, "alike", "(LStrideTurns$Outcome;)Z"⟩
def RX5 : String := "StrideTurns$Reference"
def TX5 : u_T := fun k => match k with
  | 0 => ("StrideTurns$Reference", "row", "I", false)
  | 1 => ("StrideTurns$Reference", "from", "I", false)
  | 2 => ("StrideTurns$Reference", "by", "I", false)
  | _ => ("StrideTurns$Reference", "step", "I", false)
def tyX5 : Nat → FieldType := fun k => match k with
  | 0 => .int
  | 1 => .int
  | 2 => .int
  | _ => .int
abbrev wsX50 : List Cond := u_ws RX5 TX5 4
theorem nmX5 : ∀ a, a < 4 → ∀ b, b < 4 → a ≠ b → (TX5 a).2.1 ≠ (TX5 b).2.1 := by decide +kernel
theorem tyX5_ok : ∀ k, k < 4 → parseFieldDescriptor (TX5 k).2.2.1 = some (tyX5 k) := by decide +kernel
abbrev cX5_init : ByteArray := prog_7_method_1_code
def yX5_init : MethodName := ⟨RX5, "<init>", "()V"⟩
abbrev cX5_lie : ByteArray := prog_7_method_2_code
def yX5_lie : MethodName := ⟨RX5, "lie", "(III)V"⟩
abbrev cX5_isConstant : ByteArray := prog_7_method_3_code
def yX5_isConstant : MethodName := ⟨RX5, "isConstant", "()Z"⟩
abbrev cX5_at : ByteArray := prog_7_method_4_code
def yX5_at : MethodName := ⟨RX5, "at", "(II)I"⟩
abbrev cX5_liesAs : ByteArray := prog_7_method_5_code
def yX5_liesAs : MethodName := ⟨RX5, "liesAs", "(LStrideTurns$Reference;)Z"⟩
def RX6 : String := "StrideTurns$Rows"
def TX6 : u_T := fun k => match k with
  | 0 => ("StrideTurns$Rows", "forms", "[I", true)
  | 1 => ("StrideTurns$Rows", "sizes", "[I", true)
  | 2 => ("StrideTurns$Rows", "cells", "[D", true)
  | _ => ("StrideTurns$Rows", "writers", "[I", true)
def tyX6 : Nat → FieldType := fun k => match k with
  | 0 => .array .int
  | 1 => .array .int
  | 2 => .array .double
  | _ => .array .int
abbrev wsX60 : List Cond := u_ws RX6 TX6 4
theorem nmX6 : ∀ a, a < 4 → ∀ b, b < 4 → a ≠ b → (TX6 a).2.1 ≠ (TX6 b).2.1 := by decide +kernel
theorem tyX6_ok : ∀ k, k < 4 → parseFieldDescriptor (TX6 k).2.2.1 = some (tyX6 k) := by decide +kernel
abbrev cX6_init : ByteArray := prog_8_method_1_code
def yX6_init : MethodName := ⟨RX6, "<init>", "()V"⟩
abbrev cX6_make : ByteArray := prog_8_method_2_code
def yX6_make : MethodName := ⟨RX6, "make", "(III)V"⟩
abbrev cX6_take : ByteArray := prog_8_method_3_code
def yX6_take : MethodName := ⟨RX6, "take", "(LStrideTurns$Rows;)V"⟩
abbrev cX6_forgetWriters : ByteArray := prog_8_method_4_code
def yX6_forgetWriters : MethodName := ⟨RX6, "forgetWriters", "()V"⟩
abbrev cX6_isMissing : ByteArray := prog_8_method_5_code
def yX6_isMissing : MethodName := ⟨RX6, "isMissing", "(I)Z"⟩
abbrev cX6_isOfNumbers : ByteArray := prog_8_method_6_code
def yX6_isOfNumbers : MethodName := ⟨RX6, "isOfNumbers", "(I)Z"⟩
abbrev cX6_hasCell : ByteArray := prog_8_method_7_code
def yX6_hasCell : MethodName := ⟨RX6, "hasCell", "(II)Z"⟩
abbrev cX6_hasCells : ByteArray := prog_8_method_8_code
def yX6_hasCells : MethodName := ⟨RX6, "hasCells", "(III)Z"⟩
abbrev cX6_isTrue : ByteArray := prog_8_method_9_code
def yX6_isTrue : MethodName := ⟨RX6, "isTrue", "(II)Z"⟩
abbrev cX6_missing : ByteArray := prog_8_method_10_code
def yX6_missing : MethodName := ⟨RX6, "missing", "()I"⟩
abbrev cX6_faultAt : ByteArray := prog_8_method_11_code
def yX6_faultAt : MethodName := ⟨RX6, "faultAt", "(II)I"⟩
abbrev cX6_widthOf : ByteArray := prog_8_method_12_code
def yX6_widthOf : MethodName := ⟨RX6, "widthOf", "(LStrideTurns$Statement;)I"⟩
abbrev cX6_alike : ByteArray := prog_8_method_13_code
def yX6_alike : MethodName := ⟨RX6, "alike", "(LStrideTurns$Rows;)Z"⟩
def RX7 : String := "StrideTurns$Runner"
def TX7 : u_T := fun k => match k with
  | 0 => ("StrideTurns$Runner", "loop", "LStrideTurns$Loop;", true)
  | 1 => ("StrideTurns$Runner", "treatment", "[I", true)
  | 2 => ("StrideTurns$Runner", "copies", "[D", true)
  | 3 => ("StrideTurns$Runner", "copied", "[I", true)
  | 4 => ("StrideTurns$Runner", "turnAt", "[I", true)
  | 5 => ("StrideTurns$Runner", "statementAt", "[I", true)
  | 6 => ("StrideTurns$Runner", "itemAt", "[I", true)
  | 7 => ("StrideTurns$Runner", "rows", "LStrideTurns$Rows;", false)
  | 8 => ("StrideTurns$Runner", "outcome", "LStrideTurns$Outcome;", false)
  | 9 => ("StrideTurns$Runner", "workers", "I", false)
  | _ => ("StrideTurns$Runner", "deal", "I", false)
def tyX7 : Nat → FieldType := fun k => match k with
  | 0 => .object "StrideTurns$Loop"
  | 1 => .array .int
  | 2 => .array .double
  | 3 => .array .int
  | 4 => .array .int
  | 5 => .array .int
  | 6 => .array .int
  | 7 => .object "StrideTurns$Rows"
  | 8 => .object "StrideTurns$Outcome"
  | 9 => .int
  | _ => .int
abbrev wsX70 : List Cond := u_ws RX7 TX7 11
theorem nmX7 : ∀ a, a < 11 → ∀ b, b < 11 → a ≠ b → (TX7 a).2.1 ≠ (TX7 b).2.1 := by decide +kernel
theorem tyX7_ok : ∀ k, k < 11 → parseFieldDescriptor (TX7 k).2.2.1 = some (tyX7 k) := by decide +kernel
abbrev cX7_init : ByteArray := prog_9_method_1_code
def yX7_init : MethodName := ⟨RX7, "<init>", "(LStrideTurns$Loop;)V"⟩
abbrev cX7_treatAsTheyAre : ByteArray := prog_9_method_2_code
def yX7_treatAsTheyAre : MethodName := ⟨RX7, "treatAsTheyAre", "()V"⟩
abbrev cX7_treatByVerdict : ByteArray := prog_9_method_3_code
def yX7_treatByVerdict : MethodName := ⟨RX7, "treatByVerdict", "(LStrideTurns$Summary;)V"⟩
abbrev cX7_go : ByteArray := prog_9_method_4_code
def yX7_go : MethodName := ⟨RX7, "go", "(LStrideTurns$Rows;LStrideTurns$Outcome;III)V"⟩
abbrev cX7_begin : ByteArray := prog_9_method_5_code
def yX7_begin : MethodName := ⟨RX7, "begin", "(LStrideTurns$Rows;LStrideTurns$Outcome;II)V"⟩
abbrev cX7_enter : ByteArray := prog_9_method_6_code
def yX7_enter : MethodName := ⟨RX7, "enter", "(II)V"⟩
abbrev cX7_workerOf : ByteArray := prog_9_method_7_code
def yX7_workerOf : MethodName := ⟨RX7, "workerOf", "(I)I"⟩
abbrev cX7_busyWorkers : ByteArray := prog_9_method_8_code
def yX7_busyWorkers : MethodName := ⟨RX7, "busyWorkers", "()I"⟩
abbrev cX7_busyWorker : ByteArray := prog_9_method_9_code
def yX7_busyWorker : MethodName := ⟨RX7, "busyWorker", "(I)I"⟩
abbrev cX7_step : ByteArray := prog_9_method_10_code
def yX7_step : MethodName := ⟨RX7, "step", "(I)V"⟩
abbrev cX7_goOn : ByteArray := prog_9_method_11_code
def yX7_goOn : MethodName := ⟨RX7, "goOn", "(ILStrideTurns$Statement;I)V"⟩
abbrev cX7_doItem : ByteArray := prog_9_method_12_code
def yX7_doItem : MethodName := ⟨RX7, "doItem", "(LStrideTurns$Statement;II)I"⟩
abbrev cX7_faultOf : ByteArray := prog_9_method_13_code
def yX7_faultOf : MethodName := ⟨RX7, "faultOf", "(LStrideTurns$Statement;II)I"⟩
abbrev cX7_read : ByteArray := prog_9_method_14_code
def yX7_read : MethodName := ⟨RX7, "read", "(LStrideTurns$Statement;III)D"⟩
abbrev cX7_write : ByteArray := prog_9_method_15_code
def yX7_write : MethodName := ⟨RX7, "write", "(LStrideTurns$Reference;IID)V"⟩
abbrev cX7_copyOut : ByteArray := prog_9_method_16_code
def yX7_copyOut : MethodName := ⟨RX7, "copyOut", "()V"⟩
abbrev cX7_copyOutRow : ByteArray := prog_9_method_17_code
def yX7_copyOutRow : MethodName := ⟨RX7, "copyOutRow", "(II)V"⟩
def RX8 : String := "StrideTurns$Section"
def TX8 : u_T := fun k => match k with
  | 0 => ("StrideTurns$Section", "first", "I", false)
  | 1 => ("StrideTurns$Section", "stride", "I", false)
  | _ => ("StrideTurns$Section", "length", "I", false)
def tyX8 : Nat → FieldType := fun k => match k with
  | 0 => .int
  | 1 => .int
  | _ => .int
abbrev wsX80 : List Cond := u_ws RX8 TX8 3
theorem nmX8 : ∀ a, a < 3 → ∀ b, b < 3 → a ≠ b → (TX8 a).2.1 ≠ (TX8 b).2.1 := by decide +kernel
theorem tyX8_ok : ∀ k, k < 3 → parseFieldDescriptor (TX8 k).2.2.1 = some (tyX8 k) := by decide +kernel
abbrev cX8_init : ByteArray := prog_10_method_1_code
def yX8_init : MethodName := ⟨RX8, "<init>", "()V"⟩
abbrev cX8_lay : ByteArray := prog_10_method_2_code
def yX8_lay : MethodName := ⟨RX8, "lay", "(LStrideTurns$Reference;II)V"⟩
abbrev cX8_part : ByteArray := prog_10_method_3_code
def yX8_part : MethodName := ⟨RX8, "part", "(II)I"⟩
abbrev cX8_take : ByteArray := prog_10_method_4_code
def yX8_take : MethodName := ⟨RX8, "take", "(LStrideTurns$Section;)V"⟩
abbrev cX8_liesAs : ByteArray := prog_10_method_5_code
def yX8_liesAs : MethodName := ⟨RX8, "liesAs", "(LStrideTurns$Section;)Z"⟩
abbrev cX8_holds : ByteArray := prog_10_method_6_code
def yX8_holds : MethodName := ⟨RX8, "holds", "(I)Z"⟩
abbrev cX8_cross : ByteArray := prog_10_method_7_code
def yX8_cross : MethodName := ⟨RX8, "cross", "(LStrideTurns$Section;LStrideTurns$Section;)V"⟩
abbrev cX8_addBehind : ByteArray := prog_10_method_8_code
def yX8_addBehind : MethodName := ⟨RX8, "addBehind", "(I)V"⟩
abbrev cX8_takePiece : ByteArray := prog_10_method_9_code
def yX8_takePiece : MethodName := ⟨RX8, "takePiece", "(I)I"⟩
abbrev cX8_leastCell : ByteArray := prog_10_method_10_code
def yX8_leastCell : MethodName := ⟨RX8, "leastCell", "(I)I"⟩
def RX9 : String := "StrideTurns$Statement"
def TX9 : u_T := fun k => match k with
  | 0 => ("StrideTurns$Statement", "references", "[LStrideTurns$Reference;", true)
  | 1 => ("StrideTurns$Statement", "operation", "I", false)
  | 2 => ("StrideTurns$Statement", "items", "I", false)
  | 3 => ("StrideTurns$Statement", "period", "I", false)
  | 4 => ("StrideTurns$Statement", "phase", "I", false)
  | _ => ("StrideTurns$Statement", "maskRow", "I", false)
def tyX9 : Nat → FieldType := fun k => match k with
  | 0 => .array (.object "StrideTurns$Reference")
  | 1 => .int
  | 2 => .int
  | 3 => .int
  | 4 => .int
  | _ => .int
abbrev wsX90 : List Cond := u_ws RX9 TX9 6
theorem nmX9 : ∀ a, a < 6 → ∀ b, b < 6 → a ≠ b → (TX9 a).2.1 ≠ (TX9 b).2.1 := by decide +kernel
theorem tyX9_ok : ∀ k, k < 6 → parseFieldDescriptor (TX9 k).2.2.1 = some (tyX9 k) := by decide +kernel
abbrev cX9_init : ByteArray := prog_11_method_1_code
def yX9_init : MethodName := ⟨RX9, "<init>", "()V"⟩
abbrev cX9_begin : ByteArray := prog_11_method_2_code
def yX9_begin : MethodName := ⟨RX9, "begin", "(II)V"⟩
abbrev cX9_looksAt : ByteArray := prog_11_method_3_code
def yX9_looksAt : MethodName := ⟨RX9, "looksAt", "(I)Z"⟩
abbrev cX9_looksAtRow : ByteArray := prog_11_method_4_code
def yX9_looksAtRow : MethodName := ⟨RX9, "looksAtRow", "(I)Z"⟩
abbrev cX9_isOfIntsAlways : ByteArray := prog_11_method_5_code
def yX9_isOfIntsAlways : MethodName := ⟨RX9, "isOfIntsAlways", "()Z"⟩
abbrev cX9_mayBeOver : ByteArray := prog_11_method_6_code
def yX9_mayBeOver : MethodName := ⟨RX9, "mayBeOver", "()Z"⟩
abbrev cX9_isDone : ByteArray := prog_11_method_7_code
def yX9_isDone : MethodName := ⟨RX9, "isDone", "(ILStrideTurns$Rows;)Z"⟩
def RX10 : String := "StrideTurns$Summary"
def TX10 : u_T := fun k => match k with
  | 0 => ("StrideTurns$Summary", "rows", "LStrideTurns$Rows;", true)
  | 1 => ("StrideTurns$Summary", "loop", "LStrideTurns$Loop;", true)
  | 2 => ("StrideTurns$Summary", "sets", "[[I", true)
  | 3 => ("StrideTurns$Summary", "settled", "[I", true)
  | 4 => ("StrideTurns$Summary", "inDoubt", "Z", false)
  | _ => ("StrideTurns$Summary", "stale", "Z", false)
def tyX10 : Nat → FieldType := fun k => match k with
  | 0 => .object "StrideTurns$Rows"
  | 1 => .object "StrideTurns$Loop"
  | 2 => .array (.array .int)
  | 3 => .array .int
  | 4 => .boolean
  | _ => .boolean
abbrev wsX100 : List Cond := u_ws RX10 TX10 6
theorem nmX10 : ∀ a, a < 6 → ∀ b, b < 6 → a ≠ b → (TX10 a).2.1 ≠ (TX10 b).2.1 := by decide +kernel
theorem tyX10_ok : ∀ k, k < 6 → parseFieldDescriptor (TX10 k).2.2.1 = some (tyX10 k) := by decide +kernel
abbrev cX10_init : ByteArray := prog_12_method_1_code
def yX10_init : MethodName := ⟨RX10, "<init>", "(LStrideTurns$Rows;LStrideTurns$Loop;)V"⟩
abbrev cX10_cellsOf : ByteArray := prog_12_method_2_code
def yX10_cellsOf : MethodName := ⟨RX10, "cellsOf", "(III)I"⟩
abbrev cX10_refresh : ByteArray := prog_12_method_3_code
def yX10_refresh : MethodName := ⟨RX10, "refresh", "()V"⟩
abbrev cX10_addTurn : ByteArray := prog_12_method_4_code
def yX10_addTurn : MethodName := ⟨RX10, "addTurn", "(I)V"⟩
abbrev cX10_addItem : ByteArray := prog_12_method_5_code
def yX10_addItem : MethodName := ⟨RX10, "addItem", "(LStrideTurns$Statement;II)Z"⟩
abbrev cX10_addRead : ByteArray := prog_12_method_6_code
def yX10_addRead : MethodName := ⟨RX10, "addRead", "(III)V"⟩
abbrev cX10_addWrite : ByteArray := prog_12_method_7_code
def yX10_addWrite : MethodName := ⟨RX10, "addWrite", "(LStrideTurns$Statement;II)V"⟩
abbrev cX10_judge : ByteArray := prog_12_method_8_code
def yX10_judge : MethodName := ⟨RX10, "judge", "(II)I"⟩
abbrev cX10_isShared : ByteArray := prog_12_method_9_code
def yX10_isShared : MethodName := ⟨RX10, "isShared", "(I)Z"⟩
abbrev cX10_isGathered : ByteArray := prog_12_method_10_code
def yX10_isGathered : MethodName := ⟨RX10, "isGathered", "(II)Z"⟩
abbrev cX10_familyOf : ByteArray := prog_12_method_11_code
def yX10_familyOf : MethodName := ⟨RX10, "familyOf", "(LStrideTurns$Statement;I)I"⟩
abbrev cX10_familyFor : ByteArray := prog_12_method_12_code
def yX10_familyFor : MethodName := ⟨RX10, "familyFor", "(III)I"⟩
abbrev cX10_exposedTurn : ByteArray := prog_12_method_13_code
def yX10_exposedTurn : MethodName := ⟨RX10, "exposedTurn", "(I)I"⟩
abbrev cX10_exposedCell : ByteArray := prog_12_method_14_code
def yX10_exposedCell : MethodName := ⟨RX10, "exposedCell", "(II)I"⟩
abbrev cX10_lastTurn : ByteArray := prog_12_method_15_code
def yX10_lastTurn : MethodName := ⟨RX10, "lastTurn", "(IIII)I"⟩
def RX11 : String := "StrideTurns"
def TX11 : u_T := fun k => match k with
  | 0 => ("StrideTurns", "rows", "LStrideTurns$Rows;", true)
  | 1 => ("StrideTurns", "loop", "LStrideTurns$Loop;", true)
  | 2 => ("StrideTurns", "history", "LStrideTurns$History;", true)
  | 3 => ("StrideTurns", "text", "[I", true)
  | 4 => ("StrideTurns", "summary", "LStrideTurns$Summary;", true)
  | 5 => ("StrideTurns", "unlike", "LStrideTurns$Kinds;", true)
  | 6 => ("StrideTurns", "one", "LStrideTurns$Section;", true)
  | 7 => ("StrideTurns", "other", "LStrideTurns$Section;", true)
  | 8 => ("StrideTurns", "both", "LStrideTurns$Section;", true)
  | 9 => ("StrideTurns", "runner", "LStrideTurns$Runner;", true)
  | 10 => ("StrideTurns", "outcome", "LStrideTurns$Outcome;", true)
  | 11 => ("StrideTurns", "orderedRows", "LStrideTurns$Rows;", true)
  | 12 => ("StrideTurns", "mixedRows", "LStrideTurns$Rows;", true)
  | 13 => ("StrideTurns", "orderedOutcome", "LStrideTurns$Outcome;", true)
  | 14 => ("StrideTurns", "mixedOutcome", "LStrideTurns$Outcome;", true)
  | 15 => ("StrideTurns", "textLength", "I", false)
  | _ => ("StrideTurns", "latestFinding", "I", false)
def tyX11 : Nat → FieldType := fun k => match k with
  | 0 => .object "StrideTurns$Rows"
  | 1 => .object "StrideTurns$Loop"
  | 2 => .object "StrideTurns$History"
  | 3 => .array .int
  | 4 => .object "StrideTurns$Summary"
  | 5 => .object "StrideTurns$Kinds"
  | 6 => .object "StrideTurns$Section"
  | 7 => .object "StrideTurns$Section"
  | 8 => .object "StrideTurns$Section"
  | 9 => .object "StrideTurns$Runner"
  | 10 => .object "StrideTurns$Outcome"
  | 11 => .object "StrideTurns$Rows"
  | 12 => .object "StrideTurns$Rows"
  | 13 => .object "StrideTurns$Outcome"
  | 14 => .object "StrideTurns$Outcome"
  | 15 => .int
  | _ => .int
abbrev wsX110 : List Cond := u_ws RX11 TX11 17
theorem nmX11 : ∀ a, a < 17 → ∀ b, b < 17 → a ≠ b → (TX11 a).2.1 ≠ (TX11 b).2.1 := by decide +kernel
theorem tyX11_ok : ∀ k, k < 17 → parseFieldDescriptor (TX11 k).2.2.1 = some (tyX11 k) := by decide +kernel
abbrev cX11_init : ByteArray := prog_1_method_1_code
def yX11_init : MethodName := ⟨RX11, "<init>", "()V"⟩
abbrev cX11_row : ByteArray := prog_1_method_2_code
def yX11_row : MethodName := ⟨RX11, "row", "(III)I"⟩
abbrev cX11_lose : ByteArray := prog_1_method_3_code
def yX11_lose : MethodName := ⟨RX11, "lose", "(I)I"⟩
abbrev cX11_put : ByteArray := prog_1_method_4_code
def yX11_put : MethodName := ⟨RX11, "put", "(IIII)I"⟩
abbrev cX11_get : ByteArray := prog_1_method_5_code
def yX11_get : MethodName := ⟨RX11, "get", "(II)J"⟩
abbrev cX11_copy : ByteArray := prog_1_method_6_code
def yX11_copy : MethodName := ⟨RX11, "copy", "(IIIII)I"⟩
abbrev cX11_turns : ByteArray := prog_1_method_7_code
def yX11_turns : MethodName := ⟨RX11, "turns", "(I)I"⟩
abbrev cX11_type : ByteArray := prog_1_method_8_code
def yX11_type : MethodName := ⟨RX11, "type", "(I)I"⟩
abbrev cX11_wipe : ByteArray := prog_1_method_9_code
def yX11_wipe : MethodName := ⟨RX11, "wipe", "()I"⟩
abbrev cX11_statement : ByteArray := prog_1_method_10_code
def yX11_statement : MethodName := ⟨RX11, "statement", "(I)I"⟩
abbrev cX11_refer : ByteArray := prog_1_method_11_code
def yX11_refer : MethodName := ⟨RX11, "refer", "(III)I"⟩
abbrev cX11_place : ByteArray := prog_1_method_12_code
def yX11_place : MethodName := ⟨RX11, "place", "(IIIII)I"⟩
abbrev cX11_guard : ByteArray := prog_1_method_13_code
def yX11_guard : MethodName := ⟨RX11, "guard", "(III)I"⟩
abbrev cX11_mask : ByteArray := prog_1_method_14_code
def yX11_mask : MethodName := ⟨RX11, "mask", "(II)I"⟩
abbrev cX11_undo : ByteArray := prog_1_method_15_code
def yX11_undo : MethodName := ⟨RX11, "undo", "()I"⟩
abbrev cX11_info : ByteArray := prog_1_method_16_code
def yX11_info : MethodName := ⟨RX11, "info", "(II)I"⟩
abbrev cX11_reference : ByteArray := prog_1_method_17_code
def yX11_reference : MethodName := ⟨RX11, "reference", "(III)I"⟩
abbrev cX11_section : ByteArray := prog_1_method_18_code
def yX11_section : MethodName := ⟨RX11, "section", "(III)I"⟩
abbrev cX11_meet : ByteArray := prog_1_method_19_code
def yX11_meet : MethodName := ⟨RX11, "meet", "(IIIII)I"⟩
abbrev cX11_kinds : ByteArray := prog_1_method_20_code
def yX11_kinds : MethodName := ⟨RX11, "kinds", "(II)I"⟩
abbrev cX11_kind : ByteArray := prog_1_method_21_code
def yX11_kind : MethodName := ⟨RX11, "kind", "(IIII)I"⟩
abbrev cX11_many : ByteArray := prog_1_method_22_code
def yX11_many : MethodName := ⟨RX11, "many", "(III)I"⟩
abbrev cX11_pieces : ByteArray := prog_1_method_23_code
def yX11_pieces : MethodName := ⟨RX11, "pieces", "(III)I"⟩
abbrev cX11_piece : ByteArray := prog_1_method_24_code
def yX11_piece : MethodName := ⟨RX11, "piece", "(IIIII)I"⟩
abbrev cX11_verdict : ByteArray := prog_1_method_25_code
def yX11_verdict : MethodName := ⟨RX11, "verdict", "(I)I"⟩
abbrev cX11_would : ByteArray := prog_1_method_26_code
def yX11_would : MethodName := ⟨RX11, "would", "(II)I"⟩
abbrev cX11_witness : ByteArray := prog_1_method_27_code
def yX11_witness : MethodName := ⟨RX11, "witness", "(II)I"⟩
abbrev cX11_last : ByteArray := prog_1_method_28_code
def yX11_last : MethodName := ⟨RX11, "last", "(III)I"⟩
abbrev cX11_run : ByteArray := prog_1_method_29_code
def yX11_run : MethodName := ⟨RX11, "run", "()I"⟩
abbrev cX11_mixed : ByteArray := prog_1_method_30_code
def yX11_mixed : MethodName := ⟨RX11, "mixed", "(IIII)I"⟩
abbrev cX11_same : ByteArray := prog_1_method_31_code
def yX11_same : MethodName := ⟨RX11, "same", "(IIII)I"⟩
abbrev cX11_faults : ByteArray := prog_1_method_32_code
def yX11_faults : MethodName := ⟨RX11, "faults", "(I)I"⟩
abbrev cX11_ended : ByteArray := prog_1_method_33_code
def yX11_ended : MethodName := ⟨RX11, "ended", "(I)I"⟩
abbrev cX11_writer : ByteArray := prog_1_method_34_code
def yX11_writer : MethodName := ⟨RX11, "writer", "(II)I"⟩
abbrev cX11_count : ByteArray := prog_1_method_35_code
def yX11_count : MethodName := ⟨RX11, "count", "(I)I"⟩
abbrev cX11_digest : ByteArray := prog_1_method_36_code
def yX11_digest : MethodName := ⟨RX11, "digest", "()J"⟩
abbrev cX11_withStatement : ByteArray := prog_1_method_37_code
def yX11_withStatement : MethodName := ⟨RX11, "withStatement", "(JI)J"⟩
abbrev cX11_withReference : ByteArray := prog_1_method_38_code
def yX11_withReference : MethodName := ⟨RX11, "withReference", "(JII)J"⟩
abbrev cX11_withSets : ByteArray := prog_1_method_39_code
def yX11_withSets : MethodName := ⟨RX11, "withSets", "(JI)J"⟩
abbrev cX11_withCells : ByteArray := prog_1_method_40_code
def yX11_withCells : MethodName := ⟨RX11, "withCells", "(JI)J"⟩
abbrev cX11_within : ByteArray := prog_1_method_41_code
def yX11_within : MethodName := ⟨RX11, "within", "(III)Z"⟩
abbrev cX11_isRow : ByteArray := prog_1_method_42_code
def yX11_isRow : MethodName := ⟨RX11, "isRow", "(I)Z"⟩
abbrev cX11_isTurn : ByteArray := prog_1_method_43_code
def yX11_isTurn : MethodName := ⟨RX11, "isTurn", "(I)Z"⟩
abbrev cX11_isStatement : ByteArray := prog_1_method_44_code
def yX11_isStatement : MethodName := ⟨RX11, "isStatement", "(I)Z"⟩
abbrev cX11_isReference : ByteArray := prog_1_method_45_code
def yX11_isReference : MethodName := ⟨RX11, "isReference", "(II)Z"⟩
abbrev cX11_isSet : ByteArray := prog_1_method_46_code
def yX11_isSet : MethodName := ⟨RX11, "isSet", "(III)Z"⟩
abbrev cX11_hasSection : ByteArray := prog_1_method_47_code
def yX11_hasSection : MethodName := ⟨RX11, "hasSection", "(I)Z"⟩
abbrev cX11_lay : ByteArray := prog_1_method_48_code
def yX11_lay : MethodName := ⟨RX11, "lay", "(LStrideTurns$Section;II)V"⟩
abbrev cX11_found : ByteArray := prog_1_method_49_code
def yX11_found : MethodName := ⟨RX11, "found", "(I)I"⟩
abbrev cX11_longRefusal : ByteArray := prog_1_method_50_code
def yX11_longRefusal : MethodName := ⟨RX11, "longRefusal", "(I)J"⟩
abbrev cX11_mixedRefusal : ByteArray := prog_1_method_51_code
def yX11_mixedRefusal : MethodName := ⟨RX11, "mixedRefusal", "(IIII)I"⟩
abbrev cX11_serialRows : ByteArray := prog_1_method_52_code
def yX11_serialRows : MethodName := ⟨RX11, "serialRows", "()I"⟩
abbrev cX11_operationTyped : ByteArray := prog_1_method_53_code
def yX11_operationTyped : MethodName := ⟨RX11, "operationTyped", "()I"⟩
abbrev cX11_isTyped : ByteArray := prog_1_method_54_code
def yX11_isTyped : MethodName := ⟨RX11, "isTyped", "(Ljava/lang/String;)Z"⟩
abbrev cX11_nameOf : ByteArray := prog_1_method_55_code
def yX11_nameOf : MethodName := ⟨RX11, "nameOf", "(I)Ljava/lang/String;"⟩
def RX12 : String := "StrideTurnsModel"
def TX12 : u_T := fun k => match k with
  | 0 => ("StrideTurnsModel", "forms", "[I", true)
  | 1 => ("StrideTurnsModel", "sizes", "[I", true)
  | 2 => ("StrideTurnsModel", "cells", "[D", true)
  | 3 => ("StrideTurnsModel", "writers", "[I", true)
  | 4 => ("StrideTurnsModel", "finding", "I", false)
  | 5 => ("StrideTurnsModel", "moved", "[D", true)
  | 6 => ("StrideTurnsModel", "many", "I", false)
  | 7 => ("StrideTurnsModel", "statements", "I", false)
  | 8 => ("StrideTurnsModel", "operations", "[I", true)
  | 9 => ("StrideTurnsModel", "counts", "[I", true)
  | 10 => ("StrideTurnsModel", "periods", "[I", true)
  | 11 => ("StrideTurnsModel", "phases", "[I", true)
  | 12 => ("StrideTurnsModel", "masks", "[I", true)
  | 13 => ("StrideTurnsModel", "goals", "[I", true)
  | 14 => ("StrideTurnsModel", "froms", "[I", true)
  | 15 => ("StrideTurnsModel", "bys", "[I", true)
  | 16 => ("StrideTurnsModel", "steps", "[I", true)
  | 17 => ("StrideTurnsModel", "log", "[I", true)
  | 18 => ("StrideTurnsModel", "logged", "I", false)
  | 19 => ("StrideTurnsModel", "typed", "[I", true)
  | 20 => ("StrideTurnsModel", "typedMany", "I", false)
  | 21 => ("StrideTurnsModel", "kindsNow", "[I", true)
  | 22 => ("StrideTurnsModel", "kindsMany", "I", false)
  | 23 => ("StrideTurnsModel", "sets", "[I", true)
  | 24 => ("StrideTurnsModel", "covered", "[I", true)
  | 25 => ("StrideTurnsModel", "isRisky", "Z", false)
  | 26 => ("StrideTurnsModel", "pieceFirst", "I", false)
  | 27 => ("StrideTurnsModel", "pieceStride", "I", false)
  | 28 => ("StrideTurnsModel", "pieceMany", "I", false)
  | 29 => ("StrideTurnsModel", "verdicts", "[I", true)
  | 30 => ("StrideTurnsModel", "before", "[D", true)
  | 31 => ("StrideTurnsModel", "owns", "[D", true)
  | 32 => ("StrideTurnsModel", "hasOwn", "[Z", true)
  | 33 => ("StrideTurnsModel", "isMixed", "Z", false)
  | 34 => ("StrideTurnsModel", "items", "I", false)
  | 35 => ("StrideTurnsModel", "faultsNow", "[I", true)
  | 36 => ("StrideTurnsModel", "order", "[I", true)
  | 37 => ("StrideTurnsModel", "orderMany", "I", false)
  | 38 => ("StrideTurnsModel", "stopped", "I", false)
  | 39 => ("StrideTurnsModel", "isKept", "Z", false)
  | 40 => ("StrideTurnsModel", "next", "[I", true)
  | 41 => ("StrideTurnsModel", "keptCells", "[D", true)
  | 42 => ("StrideTurnsModel", "inOrder", "[D", true)
  | 43 => ("StrideTurnsModel", "keptWriters", "[I", true)
  | 44 => ("StrideTurnsModel", "keptOrder", "[I", true)
  | 45 => ("StrideTurnsModel", "keptFaults", "[I", true)
  | _ => ("StrideTurnsModel", "orderFaults", "[I", true)
def tyX12 : Nat → FieldType := fun k => match k with
  | 0 => .array .int
  | 1 => .array .int
  | 2 => .array .double
  | 3 => .array .int
  | 4 => .int
  | 5 => .array .double
  | 6 => .int
  | 7 => .int
  | 8 => .array .int
  | 9 => .array .int
  | 10 => .array .int
  | 11 => .array .int
  | 12 => .array .int
  | 13 => .array .int
  | 14 => .array .int
  | 15 => .array .int
  | 16 => .array .int
  | 17 => .array .int
  | 18 => .int
  | 19 => .array .int
  | 20 => .int
  | 21 => .array .int
  | 22 => .int
  | 23 => .array .int
  | 24 => .array .int
  | 25 => .boolean
  | 26 => .int
  | 27 => .int
  | 28 => .int
  | 29 => .array .int
  | 30 => .array .double
  | 31 => .array .double
  | 32 => .array .boolean
  | 33 => .boolean
  | 34 => .int
  | 35 => .array .int
  | 36 => .array .int
  | 37 => .int
  | 38 => .int
  | 39 => .boolean
  | 40 => .array .int
  | 41 => .array .double
  | 42 => .array .double
  | 43 => .array .int
  | 44 => .array .int
  | 45 => .array .int
  | _ => .array .int
abbrev wsX120 : List Cond := u_ws RX12 TX12 47
theorem nmX12 : ∀ a, a < 47 → ∀ b, b < 47 → a ≠ b → (TX12 a).2.1 ≠ (TX12 b).2.1 := by decide +kernel
theorem tyX12_ok : ∀ k, k < 47 → parseFieldDescriptor (TX12 k).2.2.1 = some (tyX12 k) := by decide +kernel
abbrev cX12_init : ByteArray := prog_14_method_1_code
def yX12_init : MethodName := ⟨RX12, "<init>", "()V"⟩
abbrev cX12_in : ByteArray := prog_14_method_3_code
def yX12_in : MethodName := ⟨RX12, "in", "(III)Z"⟩
abbrev cX12_no : ByteArray := prog_14_method_4_code
def yX12_no : MethodName := ⟨RX12, "no", "(I)J"⟩
abbrev cX12_meets : ByteArray := prog_14_method_5_code
def yX12_meets : MethodName := ⟨RX12, "meets", "(I)I"⟩
abbrev cX12_isRow : ByteArray := prog_14_method_6_code
def yX12_isRow : MethodName := ⟨RX12, "isRow", "(I)Z"⟩
abbrev cX12_zeroed : ByteArray := prog_14_method_7_code
def yX12_zeroed : MethodName := ⟨RX12, "zeroed", "(D)D"⟩
abbrev cX12_castTo : ByteArray := prog_14_method_8_code
def yX12_castTo : MethodName := ⟨RX12, "castTo", "(ID)D"⟩
abbrev cX12_row : ByteArray := prog_14_method_9_code
def yX12_row : MethodName := ⟨RX12, "row", "(III)I"⟩
abbrev cX12_lose : ByteArray := prog_14_method_10_code
def yX12_lose : MethodName := ⟨RX12, "lose", "(I)I"⟩
abbrev cX12_put : ByteArray := prog_14_method_11_code
def yX12_put : MethodName := ⟨RX12, "put", "(IIII)I"⟩
abbrev cX12_bitsOf : ByteArray := prog_14_method_12_code
def yX12_bitsOf : MethodName := ⟨RX12, "bitsOf", "(DII)J"⟩
abbrev cX12_toldOf : ByteArray := prog_14_method_13_code
def yX12_toldOf : MethodName := ⟨RX12, "toldOf", "(I)J"⟩
abbrev cX12_lacks : ByteArray := prog_14_method_14_code
def yX12_lacks : MethodName := ⟨RX12, "lacks", "(II)I"⟩
abbrev cX12_get : ByteArray := prog_14_method_15_code
def yX12_get : MethodName := ⟨RX12, "get", "(II)J"⟩
abbrev cX12_copy : ByteArray := prog_14_method_16_code
def yX12_copy : MethodName := ⟨RX12, "copy", "(IIIII)I"⟩
abbrev cX12_logs : ByteArray := prog_14_method_17_code
def yX12_logs : MethodName := ⟨RX12, "logs", "(IIIII)V"⟩
abbrev cX12_turns : ByteArray := prog_14_method_18_code
def yX12_turns : MethodName := ⟨RX12, "turns", "(I)I"⟩
abbrev cX12_type : ByteArray := prog_14_method_19_code
def yX12_type : MethodName := ⟨RX12, "type", "(I)I"⟩
abbrev cX12_wipe : ByteArray := prog_14_method_20_code
def yX12_wipe : MethodName := ⟨RX12, "wipe", "()I"⟩
abbrev cX12_isTyped : ByteArray := prog_14_method_21_code
def yX12_isTyped : MethodName := ⟨RX12, "isTyped", "(IIIII)Z"⟩
abbrev cX12_isName : ByteArray := prog_14_method_22_code
def yX12_isName : MethodName := ⟨RX12, "isName", "(I)Z"⟩
abbrev cX12_statement : ByteArray := prog_14_method_23_code
def yX12_statement : MethodName := ⟨RX12, "statement", "(I)I"⟩
abbrev cX12_isStatement : ByteArray := prog_14_method_24_code
def yX12_isStatement : MethodName := ⟨RX12, "isStatement", "(I)Z"⟩
abbrev cX12_refer : ByteArray := prog_14_method_25_code
def yX12_refer : MethodName := ⟨RX12, "refer", "(III)I"⟩
abbrev cX12_place : ByteArray := prog_14_method_26_code
def yX12_place : MethodName := ⟨RX12, "place", "(IIIII)I"⟩
abbrev cX12_guard : ByteArray := prog_14_method_27_code
def yX12_guard : MethodName := ⟨RX12, "guard", "(III)I"⟩
abbrev cX12_mask : ByteArray := prog_14_method_28_code
def yX12_mask : MethodName := ⟨RX12, "mask", "(II)I"⟩
abbrev cX12_undo : ByteArray := prog_14_method_29_code
def yX12_undo : MethodName := ⟨RX12, "undo", "()I"⟩
abbrev cX12_isDone : ByteArray := prog_14_method_30_code
def yX12_isDone : MethodName := ⟨RX12, "isDone", "(II)Z"⟩
abbrev cX12_doneMany : ByteArray := prog_14_method_31_code
def yX12_doneMany : MethodName := ⟨RX12, "doneMany", "(I)I"⟩
abbrev cX12_isLooked : ByteArray := prog_14_method_32_code
def yX12_isLooked : MethodName := ⟨RX12, "isLooked", "(I)Z"⟩
abbrev cX12_isNumbers : ByteArray := prog_14_method_33_code
def yX12_isNumbers : MethodName := ⟨RX12, "isNumbers", "(I)Z"⟩
abbrev cX12_formAs : ByteArray := prog_14_method_34_code
def yX12_formAs : MethodName := ⟨RX12, "formAs", "(III)I"⟩
abbrev cX12_familyAs : ByteArray := prog_14_method_35_code
def yX12_familyAs : MethodName := ⟨RX12, "familyAs", "(III)I"⟩
abbrev cX12_infoOf : ByteArray := prog_14_method_36_code
def yX12_infoOf : MethodName := ⟨RX12, "infoOf", "(II)I"⟩
abbrev cX12_info : ByteArray := prog_14_method_37_code
def yX12_info : MethodName := ⟨RX12, "info", "(II)I"⟩
abbrev cX12_referenceOf : ByteArray := prog_14_method_38_code
def yX12_referenceOf : MethodName := ⟨RX12, "referenceOf", "(II)I"⟩
abbrev cX12_reference : ByteArray := prog_14_method_39_code
def yX12_reference : MethodName := ⟨RX12, "reference", "(III)I"⟩
abbrev cX12_placeOf : ByteArray := prog_14_method_40_code
def yX12_placeOf : MethodName := ⟨RX12, "placeOf", "(III)I"⟩
abbrev cX12_firstOf : ByteArray := prog_14_method_41_code
def yX12_firstOf : MethodName := ⟨RX12, "firstOf", "(II)I"⟩
abbrev cX12_manyOf : ByteArray := prog_14_method_42_code
def yX12_manyOf : MethodName := ⟨RX12, "manyOf", "(I)I"⟩
abbrev cX12_strideOf : ByteArray := prog_14_method_43_code
def yX12_strideOf : MethodName := ⟨RX12, "strideOf", "(I)I"⟩
abbrev cX12_sectionOf : ByteArray := prog_14_method_44_code
def yX12_sectionOf : MethodName := ⟨RX12, "sectionOf", "(III)I"⟩
abbrev cX12_isSection : ByteArray := prog_14_method_45_code
def yX12_isSection : MethodName := ⟨RX12, "isSection", "(II)Z"⟩
abbrev cX12_section : ByteArray := prog_14_method_46_code
def yX12_section : MethodName := ⟨RX12, "section", "(III)I"⟩
abbrev cX12_hasPlace : ByteArray := prog_14_method_47_code
def yX12_hasPlace : MethodName := ⟨RX12, "hasPlace", "(III)Z"⟩
abbrev cX12_meetOf : ByteArray := prog_14_method_48_code
def yX12_meetOf : MethodName := ⟨RX12, "meetOf", "(IIIII)I"⟩
abbrev cX12_meet : ByteArray := prog_14_method_49_code
def yX12_meet : MethodName := ⟨RX12, "meet", "(IIIII)I"⟩
abbrev cX12_addsKind : ByteArray := prog_14_method_50_code
def yX12_addsKind : MethodName := ⟨RX12, "addsKind", "(II)V"⟩
abbrev cX12_addsIf : ByteArray := prog_14_method_51_code
def yX12_addsIf : MethodName := ⟨RX12, "addsIf", "(III)V"⟩
abbrev cX12_findsKinds : ByteArray := prog_14_method_52_code
def yX12_findsKinds : MethodName := ⟨RX12, "findsKinds", "(II)I"⟩
abbrev cX12_kinds : ByteArray := prog_14_method_53_code
def yX12_kinds : MethodName := ⟨RX12, "kinds", "(II)I"⟩
abbrev cX12_kind : ByteArray := prog_14_method_54_code
def yX12_kind : MethodName := ⟨RX12, "kind", "(IIII)I"⟩
abbrev cX12_bitAt : ByteArray := prog_14_method_55_code
def yX12_bitAt : MethodName := ⟨RX12, "bitAt", "(III)I"⟩
abbrev cX12_reads : ByteArray := prog_14_method_56_code
def yX12_reads : MethodName := ⟨RX12, "reads", "(III)Z"⟩
abbrev cX12_knows : ByteArray := prog_14_method_57_code
def yX12_knows : MethodName := ⟨RX12, "knows", "(III)Z"⟩
abbrev cX12_findsTurn : ByteArray := prog_14_method_58_code
def yX12_findsTurn : MethodName := ⟨RX12, "findsTurn", "(I)V"⟩
abbrev cX12_findsSets : ByteArray := prog_14_method_59_code
def yX12_findsSets : MethodName := ⟨RX12, "findsSets", "()V"⟩
abbrev cX12_bitsOfTurn : ByteArray := prog_14_method_60_code
def yX12_bitsOfTurn : MethodName := ⟨RX12, "bitsOfTurn", "(III)I"⟩
abbrev cX12_bitsOfSet : ByteArray := prog_14_method_61_code
def yX12_bitsOfSet : MethodName := ⟨RX12, "bitsOfSet", "(III)I"⟩
abbrev cX12_size : ByteArray := prog_14_method_62_code
def yX12_size : MethodName := ⟨RX12, "size", "(I)I"⟩
abbrev cX12_isSet : ByteArray := prog_14_method_63_code
def yX12_isSet : MethodName := ⟨RX12, "isSet", "(III)Z"⟩
abbrev cX12_many : ByteArray := prog_14_method_64_code
def yX12_many : MethodName := ⟨RX12, "many", "(III)I"⟩
abbrev cX12_nextBit : ByteArray := prog_14_method_65_code
def yX12_nextBit : MethodName := ⟨RX12, "nextBit", "(II)I"⟩
abbrev cX12_without : ByteArray := prog_14_method_66_code
def yX12_without : MethodName := ⟨RX12, "without", "(I)I"⟩
abbrev cX12_piecesOf : ByteArray := prog_14_method_67_code
def yX12_piecesOf : MethodName := ⟨RX12, "piecesOf", "(I)I"⟩
abbrev cX12_pieces : ByteArray := prog_14_method_68_code
def yX12_pieces : MethodName := ⟨RX12, "pieces", "(III)I"⟩
abbrev cX12_pieceOf : ByteArray := prog_14_method_69_code
def yX12_pieceOf : MethodName := ⟨RX12, "pieceOf", "(III)I"⟩
abbrev cX12_piece : ByteArray := prog_14_method_70_code
def yX12_piece : MethodName := ⟨RX12, "piece", "(IIIII)I"⟩
abbrev cX12_isWritten : ByteArray := prog_14_method_71_code
def yX12_isWritten : MethodName := ⟨RX12, "isWritten", "(I)Z"⟩
abbrev cX12_isShared : ByteArray := prog_14_method_72_code
def yX12_isShared : MethodName := ⟨RX12, "isShared", "(I)Z"⟩
abbrev cX12_isAbout : ByteArray := prog_14_method_73_code
def yX12_isAbout : MethodName := ⟨RX12, "isAbout", "(II)Z"⟩
abbrev cX12_isGathered : ByteArray := prog_14_method_74_code
def yX12_isGathered : MethodName := ⟨RX12, "isGathered", "(III)Z"⟩
abbrev cX12_isCopied : ByteArray := prog_14_method_75_code
def yX12_isCopied : MethodName := ⟨RX12, "isCopied", "(I)Z"⟩
abbrev cX12_verdictAs : ByteArray := prog_14_method_76_code
def yX12_verdictAs : MethodName := ⟨RX12, "verdictAs", "(III)I"⟩
abbrev cX12_verdictOf : ByteArray := prog_14_method_77_code
def yX12_verdictOf : MethodName := ⟨RX12, "verdictOf", "(I)I"⟩
abbrev cX12_verdict : ByteArray := prog_14_method_78_code
def yX12_verdict : MethodName := ⟨RX12, "verdict", "(I)I"⟩
abbrev cX12_would : ByteArray := prog_14_method_79_code
def yX12_would : MethodName := ⟨RX12, "would", "(II)I"⟩
abbrev cX12_serials : ByteArray := prog_14_method_80_code
def yX12_serials : MethodName := ⟨RX12, "serials", "()I"⟩
abbrev cX12_witnessOf : ByteArray := prog_14_method_81_code
def yX12_witnessOf : MethodName := ⟨RX12, "witnessOf", "(II)I"⟩
abbrev cX12_witness : ByteArray := prog_14_method_82_code
def yX12_witness : MethodName := ⟨RX12, "witness", "(II)I"⟩
abbrev cX12_lastOf : ByteArray := prog_14_method_83_code
def yX12_lastOf : MethodName := ⟨RX12, "lastOf", "(III)I"⟩
abbrev cX12_last : ByteArray := prog_14_method_84_code
def yX12_last : MethodName := ⟨RX12, "last", "(III)I"⟩
abbrev cX12_isInt : ByteArray := prog_14_method_86_code
def yX12_isInt : MethodName := ⟨RX12, "isInt", "(J)Z"⟩
abbrev cX12_formBy : ByteArray := prog_14_method_87_code
def yX12_formBy : MethodName := ⟨RX12, "formBy", "(I)I"⟩
abbrev cX12_widthOf : ByteArray := prog_14_method_88_code
def yX12_widthOf : MethodName := ⟨RX12, "widthOf", "(I)I"⟩
abbrev cX12_byInts : ByteArray := prog_14_method_89_code
def yX12_byInts : MethodName := ⟨RX12, "byInts", "(III)I"⟩
abbrev cX12_byFloats : ByteArray := prog_14_method_90_code
def yX12_byFloats : MethodName := ⟨RX12, "byFloats", "(IFF)F"⟩
abbrev cX12_byDoubles : ByteArray := prog_14_method_91_code
def yX12_byDoubles : MethodName := ⟨RX12, "byDoubles", "(IDD)D"⟩
abbrev cX12_does : ByteArray := prog_14_method_92_code
def yX12_does : MethodName := ⟨RX12, "does", "(IDD)D"⟩
abbrev cX12_lacksPlace : ByteArray := prog_14_method_93_code
def yX12_lacksPlace : MethodName := ⟨RX12, "lacksPlace", "(III)I"⟩
abbrev cX12_read : ByteArray := prog_14_method_94_code
def yX12_read : MethodName := ⟨RX12, "read", "(III)D"⟩
abbrev cX12_writes : ByteArray := prog_14_method_95_code
def yX12_writes : MethodName := ⟨RX12, "writes", "(IID)V"⟩
abbrev cX12_item : ByteArray := prog_14_method_96_code
def yX12_item : MethodName := ⟨RX12, "item", "(III)Z"⟩
abbrev cX12_firstFrom : ByteArray := prog_14_method_97_code
def yX12_firstFrom : MethodName := ⟨RX12, "firstFrom", "(II)I"⟩
abbrev cX12_begins : ByteArray := prog_14_method_98_code
def yX12_begins : MethodName := ⟨RX12, "begins", "()V"⟩
abbrev cX12_steps : ByteArray := prog_14_method_99_code
def yX12_steps : MethodName := ⟨RX12, "steps", "(I)V"⟩
abbrev cX12_runNow : ByteArray := prog_14_method_100_code
def yX12_runNow : MethodName := ⟨RX12, "runNow", "()I"⟩
abbrev cX12_run : ByteArray := prog_14_method_101_code
def yX12_run : MethodName := ⟨RX12, "run", "()I"⟩
abbrev cX12_turnOf : ByteArray := prog_14_method_102_code
def yX12_turnOf : MethodName := ⟨RX12, "turnOf", "(III)I"⟩
abbrev cX12_left : ByteArray := prog_14_method_103_code
def yX12_left : MethodName := ⟨RX12, "left", "(II)I"⟩
abbrev cX12_copiesOut : ByteArray := prog_14_method_104_code
def yX12_copiesOut : MethodName := ⟨RX12, "copiesOut", "()V"⟩
abbrev cX12_mixes : ByteArray := prog_14_method_105_code
def yX12_mixes : MethodName := ⟨RX12, "mixes", "(III)I"⟩
abbrev cX12_mayMix : ByteArray := prog_14_method_106_code
def yX12_mayMix : MethodName := ⟨RX12, "mayMix", "(IIII)I"⟩
abbrev cX12_mixed : ByteArray := prog_14_method_107_code
def yX12_mixed : MethodName := ⟨RX12, "mixed", "(IIII)I"⟩
abbrev cX12_sameNow : ByteArray := prog_14_method_108_code
def yX12_sameNow : MethodName := ⟨RX12, "sameNow", "(III)I"⟩
abbrev cX12_same : ByteArray := prog_14_method_109_code
def yX12_same : MethodName := ⟨RX12, "same", "(IIII)I"⟩
abbrev cX12_faults : ByteArray := prog_14_method_110_code
def yX12_faults : MethodName := ⟨RX12, "faults", "(I)I"⟩
abbrev cX12_ended : ByteArray := prog_14_method_111_code
def yX12_ended : MethodName := ⟨RX12, "ended", "(I)I"⟩
abbrev cX12_writer : ByteArray := prog_14_method_112_code
def yX12_writer : MethodName := ⟨RX12, "writer", "(II)I"⟩
abbrev cX12_missing : ByteArray := prog_14_method_113_code
def yX12_missing : MethodName := ⟨RX12, "missing", "()I"⟩
abbrev cX12_count : ByteArray := prog_14_method_114_code
def yX12_count : MethodName := ⟨RX12, "count", "(I)I"⟩
abbrev cX12_statementDigest : ByteArray := prog_14_method_115_code
def yX12_statementDigest : MethodName := ⟨RX12, "statementDigest", "(JI)J"⟩
abbrev cX12_rowDigest : ByteArray := prog_14_method_116_code
def yX12_rowDigest : MethodName := ⟨RX12, "rowDigest", "(JI)J"⟩
abbrev cX12_cellsDigest : ByteArray := prog_14_method_117_code
def yX12_cellsDigest : MethodName := ⟨RX12, "cellsDigest", "(JI)J"⟩
abbrev cX12_digest : ByteArray := prog_14_method_118_code
def yX12_digest : MethodName := ⟨RX12, "digest", "()J"⟩
def RJ6 : String := "java/lang/Integer"
def TJ6 : u_T := fun k => match k with
  | _ => ("", "", "", false)
def tyJ6 : Nat → FieldType := fun k => match k with
  | _ => .int
abbrev wsJ60 : List Cond := u_ws RJ6 TJ6 0
theorem nmJ6 : ∀ a, a < 0 → ∀ b, b < 0 → a ≠ b → (TJ6 a).2.1 ≠ (TJ6 b).2.1 := by decide +kernel
theorem tyJ6_ok : ∀ k, k < 0 → parseFieldDescriptor (TJ6 k).2.2.1 = some (tyJ6 k) := by decide +kernel
abbrev cJ6_bitCount_0f7a4 : ByteArray := prog_15_method_49_code
def yJ6_bitCount_0f7a4 : MethodName := ⟨RJ6, "bitCount", "(I)I"⟩
def RJ9 : String := "java/lang/Math"
def TJ9 : u_T := fun k => match k with
  | _ => ("", "", "", false)
def tyJ9 : Nat → FieldType := fun k => match k with
  | _ => .int
abbrev wsJ90 : List Cond := u_ws RJ9 TJ9 0
theorem nmJ9 : ∀ a, a < 0 → ∀ b, b < 0 → a ≠ b → (TJ9 a).2.1 ≠ (TJ9 b).2.1 := by decide +kernel
theorem tyJ9_ok : ∀ k, k < 0 → parseFieldDescriptor (TJ9 k).2.2.1 = some (tyJ9 k) := by decide +kernel
abbrev cJ9_abs_0f7a4 : ByteArray := prog_16_method_59_code
def yJ9_abs_0f7a4 : MethodName := ⟨RJ9, "abs", "(I)I"⟩
abbrev cJ9_max_7cf53 : ByteArray := prog_16_method_65_code
def yJ9_max_7cf53 : MethodName := ⟨RJ9, "max", "(II)I"⟩
abbrev cJ9_min_7cf53 : ByteArray := prog_16_method_69_code
def yJ9_min_7cf53 : MethodName := ⟨RJ9, "min", "(II)I"⟩
def RJ0 : String := "java/lang/String"
def TJ0 : u_T := fun k => match k with
  | _ => ("", "", "", false)
def tyJ0 : Nat → FieldType := fun k => match k with
  | _ => .int
abbrev wsJ00 : List Cond := u_ws RJ0 TJ0 0
theorem nmJ0 : ∀ a, a < 0 → ∀ b, b < 0 → a ≠ b → (TJ0 a).2.1 ≠ (TJ0 b).2.1 := by decide +kernel
theorem tyJ0_ok : ∀ k, k < 0 → parseFieldDescriptor (TJ0 k).2.2.1 = some (tyJ0 k) := by decide +kernel
abbrev cJ0_length_8abf5 : ByteArray := prog_17_method_54_code
def yJ0_length_8abf5 : MethodName := ⟨RJ0, "length", "()I"⟩
abbrev cJ0_charAt_5068e : ByteArray := prog_17_method_56_code
def yJ0_charAt_5068e : MethodName := ⟨RJ0, "charAt", "(I)C"⟩
abbrev cJ0_coder_7d493 : ByteArray := prog_17_method_152_code
def yJ0_coder_7d493 : MethodName := ⟨RJ0, "coder", "()B"⟩
abbrev cJ0_isLatin1_aae02 : ByteArray := prog_17_method_154_code
def yJ0_isLatin1_aae02 : MethodName := ⟨RJ0, "isLatin1", "()Z"⟩
abbrev cJ0_checkIndex_df160 : ByteArray := prog_17_method_155_code
def yJ0_checkIndex_df160 : MethodName := ⟨RJ0, "checkIndex", "(II)V"⟩
def RJ1 : String := "java/lang/StringLatin1"
def TJ1 : u_T := fun k => match k with
  | _ => ("", "", "", false)
def tyJ1 : Nat → FieldType := fun k => match k with
  | _ => .int
abbrev wsJ10 : List Cond := u_ws RJ1 TJ1 0
theorem nmJ1 : ∀ a, a < 0 → ∀ b, b < 0 → a ≠ b → (TJ1 a).2.1 ≠ (TJ1 b).2.1 := by decide +kernel
theorem tyJ1_ok : ∀ k, k < 0 → parseFieldDescriptor (TJ1 k).2.2.1 = some (tyJ1 k) := by decide +kernel
abbrev cJ1_charAt_3b067 : ByteArray := prog_18_method_2_code
def yJ1_charAt_3b067 : MethodName := ⟨RJ1, "charAt", "([BI)C"⟩
def RJ2 : String := "java/lang/StringUTF16"
def TJ2 : u_T := fun k => match k with
  | _ => ("", "", "", false)
def tyJ2 : Nat → FieldType := fun k => match k with
  | _ => .int
abbrev wsJ20 : List Cond := u_ws RJ2 TJ2 0
theorem nmJ2 : ∀ a, a < 0 → ∀ b, b < 0 → a ≠ b → (TJ2 a).2.1 ≠ (TJ2 b).2.1 := by decide +kernel
theorem tyJ2_ok : ∀ k, k < 0 → parseFieldDescriptor (TJ2 k).2.2.1 = some (tyJ2 k) := by decide +kernel
abbrev cJ2_getChar_3b067 : ByteArray := prog_19_method_5_code
def yJ2_getChar_3b067 : MethodName := ⟨RJ2, "getChar", "([BI)C"⟩
abbrev cJ2_length_9d52b : ByteArray := prog_19_method_6_code
def yJ2_length_9d52b : MethodName := ⟨RJ2, "length", "([B)I"⟩
abbrev cJ2_charAt_3b067 : ByteArray := prog_19_method_83_code
def yJ2_charAt_3b067 : MethodName := ⟨RJ2, "charAt", "([BI)C"⟩
abbrev cJ2_checkIndex_2214a : ByteArray := prog_19_method_91_code
def yJ2_checkIndex_2214a : MethodName := ⟨RJ2, "checkIndex", "(I[B)V"⟩
def RJ10 : String := "java/lang/System"
def TJ10 : u_T := fun k => match k with
  | _ => ("", "", "", false)
def tyJ10 : Nat → FieldType := fun k => match k with
  | _ => .int
abbrev wsJ100 : List Cond := u_ws RJ10 TJ10 0
theorem nmJ10 : ∀ a, a < 0 → ∀ b, b < 0 → a ≠ b → (TJ10 a).2.1 ≠ (TJ10 b).2.1 := by decide +kernel
theorem tyJ10_ok : ∀ k, k < 0 → parseFieldDescriptor (TJ10 k).2.2.1 = some (tyJ10 k) := by decide +kernel
def RJ3 : String := "jdk/internal/util/Preconditions"
def TJ3 : u_T := fun k => match k with
  | _ => ("", "", "", false)
def tyJ3 : Nat → FieldType := fun k => match k with
  | _ => .int
abbrev wsJ30 : List Cond := u_ws RJ3 TJ3 0
theorem nmJ3 : ∀ a, a < 0 → ∀ b, b < 0 → a ≠ b → (TJ3 a).2.1 ≠ (TJ3 b).2.1 := by decide +kernel
theorem tyJ3_ok : ∀ k, k < 0 → parseFieldDescriptor (TJ3 k).2.2.1 = some (tyJ3 k) := by decide +kernel
abbrev cJ3_checkIndex_8e157 : ByteArray := prog_21_method_11_code
def yJ3_checkIndex_8e157 : MethodName := ⟨RJ3, "checkIndex", "(IILjava/util/function/BiFunction;)I"⟩
def RL : String := "StrideTurnsLaw"
abbrev cL_law : ByteArray := code
def yL_law : MethodName := ⟨RL, "law", "([I)Z"⟩
