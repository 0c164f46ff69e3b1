section
-- ===== PART A: goes FIRST, ahead of the names: the tables' words, and 'selects' of the private methods out of them =====
/-- a private method of a class that the tables say can be made, by its rows of tables_1 -/
def lw_okq (q : MethodName × Nat) : Prop := (q.1.cls ≠ "java/lang/invoke/MethodHandle" ∧ q.1.cls ≠ "java/lang/invoke/VarHandle") ∧ Cond.instantiable q.1.cls q.2 ∈ tables_1 ∧ Cond.privateMethod q.1 ∈ tables_1 ∧ Cond.instanceMethod q.1 ∈ tables_1
theorem lw_p0 : lw_okq (⟨"StrideTurns", "found", "(I)I"⟩, 17) := ⟨⟨by decide +kernel, by decide +kernel⟩, List.mem_of_getElem? (i := 22) (by decide +kernel), List.mem_of_getElem? (i := 380) (by decide +kernel), List.mem_of_getElem? (i := 381) (by decide +kernel)⟩
theorem lw_p1 : lw_okq (⟨"StrideTurns$History", "latest", "()[I"⟩, 3) := ⟨⟨by decide +kernel, by decide +kernel⟩, List.mem_of_getElem? (i := 164) (by decide +kernel), List.mem_of_getElem? (i := 448) (by decide +kernel), List.mem_of_getElem? (i := 449) (by decide +kernel)⟩
theorem lw_p2 : lw_okq (⟨"StrideTurns", "operationTyped", "()I"⟩, 17) := ⟨⟨by decide +kernel, by decide +kernel⟩, List.mem_of_getElem? (i := 22) (by decide +kernel), List.mem_of_getElem? (i := 468) (by decide +kernel), List.mem_of_getElem? (i := 469) (by decide +kernel)⟩
theorem lw_p3 : lw_okq (⟨"StrideTurns", "isTyped", "(Ljava/lang/String;)Z"⟩, 17) := ⟨⟨by decide +kernel, by decide +kernel⟩, List.mem_of_getElem? (i := 22) (by decide +kernel), List.mem_of_getElem? (i := 488) (by decide +kernel), List.mem_of_getElem? (i := 489) (by decide +kernel)⟩
theorem lw_p4 : lw_okq (⟨"StrideTurns", "isReference", "(II)Z"⟩, 17) := ⟨⟨by decide +kernel, by decide +kernel⟩, List.mem_of_getElem? (i := 22) (by decide +kernel), List.mem_of_getElem? (i := 553) (by decide +kernel), List.mem_of_getElem? (i := 554) (by decide +kernel)⟩
theorem lw_p5 : lw_okq (⟨"StrideTurns", "isStatement", "(I)Z"⟩, 17) := ⟨⟨by decide +kernel, by decide +kernel⟩, List.mem_of_getElem? (i := 22) (by decide +kernel), List.mem_of_getElem? (i := 557) (by decide +kernel), List.mem_of_getElem? (i := 558) (by decide +kernel)⟩
theorem lw_p6 : lw_okq (⟨"StrideTurns", "hasSection", "(I)Z"⟩, 17) := ⟨⟨by decide +kernel, by decide +kernel⟩, List.mem_of_getElem? (i := 22) (by decide +kernel), List.mem_of_getElem? (i := 628) (by decide +kernel), List.mem_of_getElem? (i := 629) (by decide +kernel)⟩
theorem lw_p7 : lw_okq (⟨"StrideTurns", "isTurn", "(I)Z"⟩, 17) := ⟨⟨by decide +kernel, by decide +kernel⟩, List.mem_of_getElem? (i := 22) (by decide +kernel), List.mem_of_getElem? (i := 633) (by decide +kernel), List.mem_of_getElem? (i := 634) (by decide +kernel)⟩
theorem lw_p8 : lw_okq (⟨"StrideTurns", "lay", "(LStrideTurns$Section;II)V"⟩, 17) := ⟨⟨by decide +kernel, by decide +kernel⟩, List.mem_of_getElem? (i := 22) (by decide +kernel), List.mem_of_getElem? (i := 637) (by decide +kernel), List.mem_of_getElem? (i := 638) (by decide +kernel)⟩
theorem lw_p9 : lw_okq (⟨"StrideTurns$Section", "addBehind", "(I)V"⟩, 3) := ⟨⟨by decide +kernel, by decide +kernel⟩, List.mem_of_getElem? (i := 218) (by decide +kernel), List.mem_of_getElem? (i := 671) (by decide +kernel), List.mem_of_getElem? (i := 672) (by decide +kernel)⟩
theorem lw_p10 : lw_okq (⟨"StrideTurns$Kinds", "addFrom", "(LStrideTurns$Statement;III)V"⟩, 4) := ⟨⟨by decide +kernel, by decide +kernel⟩, List.mem_of_getElem? (i := 211) (by decide +kernel), List.mem_of_getElem? (i := 692) (by decide +kernel), List.mem_of_getElem? (i := 693) (by decide +kernel)⟩
theorem lw_p11 : lw_okq (⟨"StrideTurns", "isSet", "(III)Z"⟩, 17) := ⟨⟨by decide +kernel, by decide +kernel⟩, List.mem_of_getElem? (i := 22) (by decide +kernel), List.mem_of_getElem? (i := 714) (by decide +kernel), List.mem_of_getElem? (i := 715) (by decide +kernel)⟩
theorem lw_p12 : lw_okq (⟨"StrideTurns$Summary", "addTurn", "(I)V"⟩, 6) := ⟨⟨by decide +kernel, by decide +kernel⟩, List.mem_of_getElem? (i := 183) (by decide +kernel), List.mem_of_getElem? (i := 722) (by decide +kernel), List.mem_of_getElem? (i := 723) (by decide +kernel)⟩
theorem lw_p13 : lw_okq (⟨"StrideTurns$Summary", "addItem", "(LStrideTurns$Statement;II)Z"⟩, 6) := ⟨⟨by decide +kernel, by decide +kernel⟩, List.mem_of_getElem? (i := 183) (by decide +kernel), List.mem_of_getElem? (i := 731) (by decide +kernel), List.mem_of_getElem? (i := 732) (by decide +kernel)⟩
theorem lw_p14 : lw_okq (⟨"StrideTurns$Summary", "addRead", "(III)V"⟩, 6) := ⟨⟨by decide +kernel, by decide +kernel⟩, List.mem_of_getElem? (i := 183) (by decide +kernel), List.mem_of_getElem? (i := 741) (by decide +kernel), List.mem_of_getElem? (i := 742) (by decide +kernel)⟩
theorem lw_p15 : lw_okq (⟨"StrideTurns$Summary", "addWrite", "(LStrideTurns$Statement;II)V"⟩, 6) := ⟨⟨by decide +kernel, by decide +kernel⟩, List.mem_of_getElem? (i := 183) (by decide +kernel), List.mem_of_getElem? (i := 745) (by decide +kernel), List.mem_of_getElem? (i := 746) (by decide +kernel)⟩
def lw_privs_1 : List (MethodName × Nat) := [(⟨"StrideTurns", "found", "(I)I"⟩, 17), (⟨"StrideTurns$History", "latest", "()[I"⟩, 3), (⟨"StrideTurns", "operationTyped", "()I"⟩, 17), (⟨"StrideTurns", "isTyped", "(Ljava/lang/String;)Z"⟩, 17), (⟨"StrideTurns", "isReference", "(II)Z"⟩, 17), (⟨"StrideTurns", "isStatement", "(I)Z"⟩, 17), (⟨"StrideTurns", "hasSection", "(I)Z"⟩, 17), (⟨"StrideTurns", "isTurn", "(I)Z"⟩, 17), (⟨"StrideTurns", "lay", "(LStrideTurns$Section;II)V"⟩, 17), (⟨"StrideTurns$Section", "addBehind", "(I)V"⟩, 3), (⟨"StrideTurns$Kinds", "addFrom", "(LStrideTurns$Statement;III)V"⟩, 4), (⟨"StrideTurns", "isSet", "(III)Z"⟩, 17), (⟨"StrideTurns$Summary", "addTurn", "(I)V"⟩, 6), (⟨"StrideTurns$Summary", "addItem", "(LStrideTurns$Statement;II)Z"⟩, 6), (⟨"StrideTurns$Summary", "addRead", "(III)V"⟩, 6), (⟨"StrideTurns$Summary", "addWrite", "(LStrideTurns$Statement;II)V"⟩, 6)]
theorem lw_r1 : ∀ q ∈ lw_privs_1, lw_okq q := List.forall_mem_cons.mpr ⟨lw_p0, List.forall_mem_cons.mpr ⟨lw_p1, List.forall_mem_cons.mpr ⟨lw_p2, List.forall_mem_cons.mpr ⟨lw_p3, List.forall_mem_cons.mpr ⟨lw_p4, List.forall_mem_cons.mpr ⟨lw_p5, List.forall_mem_cons.mpr ⟨lw_p6, List.forall_mem_cons.mpr ⟨lw_p7, List.forall_mem_cons.mpr ⟨lw_p8, List.forall_mem_cons.mpr ⟨lw_p9, List.forall_mem_cons.mpr ⟨lw_p10, List.forall_mem_cons.mpr ⟨lw_p11, List.forall_mem_cons.mpr ⟨lw_p12, List.forall_mem_cons.mpr ⟨lw_p13, List.forall_mem_cons.mpr ⟨lw_p14, List.forall_mem_cons.mpr ⟨lw_p15, fun _ h => absurd h List.not_mem_nil⟩⟩⟩⟩⟩⟩⟩⟩⟩⟩⟩⟩⟩⟩⟩⟩
theorem lw_p16 : lw_okq (⟨"StrideTurns$Summary", "isShared", "(I)Z"⟩, 6) := ⟨⟨by decide +kernel, by decide +kernel⟩, List.mem_of_getElem? (i := 183) (by decide +kernel), List.mem_of_getElem? (i := 783) (by decide +kernel), List.mem_of_getElem? (i := 784) (by decide +kernel)⟩
theorem lw_p17 : lw_okq (⟨"StrideTurns$Summary", "isGathered", "(II)Z"⟩, 6) := ⟨⟨by decide +kernel, by decide +kernel⟩, List.mem_of_getElem? (i := 183) (by decide +kernel), List.mem_of_getElem? (i := 787) (by decide +kernel), List.mem_of_getElem? (i := 788) (by decide +kernel)⟩
theorem lw_p18 : lw_okq (⟨"StrideTurns$Runner", "begin", "(LStrideTurns$Rows;LStrideTurns$Outcome;II)V"⟩, 11) := ⟨⟨by decide +kernel, by decide +kernel⟩, List.mem_of_getElem? (i := 253) (by decide +kernel), List.mem_of_getElem? (i := 831) (by decide +kernel), List.mem_of_getElem? (i := 832) (by decide +kernel)⟩
theorem lw_p19 : lw_okq (⟨"StrideTurns$Runner", "enter", "(II)V"⟩, 11) := ⟨⟨by decide +kernel, by decide +kernel⟩, List.mem_of_getElem? (i := 253) (by decide +kernel), List.mem_of_getElem? (i := 843) (by decide +kernel), List.mem_of_getElem? (i := 844) (by decide +kernel)⟩
theorem lw_p20 : lw_okq (⟨"StrideTurns$Runner", "workerOf", "(I)I"⟩, 11) := ⟨⟨by decide +kernel, by decide +kernel⟩, List.mem_of_getElem? (i := 253) (by decide +kernel), List.mem_of_getElem? (i := 847) (by decide +kernel), List.mem_of_getElem? (i := 848) (by decide +kernel)⟩
theorem lw_p21 : lw_okq (⟨"StrideTurns$Runner", "busyWorkers", "()I"⟩, 11) := ⟨⟨by decide +kernel, by decide +kernel⟩, List.mem_of_getElem? (i := 253) (by decide +kernel), List.mem_of_getElem? (i := 855) (by decide +kernel), List.mem_of_getElem? (i := 856) (by decide +kernel)⟩
theorem lw_p22 : lw_okq (⟨"StrideTurns$Runner", "busyWorker", "(I)I"⟩, 11) := ⟨⟨by decide +kernel, by decide +kernel⟩, List.mem_of_getElem? (i := 253) (by decide +kernel), List.mem_of_getElem? (i := 859) (by decide +kernel), List.mem_of_getElem? (i := 860) (by decide +kernel)⟩
theorem lw_p23 : lw_okq (⟨"StrideTurns$Runner", "step", "(I)V"⟩, 11) := ⟨⟨by decide +kernel, by decide +kernel⟩, List.mem_of_getElem? (i := 253) (by decide +kernel), List.mem_of_getElem? (i := 863) (by decide +kernel), List.mem_of_getElem? (i := 864) (by decide +kernel)⟩
theorem lw_p24 : lw_okq (⟨"StrideTurns$Runner", "doItem", "(LStrideTurns$Statement;II)I"⟩, 11) := ⟨⟨by decide +kernel, by decide +kernel⟩, List.mem_of_getElem? (i := 253) (by decide +kernel), List.mem_of_getElem? (i := 867) (by decide +kernel), List.mem_of_getElem? (i := 868) (by decide +kernel)⟩
theorem lw_p25 : lw_okq (⟨"StrideTurns$Runner", "faultOf", "(LStrideTurns$Statement;II)I"⟩, 11) := ⟨⟨by decide +kernel, by decide +kernel⟩, List.mem_of_getElem? (i := 253) (by decide +kernel), List.mem_of_getElem? (i := 871) (by decide +kernel), List.mem_of_getElem? (i := 872) (by decide +kernel)⟩
theorem lw_p26 : lw_okq (⟨"StrideTurns$Runner", "read", "(LStrideTurns$Statement;III)D"⟩, 11) := ⟨⟨by decide +kernel, by decide +kernel⟩, List.mem_of_getElem? (i := 253) (by decide +kernel), List.mem_of_getElem? (i := 893) (by decide +kernel), List.mem_of_getElem? (i := 894) (by decide +kernel)⟩
theorem lw_p27 : lw_okq (⟨"StrideTurns$Runner", "write", "(LStrideTurns$Reference;IID)V"⟩, 11) := ⟨⟨by decide +kernel, by decide +kernel⟩, List.mem_of_getElem? (i := 253) (by decide +kernel), List.mem_of_getElem? (i := 923) (by decide +kernel), List.mem_of_getElem? (i := 924) (by decide +kernel)⟩
theorem lw_p28 : lw_okq (⟨"StrideTurns$Runner", "goOn", "(ILStrideTurns$Statement;I)V"⟩, 11) := ⟨⟨by decide +kernel, by decide +kernel⟩, List.mem_of_getElem? (i := 253) (by decide +kernel), List.mem_of_getElem? (i := 928) (by decide +kernel), List.mem_of_getElem? (i := 929) (by decide +kernel)⟩
theorem lw_p29 : lw_okq (⟨"StrideTurns$Runner", "copyOut", "()V"⟩, 11) := ⟨⟨by decide +kernel, by decide +kernel⟩, List.mem_of_getElem? (i := 253) (by decide +kernel), List.mem_of_getElem? (i := 936) (by decide +kernel), List.mem_of_getElem? (i := 937) (by decide +kernel)⟩
theorem lw_p30 : lw_okq (⟨"StrideTurns$Runner", "copyOutRow", "(II)V"⟩, 11) := ⟨⟨by decide +kernel, by decide +kernel⟩, List.mem_of_getElem? (i := 253) (by decide +kernel), List.mem_of_getElem? (i := 940) (by decide +kernel), List.mem_of_getElem? (i := 941) (by decide +kernel)⟩
theorem lw_p31 : lw_okq (⟨"StrideTurns", "mixedRefusal", "(IIII)I"⟩, 17) := ⟨⟨by decide +kernel, by decide +kernel⟩, List.mem_of_getElem? (i := 22) (by decide +kernel), List.mem_of_getElem? (i := 948) (by decide +kernel), List.mem_of_getElem? (i := 949) (by decide +kernel)⟩
def lw_privs_2 : List (MethodName × Nat) := [(⟨"StrideTurns$Summary", "isShared", "(I)Z"⟩, 6), (⟨"StrideTurns$Summary", "isGathered", "(II)Z"⟩, 6), (⟨"StrideTurns$Runner", "begin", "(LStrideTurns$Rows;LStrideTurns$Outcome;II)V"⟩, 11), (⟨"StrideTurns$Runner", "enter", "(II)V"⟩, 11), (⟨"StrideTurns$Runner", "workerOf", "(I)I"⟩, 11), (⟨"StrideTurns$Runner", "busyWorkers", "()I"⟩, 11), (⟨"StrideTurns$Runner", "busyWorker", "(I)I"⟩, 11), (⟨"StrideTurns$Runner", "step", "(I)V"⟩, 11), (⟨"StrideTurns$Runner", "doItem", "(LStrideTurns$Statement;II)I"⟩, 11), (⟨"StrideTurns$Runner", "faultOf", "(LStrideTurns$Statement;II)I"⟩, 11), (⟨"StrideTurns$Runner", "read", "(LStrideTurns$Statement;III)D"⟩, 11), (⟨"StrideTurns$Runner", "write", "(LStrideTurns$Reference;IID)V"⟩, 11), (⟨"StrideTurns$Runner", "goOn", "(ILStrideTurns$Statement;I)V"⟩, 11), (⟨"StrideTurns$Runner", "copyOut", "()V"⟩, 11), (⟨"StrideTurns$Runner", "copyOutRow", "(II)V"⟩, 11), (⟨"StrideTurns", "mixedRefusal", "(IIII)I"⟩, 17)]
theorem lw_r2 : ∀ q ∈ lw_privs_2, lw_okq q := List.forall_mem_cons.mpr ⟨lw_p16, List.forall_mem_cons.mpr ⟨lw_p17, List.forall_mem_cons.mpr ⟨lw_p18, List.forall_mem_cons.mpr ⟨lw_p19, List.forall_mem_cons.mpr ⟨lw_p20, List.forall_mem_cons.mpr ⟨lw_p21, List.forall_mem_cons.mpr ⟨lw_p22, List.forall_mem_cons.mpr ⟨lw_p23, List.forall_mem_cons.mpr ⟨lw_p24, List.forall_mem_cons.mpr ⟨lw_p25, List.forall_mem_cons.mpr ⟨lw_p26, List.forall_mem_cons.mpr ⟨lw_p27, List.forall_mem_cons.mpr ⟨lw_p28, List.forall_mem_cons.mpr ⟨lw_p29, List.forall_mem_cons.mpr ⟨lw_p30, List.forall_mem_cons.mpr ⟨lw_p31, fun _ h => absurd h List.not_mem_nil⟩⟩⟩⟩⟩⟩⟩⟩⟩⟩⟩⟩⟩⟩⟩⟩
theorem lw_p32 : lw_okq (⟨"StrideTurns", "serialRows", "()I"⟩, 17) := ⟨⟨by decide +kernel, by decide +kernel⟩, List.mem_of_getElem? (i := 22) (by decide +kernel), List.mem_of_getElem? (i := 952) (by decide +kernel), List.mem_of_getElem? (i := 953) (by decide +kernel)⟩
theorem lw_p33 : lw_okq (⟨"StrideTurns", "withStatement", "(JI)J"⟩, 17) := ⟨⟨by decide +kernel, by decide +kernel⟩, List.mem_of_getElem? (i := 22) (by decide +kernel), List.mem_of_getElem? (i := 1007) (by decide +kernel), List.mem_of_getElem? (i := 1008) (by decide +kernel)⟩
theorem lw_p34 : lw_okq (⟨"StrideTurns", "withReference", "(JII)J"⟩, 17) := ⟨⟨by decide +kernel, by decide +kernel⟩, List.mem_of_getElem? (i := 22) (by decide +kernel), List.mem_of_getElem? (i := 1012) (by decide +kernel), List.mem_of_getElem? (i := 1013) (by decide +kernel)⟩
theorem lw_p35 : lw_okq (⟨"StrideTurns", "withSets", "(JI)J"⟩, 17) := ⟨⟨by decide +kernel, by decide +kernel⟩, List.mem_of_getElem? (i := 22) (by decide +kernel), List.mem_of_getElem? (i := 1019) (by decide +kernel), List.mem_of_getElem? (i := 1020) (by decide +kernel)⟩
theorem lw_p36 : lw_okq (⟨"StrideTurns", "withCells", "(JI)J"⟩, 17) := ⟨⟨by decide +kernel, by decide +kernel⟩, List.mem_of_getElem? (i := 22) (by decide +kernel), List.mem_of_getElem? (i := 1027) (by decide +kernel), List.mem_of_getElem? (i := 1028) (by decide +kernel)⟩
theorem lw_p37 : lw_okq (⟨"StrideTurnsModel", "meets", "(I)I"⟩, 47) := ⟨⟨by decide +kernel, by decide +kernel⟩, List.mem_of_getElem? (i := 1036) (by decide +kernel), List.mem_of_getElem? (i := 1195) (by decide +kernel), List.mem_of_getElem? (i := 1196) (by decide +kernel)⟩
theorem lw_p38 : lw_okq (⟨"StrideTurnsModel", "lacks", "(II)I"⟩, 47) := ⟨⟨by decide +kernel, by decide +kernel⟩, List.mem_of_getElem? (i := 1036) (by decide +kernel), List.mem_of_getElem? (i := 1217) (by decide +kernel), List.mem_of_getElem? (i := 1218) (by decide +kernel)⟩
theorem lw_p39 : lw_okq (⟨"StrideTurnsModel", "toldOf", "(I)J"⟩, 47) := ⟨⟨by decide +kernel, by decide +kernel⟩, List.mem_of_getElem? (i := 1036) (by decide +kernel), List.mem_of_getElem? (i := 1221) (by decide +kernel), List.mem_of_getElem? (i := 1222) (by decide +kernel)⟩
theorem lw_p40 : lw_okq (⟨"StrideTurnsModel", "logs", "(IIIII)V"⟩, 47) := ⟨⟨by decide +kernel, by decide +kernel⟩, List.mem_of_getElem? (i := 1036) (by decide +kernel), List.mem_of_getElem? (i := 1238) (by decide +kernel), List.mem_of_getElem? (i := 1239) (by decide +kernel)⟩
theorem lw_p41 : lw_okq (⟨"StrideTurnsModel", "isName", "(I)Z"⟩, 47) := ⟨⟨by decide +kernel, by decide +kernel⟩, List.mem_of_getElem? (i := 1036) (by decide +kernel), List.mem_of_getElem? (i := 1254) (by decide +kernel), List.mem_of_getElem? (i := 1255) (by decide +kernel)⟩
theorem lw_p42 : lw_okq (⟨"StrideTurnsModel", "isTyped", "(IIIII)Z"⟩, 47) := ⟨⟨by decide +kernel, by decide +kernel⟩, List.mem_of_getElem? (i := 1036) (by decide +kernel), List.mem_of_getElem? (i := 1258) (by decide +kernel), List.mem_of_getElem? (i := 1259) (by decide +kernel)⟩
theorem lw_p43 : lw_okq (⟨"StrideTurnsModel", "isStatement", "(I)Z"⟩, 47) := ⟨⟨by decide +kernel, by decide +kernel⟩, List.mem_of_getElem? (i := 1036) (by decide +kernel), List.mem_of_getElem? (i := 1266) (by decide +kernel), List.mem_of_getElem? (i := 1267) (by decide +kernel)⟩
theorem lw_p44 : lw_okq (⟨"StrideTurnsModel", "infoOf", "(II)I"⟩, 47) := ⟨⟨by decide +kernel, by decide +kernel⟩, List.mem_of_getElem? (i := 1036) (by decide +kernel), List.mem_of_getElem? (i := 1290) (by decide +kernel), List.mem_of_getElem? (i := 1291) (by decide +kernel)⟩
theorem lw_p45 : lw_okq (⟨"StrideTurnsModel", "familyAs", "(III)I"⟩, 47) := ⟨⟨by decide +kernel, by decide +kernel⟩, List.mem_of_getElem? (i := 1036) (by decide +kernel), List.mem_of_getElem? (i := 1294) (by decide +kernel), List.mem_of_getElem? (i := 1295) (by decide +kernel)⟩
theorem lw_p46 : lw_okq (⟨"StrideTurnsModel", "formAs", "(III)I"⟩, 47) := ⟨⟨by decide +kernel, by decide +kernel⟩, List.mem_of_getElem? (i := 1036) (by decide +kernel), List.mem_of_getElem? (i := 1298) (by decide +kernel), List.mem_of_getElem? (i := 1299) (by decide +kernel)⟩
theorem lw_p47 : lw_okq (⟨"StrideTurnsModel", "doneMany", "(I)I"⟩, 47) := ⟨⟨by decide +kernel, by decide +kernel⟩, List.mem_of_getElem? (i := 1036) (by decide +kernel), List.mem_of_getElem? (i := 1305) (by decide +kernel), List.mem_of_getElem? (i := 1306) (by decide +kernel)⟩
def lw_privs_3 : List (MethodName × Nat) := [(⟨"StrideTurns", "serialRows", "()I"⟩, 17), (⟨"StrideTurns", "withStatement", "(JI)J"⟩, 17), (⟨"StrideTurns", "withReference", "(JII)J"⟩, 17), (⟨"StrideTurns", "withSets", "(JI)J"⟩, 17), (⟨"StrideTurns", "withCells", "(JI)J"⟩, 17), (⟨"StrideTurnsModel", "meets", "(I)I"⟩, 47), (⟨"StrideTurnsModel", "lacks", "(II)I"⟩, 47), (⟨"StrideTurnsModel", "toldOf", "(I)J"⟩, 47), (⟨"StrideTurnsModel", "logs", "(IIIII)V"⟩, 47), (⟨"StrideTurnsModel", "isName", "(I)Z"⟩, 47), (⟨"StrideTurnsModel", "isTyped", "(IIIII)Z"⟩, 47), (⟨"StrideTurnsModel", "isStatement", "(I)Z"⟩, 47), (⟨"StrideTurnsModel", "infoOf", "(II)I"⟩, 47), (⟨"StrideTurnsModel", "familyAs", "(III)I"⟩, 47), (⟨"StrideTurnsModel", "formAs", "(III)I"⟩, 47), (⟨"StrideTurnsModel", "doneMany", "(I)I"⟩, 47)]
theorem lw_r3 : ∀ q ∈ lw_privs_3, lw_okq q := List.forall_mem_cons.mpr ⟨lw_p32, List.forall_mem_cons.mpr ⟨lw_p33, List.forall_mem_cons.mpr ⟨lw_p34, List.forall_mem_cons.mpr ⟨lw_p35, List.forall_mem_cons.mpr ⟨lw_p36, List.forall_mem_cons.mpr ⟨lw_p37, List.forall_mem_cons.mpr ⟨lw_p38, List.forall_mem_cons.mpr ⟨lw_p39, List.forall_mem_cons.mpr ⟨lw_p40, List.forall_mem_cons.mpr ⟨lw_p41, List.forall_mem_cons.mpr ⟨lw_p42, List.forall_mem_cons.mpr ⟨lw_p43, List.forall_mem_cons.mpr ⟨lw_p44, List.forall_mem_cons.mpr ⟨lw_p45, List.forall_mem_cons.mpr ⟨lw_p46, List.forall_mem_cons.mpr ⟨lw_p47, fun _ h => absurd h List.not_mem_nil⟩⟩⟩⟩⟩⟩⟩⟩⟩⟩⟩⟩⟩⟩⟩⟩
theorem lw_p48 : lw_okq (⟨"StrideTurnsModel", "isDone", "(II)Z"⟩, 47) := ⟨⟨by decide +kernel, by decide +kernel⟩, List.mem_of_getElem? (i := 1036) (by decide +kernel), List.mem_of_getElem? (i := 1309) (by decide +kernel), List.mem_of_getElem? (i := 1310) (by decide +kernel)⟩
theorem lw_p49 : lw_okq (⟨"StrideTurnsModel", "referenceOf", "(II)I"⟩, 47) := ⟨⟨by decide +kernel, by decide +kernel⟩, List.mem_of_getElem? (i := 1036) (by decide +kernel), List.mem_of_getElem? (i := 1317) (by decide +kernel), List.mem_of_getElem? (i := 1318) (by decide +kernel)⟩
theorem lw_p50 : lw_okq (⟨"StrideTurnsModel", "isSection", "(II)Z"⟩, 47) := ⟨⟨by decide +kernel, by decide +kernel⟩, List.mem_of_getElem? (i := 1036) (by decide +kernel), List.mem_of_getElem? (i := 1325) (by decide +kernel), List.mem_of_getElem? (i := 1326) (by decide +kernel)⟩
theorem lw_p51 : lw_okq (⟨"StrideTurnsModel", "sectionOf", "(III)I"⟩, 47) := ⟨⟨by decide +kernel, by decide +kernel⟩, List.mem_of_getElem? (i := 1036) (by decide +kernel), List.mem_of_getElem? (i := 1329) (by decide +kernel), List.mem_of_getElem? (i := 1330) (by decide +kernel)⟩
theorem lw_p52 : lw_okq (⟨"StrideTurnsModel", "firstOf", "(II)I"⟩, 47) := ⟨⟨by decide +kernel, by decide +kernel⟩, List.mem_of_getElem? (i := 1036) (by decide +kernel), List.mem_of_getElem? (i := 1333) (by decide +kernel), List.mem_of_getElem? (i := 1334) (by decide +kernel)⟩
theorem lw_p53 : lw_okq (⟨"StrideTurnsModel", "placeOf", "(III)I"⟩, 47) := ⟨⟨by decide +kernel, by decide +kernel⟩, List.mem_of_getElem? (i := 1036) (by decide +kernel), List.mem_of_getElem? (i := 1337) (by decide +kernel), List.mem_of_getElem? (i := 1338) (by decide +kernel)⟩
theorem lw_p54 : lw_okq (⟨"StrideTurnsModel", "strideOf", "(I)I"⟩, 47) := ⟨⟨by decide +kernel, by decide +kernel⟩, List.mem_of_getElem? (i := 1036) (by decide +kernel), List.mem_of_getElem? (i := 1341) (by decide +kernel), List.mem_of_getElem? (i := 1342) (by decide +kernel)⟩
theorem lw_p55 : lw_okq (⟨"StrideTurnsModel", "manyOf", "(I)I"⟩, 47) := ⟨⟨by decide +kernel, by decide +kernel⟩, List.mem_of_getElem? (i := 1036) (by decide +kernel), List.mem_of_getElem? (i := 1345) (by decide +kernel), List.mem_of_getElem? (i := 1346) (by decide +kernel)⟩
theorem lw_p56 : lw_okq (⟨"StrideTurnsModel", "meetOf", "(IIIII)I"⟩, 47) := ⟨⟨by decide +kernel, by decide +kernel⟩, List.mem_of_getElem? (i := 1036) (by decide +kernel), List.mem_of_getElem? (i := 1353) (by decide +kernel), List.mem_of_getElem? (i := 1354) (by decide +kernel)⟩
theorem lw_p57 : lw_okq (⟨"StrideTurnsModel", "hasPlace", "(III)Z"⟩, 47) := ⟨⟨by decide +kernel, by decide +kernel⟩, List.mem_of_getElem? (i := 1036) (by decide +kernel), List.mem_of_getElem? (i := 1357) (by decide +kernel), List.mem_of_getElem? (i := 1358) (by decide +kernel)⟩
theorem lw_p58 : lw_okq (⟨"StrideTurnsModel", "findsKinds", "(II)I"⟩, 47) := ⟨⟨by decide +kernel, by decide +kernel⟩, List.mem_of_getElem? (i := 1036) (by decide +kernel), List.mem_of_getElem? (i := 1365) (by decide +kernel), List.mem_of_getElem? (i := 1366) (by decide +kernel)⟩
theorem lw_p59 : lw_okq (⟨"StrideTurnsModel", "addsIf", "(III)V"⟩, 47) := ⟨⟨by decide +kernel, by decide +kernel⟩, List.mem_of_getElem? (i := 1036) (by decide +kernel), List.mem_of_getElem? (i := 1369) (by decide +kernel), List.mem_of_getElem? (i := 1370) (by decide +kernel)⟩
theorem lw_p60 : lw_okq (⟨"StrideTurnsModel", "isLooked", "(I)Z"⟩, 47) := ⟨⟨by decide +kernel, by decide +kernel⟩, List.mem_of_getElem? (i := 1036) (by decide +kernel), List.mem_of_getElem? (i := 1373) (by decide +kernel), List.mem_of_getElem? (i := 1374) (by decide +kernel)⟩
theorem lw_p61 : lw_okq (⟨"StrideTurnsModel", "addsKind", "(II)V"⟩, 47) := ⟨⟨by decide +kernel, by decide +kernel⟩, List.mem_of_getElem? (i := 1036) (by decide +kernel), List.mem_of_getElem? (i := 1377) (by decide +kernel), List.mem_of_getElem? (i := 1378) (by decide +kernel)⟩
theorem lw_p62 : lw_okq (⟨"StrideTurnsModel", "isSet", "(III)Z"⟩, 47) := ⟨⟨by decide +kernel, by decide +kernel⟩, List.mem_of_getElem? (i := 1036) (by decide +kernel), List.mem_of_getElem? (i := 1389) (by decide +kernel), List.mem_of_getElem? (i := 1390) (by decide +kernel)⟩
theorem lw_p63 : lw_okq (⟨"StrideTurnsModel", "bitsOfSet", "(III)I"⟩, 47) := ⟨⟨by decide +kernel, by decide +kernel⟩, List.mem_of_getElem? (i := 1036) (by decide +kernel), List.mem_of_getElem? (i := 1393) (by decide +kernel), List.mem_of_getElem? (i := 1394) (by decide +kernel)⟩
def lw_privs_4 : List (MethodName × Nat) := [(⟨"StrideTurnsModel", "isDone", "(II)Z"⟩, 47), (⟨"StrideTurnsModel", "referenceOf", "(II)I"⟩, 47), (⟨"StrideTurnsModel", "isSection", "(II)Z"⟩, 47), (⟨"StrideTurnsModel", "sectionOf", "(III)I"⟩, 47), (⟨"StrideTurnsModel", "firstOf", "(II)I"⟩, 47), (⟨"StrideTurnsModel", "placeOf", "(III)I"⟩, 47), (⟨"StrideTurnsModel", "strideOf", "(I)I"⟩, 47), (⟨"StrideTurnsModel", "manyOf", "(I)I"⟩, 47), (⟨"StrideTurnsModel", "meetOf", "(IIIII)I"⟩, 47), (⟨"StrideTurnsModel", "hasPlace", "(III)Z"⟩, 47), (⟨"StrideTurnsModel", "findsKinds", "(II)I"⟩, 47), (⟨"StrideTurnsModel", "addsIf", "(III)V"⟩, 47), (⟨"StrideTurnsModel", "isLooked", "(I)Z"⟩, 47), (⟨"StrideTurnsModel", "addsKind", "(II)V"⟩, 47), (⟨"StrideTurnsModel", "isSet", "(III)Z"⟩, 47), (⟨"StrideTurnsModel", "bitsOfSet", "(III)I"⟩, 47)]
theorem lw_r4 : ∀ q ∈ lw_privs_4, lw_okq q := List.forall_mem_cons.mpr ⟨lw_p48, List.forall_mem_cons.mpr ⟨lw_p49, List.forall_mem_cons.mpr ⟨lw_p50, List.forall_mem_cons.mpr ⟨lw_p51, List.forall_mem_cons.mpr ⟨lw_p52, List.forall_mem_cons.mpr ⟨lw_p53, List.forall_mem_cons.mpr ⟨lw_p54, List.forall_mem_cons.mpr ⟨lw_p55, List.forall_mem_cons.mpr ⟨lw_p56, List.forall_mem_cons.mpr ⟨lw_p57, List.forall_mem_cons.mpr ⟨lw_p58, List.forall_mem_cons.mpr ⟨lw_p59, List.forall_mem_cons.mpr ⟨lw_p60, List.forall_mem_cons.mpr ⟨lw_p61, List.forall_mem_cons.mpr ⟨lw_p62, List.forall_mem_cons.mpr ⟨lw_p63, fun _ h => absurd h List.not_mem_nil⟩⟩⟩⟩⟩⟩⟩⟩⟩⟩⟩⟩⟩⟩⟩⟩
theorem lw_p64 : lw_okq (⟨"StrideTurnsModel", "findsSets", "()V"⟩, 47) := ⟨⟨by decide +kernel, by decide +kernel⟩, List.mem_of_getElem? (i := 1036) (by decide +kernel), List.mem_of_getElem? (i := 1397) (by decide +kernel), List.mem_of_getElem? (i := 1398) (by decide +kernel)⟩
theorem lw_p65 : lw_okq (⟨"StrideTurnsModel", "findsTurn", "(I)V"⟩, 47) := ⟨⟨by decide +kernel, by decide +kernel⟩, List.mem_of_getElem? (i := 1036) (by decide +kernel), List.mem_of_getElem? (i := 1401) (by decide +kernel), List.mem_of_getElem? (i := 1402) (by decide +kernel)⟩
theorem lw_p66 : lw_okq (⟨"StrideTurnsModel", "knows", "(III)Z"⟩, 47) := ⟨⟨by decide +kernel, by decide +kernel⟩, List.mem_of_getElem? (i := 1036) (by decide +kernel), List.mem_of_getElem? (i := 1405) (by decide +kernel), List.mem_of_getElem? (i := 1406) (by decide +kernel)⟩
theorem lw_p67 : lw_okq (⟨"StrideTurnsModel", "reads", "(III)Z"⟩, 47) := ⟨⟨by decide +kernel, by decide +kernel⟩, List.mem_of_getElem? (i := 1036) (by decide +kernel), List.mem_of_getElem? (i := 1409) (by decide +kernel), List.mem_of_getElem? (i := 1410) (by decide +kernel)⟩
theorem lw_p68 : lw_okq (⟨"StrideTurnsModel", "bitAt", "(III)I"⟩, 47) := ⟨⟨by decide +kernel, by decide +kernel⟩, List.mem_of_getElem? (i := 1036) (by decide +kernel), List.mem_of_getElem? (i := 1413) (by decide +kernel), List.mem_of_getElem? (i := 1414) (by decide +kernel)⟩
theorem lw_p69 : lw_okq (⟨"StrideTurnsModel", "bitsOfTurn", "(III)I"⟩, 47) := ⟨⟨by decide +kernel, by decide +kernel⟩, List.mem_of_getElem? (i := 1036) (by decide +kernel), List.mem_of_getElem? (i := 1417) (by decide +kernel), List.mem_of_getElem? (i := 1418) (by decide +kernel)⟩
theorem lw_p70 : lw_okq (⟨"StrideTurnsModel", "piecesOf", "(I)I"⟩, 47) := ⟨⟨by decide +kernel, by decide +kernel⟩, List.mem_of_getElem? (i := 1036) (by decide +kernel), List.mem_of_getElem? (i := 1428) (by decide +kernel), List.mem_of_getElem? (i := 1429) (by decide +kernel)⟩
theorem lw_p71 : lw_okq (⟨"StrideTurnsModel", "without", "(I)I"⟩, 47) := ⟨⟨by decide +kernel, by decide +kernel⟩, List.mem_of_getElem? (i := 1036) (by decide +kernel), List.mem_of_getElem? (i := 1432) (by decide +kernel), List.mem_of_getElem? (i := 1433) (by decide +kernel)⟩
theorem lw_p72 : lw_okq (⟨"StrideTurnsModel", "pieceOf", "(III)I"⟩, 47) := ⟨⟨by decide +kernel, by decide +kernel⟩, List.mem_of_getElem? (i := 1036) (by decide +kernel), List.mem_of_getElem? (i := 1443) (by decide +kernel), List.mem_of_getElem? (i := 1444) (by decide +kernel)⟩
theorem lw_p73 : lw_okq (⟨"StrideTurnsModel", "verdictOf", "(I)I"⟩, 47) := ⟨⟨by decide +kernel, by decide +kernel⟩, List.mem_of_getElem? (i := 1036) (by decide +kernel), List.mem_of_getElem? (i := 1451) (by decide +kernel), List.mem_of_getElem? (i := 1452) (by decide +kernel)⟩
theorem lw_p74 : lw_okq (⟨"StrideTurnsModel", "verdictAs", "(III)I"⟩, 47) := ⟨⟨by decide +kernel, by decide +kernel⟩, List.mem_of_getElem? (i := 1036) (by decide +kernel), List.mem_of_getElem? (i := 1455) (by decide +kernel), List.mem_of_getElem? (i := 1456) (by decide +kernel)⟩
theorem lw_p75 : lw_okq (⟨"StrideTurnsModel", "isWritten", "(I)Z"⟩, 47) := ⟨⟨by decide +kernel, by decide +kernel⟩, List.mem_of_getElem? (i := 1036) (by decide +kernel), List.mem_of_getElem? (i := 1459) (by decide +kernel), List.mem_of_getElem? (i := 1460) (by decide +kernel)⟩
theorem lw_p76 : lw_okq (⟨"StrideTurnsModel", "isShared", "(I)Z"⟩, 47) := ⟨⟨by decide +kernel, by decide +kernel⟩, List.mem_of_getElem? (i := 1036) (by decide +kernel), List.mem_of_getElem? (i := 1463) (by decide +kernel), List.mem_of_getElem? (i := 1464) (by decide +kernel)⟩
theorem lw_p77 : lw_okq (⟨"StrideTurnsModel", "isGathered", "(III)Z"⟩, 47) := ⟨⟨by decide +kernel, by decide +kernel⟩, List.mem_of_getElem? (i := 1036) (by decide +kernel), List.mem_of_getElem? (i := 1467) (by decide +kernel), List.mem_of_getElem? (i := 1468) (by decide +kernel)⟩
theorem lw_p78 : lw_okq (⟨"StrideTurnsModel", "isAbout", "(II)Z"⟩, 47) := ⟨⟨by decide +kernel, by decide +kernel⟩, List.mem_of_getElem? (i := 1036) (by decide +kernel), List.mem_of_getElem? (i := 1471) (by decide +kernel), List.mem_of_getElem? (i := 1472) (by decide +kernel)⟩
theorem lw_p79 : lw_okq (⟨"StrideTurnsModel", "isCopied", "(I)Z"⟩, 47) := ⟨⟨by decide +kernel, by decide +kernel⟩, List.mem_of_getElem? (i := 1036) (by decide +kernel), List.mem_of_getElem? (i := 1475) (by decide +kernel), List.mem_of_getElem? (i := 1476) (by decide +kernel)⟩
def lw_privs_5 : List (MethodName × Nat) := [(⟨"StrideTurnsModel", "findsSets", "()V"⟩, 47), (⟨"StrideTurnsModel", "findsTurn", "(I)V"⟩, 47), (⟨"StrideTurnsModel", "knows", "(III)Z"⟩, 47), (⟨"StrideTurnsModel", "reads", "(III)Z"⟩, 47), (⟨"StrideTurnsModel", "bitAt", "(III)I"⟩, 47), (⟨"StrideTurnsModel", "bitsOfTurn", "(III)I"⟩, 47), (⟨"StrideTurnsModel", "piecesOf", "(I)I"⟩, 47), (⟨"StrideTurnsModel", "without", "(I)I"⟩, 47), (⟨"StrideTurnsModel", "pieceOf", "(III)I"⟩, 47), (⟨"StrideTurnsModel", "verdictOf", "(I)I"⟩, 47), (⟨"StrideTurnsModel", "verdictAs", "(III)I"⟩, 47), (⟨"StrideTurnsModel", "isWritten", "(I)Z"⟩, 47), (⟨"StrideTurnsModel", "isShared", "(I)Z"⟩, 47), (⟨"StrideTurnsModel", "isGathered", "(III)Z"⟩, 47), (⟨"StrideTurnsModel", "isAbout", "(II)Z"⟩, 47), (⟨"StrideTurnsModel", "isCopied", "(I)Z"⟩, 47)]
theorem lw_r5 : ∀ q ∈ lw_privs_5, lw_okq q := List.forall_mem_cons.mpr ⟨lw_p64, List.forall_mem_cons.mpr ⟨lw_p65, List.forall_mem_cons.mpr ⟨lw_p66, List.forall_mem_cons.mpr ⟨lw_p67, List.forall_mem_cons.mpr ⟨lw_p68, List.forall_mem_cons.mpr ⟨lw_p69, List.forall_mem_cons.mpr ⟨lw_p70, List.forall_mem_cons.mpr ⟨lw_p71, List.forall_mem_cons.mpr ⟨lw_p72, List.forall_mem_cons.mpr ⟨lw_p73, List.forall_mem_cons.mpr ⟨lw_p74, List.forall_mem_cons.mpr ⟨lw_p75, List.forall_mem_cons.mpr ⟨lw_p76, List.forall_mem_cons.mpr ⟨lw_p77, List.forall_mem_cons.mpr ⟨lw_p78, List.forall_mem_cons.mpr ⟨lw_p79, fun _ h => absurd h List.not_mem_nil⟩⟩⟩⟩⟩⟩⟩⟩⟩⟩⟩⟩⟩⟩⟩⟩
theorem lw_p80 : lw_okq (⟨"StrideTurnsModel", "witnessOf", "(II)I"⟩, 47) := ⟨⟨by decide +kernel, by decide +kernel⟩, List.mem_of_getElem? (i := 1036) (by decide +kernel), List.mem_of_getElem? (i := 1487) (by decide +kernel), List.mem_of_getElem? (i := 1488) (by decide +kernel)⟩
theorem lw_p81 : lw_okq (⟨"StrideTurnsModel", "lastOf", "(III)I"⟩, 47) := ⟨⟨by decide +kernel, by decide +kernel⟩, List.mem_of_getElem? (i := 1036) (by decide +kernel), List.mem_of_getElem? (i := 1495) (by decide +kernel), List.mem_of_getElem? (i := 1496) (by decide +kernel)⟩
theorem lw_p82 : lw_okq (⟨"StrideTurnsModel", "runNow", "()I"⟩, 47) := ⟨⟨by decide +kernel, by decide +kernel⟩, List.mem_of_getElem? (i := 1036) (by decide +kernel), List.mem_of_getElem? (i := 1503) (by decide +kernel), List.mem_of_getElem? (i := 1504) (by decide +kernel)⟩
theorem lw_p83 : lw_okq (⟨"StrideTurnsModel", "begins", "()V"⟩, 47) := ⟨⟨by decide +kernel, by decide +kernel⟩, List.mem_of_getElem? (i := 1036) (by decide +kernel), List.mem_of_getElem? (i := 1507) (by decide +kernel), List.mem_of_getElem? (i := 1508) (by decide +kernel)⟩
theorem lw_p84 : lw_okq (⟨"StrideTurnsModel", "firstFrom", "(II)I"⟩, 47) := ⟨⟨by decide +kernel, by decide +kernel⟩, List.mem_of_getElem? (i := 1036) (by decide +kernel), List.mem_of_getElem? (i := 1511) (by decide +kernel), List.mem_of_getElem? (i := 1512) (by decide +kernel)⟩
theorem lw_p85 : lw_okq (⟨"StrideTurnsModel", "steps", "(I)V"⟩, 47) := ⟨⟨by decide +kernel, by decide +kernel⟩, List.mem_of_getElem? (i := 1036) (by decide +kernel), List.mem_of_getElem? (i := 1515) (by decide +kernel), List.mem_of_getElem? (i := 1516) (by decide +kernel)⟩
theorem lw_p86 : lw_okq (⟨"StrideTurnsModel", "item", "(III)Z"⟩, 47) := ⟨⟨by decide +kernel, by decide +kernel⟩, List.mem_of_getElem? (i := 1036) (by decide +kernel), List.mem_of_getElem? (i := 1519) (by decide +kernel), List.mem_of_getElem? (i := 1520) (by decide +kernel)⟩
theorem lw_p87 : lw_okq (⟨"StrideTurnsModel", "read", "(III)D"⟩, 47) := ⟨⟨by decide +kernel, by decide +kernel⟩, List.mem_of_getElem? (i := 1036) (by decide +kernel), List.mem_of_getElem? (i := 1523) (by decide +kernel), List.mem_of_getElem? (i := 1524) (by decide +kernel)⟩
theorem lw_p88 : lw_okq (⟨"StrideTurnsModel", "lacksPlace", "(III)I"⟩, 47) := ⟨⟨by decide +kernel, by decide +kernel⟩, List.mem_of_getElem? (i := 1036) (by decide +kernel), List.mem_of_getElem? (i := 1527) (by decide +kernel), List.mem_of_getElem? (i := 1528) (by decide +kernel)⟩
theorem lw_p89 : lw_okq (⟨"StrideTurnsModel", "does", "(IDD)D"⟩, 47) := ⟨⟨by decide +kernel, by decide +kernel⟩, List.mem_of_getElem? (i := 1036) (by decide +kernel), List.mem_of_getElem? (i := 1531) (by decide +kernel), List.mem_of_getElem? (i := 1532) (by decide +kernel)⟩
theorem lw_p90 : lw_okq (⟨"StrideTurnsModel", "widthOf", "(I)I"⟩, 47) := ⟨⟨by decide +kernel, by decide +kernel⟩, List.mem_of_getElem? (i := 1036) (by decide +kernel), List.mem_of_getElem? (i := 1535) (by decide +kernel), List.mem_of_getElem? (i := 1536) (by decide +kernel)⟩
theorem lw_p91 : lw_okq (⟨"StrideTurnsModel", "formBy", "(I)I"⟩, 47) := ⟨⟨by decide +kernel, by decide +kernel⟩, List.mem_of_getElem? (i := 1036) (by decide +kernel), List.mem_of_getElem? (i := 1539) (by decide +kernel), List.mem_of_getElem? (i := 1540) (by decide +kernel)⟩
theorem lw_p92 : lw_okq (⟨"StrideTurnsModel", "byInts", "(III)I"⟩, 47) := ⟨⟨by decide +kernel, by decide +kernel⟩, List.mem_of_getElem? (i := 1036) (by decide +kernel), List.mem_of_getElem? (i := 1543) (by decide +kernel), List.mem_of_getElem? (i := 1544) (by decide +kernel)⟩
theorem lw_p93 : lw_okq (⟨"StrideTurnsModel", "byFloats", "(IFF)F"⟩, 47) := ⟨⟨by decide +kernel, by decide +kernel⟩, List.mem_of_getElem? (i := 1036) (by decide +kernel), List.mem_of_getElem? (i := 1552) (by decide +kernel), List.mem_of_getElem? (i := 1553) (by decide +kernel)⟩
theorem lw_p94 : lw_okq (⟨"StrideTurnsModel", "byDoubles", "(IDD)D"⟩, 47) := ⟨⟨by decide +kernel, by decide +kernel⟩, List.mem_of_getElem? (i := 1036) (by decide +kernel), List.mem_of_getElem? (i := 1560) (by decide +kernel), List.mem_of_getElem? (i := 1561) (by decide +kernel)⟩
theorem lw_p95 : lw_okq (⟨"StrideTurnsModel", "writes", "(IID)V"⟩, 47) := ⟨⟨by decide +kernel, by decide +kernel⟩, List.mem_of_getElem? (i := 1036) (by decide +kernel), List.mem_of_getElem? (i := 1568) (by decide +kernel), List.mem_of_getElem? (i := 1569) (by decide +kernel)⟩
def lw_privs_6 : List (MethodName × Nat) := [(⟨"StrideTurnsModel", "witnessOf", "(II)I"⟩, 47), (⟨"StrideTurnsModel", "lastOf", "(III)I"⟩, 47), (⟨"StrideTurnsModel", "runNow", "()I"⟩, 47), (⟨"StrideTurnsModel", "begins", "()V"⟩, 47), (⟨"StrideTurnsModel", "firstFrom", "(II)I"⟩, 47), (⟨"StrideTurnsModel", "steps", "(I)V"⟩, 47), (⟨"StrideTurnsModel", "item", "(III)Z"⟩, 47), (⟨"StrideTurnsModel", "read", "(III)D"⟩, 47), (⟨"StrideTurnsModel", "lacksPlace", "(III)I"⟩, 47), (⟨"StrideTurnsModel", "does", "(IDD)D"⟩, 47), (⟨"StrideTurnsModel", "widthOf", "(I)I"⟩, 47), (⟨"StrideTurnsModel", "formBy", "(I)I"⟩, 47), (⟨"StrideTurnsModel", "byInts", "(III)I"⟩, 47), (⟨"StrideTurnsModel", "byFloats", "(IFF)F"⟩, 47), (⟨"StrideTurnsModel", "byDoubles", "(IDD)D"⟩, 47), (⟨"StrideTurnsModel", "writes", "(IID)V"⟩, 47)]
theorem lw_r6 : ∀ q ∈ lw_privs_6, lw_okq q := List.forall_mem_cons.mpr ⟨lw_p80, List.forall_mem_cons.mpr ⟨lw_p81, List.forall_mem_cons.mpr ⟨lw_p82, List.forall_mem_cons.mpr ⟨lw_p83, List.forall_mem_cons.mpr ⟨lw_p84, List.forall_mem_cons.mpr ⟨lw_p85, List.forall_mem_cons.mpr ⟨lw_p86, List.forall_mem_cons.mpr ⟨lw_p87, List.forall_mem_cons.mpr ⟨lw_p88, List.forall_mem_cons.mpr ⟨lw_p89, List.forall_mem_cons.mpr ⟨lw_p90, List.forall_mem_cons.mpr ⟨lw_p91, List.forall_mem_cons.mpr ⟨lw_p92, List.forall_mem_cons.mpr ⟨lw_p93, List.forall_mem_cons.mpr ⟨lw_p94, List.forall_mem_cons.mpr ⟨lw_p95, fun _ h => absurd h List.not_mem_nil⟩⟩⟩⟩⟩⟩⟩⟩⟩⟩⟩⟩⟩⟩⟩⟩
theorem lw_p96 : lw_okq (⟨"StrideTurnsModel", "mayMix", "(IIII)I"⟩, 47) := ⟨⟨by decide +kernel, by decide +kernel⟩, List.mem_of_getElem? (i := 1036) (by decide +kernel), List.mem_of_getElem? (i := 1576) (by decide +kernel), List.mem_of_getElem? (i := 1577) (by decide +kernel)⟩
theorem lw_p97 : lw_okq (⟨"StrideTurnsModel", "serials", "()I"⟩, 47) := ⟨⟨by decide +kernel, by decide +kernel⟩, List.mem_of_getElem? (i := 1036) (by decide +kernel), List.mem_of_getElem? (i := 1580) (by decide +kernel), List.mem_of_getElem? (i := 1581) (by decide +kernel)⟩
theorem lw_p98 : lw_okq (⟨"StrideTurnsModel", "mixes", "(III)I"⟩, 47) := ⟨⟨by decide +kernel, by decide +kernel⟩, List.mem_of_getElem? (i := 1036) (by decide +kernel), List.mem_of_getElem? (i := 1584) (by decide +kernel), List.mem_of_getElem? (i := 1585) (by decide +kernel)⟩
theorem lw_p99 : lw_okq (⟨"StrideTurnsModel", "left", "(II)I"⟩, 47) := ⟨⟨by decide +kernel, by decide +kernel⟩, List.mem_of_getElem? (i := 1036) (by decide +kernel), List.mem_of_getElem? (i := 1588) (by decide +kernel), List.mem_of_getElem? (i := 1589) (by decide +kernel)⟩
theorem lw_p100 : lw_okq (⟨"StrideTurnsModel", "turnOf", "(III)I"⟩, 47) := ⟨⟨by decide +kernel, by decide +kernel⟩, List.mem_of_getElem? (i := 1036) (by decide +kernel), List.mem_of_getElem? (i := 1592) (by decide +kernel), List.mem_of_getElem? (i := 1593) (by decide +kernel)⟩
theorem lw_p101 : lw_okq (⟨"StrideTurnsModel", "copiesOut", "()V"⟩, 47) := ⟨⟨by decide +kernel, by decide +kernel⟩, List.mem_of_getElem? (i := 1036) (by decide +kernel), List.mem_of_getElem? (i := 1596) (by decide +kernel), List.mem_of_getElem? (i := 1597) (by decide +kernel)⟩
theorem lw_p102 : lw_okq (⟨"StrideTurnsModel", "sameNow", "(III)I"⟩, 47) := ⟨⟨by decide +kernel, by decide +kernel⟩, List.mem_of_getElem? (i := 1036) (by decide +kernel), List.mem_of_getElem? (i := 1604) (by decide +kernel), List.mem_of_getElem? (i := 1605) (by decide +kernel)⟩
theorem lw_p103 : lw_okq (⟨"StrideTurnsModel", "missing", "()I"⟩, 47) := ⟨⟨by decide +kernel, by decide +kernel⟩, List.mem_of_getElem? (i := 1036) (by decide +kernel), List.mem_of_getElem? (i := 1624) (by decide +kernel), List.mem_of_getElem? (i := 1625) (by decide +kernel)⟩
theorem lw_p104 : lw_okq (⟨"StrideTurnsModel", "statementDigest", "(JI)J"⟩, 47) := ⟨⟨by decide +kernel, by decide +kernel⟩, List.mem_of_getElem? (i := 1036) (by decide +kernel), List.mem_of_getElem? (i := 1635) (by decide +kernel), List.mem_of_getElem? (i := 1636) (by decide +kernel)⟩
theorem lw_p105 : lw_okq (⟨"StrideTurnsModel", "rowDigest", "(JI)J"⟩, 47) := ⟨⟨by decide +kernel, by decide +kernel⟩, List.mem_of_getElem? (i := 1036) (by decide +kernel), List.mem_of_getElem? (i := 1639) (by decide +kernel), List.mem_of_getElem? (i := 1640) (by decide +kernel)⟩
theorem lw_p106 : lw_okq (⟨"StrideTurnsModel", "cellsDigest", "(JI)J"⟩, 47) := ⟨⟨by decide +kernel, by decide +kernel⟩, List.mem_of_getElem? (i := 1036) (by decide +kernel), List.mem_of_getElem? (i := 1643) (by decide +kernel), List.mem_of_getElem? (i := 1644) (by decide +kernel)⟩
def lw_privs_7 : List (MethodName × Nat) := [(⟨"StrideTurnsModel", "mayMix", "(IIII)I"⟩, 47), (⟨"StrideTurnsModel", "serials", "()I"⟩, 47), (⟨"StrideTurnsModel", "mixes", "(III)I"⟩, 47), (⟨"StrideTurnsModel", "left", "(II)I"⟩, 47), (⟨"StrideTurnsModel", "turnOf", "(III)I"⟩, 47), (⟨"StrideTurnsModel", "copiesOut", "()V"⟩, 47), (⟨"StrideTurnsModel", "sameNow", "(III)I"⟩, 47), (⟨"StrideTurnsModel", "missing", "()I"⟩, 47), (⟨"StrideTurnsModel", "statementDigest", "(JI)J"⟩, 47), (⟨"StrideTurnsModel", "rowDigest", "(JI)J"⟩, 47), (⟨"StrideTurnsModel", "cellsDigest", "(JI)J"⟩, 47)]
theorem lw_r7 : ∀ q ∈ lw_privs_7, lw_okq q := List.forall_mem_cons.mpr ⟨lw_p96, List.forall_mem_cons.mpr ⟨lw_p97, List.forall_mem_cons.mpr ⟨lw_p98, List.forall_mem_cons.mpr ⟨lw_p99, List.forall_mem_cons.mpr ⟨lw_p100, List.forall_mem_cons.mpr ⟨lw_p101, List.forall_mem_cons.mpr ⟨lw_p102, List.forall_mem_cons.mpr ⟨lw_p103, List.forall_mem_cons.mpr ⟨lw_p104, List.forall_mem_cons.mpr ⟨lw_p105, List.forall_mem_cons.mpr ⟨lw_p106, fun _ h => absurd h List.not_mem_nil⟩⟩⟩⟩⟩⟩⟩⟩⟩⟩⟩
def lw_privs : List (MethodName × Nat) := lw_privs_1 ++ (lw_privs_2 ++ (lw_privs_3 ++ (lw_privs_4 ++ (lw_privs_5 ++ (lw_privs_6 ++ (lw_privs_7))))))
def lw_tbl : List Cond := k2_sels lw_privs ++ tables_1
theorem lw_privs_ok : ∀ q ∈ lw_privs, lw_okq q := by
  show ∀ q ∈ lw_privs_1 ++ (lw_privs_2 ++ (lw_privs_3 ++ (lw_privs_4 ++ (lw_privs_5 ++ (lw_privs_6 ++ (lw_privs_7)))))), lw_okq q
  exact List.forall_mem_append.mpr ⟨lw_r1, List.forall_mem_append.mpr ⟨lw_r2, List.forall_mem_append.mpr ⟨lw_r3, List.forall_mem_append.mpr ⟨lw_r4, List.forall_mem_append.mpr ⟨lw_r5, List.forall_mem_append.mpr ⟨lw_r6, lw_r7⟩⟩⟩⟩⟩⟩
/-- the streams that the claim lets the run draw from -/
abbrev lw_cs : List Choice := [Jvm.Choice.named "NaN.bits"]
theorem lw_bits : nanBits ∈ lw_cs := by first | decide | exact List.mem_cons_self | simp [lw_cs, nanBits]
-- ===== end of PART A =====

def RX0 : String := "StrideTurns$History"
def TX0 : u_T := fun k => match k with
  | 0 => ("StrideTurns$History", "told", "[[I", true)
  | 1 => ("StrideTurns$History", "oldest", "I", false)
  | _ => ("StrideTurns$History", "held", "I", false)
def tyX0 : Nat → FieldType := fun k => match k with
  | 0 => .array (.array .int)
  | 1 => .int
  | _ => .int
abbrev wsX00 : List Cond := u_ws RX0 TX0 3
theorem nmX0 : ∀ a, a < 3 → ∀ b, b < 3 → a ≠ b → (TX0 a).2.1 ≠ (TX0 b).2.1 := by decide +kernel
theorem tyX0_ok : ∀ k, k < 3 → parseFieldDescriptor (TX0 k).2.2.1 = some (tyX0 k) := by decide +kernel
abbrev cX0_init : ByteArray := prog_2_method_1_code
def yX0_init : MethodName := ⟨RX0, "<init>", "()V"⟩
abbrev cX0_note : ByteArray := prog_2_method_2_code
def yX0_note : MethodName := ⟨RX0, "note", "(III)V"⟩
abbrev cX0_keep : ByteArray := prog_2_method_3_code
def yX0_keep : MethodName := ⟨RX0, "keep", "(III)V"⟩
abbrev cX0_latest : ByteArray := prog_2_method_4_code
def yX0_latest : MethodName := ⟨RX0, "latest", "()[I"⟩
abbrev cX0_takeBack : ByteArray := prog_2_method_5_code
def yX0_takeBack : MethodName := ⟨RX0, "takeBack", "(LStrideTurns$Loop;)I"⟩
def RX1 : String := "StrideTurns$Kinds"
def TX1 : u_T := fun k => match k with
  | 0 => ("StrideTurns$Kinds", "sections", "[LStrideTurns$Section;", true)
  | 1 => ("StrideTurns$Kinds", "often", "[I", true)
  | 2 => ("StrideTurns$Kinds", "next", "LStrideTurns$Section;", true)
  | _ => ("StrideTurns$Kinds", "found", "I", false)
def tyX1 : Nat → FieldType := fun k => match k with
  | 0 => .array (.object "StrideTurns$Section")
  | 1 => .array .int
  | 2 => .object "StrideTurns$Section"
  | _ => .int
abbrev wsX10 : List Cond := u_ws RX1 TX1 4
theorem nmX1 : ∀ a, a < 4 → ∀ b, b < 4 → a ≠ b → (TX1 a).2.1 ≠ (TX1 b).2.1 := by decide +kernel
theorem tyX1_ok : ∀ k, k < 4 → parseFieldDescriptor (TX1 k).2.2.1 = some (tyX1 k) := by decide +kernel
abbrev cX1_init : ByteArray := prog_3_method_1_code
def yX1_init : MethodName := ⟨RX1, "<init>", "()V"⟩
abbrev cX1_collect : ByteArray := prog_3_method_2_code
def yX1_collect : MethodName := ⟨RX1, "collect", "(LStrideTurns$Loop;LStrideTurns$Rows;LStrideTurns$Statement;I)V"⟩
abbrev cX1_addFrom : ByteArray := prog_3_method_3_code
def yX1_addFrom : MethodName := ⟨RX1, "addFrom", "(LStrideTurns$Statement;III)V"⟩
def RX2 : String := "StrideTurns$Loop"
def TX2 : u_T := fun k => match k with
  | 0 => ("StrideTurns$Loop", "statements", "[LStrideTurns$Statement;", true)
  | 1 => ("StrideTurns$Loop", "turnCount", "I", false)
  | _ => ("StrideTurns$Loop", "statementCount", "I", false)
def tyX2 : Nat → FieldType := fun k => match k with
  | 0 => .array (.object "StrideTurns$Statement")
  | 1 => .int
  | _ => .int
abbrev wsX20 : List Cond := u_ws RX2 TX2 3
theorem nmX2 : ∀ a, a < 3 → ∀ b, b < 3 → a ≠ b → (TX2 a).2.1 ≠ (TX2 b).2.1 := by decide +kernel
theorem tyX2_ok : ∀ k, k < 3 → parseFieldDescriptor (TX2 k).2.2.1 = some (tyX2 k) := by decide +kernel
abbrev cX2_init : ByteArray := prog_4_method_1_code
def yX2_init : MethodName := ⟨RX2, "<init>", "()V"⟩
abbrev cX2_turnsDone : ByteArray := prog_4_method_2_code
def yX2_turnsDone : MethodName := ⟨RX2, "turnsDone", "(LStrideTurns$Statement;LStrideTurns$Rows;)I"⟩
abbrev cX2_nextDone : ByteArray := prog_4_method_3_code
def yX2_nextDone : MethodName := ⟨RX2, "nextDone", "(IILStrideTurns$Rows;)I"⟩
def RX3 : String := "StrideTurns$Numbers"
def TX3 : u_T := fun k => match k with
  | _ => ("", "", "", false)
def tyX3 : Nat → FieldType := fun k => match k with
  | _ => .int
abbrev wsX30 : List Cond := u_ws RX3 TX3 0
theorem nmX3 : ∀ a, a < 0 → ∀ b, b < 0 → a ≠ b → (TX3 a).2.1 ≠ (TX3 b).2.1 := by decide +kernel
theorem tyX3_ok : ∀ k, k < 0 → parseFieldDescriptor (TX3 k).2.2.1 = some (tyX3 k) := by decide +kernel
abbrev cX3_told : ByteArray := prog_5_method_2_code
def yX3_told : MethodName := ⟨RX3, "told", "(II)D"⟩
abbrev cX3_shown : ByteArray := prog_5_method_3_code
def yX3_shown : MethodName := ⟨RX3, "shown", "(ID)J"⟩
abbrev cX3_bits : ByteArray := prog_5_method_4_code
def yX3_bits : MethodName := ⟨RX3, "bits", "(DII)J"⟩
abbrev cX3_cast : ByteArray := prog_5_method_5_code
def yX3_cast : MethodName := ⟨RX3, "cast", "(ID)D"⟩
abbrev cX3_plain : ByteArray := prog_5_method_6_code
def yX3_plain : MethodName := ⟨RX3, "plain", "(D)D"⟩
abbrev cX3_sizeOf : ByteArray := prog_5_method_7_code
def yX3_sizeOf : MethodName := ⟨RX3, "sizeOf", "(D)D"⟩
abbrev cX3_isOver : ByteArray := prog_5_method_8_code
def yX3_isOver : MethodName := ⟨RX3, "isOver", "(III)Z"⟩
abbrev cX3_calculate : ByteArray := prog_5_method_9_code
def yX3_calculate : MethodName := ⟨RX3, "calculate", "(IIDD)D"⟩
abbrev cX3_calculateInts : ByteArray := prog_5_method_10_code
def yX3_calculateInts : MethodName := ⟨RX3, "calculateInts", "(III)I"⟩
abbrev cX3_calculateFloats : ByteArray := prog_5_method_11_code
def yX3_calculateFloats : MethodName := ⟨RX3, "calculateFloats", "(IFF)F"⟩
abbrev cX3_calculateDoubles : ByteArray := prog_5_method_12_code
def yX3_calculateDoubles : MethodName := ⟨RX3, "calculateDoubles", "(IDD)D"⟩
abbrev cX3_remainder : ByteArray := prog_5_method_13_code
def yX3_remainder : MethodName := ⟨RX3, "remainder", "(DD)D"⟩
def RX4 : String := "StrideTurns$Outcome"
def TX4 : u_T := fun k => match k with
  | 0 => ("StrideTurns$Outcome", "faulted", "[I", true)
  | 1 => ("StrideTurns$Outcome", "order", "[I", true)
  | 2 => ("StrideTurns$Outcome", "endings", "I", false)
  | _ => ("StrideTurns$Outcome", "items", "I", false)
def tyX4 : Nat → FieldType := fun k => match k with
  | 0 => .array .int
  | 1 => .array .int
  | 2 => .int
  | _ => .int
abbrev wsX40 : List Cond := u_ws RX4 TX4 4
theorem nmX4 : ∀ a, a < 4 → ∀ b, b < 4 → a ≠ b → (TX4 a).2.1 ≠ (TX4 b).2.1 := by decide +kernel
theorem tyX4_ok : ∀ k, k < 4 → parseFieldDescriptor (TX4 k).2.2.1 = some (tyX4 k) := by decide +kernel
abbrev cX4_init : ByteArray := prog_6_method_1_code
def yX4_init : MethodName := ⟨RX4, "<init>", "()V"⟩
abbrev cX4_begin : ByteArray := prog_6_method_2_code
def yX4_begin : MethodName := ⟨RX4, "begin", "()V"⟩
abbrev cX4_end : ByteArray := prog_6_method_3_code
def yX4_end : MethodName := ⟨RX4, "end", "(I)V"⟩
abbrev cX4_alike : ByteArray := prog_6_method_4_code
def yX4_alike : MethodName := ⟨RX4, "alike", "(LStrideTurns$Outcome;)Z"⟩
def RX5 : String := "StrideTurns$Reference"
def TX5 : u_T := fun k => match k with
  | 0 => ("StrideTurns$Reference", "row", "I", false)
  | 1 => ("StrideTurns$Reference", "from", "I", false)
  | 2 => ("StrideTurns$Reference", "by", "I", false)
  | _ => ("StrideTurns$Reference", "step", "I", false)
def tyX5 : Nat → FieldType := fun k => match k with
  | 0 => .int
  | 1 => .int
  | 2 => .int
  | _ => .int
abbrev wsX50 : List Cond := u_ws RX5 TX5 4
theorem nmX5 : ∀ a, a < 4 → ∀ b, b < 4 → a ≠ b → (TX5 a).2.1 ≠ (TX5 b).2.1 := by decide +kernel
theorem tyX5_ok : ∀ k, k < 4 → parseFieldDescriptor (TX5 k).2.2.1 = some (tyX5 k) := by decide +kernel
abbrev cX5_init : ByteArray := prog_7_method_1_code
def yX5_init : MethodName := ⟨RX5, "<init>", "()V"⟩
abbrev cX5_lie : ByteArray := prog_7_method_2_code
def yX5_lie : MethodName := ⟨RX5, "lie", "(III)V"⟩
abbrev cX5_isConstant : ByteArray := prog_7_method_3_code
def yX5_isConstant : MethodName := ⟨RX5, "isConstant", "()Z"⟩
abbrev cX5_at : ByteArray := prog_7_method_4_code
def yX5_at : MethodName := ⟨RX5, "at", "(II)I"⟩
abbrev cX5_liesAs : ByteArray := prog_7_method_5_code
def yX5_liesAs : MethodName := ⟨RX5, "liesAs", "(LStrideTurns$Reference;)Z"⟩
def RX6 : String := "StrideTurns$Rows"
def TX6 : u_T := fun k => match k with
  | 0 => ("StrideTurns$Rows", "forms", "[I", true)
  | 1 => ("StrideTurns$Rows", "sizes", "[I", true)
  | 2 => ("StrideTurns$Rows", "cells", "[D", true)
  | _ => ("StrideTurns$Rows", "writers", "[I", true)
def tyX6 : Nat → FieldType := fun k => match k with
  | 0 => .array .int
  | 1 => .array .int
  | 2 => .array .double
  | _ => .array .int
abbrev wsX60 : List Cond := u_ws RX6 TX6 4
theorem nmX6 : ∀ a, a < 4 → ∀ b, b < 4 → a ≠ b → (TX6 a).2.1 ≠ (TX6 b).2.1 := by decide +kernel
theorem tyX6_ok : ∀ k, k < 4 → parseFieldDescriptor (TX6 k).2.2.1 = some (tyX6 k) := by decide +kernel
abbrev cX6_init : ByteArray := prog_8_method_1_code
def yX6_init : MethodName := ⟨RX6, "<init>", "()V"⟩
abbrev cX6_make : ByteArray := prog_8_method_2_code
def yX6_make : MethodName := ⟨RX6, "make", "(III)V"⟩
abbrev cX6_take : ByteArray := prog_8_method_3_code
def yX6_take : MethodName := ⟨RX6, "take", "(LStrideTurns$Rows;)V"⟩
abbrev cX6_forgetWriters : ByteArray := prog_8_method_4_code
def yX6_forgetWriters : MethodName := ⟨RX6, "forgetWriters", "()V"⟩
abbrev cX6_isMissing : ByteArray := prog_8_method_5_code
def yX6_isMissing : MethodName := ⟨RX6, "isMissing", "(I)Z"⟩
abbrev cX6_isOfNumbers : ByteArray := prog_8_method_6_code
def yX6_isOfNumbers : MethodName := ⟨RX6, "isOfNumbers", "(I)Z"⟩
abbrev cX6_hasCell : ByteArray := prog_8_method_7_code
def yX6_hasCell : MethodName := ⟨RX6, "hasCell", "(II)Z"⟩
abbrev cX6_hasCells : ByteArray := prog_8_method_8_code
def yX6_hasCells : MethodName := ⟨RX6, "hasCells", "(III)Z"⟩
abbrev cX6_isTrue : ByteArray := prog_8_method_9_code
def yX6_isTrue : MethodName := ⟨RX6, "isTrue", "(II)Z"⟩
abbrev cX6_missing : ByteArray := prog_8_method_10_code
def yX6_missing : MethodName := ⟨RX6, "missing", "()I"⟩
abbrev cX6_faultAt : ByteArray := prog_8_method_11_code
def yX6_faultAt : MethodName := ⟨RX6, "faultAt", "(II)I"⟩
abbrev cX6_widthOf : ByteArray := prog_8_method_12_code
def yX6_widthOf : MethodName := ⟨RX6, "widthOf", "(LStrideTurns$Statement;)I"⟩
abbrev cX6_alike : ByteArray := prog_8_method_13_code
def yX6_alike : MethodName := ⟨RX6, "alike", "(LStrideTurns$Rows;)Z"⟩
def RX7 : String := "StrideTurns$Runner"
def TX7 : u_T := fun k => match k with
  | 0 => ("StrideTurns$Runner", "loop", "LStrideTurns$Loop;", true)
  | 1 => ("StrideTurns$Runner", "treatment", "[I", true)
  | 2 => ("StrideTurns$Runner", "copies", "[D", true)
  | 3 => ("StrideTurns$Runner", "copied", "[I", true)
  | 4 => ("StrideTurns$Runner", "turnAt", "[I", true)
  | 5 => ("StrideTurns$Runner", "statementAt", "[I", true)
  | 6 => ("StrideTurns$Runner", "itemAt", "[I", true)
  | 7 => ("StrideTurns$Runner", "rows", "LStrideTurns$Rows;", false)
  | 8 => ("StrideTurns$Runner", "outcome", "LStrideTurns$Outcome;", false)
  | 9 => ("StrideTurns$Runner", "workers", "I", false)
  | _ => ("StrideTurns$Runner", "deal", "I", false)
def tyX7 : Nat → FieldType := fun k => match k with
  | 0 => .object "StrideTurns$Loop"
  | 1 => .array .int
  | 2 => .array .double
  | 3 => .array .int
  | 4 => .array .int
  | 5 => .array .int
  | 6 => .array .int
  | 7 => .object "StrideTurns$Rows"
  | 8 => .object "StrideTurns$Outcome"
  | 9 => .int
  | _ => .int
abbrev wsX70 : List Cond := u_ws RX7 TX7 11
theorem nmX7 : ∀ a, a < 11 → ∀ b, b < 11 → a ≠ b → (TX7 a).2.1 ≠ (TX7 b).2.1 := by decide +kernel
theorem tyX7_ok : ∀ k, k < 11 → parseFieldDescriptor (TX7 k).2.2.1 = some (tyX7 k) := by decide +kernel
abbrev cX7_init : ByteArray := prog_9_method_1_code
def yX7_init : MethodName := ⟨RX7, "<init>", "(LStrideTurns$Loop;)V"⟩
abbrev cX7_treatAsTheyAre : ByteArray := prog_9_method_2_code
def yX7_treatAsTheyAre : MethodName := ⟨RX7, "treatAsTheyAre", "()V"⟩
abbrev cX7_treatByVerdict : ByteArray := prog_9_method_3_code
def yX7_treatByVerdict : MethodName := ⟨RX7, "treatByVerdict", "(LStrideTurns$Summary;)V"⟩
abbrev cX7_go : ByteArray := prog_9_method_4_code
def yX7_go : MethodName := ⟨RX7, "go", "(LStrideTurns$Rows;LStrideTurns$Outcome;III)V"⟩
abbrev cX7_begin : ByteArray := prog_9_method_5_code
def yX7_begin : MethodName := ⟨RX7, "begin", "(LStrideTurns$Rows;LStrideTurns$Outcome;II)V"⟩
abbrev cX7_enter : ByteArray := prog_9_method_6_code
def yX7_enter : MethodName := ⟨RX7, "enter", "(II)V"⟩
abbrev cX7_workerOf : ByteArray := prog_9_method_7_code
def yX7_workerOf : MethodName := ⟨RX7, "workerOf", "(I)I"⟩
abbrev cX7_busyWorkers : ByteArray := prog_9_method_8_code
def yX7_busyWorkers : MethodName := ⟨RX7, "busyWorkers", "()I"⟩
abbrev cX7_busyWorker : ByteArray := prog_9_method_9_code
def yX7_busyWorker : MethodName := ⟨RX7, "busyWorker", "(I)I"⟩
abbrev cX7_step : ByteArray := prog_9_method_10_code
def yX7_step : MethodName := ⟨RX7, "step", "(I)V"⟩
abbrev cX7_goOn : ByteArray := prog_9_method_11_code
def yX7_goOn : MethodName := ⟨RX7, "goOn", "(ILStrideTurns$Statement;I)V"⟩
abbrev cX7_doItem : ByteArray := prog_9_method_12_code
def yX7_doItem : MethodName := ⟨RX7, "doItem", "(LStrideTurns$Statement;II)I"⟩
abbrev cX7_faultOf : ByteArray := prog_9_method_13_code
def yX7_faultOf : MethodName := ⟨RX7, "faultOf", "(LStrideTurns$Statement;II)I"⟩
abbrev cX7_read : ByteArray := prog_9_method_14_code
def yX7_read : MethodName := ⟨RX7, "read", "(LStrideTurns$Statement;III)D"⟩
abbrev cX7_write : ByteArray := prog_9_method_15_code
def yX7_write : MethodName := ⟨RX7, "write", "(LStrideTurns$Reference;IID)V"⟩
abbrev cX7_copyOut : ByteArray := prog_9_method_16_code
def yX7_copyOut : MethodName := ⟨RX7, "copyOut", "()V"⟩
abbrev cX7_copyOutRow : ByteArray := prog_9_method_17_code
def yX7_copyOutRow : MethodName := ⟨RX7, "copyOutRow", "(II)V"⟩
def RX8 : String := "StrideTurns$Section"
def TX8 : u_T := fun k => match k with
  | 0 => ("StrideTurns$Section", "first", "I", false)
  | 1 => ("StrideTurns$Section", "stride", "I", false)
  | _ => ("StrideTurns$Section", "length", "I", false)
def tyX8 : Nat → FieldType := fun k => match k with
  | 0 => .int
  | 1 => .int
  | _ => .int
abbrev wsX80 : List Cond := u_ws RX8 TX8 3
theorem nmX8 : ∀ a, a < 3 → ∀ b, b < 3 → a ≠ b → (TX8 a).2.1 ≠ (TX8 b).2.1 := by decide +kernel
theorem tyX8_ok : ∀ k, k < 3 → parseFieldDescriptor (TX8 k).2.2.1 = some (tyX8 k) := by decide +kernel
abbrev cX8_init : ByteArray := prog_10_method_1_code
def yX8_init : MethodName := ⟨RX8, "<init>", "()V"⟩
abbrev cX8_lay : ByteArray := prog_10_method_2_code
def yX8_lay : MethodName := ⟨RX8, "lay", "(LStrideTurns$Reference;II)V"⟩
abbrev cX8_part : ByteArray := prog_10_method_3_code
def yX8_part : MethodName := ⟨RX8, "part", "(II)I"⟩
abbrev cX8_take : ByteArray := prog_10_method_4_code
def yX8_take : MethodName := ⟨RX8, "take", "(LStrideTurns$Section;)V"⟩
abbrev cX8_liesAs : ByteArray := prog_10_method_5_code
def yX8_liesAs : MethodName := ⟨RX8, "liesAs", "(LStrideTurns$Section;)Z"⟩
abbrev cX8_holds : ByteArray := prog_10_method_6_code
def yX8_holds : MethodName := ⟨RX8, "holds", "(I)Z"⟩
abbrev cX8_cross : ByteArray := prog_10_method_7_code
def yX8_cross : MethodName := ⟨RX8, "cross", "(LStrideTurns$Section;LStrideTurns$Section;)V"⟩
abbrev cX8_addBehind : ByteArray := prog_10_method_8_code
def yX8_addBehind : MethodName := ⟨RX8, "addBehind", "(I)V"⟩
abbrev cX8_takePiece : ByteArray := prog_10_method_9_code
def yX8_takePiece : MethodName := ⟨RX8, "takePiece", "(I)I"⟩
abbrev cX8_leastCell : ByteArray := prog_10_method_10_code
def yX8_leastCell : MethodName := ⟨RX8, "leastCell", "(I)I"⟩
def RX9 : String := "StrideTurns$Statement"
def TX9 : u_T := fun k => match k with
  | 0 => ("StrideTurns$Statement", "references", "[LStrideTurns$Reference;", true)
  | 1 => ("StrideTurns$Statement", "operation", "I", false)
  | 2 => ("StrideTurns$Statement", "items", "I", false)
  | 3 => ("StrideTurns$Statement", "period", "I", false)
  | 4 => ("StrideTurns$Statement", "phase", "I", false)
  | _ => ("StrideTurns$Statement", "maskRow", "I", false)
def tyX9 : Nat → FieldType := fun k => match k with
  | 0 => .array (.object "StrideTurns$Reference")
  | 1 => .int
  | 2 => .int
  | 3 => .int
  | 4 => .int
  | _ => .int
abbrev wsX90 : List Cond := u_ws RX9 TX9 6
theorem nmX9 : ∀ a, a < 6 → ∀ b, b < 6 → a ≠ b → (TX9 a).2.1 ≠ (TX9 b).2.1 := by decide +kernel
theorem tyX9_ok : ∀ k, k < 6 → parseFieldDescriptor (TX9 k).2.2.1 = some (tyX9 k) := by decide +kernel
abbrev cX9_init : ByteArray := prog_11_method_1_code
def yX9_init : MethodName := ⟨RX9, "<init>", "()V"⟩
abbrev cX9_begin : ByteArray := prog_11_method_2_code
def yX9_begin : MethodName := ⟨RX9, "begin", "(II)V"⟩
abbrev cX9_looksAt : ByteArray := prog_11_method_3_code
def yX9_looksAt : MethodName := ⟨RX9, "looksAt", "(I)Z"⟩
abbrev cX9_looksAtRow : ByteArray := prog_11_method_4_code
def yX9_looksAtRow : MethodName := ⟨RX9, "looksAtRow", "(I)Z"⟩
abbrev cX9_isOfIntsAlways : ByteArray := prog_11_method_5_code
def yX9_isOfIntsAlways : MethodName := ⟨RX9, "isOfIntsAlways", "()Z"⟩
abbrev cX9_mayBeOver : ByteArray := prog_11_method_6_code
def yX9_mayBeOver : MethodName := ⟨RX9, "mayBeOver", "()Z"⟩
abbrev cX9_isDone : ByteArray := prog_11_method_7_code
def yX9_isDone : MethodName := ⟨RX9, "isDone", "(ILStrideTurns$Rows;)Z"⟩
def RX10 : String := "StrideTurns$Summary"
def TX10 : u_T := fun k => match k with
  | 0 => ("StrideTurns$Summary", "rows", "LStrideTurns$Rows;", true)
  | 1 => ("StrideTurns$Summary", "loop", "LStrideTurns$Loop;", true)
  | 2 => ("StrideTurns$Summary", "sets", "[[I", true)
  | 3 => ("StrideTurns$Summary", "settled", "[I", true)
  | 4 => ("StrideTurns$Summary", "inDoubt", "Z", false)
  | _ => ("StrideTurns$Summary", "stale", "Z", false)
def tyX10 : Nat → FieldType := fun k => match k with
  | 0 => .object "StrideTurns$Rows"
  | 1 => .object "StrideTurns$Loop"
  | 2 => .array (.array .int)
  | 3 => .array .int
  | 4 => .boolean
  | _ => .boolean
abbrev wsX100 : List Cond := u_ws RX10 TX10 6
theorem nmX10 : ∀ a, a < 6 → ∀ b, b < 6 → a ≠ b → (TX10 a).2.1 ≠ (TX10 b).2.1 := by decide +kernel
theorem tyX10_ok : ∀ k, k < 6 → parseFieldDescriptor (TX10 k).2.2.1 = some (tyX10 k) := by decide +kernel
abbrev cX10_init : ByteArray := prog_12_method_1_code
def yX10_init : MethodName := ⟨RX10, "<init>", "(LStrideTurns$Rows;LStrideTurns$Loop;)V"⟩
abbrev cX10_cellsOf : ByteArray := prog_12_method_2_code
def yX10_cellsOf : MethodName := ⟨RX10, "cellsOf", "(III)I"⟩
abbrev cX10_refresh : ByteArray := prog_12_method_3_code
def yX10_refresh : MethodName := ⟨RX10, "refresh", "()V"⟩
abbrev cX10_addTurn : ByteArray := prog_12_method_4_code
def yX10_addTurn : MethodName := ⟨RX10, "addTurn", "(I)V"⟩
abbrev cX10_addItem : ByteArray := prog_12_method_5_code
def yX10_addItem : MethodName := ⟨RX10, "addItem", "(LStrideTurns$Statement;II)Z"⟩
abbrev cX10_addRead : ByteArray := prog_12_method_6_code
def yX10_addRead : MethodName := ⟨RX10, "addRead", "(III)V"⟩
abbrev cX10_addWrite : ByteArray := prog_12_method_7_code
def yX10_addWrite : MethodName := ⟨RX10, "addWrite", "(LStrideTurns$Statement;II)V"⟩
abbrev cX10_judge : ByteArray := prog_12_method_8_code
def yX10_judge : MethodName := ⟨RX10, "judge", "(II)I"⟩
abbrev cX10_isShared : ByteArray := prog_12_method_9_code
def yX10_isShared : MethodName := ⟨RX10, "isShared", "(I)Z"⟩
abbrev cX10_isGathered : ByteArray := prog_12_method_10_code
def yX10_isGathered : MethodName := ⟨RX10, "isGathered", "(II)Z"⟩
abbrev cX10_familyOf : ByteArray := prog_12_method_11_code
def yX10_familyOf : MethodName := ⟨RX10, "familyOf", "(LStrideTurns$Statement;I)I"⟩
abbrev cX10_familyFor : ByteArray := prog_12_method_12_code
def yX10_familyFor : MethodName := ⟨RX10, "familyFor", "(III)I"⟩
abbrev cX10_exposedTurn : ByteArray := prog_12_method_13_code
def yX10_exposedTurn : MethodName := ⟨RX10, "exposedTurn", "(I)I"⟩
abbrev cX10_exposedCell : ByteArray := prog_12_method_14_code
def yX10_exposedCell : MethodName := ⟨RX10, "exposedCell", "(II)I"⟩
abbrev cX10_lastTurn : ByteArray := prog_12_method_15_code
def yX10_lastTurn : MethodName := ⟨RX10, "lastTurn", "(IIII)I"⟩
def RX11 : String := "StrideTurns"
def TX11 : u_T := fun k => match k with
  | 0 => ("StrideTurns", "rows", "LStrideTurns$Rows;", true)
  | 1 => ("StrideTurns", "loop", "LStrideTurns$Loop;", true)
  | 2 => ("StrideTurns", "history", "LStrideTurns$History;", true)
  | 3 => ("StrideTurns", "text", "[I", true)
  | 4 => ("StrideTurns", "summary", "LStrideTurns$Summary;", true)
  | 5 => ("StrideTurns", "unlike", "LStrideTurns$Kinds;", true)
  | 6 => ("StrideTurns", "one", "LStrideTurns$Section;", true)
  | 7 => ("StrideTurns", "other", "LStrideTurns$Section;", true)
  | 8 => ("StrideTurns", "both", "LStrideTurns$Section;", true)
  | 9 => ("StrideTurns", "runner", "LStrideTurns$Runner;", true)
  | 10 => ("StrideTurns", "outcome", "LStrideTurns$Outcome;", true)
  | 11 => ("StrideTurns", "orderedRows", "LStrideTurns$Rows;", true)
  | 12 => ("StrideTurns", "mixedRows", "LStrideTurns$Rows;", true)
  | 13 => ("StrideTurns", "orderedOutcome", "LStrideTurns$Outcome;", true)
  | 14 => ("StrideTurns", "mixedOutcome", "LStrideTurns$Outcome;", true)
  | 15 => ("StrideTurns", "textLength", "I", false)
  | _ => ("StrideTurns", "latestFinding", "I", false)
def tyX11 : Nat → FieldType := fun k => match k with
  | 0 => .object "StrideTurns$Rows"
  | 1 => .object "StrideTurns$Loop"
  | 2 => .object "StrideTurns$History"
  | 3 => .array .int
  | 4 => .object "StrideTurns$Summary"
  | 5 => .object "StrideTurns$Kinds"
  | 6 => .object "StrideTurns$Section"
  | 7 => .object "StrideTurns$Section"
  | 8 => .object "StrideTurns$Section"
  | 9 => .object "StrideTurns$Runner"
  | 10 => .object "StrideTurns$Outcome"
  | 11 => .object "StrideTurns$Rows"
  | 12 => .object "StrideTurns$Rows"
  | 13 => .object "StrideTurns$Outcome"
  | 14 => .object "StrideTurns$Outcome"
  | 15 => .int
  | _ => .int
abbrev wsX110 : List Cond := u_ws RX11 TX11 17
theorem nmX11 : ∀ a, a < 17 → ∀ b, b < 17 → a ≠ b → (TX11 a).2.1 ≠ (TX11 b).2.1 := by decide +kernel
theorem tyX11_ok : ∀ k, k < 17 → parseFieldDescriptor (TX11 k).2.2.1 = some (tyX11 k) := by decide +kernel
abbrev cX11_init : ByteArray := prog_1_method_1_code
def yX11_init : MethodName := ⟨RX11, "<init>", "()V"⟩
abbrev cX11_row : ByteArray := prog_1_method_2_code
def yX11_row : MethodName := ⟨RX11, "row", "(III)I"⟩
abbrev cX11_lose : ByteArray := prog_1_method_3_code
def yX11_lose : MethodName := ⟨RX11, "lose", "(I)I"⟩
abbrev cX11_put : ByteArray := prog_1_method_4_code
def yX11_put : MethodName := ⟨RX11, "put", "(IIII)I"⟩
abbrev cX11_get : ByteArray := prog_1_method_5_code
def yX11_get : MethodName := ⟨RX11, "get", "(II)J"⟩
abbrev cX11_copy : ByteArray := prog_1_method_6_code
def yX11_copy : MethodName := ⟨RX11, "copy", "(IIIII)I"⟩
abbrev cX11_turns : ByteArray := prog_1_method_7_code
def yX11_turns : MethodName := ⟨RX11, "turns", "(I)I"⟩
abbrev cX11_type : ByteArray := prog_1_method_8_code
def yX11_type : MethodName := ⟨RX11, "type", "(I)I"⟩
abbrev cX11_wipe : ByteArray := prog_1_method_9_code
def yX11_wipe : MethodName := ⟨RX11, "wipe", "()I"⟩
abbrev cX11_statement : ByteArray := prog_1_method_10_code
def yX11_statement : MethodName := ⟨RX11, "statement", "(I)I"⟩
abbrev cX11_refer : ByteArray := prog_1_method_11_code
def yX11_refer : MethodName := ⟨RX11, "refer", "(III)I"⟩
abbrev cX11_place : ByteArray := prog_1_method_12_code
def yX11_place : MethodName := ⟨RX11, "place", "(IIIII)I"⟩
abbrev cX11_guard : ByteArray := prog_1_method_13_code
def yX11_guard : MethodName := ⟨RX11, "guard", "(III)I"⟩
abbrev cX11_mask : ByteArray := prog_1_method_14_code
def yX11_mask : MethodName := ⟨RX11, "mask", "(II)I"⟩
abbrev cX11_undo : ByteArray := prog_1_method_15_code
def yX11_undo : MethodName := ⟨RX11, "undo", "()I"⟩
abbrev cX11_info : ByteArray := prog_1_method_16_code
def yX11_info : MethodName := ⟨RX11, "info", "(II)I"⟩
abbrev cX11_reference : ByteArray := prog_1_method_17_code
def yX11_reference : MethodName := ⟨RX11, "reference", "(III)I"⟩
abbrev cX11_section : ByteArray := prog_1_method_18_code
def yX11_section : MethodName := ⟨RX11, "section", "(III)I"⟩
abbrev cX11_meet : ByteArray := prog_1_method_19_code
def yX11_meet : MethodName := ⟨RX11, "meet", "(IIIII)I"⟩
abbrev cX11_kinds : ByteArray := prog_1_method_20_code
def yX11_kinds : MethodName := ⟨RX11, "kinds", "(II)I"⟩
abbrev cX11_kind : ByteArray := prog_1_method_21_code
def yX11_kind : MethodName := ⟨RX11, "kind", "(IIII)I"⟩
abbrev cX11_many : ByteArray := prog_1_method_22_code
def yX11_many : MethodName := ⟨RX11, "many", "(III)I"⟩
abbrev cX11_pieces : ByteArray := prog_1_method_23_code
def yX11_pieces : MethodName := ⟨RX11, "pieces", "(III)I"⟩
abbrev cX11_piece : ByteArray := prog_1_method_24_code
def yX11_piece : MethodName := ⟨RX11, "piece", "(IIIII)I"⟩
abbrev cX11_verdict : ByteArray := prog_1_method_25_code
def yX11_verdict : MethodName := ⟨RX11, "verdict", "(I)I"⟩
abbrev cX11_would : ByteArray := prog_1_method_26_code
def yX11_would : MethodName := ⟨RX11, "would", "(II)I"⟩
abbrev cX11_witness : ByteArray := prog_1_method_27_code
def yX11_witness : MethodName := ⟨RX11, "witness", "(II)I"⟩
abbrev cX11_last : ByteArray := prog_1_method_28_code
def yX11_last : MethodName := ⟨RX11, "last", "(III)I"⟩
abbrev cX11_run : ByteArray := prog_1_method_29_code
def yX11_run : MethodName := ⟨RX11, "run", "()I"⟩
abbrev cX11_mixed : ByteArray := prog_1_method_30_code
def yX11_mixed : MethodName := ⟨RX11, "mixed", "(IIII)I"⟩
abbrev cX11_same : ByteArray := prog_1_method_31_code
def yX11_same : MethodName := ⟨RX11, "same", "(IIII)I"⟩
abbrev cX11_faults : ByteArray := prog_1_method_32_code
def yX11_faults : MethodName := ⟨RX11, "faults", "(I)I"⟩
abbrev cX11_ended : ByteArray := prog_1_method_33_code
def yX11_ended : MethodName := ⟨RX11, "ended", "(I)I"⟩
abbrev cX11_writer : ByteArray := prog_1_method_34_code
def yX11_writer : MethodName := ⟨RX11, "writer", "(II)I"⟩
abbrev cX11_count : ByteArray := prog_1_method_35_code
def yX11_count : MethodName := ⟨RX11, "count", "(I)I"⟩
abbrev cX11_digest : ByteArray := prog_1_method_36_code
def yX11_digest : MethodName := ⟨RX11, "digest", "()J"⟩
abbrev cX11_withStatement : ByteArray := prog_1_method_37_code
def yX11_withStatement : MethodName := ⟨RX11, "withStatement", "(JI)J"⟩
abbrev cX11_withReference : ByteArray := prog_1_method_38_code
def yX11_withReference : MethodName := ⟨RX11, "withReference", "(JII)J"⟩
abbrev cX11_withSets : ByteArray := prog_1_method_39_code
def yX11_withSets : MethodName := ⟨RX11, "withSets", "(JI)J"⟩
abbrev cX11_withCells : ByteArray := prog_1_method_40_code
def yX11_withCells : MethodName := ⟨RX11, "withCells", "(JI)J"⟩
abbrev cX11_within : ByteArray := prog_1_method_41_code
def yX11_within : MethodName := ⟨RX11, "within", "(III)Z"⟩
abbrev cX11_isRow : ByteArray := prog_1_method_42_code
def yX11_isRow : MethodName := ⟨RX11, "isRow", "(I)Z"⟩
abbrev cX11_isTurn : ByteArray := prog_1_method_43_code
def yX11_isTurn : MethodName := ⟨RX11, "isTurn", "(I)Z"⟩
abbrev cX11_isStatement : ByteArray := prog_1_method_44_code
def yX11_isStatement : MethodName := ⟨RX11, "isStatement", "(I)Z"⟩
abbrev cX11_isReference : ByteArray := prog_1_method_45_code
def yX11_isReference : MethodName := ⟨RX11, "isReference", "(II)Z"⟩
abbrev cX11_isSet : ByteArray := prog_1_method_46_code
def yX11_isSet : MethodName := ⟨RX11, "isSet", "(III)Z"⟩
abbrev cX11_hasSection : ByteArray := prog_1_method_47_code
def yX11_hasSection : MethodName := ⟨RX11, "hasSection", "(I)Z"⟩
abbrev cX11_lay : ByteArray := prog_1_method_48_code
def yX11_lay : MethodName := ⟨RX11, "lay", "(LStrideTurns$Section;II)V"⟩
abbrev cX11_found : ByteArray := prog_1_method_49_code
def yX11_found : MethodName := ⟨RX11, "found", "(I)I"⟩
abbrev cX11_longRefusal : ByteArray := prog_1_method_50_code
def yX11_longRefusal : MethodName := ⟨RX11, "longRefusal", "(I)J"⟩
abbrev cX11_mixedRefusal : ByteArray := prog_1_method_51_code
def yX11_mixedRefusal : MethodName := ⟨RX11, "mixedRefusal", "(IIII)I"⟩
abbrev cX11_serialRows : ByteArray := prog_1_method_52_code
def yX11_serialRows : MethodName := ⟨RX11, "serialRows", "()I"⟩
abbrev cX11_operationTyped : ByteArray := prog_1_method_53_code
def yX11_operationTyped : MethodName := ⟨RX11, "operationTyped", "()I"⟩
abbrev cX11_isTyped : ByteArray := prog_1_method_54_code
def yX11_isTyped : MethodName := ⟨RX11, "isTyped", "(Ljava/lang/String;)Z"⟩
abbrev cX11_nameOf : ByteArray := prog_1_method_55_code
def yX11_nameOf : MethodName := ⟨RX11, "nameOf", "(I)Ljava/lang/String;"⟩
def RX12 : String := "StrideTurnsModel"
def TX12 : u_T := fun k => match k with
  | 0 => ("StrideTurnsModel", "forms", "[I", true)
  | 1 => ("StrideTurnsModel", "sizes", "[I", true)
  | 2 => ("StrideTurnsModel", "cells", "[D", true)
  | 3 => ("StrideTurnsModel", "writers", "[I", true)
  | 4 => ("StrideTurnsModel", "finding", "I", false)
  | 5 => ("StrideTurnsModel", "moved", "[D", true)
  | 6 => ("StrideTurnsModel", "many", "I", false)
  | 7 => ("StrideTurnsModel", "statements", "I", false)
  | 8 => ("StrideTurnsModel", "operations", "[I", true)
  | 9 => ("StrideTurnsModel", "counts", "[I", true)
  | 10 => ("StrideTurnsModel", "periods", "[I", true)
  | 11 => ("StrideTurnsModel", "phases", "[I", true)
  | 12 => ("StrideTurnsModel", "masks", "[I", true)
  | 13 => ("StrideTurnsModel", "goals", "[I", true)
  | 14 => ("StrideTurnsModel", "froms", "[I", true)
  | 15 => ("StrideTurnsModel", "bys", "[I", true)
  | 16 => ("StrideTurnsModel", "steps", "[I", true)
  | 17 => ("StrideTurnsModel", "log", "[I", true)
  | 18 => ("StrideTurnsModel", "logged", "I", false)
  | 19 => ("StrideTurnsModel", "typed", "[I", true)
  | 20 => ("StrideTurnsModel", "typedMany", "I", false)
  | 21 => ("StrideTurnsModel", "kindsNow", "[I", true)
  | 22 => ("StrideTurnsModel", "kindsMany", "I", false)
  | 23 => ("StrideTurnsModel", "sets", "[I", true)
  | 24 => ("StrideTurnsModel", "covered", "[I", true)
  | 25 => ("StrideTurnsModel", "isRisky", "Z", false)
  | 26 => ("StrideTurnsModel", "pieceFirst", "I", false)
  | 27 => ("StrideTurnsModel", "pieceStride", "I", false)
  | 28 => ("StrideTurnsModel", "pieceMany", "I", false)
  | 29 => ("StrideTurnsModel", "verdicts", "[I", true)
  | 30 => ("StrideTurnsModel", "before", "[D", true)
  | 31 => ("StrideTurnsModel", "owns", "[D", true)
  | 32 => ("StrideTurnsModel", "hasOwn", "[Z", true)
  | 33 => ("StrideTurnsModel", "isMixed", "Z", false)
  | 34 => ("StrideTurnsModel", "items", "I", false)
  | 35 => ("StrideTurnsModel", "faultsNow", "[I", true)
  | 36 => ("StrideTurnsModel", "order", "[I", true)
  | 37 => ("StrideTurnsModel", "orderMany", "I", false)
  | 38 => ("StrideTurnsModel", "stopped", "I", false)
  | 39 => ("StrideTurnsModel", "isKept", "Z", false)
  | 40 => ("StrideTurnsModel", "next", "[I", true)
  | 41 => ("StrideTurnsModel", "keptCells", "[D", true)
  | 42 => ("StrideTurnsModel", "inOrder", "[D", true)
  | 43 => ("StrideTurnsModel", "keptWriters", "[I", true)
  | 44 => ("StrideTurnsModel", "keptOrder", "[I", true)
  | 45 => ("StrideTurnsModel", "keptFaults", "[I", true)
  | _ => ("StrideTurnsModel", "orderFaults", "[I", true)
def tyX12 : Nat → FieldType := fun k => match k with
  | 0 => .array .int
  | 1 => .array .int
  | 2 => .array .double
  | 3 => .array .int
  | 4 => .int
  | 5 => .array .double
  | 6 => .int
  | 7 => .int
  | 8 => .array .int
  | 9 => .array .int
  | 10 => .array .int
  | 11 => .array .int
  | 12 => .array .int
  | 13 => .array .int
  | 14 => .array .int
  | 15 => .array .int
  | 16 => .array .int
  | 17 => .array .int
  | 18 => .int
  | 19 => .array .int
  | 20 => .int
  | 21 => .array .int
  | 22 => .int
  | 23 => .array .int
  | 24 => .array .int
  | 25 => .boolean
  | 26 => .int
  | 27 => .int
  | 28 => .int
  | 29 => .array .int
  | 30 => .array .double
  | 31 => .array .double
  | 32 => .array .boolean
  | 33 => .boolean
  | 34 => .int
  | 35 => .array .int
  | 36 => .array .int
  | 37 => .int
  | 38 => .int
  | 39 => .boolean
  | 40 => .array .int
  | 41 => .array .double
  | 42 => .array .double
  | 43 => .array .int
  | 44 => .array .int
  | 45 => .array .int
  | _ => .array .int
abbrev wsX120 : List Cond := u_ws RX12 TX12 47
theorem nmX12 : ∀ a, a < 47 → ∀ b, b < 47 → a ≠ b → (TX12 a).2.1 ≠ (TX12 b).2.1 := by decide +kernel
theorem tyX12_ok : ∀ k, k < 47 → parseFieldDescriptor (TX12 k).2.2.1 = some (tyX12 k) := by decide +kernel
abbrev cX12_init : ByteArray := prog_14_method_1_code
def yX12_init : MethodName := ⟨RX12, "<init>", "()V"⟩
abbrev cX12_in : ByteArray := prog_14_method_3_code
def yX12_in : MethodName := ⟨RX12, "in", "(III)Z"⟩
abbrev cX12_no : ByteArray := prog_14_method_4_code
def yX12_no : MethodName := ⟨RX12, "no", "(I)J"⟩
abbrev cX12_meets : ByteArray := prog_14_method_5_code
def yX12_meets : MethodName := ⟨RX12, "meets", "(I)I"⟩
abbrev cX12_isRow : ByteArray := prog_14_method_6_code
def yX12_isRow : MethodName := ⟨RX12, "isRow", "(I)Z"⟩
abbrev cX12_zeroed : ByteArray := prog_14_method_7_code
def yX12_zeroed : MethodName := ⟨RX12, "zeroed", "(D)D"⟩
abbrev cX12_castTo : ByteArray := prog_14_method_8_code
def yX12_castTo : MethodName := ⟨RX12, "castTo", "(ID)D"⟩
abbrev cX12_row : ByteArray := prog_14_method_9_code
def yX12_row : MethodName := ⟨RX12, "row", "(III)I"⟩
abbrev cX12_lose : ByteArray := prog_14_method_10_code
def yX12_lose : MethodName := ⟨RX12, "lose", "(I)I"⟩
abbrev cX12_put : ByteArray := prog_14_method_11_code
def yX12_put : MethodName := ⟨RX12, "put", "(IIII)I"⟩
abbrev cX12_bitsOf : ByteArray := prog_14_method_12_code
def yX12_bitsOf : MethodName := ⟨RX12, "bitsOf", "(DII)J"⟩
abbrev cX12_toldOf : ByteArray := prog_14_method_13_code
def yX12_toldOf : MethodName := ⟨RX12, "toldOf", "(I)J"⟩
abbrev cX12_lacks : ByteArray := prog_14_method_14_code
def yX12_lacks : MethodName := ⟨RX12, "lacks", "(II)I"⟩
abbrev cX12_get : ByteArray := prog_14_method_15_code
def yX12_get : MethodName := ⟨RX12, "get", "(II)J"⟩
abbrev cX12_copy : ByteArray := prog_14_method_16_code
def yX12_copy : MethodName := ⟨RX12, "copy", "(IIIII)I"⟩
abbrev cX12_logs : ByteArray := prog_14_method_17_code
def yX12_logs : MethodName := ⟨RX12, "logs", "(IIIII)V"⟩
abbrev cX12_turns : ByteArray := prog_14_method_18_code
def yX12_turns : MethodName := ⟨RX12, "turns", "(I)I"⟩
abbrev cX12_type : ByteArray := prog_14_method_19_code
def yX12_type : MethodName := ⟨RX12, "type", "(I)I"⟩
abbrev cX12_wipe : ByteArray := prog_14_method_20_code
def yX12_wipe : MethodName := ⟨RX12, "wipe", "()I"⟩
abbrev cX12_isTyped : ByteArray := prog_14_method_21_code
def yX12_isTyped : MethodName := ⟨RX12, "isTyped", "(IIIII)Z"⟩
abbrev cX12_isName : ByteArray := prog_14_method_22_code
def yX12_isName : MethodName := ⟨RX12, "isName", "(I)Z"⟩
abbrev cX12_statement : ByteArray := prog_14_method_23_code
def yX12_statement : MethodName := ⟨RX12, "statement", "(I)I"⟩
abbrev cX12_isStatement : ByteArray := prog_14_method_24_code
def yX12_isStatement : MethodName := ⟨RX12, "isStatement", "(I)Z"⟩
abbrev cX12_refer : ByteArray := prog_14_method_25_code
def yX12_refer : MethodName := ⟨RX12, "refer", "(III)I"⟩
abbrev cX12_place : ByteArray := prog_14_method_26_code
def yX12_place : MethodName := ⟨RX12, "place", "(IIIII)I"⟩
abbrev cX12_guard : ByteArray := prog_14_method_27_code
def yX12_guard : MethodName := ⟨RX12, "guard", "(III)I"⟩
abbrev cX12_mask : ByteArray := prog_14_method_28_code
def yX12_mask : MethodName := ⟨RX12, "mask", "(II)I"⟩
abbrev cX12_undo : ByteArray := prog_14_method_29_code
def yX12_undo : MethodName := ⟨RX12, "undo", "()I"⟩
abbrev cX12_isDone : ByteArray := prog_14_method_30_code
def yX12_isDone : MethodName := ⟨RX12, "isDone", "(II)Z"⟩
abbrev cX12_doneMany : ByteArray := prog_14_method_31_code
def yX12_doneMany : MethodName := ⟨RX12, "doneMany", "(I)I"⟩
abbrev cX12_isLooked : ByteArray := prog_14_method_32_code
def yX12_isLooked : MethodName := ⟨RX12, "isLooked", "(I)Z"⟩
abbrev cX12_isNumbers : ByteArray := prog_14_method_33_code
def yX12_isNumbers : MethodName := ⟨RX12, "isNumbers", "(I)Z"⟩
abbrev cX12_formAs : ByteArray := prog_14_method_34_code
def yX12_formAs : MethodName := ⟨RX12, "formAs", "(III)I"⟩
abbrev cX12_familyAs : ByteArray := prog_14_method_35_code
def yX12_familyAs : MethodName := ⟨RX12, "familyAs", "(III)I"⟩
abbrev cX12_infoOf : ByteArray := prog_14_method_36_code
def yX12_infoOf : MethodName := ⟨RX12, "infoOf", "(II)I"⟩
abbrev cX12_info : ByteArray := prog_14_method_37_code
def yX12_info : MethodName := ⟨RX12, "info", "(II)I"⟩
abbrev cX12_referenceOf : ByteArray := prog_14_method_38_code
def yX12_referenceOf : MethodName := ⟨RX12, "referenceOf", "(II)I"⟩
abbrev cX12_reference : ByteArray := prog_14_method_39_code
def yX12_reference : MethodName := ⟨RX12, "reference", "(III)I"⟩
abbrev cX12_placeOf : ByteArray := prog_14_method_40_code
def yX12_placeOf : MethodName := ⟨RX12, "placeOf", "(III)I"⟩
abbrev cX12_firstOf : ByteArray := prog_14_method_41_code
def yX12_firstOf : MethodName := ⟨RX12, "firstOf", "(II)I"⟩
abbrev cX12_manyOf : ByteArray := prog_14_method_42_code
def yX12_manyOf : MethodName := ⟨RX12, "manyOf", "(I)I"⟩
abbrev cX12_strideOf : ByteArray := prog_14_method_43_code
def yX12_strideOf : MethodName := ⟨RX12, "strideOf", "(I)I"⟩
abbrev cX12_sectionOf : ByteArray := prog_14_method_44_code
def yX12_sectionOf : MethodName := ⟨RX12, "sectionOf", "(III)I"⟩
abbrev cX12_isSection : ByteArray := prog_14_method_45_code
def yX12_isSection : MethodName := ⟨RX12, "isSection", "(II)Z"⟩
abbrev cX12_section : ByteArray := prog_14_method_46_code
def yX12_section : MethodName := ⟨RX12, "section", "(III)I"⟩
abbrev cX12_hasPlace : ByteArray := prog_14_method_47_code
def yX12_hasPlace : MethodName := ⟨RX12, "hasPlace", "(III)Z"⟩
abbrev cX12_meetOf : ByteArray := prog_14_method_48_code
def yX12_meetOf : MethodName := ⟨RX12, "meetOf", "(IIIII)I"⟩
abbrev cX12_meet : ByteArray := prog_14_method_49_code
def yX12_meet : MethodName := ⟨RX12, "meet", "(IIIII)I"⟩
abbrev cX12_addsKind : ByteArray := prog_14_method_50_code
def yX12_addsKind : MethodName := ⟨RX12, "addsKind", "(II)V"⟩
abbrev cX12_addsIf : ByteArray := prog_14_method_51_code
def yX12_addsIf : MethodName := ⟨RX12, "addsIf", "(III)V"⟩
abbrev cX12_findsKinds : ByteArray := prog_14_method_52_code
def yX12_findsKinds : MethodName := ⟨RX12, "findsKinds", "(II)I"⟩
abbrev cX12_kinds : ByteArray := prog_14_method_53_code
def yX12_kinds : MethodName := ⟨RX12, "kinds", "(II)I"⟩
abbrev cX12_kind : ByteArray := prog_14_method_54_code
def yX12_kind : MethodName := ⟨RX12, "kind", "(IIII)I"⟩
abbrev cX12_bitAt : ByteArray := prog_14_method_55_code
def yX12_bitAt : MethodName := ⟨RX12, "bitAt", "(III)I"⟩
abbrev cX12_reads : ByteArray := prog_14_method_56_code
def yX12_reads : MethodName := ⟨RX12, "reads", "(III)Z"⟩
abbrev cX12_knows : ByteArray := prog_14_method_57_code
def yX12_knows : MethodName := ⟨RX12, "knows", "(III)Z"⟩
abbrev cX12_findsTurn : ByteArray := prog_14_method_58_code
def yX12_findsTurn : MethodName := ⟨RX12, "findsTurn", "(I)V"⟩
abbrev cX12_findsSets : ByteArray := prog_14_method_59_code
def yX12_findsSets : MethodName := ⟨RX12, "findsSets", "()V"⟩
abbrev cX12_bitsOfTurn : ByteArray := prog_14_method_60_code
def yX12_bitsOfTurn : MethodName := ⟨RX12, "bitsOfTurn", "(III)I"⟩
abbrev cX12_bitsOfSet : ByteArray := prog_14_method_61_code
def yX12_bitsOfSet : MethodName := ⟨RX12, "bitsOfSet", "(III)I"⟩
abbrev cX12_size : ByteArray := prog_14_method_62_code
def yX12_size : MethodName := ⟨RX12, "size", "(I)I"⟩
abbrev cX12_isSet : ByteArray := prog_14_method_63_code
def yX12_isSet : MethodName := ⟨RX12, "isSet", "(III)Z"⟩
abbrev cX12_many : ByteArray := prog_14_method_64_code
def yX12_many : MethodName := ⟨RX12, "many", "(III)I"⟩
abbrev cX12_nextBit : ByteArray := prog_14_method_65_code
def yX12_nextBit : MethodName := ⟨RX12, "nextBit", "(II)I"⟩
abbrev cX12_without : ByteArray := prog_14_method_66_code
def yX12_without : MethodName := ⟨RX12, "without", "(I)I"⟩
abbrev cX12_piecesOf : ByteArray := prog_14_method_67_code
def yX12_piecesOf : MethodName := ⟨RX12, "piecesOf", "(I)I"⟩
abbrev cX12_pieces : ByteArray := prog_14_method_68_code
def yX12_pieces : MethodName := ⟨RX12, "pieces", "(III)I"⟩
abbrev cX12_pieceOf : ByteArray := prog_14_method_69_code
def yX12_pieceOf : MethodName := ⟨RX12, "pieceOf", "(III)I"⟩
abbrev cX12_piece : ByteArray := prog_14_method_70_code
def yX12_piece : MethodName := ⟨RX12, "piece", "(IIIII)I"⟩
abbrev cX12_isWritten : ByteArray := prog_14_method_71_code
def yX12_isWritten : MethodName := ⟨RX12, "isWritten", "(I)Z"⟩
abbrev cX12_isShared : ByteArray := prog_14_method_72_code
def yX12_isShared : MethodName := ⟨RX12, "isShared", "(I)Z"⟩
abbrev cX12_isAbout : ByteArray := prog_14_method_73_code
def yX12_isAbout : MethodName := ⟨RX12, "isAbout", "(II)Z"⟩
abbrev cX12_isGathered : ByteArray := prog_14_method_74_code
def yX12_isGathered : MethodName := ⟨RX12, "isGathered", "(III)Z"⟩
abbrev cX12_isCopied : ByteArray := prog_14_method_75_code
def yX12_isCopied : MethodName := ⟨RX12, "isCopied", "(I)Z"⟩
abbrev cX12_verdictAs : ByteArray := prog_14_method_76_code
def yX12_verdictAs : MethodName := ⟨RX12, "verdictAs", "(III)I"⟩
abbrev cX12_verdictOf : ByteArray := prog_14_method_77_code
def yX12_verdictOf : MethodName := ⟨RX12, "verdictOf", "(I)I"⟩
abbrev cX12_verdict : ByteArray := prog_14_method_78_code
def yX12_verdict : MethodName := ⟨RX12, "verdict", "(I)I"⟩
abbrev cX12_would : ByteArray := prog_14_method_79_code
def yX12_would : MethodName := ⟨RX12, "would", "(II)I"⟩
abbrev cX12_serials : ByteArray := prog_14_method_80_code
def yX12_serials : MethodName := ⟨RX12, "serials", "()I"⟩
abbrev cX12_witnessOf : ByteArray := prog_14_method_81_code
def yX12_witnessOf : MethodName := ⟨RX12, "witnessOf", "(II)I"⟩
abbrev cX12_witness : ByteArray := prog_14_method_82_code
def yX12_witness : MethodName := ⟨RX12, "witness", "(II)I"⟩
abbrev cX12_lastOf : ByteArray := prog_14_method_83_code
def yX12_lastOf : MethodName := ⟨RX12, "lastOf", "(III)I"⟩
abbrev cX12_last : ByteArray := prog_14_method_84_code
def yX12_last : MethodName := ⟨RX12, "last", "(III)I"⟩
abbrev cX12_isInt : ByteArray := prog_14_method_86_code
def yX12_isInt : MethodName := ⟨RX12, "isInt", "(J)Z"⟩
abbrev cX12_formBy : ByteArray := prog_14_method_87_code
def yX12_formBy : MethodName := ⟨RX12, "formBy", "(I)I"⟩
abbrev cX12_widthOf : ByteArray := prog_14_method_88_code
def yX12_widthOf : MethodName := ⟨RX12, "widthOf", "(I)I"⟩
abbrev cX12_byInts : ByteArray := prog_14_method_89_code
def yX12_byInts : MethodName := ⟨RX12, "byInts", "(III)I"⟩
abbrev cX12_byFloats : ByteArray := prog_14_method_90_code
def yX12_byFloats : MethodName := ⟨RX12, "byFloats", "(IFF)F"⟩
abbrev cX12_byDoubles : ByteArray := prog_14_method_91_code
def yX12_byDoubles : MethodName := ⟨RX12, "byDoubles", "(IDD)D"⟩
abbrev cX12_does : ByteArray := prog_14_method_92_code
def yX12_does : MethodName := ⟨RX12, "does", "(IDD)D"⟩
abbrev cX12_lacksPlace : ByteArray := prog_14_method_93_code
def yX12_lacksPlace : MethodName := ⟨RX12, "lacksPlace", "(III)I"⟩
abbrev cX12_read : ByteArray := prog_14_method_94_code
def yX12_read : MethodName := ⟨RX12, "read", "(III)D"⟩
abbrev cX12_writes : ByteArray := prog_14_method_95_code
def yX12_writes : MethodName := ⟨RX12, "writes", "(IID)V"⟩
abbrev cX12_item : ByteArray := prog_14_method_96_code
def yX12_item : MethodName := ⟨RX12, "item", "(III)Z"⟩
abbrev cX12_firstFrom : ByteArray := prog_14_method_97_code
def yX12_firstFrom : MethodName := ⟨RX12, "firstFrom", "(II)I"⟩
abbrev cX12_begins : ByteArray := prog_14_method_98_code
def yX12_begins : MethodName := ⟨RX12, "begins", "()V"⟩
abbrev cX12_steps : ByteArray := prog_14_method_99_code
def yX12_steps : MethodName := ⟨RX12, "steps", "(I)V"⟩
abbrev cX12_runNow : ByteArray := prog_14_method_100_code
def yX12_runNow : MethodName := ⟨RX12, "runNow", "()I"⟩
abbrev cX12_run : ByteArray := prog_14_method_101_code
def yX12_run : MethodName := ⟨RX12, "run", "()I"⟩
abbrev cX12_turnOf : ByteArray := prog_14_method_102_code
def yX12_turnOf : MethodName := ⟨RX12, "turnOf", "(III)I"⟩
abbrev cX12_left : ByteArray := prog_14_method_103_code
def yX12_left : MethodName := ⟨RX12, "left", "(II)I"⟩
abbrev cX12_copiesOut : ByteArray := prog_14_method_104_code
def yX12_copiesOut : MethodName := ⟨RX12, "copiesOut", "()V"⟩
abbrev cX12_mixes : ByteArray := prog_14_method_105_code
def yX12_mixes : MethodName := ⟨RX12, "mixes", "(III)I"⟩
abbrev cX12_mayMix : ByteArray := prog_14_method_106_code
def yX12_mayMix : MethodName := ⟨RX12, "mayMix", "(IIII)I"⟩
abbrev cX12_mixed : ByteArray := prog_14_method_107_code
def yX12_mixed : MethodName := ⟨RX12, "mixed", "(IIII)I"⟩
abbrev cX12_sameNow : ByteArray := prog_14_method_108_code
def yX12_sameNow : MethodName := ⟨RX12, "sameNow", "(III)I"⟩
abbrev cX12_same : ByteArray := prog_14_method_109_code
def yX12_same : MethodName := ⟨RX12, "same", "(IIII)I"⟩
abbrev cX12_faults : ByteArray := prog_14_method_110_code
def yX12_faults : MethodName := ⟨RX12, "faults", "(I)I"⟩
abbrev cX12_ended : ByteArray := prog_14_method_111_code
def yX12_ended : MethodName := ⟨RX12, "ended", "(I)I"⟩
abbrev cX12_writer : ByteArray := prog_14_method_112_code
def yX12_writer : MethodName := ⟨RX12, "writer", "(II)I"⟩
abbrev cX12_missing : ByteArray := prog_14_method_113_code
def yX12_missing : MethodName := ⟨RX12, "missing", "()I"⟩
abbrev cX12_count : ByteArray := prog_14_method_114_code
def yX12_count : MethodName := ⟨RX12, "count", "(I)I"⟩
abbrev cX12_statementDigest : ByteArray := prog_14_method_115_code
def yX12_statementDigest : MethodName := ⟨RX12, "statementDigest", "(JI)J"⟩
abbrev cX12_rowDigest : ByteArray := prog_14_method_116_code
def yX12_rowDigest : MethodName := ⟨RX12, "rowDigest", "(JI)J"⟩
abbrev cX12_cellsDigest : ByteArray := prog_14_method_117_code
def yX12_cellsDigest : MethodName := ⟨RX12, "cellsDigest", "(JI)J"⟩
abbrev cX12_digest : ByteArray := prog_14_method_118_code
def yX12_digest : MethodName := ⟨RX12, "digest", "()J"⟩
def RJ6 : String := "java/lang/Integer"
def TJ6 : u_T := fun k => match k with
  | _ => ("", "", "", false)
def tyJ6 : Nat → FieldType := fun k => match k with
  | _ => .int
abbrev wsJ60 : List Cond := u_ws RJ6 TJ6 0
theorem nmJ6 : ∀ a, a < 0 → ∀ b, b < 0 → a ≠ b → (TJ6 a).2.1 ≠ (TJ6 b).2.1 := by decide +kernel
theorem tyJ6_ok : ∀ k, k < 0 → parseFieldDescriptor (TJ6 k).2.2.1 = some (tyJ6 k) := by decide +kernel
abbrev cJ6_bitCount_0f7a4 : ByteArray := prog_15_method_49_code
def yJ6_bitCount_0f7a4 : MethodName := ⟨RJ6, "bitCount", "(I)I"⟩
def RJ9 : String := "java/lang/Math"
def TJ9 : u_T := fun k => match k with
  | _ => ("", "", "", false)
def tyJ9 : Nat → FieldType := fun k => match k with
  | _ => .int
abbrev wsJ90 : List Cond := u_ws RJ9 TJ9 0
theorem nmJ9 : ∀ a, a < 0 → ∀ b, b < 0 → a ≠ b → (TJ9 a).2.1 ≠ (TJ9 b).2.1 := by decide +kernel
theorem tyJ9_ok : ∀ k, k < 0 → parseFieldDescriptor (TJ9 k).2.2.1 = some (tyJ9 k) := by decide +kernel
abbrev cJ9_abs_0f7a4 : ByteArray := prog_16_method_59_code
def yJ9_abs_0f7a4 : MethodName := ⟨RJ9, "abs", "(I)I"⟩
abbrev cJ9_max_7cf53 : ByteArray := prog_16_method_65_code
def yJ9_max_7cf53 : MethodName := ⟨RJ9, "max", "(II)I"⟩
abbrev cJ9_min_7cf53 : ByteArray := prog_16_method_69_code
def yJ9_min_7cf53 : MethodName := ⟨RJ9, "min", "(II)I"⟩
def RJ0 : String := "java/lang/String"
def TJ0 : u_T := fun k => match k with
  | _ => ("", "", "", false)
def tyJ0 : Nat → FieldType := fun k => match k with
  | _ => .int
abbrev wsJ00 : List Cond := u_ws RJ0 TJ0 0
theorem nmJ0 : ∀ a, a < 0 → ∀ b, b < 0 → a ≠ b → (TJ0 a).2.1 ≠ (TJ0 b).2.1 := by decide +kernel
theorem tyJ0_ok : ∀ k, k < 0 → parseFieldDescriptor (TJ0 k).2.2.1 = some (tyJ0 k) := by decide +kernel
abbrev cJ0_length_8abf5 : ByteArray := prog_17_method_54_code
def yJ0_length_8abf5 : MethodName := ⟨RJ0, "length", "()I"⟩
abbrev cJ0_charAt_5068e : ByteArray := prog_17_method_56_code
def yJ0_charAt_5068e : MethodName := ⟨RJ0, "charAt", "(I)C"⟩
abbrev cJ0_coder_7d493 : ByteArray := prog_17_method_152_code
def yJ0_coder_7d493 : MethodName := ⟨RJ0, "coder", "()B"⟩
abbrev cJ0_isLatin1_aae02 : ByteArray := prog_17_method_154_code
def yJ0_isLatin1_aae02 : MethodName := ⟨RJ0, "isLatin1", "()Z"⟩
abbrev cJ0_checkIndex_df160 : ByteArray := prog_17_method_155_code
def yJ0_checkIndex_df160 : MethodName := ⟨RJ0, "checkIndex", "(II)V"⟩
def RJ1 : String := "java/lang/StringLatin1"
def TJ1 : u_T := fun k => match k with
  | _ => ("", "", "", false)
def tyJ1 : Nat → FieldType := fun k => match k with
  | _ => .int
abbrev wsJ10 : List Cond := u_ws RJ1 TJ1 0
theorem nmJ1 : ∀ a, a < 0 → ∀ b, b < 0 → a ≠ b → (TJ1 a).2.1 ≠ (TJ1 b).2.1 := by decide +kernel
theorem tyJ1_ok : ∀ k, k < 0 → parseFieldDescriptor (TJ1 k).2.2.1 = some (tyJ1 k) := by decide +kernel
abbrev cJ1_charAt_3b067 : ByteArray := prog_18_method_2_code
def yJ1_charAt_3b067 : MethodName := ⟨RJ1, "charAt", "([BI)C"⟩
def RJ2 : String := "java/lang/StringUTF16"
def TJ2 : u_T := fun k => match k with
  | _ => ("", "", "", false)
def tyJ2 : Nat → FieldType := fun k => match k with
  | _ => .int
abbrev wsJ20 : List Cond := u_ws RJ2 TJ2 0
theorem nmJ2 : ∀ a, a < 0 → ∀ b, b < 0 → a ≠ b → (TJ2 a).2.1 ≠ (TJ2 b).2.1 := by decide +kernel
theorem tyJ2_ok : ∀ k, k < 0 → parseFieldDescriptor (TJ2 k).2.2.1 = some (tyJ2 k) := by decide +kernel
abbrev cJ2_getChar_3b067 : ByteArray := prog_19_method_5_code
def yJ2_getChar_3b067 : MethodName := ⟨RJ2, "getChar", "([BI)C"⟩
abbrev cJ2_length_9d52b : ByteArray := prog_19_method_6_code
def yJ2_length_9d52b : MethodName := ⟨RJ2, "length", "([B)I"⟩
abbrev cJ2_charAt_3b067 : ByteArray := prog_19_method_83_code
def yJ2_charAt_3b067 : MethodName := ⟨RJ2, "charAt", "([BI)C"⟩
abbrev cJ2_checkIndex_2214a : ByteArray := prog_19_method_91_code
def yJ2_checkIndex_2214a : MethodName := ⟨RJ2, "checkIndex", "(I[B)V"⟩
def RJ10 : String := "java/lang/System"
def TJ10 : u_T := fun k => match k with
  | _ => ("", "", "", false)
def tyJ10 : Nat → FieldType := fun k => match k with
  | _ => .int
abbrev wsJ100 : List Cond := u_ws RJ10 TJ10 0
theorem nmJ10 : ∀ a, a < 0 → ∀ b, b < 0 → a ≠ b → (TJ10 a).2.1 ≠ (TJ10 b).2.1 := by decide +kernel
theorem tyJ10_ok : ∀ k, k < 0 → parseFieldDescriptor (TJ10 k).2.2.1 = some (tyJ10 k) := by decide +kernel
def RJ3 : String := "jdk/internal/util/Preconditions"
def TJ3 : u_T := fun k => match k with
  | _ => ("", "", "", false)
def tyJ3 : Nat → FieldType := fun k => match k with
  | _ => .int
abbrev wsJ30 : List Cond := u_ws RJ3 TJ3 0
theorem nmJ3 : ∀ a, a < 0 → ∀ b, b < 0 → a ≠ b → (TJ3 a).2.1 ≠ (TJ3 b).2.1 := by decide +kernel
theorem tyJ3_ok : ∀ k, k < 0 → parseFieldDescriptor (TJ3 k).2.2.1 = some (tyJ3 k) := by decide +kernel
abbrev cJ3_checkIndex_8e157 : ByteArray := prog_21_method_11_code
def yJ3_checkIndex_8e157 : MethodName := ⟨RJ3, "checkIndex", "(IILjava/util/function/BiFunction;)I"⟩
def RL : String := "StrideTurnsLaw"
abbrev cL_law : ByteArray := code
def yL_law : MethodName := ⟨RL, "law", "([I)Z"⟩
end
section
/-! ===== the judgement sd_J: a frame of a method over a heap of numbered cells ===== -/
/-- the words that a callee's contract may stand on -/
def sd_tb : List Cond := lw_tbl.filter goodWord
theorem sd_mem {w : Cond} {i : Nat} (h : lw_tbl[i]? = some w ∧ goodWord w = true) : w ∈ sd_tb := List.mem_filter.mpr ⟨List.mem_of_getElem? h.1, h.2⟩
abbrev sd_CX : Type := Program × Launch × Env × Room × State × MethodId × Array Value × List Frame × Method × Code
abbrev sd_GX : Type := Nat × (Nat → ClassId) × (Nat → Nat → Nat) × (Nat → ClassId) × (Nat → Nat) × (Nat → Nat)
abbrev sd_MX : Type := MethodName × ByteArray × Nat × Option FieldType × Room
abbrev sd_HX : Type := Nat × (Nat → Nat → Int32) × (Nat → Nat → UInt64) × (Nat → Nat → Option Nat)
/-- the shapes of the cells: class and number of fields, or 100 and on and number of places -/
def sd_shl : List (Nat × Nat) := [(11, 17), (6, 4), (100, 6), (100, 6), (101, 144), (100, 144), (2, 3), (104, 5), (9, 6), (105, 3), (5, 4), (5, 4), (5, 4), (9, 6), (105, 3), (5, 4), (5, 4), (5, 4), (9, 6), (105, 3), (5, 4), (5, 4), (5, 4), (9, 6), (105, 3), (5, 4), (5, 4), (5, 4), (9, 6), (105, 3), (5, 4), (5, 4), (5, 4), (0, 3), (106, 20), (100, 6), (100, 6), (100, 6), (100, 6), (100, 6), (100, 6), (100, 6), (100, 6), (100, 6), (100, 6), (100, 6), (100, 6), (100, 6), (100, 6), (100, 6), (100, 6), (100, 6), (100, 6), (100, 6), (100, 6), (100, 5), (10, 6), (106, 4), (100, 60), (100, 60), (100, 60), (100, 60), (100, 6), (1, 4), (103, 30), (100, 30), (8, 3), (8, 3), (8, 3), (8, 3), (8, 3), (8, 3), (8, 3), (8, 3), (8, 3), (8, 3), (8, 3), (8, 3), (8, 3), (8, 3), (8, 3), (8, 3), (8, 3), (8, 3), (8, 3), (8, 3), (8, 3), (8, 3), (8, 3), (8, 3), (8, 3), (8, 3), (8, 3), (8, 3), (8, 3), (8, 3), (8, 3), (8, 3), (8, 3), (8, 3), (7, 11), (100, 6), (101, 1440), (100, 60), (100, 4), (100, 4), (100, 4), (4, 4), (100, 3), (100, 10), (6, 4), (100, 6), (100, 6), (101, 144), (100, 144), (6, 4), (100, 6), (100, 6), (101, 144), (100, 144), (4, 4), (100, 3), (100, 10), (4, 4), (100, 3), (100, 10), (12, 47), (100, 6), (100, 6), (101, 144), (100, 144), (101, 24), (100, 5), (100, 5), (100, 5), (100, 5), (100, 5), (100, 15), (100, 15), (100, 15), (100, 15), (100, 120), (100, 5), (100, 120), (100, 240), (100, 6), (100, 6), (101, 144), (101, 1440), (102, 1440), (100, 3), (100, 10), (100, 10), (101, 144), (101, 144), (100, 144), (100, 10), (100, 3), (100, 3)]
def sd_NT : Nat := 159
def sd_SH (c : Nat) : Nat × Nat := sd_shl.getD c (999, 0)
/-- the kind of a field: 0 int, 1 boolean, 2 reference -/
def sd_ftl : List (List Nat) := [[2, 0, 0], [2, 2, 2, 0], [2, 0, 0], [], [2, 2, 0, 0], [0, 0, 0, 0], [2, 2, 2, 2], [2, 2, 2, 2, 2, 2, 2, 2, 2, 0, 0], [0, 0, 0], [2, 0, 0, 0, 0, 0], [2, 2, 2, 2, 1, 1], [2, 2, 2, 2, 2, 2, 2, 2, 2, 2, 2, 2, 2, 2, 2, 0, 0], [2, 2, 2, 2, 0, 2, 0, 0, 2, 2, 2, 2, 2, 2, 2, 2, 2, 2, 0, 2, 0, 2, 0, 2, 2, 1, 0, 0, 0, 2, 2, 2, 2, 1, 0, 2, 2, 0, 0, 1, 2, 2, 2, 2, 2, 2, 2]]
def sd_FT (ci k : Nat) : Nat := (sd_ftl.getD ci []).getD k 9
abbrev sd_cls : List vw_C := [(RX0, TX0, 3), (RX1, TX1, 4), (RX2, TX2, 3), (RX3, TX3, 0), (RX4, TX4, 4), (RX5, TX5, 4), (RX6, TX6, 4), (RX7, TX7, 11), (RX8, TX8, 3), (RX9, TX9, 6), (RX10, TX10, 6), (RX11, TX11, 17), (RX12, TX12, 47)]
def sd_C (ci : Nat) : vw_C := sd_cls.getD ci (RX0, TX0, 0)
def sd_SZ (n : Nat) : Nat := ((sd_shl.take n).map (·.2)).sum
abbrev sd_tys (cA : Nat → ClassId) : List (ClassId × FieldType) := [(cA 100, .int), (cA 101, .double), (cA 102, .boolean), (cA 103, .object RX8), (cA 104, .object RX9), (cA 105, .object RX5), (cA 106, .array .int)]
def sd_fv (b0 : Nat) (h : sd_HX) (ci k j : Nat) : Value := if sd_FT ci j = 2 then va_rf ((h.2.2.2 k j).map (fun a => b0 + a)) else .int (h.2.1 k j)
def sd_arr (b0 : Nat) (h : sd_HX) (t k : Nat) : (Nat → Int32) ⊕ (Nat → Int64) ⊕ (Nat → UInt32) ⊕ (Nat → UInt64) ⊕ (Nat → Option Nat) :=
  if t = 101 then .inr (.inr (.inr (.inl (h.2.2.1 k)))) else if t < 103 then .inl (h.2.1 k) else .inr (.inr (.inr (.inr (fun j => (h.2.2.2 k j).map (fun a => b0 + a)))))
def sd_cel (G : sd_GX) (h : sd_HX) (k : Nat) : va_E :=
  if (sd_SH k).1 < 100 then .inr ((sd_SH k).1, (List.range (sd_SH k).2).map (fun j => sd_fv G.1 h (sd_SH k).1 k j))
  else .inl (G.2.2.2.1 (sd_SH k).1, (sd_SH k).2, sd_arr G.1 h (sd_SH k).1 k)
def sd_W (G : sd_GX) (h : sd_HX) : va_W := (List.range h.1).map (fun k => (G.1 + k, sd_cel G h k))
abbrev sd_dD (G : sd_GX) : va_G := (G.2.1, G.2.2.1)
def sd_HR (G : sd_GX) (h : sd_HX) (H : Heap) : Prop := va_P (sd_dD G) sd_cls (sd_W G h) H ∧ H.size = G.1 + h.1 ∧ h.1 ≤ sd_NT
abbrev sd_A (G : sd_GX) : Nat → Prop := fun q => G.1 ≤ q
abbrev sd_own (M : sd_MX) : String := M.1.cls
abbrev sd_K (G : sd_GX) (U : State) : Prop := va_K (sd_dD G) sd_cls (sd_tys G.2.2.2.1) U
abbrev sd_s (X : sd_CX) : State := X.2.2.2.2.1
/-- the text constants: their cells, their bytes, and what else of the start the text methods read -/
def sd_tx : List String := ["add", "sub", "mul", "rem", "max", "min", "and", "or", "xor", "copy", "pick", "sure", "times"]
def sd_len : List Nat := [3, 3, 3, 3, 3, 3, 3, 2, 3, 4, 4, 4, 5]
def sd_byt : List (List Int32) := [[97, 100, 100], [115, 117, 98], [109, 117, 108], [114, 101, 109], [109, 97, 120], [109, 105, 110], [97, 110, 100], [111, 114], [120, 111, 114], [99, 111, 112, 121], [112, 105, 99, 107], [115, 117, 114, 101], [116, 105, 109, 101, 115]]
def sd_ST (G : sd_GX) (U : State) (H : Heap) : Prop := vk_S 13 sd_len sd_byt G.2.2.2.2.1 G.2.2.2.2.2 (sd_A G) U H ∧ va_Z "java/lang/String" "COMPACT_STRINGS" "Z" (.int 1) (sd_A G) U H ∧ va_Zq "jdk/internal/util/Preconditions" "SIOOBE_FORMATTER" "Ljava/util/function/BiFunction;" (sd_A G) U H ∧ ∀ j, j < 13 → vk_R RX11 (439 + 2 * j) (sd_tx.getD j "") (G.2.2.2.2.1 j) U
theorem sd_ST.step {G : sd_GX} {s U : State} {H H1 : Heap} (h : sd_ST G s H) (hW : s.WarmedH U.vm) (hq : ∀ a : Nat, a < H.size → ¬ sd_A G a → H1[a]? = H[a]?) : sd_ST G U H1 := by
  obtain ⟨h1, h2, h3, h4⟩ := h
  exact ⟨(h1.moved hW.alike).kept hq, (h2.moved hW.alike).kept hq, (h3.moved hW.alike).kept hq, fun j hj => (h4 j hj).warm hW⟩
def sd_BD (G : sd_GX) (X : sd_CX) (M : sd_MX) : Prop :=
  X.1.tables.exec = Jvm.exec ∧ X.2.2.2.2.2.2.2.2.2.code = M.2.1 ∧ X.2.2.2.2.2.2.2.2.1.sig.returnType = M.2.2.2.1 ∧ X.2.2.2.2.2.2.2.2.2.maxLocals = M.2.2.1 ∧
  (sd_s X).vm.findClass M.1.cls = some (X.2.2.2.2.2.1).cls ∧ (∀ w ∈ sd_tb, w.before X.2.2.2.2.2.2.1 (sd_s X) = true) ∧ X.2.2.2.2.2.2.2.2.1.locks = false ∧ X.2.2.2.2.2.2.2.2.1.name = M.1.name ∧
  X.2.2.2.1 = M.2.2.2.2 ∧ sd_K G (sd_s X) ∧ G.1 ≤ (sd_s X).heap.size ∧ sd_ST G (sd_s X) (sd_s X).heap
abbrev sd_kc (G : sd_GX) (X : sd_CX) (h : sd_HX) : Nat := h.1 + G.1 - (sd_s X).heap.size
abbrev sd_ks (G : sd_GX) (X : sd_CX) (h : sd_HX) : Nat := sd_SZ h.1 - sd_SZ ((sd_s X).heap.size - G.1)
def sd_fit (G : sd_GX) (X : sd_CX) (h : sd_HX) : Prop := sd_kc G X h ≤ X.2.2.2.1.cells ∧ sd_ks G X h ≤ X.2.2.2.1.slots
def sd_J (G : sd_GX) (X : sd_CX) (Q : State → Prop) (M : sd_MX) (pc : Nat) (lo : List (Nat × Value)) (st : List Value) (h : sd_HX) : Prop :=
  sd_BD G X M → ∀ (H : Heap) (locs : List Loc) (ls : Array Slot), sd_HR G h H → va_S (sd_A G) (sd_s X).heap H locs → lv_has ls M.2.2.1 lo → sd_fit G X h →
    W X.1 X.2.1 X.2.2.1 X.2.2.2.1 (sd_s X) X.2.2.2.2.2.1 X.2.2.2.2.2.2.1 X.2.2.2.2.2.2.2.1 X.2.2.2.2.2.2.2.2.1 X.2.2.2.2.2.2.2.2.2 H locs (sd_kc G X h) (sd_ks G X h) Q (F0 X.2.2.2.2.2.1 pc ls st)
abbrev sd_d (M : sd_MX) (pc : Nat) (i : Instr) (len pc' : Nat) : Prop := decode M.2.1 pc = .ok (i, len) ∧ pc + len = pc'
abbrev sd_b (M : sd_MX) (pc : Nat) (i : Instr) (len pc' : Nat) (off : Int) (tgt : Nat) : Prop := decode M.2.1 pc = .ok (i, len) ∧ pc + len = pc' ∧ (pc : Int) + off = (tgt : Int)
section SJ
variable {G : sd_GX} {X : sd_CX} {Q : State → Prop} {M : sd_MX} {pc pc' tgt : Nat} {lo lo' : List (Nat × Value)} {st : List Value} {h : sd_HX}
theorem sd_J.sub (ks : List Nat) (hk : lv_pick lo ks = lo') (k : sd_J G X Q M pc lo' st h) : sd_J G X Q M pc lo st h := fun hB H locs ls hH hS hl hf => k hB H locs ls hH hS (lv_sub hl ks hk) hf

theorem sd_iconst {n : Int} {v : Int32} (d : sd_d M pc (.iconst n) 1 pc') (hv : Int32.ofInt n = v) (k : sd_J G X Q M pc' lo (.int v :: st) h) : sd_J G X Q M pc lo (st) h := fun hB H locs ls hH hS hl hf => by
  obtain ⟨d, rfl⟩ := d
  exact lv_iconst hB.1 hB.2.1 d hv (k hB H locs ls hH hS hl hf)
theorem sd_bipush {n : Int} {v : Int32} (d : sd_d M pc (.bipush n) 2 pc') (hv : (Int8.ofInt n).toInt32 = v) (k : sd_J G X Q M pc' lo (.int v :: st) h) : sd_J G X Q M pc lo (st) h := fun hB H locs ls hH hS hl hf => by
  obtain ⟨d, rfl⟩ := d
  exact lv_bipush hB.1 hB.2.1 d hv (k hB H locs ls hH hS hl hf)
theorem sd_sipush {n : Int} {v : Int32} (d : sd_d M pc (.sipush n) 3 pc') (hv : (Int16.ofInt n).toInt32 = v) (k : sd_J G X Q M pc' lo (.int v :: st) h) : sd_J G X Q M pc lo (st) h := fun hB H locs ls hH hS hl hf => by
  obtain ⟨d, rfl⟩ := d
  exact lv_sipush hB.1 hB.2.1 d hv (k hB H locs ls hH hS hl hf)
theorem sd_lconst {n : Fin 2} {v : Int64} (d : sd_d M pc (.lconst n) 1 pc') (hv : Int64.ofNat (n : Nat) = v) (k : sd_J G X Q M pc' lo (.long v :: st) h) : sd_J G X Q M pc lo (st) h := fun hB H locs ls hH hS hl hf => by
  obtain ⟨d, rfl⟩ := d
  exact lv_lconst hB.1 hB.2.1 d hv (k hB H locs ls hH hS hl hf)
theorem sd_iload_n {k : Fin 4} {i q : Nat} {x : Int32} (d : sd_d M pc (.iload_n k) 1 pc') (hi : (k : Nat) = i) (hq : lo[q]? = some (i, .int x)) (k : sd_J G X Q M pc' lo (.int x :: st) h) : sd_J G X Q M pc lo (st) h := fun hB H locs ls hH hS hl hf => by
  obtain ⟨d, rfl⟩ := d
  exact lv_iload_n hB.1 hB.2.1 d hi (lv_at hl q hq) (k hB H locs ls hH hS hl hf)
theorem sd_iload {i q : Nat} {x : Int32} (d : sd_d M pc (.iload i) 2 pc') (hq : lo[q]? = some (i, .int x)) (k : sd_J G X Q M pc' lo (.int x :: st) h) : sd_J G X Q M pc lo (st) h := fun hB H locs ls hH hS hl hf => by
  obtain ⟨d, rfl⟩ := d
  exact lv_iload hB.1 hB.2.1 d (lv_at hl q hq) (k hB H locs ls hH hS hl hf)
theorem sd_lload_n {k : Fin 4} {i q : Nat} {x : Int64} (d : sd_d M pc (.lload_n k) 1 pc') (hi : (k : Nat) = i) (hq : lo[q]? = some (i, .long x)) (k : sd_J G X Q M pc' lo (.long x :: st) h) : sd_J G X Q M pc lo (st) h := fun hB H locs ls hH hS hl hf => by
  obtain ⟨d, rfl⟩ := d
  exact lv_lload_n hB.1 hB.2.1 d hi (lv_at hl q hq) (k hB H locs ls hH hS hl hf)
theorem sd_lload {i q : Nat} {x : Int64} (d : sd_d M pc (.lload i) 2 pc') (hq : lo[q]? = some (i, .long x)) (k : sd_J G X Q M pc' lo (.long x :: st) h) : sd_J G X Q M pc lo (st) h := fun hB H locs ls hH hS hl hf => by
  obtain ⟨d, rfl⟩ := d
  exact lv_lload hB.1 hB.2.1 d (lv_at hl q hq) (k hB H locs ls hH hS hl hf)
theorem sd_fload_n {k : Fin 4} {i q : Nat} {x : UInt32} (d : sd_d M pc (.fload_n k) 1 pc') (hi : (k : Nat) = i) (hq : lo[q]? = some (i, .float x)) (k : sd_J G X Q M pc' lo (.float x :: st) h) : sd_J G X Q M pc lo (st) h := fun hB H locs ls hH hS hl hf => by
  obtain ⟨d, rfl⟩ := d
  exact lv_fload_n hB.1 hB.2.1 d hi (lv_at hl q hq) (k hB H locs ls hH hS hl hf)
theorem sd_fload {i q : Nat} {x : UInt32} (d : sd_d M pc (.fload i) 2 pc') (hq : lo[q]? = some (i, .float x)) (k : sd_J G X Q M pc' lo (.float x :: st) h) : sd_J G X Q M pc lo (st) h := fun hB H locs ls hH hS hl hf => by
  obtain ⟨d, rfl⟩ := d
  exact lv_fload hB.1 hB.2.1 d (lv_at hl q hq) (k hB H locs ls hH hS hl hf)
theorem sd_dload_n {k : Fin 4} {i q : Nat} {x : UInt64} (d : sd_d M pc (.dload_n k) 1 pc') (hi : (k : Nat) = i) (hq : lo[q]? = some (i, .double x)) (k : sd_J G X Q M pc' lo (.double x :: st) h) : sd_J G X Q M pc lo (st) h := fun hB H locs ls hH hS hl hf => by
  obtain ⟨d, rfl⟩ := d
  exact lv_dload_n hB.1 hB.2.1 d hi (lv_at hl q hq) (k hB H locs ls hH hS hl hf)
theorem sd_dload {i q : Nat} {x : UInt64} (d : sd_d M pc (.dload i) 2 pc') (hq : lo[q]? = some (i, .double x)) (k : sd_J G X Q M pc' lo (.double x :: st) h) : sd_J G X Q M pc lo (st) h := fun hB H locs ls hH hS hl hf => by
  obtain ⟨d, rfl⟩ := d
  exact lv_dload hB.1 hB.2.1 d (lv_at hl q hq) (k hB H locs ls hH hS hl hf)
theorem sd_aload_n {k : Fin 4} {i q : Nat} {x : Nat} (d : sd_d M pc (.aload_n k) 1 pc') (hi : (k : Nat) = i) (hq : lo[q]? = some (i, .ref x)) (k : sd_J G X Q M pc' lo (.ref x :: st) h) : sd_J G X Q M pc lo (st) h := fun hB H locs ls hH hS hl hf => by
  obtain ⟨d, rfl⟩ := d
  exact lv_aload_n hB.1 hB.2.1 d hi (lv_at hl q hq) (k hB H locs ls hH hS hl hf)
theorem sd_aload {i q : Nat} {x : Nat} (d : sd_d M pc (.aload i) 2 pc') (hq : lo[q]? = some (i, .ref x)) (k : sd_J G X Q M pc' lo (.ref x :: st) h) : sd_J G X Q M pc lo (st) h := fun hB H locs ls hH hS hl hf => by
  obtain ⟨d, rfl⟩ := d
  exact lv_aload hB.1 hB.2.1 d (lv_at hl q hq) (k hB H locs ls hH hS hl hf)
theorem sd_istore_n {k : Fin 4} {i : Nat} {x : Int32} (d : sd_d M pc (.istore_n k) 1 pc') (hi : (k : Nat) = i) (hn : i < M.2.2.1) (hl2 : (i, Value.int x) :: lo.filter (fun q => !(q.1 == i) && !(q.1 + 1 == i && q.2.category == 2)) = lo') (k : sd_J G X Q M pc' lo' st h) : sd_J G X Q M pc lo (.int x :: st) h := fun hB H locs ls hH hS hl hf => by
  obtain ⟨d, rfl⟩ := d
  exact lv_istore_n hB.1 hB.2.1 d hi hl hn hl2 (fun ls' hl' => k hB H locs ls' hH hS hl' hf)
theorem sd_istore {i : Nat} {x : Int32} (d : sd_d M pc (.istore i) 2 pc') (hn : i < M.2.2.1) (hl2 : (i, Value.int x) :: lo.filter (fun q => !(q.1 == i) && !(q.1 + 1 == i && q.2.category == 2)) = lo') (k : sd_J G X Q M pc' lo' st h) : sd_J G X Q M pc lo (.int x :: st) h := fun hB H locs ls hH hS hl hf => by
  obtain ⟨d, rfl⟩ := d
  exact lv_istore hB.1 hB.2.1 d hl hn hl2 (fun ls' hl' => k hB H locs ls' hH hS hl' hf)
theorem sd_lstore_n {k : Fin 4} {i : Nat} {x : Int64} (d : sd_d M pc (.lstore_n k) 1 pc') (hi : (k : Nat) = i) (hn : i + 1 < M.2.2.1) (hl2 : (i, Value.long x) :: lo.filter (fun q => !(q.1 == i) && (!(q.1 == i + 1) && !(q.1 + 1 == i && q.2.category == 2))) = lo') (k : sd_J G X Q M pc' lo' st h) : sd_J G X Q M pc lo (.long x :: st) h := fun hB H locs ls hH hS hl hf => by
  obtain ⟨d, rfl⟩ := d
  exact lv_lstore_n hB.1 hB.2.1 d hi hl hn hl2 (fun ls' hl' => k hB H locs ls' hH hS hl' hf)
theorem sd_lstore {i : Nat} {x : Int64} (d : sd_d M pc (.lstore i) 2 pc') (hn : i + 1 < M.2.2.1) (hl2 : (i, Value.long x) :: lo.filter (fun q => !(q.1 == i) && (!(q.1 == i + 1) && !(q.1 + 1 == i && q.2.category == 2))) = lo') (k : sd_J G X Q M pc' lo' st h) : sd_J G X Q M pc lo (.long x :: st) h := fun hB H locs ls hH hS hl hf => by
  obtain ⟨d, rfl⟩ := d
  exact lv_lstore hB.1 hB.2.1 d hl hn hl2 (fun ls' hl' => k hB H locs ls' hH hS hl' hf)
theorem sd_fstore_n {k : Fin 4} {i : Nat} {x : UInt32} (d : sd_d M pc (.fstore_n k) 1 pc') (hi : (k : Nat) = i) (hn : i < M.2.2.1) (hl2 : (i, Value.float x) :: lo.filter (fun q => !(q.1 == i) && !(q.1 + 1 == i && q.2.category == 2)) = lo') (k : sd_J G X Q M pc' lo' st h) : sd_J G X Q M pc lo (.float x :: st) h := fun hB H locs ls hH hS hl hf => by
  obtain ⟨d, rfl⟩ := d
  exact lv_fstore_n hB.1 hB.2.1 d hi hl hn hl2 (fun ls' hl' => k hB H locs ls' hH hS hl' hf)
theorem sd_fstore {i : Nat} {x : UInt32} (d : sd_d M pc (.fstore i) 2 pc') (hn : i < M.2.2.1) (hl2 : (i, Value.float x) :: lo.filter (fun q => !(q.1 == i) && !(q.1 + 1 == i && q.2.category == 2)) = lo') (k : sd_J G X Q M pc' lo' st h) : sd_J G X Q M pc lo (.float x :: st) h := fun hB H locs ls hH hS hl hf => by
  obtain ⟨d, rfl⟩ := d
  exact lv_fstore hB.1 hB.2.1 d hl hn hl2 (fun ls' hl' => k hB H locs ls' hH hS hl' hf)
theorem sd_dstore_n {k : Fin 4} {i : Nat} {x : UInt64} (d : sd_d M pc (.dstore_n k) 1 pc') (hi : (k : Nat) = i) (hn : i + 1 < M.2.2.1) (hl2 : (i, Value.double x) :: lo.filter (fun q => !(q.1 == i) && (!(q.1 == i + 1) && !(q.1 + 1 == i && q.2.category == 2))) = lo') (k : sd_J G X Q M pc' lo' st h) : sd_J G X Q M pc lo (.double x :: st) h := fun hB H locs ls hH hS hl hf => by
  obtain ⟨d, rfl⟩ := d
  exact lv_dstore_n hB.1 hB.2.1 d hi hl hn hl2 (fun ls' hl' => k hB H locs ls' hH hS hl' hf)
theorem sd_dstore {i : Nat} {x : UInt64} (d : sd_d M pc (.dstore i) 2 pc') (hn : i + 1 < M.2.2.1) (hl2 : (i, Value.double x) :: lo.filter (fun q => !(q.1 == i) && (!(q.1 == i + 1) && !(q.1 + 1 == i && q.2.category == 2))) = lo') (k : sd_J G X Q M pc' lo' st h) : sd_J G X Q M pc lo (.double x :: st) h := fun hB H locs ls hH hS hl hf => by
  obtain ⟨d, rfl⟩ := d
  exact lv_dstore hB.1 hB.2.1 d hl hn hl2 (fun ls' hl' => k hB H locs ls' hH hS hl' hf)
theorem sd_astore_n {k : Fin 4} {i : Nat} {x : Nat} (d : sd_d M pc (.astore_n k) 1 pc') (hi : (k : Nat) = i) (hn : i < M.2.2.1) (hl2 : (i, Value.ref x) :: lo.filter (fun q => !(q.1 == i) && !(q.1 + 1 == i && q.2.category == 2)) = lo') (k : sd_J G X Q M pc' lo' st h) : sd_J G X Q M pc lo (.ref x :: st) h := fun hB H locs ls hH hS hl hf => by
  obtain ⟨d, rfl⟩ := d
  exact lv_astore_n hB.1 hB.2.1 d hi hl hn hl2 (fun ls' hl' => k hB H locs ls' hH hS hl' hf)
theorem sd_astore {i : Nat} {x : Nat} (d : sd_d M pc (.astore i) 2 pc') (hn : i < M.2.2.1) (hl2 : (i, Value.ref x) :: lo.filter (fun q => !(q.1 == i) && !(q.1 + 1 == i && q.2.category == 2)) = lo') (k : sd_J G X Q M pc' lo' st h) : sd_J G X Q M pc lo (.ref x :: st) h := fun hB H locs ls hH hS hl hf => by
  obtain ⟨d, rfl⟩ := d
  exact lv_astore hB.1 hB.2.1 d hl hn hl2 (fun ls' hl' => k hB H locs ls' hH hS hl' hf)
theorem sd_iinc {i q : Nat} {n : Int} {x v : Int32} (d : sd_d M pc (.iinc i n) 3 pc') (hq : lo[q]? = some (i, .int x)) (hv : x + Int32.ofInt n = v) (hn : i < M.2.2.1) (hl2 : (i, Value.int v) :: lo.filter (fun q => !(q.1 == i) && !(q.1 + 1 == i && q.2.category == 2)) = lo') (k : sd_J G X Q M pc' lo' st h) : sd_J G X Q M pc lo st h := fun hB H locs ls hH hS hl hf => by
  obtain ⟨d, rfl⟩ := d
  exact lv_iinc hB.1 hB.2.1 d hl (k := q) hq hv hn hl2 (fun ls' hl' => k hB H locs ls' hH hS hl' hf)
theorem sd_iadd {x y : Int32} (d : sd_d M pc (.iadd) 1 pc') (k : sd_J G X Q M pc' lo (.int (x + y) :: st) h) : sd_J G X Q M pc lo (.int y :: .int x :: st) h := fun hB H locs ls hH hS hl hf => by
  obtain ⟨d, rfl⟩ := d
  exact lv_iadd hB.1 hB.2.1 d (k hB H locs ls hH hS hl hf)
theorem sd_isub {x y : Int32} (d : sd_d M pc (.isub) 1 pc') (k : sd_J G X Q M pc' lo (.int (x - y) :: st) h) : sd_J G X Q M pc lo (.int y :: .int x :: st) h := fun hB H locs ls hH hS hl hf => by
  obtain ⟨d, rfl⟩ := d
  exact lv_isub hB.1 hB.2.1 d (k hB H locs ls hH hS hl hf)
theorem sd_imul {x y : Int32} (d : sd_d M pc (.imul) 1 pc') (k : sd_J G X Q M pc' lo (.int (x * y) :: st) h) : sd_J G X Q M pc lo (.int y :: .int x :: st) h := fun hB H locs ls hH hS hl hf => by
  obtain ⟨d, rfl⟩ := d
  exact lv_imul hB.1 hB.2.1 d (k hB H locs ls hH hS hl hf)
theorem sd_iand {x y : Int32} (d : sd_d M pc (.iand) 1 pc') (k : sd_J G X Q M pc' lo (.int (x &&& y) :: st) h) : sd_J G X Q M pc lo (.int y :: .int x :: st) h := fun hB H locs ls hH hS hl hf => by
  obtain ⟨d, rfl⟩ := d
  exact lv_iand hB.1 hB.2.1 d (k hB H locs ls hH hS hl hf)
theorem sd_ior {x y : Int32} (d : sd_d M pc (.ior) 1 pc') (k : sd_J G X Q M pc' lo (.int (x ||| y) :: st) h) : sd_J G X Q M pc lo (.int y :: .int x :: st) h := fun hB H locs ls hH hS hl hf => by
  obtain ⟨d, rfl⟩ := d
  exact lv_ior hB.1 hB.2.1 d (k hB H locs ls hH hS hl hf)
theorem sd_ixor {x y : Int32} (d : sd_d M pc (.ixor) 1 pc') (k : sd_J G X Q M pc' lo (.int (x ^^^ y) :: st) h) : sd_J G X Q M pc lo (.int y :: .int x :: st) h := fun hB H locs ls hH hS hl hf => by
  obtain ⟨d, rfl⟩ := d
  exact lv_ixor hB.1 hB.2.1 d (k hB H locs ls hH hS hl hf)
theorem sd_ishl {x y : Int32} (d : sd_d M pc (.ishl) 1 pc') (k : sd_J G X Q M pc' lo (.int (x <<< (y &&& 31)) :: st) h) : sd_J G X Q M pc lo (.int y :: .int x :: st) h := fun hB H locs ls hH hS hl hf => by
  obtain ⟨d, rfl⟩ := d
  exact lv_ishl hB.1 hB.2.1 d (k hB H locs ls hH hS hl hf)
theorem sd_ishr {x y : Int32} (d : sd_d M pc (.ishr) 1 pc') (k : sd_J G X Q M pc' lo (.int (x >>> (y &&& 31)) :: st) h) : sd_J G X Q M pc lo (.int y :: .int x :: st) h := fun hB H locs ls hH hS hl hf => by
  obtain ⟨d, rfl⟩ := d
  exact lv_ishr hB.1 hB.2.1 d (k hB H locs ls hH hS hl hf)
theorem sd_iushr {x y : Int32} {v : Int32} (d : sd_d M pc (.iushr) 1 pc') (hv : (x.toUInt32 >>> (y.toUInt32 &&& Int32.toUInt32 31)).toInt32 = v) (k : sd_J G X Q M pc' lo (.int v :: st) h) : sd_J G X Q M pc lo (.int y :: .int x :: st) h := fun hB H locs ls hH hS hl hf => by
  obtain ⟨d, rfl⟩ := d
  exact lv_iushr hB.1 hB.2.1 d hv (k hB H locs ls hH hS hl hf)
theorem sd_idiv {x y : Int32} (d : sd_d M pc (.idiv) 1 pc') (hne : ¬ y = 0) (k : sd_J G X Q M pc' lo (.int (x / y) :: st) h) : sd_J G X Q M pc lo (.int y :: .int x :: st) h := fun hB H locs ls hH hS hl hf => by
  obtain ⟨d, rfl⟩ := d
  exact lv_idiv hB.1 hB.2.1 d hne (k hB H locs ls hH hS hl hf)
theorem sd_irem {x y : Int32} (d : sd_d M pc (.irem) 1 pc') (hne : ¬ y = 0) (k : sd_J G X Q M pc' lo (.int (x - x / y * y) :: st) h) : sd_J G X Q M pc lo (.int y :: .int x :: st) h := fun hB H locs ls hH hS hl hf => by
  obtain ⟨d, rfl⟩ := d
  exact lv_irem hB.1 hB.2.1 d hne (k hB H locs ls hH hS hl hf)
theorem sd_ineg {x : Int32} (d : sd_d M pc (.ineg) 1 pc') (k : sd_J G X Q M pc' lo (.int (-x) :: st) h) : sd_J G X Q M pc lo (.int x :: st) h := fun hB H locs ls hH hS hl hf => by
  obtain ⟨d, rfl⟩ := d
  exact lv_ineg hB.1 hB.2.1 d (k hB H locs ls hH hS hl hf)
theorem sd_ladd {x y : Int64} (d : sd_d M pc (.ladd) 1 pc') (k : sd_J G X Q M pc' lo (.long (x + y) :: st) h) : sd_J G X Q M pc lo (.long y :: .long x :: st) h := fun hB H locs ls hH hS hl hf => by
  obtain ⟨d, rfl⟩ := d
  exact lv_ladd hB.1 hB.2.1 d (k hB H locs ls hH hS hl hf)
theorem sd_lsub {x y : Int64} (d : sd_d M pc (.lsub) 1 pc') (k : sd_J G X Q M pc' lo (.long (x - y) :: st) h) : sd_J G X Q M pc lo (.long y :: .long x :: st) h := fun hB H locs ls hH hS hl hf => by
  obtain ⟨d, rfl⟩ := d
  exact lv_lsub hB.1 hB.2.1 d (k hB H locs ls hH hS hl hf)
theorem sd_lmul {x y : Int64} (d : sd_d M pc (.lmul) 1 pc') (k : sd_J G X Q M pc' lo (.long (x * y) :: st) h) : sd_J G X Q M pc lo (.long y :: .long x :: st) h := fun hB H locs ls hH hS hl hf => by
  obtain ⟨d, rfl⟩ := d
  exact lv_lmul hB.1 hB.2.1 d (k hB H locs ls hH hS hl hf)
theorem sd_lor {x y : Int64} (d : sd_d M pc (.lor) 1 pc') (k : sd_J G X Q M pc' lo (.long (x ||| y) :: st) h) : sd_J G X Q M pc lo (.long y :: .long x :: st) h := fun hB H locs ls hH hS hl hf => by
  obtain ⟨d, rfl⟩ := d
  exact lv_lor hB.1 hB.2.1 d (k hB H locs ls hH hS hl hf)
theorem sd_lshl {x v : Int64} {y : Int32} (d : sd_d M pc (.lshl) 1 pc') (hv : x <<< (y.toInt64 &&& 63) = v) (k : sd_J G X Q M pc' lo (.long v :: st) h) : sd_J G X Q M pc lo (.int y :: .long x :: st) h := fun hB H locs ls hH hS hl hf => by
  obtain ⟨d, rfl⟩ := d
  exact lv_lshl hB.1 hB.2.1 d hv (k hB H locs ls hH hS hl hf)
theorem sd_i2l {x : Int32} {v : Int64} (d : sd_d M pc (.i2l) 1 pc') (hv : x.toInt64 = v) (k : sd_J G X Q M pc' lo (.long v :: st) h) : sd_J G X Q M pc lo (.int x :: st) h := fun hB H locs ls hH hS hl hf => by
  obtain ⟨d, rfl⟩ := d
  exact lv_i2l hB.1 hB.2.1 d hv (k hB H locs ls hH hS hl hf)
theorem sd_l2i {x : Int64} {v : Int32} (d : sd_d M pc (.l2i) 1 pc') (hv : x.toInt32 = v) (k : sd_J G X Q M pc' lo (.int v :: st) h) : sd_J G X Q M pc lo (.long x :: st) h := fun hB H locs ls hH hS hl hf => by
  obtain ⟨d, rfl⟩ := d
  exact lv_l2i hB.1 hB.2.1 d hv (k hB H locs ls hH hS hl hf)
theorem sd_i2s {x v : Int32} (d : sd_d M pc (.i2s) 1 pc') (hv : x.toInt16.toInt32 = v) (k : sd_J G X Q M pc' lo (.int v :: st) h) : sd_J G X Q M pc lo (.int x :: st) h := fun hB H locs ls hH hS hl hf => by
  obtain ⟨d, rfl⟩ := d
  exact lv_i2s hB.1 hB.2.1 d hv (k hB H locs ls hH hS hl hf)
theorem sd_lcmp {x y : Int64} (d : sd_d M pc (.lcmp) 1 pc') (k : sd_J G X Q M pc' lo (.int (lg_cmp x y) :: st) h) : sd_J G X Q M pc lo (.long y :: .long x :: st) h := fun hB H locs ls hH hS hl hf => by
  obtain ⟨d, rfl⟩ := d
  exact W.lcmp hB.1 hB.2.1 d (k hB H locs ls hH hS hl hf)
theorem sd_fadd {x y : UInt32} (d : sd_d M pc (.fadd) 1 pc') (hne : vf_n32 (FP.fadd x y)) (k : sd_J G X Q M pc' lo (.float (FP.fadd x y) :: st) h) : sd_J G X Q M pc lo (.float y :: .float x :: st) h := fun hB H locs ls hH hS hl hf => by
  obtain ⟨d, rfl⟩ := d
  exact lv_fadd hB.1 hB.2.1 d hne (k hB H locs ls hH hS hl hf)
theorem sd_fsub {x y : UInt32} (d : sd_d M pc (.fsub) 1 pc') (hne : vf_n32 (FP.fsub x y)) (k : sd_J G X Q M pc' lo (.float (FP.fsub x y) :: st) h) : sd_J G X Q M pc lo (.float y :: .float x :: st) h := fun hB H locs ls hH hS hl hf => by
  obtain ⟨d, rfl⟩ := d
  exact lv_fsub hB.1 hB.2.1 d hne (k hB H locs ls hH hS hl hf)
theorem sd_fmul {x y : UInt32} (d : sd_d M pc (.fmul) 1 pc') (hne : vf_n32 (FP.fmul x y)) (k : sd_J G X Q M pc' lo (.float (FP.fmul x y) :: st) h) : sd_J G X Q M pc lo (.float y :: .float x :: st) h := fun hB H locs ls hH hS hl hf => by
  obtain ⟨d, rfl⟩ := d
  exact lv_fmul hB.1 hB.2.1 d hne (k hB H locs ls hH hS hl hf)
theorem sd_fdiv {x y : UInt32} (d : sd_d M pc (.fdiv) 1 pc') (hne : vf_n32 (FP.fdiv x y)) (k : sd_J G X Q M pc' lo (.float (FP.fdiv x y) :: st) h) : sd_J G X Q M pc lo (.float y :: .float x :: st) h := fun hB H locs ls hH hS hl hf => by
  obtain ⟨d, rfl⟩ := d
  exact lv_fdiv hB.1 hB.2.1 d hne (k hB H locs ls hH hS hl hf)
theorem sd_frem {x y : UInt32} (d : sd_d M pc (.frem) 1 pc') (hne : vf_n32 (FP.frem x y)) (k : sd_J G X Q M pc' lo (.float (FP.frem x y) :: st) h) : sd_J G X Q M pc lo (.float y :: .float x :: st) h := fun hB H locs ls hH hS hl hf => by
  obtain ⟨d, rfl⟩ := d
  exact lv_frem hB.1 hB.2.1 d hne (k hB H locs ls hH hS hl hf)
theorem sd_dadd {x y : UInt64} (d : sd_d M pc (.dadd) 1 pc') (hne : vf_n64 (FP.dadd x y)) (k : sd_J G X Q M pc' lo (.double (FP.dadd x y) :: st) h) : sd_J G X Q M pc lo (.double y :: .double x :: st) h := fun hB H locs ls hH hS hl hf => by
  obtain ⟨d, rfl⟩ := d
  exact lv_dadd hB.1 hB.2.1 d hne (k hB H locs ls hH hS hl hf)
theorem sd_dsub {x y : UInt64} (d : sd_d M pc (.dsub) 1 pc') (hne : vf_n64 (FP.dsub x y)) (k : sd_J G X Q M pc' lo (.double (FP.dsub x y) :: st) h) : sd_J G X Q M pc lo (.double y :: .double x :: st) h := fun hB H locs ls hH hS hl hf => by
  obtain ⟨d, rfl⟩ := d
  exact lv_dsub hB.1 hB.2.1 d hne (k hB H locs ls hH hS hl hf)
theorem sd_dmul {x y : UInt64} (d : sd_d M pc (.dmul) 1 pc') (hne : vf_n64 (FP.dmul x y)) (k : sd_J G X Q M pc' lo (.double (FP.dmul x y) :: st) h) : sd_J G X Q M pc lo (.double y :: .double x :: st) h := fun hB H locs ls hH hS hl hf => by
  obtain ⟨d, rfl⟩ := d
  exact lv_dmul hB.1 hB.2.1 d hne (k hB H locs ls hH hS hl hf)
theorem sd_ddiv {x y : UInt64} (d : sd_d M pc (.ddiv) 1 pc') (hne : vf_n64 (FP.ddiv x y)) (k : sd_J G X Q M pc' lo (.double (FP.ddiv x y) :: st) h) : sd_J G X Q M pc lo (.double y :: .double x :: st) h := fun hB H locs ls hH hS hl hf => by
  obtain ⟨d, rfl⟩ := d
  exact lv_ddiv hB.1 hB.2.1 d hne (k hB H locs ls hH hS hl hf)
theorem sd_drem {x y : UInt64} (d : sd_d M pc (.drem) 1 pc') (hne : vf_n64 (FP.drem x y)) (k : sd_J G X Q M pc' lo (.double (FP.drem x y) :: st) h) : sd_J G X Q M pc lo (.double y :: .double x :: st) h := fun hB H locs ls hH hS hl hf => by
  obtain ⟨d, rfl⟩ := d
  exact lv_drem hB.1 hB.2.1 d hne (k hB H locs ls hH hS hl hf)
theorem sd_dneg {x : UInt64} (d : sd_d M pc (.dneg) 1 pc') (k : sd_J G X Q M pc' lo (.double (FP.dneg x) :: st) h) : sd_J G X Q M pc lo (.double x :: st) h := fun hB H locs ls hH hS hl hf => by
  obtain ⟨d, rfl⟩ := d
  exact lv_dneg hB.1 hB.2.1 d (k hB H locs ls hH hS hl hf)
theorem sd_fcmp {x y : UInt32} {op : CmpOp} (d : sd_d M pc (.fcmp op) 1 pc') (k : sd_J G X Q M pc' lo (.int (Op.cmpValue (FP.fcmp x y) op) :: st) h) : sd_J G X Q M pc lo (.float y :: .float x :: st) h := fun hB H locs ls hH hS hl hf => by
  obtain ⟨d, rfl⟩ := d
  exact lv_fcmp hB.1 hB.2.1 d (k hB H locs ls hH hS hl hf)
theorem sd_dcmp {x y : UInt64} {op : CmpOp} (d : sd_d M pc (.dcmp op) 1 pc') (k : sd_J G X Q M pc' lo (.int (Op.cmpValue (FP.dcmp x y) op) :: st) h) : sd_J G X Q M pc lo (.double y :: .double x :: st) h := fun hB H locs ls hH hS hl hf => by
  obtain ⟨d, rfl⟩ := d
  exact lv_dcmp hB.1 hB.2.1 d (k hB H locs ls hH hS hl hf)
theorem sd_i2f {x : Int32} (d : sd_d M pc (.i2f) 1 pc') (k : sd_J G X Q M pc' lo (.float (FP.i2f x) :: st) h) : sd_J G X Q M pc lo (.int x :: st) h := fun hB H locs ls hH hS hl hf => by
  obtain ⟨d, rfl⟩ := d
  exact lv_i2f hB.1 hB.2.1 d (k hB H locs ls hH hS hl hf)
theorem sd_i2d {x : Int32} (d : sd_d M pc (.i2d) 1 pc') (k : sd_J G X Q M pc' lo (.double (FP.i2d x) :: st) h) : sd_J G X Q M pc lo (.int x :: st) h := fun hB H locs ls hH hS hl hf => by
  obtain ⟨d, rfl⟩ := d
  exact lv_i2d hB.1 hB.2.1 d (k hB H locs ls hH hS hl hf)
theorem sd_l2d {x : Int64} (d : sd_d M pc (.l2d) 1 pc') (k : sd_J G X Q M pc' lo (.double (FP.l2d x) :: st) h) : sd_J G X Q M pc lo (.long x :: st) h := fun hB H locs ls hH hS hl hf => by
  obtain ⟨d, rfl⟩ := d
  exact lv_l2d hB.1 hB.2.1 d (k hB H locs ls hH hS hl hf)
theorem sd_d2i {x : UInt64} (d : sd_d M pc (.d2i) 1 pc') (k : sd_J G X Q M pc' lo (.int (FP.d2i x) :: st) h) : sd_J G X Q M pc lo (.double x :: st) h := fun hB H locs ls hH hS hl hf => by
  obtain ⟨d, rfl⟩ := d
  exact lv_d2i hB.1 hB.2.1 d (k hB H locs ls hH hS hl hf)
theorem sd_d2l {x : UInt64} (d : sd_d M pc (.d2l) 1 pc') (k : sd_J G X Q M pc' lo (.long (FP.d2l x) :: st) h) : sd_J G X Q M pc lo (.double x :: st) h := fun hB H locs ls hH hS hl hf => by
  obtain ⟨d, rfl⟩ := d
  exact lv_d2l hB.1 hB.2.1 d (k hB H locs ls hH hS hl hf)
theorem sd_f2d {x : UInt32} (d : sd_d M pc (.f2d) 1 pc') (hne : vf_n64 (FP.f2d x)) (k : sd_J G X Q M pc' lo (.double (FP.f2d x) :: st) h) : sd_J G X Q M pc lo (.float x :: st) h := fun hB H locs ls hH hS hl hf => by
  obtain ⟨d, rfl⟩ := d
  exact lv_f2d hB.1 hB.2.1 d hne (k hB H locs ls hH hS hl hf)
theorem sd_d2f {x : UInt64} (d : sd_d M pc (.d2f) 1 pc') (hne : vf_n32 (FP.d2f x)) (k : sd_J G X Q M pc' lo (.float (FP.d2f x) :: st) h) : sd_J G X Q M pc lo (.double x :: st) h := fun hB H locs ls hH hS hl hf => by
  obtain ⟨d, rfl⟩ := d
  exact lv_d2f hB.1 hB.2.1 d hne (k hB H locs ls hH hS hl hf)
theorem sd_fconst0 (d : sd_d M pc (.fconst 0) 1 pc') (k : sd_J G X Q M pc' lo (.float FP.fconst0 :: st) h) : sd_J G X Q M pc lo (st) h := fun hB H locs ls hH hS hl hf => by
  obtain ⟨d, rfl⟩ := d
  exact lv_fconst0 hB.1 hB.2.1 d (k hB H locs ls hH hS hl hf)
theorem sd_dconst0 (d : sd_d M pc (.dconst 0) 1 pc') (k : sd_J G X Q M pc' lo (.double FP.dconst0 :: st) h) : sd_J G X Q M pc lo (st) h := fun hB H locs ls hH hS hl hf => by
  obtain ⟨d, rfl⟩ := d
  exact lv_dconst0 hB.1 hB.2.1 d (k hB H locs ls hH hS hl hf)
theorem sd_dconst1 (d : sd_d M pc (.dconst 1) 1 pc') (k : sd_J G X Q M pc' lo (.double FP.dconst1 :: st) h) : sd_J G X Q M pc lo (st) h := fun hB H locs ls hH hS hl hf => by
  obtain ⟨d, rfl⟩ := d
  exact lv_dconst1 hB.1 hB.2.1 d (k hB H locs ls hH hS hl hf)
theorem sd_dup {v : Value} (d : sd_d M pc (.dup) 1 pc') (hv : v.category = 1) (k : sd_J G X Q M pc' lo (v :: v :: st) h) : sd_J G X Q M pc lo (v :: st) h := fun hB H locs ls hH hS hl hf => by
  obtain ⟨d, rfl⟩ := d
  exact lv_dup hB.1 hB.2.1 d hv (k hB H locs ls hH hS hl hf)
theorem sd_pop {v : Value} (d : sd_d M pc (.pop) 1 pc') (hv : v.category = 1) (k : sd_J G X Q M pc' lo (st) h) : sd_J G X Q M pc lo (v :: st) h := fun hB H locs ls hH hS hl hf => by
  obtain ⟨d, rfl⟩ := d
  exact lv_pop hB.1 hB.2.1 d hv (k hB H locs ls hH hS hl hf)
theorem sd_dup_x1 {v w : Value} (d : sd_d M pc (.dup_x1) 1 pc') (hv : v.category = 1) (hw : w.category = 1) (k : sd_J G X Q M pc' lo (v :: w :: v :: st) h) : sd_J G X Q M pc lo (v :: w :: st) h := fun hB H locs ls hH hS hl hf => by
  obtain ⟨d, rfl⟩ := d
  exact lv_dup_x1 hB.1 hB.2.1 d hv hw (k hB H locs ls hH hS hl hf)
theorem sd_dup2 {v w : Value} (d : sd_d M pc (.dup2) 1 pc') (hv : v.category = 1) (hw : w.category = 1) (k : sd_J G X Q M pc' lo (v :: w :: v :: w :: st) h) : sd_J G X Q M pc lo (v :: w :: st) h := fun hB H locs ls hH hS hl hf => by
  obtain ⟨d, rfl⟩ := d
  exact lv_dup2_11 hB.1 hB.2.1 d hv hw (k hB H locs ls hH hS hl hf)
theorem sd_ldc {idx : Nat} {v : Int32} (d : sd_d M pc (.ldc idx) 2 pc') (hw : Cond.constant M.1.cls idx v ∈ sd_tb) (k : sd_J G X Q M pc' lo (.int v :: st) h) : sd_J G X Q M pc lo st h := fun hB H locs ls hH hS hl hf => by
  obtain ⟨d, rfl⟩ := d
  exact lv_ldc hB.1 hB.2.1 hB.2.2.2.2.1 (hB.2.2.2.2.2.1 _ hw) d (k hB H locs ls hH hS hl hf)
theorem sd_ldcw {idx : Nat} {v : Int32} (d : sd_d M pc (.ldc_w idx) 3 pc') (hw : Cond.constant M.1.cls idx v ∈ sd_tb) (k : sd_J G X Q M pc' lo (.int v :: st) h) : sd_J G X Q M pc lo st h := fun hB H locs ls hH hS hl hf => by
  obtain ⟨d, rfl⟩ := d
  exact lv_ldcw hB.1 hB.2.1 hB.2.2.2.2.1 (hB.2.2.2.2.2.1 _ hw) d (k hB H locs ls hH hS hl hf)
theorem sd_ldcf {idx : Nat} {v : UInt32} (d : sd_d M pc (.ldc idx) 2 pc') (hw : Cond.constantFloat M.1.cls idx v ∈ sd_tb) (k : sd_J G X Q M pc' lo (.float v :: st) h) : sd_J G X Q M pc lo st h := fun hB H locs ls hH hS hl hf => by
  obtain ⟨d, rfl⟩ := d
  exact lv_ldcf hB.1 hB.2.1 hB.2.2.2.2.1 (hB.2.2.2.2.2.1 _ hw) d (k hB H locs ls hH hS hl hf)
theorem sd_ldc2 {idx : Nat} {v : Int64} (d : sd_d M pc (.ldc2_w idx) 3 pc') (hw : Cond.constantLong M.1.cls idx v ∈ sd_tb) (k : sd_J G X Q M pc' lo (.long v :: st) h) : sd_J G X Q M pc lo st h := fun hB H locs ls hH hS hl hf => by
  obtain ⟨d, rfl⟩ := d
  exact lv_ldc2 hB.1 hB.2.1 hB.2.2.2.2.1 (hB.2.2.2.2.2.1 _ hw) d (k hB H locs ls hH hS hl hf)
theorem sd_ldc2d {idx : Nat} {v : UInt64} (d : sd_d M pc (.ldc2_w idx) 3 pc') (hw : Cond.constantDouble M.1.cls idx v ∈ sd_tb) (k : sd_J G X Q M pc' lo (.double v :: st) h) : sd_J G X Q M pc lo st h := fun hB H locs ls hH hS hl hf => by
  obtain ⟨d, rfl⟩ := d
  exact lv_ldc2d hB.1 hB.2.1 hB.2.2.2.2.1 (hB.2.2.2.2.2.1 _ hw) d (k hB H locs ls hH hS hl hf)
theorem sd_if_eq {x : Int32} {off : Int} (d : sd_b M pc (.ifCond .eq off) 3 pc' off tgt) (kt : x = 0 → sd_J G X Q M tgt lo st h) (kf : ¬ x = 0 → sd_J G X Q M pc' lo st h) : sd_J G X Q M pc lo (.int x :: st) h := fun hB H locs ls hH hS hl hf => by
  obtain ⟨d, rfl, ht⟩ := d
  exact lv_if_eq hB.1 hB.2.1 d ht (fun q => kt q hB H locs ls hH hS hl hf) (fun q => kf q hB H locs ls hH hS hl hf)
theorem sd_if_ne {x : Int32} {off : Int} (d : sd_b M pc (.ifCond .ne off) 3 pc' off tgt) (kt : ¬ x = 0 → sd_J G X Q M tgt lo st h) (kf : x = 0 → sd_J G X Q M pc' lo st h) : sd_J G X Q M pc lo (.int x :: st) h := fun hB H locs ls hH hS hl hf => by
  obtain ⟨d, rfl, ht⟩ := d
  exact lv_if_ne hB.1 hB.2.1 d ht (fun q => kt q hB H locs ls hH hS hl hf) (fun q => kf q hB H locs ls hH hS hl hf)
theorem sd_if_lt {x : Int32} {off : Int} (d : sd_b M pc (.ifCond .lt off) 3 pc' off tgt) (kt : x < 0 → sd_J G X Q M tgt lo st h) (kf : ¬ x < 0 → sd_J G X Q M pc' lo st h) : sd_J G X Q M pc lo (.int x :: st) h := fun hB H locs ls hH hS hl hf => by
  obtain ⟨d, rfl, ht⟩ := d
  exact lv_if_lt hB.1 hB.2.1 d ht (fun q => kt q hB H locs ls hH hS hl hf) (fun q => kf q hB H locs ls hH hS hl hf)
theorem sd_if_ge {x : Int32} {off : Int} (d : sd_b M pc (.ifCond .ge off) 3 pc' off tgt) (kt : 0 ≤ x → sd_J G X Q M tgt lo st h) (kf : ¬ 0 ≤ x → sd_J G X Q M pc' lo st h) : sd_J G X Q M pc lo (.int x :: st) h := fun hB H locs ls hH hS hl hf => by
  obtain ⟨d, rfl, ht⟩ := d
  exact lv_if_ge hB.1 hB.2.1 d ht (fun q => kt q hB H locs ls hH hS hl hf) (fun q => kf q hB H locs ls hH hS hl hf)
theorem sd_if_gt {x : Int32} {off : Int} (d : sd_b M pc (.ifCond .gt off) 3 pc' off tgt) (kt : 0 < x → sd_J G X Q M tgt lo st h) (kf : ¬ 0 < x → sd_J G X Q M pc' lo st h) : sd_J G X Q M pc lo (.int x :: st) h := fun hB H locs ls hH hS hl hf => by
  obtain ⟨d, rfl, ht⟩ := d
  exact lv_if_gt hB.1 hB.2.1 d ht (fun q => kt q hB H locs ls hH hS hl hf) (fun q => kf q hB H locs ls hH hS hl hf)
theorem sd_if_le {x : Int32} {off : Int} (d : sd_b M pc (.ifCond .le off) 3 pc' off tgt) (kt : x ≤ 0 → sd_J G X Q M tgt lo st h) (kf : ¬ x ≤ 0 → sd_J G X Q M pc' lo st h) : sd_J G X Q M pc lo (.int x :: st) h := fun hB H locs ls hH hS hl hf => by
  obtain ⟨d, rfl, ht⟩ := d
  exact lv_if_le hB.1 hB.2.1 d ht (fun q => kt q hB H locs ls hH hS hl hf) (fun q => kf q hB H locs ls hH hS hl hf)
theorem sd_icmp_eq {x y : Int32} {off : Int} (d : sd_b M pc (.if_icmp .eq off) 3 pc' off tgt) (kt : x = y → sd_J G X Q M tgt lo st h) (kf : ¬ x = y → sd_J G X Q M pc' lo st h) : sd_J G X Q M pc lo (.int y :: .int x :: st) h := fun hB H locs ls hH hS hl hf => by
  obtain ⟨d, rfl, ht⟩ := d
  exact lv_icmp_eq hB.1 hB.2.1 d ht (fun q => kt q hB H locs ls hH hS hl hf) (fun q => kf q hB H locs ls hH hS hl hf)
theorem sd_icmp_ne {x y : Int32} {off : Int} (d : sd_b M pc (.if_icmp .ne off) 3 pc' off tgt) (kt : ¬ x = y → sd_J G X Q M tgt lo st h) (kf : x = y → sd_J G X Q M pc' lo st h) : sd_J G X Q M pc lo (.int y :: .int x :: st) h := fun hB H locs ls hH hS hl hf => by
  obtain ⟨d, rfl, ht⟩ := d
  exact lv_icmp_ne hB.1 hB.2.1 d ht (fun q => kt q hB H locs ls hH hS hl hf) (fun q => kf q hB H locs ls hH hS hl hf)
theorem sd_icmp_lt {x y : Int32} {off : Int} (d : sd_b M pc (.if_icmp .lt off) 3 pc' off tgt) (kt : x < y → sd_J G X Q M tgt lo st h) (kf : ¬ x < y → sd_J G X Q M pc' lo st h) : sd_J G X Q M pc lo (.int y :: .int x :: st) h := fun hB H locs ls hH hS hl hf => by
  obtain ⟨d, rfl, ht⟩ := d
  exact lv_icmp_lt hB.1 hB.2.1 d ht (fun q => kt q hB H locs ls hH hS hl hf) (fun q => kf q hB H locs ls hH hS hl hf)
theorem sd_icmp_ge {x y : Int32} {off : Int} (d : sd_b M pc (.if_icmp .ge off) 3 pc' off tgt) (kt : y ≤ x → sd_J G X Q M tgt lo st h) (kf : ¬ y ≤ x → sd_J G X Q M pc' lo st h) : sd_J G X Q M pc lo (.int y :: .int x :: st) h := fun hB H locs ls hH hS hl hf => by
  obtain ⟨d, rfl, ht⟩ := d
  exact lv_icmp_ge hB.1 hB.2.1 d ht (fun q => kt q hB H locs ls hH hS hl hf) (fun q => kf q hB H locs ls hH hS hl hf)
theorem sd_icmp_gt {x y : Int32} {off : Int} (d : sd_b M pc (.if_icmp .gt off) 3 pc' off tgt) (kt : y < x → sd_J G X Q M tgt lo st h) (kf : ¬ y < x → sd_J G X Q M pc' lo st h) : sd_J G X Q M pc lo (.int y :: .int x :: st) h := fun hB H locs ls hH hS hl hf => by
  obtain ⟨d, rfl, ht⟩ := d
  exact lv_icmp_gt hB.1 hB.2.1 d ht (fun q => kt q hB H locs ls hH hS hl hf) (fun q => kf q hB H locs ls hH hS hl hf)
theorem sd_icmp_le {x y : Int32} {off : Int} (d : sd_b M pc (.if_icmp .le off) 3 pc' off tgt) (kt : x ≤ y → sd_J G X Q M tgt lo st h) (kf : ¬ x ≤ y → sd_J G X Q M pc' lo st h) : sd_J G X Q M pc lo (.int y :: .int x :: st) h := fun hB H locs ls hH hS hl hf => by
  obtain ⟨d, rfl, ht⟩ := d
  exact lv_icmp_le hB.1 hB.2.1 d ht (fun q => kt q hB H locs ls hH hS hl hf) (fun q => kf q hB H locs ls hH hS hl hf)
theorem sd_goto {off : Int} (d : sd_b M pc (.goto off) 3 pc' off tgt) (k : sd_J G X Q M tgt lo st h) : sd_J G X Q M pc lo st h := fun hB H locs ls hH hS hl hf => by
  obtain ⟨d, -, ht⟩ := d
  exact lv_goto hB.1 hB.2.1 d ht (k hB H locs ls hH hS hl hf)

theorem sd_tswIn {dflt lo0 hi0 : Int} {offs : Array Int} {len : Nat} {x : Int32} {off : Int} (d : sd_b M pc (.tableswitch dflt lo0 hi0 offs) len pc' off tgt) (h1 : ¬ x.toInt < lo0) (h2 : ¬ hi0 < x.toInt) (ho : offs[(x.toInt - lo0).toNat]? = some off) (k : sd_J G X Q M tgt lo st h) : sd_J G X Q M pc lo (.int x :: st) h := fun hB H locs ls hH hS hl hf => by
  obtain ⟨d, -, ht⟩ := d
  exact lv_tableIn hB.1 hB.2.1 d h1 h2 ho ht (k hB H locs ls hH hS hl hf)
theorem sd_tswOut {dflt lo0 hi0 : Int} {offs : Array Int} {len : Nat} {x : Int32} (d : sd_b M pc (.tableswitch dflt lo0 hi0 offs) len pc' dflt tgt) (h1 : x.toInt < lo0 ∨ hi0 < x.toInt) (k : sd_J G X Q M tgt lo st h) : sd_J G X Q M pc lo (.int x :: st) h := fun hB H locs ls hH hS hl hf => by
  obtain ⟨d, -, ht⟩ := d
  exact lv_tableOut hB.1 hB.2.1 d h1 ht (k hB H locs ls hH hS hl hf)
theorem sd_lsw {dflt : Int} {ps : Array (Int × Int)} {len : Nat} {x : Int32} {off : Int} (d : sd_b M pc (.lookupswitch dflt ps) len pc' off tgt) (hp : (ps.toList.zip (ps.toList.drop 1)).all (fun (a, next) => a.1 < next.1) = true) (ho : Op.lookupswitch.offset ps.toList dflt x.toInt = off) (k : sd_J G X Q M tgt lo st h) : sd_J G X Q M pc lo (.int x :: st) h := fun hB H locs ls hH hS hl hf => by
  obtain ⟨d, -, ht⟩ := d
  exact lv_lookup hB.1 hB.2.1 d hp ho ht (k hB H locs ls hH hS hl hf)
end SJ
/-! ===== the world's cells by their numbers ===== -/
theorem sd_W_at (G : sd_GX) {h : sd_HX} {c : Nat} (hc : c < h.1) : (sd_W G h)[c]? = some (G.1 + c, sd_cel G h c) := by
  unfold sd_W
  rw [List.getElem?_map, List.getElem?_range hc]
  rfl
theorem sd_W_len (G : sd_GX) (h : sd_HX) : (sd_W G h).length = h.1 := by
  unfold sd_W
  rw [List.length_map, List.length_range]
theorem sd_W_no (G : sd_GX) {h : sd_HX} {c : Nat} (hc : h.1 ≤ c) : (sd_W G h)[c]? = none := List.getElem?_eq_none (by rw [sd_W_len]; exact hc)
theorem sd_W_D (G : sd_GX) (h : sd_HX) : va_D (sd_A G) (sd_W G h) := by
  have key : ∀ (k : Nat) (q : Nat × va_E), (sd_W G h)[k]? = some q → q.1 = G.1 + k := by
    intro k q hk
    by_cases hc : k < h.1
    · rw [sd_W_at G hc] at hk
      cases hk
      rfl
    · rw [sd_W_no G (Nat.le_of_not_lt hc)] at hk
      cases hk
  refine ⟨fun i j p q hi hj hpq => ?_, fun k q hk => ?_⟩
  · have h1 := key i p hi
    have h2 := key j q hj
    omega
  · have h1 := key k q hk
    show G.1 ≤ q.1
    omega
/-- two heaps that agree on what their cells hold -/
theorem sd_W_congr (G : sd_GX) {h g : sd_HX} (hn : h.1 = g.1) (hc : ∀ c, c < h.1 → sd_cel G h c = sd_cel G g c) : sd_W G h = sd_W G g := by
  apply List.ext_getElem?
  intro k
  by_cases hk : k < h.1
  · rw [sd_W_at G hk, sd_W_at G (hn ▸ hk), hc k hk]
  · rw [sd_W_no G (Nat.le_of_not_lt hk), sd_W_no G (by omega)]
theorem sd_W_set (G : sd_GX) {h g : sd_HX} {c : Nat} {e : va_E} (hn : h.1 = g.1) (hc : c < h.1) (he : sd_cel G g c = e) (ho : ∀ k, k < h.1 → k ≠ c → sd_cel G g k = sd_cel G h k) : (sd_W G h).set c (G.1 + c, e) = sd_W G g := by
  apply List.ext_getElem?
  intro k
  by_cases hk : k < h.1
  · rw [sd_W_at G (hn ▸ hk)]
    by_cases hkc : k = c
    · subst hkc
      rw [List.getElem?_set_self (by rw [sd_W_len]; exact hk), he]
    · rw [List.getElem?_set_ne (Ne.symm hkc), sd_W_at G hk, ho k hk hkc]
  · rw [sd_W_no G (by omega), List.getElem?_eq_none (by rw [List.length_set, sd_W_len]; omega)]
theorem sd_W_push (G : sd_GX) {h g : sd_HX} {e : va_E} (hn : g.1 = h.1 + 1) (he : sd_cel G g h.1 = e) (ho : ∀ k, k < h.1 → sd_cel G g k = sd_cel G h k) : sd_W G h ++ [(G.1 + h.1, e)] = sd_W G g := by
  apply List.ext_getElem?
  intro k
  by_cases hk : k < h.1
  · rw [List.getElem?_append_left (by rw [sd_W_len]; exact hk), sd_W_at G hk, sd_W_at G (by omega), ho k hk]
  · rw [List.getElem?_append_right (by rw [sd_W_len]; omega), sd_W_len]
    by_cases hk2 : k = h.1
    · subst hk2
      rw [Nat.sub_self, sd_W_at G (by omega), he]
      rfl
    · rw [sd_W_no G (by omega), List.getElem?_eq_none (by simp; omega)]
theorem sd_clsAt {ci : Nat} (hc : ci < 13) : sd_cls[ci]? = some (sd_C ci) := match ci, hc with
  | 0, _ => rfl | 1, _ => rfl | 2, _ => rfl | 3, _ => rfl | 4, _ => rfl | 5, _ => rfl | 6, _ => rfl | 7, _ => rfl | 8, _ => rfl | 9, _ => rfl | 10, _ => rfl | 11, _ => rfl | 12, _ => rfl
theorem sd_SHlt {c ci n : Nat} (hs : sd_SH c = (ci, n)) (h : ci < 900) : c < sd_NT := by
  rcases Nat.lt_or_ge c sd_NT with q | q
  · exact q
  · have : sd_SH c = (999, 0) := by
      unfold sd_SH
      rw [List.getD_eq_getElem?_getD, List.getElem?_eq_none (by exact q)]
      rfl
    rw [this] at hs
    cases hs
    omega
theorem sd_cel_o (G : sd_GX) (h : sd_HX) {c ci n : Nat} (hs : sd_SH c = (ci, n)) (hci : ci < 100) : sd_cel G h c = .inr (ci, (List.range n).map (fun j => sd_fv G.1 h ci c j)) := by
  unfold sd_cel
  rw [hs, if_pos hci]
theorem sd_cel_a (G : sd_GX) (h : sd_HX) {c t n : Nat} (hs : sd_SH c = (t, n)) (ht : ¬ t < 100) : sd_cel G h c = .inl (G.2.2.2.1 t, n, sd_arr G.1 h t c) := by
  unfold sd_cel
  rw [hs, if_neg ht]

theorem sd_inX0 : ∀ w ∈ u_ws RX0 TX0 3, w ∈ sd_tb := by
  have e : u_ws RX0 TX0 3 = ([282, 284, 286] : List Nat).filterMap (fun i => lw_tbl[i]?) := by decide +kernel
  have g : (u_ws RX0 TX0 3).all goodWord = true := by decide +kernel
  intro w hw
  have hg := List.all_eq_true.mp g w hw
  rw [e] at hw
  obtain ⟨i, -, hi⟩ := List.mem_filterMap.mp hw
  exact sd_mem ⟨hi, hg⟩
theorem sd_inX1 : ∀ w ∈ u_ws RX1 TX1 4, w ∈ sd_tb := by
  have e : u_ws RX1 TX1 4 = ([348, 350, 352, 354] : List Nat).filterMap (fun i => lw_tbl[i]?) := by decide +kernel
  have g : (u_ws RX1 TX1 4).all goodWord = true := by decide +kernel
  intro w hw
  have hg := List.all_eq_true.mp g w hw
  rw [e] at hw
  obtain ⟨i, -, hi⟩ := List.mem_filterMap.mp hw
  exact sd_mem ⟨hi, hg⟩
theorem sd_inX2 : ∀ w ∈ u_ws RX2 TX2 3, w ∈ sd_tb := by
  have e : u_ws RX2 TX2 3 = ([263, 265, 267] : List Nat).filterMap (fun i => lw_tbl[i]?) := by decide +kernel
  have g : (u_ws RX2 TX2 3).all goodWord = true := by decide +kernel
  intro w hw
  have hg := List.all_eq_true.mp g w hw
  rw [e] at hw
  obtain ⟨i, -, hi⟩ := List.mem_filterMap.mp hw
  exact sd_mem ⟨hi, hg⟩
theorem sd_inX3 : ∀ w ∈ u_ws RX3 TX3 0, w ∈ sd_tb := by
  have e : u_ws RX3 TX3 0 = ([] : List Nat).filterMap (fun i => lw_tbl[i]?) := by decide +kernel
  have g : (u_ws RX3 TX3 0).all goodWord = true := by decide +kernel
  intro w hw
  have hg := List.all_eq_true.mp g w hw
  rw [e] at hw
  obtain ⟨i, -, hi⟩ := List.mem_filterMap.mp hw
  exact sd_mem ⟨hi, hg⟩
theorem sd_inX4 : ∀ w ∈ u_ws RX4 TX4 4, w ∈ sd_tb := by
  have e : u_ws RX4 TX4 4 = ([415, 417, 419, 421] : List Nat).filterMap (fun i => lw_tbl[i]?) := by decide +kernel
  have g : (u_ws RX4 TX4 4).all goodWord = true := by decide +kernel
  intro w hw
  have hg := List.all_eq_true.mp g w hw
  rw [e] at hw
  obtain ⟨i, -, hi⟩ := List.mem_filterMap.mp hw
  exact sd_mem ⟨hi, hg⟩
theorem sd_inX5 : ∀ w ∈ u_ws RX5 TX5 4, w ∈ sd_tb := by
  have e : u_ws RX5 TX5 4 = ([201, 203, 205, 207] : List Nat).filterMap (fun i => lw_tbl[i]?) := by decide +kernel
  have g : (u_ws RX5 TX5 4).all goodWord = true := by decide +kernel
  intro w hw
  have hg := List.all_eq_true.mp g w hw
  rw [e] at hw
  obtain ⟨i, -, hi⟩ := List.mem_filterMap.mp hw
  exact sd_mem ⟨hi, hg⟩
theorem sd_inX6 : ∀ w ∈ u_ws RX6 TX6 4, w ∈ sd_tb := by
  have e : u_ws RX6 TX6 4 = ([154, 156, 158, 160] : List Nat).filterMap (fun i => lw_tbl[i]?) := by decide +kernel
  have g : (u_ws RX6 TX6 4).all goodWord = true := by decide +kernel
  intro w hw
  have hg := List.all_eq_true.mp g w hw
  rw [e] at hw
  obtain ⟨i, -, hi⟩ := List.mem_filterMap.mp hw
  exact sd_mem ⟨hi, hg⟩
theorem sd_inX7 : ∀ w ∈ u_ws RX7 TX7 11, w ∈ sd_tb := by
  have e : u_ws RX7 TX7 11 = ([376, 378, 380, 382, 384, 386, 388, 390, 392, 394, 396] : List Nat).filterMap (fun i => lw_tbl[i]?) := by decide +kernel
  have g : (u_ws RX7 TX7 11).all goodWord = true := by decide +kernel
  intro w hw
  have hg := List.all_eq_true.mp g w hw
  rw [e] at hw
  obtain ⟨i, -, hi⟩ := List.mem_filterMap.mp hw
  exact sd_mem ⟨hi, hg⟩
theorem sd_inX8 : ∀ w ∈ u_ws RX8 TX8 3, w ∈ sd_tb := by
  have e : u_ws RX8 TX8 3 = ([334, 336, 338] : List Nat).filterMap (fun i => lw_tbl[i]?) := by decide +kernel
  have g : (u_ws RX8 TX8 3).all goodWord = true := by decide +kernel
  intro w hw
  have hg := List.all_eq_true.mp g w hw
  rw [e] at hw
  obtain ⟨i, -, hi⟩ := List.mem_filterMap.mp hw
  exact sd_mem ⟨hi, hg⟩
theorem sd_inX9 : ∀ w ∈ u_ws RX9 TX9 6, w ∈ sd_tb := by
  have e : u_ws RX9 TX9 6 = ([235, 237, 239, 241, 243, 245] : List Nat).filterMap (fun i => lw_tbl[i]?) := by decide +kernel
  have g : (u_ws RX9 TX9 6).all goodWord = true := by decide +kernel
  intro w hw
  have hg := List.all_eq_true.mp g w hw
  rw [e] at hw
  obtain ⟨i, -, hi⟩ := List.mem_filterMap.mp hw
  exact sd_mem ⟨hi, hg⟩
theorem sd_inX10 : ∀ w ∈ u_ws RX10 TX10 6, w ∈ sd_tb := by
  have e : u_ws RX10 TX10 6 = ([304, 306, 308, 310, 312, 314] : List Nat).filterMap (fun i => lw_tbl[i]?) := by decide +kernel
  have g : (u_ws RX10 TX10 6).all goodWord = true := by decide +kernel
  intro w hw
  have hg := List.all_eq_true.mp g w hw
  rw [e] at hw
  obtain ⟨i, -, hi⟩ := List.mem_filterMap.mp hw
  exact sd_mem ⟨hi, hg⟩
theorem sd_inX11 : ∀ w ∈ u_ws RX11 TX11 17, w ∈ sd_tb := by
  have e : u_ws RX11 TX11 17 = ([441, 443, 445, 447, 449, 451, 453, 455, 457, 459, 461, 463, 465, 467, 469, 471, 473] : List Nat).filterMap (fun i => lw_tbl[i]?) := by decide +kernel
  have g : (u_ws RX11 TX11 17).all goodWord = true := by decide +kernel
  intro w hw
  have hg := List.all_eq_true.mp g w hw
  rw [e] at hw
  obtain ⟨i, -, hi⟩ := List.mem_filterMap.mp hw
  exact sd_mem ⟨hi, hg⟩
theorem sd_inX12 : ∀ w ∈ u_ws RX12 TX12 47, w ∈ sd_tb := by
  have e : u_ws RX12 TX12 47 = ([1195, 1197, 1199, 1201, 1203, 1205, 1207, 1209, 1211, 1213, 1215, 1217, 1219, 1221, 1223, 1225, 1227, 1229, 1231, 1233, 1235, 1237, 1239, 1241, 1243, 1245, 1247, 1249, 1251, 1253, 1255, 1257, 1259, 1261, 1263, 1265, 1267, 1269, 1271, 1273, 1275, 1277, 1279, 1281, 1283, 1285, 1287] : List Nat).filterMap (fun i => lw_tbl[i]?) := by decide +kernel
  have g : (u_ws RX12 TX12 47).all goodWord = true := by decide +kernel
  intro w hw
  have hg := List.all_eq_true.mp g w hw
  rw [e] at hw
  obtain ⟨i, -, hi⟩ := List.mem_filterMap.mp hw
  exact sd_mem ⟨hi, hg⟩
theorem sd_in {ci : Nat} (hc : ci < 13) : ∀ w ∈ u_ws (sd_C ci).1 (sd_C ci).2.1 (sd_C ci).2.2, w ∈ sd_tb := match ci, hc with
  | 0, _ => sd_inX0
  | 1, _ => sd_inX1
  | 2, _ => sd_inX2
  | 3, _ => sd_inX3
  | 4, _ => sd_inX4
  | 5, _ => sd_inX5
  | 6, _ => sd_inX6
  | 7, _ => sd_inX7
  | 8, _ => sd_inX8
  | 9, _ => sd_inX9
  | 10, _ => sd_inX10
  | 11, _ => sd_inX11
  | 12, _ => sd_inX12
def sd_ty (ci : Nat) : Nat → FieldType := [tyX0, tyX1, tyX2, tyX3, tyX4, tyX5, tyX6, tyX7, tyX8, tyX9, tyX10, tyX11, tyX12].getD ci tyX0
theorem sd_tyok {ci : Nat} (hc : ci < 13) : ∀ k, k < (sd_C ci).2.2 → parseFieldDescriptor ((sd_C ci).2.1 k).2.2.1 = some (sd_ty ci k) := match ci, hc with
  | 0, _ => tyX0_ok
  | 1, _ => tyX1_ok
  | 2, _ => tyX2_ok
  | 3, _ => tyX3_ok
  | 4, _ => tyX4_ok
  | 5, _ => tyX5_ok
  | 6, _ => tyX6_ok
  | 7, _ => tyX7_ok
  | 8, _ => tyX8_ok
  | 9, _ => tyX9_ok
  | 10, _ => tyX10_ok
  | 11, _ => tyX11_ok
  | 12, _ => tyX12_ok
theorem sd_nm {ci : Nat} (hc : ci < 13) : ∀ a, a < (sd_C ci).2.2 → ∀ b, b < (sd_C ci).2.2 → a ≠ b → ((sd_C ci).2.1 a).2.1 ≠ ((sd_C ci).2.1 b).2.1 := match ci, hc with
  | 0, _ => nmX0
  | 1, _ => nmX1
  | 2, _ => nmX2
  | 3, _ => nmX3
  | 4, _ => nmX4
  | 5, _ => nmX5
  | 6, _ => nmX6
  | 7, _ => nmX7
  | 8, _ => nmX8
  | 9, _ => nmX9
  | 10, _ => nmX10
  | 11, _ => nmX11
  | 12, _ => nmX12
/-- a field's word: class number ci, field k -/
abbrev sd_fl (own : String) (idx ci k : Nat) : Prop := Cond.fieldLink own idx ((sd_C ci).2.1 k).1 ((sd_C ci).2.1 k).2.1 ((sd_C ci).2.1 k).2.2.1 ∈ sd_tb ∧ ci < 13 ∧ k < (sd_C ci).2.2
section SF
variable {G : sd_GX} {X : sd_CX} {Q : State → Prop} {M : sd_MX} {pc pc' tgt : Nat} {lo lo' : List (Nat × Value)} {st : List Value} {h : sd_HX}
theorem sd_get {idx ci k c : Nat} (d : sd_d M pc (.getfield idx) 3 pc') (hw : sd_fl M.1.cls idx ci k) (hs : sd_SH c = (ci, (sd_C ci).2.2)) (hc : c < h.1) (kk : sd_J G X Q M pc' lo (sd_fv G.1 h ci c k :: st) h) : sd_J G X Q M pc lo (.ref (G.1 + c) :: st) h := fun hB H locs ls hH hS hl hf => by
  obtain ⟨d, rfl⟩ := d
  obtain ⟨hw, hci, hk⟩ := hw
  have he := sd_W_at G hc
  rw [sd_cel_o G h hs (by omega)] at he
  exact va_get hB.1 hB.2.1 hB.2.2.2.2.2.1 (sd_in hci) hB.2.2.2.2.1 hB.2.2.2.2.2.2.2.2.2.1 hH.1 c he (sd_clsAt hci) k hk (hB.2.2.2.2.2.1 _ hw) (fun _ q => q) (v := sd_fv G.1 h ci c k) (by rw [List.getElem?_map, List.getElem?_range hk]; rfl) d (kk hB H locs ls hH hS hl hf)
/-- the heap with another value in a slot of ints -/
abbrev sd_wi (h : sd_HX) (c k : Nat) (v : Int32) : sd_HX := (h.1, fun c' k' => if c' = c ∧ k' = k then v else h.2.1 c' k', h.2.2)
abbrev sd_wd (h : sd_HX) (c k : Nat) (v : UInt64) : sd_HX := (h.1, h.2.1, fun c' k' => if c' = c ∧ k' = k then v else h.2.2.1 c' k', h.2.2.2)
abbrev sd_wr (h : sd_HX) (c k : Nat) (v : Option Nat) : sd_HX := (h.1, h.2.1, h.2.2.1, fun c' k' => if c' = c ∧ k' = k then v else h.2.2.2 c' k')
theorem sd_HR.to {h g : sd_HX} {H H1 : Heap} (hH : sd_HR G h H) (hn : h.1 = g.1) (hz : H1.size = H.size) (hP : va_P (sd_dD G) sd_cls (sd_W G g) H1) : sd_HR G g H1 := ⟨hP, by rw [hz, hH.2.1, hn], hn ▸ hH.2.2⟩
theorem sd_put0 {idx ci k c : Nat} {g : sd_HX} {ty : FieldType} {v : Value} (d : sd_d M pc (.putfield idx) 3 pc') (hw : sd_fl M.1.cls idx ci k) (hs : sd_SH c = (ci, (sd_C ci).2.2)) (hc : c < h.1) (hty : sd_ty ci k = ty) (hfin : ((sd_C ci).2.1 k).2.2.2 = false ∨ (M.1.name = "<init>" ∧ ((sd_C ci).2.1 k).2.2.2 = true ∧ ((sd_C ci).2.1 k).1 = M.1.cls)) (hn : narrow ty v = v) (hfit : fits ty v = true)
    (hg : h.1 = g.1) (hset : (sd_W G h).set c (G.1 + c, .inr (ci, ((List.range (sd_C ci).2.2).map (fun j => sd_fv G.1 h ci c j)).set k v)) = sd_W G g) (kk : sd_J G X Q M pc' lo st g) : sd_J G X Q M pc lo (v :: .ref (G.1 + c) :: st) h := fun hB H locs ls hH hS hl hf => by
  obtain ⟨d, rfl⟩ := d
  obtain ⟨hw, hci, hk⟩ := hw
  have he := sd_W_at G hc
  rw [sd_cel_o G h hs (by omega)] at he
  have hlen : k < ((List.range (sd_C ci).2.2).map (fun j => sd_fv G.1 h ci c j)).length := by rw [List.length_map, List.length_range]; exact hk
  have key : ∀ (H1 : Heap) (locs1 : List Loc), va_P (sd_dD G) sd_cls ((sd_W G h).set c (G.1 + c, .inr (ci, ((List.range (sd_C ci).2.2).map (fun j => sd_fv G.1 h ci c j)).set k v))) H1 → H1.size = H.size → va_S (sd_A G) (sd_s X).heap H1 locs1 →
      W X.1 X.2.1 X.2.2.1 X.2.2.2.1 (sd_s X) X.2.2.2.2.2.1 X.2.2.2.2.2.2.1 X.2.2.2.2.2.2.2.1 X.2.2.2.2.2.2.2.2.1 X.2.2.2.2.2.2.2.2.2 H1 locs1 (sd_kc G X h) (sd_ks G X h) Q (F0 X.2.2.2.2.2.1 (pc + 3) ls st) := by
    intro H1 locs1 hP hz hS1
    rw [hset] at hP
    have h2 := kk hB H1 locs1 ls (hH.to hg hz hP) hS1 hl (by unfold sd_fit sd_kc sd_ks at hf ⊢; rw [← hg]; exact hf)
    unfold sd_kc sd_ks at h2 ⊢
    rw [hg]
    exact h2
  have hts := hB.2.2.2.2.2.1
  have hin := sd_in hci
  have hK := hB.2.2.2.2.2.2.2.2.2.1
  have hown := hB.2.2.2.2.1
  have hcl := sd_clsAt hci
  have hap := va_apart (own := M.1.cls) hts hin (sd_ty ci) (sd_tyok hci) (sd_nm hci) hK hcl
  have hD := sd_W_D G h
  obtain ⟨r, h1, cell, q1, q2, q3, q4⟩ := hH.1 c _ he
  have hr : r = sd_C ci := Option.some.inj (h1.symm.trans hcl)
  subst hr
  obtain ⟨hSl, hfc, kC, hkC, hkind⟩ := hK.1 ci _ hcl
  obtain ⟨cf, kf, fi, f, hi, hsl⟩ := hSl k hk
  have hlay := hts _ (hin _ (u_in_lay hk))
  have hst := (u_facts hfc hkC (u_lays hts hin hk) hi).1
  have hd := sd_tyok hci k hk
  rw [hty] at hd
  have fin : ∀ H' : Heap, H'[G.1 + c]? = some (cell.setSlot f.slot v) → H'.size = H.size → (∀ q, q ≠ G.1 + c → H'[q]? = H[q]?) →
      W X.1 X.2.1 X.2.2.1 X.2.2.2.1 (sd_s X) X.2.2.2.2.2.1 X.2.2.2.2.2.2.1 X.2.2.2.2.2.2.2.1 X.2.2.2.2.2.2.2.2.1 X.2.2.2.2.2.2.2.2.2 H' (locs ++ [⟨G.1 + c, f.slot⟩]) (sd_kc G X h) (sd_ks G X h) Q (F0 X.2.2.2.2.2.1 (pc + 3) ls st) := by
    intro H' e1 e2 e3
    rw [hsl] at e1 ⊢
    exact key H' _ (hH.1.set hD he ⟨_, hcl, t_OB.to (V := updV (vp_V _) k v) ⟨_, e1, q2, q3, t_set q4 hap hk v⟩ (fun j _ => vp_updV_set hlen v j)⟩ e3) e2 (hS.put e2 e3 (show G.1 ≤ G.1 + c by omega))
  rcases hfin with hfin | ⟨hin2, hfin, hdecl⟩
  · unfold u_lay at hlay
    rw [if_neg (by rw [hfin]; decide)] at hlay
    have h6 := u_store hfc hkC hkind hlay hi hd hn hfit
    exact W.putK hB.1 hB.2.1 (f := f) ⟨hown, hts _ hw, ⟨_, _, _, hi⟩, hst⟩ (by rw [q2]; exact h6) q1 q3 (by rw [hsl]; exact k2_hasslot (q4 k hk)) rfl rfl d fin
  · unfold u_lay at hlay
    rw [if_pos hfin] at hlay
    have hcf : (X.2.2.2.2.2.1).cls = cf := by
      obtain ⟨_, _, c', _, _, _, -, -, hf', -, -, -, hown2, -⟩ := Cond.laysFinal_spec hlay
      have e1 : c' = cf := by have := hi.symm.trans hf'; simp at this; exact this.1.symm
      rw [hdecl] at hown2
      rw [← e1]; exact Option.some.inj (hown.symm.trans hown2)
    have h6 := u_fits hfc hkC hkind (Or.inr hlay) hi hd hn hfit
    exact W.putFinK hB.1 hB.2.1 hown (hts _ hw) hi hst hcf (by rw [hB.2.2.2.2.2.2.2.1]; exact hin2) (by rw [q2]; exact h6) q1 q3 (by rw [hsl]; exact k2_hasslot (q4 k hk)) rfl rfl d fin
theorem sd_cel_ext (G : sd_GX) {h g : sd_HX} {k : Nat} (h1 : ∀ j, g.2.1 k j = h.2.1 k j) (h2 : ∀ j, g.2.2.1 k j = h.2.2.1 k j) (h3 : ∀ j, g.2.2.2 k j = h.2.2.2 k j) : sd_cel G g k = sd_cel G h k := by
  have e1 : g.2.1 k = h.2.1 k := funext h1
  have e2 : g.2.2.1 k = h.2.2.1 k := funext h2
  have e3 : g.2.2.2 k = h.2.2.2 k := funext h3
  unfold sd_cel sd_arr sd_fv
  rw [e1, e2, e3]
theorem sd_set_map (N k : Nat) (f g : Nat → Value) (v : Value) (h1 : g k = v) (h2 : ∀ j, j ≠ k → g j = f j) : ((List.range N).map f).set k v = (List.range N).map g := by
  apply List.ext_getElem?
  intro j
  by_cases hj : j < N
  · by_cases hjk : j = k
    · subst hjk
      rw [List.getElem?_set_self (by rw [List.length_map, List.length_range]; exact hj), List.getElem?_map, List.getElem?_range hj, ← h1]
      rfl
    · rw [List.getElem?_set_ne (Ne.symm hjk), List.getElem?_map, List.getElem?_map, List.getElem?_range hj]
      show some (f j) = some (g j)
      rw [h2 j hjk]
  · rw [List.getElem?_eq_none (by rw [List.length_set, List.length_map, List.length_range]; omega), List.getElem?_eq_none (by rw [List.length_map, List.length_range]; omega)]
theorem sd_wi_ne (G : sd_GX) (h : sd_HX) {c k q : Nat} (v : Int32) (hq : q ≠ c) : sd_cel G (sd_wi h c k v) q = sd_cel G h q := sd_cel_ext G (fun j => by show (if q = c ∧ j = k then v else h.2.1 q j) = _; rw [if_neg (fun z => hq z.1)]) (fun _ => rfl) (fun _ => rfl)
theorem sd_wd_ne (G : sd_GX) (h : sd_HX) {c k q : Nat} (v : UInt64) (hq : q ≠ c) : sd_cel G (sd_wd h c k v) q = sd_cel G h q := sd_cel_ext G (fun _ => rfl) (fun j => by show (if q = c ∧ j = k then v else h.2.2.1 q j) = _; rw [if_neg (fun z => hq z.1)]) (fun _ => rfl)
theorem sd_wr_ne (G : sd_GX) (h : sd_HX) {c k q : Nat} (v : Option Nat) (hq : q ≠ c) : sd_cel G (sd_wr h c k v) q = sd_cel G h q := sd_cel_ext G (fun _ => rfl) (fun _ => rfl) (fun j => by show (if q = c ∧ j = k then v else h.2.2.2 q j) = _; rw [if_neg (fun z => hq z.1)])
theorem sd_wi_set (G : sd_GX) {h : sd_HX} {ci c k : Nat} {v : Int32} (hci : ci < 13) (hs : sd_SH c = (ci, (sd_C ci).2.2)) (hc : c < h.1) (hf : ¬ sd_FT ci k = 2) : (sd_W G h).set c (G.1 + c, .inr (ci, ((List.range (sd_C ci).2.2).map (fun j => sd_fv G.1 h ci c j)).set k (.int v))) = sd_W G (sd_wi h c k v) := by
  refine sd_W_set G (g := sd_wi h c k v) rfl hc ?_ (fun q _ hq => sd_wi_ne G h v hq)
  rw [sd_cel_o G _ hs (by omega)]
  refine congrArg (fun l => (.inr (ci, l) : va_E)) (sd_set_map _ _ _ _ _ ?_ ?_).symm
  · show sd_fv G.1 (sd_wi h c k v) ci c k = _
    unfold sd_fv
    rw [if_neg hf]
    show Value.int (if c = c ∧ k = k then v else _) = _
    rw [if_pos ⟨rfl, rfl⟩]
  · intro j hj
    unfold sd_fv
    show (if sd_FT ci j = 2 then _ else Value.int (if c = c ∧ j = k then v else h.2.1 c j)) = _
    rw [if_neg (show ¬ (c = c ∧ j = k) from fun z => hj z.2)]
theorem sd_wr_set (G : sd_GX) {h : sd_HX} {ci c k : Nat} {v : Option Nat} (hci : ci < 13) (hs : sd_SH c = (ci, (sd_C ci).2.2)) (hc : c < h.1) (hf : sd_FT ci k = 2) : (sd_W G h).set c (G.1 + c, .inr (ci, ((List.range (sd_C ci).2.2).map (fun j => sd_fv G.1 h ci c j)).set k (va_rf (v.map (fun a => G.1 + a))))) = sd_W G (sd_wr h c k v) := by
  refine sd_W_set G (g := sd_wr h c k v) rfl hc ?_ (fun q _ hq => sd_wr_ne G h v hq)
  rw [sd_cel_o G _ hs (by omega)]
  refine congrArg (fun l => (.inr (ci, l) : va_E)) (sd_set_map _ _ _ _ _ ?_ ?_).symm
  · show sd_fv G.1 (sd_wr h c k v) ci c k = _
    unfold sd_fv
    rw [if_pos hf]
    show va_rf ((if c = c ∧ k = k then v else _).map _) = _
    rw [if_pos ⟨rfl, rfl⟩]
  · intro j hj
    unfold sd_fv
    show (if sd_FT ci j = 2 then va_rf ((if c = c ∧ j = k then v else h.2.2.2 c j).map _) else _) = _
    rw [if_neg (show ¬ (c = c ∧ j = k) from fun z => hj z.2)]
def sd_inB (i : Int32) (n : Nat) : Bool := decide (¬ i < 0) && decide (i.toNatClampNeg < n)
theorem sd_in_of {i : Int32} {n : Nat} (h : sd_inB i n = true) : vp_in i n := by
  unfold sd_inB at h
  rw [Bool.and_eq_true, decide_eq_true_eq, decide_eq_true_eq] at h
  rintro (q | q)
  · exact h.1 q
  · omega
theorem sd_at_arr (G : sd_GX) {h : sd_HX} {c t n : Nat} (hs : sd_SH c = (t, n)) (ht : ¬ t < 100) (hc : c < h.1) : (sd_W G h)[c]? = some (G.1 + c, .inl (G.2.2.2.1 t, n, sd_arr G.1 h t c)) := by
  rw [sd_W_at G hc, sd_cel_a G h hs ht]
theorem sd_iald {c n : Nat} {i : Int32} (d : sd_d M pc .iaload 1 pc') (hs : sd_SH c = (100, n)) (hc : c < h.1) (hin : sd_inB i n = true) (kk : sd_J G X Q M pc' lo (.int (h.2.1 c i.toNatClampNeg) :: st) h) : sd_J G X Q M pc lo (.int i :: .ref (G.1 + c) :: st) h := fun hB H locs ls hH hS hl hf => by
  obtain ⟨d, rfl⟩ := d
  exact va_iald hB.1 hB.2.1 hB.2.2.2.2.2.2.2.2.2.1 hH.1 c 0 (sd_at_arr G hs (by decide) hc) rfl (sd_in_of hin) d (kk hB H locs ls hH hS hl hf)
theorem sd_dald {c n : Nat} {i : Int32} (d : sd_d M pc .daload 1 pc') (hs : sd_SH c = (101, n)) (hc : c < h.1) (hin : sd_inB i n = true) (kk : sd_J G X Q M pc' lo (.double (h.2.2.1 c i.toNatClampNeg) :: st) h) : sd_J G X Q M pc lo (.int i :: .ref (G.1 + c) :: st) h := fun hB H locs ls hH hS hl hf => by
  obtain ⟨d, rfl⟩ := d
  exact va_dald hB.1 hB.2.1 hB.2.2.2.2.2.2.2.2.2.1 hH.1 c 1 (sd_at_arr G hs (by decide) hc) rfl (sd_in_of hin) d (kk hB H locs ls hH hS hl hf)
theorem sd_zald {c n : Nat} {i : Int32} (d : sd_d M pc .baload 1 pc') (hs : sd_SH c = (102, n)) (hc : c < h.1) (hin : sd_inB i n = true) (kk : sd_J G X Q M pc' lo (.int (h.2.1 c i.toNatClampNeg) :: st) h) : sd_J G X Q M pc lo (.int i :: .ref (G.1 + c) :: st) h := fun hB H locs ls hH hS hl hf => by
  obtain ⟨d, rfl⟩ := d
  exact va_zald hB.1 hB.2.1 hB.2.2.2.2.2.2.2.2.2.1 hH.1 c 2 (sd_at_arr G hs (by decide) hc) rfl (sd_in_of hin) d (kk hB H locs ls hH hS hl hf)
def sd_cn (t : Nat) : String := if t = 103 then RX8 else if t = 104 then RX9 else RX5
theorem sd_aald {c n t r : Nat} {i : Int32} (d : sd_d M pc .aaload 1 pc') (hs : sd_SH c = (t, n)) (ht : t = 103 ∨ t = 104 ∨ t = 105) (hc : c < h.1) (hin : sd_inB i n = true) (hr : h.2.2.2 c i.toNatClampNeg = some r) (kk : sd_J G X Q M pc' lo (.ref (G.1 + r) :: st) h) : sd_J G X Q M pc lo (.int i :: .ref (G.1 + c) :: st) h := fun hB H locs ls hH hS hl hf => by
  obtain ⟨d, rfl⟩ := d
  have k2 := kk hB H locs ls hH hS hl hf
  have e : (Value.ref (G.1 + r)) = va_rf ((fun j => (h.2.2.2 c j).map (fun a => G.1 + a)) i.toNatClampNeg) := by
    show _ = va_rf ((h.2.2.2 c i.toNatClampNeg).map _)
    rw [hr]
    rfl
  rw [e] at k2
  rcases ht with rfl | rfl | rfl
  · exact va_aldq hB.1 hB.2.1 hB.2.2.2.2.2.2.2.2.2.1 hH.1 c 3 (C := RX8) (sd_at_arr G hs (by decide) hc) rfl (sd_in_of hin) d k2
  · exact va_aldq hB.1 hB.2.1 hB.2.2.2.2.2.2.2.2.2.1 hH.1 c 4 (C := RX9) (sd_at_arr G hs (by decide) hc) rfl (sd_in_of hin) d k2
  · exact va_aldq hB.1 hB.2.1 hB.2.2.2.2.2.2.2.2.2.1 hH.1 c 5 (C := RX5) (sd_at_arr G hs (by decide) hc) rfl (sd_in_of hin) d k2
theorem sd_st_key {c : Nat} {g : sd_HX} {pc1 : Nat} {a : va_E} {j : Nat} (hB : sd_BD G X M) {H : Heap} {locs : List Loc} {ls : Array Slot} (hH : sd_HR G h H) (hS : va_S (sd_A G) (sd_s X).heap H locs) (hl : lv_has ls M.2.2.1 lo) (hf : sd_fit G X h) (hc : c < h.1) (hg : h.1 = g.1) (hset : (sd_W G h).set c (G.1 + c, a) = sd_W G g) (kk : sd_J G X Q M pc1 lo st g)
    (H1 : Heap) (ha : va_at (sd_dD G) sd_cls (G.1 + c, a) H1) (z : H1.size = H.size) (oq : ∀ q, q ≠ G.1 + c → H1[q]? = H[q]?) :
    W X.1 X.2.1 X.2.2.1 X.2.2.2.1 (sd_s X) X.2.2.2.2.2.1 X.2.2.2.2.2.2.1 X.2.2.2.2.2.2.2.1 X.2.2.2.2.2.2.2.2.1 X.2.2.2.2.2.2.2.2.2 H1 (locs ++ [⟨G.1 + c, j⟩]) (sd_kc G X h) (sd_ks G X h) Q (F0 X.2.2.2.2.2.1 pc1 ls st) := by
  have hP := hH.1.set (sd_W_D G h) (sd_W_at G hc) ha oq
  rw [hset] at hP
  have h2 := kk hB H1 _ ls (hH.to hg z hP) (hS.put (k := j) z oq (show G.1 ≤ G.1 + c by omega)) hl (by unfold sd_fit sd_kc sd_ks at hf ⊢; rw [← hg]; exact hf)
  unfold sd_kc sd_ks at h2 ⊢
  rw [hg]
  exact h2
theorem sd_iast {c n : Nat} {i v : Int32} (d : sd_d M pc .iastore 1 pc') (hs : sd_SH c = (100, n)) (hc : c < h.1) (hin : sd_inB i n = true) (kk : sd_J G X Q M pc' lo st (sd_wi h c i.toNatClampNeg v)) : sd_J G X Q M pc lo (.int v :: .int i :: .ref (G.1 + c) :: st) h := fun hB H locs ls hH hS hl hf => by
  obtain ⟨d, rfl⟩ := d
  have ha := sd_at_arr G hs (by decide) hc
  refine W.iast hB.1 hB.2.1 (hH.1 c _ ha) ((hB.2.2.2.2.2.2.2.2.2.1.2 0 _ rfl).1 n (fun j => .int (h.2.1 c j))) (fun q => by cases q) (by show ¬ (i < 0 ∨ (arrV _ _ _).slots.size ≤ _); rw [arrV_size]; exact sd_in_of hin) rfl rfl d fun H1 e z oq => ?_
  refine sd_st_key (g := sd_wi h c i.toNatClampNeg v) (a := .inl (G.2.2.2.1 100, n, .inl ((sd_wi h c i.toNatClampNeg v).2.1 c))) hB hH hS hl hf hc rfl (sd_W_set G rfl hc (sd_cel_a G _ hs (by decide)) (fun q _ hq => sd_wi_ne G h v hq)) kk H1 ?_ z oq
  show H1[G.1 + c]? = some (vp_cell _ _)
  rw [e]
  rw [vp_cell_i]
  show some ((vp_cell (G.2.2.2.1 100) (n, .inl (h.2.1 c))).setSlot _ _) = _
  rw [vp_cell_i, arrV_store]
  congr 2
  funext q
  by_cases hq : q = i.toNatClampNeg
  · subst hq
    simp [updV]
  · simp [updV, hq]
theorem sd_dast {c n : Nat} {i : Int32} {v : UInt64} (d : sd_d M pc .dastore 1 pc') (hs : sd_SH c = (101, n)) (hc : c < h.1) (hin : sd_inB i n = true) (kk : sd_J G X Q M pc' lo st (sd_wd h c i.toNatClampNeg v)) : sd_J G X Q M pc lo (.double v :: .int i :: .ref (G.1 + c) :: st) h := fun hB H locs ls hH hS hl hf => by
  obtain ⟨d, rfl⟩ := d
  have ha := sd_at_arr G hs (by decide) hc
  refine W.dast hB.1 hB.2.1 (hH.1 c _ ha) ((hB.2.2.2.2.2.2.2.2.2.1.2 1 _ rfl).1 n (fun j => .double (h.2.2.1 c j))) (fun q => by cases q) (by show ¬ (i < 0 ∨ (arrV _ _ _).slots.size ≤ _); rw [arrV_size]; exact sd_in_of hin) rfl rfl d fun H1 e z oq => ?_
  refine sd_st_key (g := sd_wd h c i.toNatClampNeg v) (a := .inl (G.2.2.2.1 101, n, .inr (.inr (.inr (.inl ((sd_wd h c i.toNatClampNeg v).2.2.1 c)))))) hB hH hS hl hf hc rfl (sd_W_set G rfl hc (sd_cel_a G _ hs (by decide)) (fun q _ hq => sd_wd_ne G h v hq)) kk H1 ?_ z oq
  show H1[G.1 + c]? = some (vp_cell _ _)
  rw [e]
  rw [vp_cell_d]
  show some ((vp_cell (G.2.2.2.1 101) (n, .inr (.inr (.inr (.inl (h.2.2.1 c)))))).setSlot _ _) = _
  rw [vp_cell_d, arrV_store]
  congr 2
  funext q
  by_cases hq : q = i.toNatClampNeg
  · subst hq
    simp [updV]
  · simp [updV, hq]
def sd_isB (v : Int32) : Bool := v == 0 || v == 1
theorem sd_isB_nar {v : Int32} (h : sd_isB v = true) : narrow .boolean (.int v) = .int v ∧ fits .boolean (.int v) = true := by
  unfold sd_isB at h
  rw [Bool.or_eq_true, beq_iff_eq, beq_iff_eq] at h
  rcases h with rfl | rfl <;> exact ⟨by decide, by decide⟩
theorem sd_zast {c n : Nat} {i v : Int32} (d : sd_d M pc .bastore 1 pc') (hs : sd_SH c = (102, n)) (hc : c < h.1) (hin : sd_inB i n = true) (hv : sd_isB v = true) (kk : sd_J G X Q M pc' lo st (sd_wi h c i.toNatClampNeg v)) : sd_J G X Q M pc lo (.int v :: .int i :: .ref (G.1 + c) :: st) h := fun hB H locs ls hH hS hl hf => by
  obtain ⟨d, rfl⟩ := d
  have ha := sd_at_arr G hs (by decide) hc
  refine W.zast hB.1 hB.2.1 (hH.1 c _ ha) ((hB.2.2.2.2.2.2.2.2.2.1.2 2 _ rfl).1 n (fun j => .int (h.2.1 c j))) (fun q => by cases q) (by show ¬ (i < 0 ∨ (arrV _ _ _).slots.size ≤ _); rw [arrV_size]; exact sd_in_of hin) rfl rfl d fun H1 e z oq => ?_
  rw [(sd_isB_nar hv).1] at e
  refine sd_st_key (g := sd_wi h c i.toNatClampNeg v) (a := .inl (G.2.2.2.1 102, n, .inl ((sd_wi h c i.toNatClampNeg v).2.1 c))) hB hH hS hl hf hc rfl (sd_W_set G rfl hc (sd_cel_a G _ hs (by decide)) (fun q _ hq => sd_wi_ne G h v hq)) kk H1 ?_ z oq
  show H1[G.1 + c]? = some (vp_cell _ _)
  rw [e]
  rw [vp_cell_i]
  show some ((vp_cell (G.2.2.2.1 102) (n, .inl (h.2.1 c))).setSlot _ _) = _
  rw [vp_cell_i, arrV_store]
  congr 2
  funext q
  by_cases hq : q = i.toNatClampNeg
  · subst hq
    simp [updV]
  · simp [updV, hq]
end SF

/-! ===== behind the constructors: the whole heap; h: ints, doubles, the two references that change (Runner.rows, Runner.outcome) ===== -/
abbrev sd_H : Type := (Nat → Nat → Int32) × (Nat → Nat → UInt64) × (Nat → Option Nat)
def sd_rtl : List (List Nat) := [[2, 7, 34, 56, 57, 64, 98, 99, 100, 101, 108, 111, 116, 121, 124], [3, 4, 5, 6], [], [], [], [], [8], [9, 14, 19, 24, 29], [10], [11, 12, 13], [], [], [], [15], [16, 17, 18], [], [], [], [20], [21, 22, 23], [], [], [], [25], [26, 27, 28], [], [], [], [30], [31, 32, 33], [], [], [], [35], [36, 37, 38, 39, 40, 41, 42, 43, 44, 45, 46, 47, 48, 49, 50, 51, 52, 53, 54, 55], [], [], [], [], [], [], [], [], [], [], [], [], [], [], [], [], [], [], [], [], [], [2, 7, 58, 63], [59, 60, 61, 62], [], [], [], [], [], [65, 66, 67], [68, 69, 70, 71, 72, 73, 74, 75, 76, 77, 78, 79, 80, 81, 82, 83, 84, 85, 86, 87, 88, 89, 90, 91, 92, 93, 94, 95, 96, 97], [], [], [], [], [], [], [], [], [], [], [], [], [], [], [], [], [], [], [], [], [], [], [], [], [], [], [], [], [], [], [], [], [], [], [], [7, 102, 103, 104, 105, 106, 107], [], [], [], [], [], [], [109, 110], [], [], [112, 113, 114, 115], [], [], [], [], [117, 118, 119, 120], [], [], [], [], [122, 123], [], [], [125, 126], [], [], [128, 129, 130, 131, 0, 132, 0, 0, 133, 134, 135, 136, 137, 138, 139, 140, 141, 142, 0, 143, 0, 144, 0, 145, 146, 0, 0, 0, 0, 147, 148, 149, 150, 0, 0, 151, 152, 0, 0, 0, 153, 154, 155, 156, 157, 158, 159], [], [], [], [], [], [], [], [], [], [], [], [], [], [], [], [], [], [], [], [], [], [], [], [], [], [], [], [], [], [], [], []]
def sd_RT (c k : Nat) : Option Nat := match (sd_rtl.getD c []).getD k 0 with
  | 0 => none
  | n + 1 => some n
def sd_F (h : sd_H) : sd_HX := (sd_NT, h.1, h.2.1, fun c k => if c = 100 ∧ k = 7 then h.2.2 0 else if c = 100 ∧ k = 8 then h.2.2 1 else sd_RT c k)
def wI (h : sd_H) (c k : Nat) (v : Int32) : sd_H := (fun c' k' => if c' = c ∧ k' = k then v else h.1 c' k', h.2)
def wD (h : sd_H) (c k : Nat) (v : UInt64) : sd_H := (h.1, fun c' k' => if c' = c ∧ k' = k then v else h.2.1 c' k', h.2.2)
def wP (h : sd_H) (i : Nat) (v : Option Nat) : sd_H := (h.1, h.2.1, fun j => if j = i then v else h.2.2 j)
theorem sd_F_wP0 (h : sd_H) (v : Option Nat) : sd_wr (sd_F h) 100 7 v = sd_F (wP h 0 v) := by
  unfold sd_wr sd_F wP
  refine Prod.ext rfl (Prod.ext rfl (Prod.ext rfl (funext fun c => funext fun k => ?_)))
  show (if c = 100 ∧ k = 7 then v else if c = 100 ∧ k = 7 then h.2.2 0 else if c = 100 ∧ k = 8 then h.2.2 1 else sd_RT c k) = (if c = 100 ∧ k = 7 then (if 0 = 0 then v else h.2.2 0) else if c = 100 ∧ k = 8 then (if 1 = 0 then v else h.2.2 1) else sd_RT c k)
  by_cases q : c = 100 ∧ k = 7
  · simp [q]
  · simp [q]
theorem sd_F_wP1 (h : sd_H) (v : Option Nat) : sd_wr (sd_F h) 100 8 v = sd_F (wP h 1 v) := by
  unfold sd_wr sd_F wP
  refine Prod.ext rfl (Prod.ext rfl (Prod.ext rfl (funext fun c => funext fun k => ?_)))
  show (if c = 100 ∧ k = 8 then v else if c = 100 ∧ k = 7 then h.2.2 0 else if c = 100 ∧ k = 8 then h.2.2 1 else sd_RT c k) = (if c = 100 ∧ k = 7 then (if 0 = 1 then v else h.2.2 0) else if c = 100 ∧ k = 8 then (if 1 = 1 then v else h.2.2 1) else sd_RT c k)
  by_cases q : c = 100 ∧ k = 7
  · obtain ⟨rfl, rfl⟩ := q
    simp
  · by_cases q2 : c = 100 ∧ k = 8
    · simp [q, q2]
    · simp [q, q2]


def sd_WL (G : sd_GX) (h : sd_HX) (U : State) : Prop := sd_HR G h U.heap ∧ sd_K G U ∧ sd_ST G U U.heap
def sd_QC (G : sd_GX) (o : Option Value × sd_HX) : Array Value → State → Outcome → State → Prop := fun _ st oc t => oc = .returned o.1 ∧ sd_WL G o.2 t ∧ va_F (sd_A G) st t
abbrev sd_QR (G : sd_GX) (X : sd_CX) (M : sd_MX) (o : Option Value × sd_HX) : State → Prop := MQ X.2.2.2.2.2.2.2.1 (sd_QC G o) X.2.2.2.2.2.2.1 (sd_s X) M.2.2.2.2.cells M.2.2.2.2.slots (sd_A G)
def sd_ws (M : sd_MX) : List Cond := .code M.1 M.2.1 M.2.2.1 M.2.2.2.1 :: sd_tb
def sd_Run (G : sd_GX) (M : sd_MX) (av : List Value) (h : sd_HX) (o : Option Value × sd_HX) : Prop :=
  (o.2.1 = h.1 + M.2.2.2.2.cells ∧ sd_SZ o.2.1 = sd_SZ h.1 + M.2.2.2.2.slots) ∧ ∀ l : Launch, Met l M.1 (sd_ws M) M.2.2.2.2 (va_Pc av (fun U => sd_WL G h U)) (sd_QC G o) M.2.2.2.2.cells M.2.2.2.2.slots (sd_A G)
theorem sd_good : ∀ w ∈ sd_tb, (w.onTables && w.keeps) = true ∨ ∃ ty, w = .arrayClass ty := fun w hw => good_of_word (List.mem_filter.mp hw).2
theorem sd_SZ_mono {a b : Nat} (h : a ≤ b) : sd_SZ a ≤ sd_SZ b := by
  induction b with
  | zero => rw [Nat.le_zero.mp h]; exact Nat.le_refl _
  | succ b ih =>
    rcases Nat.lt_or_ge a (b + 1) with q | q
    · refine Nat.le_trans (ih (by omega)) ?_
      unfold sd_SZ
      rw [List.take_succ, List.map_append, List.sum_append]
      omega
    · rw [Nat.le_antisymm h q]; exact Nat.le_refl _
section SC
variable {G : sd_GX} {X : sd_CX} {Q : State → Prop} {M M' : sd_MX} {pc pc' tgt : Nat} {lo lo' : List (Nat × Value)} {st st0 : List Value} {h : sd_HX} {o : Option Value × sd_HX}
/-- what a call stands on: the callee's words -/
abbrev sd_mok (M' : sd_MX) (n : Nat) : Prop := Cond.code M'.1 M'.2.1 M'.2.2.1 M'.2.2.2.1 ∈ sd_tb ∧ Cond.initialized M'.1.cls ∈ sd_tb ∧ M'.1.cls ≠ "java/lang/invoke/MethodHandle" ∧ M'.1.cls ≠ "java/lang/invoke/VarHandle" ∧ (parseMethodDescriptor M'.1.desc).map (fun d => d.parameters.length) = some n
abbrev sd_mV (M' : sd_MX) (n : Nat) : Prop := Cond.instanceMethod M'.1 ∈ sd_tb ∧ Cond.selects M'.1.cls M'.1 M'.1 ∈ sd_tb ∧ sd_mok M' n
abbrev sd_mS (M' : sd_MX) (n : Nat) : Prop := Cond.static M'.1 ∈ sd_tb ∧ sd_mok M' n
abbrev sd_mI (M' : sd_MX) (n : Nat) : Prop := Cond.instanceMethod M'.1 ∈ sd_tb ∧ M'.1.name = "<init>" ∧ M'.2.2.2.1 = none ∧ sd_mok M' n
abbrev sd_rm (M M' : sd_MX) : Prop := M'.2.2.2.2.frames + 1 ≤ M.2.2.2.2.frames ∧ 8 + (M'.2.2.1 + 11) + M'.2.2.2.2.locals ≤ M.2.2.2.2.locals
theorem sd_kadd (hB : sd_BD G X M) {H : Heap} {locs : List Loc} (hH : sd_HR G h H) (hS : va_S (sd_A G) (sd_s X).heap H locs) {h1 : sd_HX} {mc ms : Nat} (e : h1.1 = h.1 + mc ∧ sd_SZ h1.1 = sd_SZ h.1 + ms) : sd_kc G X h1 = sd_kc G X h + mc ∧ sd_ks G X h1 = sd_ks G X h + ms := by
  have a1 := hS.1
  have a2 := hH.2.1
  have a3 := hB.2.2.2.2.2.2.2.2.2.2.1
  have a4 : sd_SZ ((sd_s X).heap.size - G.1) ≤ sd_SZ h.1 := sd_SZ_mono (by omega)
  unfold sd_kc sd_ks
  omega
theorem sd_call {av : List Value} (hR : sd_Run G M' av h o)
    (hrun : sd_BD G X M → ∀ (H : Heap) (locs : List Loc) (ls : Array Slot), sd_HR G h H → va_S (sd_A G) (sd_s X).heap H locs → lv_has ls M.2.2.1 lo → (sd_kc G X h + M'.2.2.2.2.cells ≤ X.2.2.2.1.cells ∧ sd_ks G X h + M'.2.2.2.2.slots ≤ X.2.2.2.1.slots) →
      va_Run X.1 X.2.1 X.2.2.1 X.2.2.2.1 (sd_s X) X.2.2.2.2.2.1 X.2.2.2.2.2.2.1 X.2.2.2.2.2.2.2.1 X.2.2.2.2.2.2.2.2.1 X.2.2.2.2.2.2.2.2.2 H locs (sd_kc G X h) (sd_ks G X h) M'.2.2.2.2.cells M'.2.2.2.2.slots (F0 X.2.2.2.2.2.1 pc ls st0) st (sd_QC G o av.toArray) (sd_A G))
    (hfit : sd_fit G X h → sd_fit G X o.2) (kk : sd_J G X Q M (pc + 3) lo (o.1.toList ++ st) o.2) : sd_J G X Q M pc lo st0 h := by
  intro hB H locs ls hH hS hl hf T hT X'
  obtain ⟨e1, e2⟩ := sd_kadd hB hH hS hR.1
  have hf2 := hfit hf
  obtain ⟨v, st₀, t, T', L, h0, X2, hL, f1, f2, ⟨hv, hW, hF⟩, stp⟩ := hrun hB H locs ls hH hS hl (by unfold sd_fit at hf2; rw [← e1, ← e2]; exact hf2) T hT X'
  cases hv
  rw [← e1, ← e2] at X2
  rw [va_F, h0] at hF
  obtain ⟨t2, a1, b1⟩ := kk hB T'.heap (locs ++ L) ls (by rw [f1]; exact hW.1) ⟨by rw [f1]; exact Nat.le_trans hS.1 hF.1, fun q h1 h2 => by rw [f1, hF.2 q (Nat.lt_of_lt_of_le h1 hS.1) h2]; exact hS.2.1 q h1 h2, fun q hq => (List.mem_append.mp hq).elim (hS.2.2 q) (hL q)⟩ hl hf2 T' rfl X2
  exact ⟨t2, stp t2 a1, b1⟩
theorem sd_pre (hB : sd_BD G X M) {H : Heap} {locs : List Loc} (hH : sd_HR G h H) (hS : va_S (sd_A G) (sd_s X).heap H locs) (av : List Value) : PreS (sd_s X) H (va_Pc av (fun U => sd_WL G h U)) av := by
  refine ⟨fun a U g mk q => ?_, fun U hU hW => ⟨rfl, by rw [hU]; exact hH, va_K.moved hW.alike hB.2.2.2.2.2.2.2.2.2.1, hB.2.2.2.2.2.2.2.2.2.2.2.step hW (by rw [hU]; exact hS.2.1)⟩⟩
  obtain ⟨q1, q2, q3, q4⟩ := q
  exact ⟨q1, q2, va_K.moved (u := U) (U := U.calling g mk a) (Vm.Alike.refl U.vm) q3, q4.step (State.WarmedH.refl U) (fun _ _ _ => rfl)⟩
theorem sd_fix (hB : sd_BD G X M) : CallFix X.1 X.2.2.2.2.2.1 X.2.2.2.2.2.2.2.2.2 M.2.1 M.2.2.1 (sd_s X) X.2.2.2.2.2.2.1 sd_tb M.1.cls := ⟨hB.1, hB.2.1, hB.2.2.2.1, hB.2.2.2.2.1, hB.2.2.2.2.2.1⟩
theorem sd_gws {n : Nat} (hm : sd_mok M' n) {pre : List Cond} (hp : ∀ w ∈ pre, w ∈ sd_tb) : GoodIn sd_tb (pre ++ sd_ws M') := by
  intro w hw
  have hm : w ∈ sd_tb := by
    rcases List.mem_append.mp hw with q | q
    · exact hp w q
    · rcases List.mem_cons.mp q with rfl | q
      · exact hm.1
      · exact q
  exact ⟨hm, sd_good w hm⟩
theorem sd_callV {idx b : Nat} {As : List Value} {ci : Nat} (n : Nat) (hR : sd_Run G M' (.ref (G.1 + b) :: As) h o) (d : decode M.2.1 pc = .ok (.invokevirtual idx, 3)) (hm : sd_mV M' n) (hlk : Cond.methodLink M.1.cls idx M'.1 ∈ sd_tb) (hrm : sd_rm M M') (hn : As.length = n) (hst : st0 = As.reverse ++ .ref (G.1 + b) :: st) (hw : (st.map fun v => v.category).sum ≤ 8)
    (hs : sd_SH b = (ci, (sd_C ci).2.2)) (hci : ci < 13) (hcc : (sd_C ci).1 = M'.1.cls) (hb : b < h.1) (hfit : sd_fit G X h → sd_fit G X o.2) (hp : pc + 3 = pc') (kk : sd_J G X Q M pc' lo (o.1.toList ++ st) o.2) : sd_J G X Q M pc lo st0 h := by
  subst hp
  refine sd_call hR (fun hB H locs ls hH hS hl hc => ?_) hfit kk
  have hpre := sd_pre hB hH hS (.ref (G.1 + b) :: As)
  have he := sd_W_at G hb
  rw [sd_cel_o G h hs (by omega)] at he
  have hrec := va_recv hB.2.2.2.2.2.2.2.2.2.1 hH.1 (sd_clsAt hci) he
  rw [hcc] at hrec
  rw [hst]
  exact va_runV (sd_fix hB) (hR.2 X.2.1) (cwV n hB.2.2.2.2.2.1 (C := M'.1.cls) (index := idx) (own := M.1.cls) (sd_gws hm.2.2 (fun w hw => by
    simp only [List.mem_cons, List.not_mem_nil, or_false] at hw
    rcases hw with rfl | rfl | rfl | rfl
    · exact hlk
    · exact hm.1
    · exact hm.2.1
    · exact hm.2.2.2.1)) rfl rfl rfl ⟨rfl, hm.2.2.2.2⟩ (by rw [hB.2.2.2.2.2.2.2.2.1]; exact hrm)) ⟨hpre.1, hrec, hpre.2⟩ rfl hn hl.1 rfl (lv_room hw) d hc
theorem sd_callS {idx : Nat} {As : List Value} (n : Nat) (hR : sd_Run G M' As h o) (d : decode M.2.1 pc = .ok (.invokestatic idx, 3)) (hm : sd_mS M' n) (hlk : Cond.methodLink M.1.cls idx M'.1 ∈ sd_tb) (hrm : sd_rm M M') (hn : As.length = n) (hst : st0 = As.reverse ++ st) (hw : (st.map fun v => v.category).sum ≤ 8)
    (hfit : sd_fit G X h → sd_fit G X o.2) (hp : pc + 3 = pc') (kk : sd_J G X Q M pc' lo (o.1.toList ++ st) o.2) : sd_J G X Q M pc lo st0 h := by
  subst hp
  refine sd_call hR (fun hB H locs ls hH hS hl hc => ?_) hfit kk
  rw [hst]
  exact va_runS (sd_fix hB) (hR.2 X.2.1) (va_cwS n hB.2.2.2.2.2.1 (index := idx) (own := M.1.cls) (sd_gws hm.2 (fun w hw => by
    simp only [List.mem_cons, List.not_mem_nil, or_false] at hw
    rcases hw with rfl | rfl | rfl
    · exact hlk
    · exact hm.1
    · exact hm.2.2.1)) rfl rfl rfl hm.2.2.2 (by rw [hB.2.2.2.2.2.2.2.2.1]; exact hrm)) (sd_pre hB hH hS As) rfl hn hl.1 rfl (lv_room hw) d hc
theorem sd_callSN {idx : Nat} {As : List Value} {host : String} (n : Nat) (hR : sd_Run G M' As h o) (d : decode M.2.1 pc = .ok (.invokestatic idx, 3)) (hm : sd_mS M' n) (hlk : Cond.methodLinkNest M.1.cls idx M'.1 host ∈ sd_tb) (hrm : sd_rm M M') (hn : As.length = n) (hst : st0 = As.reverse ++ st) (hw : (st.map fun v => v.category).sum ≤ 8)
    (hfit : sd_fit G X h → sd_fit G X o.2) (hp : pc + 3 = pc') (kk : sd_J G X Q M pc' lo (o.1.toList ++ st) o.2) : sd_J G X Q M pc lo st0 h := by
  subst hp
  refine sd_call hR (fun hB H locs ls hH hS hl hc => ?_) hfit kk
  rw [hst]
  have hts := hB.2.2.2.2.2.1
  exact va_runSN (sd_fix hB) (hR.2 X.2.1) ⟨va_cnB n hts (sd_gws (pre := []) hm.2 (fun w hw => absurd hw List.not_mem_nil)) rfl rfl rfl (va_Nw.of rfl (hts _ hlk)) (hts _ hm.2.2.1) hm.2.2.2 (by rw [hB.2.2.2.2.2.2.2.2.1]; exact hrm), hts _ hm.1, trivial⟩ (sd_pre hB hH hS As) rfl hn hl.1 rfl (lv_room hw) d hc
/-- the end of a method's own walk: what it made is what its room says -/
def sd_end (G : sd_GX) (X : sd_CX) (M : sd_MX) (h : sd_HX) : Prop := sd_kc G X h = M.2.2.2.2.cells ∧ sd_ks G X h = M.2.2.2.2.slots
theorem sd_fin (hB : sd_BD G X M) {H : Heap} {locs : List Loc} (hH : sd_HR G h H) (hS : va_S (sd_A G) (sd_s X).heap H locs) (v : Option Value) : ∀ t : State, t.heap = H → (sd_s X).WarmedH t.vm → sd_QC G (v, h) X.2.2.2.2.2.2.1 (sd_s X) (.returned v) t := fun t ht hW =>
  ⟨rfl, ⟨by rw [ht]; exact hH, va_K.moved hW.alike hB.2.2.2.2.2.2.2.2.2.1, hB.2.2.2.2.2.2.2.2.2.2.2.step hW (by rw [ht]; exact hS.2.1)⟩, hS.F ht⟩
theorem sd_iret {v : Int32} (d : decode M.2.1 pc = .ok (.ireturn, 1)) (hr : M.2.2.2.1 = some .int) (he : sd_end G X M h) : sd_J G X (sd_QR G X M (some (.int v), h)) M pc lo [.int v] h := fun hB H locs ls hH hS hl hf => by
  rw [he.1, he.2]
  exact W.iret hB.1 hB.2.1 (by rw [hB.2.2.1, hr]) (sd_fin hB hH hS _) hS.2.2 d hB.2.2.2.2.2.2.1
theorem sd_zret {v : Int32} (d : decode M.2.1 pc = .ok (.ireturn, 1)) (hr : M.2.2.2.1 = some .boolean) (hv : sd_isB v = true) (he : sd_end G X M h) : sd_J G X (sd_QR G X M (some (.int v), h)) M pc lo [.int v] h := fun hB H locs ls hH hS hl hf => by
  rw [he.1, he.2]
  exact W.zret hB.1 hB.2.1 (ty := .boolean) (by rw [hB.2.2.1, hr]) (sd_isB_nar hv).1 (sd_fin hB hH hS _) hS.2.2 d hB.2.2.2.2.2.2.1
theorem sd_lret {v : Int64} (d : decode M.2.1 pc = .ok (.lreturn, 1)) (hr : M.2.2.2.1 = some .long) (he : sd_end G X M h) : sd_J G X (sd_QR G X M (some (.long v), h)) M pc lo [.long v] h := fun hB H locs ls hH hS hl hf => by
  rw [he.1, he.2]
  exact W.lret hB.1 hB.2.1 (by rw [hB.2.2.1, hr]) (sd_fin hB hH hS _) hS.2.2 d hB.2.2.2.2.2.2.1
theorem sd_dret {v : UInt64} (d : decode M.2.1 pc = .ok (.dreturn, 1)) (hr : M.2.2.2.1 = some .double) (he : sd_end G X M h) : sd_J G X (sd_QR G X M (some (.double v), h)) M pc lo [.double v] h := fun hB H locs ls hH hS hl hf => by
  have hlk := hB.2.2.2.2.2.2.1
  rw [he.1, he.2]
  exact W.dret hB.1 hB.2.1 (by rw [hB.2.2.1, hr]) (sd_fin hB hH hS _) hS.2.2 d hlk
theorem sd_fret {v : UInt32} (d : decode M.2.1 pc = .ok (.freturn, 1)) (hr : M.2.2.2.1 = some .float) (he : sd_end G X M h) : sd_J G X (sd_QR G X M (some (.float v), h)) M pc lo [.float v] h := fun hB H locs ls hH hS hl hf => by
  have hlk := hB.2.2.2.2.2.2.1
  rw [he.1, he.2]
  exact W.fret hB.1 hB.2.1 (by rw [hB.2.2.1, hr]) (sd_fin hB hH hS _) hS.2.2 d hlk
theorem sd_aret {v : Nat} {rt : FieldType} (d : decode M.2.1 pc = .ok (.areturn, 1)) (hr : M.2.2.2.1 = some rt) (hrt : (∃ n, rt = .object n) ∨ ∃ t, rt = .array t) (he : sd_end G X M h) : sd_J G X (sd_QR G X M (some (.ref v), h)) M pc lo [.ref v] h := fun hB H locs ls hH hS hl hf => by
  rw [he.1, he.2]
  exact W.aret hB.1 hB.2.1 (by rw [hB.2.2.1, hr]) hrt (Or.inr ⟨v, rfl⟩) (sd_fin hB hH hS _) hS.2.2 d hB.2.2.2.2.2.2.1
theorem sd_vret (d : decode M.2.1 pc = .ok (.return_, 1)) (hr : M.2.2.2.1 = none) (he : sd_end G X M h) : sd_J G X (sd_QR G X M (none, h)) M pc lo [] h := fun hB H locs ls hH hS hl hf => by
  rw [he.1, he.2]
  exact W.vret hB.1 hB.2.1 (by rw [hB.2.2.1, hr]) (sd_fin hB hH hS _) hS.2.2 d hB.2.2.2.2.2.2.1
theorem sd_Run_of {av : List Value} (hn : o.2.1 = h.1 + M.2.2.2.2.cells ∧ sd_SZ o.2.1 = sd_SZ h.1 + M.2.2.2.2.slots) (hy : plainName M.1.cls = true) (hav : (lg_sl av).length ≤ M.2.2.1) (hlo : lv_args 0 av = lo)
    (hJ : ∀ X : sd_CX, (sd_s X).heap.size = G.1 + h.1 → X.2.2.2.2.2.2.1 = av.toArray → sd_J G X (sd_QR G X M o) M 0 lo [] h) : sd_Run G M av h o := by
  refine ⟨hn, fun l => ?_⟩
  refine Met.ofW (cc := M.2.1) (maxL := M.2.2.1) (ret := M.2.2.2.1) hy rfl ?_
  intro p e s m args below meth c s₁ B hml hv
  obtain ⟨rfl, hH, hK, hT⟩ := hv
  have hl := lv_entry av (n := M.2.2.1) hav
  rw [hlo] at hl
  rw [lg_entry_eq]
  have hts := atoms_spec (ws := sd_ws M) B.pre
  have key := hJ (p, l, e, M.2.2.2.2, s, m, av.toArray, below, meth, c) hH.2.1 rfl ⟨B.exec, B.bytes, B.returns, hml, findClass_of_methodNamed B.named, fun w hw => hts w (List.mem_cons_of_mem _ hw), B.notSynchronized, (name_of_methodNamed B.named B.method).1, rfl, hK, by show G.1 ≤ s.heap.size; rw [hH.2.1]; omega, hT⟩ s.heap [] _ hH va_S.rf hl ⟨by show h.1 + G.1 - s.heap.size ≤ _; rw [hH.2.1]; omega, by show sd_SZ h.1 - sd_SZ (s.heap.size - G.1) ≤ _; rw [hH.2.1, Nat.add_sub_cancel_left]; omega⟩
  have k1 : sd_kc G ((p, l, e, M.2.2.2.2, s, m, av.toArray, below, meth, c) : sd_CX) h = 0 := by show h.1 + G.1 - s.heap.size = 0; rw [hH.2.1]; omega
  have k2 : sd_ks G ((p, l, e, M.2.2.2.2, s, m, av.toArray, below, meth, c) : sd_CX) h = 0 := by show sd_SZ h.1 - sd_SZ (s.heap.size - G.1) = 0; rw [hH.2.1, Nat.add_sub_cancel_left]; omega
  rw [k1, k2] at key
  exact key
end SC
end
section
section SG
variable {G : sd_GX} {X : sd_CX} {Q : State → Prop} {M : sd_MX} {pc pc' : Nat} {lo : List (Nat × Value)} {st : List Value} {h : sd_H}
theorem sd_lt {e t n : Nat} (pe : sd_SH e = (t, n)) (ht : t < 900) : e < (sd_F h).1 := sd_SHlt pe ht
theorem sF_gi {idx ci k e n : Nat} (d : sd_d M pc (.getfield idx) 3 pc') (hw : sd_fl M.1.cls idx ci k) (hf : ¬ sd_FT ci k = 2) (hn : (sd_C ci).2.2 = n) (pe : sd_SH e = (ci, n)) (kk : sd_J G X Q M pc' lo (.int (h.1 e k) :: st) (sd_F h)) : sd_J G X Q M pc lo (.ref (G.1 + e) :: st) (sd_F h) := by
  subst hn
  refine sd_get d hw pe (sd_lt pe (by have := hw.2.1; omega)) ?_
  unfold sd_fv
  rw [if_neg hf]
  exact kk
theorem sF_gr {idx ci k e n r : Nat} (d : sd_d M pc (.getfield idx) 3 pc') (hw : sd_fl M.1.cls idx ci k) (hf : sd_FT ci k = 2) (hn : (sd_C ci).2.2 = n) (pe : sd_SH e = (ci, n)) (hm : ci ≠ 7 ∨ (k ≠ 7 ∧ k ≠ 8)) (hr : sd_RT e k = some r) (kk : sd_J G X Q M pc' lo (.ref (G.1 + r) :: st) (sd_F h)) : sd_J G X Q M pc lo (.ref (G.1 + e) :: st) (sd_F h) := by
  subst hn
  refine sd_get d hw pe (sd_lt pe (by have := hw.2.1; omega)) ?_
  have e1 : (sd_F h).2.2.2 e k = some r := by
    show (if e = 100 ∧ k = 7 then h.2.2 0 else if e = 100 ∧ k = 8 then h.2.2 1 else sd_RT e k) = _
    have h100 : sd_SH 100 = (7, 11) := by decide +kernel
    rcases hm with q | q
    · have hne : e ≠ 100 := fun z => by rw [z, h100] at pe; cases pe; exact q rfl
      rw [if_neg (fun z => hne z.1), if_neg (fun z => hne z.1), hr]
    · rw [if_neg (fun z => q.1 z.2), if_neg (fun z => q.2 z.2), hr]
  unfold sd_fv
  rw [if_pos hf, e1]
  exact kk
theorem sF_gm {idx k w r : Nat} (d : sd_d M pc (.getfield idx) 3 pc') (hw : sd_fl M.1.cls idx 7 k) (hk : (k = 7 ∧ w = 0) ∨ (k = 8 ∧ w = 1)) (hr : h.2.2 w = some r) (kk : sd_J G X Q M pc' lo (.ref (G.1 + r) :: st) (sd_F h)) : sd_J G X Q M pc lo (.ref (G.1 + 100) :: st) (sd_F h) := by
  have pe : sd_SH 100 = (7, (sd_C 7).2.2) := by decide +kernel
  refine sd_get d hw pe (sd_lt pe (by decide)) ?_
  have e1 : (sd_F h).2.2.2 100 k = some r := by
    show (if 100 = 100 ∧ k = 7 then h.2.2 0 else if 100 = 100 ∧ k = 8 then h.2.2 1 else sd_RT 100 k) = _
    rcases hk with ⟨rfl, rfl⟩ | ⟨rfl, rfl⟩
    · rw [if_pos ⟨rfl, rfl⟩, hr]
    · rw [if_neg (by decide), if_pos ⟨rfl, rfl⟩, hr]
  have hf : sd_FT 7 k = 2 := by rcases hk with ⟨rfl, rfl⟩ | ⟨rfl, rfl⟩ <;> decide +kernel
  unfold sd_fv
  rw [if_pos hf, e1]
  exact kk
theorem sF_pi {idx ci k e n : Nat} {v : Int32} (d : sd_d M pc (.putfield idx) 3 pc') (hw : sd_fl M.1.cls idx ci k) (hf : sd_FT ci k = 0) (hty : sd_ty ci k = .int) (hfin : ((sd_C ci).2.1 k).2.2.2 = false) (hn : (sd_C ci).2.2 = n) (pe : sd_SH e = (ci, n)) (kk : sd_J G X Q M pc' lo st (sd_F (wI h e k v))) : sd_J G X Q M pc lo (.int v :: .ref (G.1 + e) :: st) (sd_F h) := by
  subst hn
  have hc := sd_lt (h := h) pe (by have := hw.2.1; omega)
  exact sd_put0 (g := sd_F (wI h e k v)) d hw pe hc hty (Or.inl hfin) (by rfl) (by rfl) rfl (sd_wi_set G hw.2.1 pe hc (by rw [hf]; decide)) kk
theorem sF_pz {idx ci k e n : Nat} {v : Int32} (d : sd_d M pc (.putfield idx) 3 pc') (hw : sd_fl M.1.cls idx ci k) (hf : sd_FT ci k = 1) (hty : sd_ty ci k = .boolean) (hfin : ((sd_C ci).2.1 k).2.2.2 = false) (hn : (sd_C ci).2.2 = n) (pe : sd_SH e = (ci, n)) (hv : sd_isB v = true) (kk : sd_J G X Q M pc' lo st (sd_F (wI h e k v))) : sd_J G X Q M pc lo (.int v :: .ref (G.1 + e) :: st) (sd_F h) := by
  subst hn
  have hc := sd_lt (h := h) pe (by have := hw.2.1; omega)
  exact sd_put0 (g := sd_F (wI h e k v)) d hw pe hc hty (Or.inl hfin) (sd_isB_nar hv).1 (sd_isB_nar hv).2 rfl (sd_wi_set G hw.2.1 pe hc (by rw [hf]; decide)) kk
theorem sF_pm {idx k w r : Nat} {ty : FieldType} (d : sd_d M pc (.putfield idx) 3 pc') (hw : sd_fl M.1.cls idx 7 k) (hk : (k = 7 ∧ w = 0) ∨ (k = 8 ∧ w = 1)) (hty : sd_ty 7 k = ty) (hnr : ∀ a, narrow ty (.ref a) = .ref a) (hfi : ∀ a, fits ty (.ref a) = true) (hfin : ((sd_C 7).2.1 k).2.2.2 = false) (kk : sd_J G X Q M pc' lo st (sd_F (wP h w (some r)))) : sd_J G X Q M pc lo (.ref (G.1 + r) :: .ref (G.1 + 100) :: st) (sd_F h) := by
  have pe : sd_SH 100 = (7, (sd_C 7).2.2) := by decide +kernel
  have hc := sd_lt (h := h) pe (by decide)
  have hf : sd_FT 7 k = 2 := by rcases hk with ⟨rfl, rfl⟩ | ⟨rfl, rfl⟩ <;> decide +kernel
  have hset := sd_wr_set G (h := sd_F h) (v := some r) (by decide) pe hc hf
  have e : sd_wr (sd_F h) 100 k (some r) = sd_F (wP h w (some r)) := by
    rcases hk with ⟨rfl, rfl⟩ | ⟨rfl, rfl⟩
    · exact sd_F_wP0 h _
    · exact sd_F_wP1 h _
  rw [e] at hset
  exact sd_put0 (g := sd_F (wP h w (some r))) d hw pe hc hty (Or.inl hfin) (hnr _) (hfi _) rfl hset kk
theorem sF_iald {e n : Nat} {i : Int32} (d : sd_d M pc .iaload 1 pc') (pe : sd_SH e = (100, n)) (hin : sd_inB i n = true) (kk : sd_J G X Q M pc' lo (.int (h.1 e i.toNatClampNeg) :: st) (sd_F h)) : sd_J G X Q M pc lo (.int i :: .ref (G.1 + e) :: st) (sd_F h) := sd_iald d pe (sd_lt pe (by decide)) hin kk
theorem sF_dald {e n : Nat} {i : Int32} (d : sd_d M pc .daload 1 pc') (pe : sd_SH e = (101, n)) (hin : sd_inB i n = true) (kk : sd_J G X Q M pc' lo (.double (h.2.1 e i.toNatClampNeg) :: st) (sd_F h)) : sd_J G X Q M pc lo (.int i :: .ref (G.1 + e) :: st) (sd_F h) := sd_dald d pe (sd_lt pe (by decide)) hin kk
theorem sF_zald {e n : Nat} {i : Int32} (d : sd_d M pc .baload 1 pc') (pe : sd_SH e = (102, n)) (hin : sd_inB i n = true) (kk : sd_J G X Q M pc' lo (.int (h.1 e i.toNatClampNeg) :: st) (sd_F h)) : sd_J G X Q M pc lo (.int i :: .ref (G.1 + e) :: st) (sd_F h) := sd_zald d pe (sd_lt pe (by decide)) hin kk
theorem sF_R {e k r : Nat} {t n : Nat} (pe : sd_SH e = (t, n)) (ht : ¬ t = 7) (hr : sd_RT e k = some r) : (sd_F h).2.2.2 e k = some r := by
  show (if e = 100 ∧ k = 7 then h.2.2 0 else if e = 100 ∧ k = 8 then h.2.2 1 else sd_RT e k) = _
  have h100 : sd_SH 100 = (7, 11) := by decide +kernel
  have hne : e ≠ 100 := fun z => by rw [z, h100] at pe; cases pe; exact ht rfl
  rw [if_neg (fun z => hne z.1), if_neg (fun z => hne z.1), hr]
theorem sF_aald {e n t r : Nat} {i : Int32} (d : sd_d M pc .aaload 1 pc') (pe : sd_SH e = (t, n)) (ht : t = 103 ∨ t = 104 ∨ t = 105) (hin : sd_inB i n = true) (hr : sd_RT e i.toNatClampNeg = some r) (kk : sd_J G X Q M pc' lo (.ref (G.1 + r) :: st) (sd_F h)) : sd_J G X Q M pc lo (.int i :: .ref (G.1 + e) :: st) (sd_F h) := sd_aald d pe ht (sd_lt pe (by omega)) hin (sF_R pe (by omega) hr) kk
theorem sF_aald2 {e n r : Nat} {i : Int32} (d : sd_d M pc .aaload 1 pc') (pe : sd_SH e = (106, n)) (hin : sd_inB i n = true) (hr : sd_RT e i.toNatClampNeg = some r) (kk : sd_J G X Q M pc' lo (.ref (G.1 + r) :: st) (sd_F h)) : sd_J G X Q M pc lo (.int i :: .ref (G.1 + e) :: st) (sd_F h) := fun hB H locs ls hH hS hl hf => by
  obtain ⟨d, rfl⟩ := d
  have k2 := kk hB H locs ls hH hS hl hf
  have hR := sF_R (h := h) pe (by decide) hr
  have ha := sd_at_arr G (h := sd_F h) pe (by decide) (sd_lt pe (by decide))
  have hin' := sd_in_of hin
  have hlt : i.toNatClampNeg < n := Nat.not_le.mp fun q => hin' (Or.inr q)
  refine W.aald (v := .ref (G.1 + r)) (ty := .array .int) hB.1 hB.2.1 (hH.1 e _ ha) ((hB.2.2.2.2.2.2.2.2.2.1.2 6 _ rfl).1 n (fun j => va_rf (((sd_F h).2.2.2 e j).map (fun a => G.1 + a)))) rfl (fun q => by cases q) (by show ¬ (i < 0 ∨ (arrV _ _ _).slots.size ≤ _); rw [arrV_size]; exact hin') ?_ rfl rfl d k2
  show (arrV _ _ _).slots[_]? = _
  rw [arrV_read _ _ hlt]
  show some (va_rf (((sd_F h).2.2.2 e i.toNatClampNeg).map (fun a => G.1 + a))) = _
  rw [hR]
  rfl
theorem sF_iast {e n : Nat} {i v : Int32} (d : sd_d M pc .iastore 1 pc') (pe : sd_SH e = (100, n)) (hin : sd_inB i n = true) (kk : sd_J G X Q M pc' lo st (sd_F (wI h e i.toNatClampNeg v))) : sd_J G X Q M pc lo (.int v :: .int i :: .ref (G.1 + e) :: st) (sd_F h) := sd_iast d pe (sd_lt pe (by decide)) hin kk
theorem sF_dast {e n : Nat} {i : Int32} {v : UInt64} (d : sd_d M pc .dastore 1 pc') (pe : sd_SH e = (101, n)) (hin : sd_inB i n = true) (kk : sd_J G X Q M pc' lo st (sd_F (wD h e i.toNatClampNeg v))) : sd_J G X Q M pc lo (.double v :: .int i :: .ref (G.1 + e) :: st) (sd_F h) := sd_dast d pe (sd_lt pe (by decide)) hin kk
theorem sF_zast {e n : Nat} {i v : Int32} (d : sd_d M pc .bastore 1 pc') (pe : sd_SH e = (102, n)) (hin : sd_inB i n = true) (hv : sd_isB v = true) (kk : sd_J G X Q M pc' lo st (sd_F (wI h e i.toNatClampNeg v))) : sd_J G X Q M pc lo (.int v :: .int i :: .ref (G.1 + e) :: st) (sd_F h) := sd_zast d pe (sd_lt pe (by decide)) hin hv kk
theorem sd_endF (hs : (sd_s X).heap.size = G.1 + (sd_F h).1) (hM : M.2.2.2.2.cells = 0 ∧ M.2.2.2.2.slots = 0) : ∀ g : sd_H, sd_end G X M (sd_F g) := by
  intro g
  have e1 : sd_kc G X (sd_F g) = 0 := by
    show sd_NT + G.1 - (sd_s X).heap.size = 0
    rw [hs]
    show sd_NT + G.1 - (G.1 + sd_NT) = 0
    omega
  have e2 : sd_ks G X (sd_F g) = 0 := by
    show sd_SZ sd_NT - sd_SZ ((sd_s X).heap.size - G.1) = 0
    rw [hs, Nat.add_sub_cancel_left]
    show sd_SZ sd_NT - sd_SZ sd_NT = 0
    omega
  exact ⟨e1.trans hM.1.symm, e2.trans hM.2.symm⟩
/-- a call's contract, over the whole heap -/
abbrev sd_RunF (G : sd_GX) (M : sd_MX) (av : List Value) (h : sd_H) (v : Option Value) (g : sd_H) : Prop := sd_Run G M av (sd_F h) (v, sd_F g)
theorem sF_run {av : List Value} {v : Option Value} {g : sd_H} (hM : M.2.2.2.2.cells = 0 ∧ M.2.2.2.2.slots = 0) (hy : plainName M.1.cls = true) (hav : (lg_sl av).length ≤ M.2.2.1) (hlo : lv_args 0 av = lo)
    (hJ : ∀ X : sd_CX, (∀ g : sd_H, sd_end G X M (sd_F g)) → sd_J G X (sd_QR G X M (v, sd_F g)) M 0 lo [] (sd_F h)) : sd_RunF G M av h v g :=
  sd_Run_of (o := (v, sd_F g)) ⟨by show sd_NT = sd_NT + _; rw [hM.1, Nat.add_zero], by show sd_SZ sd_NT = sd_SZ sd_NT + _; rw [hM.2, Nat.add_zero]⟩ hy hav hlo (fun X hs _ => hJ X (sd_endF hs hM))
end SG
/-! ===== words of the printed functions ===== -/
def FU : Nat := 100000
def gd {β : Type} (b : Bool) (k : Option β) : Option β := if b = true then k else none
def hb {β : Type} (h : sd_H) (k : sd_H → Option β) : Option β := k h
def b1 {α β : Type} (o : Option α) (k : α → Option β) : Option β := match o with
  | some a => k a
  | none => none
def b2 {α β : Type} (o : Option (sd_H × α)) (k : sd_H → α → Option β) : Option β := match o with
  | some p => k p.1 p.2
  | none => none
/-- a reference that may be null, and has to be of a shape -/
def op {β : Type} (o : Option Nat) (t n : Nat) (k : Nat → Option β) : Option β := match o with
  | some c => if sd_SH c = (t, n) then k c else none
  | none => none
theorem gd_some {β : Type} {b : Bool} {k : Option β} {r : β} (h : gd b k = some r) : b = true ∧ k = some r := by
  unfold gd at h
  by_cases q : b = true
  · rw [if_pos q] at h; exact ⟨q, h⟩
  · rw [if_neg q] at h; cases h
theorem hb_some {β : Type} {e : sd_H} {k : sd_H → Option β} {r : β} (h : hb e k = some r) : ∃ g, g = e ∧ k g = some r := ⟨e, rfl, h⟩
theorem b1_some {α β : Type} {o : Option α} {k : α → Option β} {r : β} (h : b1 o k = some r) : ∃ a, o = some a ∧ k a = some r := by
  cases o with
  | none => cases h
  | some a => exact ⟨a, rfl, h⟩
theorem b2_some {α β : Type} {o : Option (sd_H × α)} {k : sd_H → α → Option β} {r : β} (h : b2 o k = some r) : ∃ g a, o = some (g, a) ∧ k g a = some r := by
  cases o with
  | none => cases h
  | some p => exact ⟨p.1, p.2, rfl, h⟩
theorem op_some {β : Type} {o : Option Nat} {t n : Nat} {k : Nat → Option β} {r : β} (h : op o t n k = some r) : ∃ c, o = some c ∧ sd_SH c = (t, n) ∧ k c = some r := by
  cases o with
  | none => cases h
  | some c =>
    by_cases q : sd_SH c = (t, n)
    · exact ⟨c, rfl, q, by simpa [op, q] using h⟩
    · simp [op, q] at h
theorem ite_p {α : Type} {c : Prop} [Decidable c] {a b r : α} (hc : c) (h : (if c then a else b) = r) : a = r := by rw [if_pos hc] at h; exact h
theorem ite_n {α : Type} {c : Prop} [Decidable c] {a b r : α} (hc : ¬ c) (h : (if c then a else b) = r) : b = r := by rw [if_neg hc] at h; exact h
theorem ne_ti {x v : Int32} {n : Int} (h : ¬ x = v) (hv : v.toInt = n) : x.toInt ≠ n := fun z => h (Int32.toInt_inj.mp (z.trans hv.symm))
def nz (x : Int32) : Bool := decide (¬ x = 0)
theorem nz_of {x : Int32} (h : nz x = true) : ¬ x = 0 := of_decide_eq_true h
def nf (x : UInt32) : Bool := decide (x &&& 0x7fffffff ≤ 0x7f800000)
def nd (x : UInt64) : Bool := decide (x &&& 0x7fffffffffffffff ≤ 0x7ff0000000000000)
theorem nf_of {x : UInt32} (h : nf x = true) : vf_n32 x := of_decide_eq_true (p := x &&& 0x7fffffff ≤ 0x7f800000) h
theorem nd_of {x : UInt64} (h : nd x = true) : vf_n64 x := of_decide_eq_true (p := x &&& 0x7fffffffffffffff ≤ 0x7ff0000000000000) h

theorem sd_all {P : Nat → Prop} (h : ∀ c, c < sd_NT → P c) (h2 : ∀ c, sd_NT ≤ c → P c) : ∀ c, P c := fun c => (Nat.lt_or_ge c sd_NT).elim (h c) (h2 c)
theorem sd_big {c t n : Nat} (hc : sd_NT ≤ c) (ht : t < 900) : ¬ sd_SH c = (t, n) := fun q => absurd (sd_SHlt q ht) (Nat.not_lt.mpr hc)
theorem rt_4_0 {c : Nat} (h : sd_SH c = (4, 4)) : sd_RT c 0 = some (c + 1) := by
  have a : ∀ c, c < sd_NT → sd_SH c = (4, 4) → sd_RT c 0 = some (c + 1) := by decide +kernel
  exact a c (sd_SHlt h (by decide)) h
theorem sh_4_0 {c : Nat} (h : sd_SH c = (4, 4)) : sd_SH (c + 1) = (100, 3) := by
  have a : ∀ c, c < sd_NT → sd_SH c = (4, 4) → sd_SH (c + 1) = (100, 3) := by decide +kernel
  exact a c (sd_SHlt h (by decide)) h
theorem rt_4_1 {c : Nat} (h : sd_SH c = (4, 4)) : sd_RT c 1 = some (c + 2) := by
  have a : ∀ c, c < sd_NT → sd_SH c = (4, 4) → sd_RT c 1 = some (c + 2) := by decide +kernel
  exact a c (sd_SHlt h (by decide)) h
theorem sh_4_1 {c : Nat} (h : sd_SH c = (4, 4)) : sd_SH (c + 2) = (100, 10) := by
  have a : ∀ c, c < sd_NT → sd_SH c = (4, 4) → sd_SH (c + 2) = (100, 10) := by decide +kernel
  exact a c (sd_SHlt h (by decide)) h
theorem rt_6_0 {c : Nat} (h : sd_SH c = (6, 4)) : sd_RT c 0 = some (c + 1) := by
  have a : ∀ c, c < sd_NT → sd_SH c = (6, 4) → sd_RT c 0 = some (c + 1) := by decide +kernel
  exact a c (sd_SHlt h (by decide)) h
theorem sh_6_0 {c : Nat} (h : sd_SH c = (6, 4)) : sd_SH (c + 1) = (100, 6) := by
  have a : ∀ c, c < sd_NT → sd_SH c = (6, 4) → sd_SH (c + 1) = (100, 6) := by decide +kernel
  exact a c (sd_SHlt h (by decide)) h
theorem rt_6_1 {c : Nat} (h : sd_SH c = (6, 4)) : sd_RT c 1 = some (c + 2) := by
  have a : ∀ c, c < sd_NT → sd_SH c = (6, 4) → sd_RT c 1 = some (c + 2) := by decide +kernel
  exact a c (sd_SHlt h (by decide)) h
theorem sh_6_1 {c : Nat} (h : sd_SH c = (6, 4)) : sd_SH (c + 2) = (100, 6) := by
  have a : ∀ c, c < sd_NT → sd_SH c = (6, 4) → sd_SH (c + 2) = (100, 6) := by decide +kernel
  exact a c (sd_SHlt h (by decide)) h
theorem rt_6_2 {c : Nat} (h : sd_SH c = (6, 4)) : sd_RT c 2 = some (c + 3) := by
  have a : ∀ c, c < sd_NT → sd_SH c = (6, 4) → sd_RT c 2 = some (c + 3) := by decide +kernel
  exact a c (sd_SHlt h (by decide)) h
theorem sh_6_2 {c : Nat} (h : sd_SH c = (6, 4)) : sd_SH (c + 3) = (101, 144) := by
  have a : ∀ c, c < sd_NT → sd_SH c = (6, 4) → sd_SH (c + 3) = (101, 144) := by decide +kernel
  exact a c (sd_SHlt h (by decide)) h
theorem rt_6_3 {c : Nat} (h : sd_SH c = (6, 4)) : sd_RT c 3 = some (c + 4) := by
  have a : ∀ c, c < sd_NT → sd_SH c = (6, 4) → sd_RT c 3 = some (c + 4) := by decide +kernel
  exact a c (sd_SHlt h (by decide)) h
theorem sh_6_3 {c : Nat} (h : sd_SH c = (6, 4)) : sd_SH (c + 4) = (100, 144) := by
  have a : ∀ c, c < sd_NT → sd_SH c = (6, 4) → sd_SH (c + 4) = (100, 144) := by decide +kernel
  exact a c (sd_SHlt h (by decide)) h
theorem rt_9_0 {c : Nat} (h : sd_SH c = (9, 6)) : sd_RT c 0 = some (c + 1) := by
  have a : ∀ c, c < sd_NT → sd_SH c = (9, 6) → sd_RT c 0 = some (c + 1) := by decide +kernel
  exact a c (sd_SHlt h (by decide)) h
theorem sh_9_0 {c : Nat} (h : sd_SH c = (9, 6)) : sd_SH (c + 1) = (105, 3) := by
  have a : ∀ c, c < sd_NT → sd_SH c = (9, 6) → sd_SH (c + 1) = (105, 3) := by decide +kernel
  exact a c (sd_SHlt h (by decide)) h
theorem rta_7 {j : Nat} (h : j < 5) : sd_RT 7 j = some (8 + 5 * j) := by
  have a : ∀ j, j < 5 → sd_RT 7 j = some (8 + 5 * j) := by decide +kernel
  exact a j h
theorem sha_7 {j : Nat} (h : j < 5) : sd_SH (8 + 5 * j) = (9, 6) := by
  have a : ∀ j, j < 5 → sd_SH (8 + 5 * j) = (9, 6) := by decide +kernel
  exact a j h
theorem rta_34 {j : Nat} (h : j < 20) : sd_RT 34 j = some (35 + 1 * j) := by
  have a : ∀ j, j < 20 → sd_RT 34 j = some (35 + 1 * j) := by decide +kernel
  exact a j h
theorem sha_34 {j : Nat} (h : j < 20) : sd_SH (35 + 1 * j) = (100, 6) := by
  have a : ∀ j, j < 20 → sd_SH (35 + 1 * j) = (100, 6) := by decide +kernel
  exact a j h
theorem rta_57 {j : Nat} (h : j < 4) : sd_RT 57 j = some (58 + 1 * j) := by
  have a : ∀ j, j < 4 → sd_RT 57 j = some (58 + 1 * j) := by decide +kernel
  exact a j h
theorem sha_57 {j : Nat} (h : j < 4) : sd_SH (58 + 1 * j) = (100, 60) := by
  have a : ∀ j, j < 4 → sd_SH (58 + 1 * j) = (100, 60) := by decide +kernel
  exact a j h
theorem rta_64 {j : Nat} (h : j < 30) : sd_RT 64 j = some (67 + 1 * j) := by
  have a : ∀ j, j < 30 → sd_RT 64 j = some (67 + 1 * j) := by decide +kernel
  exact a j h
theorem sha_64 {j : Nat} (h : j < 30) : sd_SH (67 + 1 * j) = (8, 3) := by
  have a : ∀ j, j < 30 → sd_SH (67 + 1 * j) = (8, 3) := by decide +kernel
  exact a j h
theorem rta_R {c j : Nat} (h : sd_SH c = (105, 3)) (hj : j < 3) : sd_RT c j = some (c + 1 + j) := by
  have a : ∀ c, c < sd_NT → sd_SH c = (105, 3) → ∀ j, j < 3 → sd_RT c j = some (c + 1 + j) := by decide +kernel
  exact a c (sd_SHlt h (by decide)) h j hj
theorem sha_R {c j : Nat} (h : sd_SH c = (105, 3)) (hj : j < 3) : sd_SH (c + 1 + j) = (5, 4) := by
  have a : ∀ c, c < sd_NT → sd_SH c = (105, 3) → ∀ j, j < 3 → sd_SH (c + 1 + j) = (5, 4) := by decide +kernel
  exact a c (sd_SHlt h (by decide)) h j hj
theorem inB_lt {i : Int32} {n : Nat} (h : sd_inB i n = true) : i.toNatClampNeg < n := by
  unfold sd_inB at h
  rw [Bool.and_eq_true, decide_eq_true_eq, decide_eq_true_eq] at h
  exact h.2
theorem SH_0 : sd_SH 0 = (11, 17) := by decide +kernel
theorem SH_1 : sd_SH 1 = (6, 4) := by decide +kernel
theorem SH_2 : sd_SH 2 = (100, 6) := by decide +kernel
theorem SH_3 : sd_SH 3 = (100, 6) := by decide +kernel
theorem SH_4 : sd_SH 4 = (101, 144) := by decide +kernel
theorem SH_5 : sd_SH 5 = (100, 144) := by decide +kernel
theorem SH_6 : sd_SH 6 = (2, 3) := by decide +kernel
theorem SH_7 : sd_SH 7 = (104, 5) := by decide +kernel
theorem SH_8 : sd_SH 8 = (9, 6) := by decide +kernel
theorem SH_9 : sd_SH 9 = (105, 3) := by decide +kernel
theorem SH_10 : sd_SH 10 = (5, 4) := by decide +kernel
theorem SH_11 : sd_SH 11 = (5, 4) := by decide +kernel
theorem SH_12 : sd_SH 12 = (5, 4) := by decide +kernel
theorem SH_13 : sd_SH 13 = (9, 6) := by decide +kernel
theorem SH_14 : sd_SH 14 = (105, 3) := by decide +kernel
theorem SH_15 : sd_SH 15 = (5, 4) := by decide +kernel
theorem SH_16 : sd_SH 16 = (5, 4) := by decide +kernel
theorem SH_17 : sd_SH 17 = (5, 4) := by decide +kernel
theorem SH_18 : sd_SH 18 = (9, 6) := by decide +kernel
theorem SH_19 : sd_SH 19 = (105, 3) := by decide +kernel
theorem SH_20 : sd_SH 20 = (5, 4) := by decide +kernel
theorem SH_21 : sd_SH 21 = (5, 4) := by decide +kernel
theorem SH_22 : sd_SH 22 = (5, 4) := by decide +kernel
theorem SH_23 : sd_SH 23 = (9, 6) := by decide +kernel
theorem SH_24 : sd_SH 24 = (105, 3) := by decide +kernel
theorem SH_25 : sd_SH 25 = (5, 4) := by decide +kernel
theorem SH_26 : sd_SH 26 = (5, 4) := by decide +kernel
theorem SH_27 : sd_SH 27 = (5, 4) := by decide +kernel
theorem SH_28 : sd_SH 28 = (9, 6) := by decide +kernel
theorem SH_29 : sd_SH 29 = (105, 3) := by decide +kernel
theorem SH_30 : sd_SH 30 = (5, 4) := by decide +kernel
theorem SH_31 : sd_SH 31 = (5, 4) := by decide +kernel
theorem SH_32 : sd_SH 32 = (5, 4) := by decide +kernel
theorem SH_33 : sd_SH 33 = (0, 3) := by decide +kernel
theorem SH_34 : sd_SH 34 = (106, 20) := by decide +kernel
theorem SH_35 : sd_SH 35 = (100, 6) := by decide +kernel
theorem SH_36 : sd_SH 36 = (100, 6) := by decide +kernel
theorem SH_37 : sd_SH 37 = (100, 6) := by decide +kernel
theorem SH_38 : sd_SH 38 = (100, 6) := by decide +kernel
theorem SH_39 : sd_SH 39 = (100, 6) := by decide +kernel
theorem SH_40 : sd_SH 40 = (100, 6) := by decide +kernel
theorem SH_41 : sd_SH 41 = (100, 6) := by decide +kernel
theorem SH_42 : sd_SH 42 = (100, 6) := by decide +kernel
theorem SH_43 : sd_SH 43 = (100, 6) := by decide +kernel
theorem SH_44 : sd_SH 44 = (100, 6) := by decide +kernel
theorem SH_45 : sd_SH 45 = (100, 6) := by decide +kernel
theorem SH_46 : sd_SH 46 = (100, 6) := by decide +kernel
theorem SH_47 : sd_SH 47 = (100, 6) := by decide +kernel
theorem SH_48 : sd_SH 48 = (100, 6) := by decide +kernel
theorem SH_49 : sd_SH 49 = (100, 6) := by decide +kernel
theorem SH_50 : sd_SH 50 = (100, 6) := by decide +kernel
theorem SH_51 : sd_SH 51 = (100, 6) := by decide +kernel
theorem SH_52 : sd_SH 52 = (100, 6) := by decide +kernel
theorem SH_53 : sd_SH 53 = (100, 6) := by decide +kernel
theorem SH_54 : sd_SH 54 = (100, 6) := by decide +kernel
theorem SH_55 : sd_SH 55 = (100, 5) := by decide +kernel
theorem SH_56 : sd_SH 56 = (10, 6) := by decide +kernel
theorem SH_57 : sd_SH 57 = (106, 4) := by decide +kernel
theorem SH_58 : sd_SH 58 = (100, 60) := by decide +kernel
theorem SH_59 : sd_SH 59 = (100, 60) := by decide +kernel
theorem SH_60 : sd_SH 60 = (100, 60) := by decide +kernel
theorem SH_61 : sd_SH 61 = (100, 60) := by decide +kernel
theorem SH_62 : sd_SH 62 = (100, 6) := by decide +kernel
theorem SH_63 : sd_SH 63 = (1, 4) := by decide +kernel
theorem SH_64 : sd_SH 64 = (103, 30) := by decide +kernel
theorem SH_65 : sd_SH 65 = (100, 30) := by decide +kernel
theorem SH_66 : sd_SH 66 = (8, 3) := by decide +kernel
theorem SH_67 : sd_SH 67 = (8, 3) := by decide +kernel
theorem SH_68 : sd_SH 68 = (8, 3) := by decide +kernel
theorem SH_69 : sd_SH 69 = (8, 3) := by decide +kernel
theorem SH_70 : sd_SH 70 = (8, 3) := by decide +kernel
theorem SH_71 : sd_SH 71 = (8, 3) := by decide +kernel
theorem SH_72 : sd_SH 72 = (8, 3) := by decide +kernel
theorem SH_73 : sd_SH 73 = (8, 3) := by decide +kernel
theorem SH_74 : sd_SH 74 = (8, 3) := by decide +kernel
theorem SH_75 : sd_SH 75 = (8, 3) := by decide +kernel
theorem SH_76 : sd_SH 76 = (8, 3) := by decide +kernel
theorem SH_77 : sd_SH 77 = (8, 3) := by decide +kernel
theorem SH_78 : sd_SH 78 = (8, 3) := by decide +kernel
theorem SH_79 : sd_SH 79 = (8, 3) := by decide +kernel
theorem SH_80 : sd_SH 80 = (8, 3) := by decide +kernel
theorem SH_81 : sd_SH 81 = (8, 3) := by decide +kernel
theorem SH_82 : sd_SH 82 = (8, 3) := by decide +kernel
theorem SH_83 : sd_SH 83 = (8, 3) := by decide +kernel
theorem SH_84 : sd_SH 84 = (8, 3) := by decide +kernel
theorem SH_85 : sd_SH 85 = (8, 3) := by decide +kernel
theorem SH_86 : sd_SH 86 = (8, 3) := by decide +kernel
theorem SH_87 : sd_SH 87 = (8, 3) := by decide +kernel
theorem SH_88 : sd_SH 88 = (8, 3) := by decide +kernel
theorem SH_89 : sd_SH 89 = (8, 3) := by decide +kernel
theorem SH_90 : sd_SH 90 = (8, 3) := by decide +kernel
theorem SH_91 : sd_SH 91 = (8, 3) := by decide +kernel
theorem SH_92 : sd_SH 92 = (8, 3) := by decide +kernel
theorem SH_93 : sd_SH 93 = (8, 3) := by decide +kernel
theorem SH_94 : sd_SH 94 = (8, 3) := by decide +kernel
theorem SH_95 : sd_SH 95 = (8, 3) := by decide +kernel
theorem SH_96 : sd_SH 96 = (8, 3) := by decide +kernel
theorem SH_97 : sd_SH 97 = (8, 3) := by decide +kernel
theorem SH_98 : sd_SH 98 = (8, 3) := by decide +kernel
theorem SH_99 : sd_SH 99 = (8, 3) := by decide +kernel
theorem SH_100 : sd_SH 100 = (7, 11) := by decide +kernel
theorem SH_101 : sd_SH 101 = (100, 6) := by decide +kernel
theorem SH_102 : sd_SH 102 = (101, 1440) := by decide +kernel
theorem SH_103 : sd_SH 103 = (100, 60) := by decide +kernel
theorem SH_104 : sd_SH 104 = (100, 4) := by decide +kernel
theorem SH_105 : sd_SH 105 = (100, 4) := by decide +kernel
theorem SH_106 : sd_SH 106 = (100, 4) := by decide +kernel
theorem SH_107 : sd_SH 107 = (4, 4) := by decide +kernel
theorem SH_108 : sd_SH 108 = (100, 3) := by decide +kernel
theorem SH_109 : sd_SH 109 = (100, 10) := by decide +kernel
theorem SH_110 : sd_SH 110 = (6, 4) := by decide +kernel
theorem SH_111 : sd_SH 111 = (100, 6) := by decide +kernel
theorem SH_112 : sd_SH 112 = (100, 6) := by decide +kernel
theorem SH_113 : sd_SH 113 = (101, 144) := by decide +kernel
theorem SH_114 : sd_SH 114 = (100, 144) := by decide +kernel
theorem SH_115 : sd_SH 115 = (6, 4) := by decide +kernel
theorem SH_116 : sd_SH 116 = (100, 6) := by decide +kernel
theorem SH_117 : sd_SH 117 = (100, 6) := by decide +kernel
theorem SH_118 : sd_SH 118 = (101, 144) := by decide +kernel
theorem SH_119 : sd_SH 119 = (100, 144) := by decide +kernel
theorem SH_120 : sd_SH 120 = (4, 4) := by decide +kernel
theorem SH_121 : sd_SH 121 = (100, 3) := by decide +kernel
theorem SH_122 : sd_SH 122 = (100, 10) := by decide +kernel
theorem SH_123 : sd_SH 123 = (4, 4) := by decide +kernel
theorem SH_124 : sd_SH 124 = (100, 3) := by decide +kernel
theorem SH_125 : sd_SH 125 = (100, 10) := by decide +kernel
theorem SH_126 : sd_SH 126 = (12, 47) := by decide +kernel
theorem SH_127 : sd_SH 127 = (100, 6) := by decide +kernel
theorem SH_128 : sd_SH 128 = (100, 6) := by decide +kernel
theorem SH_129 : sd_SH 129 = (101, 144) := by decide +kernel
theorem SH_130 : sd_SH 130 = (100, 144) := by decide +kernel
theorem SH_131 : sd_SH 131 = (101, 24) := by decide +kernel
theorem SH_132 : sd_SH 132 = (100, 5) := by decide +kernel
theorem SH_133 : sd_SH 133 = (100, 5) := by decide +kernel
theorem SH_134 : sd_SH 134 = (100, 5) := by decide +kernel
theorem SH_135 : sd_SH 135 = (100, 5) := by decide +kernel
theorem SH_136 : sd_SH 136 = (100, 5) := by decide +kernel
theorem SH_137 : sd_SH 137 = (100, 15) := by decide +kernel
theorem SH_138 : sd_SH 138 = (100, 15) := by decide +kernel
theorem SH_139 : sd_SH 139 = (100, 15) := by decide +kernel
theorem SH_140 : sd_SH 140 = (100, 15) := by decide +kernel
theorem SH_141 : sd_SH 141 = (100, 120) := by decide +kernel
theorem SH_142 : sd_SH 142 = (100, 5) := by decide +kernel
theorem SH_143 : sd_SH 143 = (100, 120) := by decide +kernel
theorem SH_144 : sd_SH 144 = (100, 240) := by decide +kernel
theorem SH_145 : sd_SH 145 = (100, 6) := by decide +kernel
theorem SH_146 : sd_SH 146 = (100, 6) := by decide +kernel
theorem SH_147 : sd_SH 147 = (101, 144) := by decide +kernel
theorem SH_148 : sd_SH 148 = (101, 1440) := by decide +kernel
theorem SH_149 : sd_SH 149 = (102, 1440) := by decide +kernel
theorem SH_150 : sd_SH 150 = (100, 3) := by decide +kernel
theorem SH_151 : sd_SH 151 = (100, 10) := by decide +kernel
theorem SH_152 : sd_SH 152 = (100, 10) := by decide +kernel
theorem SH_153 : sd_SH 153 = (101, 144) := by decide +kernel
theorem SH_154 : sd_SH 154 = (101, 144) := by decide +kernel
theorem SH_155 : sd_SH 155 = (100, 144) := by decide +kernel
theorem SH_156 : sd_SH 156 = (100, 10) := by decide +kernel
theorem SH_157 : sd_SH 157 = (100, 3) := by decide +kernel
theorem SH_158 : sd_SH 158 = (100, 3) := by decide +kernel
section SM
variable {G : sd_GX} {X : sd_CX} {Q : State → Prop} {M : sd_MX} {pc pc' : Nat} {lo : List (Nat × Value)} {st : List Value} {h : sd_H}
abbrev sd_mm (own : String) (idx : Nat) (y : MethodName) (c : ByteArray) (n : Nat) : Prop := Cond.methodLink own idx y ∈ sd_tb ∧ Cond.static y ∈ sd_tb ∧ Cond.initialized "java/lang/Math" ∈ sd_tb ∧ Cond.code y c n (some .int) ∈ sd_tb
theorem sF_mmax {idx : Nat} {x y : Int32} (d : decode M.2.1 pc = .ok (.invokestatic idx, 3)) (hp : pc + 3 = pc') (hw : sd_mm M.1.cls idx Lib.Math.max.name Lib.Math.max.code 2) (hr : 1 ≤ M.2.2.2.2.frames) (hl2 : (st.map fun v => v.category).sum + 13 ≤ M.2.2.2.2.locals) (kk : sd_J G X Q M pc' lo (.int (if x < y then y else x) :: st) (sd_F h)) : sd_J G X Q M pc lo (.int y :: .int x :: st) (sd_F h) := fun hB H locs ls hH hS hl hf => by
  subst hp
  have hts := hB.2.2.2.2.2.1
  have eR := hB.2.2.2.2.2.2.2.2.1
  exact va_mmax hB.1 hB.2.1 (hB.2.2.2.1.trans hl.1.symm) hB.2.2.2.2.1 (hts _ hw.1) (hts _ hw.2.1) (hts _ hw.2.2.1) (hts _ hw.2.2.2) (by rw [eR]; exact hr) (by rw [eR]; exact hl2) hf.1 hf.2 d (kk hB H locs ls hH hS hl hf)
theorem sF_mmin {idx : Nat} {x y : Int32} (d : decode M.2.1 pc = .ok (.invokestatic idx, 3)) (hp : pc + 3 = pc') (hw : sd_mm M.1.cls idx Lib.Math.min.name Lib.Math.min.code 2) (hr : 1 ≤ M.2.2.2.2.frames) (hl2 : (st.map fun v => v.category).sum + 13 ≤ M.2.2.2.2.locals) (kk : sd_J G X Q M pc' lo (.int (if y < x then y else x) :: st) (sd_F h)) : sd_J G X Q M pc lo (.int y :: .int x :: st) (sd_F h) := fun hB H locs ls hH hS hl hf => by
  subst hp
  have hts := hB.2.2.2.2.2.1
  have eR := hB.2.2.2.2.2.2.2.2.1
  exact va_mmin hB.1 hB.2.1 (hB.2.2.2.1.trans hl.1.symm) hB.2.2.2.2.1 (hts _ hw.1) (hts _ hw.2.1) (hts _ hw.2.2.1) (hts _ hw.2.2.2) (by rw [eR]; exact hr) (by rw [eR]; exact hl2) hf.1 hf.2 d (kk hB H locs ls hH hS hl hf)
theorem sF_mabs {idx : Nat} {x : Int32} (d : decode M.2.1 pc = .ok (.invokestatic idx, 3)) (hp : pc + 3 = pc') (hw : sd_mm M.1.cls idx Lib.Math.abs.name Lib.Math.abs.code 1) (hr : 1 ≤ M.2.2.2.2.frames) (hl2 : (st.map fun v => v.category).sum + 13 ≤ M.2.2.2.2.locals) (kk : sd_J G X Q M pc' lo (.int (if 0 ≤ x then x else 0 - x) :: st) (sd_F h)) : sd_J G X Q M pc lo (.int x :: st) (sd_F h) := fun hB H locs ls hH hS hl hf => by
  subst hp
  have hts := hB.2.2.2.2.2.1
  have eR := hB.2.2.2.2.2.2.2.2.1
  exact va_mabs hB.1 hB.2.1 (hB.2.2.2.1.trans hl.1.symm) hB.2.2.2.2.1 (hts _ hw.1) (hts _ hw.2.1) (hts _ hw.2.2.1) (hts _ hw.2.2.2) (by rw [eR]; exact hr) (by rw [eR]; exact hl2) hf.1 hf.2 d (kk hB H locs ls hH hS hl hf)
/-- the heap behind a copy of places from one row to another -/
def cpI (h : sd_H) (a : Nat) (sp : Int32) (b : Nat) (dp n : Int32) : sd_H := (fun c k => if c = b then va_cpy (h.1 a) (h.1 b) sp.toNatClampNeg dp.toNatClampNeg n.toNatClampNeg k else h.1 c k, h.2)
def cpD (h : sd_H) (a : Nat) (sp : Int32) (b : Nat) (dp n : Int32) : sd_H := (h.1, fun c k => if c = b then va_cpy (h.2.1 a) (h.2.1 b) sp.toNatClampNeg dp.toNatClampNeg n.toNatClampNeg k else h.2.1 c k, h.2.2)
def acOK (sp dp n : Int32) (n0 n1 : Nat) : Bool := decide (¬ sp < 0) && (decide (¬ dp < 0) && (decide (¬ n < 0) && (decide (sp.toNatClampNeg + n.toNatClampNeg ≤ n0) && decide (dp.toNatClampNeg + n.toNatClampNeg ≤ n1))))
theorem acOK_of {sp dp n : Int32} {n0 n1 : Nat} (h : acOK sp dp n n0 n1 = true) : (¬ sp < 0) ∧ (¬ dp < 0) ∧ (¬ n < 0) ∧ sp.toNatClampNeg + n.toNatClampNeg ≤ n0 ∧ dp.toNatClampNeg + n.toNatClampNeg ≤ n1 := by
  unfold acOK at h
  simp only [Bool.and_eq_true, decide_eq_true_eq] at h
  exact h
abbrev sd_ac (own : String) (idx : Nat) : Prop := Cond.methodLink own idx arraycopyName ∈ sd_tb ∧ Cond.native arraycopyName ∈ sd_tb ∧ Cond.static arraycopyName ∈ sd_tb ∧ Cond.initialized "java/lang/System" ∈ sd_tb
/-- how many cells there are is known by the world and by the room -/
theorem sd_size {g : sd_HX} (hB : sd_BD G X M) {H H1 : Heap} {locs : List Loc} (hH : sd_HR G g H) (hS : va_S (sd_A G) (sd_s X).heap H locs) {g1 : sd_HX} (hn : g.1 = g1.1) (hpos : 0 < g1.1) (hP : va_P (sd_dD G) sd_cls (sd_W G g1) H1) {T : State} (hT : T.heap = H1) {locs1 : List Loc} {k : Nat} (Xs : Stand X.1 X.2.1 X.2.2.1 X.2.2.2.1 (sd_s X) X.2.2.2.2.2.1 X.2.2.2.2.2.2.1 X.2.2.2.2.2.2.2.1 X.2.2.2.2.2.2.2.2.1 X.2.2.2.2.2.2.2.2.2 T locs1 (sd_kc G X g) k) : H1.size = H.size := by
  have a1 := Xs.heapSize
  have a2 := hS.1
  have a3 := hH.2.1
  have a4 := hB.2.2.2.2.2.2.2.2.2.2.1
  have a5 := (hP (g1.1 - 1) _ (sd_W_at G (show g1.1 - 1 < g1.1 by omega))).lt
  have a6 : G.1 + (g1.1 - 1) < H1.size := a5
  rw [hT] at a1
  unfold sd_kc at a1
  omega
theorem sF_copyd {idx e0 e1 n0 n1 : Nat} {sp dp n : Int32} (d : decode M.2.1 pc = .ok (.invokestatic idx, 3)) (hp : pc + 3 = pc') (hw : sd_ac M.1.cls idx) (p0 : sd_SH e0 = (101, n0)) (p1 : sd_SH e1 = (101, n1)) (hk : acOK sp dp n n0 n1 = true) (hr : 1 ≤ M.2.2.2.2.frames) (hl2 : (st.map fun v => v.category).sum + (nativeFrameWords "java/lang/System" "arraycopy" 5 + 11) ≤ M.2.2.2.2.locals)
    (kk : sd_J G X Q M pc' lo st (sd_F (cpD h e0 sp e1 dp n))) : sd_J G X Q M pc lo (.int n :: .int dp :: .ref (G.1 + e1) :: .int sp :: .ref (G.1 + e0) :: st) (sd_F h) := fun hB H locs ls hH hS hl hf => by
  subst hp
  have hts := hB.2.2.2.2.2.1
  have eR := hB.2.2.2.2.2.2.2.2.1
  obtain ⟨k1, k2, k3, k4, k5⟩ := acOK_of hk
  have hset : (sd_W G (sd_F h)).set e1 (G.1 + e1, .inl (G.2.2.2.1 101, n1, .inr (.inr (.inr (.inl (va_cpy (h.2.1 e0) (h.2.1 e1) sp.toNatClampNeg dp.toNatClampNeg n.toNatClampNeg)))))) = sd_W G (sd_F (cpD h e0 sp e1 dp n)) := by
    refine sd_W_set G (g := sd_F (cpD h e0 sp e1 dp n)) rfl (sd_lt (h := h) p1 (by decide)) ?_ (fun q _ hq => sd_cel_ext G (fun _ => rfl) (fun j => ?_) (fun _ => rfl))
    · rw [sd_cel_a G _ p1 (by decide)]
      have : (sd_F (cpD h e0 sp e1 dp n)).2.2.1 e1 = va_cpy (h.2.1 e0) (h.2.1 e1) sp.toNatClampNeg dp.toNatClampNeg n.toNatClampNeg := by
        funext k
        show (if e1 = e1 then _ else _) = _
        rw [if_pos rfl]
      show (.inl (G.2.2.2.1 101, n1, .inr (.inr (.inr (.inl ((sd_F (cpD h e0 sp e1 dp n)).2.2.1 e1))))) : va_E) = _
      rw [this]
    · show (if q = e1 then va_cpy (h.2.1 e0) (h.2.1 e1) sp.toNatClampNeg dp.toNatClampNeg n.toNatClampNeg j else h.2.1 q j) = _
      rw [if_neg hq]
      rfl
  refine va_copyd hB.1 hB.2.1 (hB.2.2.2.1.trans hl.1.symm) hB.2.2.2.2.1 (hts _ hw.1) (hts _ hw.2.1) (hts _ hw.2.2.1) (hts _ hw.2.2.2) hB.2.2.2.2.2.2.2.2.2.1 hH.1 (sd_W_D G _) hS e0 e1 1 1 (sd_at_arr G p0 (by decide) (sd_lt (h := h) p0 (by decide))) (sd_at_arr G p1 (by decide) (sd_lt (h := h) p1 (by decide))) rfl rfl (by decide) k1 k2 k3 k4 k5 (fun _ _ => by rfl) (by rw [eR]; exact hr) (by rw [eR]; exact hl2) d (fun H1 locs1 hP1 _ hS1 T hT Xs => ?_)
  have hP2 : va_P (sd_dD G) sd_cls (sd_W G (sd_F (cpD h e0 sp e1 dp n))) H1 := hset ▸ hP1
  have hz := sd_size hB hH hS (g1 := sd_F (cpD h e0 sp e1 dp n)) rfl (show 0 < sd_NT by decide) hP2 hT Xs
  exact kk hB H1 locs1 ls (hH.to (g := sd_F (cpD h e0 sp e1 dp n)) rfl hz hP2) hS1 hl hf T hT Xs
theorem sF_copyi {idx e0 e1 n0 n1 : Nat} {sp dp n : Int32} (d : decode M.2.1 pc = .ok (.invokestatic idx, 3)) (hp : pc + 3 = pc') (hw : sd_ac M.1.cls idx) (p0 : sd_SH e0 = (100, n0)) (p1 : sd_SH e1 = (100, n1)) (hk : acOK sp dp n n0 n1 = true) (hr : 1 ≤ M.2.2.2.2.frames) (hl2 : (st.map fun v => v.category).sum + (nativeFrameWords "java/lang/System" "arraycopy" 5 + 11) ≤ M.2.2.2.2.locals)
    (kk : sd_J G X Q M pc' lo st (sd_F (cpI h e0 sp e1 dp n))) : sd_J G X Q M pc lo (.int n :: .int dp :: .ref (G.1 + e1) :: .int sp :: .ref (G.1 + e0) :: st) (sd_F h) := fun hB H locs ls hH hS hl hf => by
  subst hp
  have hts := hB.2.2.2.2.2.1
  have eR := hB.2.2.2.2.2.2.2.2.1
  obtain ⟨k1, k2, k3, k4, k5⟩ := acOK_of hk
  have hset : (sd_W G (sd_F h)).set e1 (G.1 + e1, .inl (G.2.2.2.1 100, n1, .inl (va_cpy (h.1 e0) (h.1 e1) sp.toNatClampNeg dp.toNatClampNeg n.toNatClampNeg))) = sd_W G (sd_F (cpI h e0 sp e1 dp n)) := by
    refine sd_W_set G (g := sd_F (cpI h e0 sp e1 dp n)) rfl (sd_lt (h := h) p1 (by decide)) ?_ (fun q _ hq => sd_cel_ext G (fun j => ?_) (fun _ => rfl) (fun _ => rfl))
    · rw [sd_cel_a G _ p1 (by decide)]
      have : (sd_F (cpI h e0 sp e1 dp n)).2.1 e1 = va_cpy (h.1 e0) (h.1 e1) sp.toNatClampNeg dp.toNatClampNeg n.toNatClampNeg := by
        funext k
        show (if e1 = e1 then _ else _) = _
        rw [if_pos rfl]
      show (.inl (G.2.2.2.1 100, n1, .inl ((sd_F (cpI h e0 sp e1 dp n)).2.1 e1)) : va_E) = _
      rw [this]
    · show (if q = e1 then va_cpy (h.1 e0) (h.1 e1) sp.toNatClampNeg dp.toNatClampNeg n.toNatClampNeg j else h.1 q j) = _
      rw [if_neg hq]
      rfl
  refine va_copyi hB.1 hB.2.1 (hB.2.2.2.1.trans hl.1.symm) hB.2.2.2.2.1 (hts _ hw.1) (hts _ hw.2.1) (hts _ hw.2.2.1) (hts _ hw.2.2.2) hB.2.2.2.2.2.2.2.2.2.1 hH.1 (sd_W_D G _) hS e0 e1 0 0 (sd_at_arr G p0 (by decide) (sd_lt (h := h) p0 (by decide))) (sd_at_arr G p1 (by decide) (sd_lt (h := h) p1 (by decide))) rfl rfl (by decide) k1 k2 k3 k4 k5 (fun _ _ => by rfl) (by rw [eR]; exact hr) (by rw [eR]; exact hl2) d (fun H1 locs1 hP1 _ hS1 T hT Xs => ?_)
  have hP2 : va_P (sd_dD G) sd_cls (sd_W G (sd_F (cpI h e0 sp e1 dp n))) H1 := hset ▸ hP1
  have hz := sd_size hB hH hS (g1 := sd_F (cpI h e0 sp e1 dp n)) rfl (show 0 < sd_NT by decide) hP2 hT Xs
  exact kk hB H1 locs1 ls (hH.to (g := sd_F (cpI h e0 sp e1 dp n)) rfl hz hP2) hS1 hl hf T hT Xs
section SV
variable {M' : sd_MX} {st0 : List Value} {g : sd_H}
theorem sF_callV {idx b : Nat} {As : List Value} {ci nn : Nat} {v : Value} (n : Nat) (hR : sd_RunF G M' (.ref (G.1 + b) :: As) h (some v) g) (d : decode M.2.1 pc = .ok (.invokevirtual idx, 3)) (hm : sd_mV M' n) (hlk : Cond.methodLink M.1.cls idx M'.1 ∈ sd_tb) (hrm : sd_rm M M') (hn : As.length = n) (hst : st0 = As.reverse ++ .ref (G.1 + b) :: st) (hw : (st.map fun v => v.category).sum ≤ 8)
    (hs : sd_SH b = (ci, nn)) (hnn : (sd_C ci).2.2 = nn) (hci : ci < 13) (hcc : (sd_C ci).1 = M'.1.cls) (hp : pc + 3 = pc') (kk : sd_J G X Q M pc' lo (v :: st) (sd_F g)) : sd_J G X Q M pc lo st0 (sd_F h) := by
  subst hnn
  exact sd_callV (o := (some v, sd_F g)) n hR d hm hlk hrm hn hst hw hs hci hcc (sd_lt hs (by omega)) (fun q => q) hp kk
theorem sF_callV0 {idx b : Nat} {As : List Value} {ci nn : Nat} (n : Nat) (hR : sd_RunF G M' (.ref (G.1 + b) :: As) h none g) (d : decode M.2.1 pc = .ok (.invokevirtual idx, 3)) (hm : sd_mV M' n) (hlk : Cond.methodLink M.1.cls idx M'.1 ∈ sd_tb) (hrm : sd_rm M M') (hn : As.length = n) (hst : st0 = As.reverse ++ .ref (G.1 + b) :: st) (hw : (st.map fun v => v.category).sum ≤ 8)
    (hs : sd_SH b = (ci, nn)) (hnn : (sd_C ci).2.2 = nn) (hci : ci < 13) (hcc : (sd_C ci).1 = M'.1.cls) (hp : pc + 3 = pc') (kk : sd_J G X Q M pc' lo st (sd_F g)) : sd_J G X Q M pc lo st0 (sd_F h) := by
  subst hnn
  exact sd_callV (o := (none, sd_F g)) n hR d hm hlk hrm hn hst hw hs hci hcc (sd_lt hs (by omega)) (fun q => q) hp kk
theorem sF_callS {idx : Nat} {As : List Value} {v : Value} (n : Nat) (hR : sd_RunF G M' As h (some v) g) (d : decode M.2.1 pc = .ok (.invokestatic idx, 3)) (hm : sd_mS M' n) (hlk : Cond.methodLink M.1.cls idx M'.1 ∈ sd_tb) (hrm : sd_rm M M') (hn : As.length = n) (hst : st0 = As.reverse ++ st) (hw : (st.map fun v => v.category).sum ≤ 8)
    (hp : pc + 3 = pc') (kk : sd_J G X Q M pc' lo (v :: st) (sd_F g)) : sd_J G X Q M pc lo st0 (sd_F h) := sd_callS (o := (some v, sd_F g)) n hR d hm hlk hrm hn hst hw (fun q => q) hp kk
theorem sF_callSN {idx : Nat} {As : List Value} {v : Value} {host : String} (n : Nat) (hR : sd_RunF G M' As h (some v) g) (d : decode M.2.1 pc = .ok (.invokestatic idx, 3)) (hm : sd_mS M' n) (hlk : Cond.methodLinkNest M.1.cls idx M'.1 host ∈ sd_tb) (hrm : sd_rm M M') (hn : As.length = n) (hst : st0 = As.reverse ++ st) (hw : (st.map fun v => v.category).sum ≤ 8)
    (hp : pc + 3 = pc') (kk : sd_J G X Q M pc' lo (v :: st) (sd_F g)) : sd_J G X Q M pc lo st0 (sd_F h) := sd_callSN (o := (some v, sd_F g)) n hR d hm hlk hrm hn hst hw (fun q => q) hp kk
end SV
end SM

def iushr (x y : Int32) : Int32 := (x.toUInt32 >>> (y.toUInt32 &&& Int32.toUInt32 31)).toInt32
def lshl (x : Int64) (y : Int32) : Int64 := x <<< (y.toInt64 &&& 63)
def i2s (x : Int32) : Int32 := x.toInt16.toInt32
/-- the texts: how long, which sign -/
def slen (j : Nat) : Int32 := nI (sd_len.getD j 0)
def schr (j : Nat) (i : Int32) : Int32 := (sd_byt.getD j []).getD i.toNatClampNeg 0
section SN
variable {G : sd_GX} {X : sd_CX} {Q : State → Prop} {M : sd_MX} {pc pc' : Nat} {lo : List (Nat × Value)} {st : List Value} {h : sd_H}
theorem sF_grN {idx ci k e n r : Nat} {nm ds host : String} (d : sd_d M pc (.getfield idx) 3 pc') (hw : Cond.fieldLinkNest M.1.cls idx ((sd_C ci).2.1 k).1 ((sd_C ci).2.1 k).2.1 ((sd_C ci).2.1 k).2.2.1 host ∈ sd_tb) (hci : ci < 13) (hk : k < (sd_C ci).2.2) (hf : sd_FT ci k = 2) (hn : (sd_C ci).2.2 = n) (pe : sd_SH e = (ci, n)) (hm : ci ≠ 7) (hr : sd_RT e k = some r) (kk : sd_J G X Q M pc' lo (.ref (G.1 + r) :: st) (sd_F h)) : sd_J G X Q M pc lo (.ref (G.1 + e) :: st) (sd_F h) := fun hB H locs ls hH hS hl hfi => by
  subst hn
  obtain ⟨d, rfl⟩ := d
  have hc := sd_lt (h := h) pe (by omega)
  have he := sd_W_at G hc
  rw [sd_cel_o G _ pe (by omega)] at he
  have hv : sd_fv G.1 (sd_F h) ci e k = .ref (G.1 + r) := by
    unfold sd_fv
    rw [if_pos hf, sF_R (h := h) pe hm hr]
    rfl
  exact va_getN hB.1 hB.2.1 hB.2.2.2.2.2.1 (sd_in hci) hB.2.2.2.2.1 hB.2.2.2.2.2.2.2.2.2.1 hH.1 e he (sd_clsAt hci) k hk (hB.2.2.2.2.2.1 _ hw) (fun _ q => q) (v := .ref (G.1 + r)) (by rw [List.getElem?_map, List.getElem?_range hk]; exact congrArg some hv) d (kk hB H locs ls hH hS hl hfi)
theorem sd_ldcwS {p : Program} {l : Launch} {e : Env} {R : Room} {s : State} {m : MethodId} {args : Array Value} {below : List Frame} {meth : Method} {c : Code} {T : State} {locs : List Loc} {cells slots : Nat}
    (X : Stand p l e R s m args below meth c T locs cells slots) (hexec : p.tables.exec = Jvm.exec) {own text : String} {index : Nat} {a : Addr} (hown : s.vm.findClass own = some m.cls)
    (hconst : (Cond.stringRef own index text).before args s = true) (hev : (Term.string own index).eval args s none [] s = some (.ref a)) {g : JFrame} (hg : g.method = m) (hdg : decode c.code g.pc = .ok (.ldc_w index, 3)) :
    ∀ target, Steps p.tables e below (T.setTop { g with pc := g.pc + 3, stack := .ref a :: g.stack }) target → Steps p.tables e below (T.setTop g) target := by
  obtain ⟨k, cf, i, a', hk, hcf, hcp, -, hr, hev'⟩ := Cond.stringRef_spec hown hconst
  cases hev.symm.trans hev'
  obtain ⟨k', hk', he⟩ := X.warmed.alike.2.2 _ _ hk
  have hr' : k'.resolved[index]? = some (some (.string a)) := by
    rcases X.warmed.entry hk hk' index with h | ⟨h, -⟩
    · rw [h]; exact hr
    · rw [hr] at h; cases h
  intro target hrest
  subst hg
  jvm_step X.here [hexec, hdg, ldc_w.wp_string (e := e) (s := T) (f := g) X.here.top hk' (by rw [he]; exact hcf) hcp hr']
  exact hrest
theorem sF_ldcS {idx j : Nat} (d : sd_d M pc (.ldc_w idx) 3 pc') (hc : M.1.cls = RX11) (hi : idx = 439 + 2 * j) (hj : j < 13) (kk : sd_J G X Q M pc' lo (.ref (G.2.2.2.2.1 j) :: st) (sd_F h)) : sd_J G X Q M pc lo st (sd_F h) := fun hB H locs ls hH hS hl hf => by
  obtain ⟨d, rfl⟩ := d
  subst hi
  have hZ := hB.2.2.2.2.2.2.2.2.2.2.2.2.2.2 j hj
  have k2 := kk hB H locs ls hH hS hl hf
  intro T hT Xs
  obtain ⟨t, a1, b1⟩ := k2 T hT Xs
  exact ⟨t, sd_ldcwS Xs hB.1 (own := RX11) (by rw [← hc]; exact hB.2.2.2.2.1) (text := sd_tx.getD j "") hZ.1 hZ.2 (g := F0 _ pc ls st) rfl (by rw [hB.2.1]; exact d) t a1, b1⟩
end SN
end
section
def M_TS_cod : sd_MX := (yJ0_coder_7d493, cJ0_coder_7d493, 1, (some .byte), { frames := 1, cells := 0, slots := 0, locals := 40 })
theorem mv_TS_cod : sd_mV M_TS_cod 0 := ⟨sd_mem (i := 603) (by decide +kernel), sd_mem (i := 604) (by decide +kernel), ⟨sd_mem (i := 605) (by decide +kernel), sd_mem (i := 122) (by decide +kernel), by decide +kernel, by decide +kernel, by decide +kernel⟩⟩
def M_TS_lat : sd_MX := (yJ0_isLatin1_aae02, cJ0_isLatin1_aae02, 1, (some .boolean), { frames := 1, cells := 0, slots := 0, locals := 40 })
theorem mv_TS_lat : sd_mV M_TS_lat 0 := ⟨sd_mem (i := 613) (by decide +kernel), sd_mem (i := 614) (by decide +kernel), ⟨sd_mem (i := 615) (by decide +kernel), sd_mem (i := 122) (by decide +kernel), by decide +kernel, by decide +kernel, by decide +kernel⟩⟩
def M_TS_pch : sd_MX := (yJ3_checkIndex_8e157, cJ3_checkIndex_8e157, 3, (some .int), { frames := 1, cells := 0, slots := 0, locals := 40 })
theorem mv_TS_pch : sd_mS M_TS_pch 3 := ⟨sd_mem (i := 625) (by decide +kernel), ⟨sd_mem (i := 626) (by decide +kernel), sd_mem (i := 124) (by decide +kernel), by decide +kernel, by decide +kernel, by decide +kernel⟩⟩
def M_TS_len : sd_MX := (yJ0_length_8abf5, cJ0_length_8abf5, 1, (some .int), { frames := 2, cells := 0, slots := 0, locals := 60 })
theorem mv_TS_len : sd_mV M_TS_len 0 := ⟨sd_mem (i := 599) (by decide +kernel), sd_mem (i := 600) (by decide +kernel), ⟨sd_mem (i := 601) (by decide +kernel), sd_mem (i := 122) (by decide +kernel), by decide +kernel, by decide +kernel, by decide +kernel⟩⟩
def M_TS_chk : sd_MX := (yJ0_checkIndex_df160, cJ0_checkIndex_df160, 2, none, { frames := 2, cells := 0, slots := 0, locals := 62 })
theorem mv_TS_chk : sd_mS M_TS_chk 2 := ⟨sd_mem (i := 620) (by decide +kernel), ⟨sd_mem (i := 621) (by decide +kernel), sd_mem (i := 122) (by decide +kernel), by decide +kernel, by decide +kernel, by decide +kernel⟩⟩
def M_TS_lch : sd_MX := (yJ1_charAt_3b067, cJ1_charAt_3b067, 2, (some .char), { frames := 3, cells := 0, slots := 0, locals := 83 })
theorem mv_TS_lch : sd_mS M_TS_lch 2 := ⟨sd_mem (i := 617) (by decide +kernel), ⟨sd_mem (i := 618) (by decide +kernel), sd_mem (i := 123) (by decide +kernel), by decide +kernel, by decide +kernel, by decide +kernel⟩⟩
def M_TS_chr : sd_MX := (yJ0_charAt_5068e, cJ0_charAt_5068e, 2, (some .char), { frames := 4, cells := 0, slots := 0, locals := 104 })
theorem mv_TS_chr : sd_mV M_TS_chr 1 := ⟨sd_mem (i := 609) (by decide +kernel), sd_mem (i := 610) (by decide +kernel), ⟨sd_mem (i := 611) (by decide +kernel), sd_mem (i := 122) (by decide +kernel), by decide +kernel, by decide +kernel, by decide +kernel⟩⟩
theorem lk_cod : Cond.methodLink RJ0 335 M_TS_cod.1 ∈ sd_tb := sd_mem (i := 602) (by decide +kernel)
theorem lk_lat : Cond.methodLink RJ0 492 M_TS_lat.1 ∈ sd_tb := sd_mem (i := 612) (by decide +kernel)
theorem lk_lch : Cond.methodLink RJ0 495 M_TS_lch.1 ∈ sd_tb := sd_mem (i := 616) (by decide +kernel)
theorem lk_chk : Cond.methodLink RJ1 9 M_TS_chk.1 ∈ sd_tb := sd_mem (i := 619) (by decide +kernel)
theorem lk_pch : Cond.methodLink RJ0 1059 M_TS_pch.1 ∈ sd_tb := sd_mem (i := 624) (by decide +kernel)
theorem lk_len : Cond.methodLink RX11 431 M_TS_len.1 ∈ sd_tb := sd_mem (i := 598) (by decide +kernel)
theorem lk_chr : Cond.methodLink RX11 435 M_TS_chr.1 ∈ sd_tb := sd_mem (i := 608) (by decide +kernel)
theorem fk_val : Cond.fieldLink RJ0 9 "java/lang/String" "value" "[B" ∈ sd_tb := sd_mem (i := 1754) (by decide +kernel)
theorem fk_cod : Cond.fieldLink RJ0 15 "java/lang/String" "coder" "B" ∈ sd_tb := sd_mem (i := 1755) (by decide +kernel)
theorem fk_cs : Cond.fieldLink RJ0 38 "java/lang/String" "COMPACT_STRINGS" "Z" ∈ sd_tb := sd_mem (i := 606) (by decide +kernel)
theorem fk_sio : Cond.fieldLink RJ0 1053 "jdk/internal/util/Preconditions" "SIOOBE_FORMATTER" "Ljava/util/function/BiFunction;" ∈ sd_tb := sd_mem (i := 622) (by decide +kernel)
section ST
variable {G : sd_GX} {X : sd_CX} {Q : State → Prop} {M M' : sd_MX} {pc pc' : Nat} {lo : List (Nat × Value)} {st st0 : List Value} {h : sd_H}
theorem sS_gcs {idx : Nat} (d : sd_d M pc (.getstatic idx) 3 pc') (hw : Cond.fieldLink M.1.cls idx "java/lang/String" "COMPACT_STRINGS" "Z" ∈ sd_tb) (kk : sd_J G X Q M pc' lo (.int 1 :: st) (sd_F h)) : sd_J G X Q M pc lo st (sd_F h) := fun hB H locs ls hH hS hl hf => by
  obtain ⟨d, rfl⟩ := d
  exact va_gets hB.1 hB.2.1 hB.2.2.2.2.2.2.2.2.2.2.2.2.1 hS hB.2.2.2.2.1 (hB.2.2.2.2.2.1 _ hw) (fun _ q => q) d (kk hB H locs ls hH hS hl hf)
theorem sS_gsio {idx : Nat} (d : sd_d M pc (.getstatic idx) 3 pc') (hw : Cond.fieldLink M.1.cls idx "jdk/internal/util/Preconditions" "SIOOBE_FORMATTER" "Ljava/util/function/BiFunction;" ∈ sd_tb) (kk : ∀ v : Value, (v = .null ∨ ∃ t, v = .ref t) → sd_J G X Q M pc' lo (v :: st) (sd_F h)) : sd_J G X Q M pc lo st (sd_F h) := fun hB H locs ls hH hS hl hf => by
  obtain ⟨d, rfl⟩ := d
  rcases hB.2.2.2.2.2.2.2.2.2.2.2.2.2.1 with hZ | ⟨t, hZ⟩
  · exact va_gets hB.1 hB.2.1 hZ hS hB.2.2.2.2.1 (hB.2.2.2.2.2.1 _ hw) (fun _ q => q) d (kk _ (Or.inl rfl) hB H locs ls hH hS hl hf)
  · exact va_gets hB.1 hB.2.1 hZ hS hB.2.2.2.2.1 (hB.2.2.2.2.2.1 _ hw) (fun _ q => q) d (kk _ (Or.inr ⟨t, rfl⟩) hB H locs ls hH hS hl hf)
theorem sS_gcod {idx j : Nat} (d : sd_d M pc (.getfield idx) 3 pc') (hw : Cond.fieldLink M.1.cls idx "java/lang/String" "coder" "B" ∈ sd_tb) (hj : j < 13) (kk : sd_J G X Q M pc' lo (.int 0 :: st) (sd_F h)) : sd_J G X Q M pc lo (.ref (G.2.2.2.2.1 j) :: st) (sd_F h) := fun hB H locs ls hH hS hl hf => by
  obtain ⟨d, rfl⟩ := d
  exact vk_getf hB.1 hB.2.1 (hB.2.2.2.2.2.2.2.2.2.2.2.1.1 j hj).2.1 hS hB.2.2.2.2.1 (hB.2.2.2.2.2.1 _ hw) (fun _ q => q) d (kk hB H locs ls hH hS hl hf)
theorem sS_gval {idx j : Nat} (d : sd_d M pc (.getfield idx) 3 pc') (hw : Cond.fieldLink M.1.cls idx "java/lang/String" "value" "[B" ∈ sd_tb) (hj : j < 13) (kk : sd_J G X Q M pc' lo (.ref (G.2.2.2.2.2 j) :: st) (sd_F h)) : sd_J G X Q M pc lo (.ref (G.2.2.2.2.1 j) :: st) (sd_F h) := fun hB H locs ls hH hS hl hf => by
  obtain ⟨d, rfl⟩ := d
  exact vk_getf hB.1 hB.2.1 (hB.2.2.2.2.2.2.2.2.2.2.2.1.1 j hj).2.2.1 hS hB.2.2.2.2.1 (hB.2.2.2.2.2.1 _ hw) (fun _ q => q) d (kk hB H locs ls hH hS hl hf)
theorem sS_tlen {j : Nat} (d : sd_d M pc .arraylength 1 pc') (hj : j < 13) (kk : sd_J G X Q M pc' lo (.int (slen j) :: st) (sd_F h)) : sd_J G X Q M pc lo (.ref (G.2.2.2.2.2 j) :: st) (sd_F h) := fun hB H locs ls hH hS hl hf => by
  obtain ⟨d, rfl⟩ := d
  exact va_tlen hB.1 hB.2.1 (hB.2.2.2.2.2.2.2.2.2.2.2.1.1 j hj).2.2.2 hS rfl d (kk hB H locs ls hH hS hl hf)
theorem sS_tb {j : Nat} {i : Int32} (d : sd_d M pc .baload 1 pc') (hj : j < 13) (hi : sd_inB i (sd_len.getD j 0) = true) (kk : sd_J G X Q M pc' lo (.int (schr j i) :: st) (sd_F h)) : sd_J G X Q M pc lo (.int i :: .ref (G.2.2.2.2.2 j) :: st) (sd_F h) := fun hB H locs ls hH hS hl hf => by
  obtain ⟨d, rfl⟩ := d
  exact va_tb hB.1 hB.2.1 (hB.2.2.2.2.2.2.2.2.2.2.2.1.1 j hj).2.2.2 hS (sd_in_of hi) rfl d (kk hB H locs ls hH hS hl hf)
theorem sS_i2c {x v : Int32} (d : sd_d M pc .i2c 1 pc') (hv : (x.toUInt32 % 65536).toInt32 = v) (kk : sd_J G X Q M pc' lo (.int v :: st) (sd_F h)) : sd_J G X Q M pc lo (.int x :: st) (sd_F h) := fun hB H locs ls hH hS hl hf => by
  obtain ⟨d, rfl⟩ := d
  exact lv_i2c hB.1 hB.2.1 d hv (kk hB H locs ls hH hS hl hf)
theorem sS_nret {v : Int32} {ty : FieldType} (d : decode M.2.1 pc = .ok (.ireturn, 1)) (hr : M.2.2.2.1 = some ty) (hn : narrow ty (.int v) = .int v) (he : sd_end G X M (sd_F h)) : sd_J G X (sd_QR G X M (some (.int v), sd_F h)) M pc lo [.int v] (sd_F h) := fun hB H locs ls hH hS hl hf => by
  rw [he.1, he.2]
  exact W.zret hB.1 hB.2.1 (ty := ty) (by rw [hB.2.2.1, hr]) hn (sd_fin hB hH hS _) hS.2.2 d hB.2.2.2.2.2.2.1
theorem sS_callV {idx j : Nat} {As : List Value} {v : Value} (n : Nat) (hj : j < 13) (hR : sd_RunF G M' (.ref (G.2.2.2.2.1 j) :: As) h (some v) h) (d : decode M.2.1 pc = .ok (.invokevirtual idx, 3)) (hm : sd_mV M' n) (hcc : M'.1.cls = "java/lang/String") (hlk : Cond.methodLink M.1.cls idx M'.1 ∈ sd_tb) (hrm : sd_rm M M') (hn : As.length = n) (hst : st0 = As.reverse ++ .ref (G.2.2.2.2.1 j) :: st) (hw : (st.map fun v => v.category).sum ≤ 8)
    (hp : pc + 3 = pc') (kk : sd_J G X Q M pc' lo (v :: st) (sd_F h)) : sd_J G X Q M pc lo st0 (sd_F h) := by
  subst hp
  refine sd_call (o := (some v, sd_F h)) hR (fun hB H locs ls hH hS hl hc => ?_) (fun q => q) kk
  have hpre := sd_pre hB hH hS (.ref (G.2.2.2.2.1 j) :: As)
  have hrec := vk_recv hB.2.2.2.2.2.2.2.2.2.2.2.1 hj hS
  rw [← hcc] at hrec
  rw [hst]
  exact va_runV (sd_fix hB) (hR.2 X.2.1) (cwV n hB.2.2.2.2.2.1 (C := M'.1.cls) (index := idx) (own := M.1.cls) (sd_gws hm.2.2 (fun w hw => by
    simp only [List.mem_cons, List.not_mem_nil, or_false] at hw
    rcases hw with rfl | rfl | rfl | rfl
    · exact hlk
    · exact hm.1
    · exact hm.2.1
    · exact hm.2.2.2.1)) rfl rfl rfl ⟨rfl, hm.2.2.2.2⟩ (by rw [hB.2.2.2.2.2.2.2.2.1]; exact hrm)) ⟨hpre.1, hrec, hpre.2⟩ rfl hn hl.1 rfl (lv_room hw) d hc
end ST
theorem T_cod {G : sd_GX} {h : sd_H} {j : Nat} (hj : j < 13) : sd_RunF G M_TS_cod [.ref (G.2.2.2.2.1 j)] h (some (.int 0)) h := by
  refine sF_run ⟨rfl, rfl⟩ (by decide +kernel) (Nat.le_of_ble_eq_true rfl) (lo := [(0, .ref (G.2.2.2.2.1 j))]) rfl (fun X hE => ?_)
  refine sS_gcs (idx := 38) (pc' := 3) (by decide +kernel) fk_cs ?_
  refine sd_if_eq (off := 10) (tgt := 13) (pc' := 6) (by decide +kernel) (fun c => absurd c (by decide)) (fun _ => ?_)
  refine sd_aload_n (k := 0) (i := 0) (q := 0) (pc' := 7) (by decide +kernel) rfl rfl ?_
  refine sS_gcod (idx := 15) (j := j) (pc' := 10) (by decide +kernel) fk_cod hj ?_
  refine sd_goto (off := 4) (tgt := 14) (pc' := 13) (by decide +kernel) ?_
  exact sS_nret (by decide +kernel) (ty := .byte) rfl (by decide) (hE _)
theorem T_lat {G : sd_GX} {h : sd_H} {j : Nat} (hj : j < 13) : sd_RunF G M_TS_lat [.ref (G.2.2.2.2.1 j)] h (some (.int 1)) h := by
  refine sF_run ⟨rfl, rfl⟩ (by decide +kernel) (Nat.le_of_ble_eq_true rfl) (lo := [(0, .ref (G.2.2.2.2.1 j))]) rfl (fun X hE => ?_)
  refine sS_gcs (idx := 38) (pc' := 3) (by decide +kernel) fk_cs ?_
  refine sd_if_eq (off := 14) (tgt := 17) (pc' := 6) (by decide +kernel) (fun c => absurd c (by decide)) (fun _ => ?_)
  refine sd_aload_n (k := 0) (i := 0) (q := 0) (pc' := 7) (by decide +kernel) rfl rfl ?_
  refine sS_gcod (idx := 15) (j := j) (pc' := 10) (by decide +kernel) fk_cod hj ?_
  refine sd_if_ne (off := 7) (tgt := 17) (pc' := 13) (by decide +kernel) (fun c => absurd rfl c) (fun _ => ?_)
  refine sd_iconst (n := 1) (v := 1) (pc' := 14) (by decide +kernel) (by decide) ?_
  refine sd_goto (off := 4) (tgt := 18) (pc' := 17) (by decide +kernel) ?_
  exact sd_zret (by decide +kernel) rfl (by decide) (hE _)
theorem T_pch {G : sd_GX} {h : sd_H} {i n : Int32} {v : Value} (hi : ¬ i < 0) (hn : i < n) (hv : v = .null ∨ ∃ t, v = .ref t) : sd_RunF G M_TS_pch [.int i, .int n, v] h (some (.int i)) h := by
  have hc : v.category = 1 := by rcases hv with rfl | ⟨t, rfl⟩ <;> rfl
  refine sF_run ⟨rfl, rfl⟩ (by decide +kernel) (by rcases hv with rfl | ⟨t, rfl⟩ <;> exact Nat.le_of_ble_eq_true rfl) (lo := [(0, .int i), (1, .int n), (2, v)]) (by rcases hv with rfl | ⟨t, rfl⟩ <;> rfl) (fun X hE => ?_)
  refine sd_iload_n (k := 0) (i := 0) (q := 0) (pc' := 1) (by decide +kernel) rfl rfl ?_
  refine sd_if_lt (off := 8) (tgt := 9) (pc' := 4) (by decide +kernel) (fun c => absurd c hi) (fun _ => ?_)
  refine sd_iload_n (k := 0) (i := 0) (q := 0) (pc' := 5) (by decide +kernel) rfl rfl ?_
  refine sd_iload_n (k := 1) (i := 1) (q := 1) (pc' := 6) (by decide +kernel) rfl rfl ?_
  refine sd_icmp_lt (off := 10) (tgt := 16) (pc' := 9) (by decide +kernel) (fun _ => ?_) (fun c => absurd hn c)
  refine sd_iload_n (k := 0) (i := 0) (q := 0) (pc' := 17) (by decide +kernel) rfl rfl ?_
  exact sd_iret (by decide +kernel) rfl (hE _)
theorem T_chk {G : sd_GX} {h : sd_H} {i n : Int32} (hi : ¬ i < 0) (hn : i < n) : sd_RunF G M_TS_chk [.int i, .int n] h none h := by
  refine sF_run ⟨rfl, rfl⟩ (by decide +kernel) (Nat.le_of_ble_eq_true rfl) (lo := [(0, .int i), (1, .int n)]) rfl (fun X hE => ?_)
  refine sd_iload_n (k := 0) (i := 0) (q := 0) (pc' := 1) (by decide +kernel) rfl rfl ?_
  refine sd_iload_n (k := 1) (i := 1) (q := 1) (pc' := 2) (by decide +kernel) rfl rfl ?_
  refine sS_gsio (idx := 1053) (pc' := 5) (by decide +kernel) fk_sio (fun v hv => ?_)
  refine sF_callS (idx := 1059) (As := [.int i, .int n, v]) (pc' := 8) 3 (T_pch (G := G) (h := h) hi hn hv) (by decide +kernel) mv_TS_pch lk_pch (by decide +kernel) rfl rfl (Nat.le_of_ble_eq_true rfl) rfl ?_
  refine sd_pop (pc' := 9) (by decide +kernel) rfl ?_
  exact sd_vret (by decide +kernel) rfl (hE _)
theorem schr_ok : ∀ j, j < 13 → ∀ k, k < sd_len.getD j 0 → (((sd_byt.getD j []).getD k 0 &&& 255).toUInt32 % 65536).toInt32 = (sd_byt.getD j []).getD k 0 ∧ narrow .char (.int ((sd_byt.getD j []).getD k 0)) = .int ((sd_byt.getD j []).getD k 0) := by decide +kernel
theorem sF_callS0 {G : sd_GX} {X : sd_CX} {Q : State → Prop} {M M' : sd_MX} {pc pc' : Nat} {lo : List (Nat × Value)} {st st0 : List Value} {h g : sd_H} {idx : Nat} {As : List Value} (n : Nat) (hR : sd_RunF G M' As h none g) (d : decode M.2.1 pc = .ok (.invokestatic idx, 3)) (hm : sd_mS M' n) (hlk : Cond.methodLink M.1.cls idx M'.1 ∈ sd_tb) (hrm : sd_rm M M') (hn : As.length = n) (hst : st0 = As.reverse ++ st) (hw : (st.map fun v => v.category).sum ≤ 8)
    (hp : pc + 3 = pc') (kk : sd_J G X Q M pc' lo st (sd_F g)) : sd_J G X Q M pc lo st0 (sd_F h) := sd_callS (o := (none, sd_F g)) n hR d hm hlk hrm hn hst hw (fun q => q) hp kk
theorem T_lch {G : sd_GX} {h : sd_H} {j : Nat} {i : Int32} (hj : j < 13) (hi : sd_inB i (sd_len.getD j 0) = true) : sd_RunF G M_TS_lch [.ref (G.2.2.2.2.2 j), .int i] h (some (.int (schr j i))) h := by
  have hk := inB_lt hi
  have hc := schr_ok j hj _ hk
  have h13 : ∀ j, j < 13 → sd_len.getD j 0 < 100 := by decide +kernel
  have hl := h13 j hj
  have h0 : ¬ i < 0 := fun q => sd_in_of hi (Or.inl q)
  have h1 : i < slen j := by
    obtain ⟨q, hq, rfl⟩ := nI_of h0
    rw [nI_clamp hq] at hk
    exact nI_lt hk (by omega)
  refine sF_run ⟨rfl, rfl⟩ (by decide +kernel) (Nat.le_of_ble_eq_true rfl) (lo := [(0, .ref (G.2.2.2.2.2 j)), (1, .int i)]) rfl (fun X hE => ?_)
  refine sd_iload_n (k := 1) (i := 1) (q := 1) (pc' := 1) (by decide +kernel) rfl rfl ?_
  refine sd_aload_n (k := 0) (i := 0) (q := 0) (pc' := 2) (by decide +kernel) rfl rfl ?_
  refine sS_tlen (j := j) (pc' := 3) (by decide +kernel) hj ?_
  refine sF_callS0 (idx := 9) (As := [.int i, .int (slen j)]) (pc' := 6) 2 (T_chk (G := G) (h := h) h0 h1) (by decide +kernel) mv_TS_chk lk_chk (by decide +kernel) rfl rfl (Nat.le_of_ble_eq_true rfl) rfl ?_
  refine sd_aload_n (k := 0) (i := 0) (q := 0) (pc' := 7) (by decide +kernel) rfl rfl ?_
  refine sd_iload_n (k := 1) (i := 1) (q := 1) (pc' := 8) (by decide +kernel) rfl rfl ?_
  refine sS_tb (j := j) (pc' := 9) (by decide +kernel) hj hi ?_
  refine sd_sipush (n := 255) (v := 255) (pc' := 12) (by decide +kernel) (by decide) ?_
  refine sd_iand (pc' := 13) (by decide +kernel) ?_
  refine sS_i2c (v := schr j i) (pc' := 14) (by decide +kernel) hc.1 ?_
  exact sS_nret (by decide +kernel) (ty := .char) rfl hc.2 (hE _)
theorem T_len {G : sd_GX} {h : sd_H} {j : Nat} (hj : j < 13) : sd_RunF G M_TS_len [.ref (G.2.2.2.2.1 j)] h (some (.int (slen j))) h := by
  have h13 : ∀ j, j < 13 → slen j >>> ((0 : Int32) &&& 31) = slen j := by decide +kernel
  refine sF_run ⟨rfl, rfl⟩ (by decide +kernel) (Nat.le_of_ble_eq_true rfl) (lo := [(0, .ref (G.2.2.2.2.1 j))]) rfl (fun X hE => ?_)
  refine sd_aload_n (k := 0) (i := 0) (q := 0) (pc' := 1) (by decide +kernel) rfl rfl ?_
  refine sS_gval (idx := 9) (j := j) (pc' := 4) (by decide +kernel) fk_val hj ?_
  refine sS_tlen (j := j) (pc' := 5) (by decide +kernel) hj ?_
  refine sd_aload_n (k := 0) (i := 0) (q := 0) (pc' := 6) (by decide +kernel) rfl rfl ?_
  refine sS_callV (idx := 335) (j := j) (As := []) (pc' := 9) 0 hj (T_cod (G := G) (h := h) hj) (by decide +kernel) mv_TS_cod rfl lk_cod (by decide +kernel) rfl rfl (Nat.le_of_ble_eq_true rfl) rfl ?_
  refine sd_ishr (pc' := 10) (by decide +kernel) ?_
  rw [h13 j hj]
  exact sd_iret (by decide +kernel) rfl (hE _)
theorem T_chr {G : sd_GX} {h : sd_H} {j : Nat} {i : Int32} (hj : j < 13) (hi : sd_inB i (sd_len.getD j 0) = true) : sd_RunF G M_TS_chr [.ref (G.2.2.2.2.1 j), .int i] h (some (.int (schr j i))) h := by
  have hc := schr_ok j hj _ (inB_lt hi)
  refine sF_run ⟨rfl, rfl⟩ (by decide +kernel) (Nat.le_of_ble_eq_true rfl) (lo := [(0, .ref (G.2.2.2.2.1 j)), (1, .int i)]) rfl (fun X hE => ?_)
  refine sd_aload_n (k := 0) (i := 0) (q := 0) (pc' := 1) (by decide +kernel) rfl rfl ?_
  refine sS_callV (idx := 492) (j := j) (As := []) (pc' := 4) 0 hj (T_lat (G := G) (h := h) hj) (by decide +kernel) mv_TS_lat rfl lk_lat (by decide +kernel) rfl rfl (Nat.le_of_ble_eq_true rfl) rfl ?_
  refine sd_if_eq (off := 12) (tgt := 16) (pc' := 7) (by decide +kernel) (fun c => absurd c (by decide)) (fun _ => ?_)
  refine sd_aload_n (k := 0) (i := 0) (q := 0) (pc' := 8) (by decide +kernel) rfl rfl ?_
  refine sS_gval (idx := 9) (j := j) (pc' := 11) (by decide +kernel) fk_val hj ?_
  refine sd_iload_n (k := 1) (i := 1) (q := 1) (pc' := 12) (by decide +kernel) rfl rfl ?_
  refine sF_callS (idx := 495) (As := [.ref (G.2.2.2.2.2 j), .int i]) (pc' := 15) 2 (T_lch (G := G) (h := h) hj hi) (by decide +kernel) mv_TS_lch lk_lch (by decide +kernel) rfl rfl (Nat.le_of_ble_eq_true rfl) rfl ?_
  exact sS_nret (by decide +kernel) (ty := .char) rfl hc.2 (hE _)
theorem sF_slen {G : sd_GX} {X : sd_CX} {Q : State → Prop} {M : sd_MX} {pc pc' : Nat} {lo : List (Nat × Value)} {st : List Value} {h : sd_H} {j : Nat} (d : decode M.2.1 pc = .ok (.invokevirtual 431, 3)) (hp : pc + 3 = pc') (hc : M.1.cls = RX11) (hrm : sd_rm M M_TS_len) (hw : (st.map fun v => v.category).sum ≤ 8) (hj : j < 13) (kk : sd_J G X Q M pc' lo (.int (slen j) :: st) (sd_F h)) : sd_J G X Q M pc lo (.ref (G.2.2.2.2.1 j) :: st) (sd_F h) :=
  sS_callV (idx := 431) (j := j) (As := []) 0 hj (T_len (G := G) (h := h) hj) d mv_TS_len rfl (by rw [hc]; exact lk_len) hrm rfl rfl hw hp kk
theorem sF_schr {G : sd_GX} {X : sd_CX} {Q : State → Prop} {M : sd_MX} {pc pc' : Nat} {lo : List (Nat × Value)} {st : List Value} {h : sd_H} {j : Nat} {i : Int32} (d : decode M.2.1 pc = .ok (.invokevirtual 435, 3)) (hp : pc + 3 = pc') (hc : M.1.cls = RX11) (hrm : sd_rm M M_TS_chr) (hw : (st.map fun v => v.category).sum ≤ 8) (hj : j < 13) (hi : sd_inB i (sd_len.getD j 0) = true) (kk : sd_J G X Q M pc' lo (.int (schr j i) :: st) (sd_F h)) : sd_J G X Q M pc lo (.int i :: .ref (G.2.2.2.2.1 j) :: st) (sd_F h) :=
  sS_callV (idx := 435) (j := j) (As := [.int i]) 1 hj (T_chr (G := G) (h := h) hj hi) d mv_TS_chr rfl (by rw [hc]; exact lk_chr) hrm rfl rfl hw hp kk
end
section
def M_XT_within : sd_MX := (yX11_within, cX11_within, 3, (some .boolean), { frames := 1, cells := 0, slots := 0, locals := 40 })
def XT_within (a0 : Int32) (a1 : Int32) (a2 : Int32) : Option Int32 :=
  (if a0 < a1 then some 0 else (if a2 < a0 then some 0 else some 1))
set_option maxHeartbeats 4000000 in
set_option maxRecDepth 100000 in
theorem T_XT_within {G : sd_GX} {h : sd_H} {a0 : Int32} {a1 : Int32} {a2 : Int32} {r : Int32} (hf : XT_within a0 a1 a2 = some r) : sd_RunF G M_XT_within [.int a0, .int a1, .int a2] h (some (.int r)) h := by
  refine sF_run ⟨rfl, rfl⟩ (by decide +kernel) (Nat.le_of_ble_eq_true rfl) (lo := [(0, .int a0), (1, .int a1), (2, .int a2)]) rfl (fun X hE => ?_)
  unfold XT_within at hf
  refine sd_iload_n (k := 0) (i := 0) (q := 0) (pc' := 1) (by decide +kernel) rfl rfl ?_
  refine sd_iload_n (k := 1) (i := 1) (q := 1) (pc' := 2) (by decide +kernel) rfl rfl ?_
  refine sd_icmp_lt (off := 12) (tgt := 14) (pc' := 5) (by decide +kernel) (fun c1 => ?_) (fun c1 => ?_)
  · replace hf := ite_p c1 hf
    refine sd_iconst (n := 0) (v := 0) (pc' := 15) (by decide +kernel) (by decide) ?_
    obtain rfl := Option.some.inj hf
    exact sd_zret (by decide +kernel) rfl (by decide) (hE _)
  · replace hf := ite_n c1 hf
    refine sd_iload_n (k := 0) (i := 0) (q := 0) (pc' := 6) (by decide +kernel) rfl rfl ?_
    refine sd_iload_n (k := 2) (i := 2) (q := 2) (pc' := 7) (by decide +kernel) rfl rfl ?_
    refine sd_icmp_gt (off := 7) (tgt := 14) (pc' := 10) (by decide +kernel) (fun c2 => ?_) (fun c2 => ?_)
    · replace hf := ite_p c2 hf
      refine sd_iconst (n := 0) (v := 0) (pc' := 15) (by decide +kernel) (by decide) ?_
      obtain rfl := Option.some.inj hf
      exact sd_zret (by decide +kernel) rfl (by decide) (hE _)
    · replace hf := ite_n c2 hf
      refine sd_iconst (n := 1) (v := 1) (pc' := 11) (by decide +kernel) (by decide) ?_
      refine sd_goto (off := 4) (tgt := 15) (pc' := 14) (by decide +kernel) ?_
      obtain rfl := Option.some.inj hf
      exact sd_zret (by decide +kernel) rfl (by decide) (hE _)

theorem ml_X11_97 : Cond.methodLink RX11 97 yX11_within ∈ sd_tb := sd_mem (i := 483) (by decide +kernel)
theorem mv_XT_within : sd_mS M_XT_within 3 := ⟨sd_mem (i := 484) (by decide +kernel), ⟨sd_mem (i := 485) (by decide +kernel), sd_mem (i := 108) (by decide +kernel), by decide +kernel, by decide +kernel, by decide +kernel⟩⟩
def M_XT_isRow : sd_MX := (yX11_isRow, cX11_isRow, 1, (some .boolean), { frames := 2, cells := 0, slots := 0, locals := 62 })
def XT_isRow (a0 : Int32) : Option Int32 :=
  b1 (XT_within a0 0 5) (fun t2 => gd (sd_isB t2) (some t2))
set_option maxHeartbeats 4000000 in
set_option maxRecDepth 100000 in
theorem T_XT_isRow {G : sd_GX} {h : sd_H} {a0 : Int32} {r : Int32} (hf : XT_isRow a0 = some r) : sd_RunF G M_XT_isRow [.int a0] h (some (.int r)) h := by
  refine sF_run ⟨rfl, rfl⟩ (by decide +kernel) (Nat.le_of_ble_eq_true rfl) (lo := [(0, .int a0)]) rfl (fun X hE => ?_)
  unfold XT_isRow at hf
  refine sd_iload_n (k := 0) (i := 0) (q := 0) (pc' := 1) (by decide +kernel) rfl rfl ?_
  refine sd_iconst (n := 0) (v := 0) (pc' := 2) (by decide +kernel) (by decide) ?_
  refine sd_iconst (n := 5) (v := 5) (pc' := 3) (by decide +kernel) (by decide) ?_
  obtain ⟨t2, q1, hf⟩ := b1_some hf
  refine sF_callS (idx := 97) (As := [.int a0, .int 0, .int 5]) (pc' := 6) 3 (T_XT_within (G := G) (h := h)  q1) (by decide +kernel) mv_XT_within ml_X11_97 (by decide +kernel) rfl rfl (Nat.le_of_ble_eq_true rfl) rfl ?_
  obtain ⟨g3, hf⟩ := gd_some hf
  obtain rfl := Option.some.inj hf
  exact sd_zret (by decide +kernel) rfl g3 (hE _)

theorem fl_X11_348 : sd_fl RX11 348 11 16 := ⟨sd_mem (i := 440) (by decide +kernel), by decide, by decide⟩
def M_XT_found : sd_MX := (yX11_found, cX11_found, 2, (some .int), { frames := 1, cells := 0, slots := 0, locals := 40 })
def XT_found (h : sd_H) (a0 : Int32) : Option (sd_H × Int32) :=
  hb (wI h 0 16 a0) (fun h1 => some (h1, ((-10) - a0)))
set_option maxHeartbeats 4000000 in
set_option maxRecDepth 100000 in
theorem T_XT_found {G : sd_GX} {h : sd_H} {a0 : Int32} {r : (sd_H × Int32)} (hf : XT_found h a0 = some r) : sd_RunF G M_XT_found [.ref (G.1 + 0), .int a0] h (some (.int r.2)) r.1 := by
  refine sF_run ⟨rfl, rfl⟩ (by decide +kernel) (Nat.le_of_ble_eq_true rfl) (lo := [(0, .ref (G.1 + 0)), (1, .int a0)]) rfl (fun X hE => ?_)
  unfold XT_found at hf
  refine sd_aload_n (k := 0) (i := 0) (q := 0) (pc' := 1) (by decide +kernel) rfl rfl ?_
  refine sd_iload_n (k := 1) (i := 1) (q := 1) (pc' := 2) (by decide +kernel) rfl rfl ?_
  obtain ⟨h1, e2, hf⟩ := hb_some hf
  refine sF_pi (idx := 348) (ci := 11) (k := 16) (n := 17) (pc' := 5) (by decide +kernel) fl_X11_348 (by decide +kernel) rfl rfl rfl SH_0 ?_
  rw [← e2]; clear e2
  refine sd_bipush (n := -10) (v := (-10)) (pc' := 7) (by decide +kernel) (by decide) ?_
  refine sd_iload_n (k := 1) (i := 1) (q := 1) (pc' := 8) (by decide +kernel) rfl rfl ?_
  refine sd_isub (pc' := 9) (by decide +kernel) ?_
  obtain rfl := Option.some.inj hf
  exact sd_iret (by decide +kernel) rfl (hE _)

theorem fl_X6_9 : sd_fl RX6 9 6 0 := ⟨sd_mem (i := 142) (by decide +kernel), by decide, by decide⟩
theorem fl_X6_15 : sd_fl RX6 15 6 1 := ⟨sd_mem (i := 146) (by decide +kernel), by decide, by decide⟩
theorem fl_X6_18 : sd_fl RX6 18 6 2 := ⟨sd_mem (i := 148) (by decide +kernel), by decide, by decide⟩
theorem fl_X6_22 : sd_fl RX6 22 6 3 := ⟨sd_mem (i := 151) (by decide +kernel), by decide, by decide⟩
def M_XR_make : sd_MX := (yX6_make, cX6_make, 5, none, { frames := 1, cells := 0, slots := 0, locals := 40 })
def XR_make_L20 : Nat → sd_H → Nat → Int32 → Int32 → Option sd_H
  | 0, _, _, _, _ => none
  | n + 1, h, l0, l1, l4 =>
  (if ((l1 + 1) * 24) ≤ l4 then some h else gd (sd_inB l4 144) (hb (wD h (l0 + 3) (l4 : Int32).toNatClampNeg FP.dconst0) (fun h9 => gd (sd_inB l4 144) (hb (wI h9 (l0 + 4) (l4 : Int32).toNatClampNeg (-1)) (fun h12 => XR_make_L20 n h12 l0 l1 (l4 + 1))))))
set_option maxHeartbeats 4000000 in
set_option maxRecDepth 100000 in
theorem J_XR_make_L20 {G : sd_GX} {X : sd_CX} (hE : ∀ g : sd_H, sd_end G X M_XR_make (sd_F g))  {r : sd_H} : ∀ (n : Nat) (h : sd_H) (l0 : Nat) (l1 : Int32) (l4 : Int32), sd_SH l0 = (6, 4) → XR_make_L20 n h l0 l1 l4 = some r → sd_J G X (sd_QR G X M_XR_make (none, sd_F r)) M_XR_make 20 [(0, .ref (G.1 + l0)), (1, .int l1), (4, .int l4)] [] (sd_F h) := by
  intro n
  induction n with
  | zero =>
    intro h l0 l1 l4 p0 hf
    rw [XR_make_L20] at hf
    cases hf
  | succ n ih =>
    intro h l0 l1 l4 p0 hf
    rw [XR_make_L20] at hf
    refine sd_iload (i := 4) (q := 2) (pc' := 22) (by decide +kernel) rfl ?_
    refine sd_iload_n (k := 1) (i := 1) (q := 1) (pc' := 23) (by decide +kernel) rfl rfl ?_
    refine sd_iconst (n := 1) (v := 1) (pc' := 24) (by decide +kernel) (by decide) ?_
    refine sd_iadd (pc' := 25) (by decide +kernel) ?_
    refine sd_bipush (n := 24) (v := 24) (pc' := 27) (by decide +kernel) (by decide) ?_
    refine sd_imul (pc' := 28) (by decide +kernel) ?_
    refine sd_icmp_ge (off := 25) (tgt := 53) (pc' := 31) (by decide +kernel) (fun c7 => ?_) (fun c7 => ?_)
    · replace hf := ite_p c7 hf
      obtain rfl := Option.some.inj hf
      exact sd_vret (by decide +kernel) rfl (hE _)
    · replace hf := ite_n c7 hf
      refine sd_aload_n (k := 0) (i := 0) (q := 0) (pc' := 32) (by decide +kernel) rfl rfl ?_
      refine sF_gr (idx := 18) (ci := 6) (k := 2) (n := 4) (r := (l0 + 3)) (pc' := 35) (by decide +kernel) fl_X6_18 (by decide +kernel) rfl p0 (by decide) (rt_6_2 p0) ?_
      refine sd_iload (i := 4) (q := 2) (pc' := 37) (by decide +kernel) rfl ?_
      refine sd_dconst0 (pc' := 38) (by decide +kernel) ?_
      obtain ⟨g8, hf⟩ := gd_some hf
      obtain ⟨h9, e10, hf⟩ := hb_some hf
      refine sF_dast (n := 144) (pc' := 39) (by decide +kernel) (sh_6_2 p0) g8 ?_
      rw [← e10]; clear e10
      refine sd_aload_n (k := 0) (i := 0) (q := 0) (pc' := 40) (by decide +kernel) rfl rfl ?_
      refine sF_gr (idx := 22) (ci := 6) (k := 3) (n := 4) (r := (l0 + 4)) (pc' := 43) (by decide +kernel) fl_X6_22 (by decide +kernel) rfl p0 (by decide) (rt_6_3 p0) ?_
      refine sd_iload (i := 4) (q := 2) (pc' := 45) (by decide +kernel) rfl ?_
      refine sd_iconst (n := -1) (v := (-1)) (pc' := 46) (by decide +kernel) (by decide) ?_
      obtain ⟨g11, hf⟩ := gd_some hf
      obtain ⟨h12, e13, hf⟩ := hb_some hf
      refine sF_iast (n := 144) (pc' := 47) (by decide +kernel) (sh_6_3 p0) g11 ?_
      rw [← e13]; clear e13
      refine sd_iinc (i := 4) (q := 2) (n := 1) (v := (l4 + 1)) (pc' := 50) (lo' := [(4, .int (l4 + 1)), (0, .ref (G.1 + l0)), (1, .int l1)]) (by decide +kernel) rfl rfl (by decide) rfl ?_
      refine sd_goto (off := -30) (tgt := 20) (pc' := 53) (by decide +kernel) ?_
      refine sd_J.sub (lo' := [(0, .ref (G.1 + l0)), (1, .int l1), (4, .int (l4 + 1))]) [1, 2, 0] rfl ?_
      exact ih _ _ _ _ p0 hf
def XR_make (h : sd_H) (this : Nat) (a0 : Int32) (a1 : Int32) (a2 : Int32) : Option sd_H :=
  gd (sd_inB a0 6) (hb (wI h (this + 1) (a0 : Int32).toNatClampNeg a1) (fun h2 => gd (sd_inB a0 6) (hb (wI h2 (this + 2) (a0 : Int32).toNatClampNeg a2) (fun h5 => XR_make_L20 FU h5 this a0 (a0 * 24)))))
set_option maxHeartbeats 4000000 in
set_option maxRecDepth 100000 in
theorem T_XR_make {G : sd_GX} {h : sd_H} {this : Nat} {a0 : Int32} {a1 : Int32} {a2 : Int32} {r : sd_H} (pt : sd_SH this = (6, 4)) (hf : XR_make h this a0 a1 a2 = some r) : sd_RunF G M_XR_make [.ref (G.1 + this), .int a0, .int a1, .int a2] h none r := by
  refine sF_run ⟨rfl, rfl⟩ (by decide +kernel) (Nat.le_of_ble_eq_true rfl) (lo := [(0, .ref (G.1 + this)), (1, .int a0), (2, .int a1), (3, .int a2)]) rfl (fun X hE => ?_)
  unfold XR_make at hf
  refine sd_aload_n (k := 0) (i := 0) (q := 0) (pc' := 1) (by decide +kernel) rfl rfl ?_
  refine sF_gr (idx := 9) (ci := 6) (k := 0) (n := 4) (r := (this + 1)) (pc' := 4) (by decide +kernel) fl_X6_9 (by decide +kernel) rfl pt (by decide) (rt_6_0 pt) ?_
  refine sd_iload_n (k := 1) (i := 1) (q := 1) (pc' := 5) (by decide +kernel) rfl rfl ?_
  refine sd_iload_n (k := 2) (i := 2) (q := 2) (pc' := 6) (by decide +kernel) rfl rfl ?_
  obtain ⟨g1, hf⟩ := gd_some hf
  obtain ⟨h2, e3, hf⟩ := hb_some hf
  refine sF_iast (n := 6) (pc' := 7) (by decide +kernel) (sh_6_0 pt) g1 ?_
  rw [← e3]; clear e3
  refine sd_aload_n (k := 0) (i := 0) (q := 0) (pc' := 8) (by decide +kernel) rfl rfl ?_
  refine sF_gr (idx := 15) (ci := 6) (k := 1) (n := 4) (r := (this + 2)) (pc' := 11) (by decide +kernel) fl_X6_15 (by decide +kernel) rfl pt (by decide) (rt_6_1 pt) ?_
  refine sd_iload_n (k := 1) (i := 1) (q := 1) (pc' := 12) (by decide +kernel) rfl rfl ?_
  refine sd_iload_n (k := 3) (i := 3) (q := 3) (pc' := 13) (by decide +kernel) rfl rfl ?_
  obtain ⟨g4, hf⟩ := gd_some hf
  obtain ⟨h5, e6, hf⟩ := hb_some hf
  refine sF_iast (n := 6) (pc' := 14) (by decide +kernel) (sh_6_1 pt) g4 ?_
  rw [← e6]; clear e6
  refine sd_iload_n (k := 1) (i := 1) (q := 1) (pc' := 15) (by decide +kernel) rfl rfl ?_
  refine sd_bipush (n := 24) (v := 24) (pc' := 17) (by decide +kernel) (by decide) ?_
  refine sd_imul (pc' := 18) (by decide +kernel) ?_
  refine sd_istore (i := 4) (pc' := 20) (lo' := [(4, .int (a0 * 24)), (0, .ref (G.1 + this)), (1, .int a0), (2, .int a1), (3, .int a2)]) (by decide +kernel) (by decide) rfl ?_
  refine sd_J.sub (lo' := [(0, .ref (G.1 + this)), (1, .int a0), (4, .int (a0 * 24))]) [1, 2, 0] rfl ?_
  exact J_XR_make_L20 hE _ _ _ _ _ pt hf

theorem ml_X11_93 : Cond.methodLink RX11 93 yX11_isRow ∈ sd_tb := sd_mem (i := 480) (by decide +kernel)
theorem mv_XT_isRow : sd_mS M_XT_isRow 1 := ⟨sd_mem (i := 481) (by decide +kernel), ⟨sd_mem (i := 482) (by decide +kernel), sd_mem (i := 108) (by decide +kernel), by decide +kernel, by decide +kernel, by decide +kernel⟩⟩
theorem fl_X11_12 : sd_fl RX11 12 11 0 := ⟨sd_mem (i := 424) (by decide +kernel), by decide, by decide⟩
theorem ml_X11_105 : Cond.methodLink RX11 105 yX6_make ∈ sd_tb := sd_mem (i := 490) (by decide +kernel)
theorem mv_XR_make : sd_mV M_XR_make 3 := ⟨sd_mem (i := 491) (by decide +kernel), sd_mem (i := 492) (by decide +kernel), ⟨sd_mem (i := 493) (by decide +kernel), sd_mem (i := 109) (by decide +kernel), by decide +kernel, by decide +kernel, by decide +kernel⟩⟩
theorem fl_X11_41 : sd_fl RX11 41 11 4 := ⟨sd_mem (i := 428) (by decide +kernel), by decide, by decide⟩
theorem fl_X11_109 : sd_fl RX11 109 10 5 := ⟨sd_mem (i := 303) (by decide +kernel), by decide, by decide⟩
theorem ml_X11_101 : Cond.methodLink RX11 101 yX11_found ∈ sd_tb := sd_mem (i := 486) (by decide +kernel)
theorem mv_XT_found : sd_mV M_XT_found 1 := ⟨sd_mem (i := 488) (by decide +kernel), sd_mem (i := 0) (by decide +kernel), ⟨sd_mem (i := 489) (by decide +kernel), sd_mem (i := 108) (by decide +kernel), by decide +kernel, by decide +kernel, by decide +kernel⟩⟩
def M_XT_row : sd_MX := (yX11_row, cX11_row, 4, (some .int), { frames := 3, cells := 0, slots := 0, locals := 82 })
def XT_row (h : sd_H) (a0 : Int32) (a1 : Int32) (a2 : Int32) : Option (sd_H × Int32) :=
  b1 (XT_isRow a0) (fun t2 => (if t2 = 0 then some (h, (-2)) else b1 (XT_within a1 0 4) (fun t5 => (if t5 = 0 then some (h, (-2)) else (if a2 ≤ 24 then (if 0 ≤ a2 then b1 (XR_make h 1 a0 a1 a2) (fun h10 => hb (wI h10 56 5 1) (fun h11 => some (h11, a2))) else b2 (XT_found h 5) (fun h14 t15 => some (h14, t15))) else some (h, (-2)))))))
set_option maxHeartbeats 4000000 in
set_option maxRecDepth 100000 in
theorem T_XT_row {G : sd_GX} {h : sd_H} {a0 : Int32} {a1 : Int32} {a2 : Int32} {r : (sd_H × Int32)} (hf : XT_row h a0 a1 a2 = some r) : sd_RunF G M_XT_row [.ref (G.1 + 0), .int a0, .int a1, .int a2] h (some (.int r.2)) r.1 := by
  refine sF_run ⟨rfl, rfl⟩ (by decide +kernel) (Nat.le_of_ble_eq_true rfl) (lo := [(0, .ref (G.1 + 0)), (1, .int a0), (2, .int a1), (3, .int a2)]) rfl (fun X hE => ?_)
  unfold XT_row at hf
  refine sd_iload_n (k := 1) (i := 1) (q := 1) (pc' := 1) (by decide +kernel) rfl rfl ?_
  obtain ⟨t2, q1, hf⟩ := b1_some hf
  refine sF_callS (idx := 93) (As := [.int a0]) (pc' := 4) 1 (T_XT_isRow (G := G) (h := h)  q1) (by decide +kernel) mv_XT_isRow ml_X11_93 (by decide +kernel) rfl rfl (Nat.le_of_ble_eq_true rfl) rfl ?_
  refine sd_if_eq (off := 18) (tgt := 22) (pc' := 7) (by decide +kernel) (fun c3 => ?_) (fun c3 => ?_)
  · replace hf := ite_p c3 hf
    refine sd_bipush (n := -2) (v := (-2)) (pc' := 24) (by decide +kernel) (by decide) ?_
    obtain rfl := Option.some.inj hf
    exact sd_iret (by decide +kernel) rfl (hE _)
  · replace hf := ite_n c3 hf
    refine sd_iload_n (k := 2) (i := 2) (q := 2) (pc' := 8) (by decide +kernel) rfl rfl ?_
    refine sd_iconst (n := 0) (v := 0) (pc' := 9) (by decide +kernel) (by decide) ?_
    refine sd_iconst (n := 4) (v := 4) (pc' := 10) (by decide +kernel) (by decide) ?_
    obtain ⟨t5, q4, hf⟩ := b1_some hf
    refine sF_callS (idx := 97) (As := [.int a1, .int 0, .int 4]) (pc' := 13) 3 (T_XT_within (G := G) (h := h)  q4) (by decide +kernel) mv_XT_within ml_X11_97 (by decide +kernel) rfl rfl (Nat.le_of_ble_eq_true rfl) rfl ?_
    refine sd_if_eq (off := 9) (tgt := 22) (pc' := 16) (by decide +kernel) (fun c6 => ?_) (fun c6 => ?_)
    · replace hf := ite_p c6 hf
      refine sd_bipush (n := -2) (v := (-2)) (pc' := 24) (by decide +kernel) (by decide) ?_
      obtain rfl := Option.some.inj hf
      exact sd_iret (by decide +kernel) rfl (hE _)
    · replace hf := ite_n c6 hf
      refine sd_iload_n (k := 3) (i := 3) (q := 3) (pc' := 17) (by decide +kernel) rfl rfl ?_
      refine sd_bipush (n := 24) (v := 24) (pc' := 19) (by decide +kernel) (by decide) ?_
      refine sd_icmp_le (off := 6) (tgt := 25) (pc' := 22) (by decide +kernel) (fun c7 => ?_) (fun c7 => ?_)
      · replace hf := ite_p c7 hf
        refine sd_iload_n (k := 3) (i := 3) (q := 3) (pc' := 26) (by decide +kernel) rfl rfl ?_
        refine sd_if_ge (off := 9) (tgt := 35) (pc' := 29) (by decide +kernel) (fun c8 => ?_) (fun c8 => ?_)
        · replace hf := ite_p c8 hf
          refine sd_aload_n (k := 0) (i := 0) (q := 0) (pc' := 36) (by decide +kernel) rfl rfl ?_
          refine sF_gr (idx := 12) (ci := 11) (k := 0) (n := 17) (r := 1) (pc' := 39) (by decide +kernel) fl_X11_12 (by decide +kernel) rfl SH_0 (by decide) (by decide +kernel) ?_
          refine sd_iload_n (k := 1) (i := 1) (q := 1) (pc' := 40) (by decide +kernel) rfl rfl ?_
          refine sd_iload_n (k := 2) (i := 2) (q := 2) (pc' := 41) (by decide +kernel) rfl rfl ?_
          refine sd_iload_n (k := 3) (i := 3) (q := 3) (pc' := 42) (by decide +kernel) rfl rfl ?_
          obtain ⟨h10, q9, hf⟩ := b1_some hf
          refine sF_callV0 (idx := 105) (b := 1) (As := [.int a0, .int a1, .int a2]) (ci := 6) (nn := 4) (pc' := 45) 3 (T_XR_make (G := G) (h := h) SH_1 q9) (by decide +kernel) mv_XR_make ml_X11_105 (by decide +kernel) rfl rfl (Nat.le_of_ble_eq_true rfl) SH_1 rfl (by decide) rfl rfl ?_
          refine sd_aload_n (k := 0) (i := 0) (q := 0) (pc' := 46) (by decide +kernel) rfl rfl ?_
          refine sF_gr (idx := 41) (ci := 11) (k := 4) (n := 17) (r := 56) (pc' := 49) (by decide +kernel) fl_X11_41 (by decide +kernel) rfl SH_0 (by decide) (by decide +kernel) ?_
          refine sd_iconst (n := 1) (v := 1) (pc' := 50) (by decide +kernel) (by decide) ?_
          obtain ⟨h11, e12, hf⟩ := hb_some hf
          refine sF_pz (idx := 109) (ci := 10) (k := 5) (n := 6) (pc' := 53) (by decide +kernel) fl_X11_109 (by decide +kernel) rfl rfl rfl SH_56 (by decide) ?_
          rw [← e12]; clear e12
          refine sd_iload_n (k := 3) (i := 3) (q := 3) (pc' := 54) (by decide +kernel) rfl rfl ?_
          obtain rfl := Option.some.inj hf
          exact sd_iret (by decide +kernel) rfl (hE _)
        · replace hf := ite_n c8 hf
          refine sd_aload_n (k := 0) (i := 0) (q := 0) (pc' := 30) (by decide +kernel) rfl rfl ?_
          refine sd_iconst (n := 5) (v := 5) (pc' := 31) (by decide +kernel) (by decide) ?_
          obtain ⟨h14, t15, q13, hf⟩ := b2_some hf
          refine sF_callV (idx := 101) (b := 0) (As := [.int 5]) (ci := 11) (nn := 17) (pc' := 34) 1 (T_XT_found (G := G) (h := h)  q13) (by decide +kernel) mv_XT_found ml_X11_101 (by decide +kernel) rfl rfl (Nat.le_of_ble_eq_true rfl) SH_0 rfl (by decide) rfl rfl ?_
          obtain rfl := Option.some.inj hf
          exact sd_iret (by decide +kernel) rfl (hE _)
      · replace hf := ite_n c7 hf
        refine sd_bipush (n := -2) (v := (-2)) (pc' := 24) (by decide +kernel) (by decide) ?_
        obtain rfl := Option.some.inj hf
        exact sd_iret (by decide +kernel) rfl (hE _)

def M_XR_isMissing : sd_MX := (yX6_isMissing, cX6_isMissing, 2, (some .boolean), { frames := 1, cells := 0, slots := 0, locals := 40 })
def XR_isMissing (h : sd_H) (this : Nat) (a0 : Int32) : Option Int32 :=
  gd (sd_inB a0 6) ((if (h.1 (this + 1) (a0 : Int32).toNatClampNeg) = (-1) then some 1 else some 0))
set_option maxHeartbeats 4000000 in
set_option maxRecDepth 100000 in
theorem T_XR_isMissing {G : sd_GX} {h : sd_H} {this : Nat} {a0 : Int32} {r : Int32} (pt : sd_SH this = (6, 4)) (hf : XR_isMissing h this a0 = some r) : sd_RunF G M_XR_isMissing [.ref (G.1 + this), .int a0] h (some (.int r)) h := by
  refine sF_run ⟨rfl, rfl⟩ (by decide +kernel) (Nat.le_of_ble_eq_true rfl) (lo := [(0, .ref (G.1 + this)), (1, .int a0)]) rfl (fun X hE => ?_)
  unfold XR_isMissing at hf
  refine sd_aload_n (k := 0) (i := 0) (q := 0) (pc' := 1) (by decide +kernel) rfl rfl ?_
  refine sF_gr (idx := 9) (ci := 6) (k := 0) (n := 4) (r := (this + 1)) (pc' := 4) (by decide +kernel) fl_X6_9 (by decide +kernel) rfl pt (by decide) (rt_6_0 pt) ?_
  refine sd_iload_n (k := 1) (i := 1) (q := 1) (pc' := 5) (by decide +kernel) rfl rfl ?_
  obtain ⟨g1, hf⟩ := gd_some hf
  refine sF_iald (n := 6) (pc' := 6) (by decide +kernel) (sh_6_0 pt) g1 ?_
  refine sd_iconst (n := -1) (v := (-1)) (pc' := 7) (by decide +kernel) (by decide) ?_
  refine sd_icmp_ne (off := 7) (tgt := 14) (pc' := 10) (by decide +kernel) (fun c2 => ?_) (fun c2 => ?_)
  · replace hf := ite_n c2 hf
    refine sd_iconst (n := 0) (v := 0) (pc' := 15) (by decide +kernel) (by decide) ?_
    obtain rfl := Option.some.inj hf
    exact sd_zret (by decide +kernel) rfl (by decide) (hE _)
  · replace hf := ite_p c2 hf
    refine sd_iconst (n := 1) (v := 1) (pc' := 11) (by decide +kernel) (by decide) ?_
    refine sd_goto (off := 4) (tgt := 15) (pc' := 14) (by decide +kernel) ?_
    obtain rfl := Option.some.inj hf
    exact sd_zret (by decide +kernel) rfl (by decide) (hE _)

theorem ml_X11_113 : Cond.methodLink RX11 113 yX6_isMissing ∈ sd_tb := sd_mem (i := 498) (by decide +kernel)
theorem mv_XR_isMissing : sd_mV M_XR_isMissing 1 := ⟨sd_mem (i := 499) (by decide +kernel), sd_mem (i := 500) (by decide +kernel), ⟨sd_mem (i := 501) (by decide +kernel), sd_mem (i := 109) (by decide +kernel), by decide +kernel, by decide +kernel, by decide +kernel⟩⟩
theorem fl_X11_116 : sd_fl RX11 116 6 1 := ⟨sd_mem (i := 147) (by decide +kernel), by decide, by decide⟩
def M_XT_lose : sd_MX := (yX11_lose, cX11_lose, 3, (some .int), { frames := 3, cells := 0, slots := 0, locals := 82 })
def XT_lose (h : sd_H) (a0 : Int32) : Option (sd_H × Int32) :=
  b1 (XT_isRow a0) (fun t2 => (if t2 = 0 then some (h, (-2)) else b1 (XR_isMissing h 1 a0) (fun t5 => (if t5 = 0 then gd (sd_inB a0 6) (b1 (XR_make h 1 a0 (-1) 0) (fun h9 => hb (wI h9 56 5 1) (fun h10 => some (h10, (h.1 3 (a0 : Int32).toNatClampNeg))))) else b2 (XT_found h 1) (fun h13 t14 => some (h13, t14))))))
set_option maxHeartbeats 4000000 in
set_option maxRecDepth 100000 in
theorem T_XT_lose {G : sd_GX} {h : sd_H} {a0 : Int32} {r : (sd_H × Int32)} (hf : XT_lose h a0 = some r) : sd_RunF G M_XT_lose [.ref (G.1 + 0), .int a0] h (some (.int r.2)) r.1 := by
  refine sF_run ⟨rfl, rfl⟩ (by decide +kernel) (Nat.le_of_ble_eq_true rfl) (lo := [(0, .ref (G.1 + 0)), (1, .int a0)]) rfl (fun X hE => ?_)
  unfold XT_lose at hf
  refine sd_iload_n (k := 1) (i := 1) (q := 1) (pc' := 1) (by decide +kernel) rfl rfl ?_
  obtain ⟨t2, q1, hf⟩ := b1_some hf
  refine sF_callS (idx := 93) (As := [.int a0]) (pc' := 4) 1 (T_XT_isRow (G := G) (h := h)  q1) (by decide +kernel) mv_XT_isRow ml_X11_93 (by decide +kernel) rfl rfl (Nat.le_of_ble_eq_true rfl) rfl ?_
  refine sd_if_ne (off := 6) (tgt := 10) (pc' := 7) (by decide +kernel) (fun c3 => ?_) (fun c3 => ?_)
  · replace hf := ite_n c3 hf
    refine sd_aload_n (k := 0) (i := 0) (q := 0) (pc' := 11) (by decide +kernel) rfl rfl ?_
    refine sF_gr (idx := 12) (ci := 11) (k := 0) (n := 17) (r := 1) (pc' := 14) (by decide +kernel) fl_X11_12 (by decide +kernel) rfl SH_0 (by decide) (by decide +kernel) ?_
    refine sd_iload_n (k := 1) (i := 1) (q := 1) (pc' := 15) (by decide +kernel) rfl rfl ?_
    obtain ⟨t5, q4, hf⟩ := b1_some hf
    refine sF_callV (idx := 113) (b := 1) (As := [.int a0]) (ci := 6) (nn := 4) (pc' := 18) 1 (T_XR_isMissing (G := G) (h := h) SH_1 q4) (by decide +kernel) mv_XR_isMissing ml_X11_113 (by decide +kernel) rfl rfl (Nat.le_of_ble_eq_true rfl) SH_1 rfl (by decide) rfl rfl ?_
    refine sd_if_eq (off := 9) (tgt := 27) (pc' := 21) (by decide +kernel) (fun c6 => ?_) (fun c6 => ?_)
    · replace hf := ite_p c6 hf
      refine sd_aload_n (k := 0) (i := 0) (q := 0) (pc' := 28) (by decide +kernel) rfl rfl ?_
      refine sF_gr (idx := 12) (ci := 11) (k := 0) (n := 17) (r := 1) (pc' := 31) (by decide +kernel) fl_X11_12 (by decide +kernel) rfl SH_0 (by decide) (by decide +kernel) ?_
      refine sF_gr (idx := 116) (ci := 6) (k := 1) (n := 4) (r := 3) (pc' := 34) (by decide +kernel) fl_X11_116 (by decide +kernel) rfl SH_1 (by decide) (by decide +kernel) ?_
      refine sd_iload_n (k := 1) (i := 1) (q := 1) (pc' := 35) (by decide +kernel) rfl rfl ?_
      obtain ⟨g7, hf⟩ := gd_some hf
      refine sF_iald (n := 6) (pc' := 36) (by decide +kernel) SH_3 g7 ?_
      refine sd_istore_n (k := 2) (i := 2) (pc' := 37) (lo' := [(2, .int (h.1 3 (a0 : Int32).toNatClampNeg)), (0, .ref (G.1 + 0)), (1, .int a0)]) (by decide +kernel) rfl (by decide) rfl ?_
      refine sd_aload_n (k := 0) (i := 0) (q := 1) (pc' := 38) (by decide +kernel) rfl rfl ?_
      refine sF_gr (idx := 12) (ci := 11) (k := 0) (n := 17) (r := 1) (pc' := 41) (by decide +kernel) fl_X11_12 (by decide +kernel) rfl SH_0 (by decide) (by decide +kernel) ?_
      refine sd_iload_n (k := 1) (i := 1) (q := 2) (pc' := 42) (by decide +kernel) rfl rfl ?_
      refine sd_iconst (n := -1) (v := (-1)) (pc' := 43) (by decide +kernel) (by decide) ?_
      refine sd_iconst (n := 0) (v := 0) (pc' := 44) (by decide +kernel) (by decide) ?_
      obtain ⟨h9, q8, hf⟩ := b1_some hf
      refine sF_callV0 (idx := 105) (b := 1) (As := [.int a0, .int (-1), .int 0]) (ci := 6) (nn := 4) (pc' := 47) 3 (T_XR_make (G := G) (h := h) SH_1 q8) (by decide +kernel) mv_XR_make ml_X11_105 (by decide +kernel) rfl rfl (Nat.le_of_ble_eq_true rfl) SH_1 rfl (by decide) rfl rfl ?_
      refine sd_aload_n (k := 0) (i := 0) (q := 1) (pc' := 48) (by decide +kernel) rfl rfl ?_
      refine sF_gr (idx := 41) (ci := 11) (k := 4) (n := 17) (r := 56) (pc' := 51) (by decide +kernel) fl_X11_41 (by decide +kernel) rfl SH_0 (by decide) (by decide +kernel) ?_
      refine sd_iconst (n := 1) (v := 1) (pc' := 52) (by decide +kernel) (by decide) ?_
      obtain ⟨h10, e11, hf⟩ := hb_some hf
      refine sF_pz (idx := 109) (ci := 10) (k := 5) (n := 6) (pc' := 55) (by decide +kernel) fl_X11_109 (by decide +kernel) rfl rfl rfl SH_56 (by decide) ?_
      rw [← e11]; clear e11
      refine sd_iload_n (k := 2) (i := 2) (q := 0) (pc' := 56) (by decide +kernel) rfl rfl ?_
      obtain rfl := Option.some.inj hf
      exact sd_iret (by decide +kernel) rfl (hE _)
    · replace hf := ite_n c6 hf
      refine sd_aload_n (k := 0) (i := 0) (q := 0) (pc' := 22) (by decide +kernel) rfl rfl ?_
      refine sd_iconst (n := 1) (v := 1) (pc' := 23) (by decide +kernel) (by decide) ?_
      obtain ⟨h13, t14, q12, hf⟩ := b2_some hf
      refine sF_callV (idx := 101) (b := 0) (As := [.int 1]) (ci := 11) (nn := 17) (pc' := 26) 1 (T_XT_found (G := G) (h := h)  q12) (by decide +kernel) mv_XT_found ml_X11_101 (by decide +kernel) rfl rfl (Nat.le_of_ble_eq_true rfl) SH_0 rfl (by decide) rfl rfl ?_
      obtain rfl := Option.some.inj hf
      exact sd_iret (by decide +kernel) rfl (hE _)
  · replace hf := ite_p c3 hf
    refine sd_bipush (n := -2) (v := (-2)) (pc' := 9) (by decide +kernel) (by decide) ?_
    obtain rfl := Option.some.inj hf
    exact sd_iret (by decide +kernel) rfl (hE _)

def M_XR_hasCell : sd_MX := (yX6_hasCell, cX6_hasCell, 3, (some .boolean), { frames := 1, cells := 0, slots := 0, locals := 40 })
def XR_hasCell (h : sd_H) (this : Nat) (a0 : Int32) (a1 : Int32) : Option Int32 :=
  (if a1 < 0 then some 0 else gd (sd_inB a0 6) ((if (h.1 (this + 2) (a0 : Int32).toNatClampNeg) ≤ a1 then some 0 else some 1)))
set_option maxHeartbeats 4000000 in
set_option maxRecDepth 100000 in
theorem T_XR_hasCell {G : sd_GX} {h : sd_H} {this : Nat} {a0 : Int32} {a1 : Int32} {r : Int32} (pt : sd_SH this = (6, 4)) (hf : XR_hasCell h this a0 a1 = some r) : sd_RunF G M_XR_hasCell [.ref (G.1 + this), .int a0, .int a1] h (some (.int r)) h := by
  refine sF_run ⟨rfl, rfl⟩ (by decide +kernel) (Nat.le_of_ble_eq_true rfl) (lo := [(0, .ref (G.1 + this)), (1, .int a0), (2, .int a1)]) rfl (fun X hE => ?_)
  unfold XR_hasCell at hf
  refine sd_iload_n (k := 2) (i := 2) (q := 2) (pc' := 1) (by decide +kernel) rfl rfl ?_
  refine sd_if_lt (off := 17) (tgt := 18) (pc' := 4) (by decide +kernel) (fun c1 => ?_) (fun c1 => ?_)
  · replace hf := ite_p c1 hf
    refine sd_iconst (n := 0) (v := 0) (pc' := 19) (by decide +kernel) (by decide) ?_
    obtain rfl := Option.some.inj hf
    exact sd_zret (by decide +kernel) rfl (by decide) (hE _)
  · replace hf := ite_n c1 hf
    refine sd_iload_n (k := 2) (i := 2) (q := 2) (pc' := 5) (by decide +kernel) rfl rfl ?_
    refine sd_aload_n (k := 0) (i := 0) (q := 0) (pc' := 6) (by decide +kernel) rfl rfl ?_
    refine sF_gr (idx := 15) (ci := 6) (k := 1) (n := 4) (r := (this + 2)) (pc' := 9) (by decide +kernel) fl_X6_15 (by decide +kernel) rfl pt (by decide) (rt_6_1 pt) ?_
    refine sd_iload_n (k := 1) (i := 1) (q := 1) (pc' := 10) (by decide +kernel) rfl rfl ?_
    obtain ⟨g2, hf⟩ := gd_some hf
    refine sF_iald (n := 6) (pc' := 11) (by decide +kernel) (sh_6_1 pt) g2 ?_
    refine sd_icmp_ge (off := 7) (tgt := 18) (pc' := 14) (by decide +kernel) (fun c3 => ?_) (fun c3 => ?_)
    · replace hf := ite_p c3 hf
      refine sd_iconst (n := 0) (v := 0) (pc' := 19) (by decide +kernel) (by decide) ?_
      obtain rfl := Option.some.inj hf
      exact sd_zret (by decide +kernel) rfl (by decide) (hE _)
    · replace hf := ite_n c3 hf
      refine sd_iconst (n := 1) (v := 1) (pc' := 15) (by decide +kernel) (by decide) ?_
      refine sd_goto (off := 4) (tgt := 19) (pc' := 18) (by decide +kernel) ?_
      obtain rfl := Option.some.inj hf
      exact sd_zret (by decide +kernel) rfl (by decide) (hE _)

def M_XN_told : sd_MX := (yX3_told, cX3_told, 2, (some .double), { frames := 1, cells := 0, slots := 0, locals := 40 })
def XN_told (a0 : Int32) (a1 : Int32) : Option UInt64 :=
  (if a0 = 0 then some (FP.i2d (i2s a1)) else (if a0 = 1 then some (FP.i2d a1) else (if a0 = 2 then gd (nf (FP.fdiv (FP.i2f a1) 1090519040)) (gd (nd (FP.f2d (FP.fdiv (FP.i2f a1) 1090519040))) (some (FP.f2d (FP.fdiv (FP.i2f a1) 1090519040)))) else (if a0 = 3 then gd (nd (FP.ddiv (FP.i2d a1) 4620693217682128896)) (some (FP.ddiv (FP.i2d a1) 4620693217682128896)) else (some (FP.i2d (a1 &&& 1)))))))
set_option maxHeartbeats 4000000 in
set_option maxRecDepth 100000 in
theorem T_XN_told {G : sd_GX} {h : sd_H} {a0 : Int32} {a1 : Int32} {r : UInt64} (hf : XN_told a0 a1 = some r) : sd_RunF G M_XN_told [.int a0, .int a1] h (some (.double r)) h := by
  refine sF_run ⟨rfl, rfl⟩ (by decide +kernel) (Nat.le_of_ble_eq_true rfl) (lo := [(0, .int a0), (1, .int a1)]) rfl (fun X hE => ?_)
  unfold XN_told at hf
  refine sd_iload_n (k := 0) (i := 0) (q := 0) (pc' := 1) (by decide +kernel) rfl rfl ?_
  by_cases c1_0 : a0 = 0
  · replace hf := ite_p c1_0 hf
    refine sd_tswIn (dflt := 52) (lo0 := 0) (hi0 := 3) (offs := #[31, 35, 38, 45]) (len := 31) (off := 31) (tgt := 32) (pc' := 32) (by decide +kernel) (by rw [c1_0]; decide) (by rw [c1_0]; decide) (by rw [c1_0]; decide) ?_
    refine sd_iload_n (k := 1) (i := 1) (q := 1) (pc' := 33) (by decide +kernel) rfl rfl ?_
    refine sd_i2s (pc' := 34) (by decide +kernel) rfl ?_
    refine sd_i2d (pc' := 35) (by decide +kernel) ?_
    obtain rfl := Option.some.inj hf
    exact sd_dret (by decide +kernel) rfl (hE _)
  · replace hf := ite_n c1_0 hf
    by_cases c1_1 : a0 = 1
    · replace hf := ite_p c1_1 hf
      refine sd_tswIn (dflt := 52) (lo0 := 0) (hi0 := 3) (offs := #[31, 35, 38, 45]) (len := 31) (off := 35) (tgt := 36) (pc' := 32) (by decide +kernel) (by rw [c1_1]; decide) (by rw [c1_1]; decide) (by rw [c1_1]; decide) ?_
      refine sd_iload_n (k := 1) (i := 1) (q := 1) (pc' := 37) (by decide +kernel) rfl rfl ?_
      refine sd_i2d (pc' := 38) (by decide +kernel) ?_
      obtain rfl := Option.some.inj hf
      exact sd_dret (by decide +kernel) rfl (hE _)
    · replace hf := ite_n c1_1 hf
      by_cases c1_2 : a0 = 2
      · replace hf := ite_p c1_2 hf
        refine sd_tswIn (dflt := 52) (lo0 := 0) (hi0 := 3) (offs := #[31, 35, 38, 45]) (len := 31) (off := 38) (tgt := 39) (pc' := 32) (by decide +kernel) (by rw [c1_2]; decide) (by rw [c1_2]; decide) (by rw [c1_2]; decide) ?_
        refine sd_iload_n (k := 1) (i := 1) (q := 1) (pc' := 40) (by decide +kernel) rfl rfl ?_
        refine sd_i2f (pc' := 41) (by decide +kernel) ?_
        refine sd_ldcf (idx := 9) (v := 1090519040) (pc' := 43) (by decide +kernel) (sd_mem (i := 513) (by decide +kernel)) ?_
        obtain ⟨g2, hf⟩ := gd_some hf
        refine sd_fdiv (pc' := 44) (by decide +kernel) (nf_of g2) ?_
        obtain ⟨g3, hf⟩ := gd_some hf
        refine sd_f2d (pc' := 45) (by decide +kernel) (nd_of g3) ?_
        obtain rfl := Option.some.inj hf
        exact sd_dret (by decide +kernel) rfl (hE _)
      · replace hf := ite_n c1_2 hf
        by_cases c1_3 : a0 = 3
        · replace hf := ite_p c1_3 hf
          refine sd_tswIn (dflt := 52) (lo0 := 0) (hi0 := 3) (offs := #[31, 35, 38, 45]) (len := 31) (off := 45) (tgt := 46) (pc' := 32) (by decide +kernel) (by rw [c1_3]; decide) (by rw [c1_3]; decide) (by rw [c1_3]; decide) ?_
          refine sd_iload_n (k := 1) (i := 1) (q := 1) (pc' := 47) (by decide +kernel) rfl rfl ?_
          refine sd_i2d (pc' := 48) (by decide +kernel) ?_
          refine sd_ldc2d (idx := 10) (v := 4620693217682128896) (pc' := 51) (by decide +kernel) (sd_mem (i := 514) (by decide +kernel)) ?_
          obtain ⟨g4, hf⟩ := gd_some hf
          refine sd_ddiv (pc' := 52) (by decide +kernel) (nd_of g4) ?_
          obtain rfl := Option.some.inj hf
          exact sd_dret (by decide +kernel) rfl (hE _)
        · replace hf := ite_n c1_3 hf
          have nc1_0 := ne_ti c1_0 (n := 0) (by decide)
          have nc1_1 := ne_ti c1_1 (n := 1) (by decide)
          have nc1_2 := ne_ti c1_2 (n := 2) (by decide)
          have nc1_3 := ne_ti c1_3 (n := 3) (by decide)
          refine sd_tswOut (dflt := 52) (lo0 := 0) (hi0 := 3) (offs := #[31, 35, 38, 45]) (len := 31) (tgt := 53) (pc' := 32) (by decide +kernel) (by omega) ?_
          refine sd_iload_n (k := 1) (i := 1) (q := 1) (pc' := 54) (by decide +kernel) rfl rfl ?_
          refine sd_iconst (n := 1) (v := 1) (pc' := 55) (by decide +kernel) (by decide) ?_
          refine sd_iand (pc' := 56) (by decide +kernel) ?_
          refine sd_i2d (pc' := 57) (by decide +kernel) ?_
          obtain rfl := Option.some.inj hf
          exact sd_dret (by decide +kernel) rfl (hE _)

theorem fl_X11_119 : sd_fl RX11 119 6 0 := ⟨sd_mem (i := 144) (by decide +kernel), by decide, by decide⟩
theorem ml_X11_122 : Cond.methodLink RX11 122 yX6_hasCell ∈ sd_tb := sd_mem (i := 506) (by decide +kernel)
theorem mv_XR_hasCell : sd_mV M_XR_hasCell 2 := ⟨sd_mem (i := 507) (by decide +kernel), sd_mem (i := 508) (by decide +kernel), ⟨sd_mem (i := 509) (by decide +kernel), sd_mem (i := 109) (by decide +kernel), by decide +kernel, by decide +kernel, by decide +kernel⟩⟩
theorem fl_X11_126 : sd_fl RX11 126 6 2 := ⟨sd_mem (i := 149) (by decide +kernel), by decide, by decide⟩
theorem ml_X11_130 : Cond.methodLink RX11 130 yX3_told ∈ sd_tb := sd_mem (i := 510) (by decide +kernel)
theorem mv_XN_told : sd_mS M_XN_told 2 := ⟨sd_mem (i := 511) (by decide +kernel), ⟨sd_mem (i := 512) (by decide +kernel), sd_mem (i := 120) (by decide +kernel), by decide +kernel, by decide +kernel, by decide +kernel⟩⟩
def M_XT_put : sd_MX := (yX11_put, cX11_put, 5, (some .int), { frames := 3, cells := 0, slots := 0, locals := 82 })
def XT_put (h : sd_H) (a0 : Int32) (a1 : Int32) (a2 : Int32) (a3 : Int32) : Option (sd_H × Int32) :=
  b1 (XT_isRow a0) (fun t2 => (if t2 = 0 then some (h, (-2)) else b1 (XT_within a1 0 4) (fun t5 => (if t5 = 0 then some (h, (-2)) else b1 (XR_isMissing h 1 a0) (fun t8 => (if t8 = 0 then gd (sd_inB a0 6) ((if (h.1 2 (a0 : Int32).toNatClampNeg) = a1 then b1 (XR_hasCell h 1 a0 a2) (fun t13 => (if t13 = 0 then b2 (XT_found h 2) (fun h23 t24 => some (h23, t24)) else b1 (XN_told a1 a3) (fun t16 => gd (sd_inB ((a0 * 24) + a2) 144) (hb (wD h 4 (((a0 * 24) + a2) : Int32).toNatClampNeg t16) (fun h18 => hb (wI h18 56 5 1) (fun h20 => some (h20, 1))))))) else b2 (XT_found h 3) (fun h26 t27 => some (h26, t27)))) else b2 (XT_found h 1) (fun h29 t30 => some (h29, t30))))))))
set_option maxHeartbeats 4000000 in
set_option maxRecDepth 100000 in
theorem T_XT_put {G : sd_GX} {h : sd_H} {a0 : Int32} {a1 : Int32} {a2 : Int32} {a3 : Int32} {r : (sd_H × Int32)} (hf : XT_put h a0 a1 a2 a3 = some r) : sd_RunF G M_XT_put [.ref (G.1 + 0), .int a0, .int a1, .int a2, .int a3] h (some (.int r.2)) r.1 := by
  refine sF_run ⟨rfl, rfl⟩ (by decide +kernel) (Nat.le_of_ble_eq_true rfl) (lo := [(0, .ref (G.1 + 0)), (1, .int a0), (2, .int a1), (3, .int a2), (4, .int a3)]) rfl (fun X hE => ?_)
  unfold XT_put at hf
  refine sd_iload_n (k := 1) (i := 1) (q := 1) (pc' := 1) (by decide +kernel) rfl rfl ?_
  obtain ⟨t2, q1, hf⟩ := b1_some hf
  refine sF_callS (idx := 93) (As := [.int a0]) (pc' := 4) 1 (T_XT_isRow (G := G) (h := h)  q1) (by decide +kernel) mv_XT_isRow ml_X11_93 (by decide +kernel) rfl rfl (Nat.le_of_ble_eq_true rfl) rfl ?_
  refine sd_if_eq (off := 12) (tgt := 16) (pc' := 7) (by decide +kernel) (fun c3 => ?_) (fun c3 => ?_)
  · replace hf := ite_p c3 hf
    refine sd_bipush (n := -2) (v := (-2)) (pc' := 18) (by decide +kernel) (by decide) ?_
    obtain rfl := Option.some.inj hf
    exact sd_iret (by decide +kernel) rfl (hE _)
  · replace hf := ite_n c3 hf
    refine sd_iload_n (k := 2) (i := 2) (q := 2) (pc' := 8) (by decide +kernel) rfl rfl ?_
    refine sd_iconst (n := 0) (v := 0) (pc' := 9) (by decide +kernel) (by decide) ?_
    refine sd_iconst (n := 4) (v := 4) (pc' := 10) (by decide +kernel) (by decide) ?_
    obtain ⟨t5, q4, hf⟩ := b1_some hf
    refine sF_callS (idx := 97) (As := [.int a1, .int 0, .int 4]) (pc' := 13) 3 (T_XT_within (G := G) (h := h)  q4) (by decide +kernel) mv_XT_within ml_X11_97 (by decide +kernel) rfl rfl (Nat.le_of_ble_eq_true rfl) rfl ?_
    refine sd_if_ne (off := 6) (tgt := 19) (pc' := 16) (by decide +kernel) (fun c6 => ?_) (fun c6 => ?_)
    · replace hf := ite_n c6 hf
      refine sd_aload_n (k := 0) (i := 0) (q := 0) (pc' := 20) (by decide +kernel) rfl rfl ?_
      refine sF_gr (idx := 12) (ci := 11) (k := 0) (n := 17) (r := 1) (pc' := 23) (by decide +kernel) fl_X11_12 (by decide +kernel) rfl SH_0 (by decide) (by decide +kernel) ?_
      refine sd_iload_n (k := 1) (i := 1) (q := 1) (pc' := 24) (by decide +kernel) rfl rfl ?_
      obtain ⟨t8, q7, hf⟩ := b1_some hf
      refine sF_callV (idx := 113) (b := 1) (As := [.int a0]) (ci := 6) (nn := 4) (pc' := 27) 1 (T_XR_isMissing (G := G) (h := h) SH_1 q7) (by decide +kernel) mv_XR_isMissing ml_X11_113 (by decide +kernel) rfl rfl (Nat.le_of_ble_eq_true rfl) SH_1 rfl (by decide) rfl rfl ?_
      refine sd_if_eq (off := 9) (tgt := 36) (pc' := 30) (by decide +kernel) (fun c9 => ?_) (fun c9 => ?_)
      · replace hf := ite_p c9 hf
        refine sd_aload_n (k := 0) (i := 0) (q := 0) (pc' := 37) (by decide +kernel) rfl rfl ?_
        refine sF_gr (idx := 12) (ci := 11) (k := 0) (n := 17) (r := 1) (pc' := 40) (by decide +kernel) fl_X11_12 (by decide +kernel) rfl SH_0 (by decide) (by decide +kernel) ?_
        refine sF_gr (idx := 119) (ci := 6) (k := 0) (n := 4) (r := 2) (pc' := 43) (by decide +kernel) fl_X11_119 (by decide +kernel) rfl SH_1 (by decide) (by decide +kernel) ?_
        refine sd_iload_n (k := 1) (i := 1) (q := 1) (pc' := 44) (by decide +kernel) rfl rfl ?_
        obtain ⟨g10, hf⟩ := gd_some hf
        refine sF_iald (n := 6) (pc' := 45) (by decide +kernel) SH_2 g10 ?_
        refine sd_iload_n (k := 2) (i := 2) (q := 2) (pc' := 46) (by decide +kernel) rfl rfl ?_
        refine sd_icmp_eq (off := 9) (tgt := 55) (pc' := 49) (by decide +kernel) (fun c11 => ?_) (fun c11 => ?_)
        · replace hf := ite_p c11 hf
          refine sd_aload_n (k := 0) (i := 0) (q := 0) (pc' := 56) (by decide +kernel) rfl rfl ?_
          refine sF_gr (idx := 12) (ci := 11) (k := 0) (n := 17) (r := 1) (pc' := 59) (by decide +kernel) fl_X11_12 (by decide +kernel) rfl SH_0 (by decide) (by decide +kernel) ?_
          refine sd_iload_n (k := 1) (i := 1) (q := 1) (pc' := 60) (by decide +kernel) rfl rfl ?_
          refine sd_iload_n (k := 3) (i := 3) (q := 3) (pc' := 61) (by decide +kernel) rfl rfl ?_
          obtain ⟨t13, q12, hf⟩ := b1_some hf
          refine sF_callV (idx := 122) (b := 1) (As := [.int a0, .int a2]) (ci := 6) (nn := 4) (pc' := 64) 2 (T_XR_hasCell (G := G) (h := h) SH_1 q12) (by decide +kernel) mv_XR_hasCell ml_X11_122 (by decide +kernel) rfl rfl (Nat.le_of_ble_eq_true rfl) SH_1 rfl (by decide) rfl rfl ?_
          refine sd_if_ne (off := 9) (tgt := 73) (pc' := 67) (by decide +kernel) (fun c14 => ?_) (fun c14 => ?_)
          · replace hf := ite_n c14 hf
            refine sd_aload_n (k := 0) (i := 0) (q := 0) (pc' := 74) (by decide +kernel) rfl rfl ?_
            refine sF_gr (idx := 12) (ci := 11) (k := 0) (n := 17) (r := 1) (pc' := 77) (by decide +kernel) fl_X11_12 (by decide +kernel) rfl SH_0 (by decide) (by decide +kernel) ?_
            refine sF_gr (idx := 126) (ci := 6) (k := 2) (n := 4) (r := 4) (pc' := 80) (by decide +kernel) fl_X11_126 (by decide +kernel) rfl SH_1 (by decide) (by decide +kernel) ?_
            refine sd_iload_n (k := 1) (i := 1) (q := 1) (pc' := 81) (by decide +kernel) rfl rfl ?_
            refine sd_bipush (n := 24) (v := 24) (pc' := 83) (by decide +kernel) (by decide) ?_
            refine sd_imul (pc' := 84) (by decide +kernel) ?_
            refine sd_iload_n (k := 3) (i := 3) (q := 3) (pc' := 85) (by decide +kernel) rfl rfl ?_
            refine sd_iadd (pc' := 86) (by decide +kernel) ?_
            refine sd_iload_n (k := 2) (i := 2) (q := 2) (pc' := 87) (by decide +kernel) rfl rfl ?_
            refine sd_iload (i := 4) (q := 4) (pc' := 89) (by decide +kernel) rfl ?_
            obtain ⟨t16, q15, hf⟩ := b1_some hf
            refine sF_callS (idx := 130) (As := [.int a1, .int a3]) (pc' := 92) 2 (T_XN_told (G := G) (h := h)  q15) (by decide +kernel) mv_XN_told ml_X11_130 (by decide +kernel) rfl rfl (Nat.le_of_ble_eq_true rfl) rfl ?_
            obtain ⟨g17, hf⟩ := gd_some hf
            obtain ⟨h18, e19, hf⟩ := hb_some hf
            refine sF_dast (n := 144) (pc' := 93) (by decide +kernel) SH_4 g17 ?_
            rw [← e19]; clear e19
            refine sd_aload_n (k := 0) (i := 0) (q := 0) (pc' := 94) (by decide +kernel) rfl rfl ?_
            refine sF_gr (idx := 41) (ci := 11) (k := 4) (n := 17) (r := 56) (pc' := 97) (by decide +kernel) fl_X11_41 (by decide +kernel) rfl SH_0 (by decide) (by decide +kernel) ?_
            refine sd_iconst (n := 1) (v := 1) (pc' := 98) (by decide +kernel) (by decide) ?_
            obtain ⟨h20, e21, hf⟩ := hb_some hf
            refine sF_pz (idx := 109) (ci := 10) (k := 5) (n := 6) (pc' := 101) (by decide +kernel) fl_X11_109 (by decide +kernel) rfl rfl rfl SH_56 (by decide) ?_
            rw [← e21]; clear e21
            refine sd_iconst (n := 1) (v := 1) (pc' := 102) (by decide +kernel) (by decide) ?_
            obtain rfl := Option.some.inj hf
            exact sd_iret (by decide +kernel) rfl (hE _)
          · replace hf := ite_p c14 hf
            refine sd_aload_n (k := 0) (i := 0) (q := 0) (pc' := 68) (by decide +kernel) rfl rfl ?_
            refine sd_iconst (n := 2) (v := 2) (pc' := 69) (by decide +kernel) (by decide) ?_
            obtain ⟨h23, t24, q22, hf⟩ := b2_some hf
            refine sF_callV (idx := 101) (b := 0) (As := [.int 2]) (ci := 11) (nn := 17) (pc' := 72) 1 (T_XT_found (G := G) (h := h)  q22) (by decide +kernel) mv_XT_found ml_X11_101 (by decide +kernel) rfl rfl (Nat.le_of_ble_eq_true rfl) SH_0 rfl (by decide) rfl rfl ?_
            obtain rfl := Option.some.inj hf
            exact sd_iret (by decide +kernel) rfl (hE _)
        · replace hf := ite_n c11 hf
          refine sd_aload_n (k := 0) (i := 0) (q := 0) (pc' := 50) (by decide +kernel) rfl rfl ?_
          refine sd_iconst (n := 3) (v := 3) (pc' := 51) (by decide +kernel) (by decide) ?_
          obtain ⟨h26, t27, q25, hf⟩ := b2_some hf
          refine sF_callV (idx := 101) (b := 0) (As := [.int 3]) (ci := 11) (nn := 17) (pc' := 54) 1 (T_XT_found (G := G) (h := h)  q25) (by decide +kernel) mv_XT_found ml_X11_101 (by decide +kernel) rfl rfl (Nat.le_of_ble_eq_true rfl) SH_0 rfl (by decide) rfl rfl ?_
          obtain rfl := Option.some.inj hf
          exact sd_iret (by decide +kernel) rfl (hE _)
      · replace hf := ite_n c9 hf
        refine sd_aload_n (k := 0) (i := 0) (q := 0) (pc' := 31) (by decide +kernel) rfl rfl ?_
        refine sd_iconst (n := 1) (v := 1) (pc' := 32) (by decide +kernel) (by decide) ?_
        obtain ⟨h29, t30, q28, hf⟩ := b2_some hf
        refine sF_callV (idx := 101) (b := 0) (As := [.int 1]) (ci := 11) (nn := 17) (pc' := 35) 1 (T_XT_found (G := G) (h := h)  q28) (by decide +kernel) mv_XT_found ml_X11_101 (by decide +kernel) rfl rfl (Nat.le_of_ble_eq_true rfl) SH_0 rfl (by decide) rfl rfl ?_
        obtain rfl := Option.some.inj hf
        exact sd_iret (by decide +kernel) rfl (hE _)
    · replace hf := ite_p c6 hf
      refine sd_bipush (n := -2) (v := (-2)) (pc' := 18) (by decide +kernel) (by decide) ?_
      obtain rfl := Option.some.inj hf
      exact sd_iret (by decide +kernel) rfl (hE _)

def M_XT_longRefusal : sd_MX := (yX11_longRefusal, cX11_longRefusal, 1, (some .long), { frames := 1, cells := 0, slots := 0, locals := 40 })
def XT_longRefusal (a0 : Int32) : Option Int64 :=
  some ((-9223372036854775808) - (Int32.toInt64 a0))
set_option maxHeartbeats 4000000 in
set_option maxRecDepth 100000 in
theorem T_XT_longRefusal {G : sd_GX} {h : sd_H} {a0 : Int32} {r : Int64} (hf : XT_longRefusal a0 = some r) : sd_RunF G M_XT_longRefusal [.int a0] h (some (.long r)) h := by
  refine sF_run ⟨rfl, rfl⟩ (by decide +kernel) (Nat.le_of_ble_eq_true rfl) (lo := [(0, .int a0)]) rfl (fun X hE => ?_)
  unfold XT_longRefusal at hf
  refine sd_ldc2 (idx := 421) (v := (-9223372036854775808)) (pc' := 3) (by decide +kernel) (sd_mem (i := 522) (by decide +kernel)) ?_
  refine sd_iload_n (k := 0) (i := 0) (q := 0) (pc' := 4) (by decide +kernel) rfl rfl ?_
  refine sd_i2l (pc' := 5) (by decide +kernel) rfl ?_
  refine sd_lsub (pc' := 6) (by decide +kernel) ?_
  obtain rfl := Option.some.inj hf
  exact sd_lret (by decide +kernel) rfl (hE _)

def M_XN_sizeOf : sd_MX := (yX3_sizeOf, cX3_sizeOf, 2, (some .double), { frames := 1, cells := 0, slots := 0, locals := 40 })
def XN_sizeOf (a0 : UInt64) : Option UInt64 :=
  (if 0 ≤ (Op.cmpValue (FP.dcmp a0 FP.dconst0) .g) then some a0 else some (FP.dneg a0))
set_option maxHeartbeats 4000000 in
set_option maxRecDepth 100000 in
theorem T_XN_sizeOf {G : sd_GX} {h : sd_H} {a0 : UInt64} {r : UInt64} (hf : XN_sizeOf a0 = some r) : sd_RunF G M_XN_sizeOf [.double a0] h (some (.double r)) h := by
  refine sF_run ⟨rfl, rfl⟩ (by decide +kernel) (Nat.le_of_ble_eq_true rfl) (lo := [(0, .double a0)]) rfl (fun X hE => ?_)
  unfold XN_sizeOf at hf
  refine sd_dload_n (k := 0) (i := 0) (q := 0) (pc' := 1) (by decide +kernel) rfl rfl ?_
  refine sd_dconst0 (pc' := 2) (by decide +kernel) ?_
  refine sd_dcmp (op := .g) (pc' := 3) (by decide +kernel) ?_
  refine sd_if_ge (off := 8) (tgt := 11) (pc' := 6) (by decide +kernel) (fun c1 => ?_) (fun c1 => ?_)
  · replace hf := ite_p c1 hf
    refine sd_dload_n (k := 0) (i := 0) (q := 0) (pc' := 12) (by decide +kernel) rfl rfl ?_
    obtain rfl := Option.some.inj hf
    exact sd_dret (by decide +kernel) rfl (hE _)
  · replace hf := ite_n c1 hf
    refine sd_dload_n (k := 0) (i := 0) (q := 0) (pc' := 7) (by decide +kernel) rfl rfl ?_
    refine sd_dneg (pc' := 8) (by decide +kernel) ?_
    refine sd_goto (off := 4) (tgt := 12) (pc' := 11) (by decide +kernel) ?_
    obtain rfl := Option.some.inj hf
    exact sd_dret (by decide +kernel) rfl (hE _)

theorem ml_X3_25 : Cond.methodLink RX3 25 yX3_sizeOf ∈ sd_tb := sd_mem (i := 529) (by decide +kernel)
theorem mv_XN_sizeOf : sd_mS M_XN_sizeOf 1 := ⟨sd_mem (i := 530) (by decide +kernel), ⟨sd_mem (i := 531) (by decide +kernel), sd_mem (i := 120) (by decide +kernel), by decide +kernel, by decide +kernel, by decide +kernel⟩⟩
def M_XN_bits : sd_MX := (yX3_bits, cX3_bits, 9, (some .long), { frames := 2, cells := 0, slots := 0, locals := 61 })
def XN_bits_B75 (l2 : Int32) (l3 : Int32) (l4 : UInt64) (l6 : Int32) : Option Int64 :=
  gd (nd (FP.dmul l4 (FP.l2d (lshl 1 l3)))) (some ((lshl (Int32.toInt64 (l6 - l2)) l3) + (FP.d2l (FP.dmul l4 (FP.l2d (lshl 1 l3))))))
set_option maxHeartbeats 4000000 in
set_option maxRecDepth 100000 in
theorem J_XN_bits_B75 {G : sd_GX} {X : sd_CX} (hE : ∀ g : sd_H, sd_end G X M_XN_bits (sd_F g)) {h : sd_H} {r : Int64} {l2 : Int32} {l3 : Int32} {l4 : UInt64} {l6 : Int32} (hf : XN_bits_B75 l2 l3 l4 l6 = some r) : sd_J G X (sd_QR G X M_XN_bits (some (.long r), sd_F h)) M_XN_bits 75 [(2, .int l2), (3, .int l3), (4, .double l4), (6, .int l6)] [] (sd_F h) := by
  unfold XN_bits_B75 at hf
  refine sd_dload (i := 4) (q := 2) (pc' := 77) (by decide +kernel) rfl ?_
  refine sd_lconst (n := 1) (v := 1) (pc' := 78) (by decide +kernel) (by decide) ?_
  refine sd_iload_n (k := 3) (i := 3) (q := 1) (pc' := 79) (by decide +kernel) rfl rfl ?_
  refine sd_lshl (pc' := 80) (by decide +kernel) rfl ?_
  refine sd_l2d (pc' := 81) (by decide +kernel) ?_
  obtain ⟨g6, hf⟩ := gd_some hf
  refine sd_dmul (pc' := 82) (by decide +kernel) (nd_of g6) ?_
  refine sd_d2l (pc' := 83) (by decide +kernel) ?_
  refine sd_lstore (i := 7) (pc' := 85) (lo' := [(7, .long (FP.d2l (FP.dmul l4 (FP.l2d (lshl 1 l3))))), (2, .int l2), (3, .int l3), (4, .double l4), (6, .int l6)]) (by decide +kernel) (by decide) rfl ?_
  refine sd_iload (i := 6) (q := 4) (pc' := 87) (by decide +kernel) rfl ?_
  refine sd_iload_n (k := 2) (i := 2) (q := 1) (pc' := 88) (by decide +kernel) rfl rfl ?_
  refine sd_isub (pc' := 89) (by decide +kernel) ?_
  refine sd_i2l (pc' := 90) (by decide +kernel) rfl ?_
  refine sd_iload_n (k := 3) (i := 3) (q := 2) (pc' := 91) (by decide +kernel) rfl rfl ?_
  refine sd_lshl (pc' := 92) (by decide +kernel) rfl ?_
  refine sd_lload (i := 7) (q := 0) (pc' := 94) (by decide +kernel) rfl ?_
  refine sd_ladd (pc' := 95) (by decide +kernel) ?_
  obtain rfl := Option.some.inj hf
  exact sd_lret (by decide +kernel) rfl (hE _)
def XN_bits_L48 : Nat → Int32 → Int32 → UInt64 → Int32 → Option Int64
  | 0, _, _, _, _ => none
  | n + 1, l2, l3, l4, l6 =>
  (if l6 ≤ l2 then XN_bits_B75 l2 l3 l4 l6 else (if 0 ≤ (Op.cmpValue (FP.dcmp l4 FP.dconst1) .g) then XN_bits_B75 l2 l3 l4 l6 else gd (nd (FP.dmul l4 4611686018427387904)) (XN_bits_L48 n l2 l3 (FP.dmul l4 4611686018427387904) (l6 + (-1)))))
set_option maxHeartbeats 4000000 in
set_option maxRecDepth 100000 in
theorem J_XN_bits_L48 {G : sd_GX} {X : sd_CX} (hE : ∀ g : sd_H, sd_end G X M_XN_bits (sd_F g)) {h : sd_H} {r : Int64} : ∀ (n : Nat) (l2 : Int32) (l3 : Int32) (l4 : UInt64) (l6 : Int32), XN_bits_L48 n l2 l3 l4 l6 = some r → sd_J G X (sd_QR G X M_XN_bits (some (.long r), sd_F h)) M_XN_bits 48 [(2, .int l2), (3, .int l3), (4, .double l4), (6, .int l6)] [] (sd_F h) := by
  intro n
  induction n with
  | zero =>
    intro l2 l3 l4 l6 hf
    rw [XN_bits_L48] at hf
    cases hf
  | succ n ih =>
    intro l2 l3 l4 l6 hf
    rw [XN_bits_L48] at hf
    refine sd_iload (i := 6) (q := 3) (pc' := 50) (by decide +kernel) rfl ?_
    refine sd_iload_n (k := 2) (i := 2) (q := 0) (pc' := 51) (by decide +kernel) rfl rfl ?_
    refine sd_icmp_le (off := 24) (tgt := 75) (pc' := 54) (by decide +kernel) (fun c5 => ?_) (fun c5 => ?_)
    · replace hf := ite_p c5 hf
      refine sd_J.sub (lo' := [(2, .int l2), (3, .int l3), (4, .double l4), (6, .int l6)]) [0, 1, 2, 3] rfl ?_
      exact J_XN_bits_B75 hE (h := h) hf
    · replace hf := ite_n c5 hf
      refine sd_dload (i := 4) (q := 2) (pc' := 56) (by decide +kernel) rfl ?_
      refine sd_dconst1 (pc' := 57) (by decide +kernel) ?_
      refine sd_dcmp (op := .g) (pc' := 58) (by decide +kernel) ?_
      refine sd_if_ge (off := 17) (tgt := 75) (pc' := 61) (by decide +kernel) (fun c7 => ?_) (fun c7 => ?_)
      · replace hf := ite_p c7 hf
        refine sd_J.sub (lo' := [(2, .int l2), (3, .int l3), (4, .double l4), (6, .int l6)]) [0, 1, 2, 3] rfl ?_
        exact J_XN_bits_B75 hE (h := h) hf
      · replace hf := ite_n c7 hf
        refine sd_dload (i := 4) (q := 2) (pc' := 63) (by decide +kernel) rfl ?_
        refine sd_ldc2d (idx := 29) (v := 4611686018427387904) (pc' := 66) (by decide +kernel) (sd_mem (i := 532) (by decide +kernel)) ?_
        obtain ⟨g8, hf⟩ := gd_some hf
        refine sd_dmul (pc' := 67) (by decide +kernel) (nd_of g8) ?_
        refine sd_dstore (i := 4) (pc' := 69) (lo' := [(4, .double (FP.dmul l4 4611686018427387904)), (2, .int l2), (3, .int l3), (6, .int l6)]) (by decide +kernel) (by decide) rfl ?_
        refine sd_iinc (i := 6) (q := 3) (n := -1) (v := (l6 + (-1))) (pc' := 72) (lo' := [(6, .int (l6 + (-1))), (4, .double (FP.dmul l4 4611686018427387904)), (2, .int l2), (3, .int l3)]) (by decide +kernel) rfl rfl (by decide) rfl ?_
        refine sd_goto (off := -24) (tgt := 48) (pc' := 75) (by decide +kernel) ?_
        refine sd_J.sub (lo' := [(2, .int l2), (3, .int l3), (4, .double (FP.dmul l4 4611686018427387904)), (6, .int (l6 + (-1)))]) [2, 3, 1, 0] rfl ?_
        exact ih _ _ _ _ hf
def XN_bits_L17 : Nat → Int32 → Int32 → UInt64 → Int32 → Option Int64
  | 0, _, _, _, _ => none
  | n + 1, l2, l3, l4, l6 =>
  (if 2200 ≤ l6 then XN_bits_L48 FU l2 l3 l4 l6 else (if (Op.cmpValue (FP.dcmp l4 4611686018427387904) .l) < 0 then XN_bits_L48 FU l2 l3 l4 l6 else gd (nd (FP.ddiv l4 4611686018427387904)) (XN_bits_L17 n l2 l3 (FP.ddiv l4 4611686018427387904) (l6 + 1))))
set_option maxHeartbeats 4000000 in
set_option maxRecDepth 100000 in
theorem J_XN_bits_L17 {G : sd_GX} {X : sd_CX} (hE : ∀ g : sd_H, sd_end G X M_XN_bits (sd_F g)) {h : sd_H} {r : Int64} : ∀ (n : Nat) (l2 : Int32) (l3 : Int32) (l4 : UInt64) (l6 : Int32), XN_bits_L17 n l2 l3 l4 l6 = some r → sd_J G X (sd_QR G X M_XN_bits (some (.long r), sd_F h)) M_XN_bits 17 [(2, .int l2), (3, .int l3), (4, .double l4), (6, .int l6)] [] (sd_F h) := by
  intro n
  induction n with
  | zero =>
    intro l2 l3 l4 l6 hf
    rw [XN_bits_L17] at hf
    cases hf
  | succ n ih =>
    intro l2 l3 l4 l6 hf
    rw [XN_bits_L17] at hf
    refine sd_iload (i := 6) (q := 3) (pc' := 19) (by decide +kernel) rfl ?_
    refine sd_sipush (n := 2200) (v := 2200) (pc' := 22) (by decide +kernel) (by decide) ?_
    refine sd_icmp_ge (off := 26) (tgt := 48) (pc' := 25) (by decide +kernel) (fun c4 => ?_) (fun c4 => ?_)
    · replace hf := ite_p c4 hf
      refine sd_J.sub (lo' := [(2, .int l2), (3, .int l3), (4, .double l4), (6, .int l6)]) [0, 1, 2, 3] rfl ?_
      exact J_XN_bits_L48 hE (h := h) _ _ _ _ _ hf
    · replace hf := ite_n c4 hf
      refine sd_dload (i := 4) (q := 2) (pc' := 27) (by decide +kernel) rfl ?_
      refine sd_ldc2d (idx := 29) (v := 4611686018427387904) (pc' := 30) (by decide +kernel) (sd_mem (i := 532) (by decide +kernel)) ?_
      refine sd_dcmp (op := .l) (pc' := 31) (by decide +kernel) ?_
      refine sd_if_lt (off := 17) (tgt := 48) (pc' := 34) (by decide +kernel) (fun c9 => ?_) (fun c9 => ?_)
      · replace hf := ite_p c9 hf
        refine sd_J.sub (lo' := [(2, .int l2), (3, .int l3), (4, .double l4), (6, .int l6)]) [0, 1, 2, 3] rfl ?_
        exact J_XN_bits_L48 hE (h := h) _ _ _ _ _ hf
      · replace hf := ite_n c9 hf
        refine sd_dload (i := 4) (q := 2) (pc' := 36) (by decide +kernel) rfl ?_
        refine sd_ldc2d (idx := 29) (v := 4611686018427387904) (pc' := 39) (by decide +kernel) (sd_mem (i := 532) (by decide +kernel)) ?_
        obtain ⟨g10, hf⟩ := gd_some hf
        refine sd_ddiv (pc' := 40) (by decide +kernel) (nd_of g10) ?_
        refine sd_dstore (i := 4) (pc' := 42) (lo' := [(4, .double (FP.ddiv l4 4611686018427387904)), (2, .int l2), (3, .int l3), (6, .int l6)]) (by decide +kernel) (by decide) rfl ?_
        refine sd_iinc (i := 6) (q := 3) (n := 1) (v := (l6 + 1)) (pc' := 45) (lo' := [(6, .int (l6 + 1)), (4, .double (FP.ddiv l4 4611686018427387904)), (2, .int l2), (3, .int l3)]) (by decide +kernel) rfl rfl (by decide) rfl ?_
        refine sd_goto (off := -28) (tgt := 17) (pc' := 48) (by decide +kernel) ?_
        refine sd_J.sub (lo' := [(2, .int l2), (3, .int l3), (4, .double (FP.ddiv l4 4611686018427387904)), (6, .int (l6 + 1))]) [2, 3, 1, 0] rfl ?_
        exact ih _ _ _ _ hf
def XN_bits (a0 : UInt64) (a1 : Int32) (a2 : Int32) : Option Int64 :=
  (if (Op.cmpValue (FP.dcmp a0 FP.dconst0) .l) = 0 then some 0 else b1 (XN_sizeOf a0) (fun t3 => XN_bits_L17 FU a1 a2 t3 0))
set_option maxHeartbeats 4000000 in
set_option maxRecDepth 100000 in
theorem T_XN_bits {G : sd_GX} {h : sd_H} {a0 : UInt64} {a1 : Int32} {a2 : Int32} {r : Int64} (hf : XN_bits a0 a1 a2 = some r) : sd_RunF G M_XN_bits [.double a0, .int a1, .int a2] h (some (.long r)) h := by
  refine sF_run ⟨rfl, rfl⟩ (by decide +kernel) (Nat.le_of_ble_eq_true rfl) (lo := [(0, .double a0), (2, .int a1), (3, .int a2)]) rfl (fun X hE => ?_)
  unfold XN_bits at hf
  refine sd_dload_n (k := 0) (i := 0) (q := 0) (pc' := 1) (by decide +kernel) rfl rfl ?_
  refine sd_dconst0 (pc' := 2) (by decide +kernel) ?_
  refine sd_dcmp (op := .l) (pc' := 3) (by decide +kernel) ?_
  refine sd_if_ne (off := 5) (tgt := 8) (pc' := 6) (by decide +kernel) (fun c1 => ?_) (fun c1 => ?_)
  · replace hf := ite_n c1 hf
    refine sd_dload_n (k := 0) (i := 0) (q := 0) (pc' := 9) (by decide +kernel) rfl rfl ?_
    obtain ⟨t3, q2, hf⟩ := b1_some hf
    refine sF_callS (idx := 25) (As := [.double a0]) (pc' := 12) 1 (T_XN_sizeOf (G := G) (h := h)  q2) (by decide +kernel) mv_XN_sizeOf ml_X3_25 (by decide +kernel) rfl rfl (Nat.le_of_ble_eq_true rfl) rfl ?_
    refine sd_dstore (i := 4) (pc' := 14) (lo' := [(4, .double t3), (0, .double a0), (2, .int a1), (3, .int a2)]) (by decide +kernel) (by decide) rfl ?_
    refine sd_iconst (n := 0) (v := 0) (pc' := 15) (by decide +kernel) (by decide) ?_
    refine sd_istore (i := 6) (pc' := 17) (lo' := [(6, .int 0), (4, .double t3), (0, .double a0), (2, .int a1), (3, .int a2)]) (by decide +kernel) (by decide) rfl ?_
    refine sd_J.sub (lo' := [(2, .int a1), (3, .int a2), (4, .double t3), (6, .int 0)]) [3, 4, 1, 0] rfl ?_
    exact J_XN_bits_L17 hE (h := h) _ _ _ _ _ hf
  · replace hf := ite_p c1 hf
    refine sd_lconst (n := 0) (v := 0) (pc' := 7) (by decide +kernel) (by decide) ?_
    obtain rfl := Option.some.inj hf
    exact sd_lret (by decide +kernel) rfl (hE _)

theorem ml_X3_12 : Cond.methodLink RX3 12 yX3_bits ∈ sd_tb := sd_mem (i := 526) (by decide +kernel)
theorem mv_XN_bits : sd_mS M_XN_bits 3 := ⟨sd_mem (i := 527) (by decide +kernel), ⟨sd_mem (i := 528) (by decide +kernel), sd_mem (i := 120) (by decide +kernel), by decide +kernel, by decide +kernel, by decide +kernel⟩⟩
def M_XN_shown : sd_MX := (yX3_shown, cX3_shown, 3, (some .long), { frames := 3, cells := 0, slots := 0, locals := 89 })
def XN_shown (a0 : Int32) (a1 : UInt64) : Option Int64 :=
  (if a0 = 2 then b1 (XN_bits a1 (-126) 23) (fun t3 => (if 0 ≤ (Op.cmpValue (FP.dcmp a1 FP.dconst0) .g) then some (t3 + (Int32.toInt64 0)) else some (t3 + (Int32.toInt64 (-2147483648))))) else (if a0 = 3 then b1 (XN_bits a1 (-1022) 52) (fun t6 => (if 0 ≤ (Op.cmpValue (FP.dcmp a1 FP.dconst0) .g) then some (t6 + 0) else some (t6 + (-9223372036854775808)))) else (some (FP.d2l a1))))
set_option maxHeartbeats 4000000 in
set_option maxRecDepth 100000 in
theorem T_XN_shown {G : sd_GX} {h : sd_H} {a0 : Int32} {a1 : UInt64} {r : Int64} (hf : XN_shown a0 a1 = some r) : sd_RunF G M_XN_shown [.int a0, .double a1] h (some (.long r)) h := by
  refine sF_run ⟨rfl, rfl⟩ (by decide +kernel) (Nat.le_of_ble_eq_true rfl) (lo := [(0, .int a0), (1, .double a1)]) rfl (fun X hE => ?_)
  unfold XN_shown at hf
  refine sd_iload_n (k := 0) (i := 0) (q := 0) (pc' := 1) (by decide +kernel) rfl rfl ?_
  by_cases c1_2 : a0 = 2
  · replace hf := ite_p c1_2 hf
    refine sd_lsw (dflt := 74) (ps := #[(2, 27), (3, 50)]) (len := 27) (off := 27) (tgt := 28) (pc' := 28) (by decide +kernel) (by decide) (by rw [c1_2]; decide) ?_
    refine sd_dload_n (k := 1) (i := 1) (q := 1) (pc' := 29) (by decide +kernel) rfl rfl ?_
    refine sd_bipush (n := -126) (v := (-126)) (pc' := 31) (by decide +kernel) (by decide) ?_
    refine sd_bipush (n := 23) (v := 23) (pc' := 33) (by decide +kernel) (by decide) ?_
    obtain ⟨t3, q2, hf⟩ := b1_some hf
    refine sF_callS (idx := 12) (As := [.double a1, .int (-126), .int 23]) (pc' := 36) 3 (T_XN_bits (G := G) (h := h)  q2) (by decide +kernel) mv_XN_bits ml_X3_12 (by decide +kernel) rfl rfl (Nat.le_of_ble_eq_true rfl) rfl ?_
    refine sd_dload_n (k := 1) (i := 1) (q := 1) (pc' := 37) (by decide +kernel) rfl rfl ?_
    refine sd_dconst0 (pc' := 38) (by decide +kernel) ?_
    refine sd_dcmp (op := .g) (pc' := 39) (by decide +kernel) ?_
    refine sd_if_ge (off := 8) (tgt := 47) (pc' := 42) (by decide +kernel) (fun c4 => ?_) (fun c4 => ?_)
    · replace hf := ite_p c4 hf
      refine sd_iconst (n := 0) (v := 0) (pc' := 48) (by decide +kernel) (by decide) ?_
      refine sd_i2l (pc' := 49) (by decide +kernel) rfl ?_
      refine sd_ladd (pc' := 50) (by decide +kernel) ?_
      obtain rfl := Option.some.inj hf
      exact sd_lret (by decide +kernel) rfl (hE _)
    · replace hf := ite_n c4 hf
      refine sd_ldc (idx := 20) (v := (-2147483648)) (pc' := 44) (by decide +kernel) (sd_mem (i := 533) (by decide +kernel)) ?_
      refine sd_goto (off := 4) (tgt := 48) (pc' := 47) (by decide +kernel) ?_
      refine sd_i2l (pc' := 49) (by decide +kernel) rfl ?_
      refine sd_ladd (pc' := 50) (by decide +kernel) ?_
      obtain rfl := Option.some.inj hf
      exact sd_lret (by decide +kernel) rfl (hE _)
  · replace hf := ite_n c1_2 hf
    by_cases c1_3 : a0 = 3
    · replace hf := ite_p c1_3 hf
      refine sd_lsw (dflt := 74) (ps := #[(2, 27), (3, 50)]) (len := 27) (off := 50) (tgt := 51) (pc' := 28) (by decide +kernel) (by decide) (by rw [c1_3]; decide) ?_
      refine sd_dload_n (k := 1) (i := 1) (q := 1) (pc' := 52) (by decide +kernel) rfl rfl ?_
      refine sd_sipush (n := -1022) (v := (-1022)) (pc' := 55) (by decide +kernel) (by decide) ?_
      refine sd_bipush (n := 52) (v := 52) (pc' := 57) (by decide +kernel) (by decide) ?_
      obtain ⟨t6, q5, hf⟩ := b1_some hf
      refine sF_callS (idx := 12) (As := [.double a1, .int (-1022), .int 52]) (pc' := 60) 3 (T_XN_bits (G := G) (h := h)  q5) (by decide +kernel) mv_XN_bits ml_X3_12 (by decide +kernel) rfl rfl (Nat.le_of_ble_eq_true rfl) rfl ?_
      refine sd_dload_n (k := 1) (i := 1) (q := 1) (pc' := 61) (by decide +kernel) rfl rfl ?_
      refine sd_dconst0 (pc' := 62) (by decide +kernel) ?_
      refine sd_dcmp (op := .g) (pc' := 63) (by decide +kernel) ?_
      refine sd_if_ge (off := 9) (tgt := 72) (pc' := 66) (by decide +kernel) (fun c7 => ?_) (fun c7 => ?_)
      · replace hf := ite_p c7 hf
        refine sd_lconst (n := 0) (v := 0) (pc' := 73) (by decide +kernel) (by decide) ?_
        refine sd_ladd (pc' := 74) (by decide +kernel) ?_
        obtain rfl := Option.some.inj hf
        exact sd_lret (by decide +kernel) rfl (hE _)
      · replace hf := ite_n c7 hf
        refine sd_ldc2 (idx := 23) (v := (-9223372036854775808)) (pc' := 69) (by decide +kernel) (sd_mem (i := 534) (by decide +kernel)) ?_
        refine sd_goto (off := 4) (tgt := 73) (pc' := 72) (by decide +kernel) ?_
        refine sd_ladd (pc' := 74) (by decide +kernel) ?_
        obtain rfl := Option.some.inj hf
        exact sd_lret (by decide +kernel) rfl (hE _)
    · replace hf := ite_n c1_3 hf
      refine sd_lsw (dflt := 74) (ps := #[(2, 27), (3, 50)]) (len := 27) (off := 74) (tgt := 75) (pc' := 28) (by decide +kernel) (by decide) (by show Op.lookupswitch.offset [(2, 27), (3, 50)] 74 (a0 : Int32).toInt = 74; rw [lv_osw c1_2 (by decide), lv_osw c1_3 (by decide)]; rfl) ?_
      refine sd_dload_n (k := 1) (i := 1) (q := 1) (pc' := 76) (by decide +kernel) rfl rfl ?_
      refine sd_d2l (pc' := 77) (by decide +kernel) ?_
      obtain rfl := Option.some.inj hf
      exact sd_lret (by decide +kernel) rfl (hE _)

theorem ml_X11_140 : Cond.methodLink RX11 140 yX3_shown ∈ sd_tb := sd_mem (i := 523) (by decide +kernel)
theorem mv_XN_shown : sd_mS M_XN_shown 2 := ⟨sd_mem (i := 524) (by decide +kernel), ⟨sd_mem (i := 525) (by decide +kernel), sd_mem (i := 120) (by decide +kernel), by decide +kernel, by decide +kernel, by decide +kernel⟩⟩
theorem ml_X11_136 : Cond.methodLink RX11 136 yX11_longRefusal ∈ sd_tb := sd_mem (i := 519) (by decide +kernel)
theorem mv_XT_longRefusal : sd_mS M_XT_longRefusal 1 := ⟨sd_mem (i := 520) (by decide +kernel), ⟨sd_mem (i := 521) (by decide +kernel), sd_mem (i := 108) (by decide +kernel), by decide +kernel, by decide +kernel, by decide +kernel⟩⟩
def M_XT_get : sd_MX := (yX11_get, cX11_get, 3, (some .long), { frames := 4, cells := 0, slots := 0, locals := 111 })
def XT_get (h : sd_H) (a0 : Int32) (a1 : Int32) : Option (sd_H × Int64) :=
  b1 (XT_isRow a0) (fun t2 => (if t2 = 0 then b1 (XT_longRefusal (-2)) (fun t25 => some (h, t25)) else b1 (XR_isMissing h 1 a0) (fun t5 => (if t5 = 0 then b1 (XR_hasCell h 1 a0 a1) (fun t8 => (if t8 = 0 then b2 (XT_found h 2) (fun h15 t16 => b1 (XT_longRefusal t16) (fun t18 => some (h15, t18))) else gd (sd_inB a0 6) (gd (sd_inB ((a0 * 24) + a1) 144) (b1 (XN_shown (h.1 2 (a0 : Int32).toNatClampNeg) (h.2.1 4 (((a0 * 24) + a1) : Int32).toNatClampNeg)) (fun t13 => some (h, t13)))))) else b2 (XT_found h 1) (fun h20 t21 => b1 (XT_longRefusal t21) (fun t23 => some (h20, t23)))))))
set_option maxHeartbeats 4000000 in
set_option maxRecDepth 100000 in
theorem T_XT_get {G : sd_GX} {h : sd_H} {a0 : Int32} {a1 : Int32} {r : (sd_H × Int64)} (hf : XT_get h a0 a1 = some r) : sd_RunF G M_XT_get [.ref (G.1 + 0), .int a0, .int a1] h (some (.long r.2)) r.1 := by
  refine sF_run ⟨rfl, rfl⟩ (by decide +kernel) (Nat.le_of_ble_eq_true rfl) (lo := [(0, .ref (G.1 + 0)), (1, .int a0), (2, .int a1)]) rfl (fun X hE => ?_)
  unfold XT_get at hf
  refine sd_iload_n (k := 1) (i := 1) (q := 1) (pc' := 1) (by decide +kernel) rfl rfl ?_
  obtain ⟨t2, q1, hf⟩ := b1_some hf
  refine sF_callS (idx := 93) (As := [.int a0]) (pc' := 4) 1 (T_XT_isRow (G := G) (h := h)  q1) (by decide +kernel) mv_XT_isRow ml_X11_93 (by decide +kernel) rfl rfl (Nat.le_of_ble_eq_true rfl) rfl ?_
  refine sd_if_ne (off := 9) (tgt := 13) (pc' := 7) (by decide +kernel) (fun c3 => ?_) (fun c3 => ?_)
  · replace hf := ite_n c3 hf
    refine sd_aload_n (k := 0) (i := 0) (q := 0) (pc' := 14) (by decide +kernel) rfl rfl ?_
    refine sF_gr (idx := 12) (ci := 11) (k := 0) (n := 17) (r := 1) (pc' := 17) (by decide +kernel) fl_X11_12 (by decide +kernel) rfl SH_0 (by decide) (by decide +kernel) ?_
    refine sd_iload_n (k := 1) (i := 1) (q := 1) (pc' := 18) (by decide +kernel) rfl rfl ?_
    obtain ⟨t5, q4, hf⟩ := b1_some hf
    refine sF_callV (idx := 113) (b := 1) (As := [.int a0]) (ci := 6) (nn := 4) (pc' := 21) 1 (T_XR_isMissing (G := G) (h := h) SH_1 q4) (by decide +kernel) mv_XR_isMissing ml_X11_113 (by decide +kernel) rfl rfl (Nat.le_of_ble_eq_true rfl) SH_1 rfl (by decide) rfl rfl ?_
    refine sd_if_eq (off := 12) (tgt := 33) (pc' := 24) (by decide +kernel) (fun c6 => ?_) (fun c6 => ?_)
    · replace hf := ite_p c6 hf
      refine sd_aload_n (k := 0) (i := 0) (q := 0) (pc' := 34) (by decide +kernel) rfl rfl ?_
      refine sF_gr (idx := 12) (ci := 11) (k := 0) (n := 17) (r := 1) (pc' := 37) (by decide +kernel) fl_X11_12 (by decide +kernel) rfl SH_0 (by decide) (by decide +kernel) ?_
      refine sd_iload_n (k := 1) (i := 1) (q := 1) (pc' := 38) (by decide +kernel) rfl rfl ?_
      refine sd_iload_n (k := 2) (i := 2) (q := 2) (pc' := 39) (by decide +kernel) rfl rfl ?_
      obtain ⟨t8, q7, hf⟩ := b1_some hf
      refine sF_callV (idx := 122) (b := 1) (As := [.int a0, .int a1]) (ci := 6) (nn := 4) (pc' := 42) 2 (T_XR_hasCell (G := G) (h := h) SH_1 q7) (by decide +kernel) mv_XR_hasCell ml_X11_122 (by decide +kernel) rfl rfl (Nat.le_of_ble_eq_true rfl) SH_1 rfl (by decide) rfl rfl ?_
      refine sd_if_ne (off := 12) (tgt := 54) (pc' := 45) (by decide +kernel) (fun c9 => ?_) (fun c9 => ?_)
      · replace hf := ite_n c9 hf
        refine sd_aload_n (k := 0) (i := 0) (q := 0) (pc' := 55) (by decide +kernel) rfl rfl ?_
        refine sF_gr (idx := 12) (ci := 11) (k := 0) (n := 17) (r := 1) (pc' := 58) (by decide +kernel) fl_X11_12 (by decide +kernel) rfl SH_0 (by decide) (by decide +kernel) ?_
        refine sF_gr (idx := 119) (ci := 6) (k := 0) (n := 4) (r := 2) (pc' := 61) (by decide +kernel) fl_X11_119 (by decide +kernel) rfl SH_1 (by decide) (by decide +kernel) ?_
        refine sd_iload_n (k := 1) (i := 1) (q := 1) (pc' := 62) (by decide +kernel) rfl rfl ?_
        obtain ⟨g10, hf⟩ := gd_some hf
        refine sF_iald (n := 6) (pc' := 63) (by decide +kernel) SH_2 g10 ?_
        refine sd_aload_n (k := 0) (i := 0) (q := 0) (pc' := 64) (by decide +kernel) rfl rfl ?_
        refine sF_gr (idx := 12) (ci := 11) (k := 0) (n := 17) (r := 1) (pc' := 67) (by decide +kernel) fl_X11_12 (by decide +kernel) rfl SH_0 (by decide) (by decide +kernel) ?_
        refine sF_gr (idx := 126) (ci := 6) (k := 2) (n := 4) (r := 4) (pc' := 70) (by decide +kernel) fl_X11_126 (by decide +kernel) rfl SH_1 (by decide) (by decide +kernel) ?_
        refine sd_iload_n (k := 1) (i := 1) (q := 1) (pc' := 71) (by decide +kernel) rfl rfl ?_
        refine sd_bipush (n := 24) (v := 24) (pc' := 73) (by decide +kernel) (by decide) ?_
        refine sd_imul (pc' := 74) (by decide +kernel) ?_
        refine sd_iload_n (k := 2) (i := 2) (q := 2) (pc' := 75) (by decide +kernel) rfl rfl ?_
        refine sd_iadd (pc' := 76) (by decide +kernel) ?_
        obtain ⟨g11, hf⟩ := gd_some hf
        refine sF_dald (n := 144) (pc' := 77) (by decide +kernel) SH_4 g11 ?_
        obtain ⟨t13, q12, hf⟩ := b1_some hf
        refine sF_callS (idx := 140) (As := [.int (h.1 2 (a0 : Int32).toNatClampNeg), .double (h.2.1 4 (((a0 * 24) + a1) : Int32).toNatClampNeg)]) (pc' := 80) 2 (T_XN_shown (G := G) (h := h)  q12) (by decide +kernel) mv_XN_shown ml_X11_140 (by decide +kernel) rfl rfl (Nat.le_of_ble_eq_true rfl) rfl ?_
        obtain rfl := Option.some.inj hf
        exact sd_lret (by decide +kernel) rfl (hE _)
      · replace hf := ite_p c9 hf
        refine sd_aload_n (k := 0) (i := 0) (q := 0) (pc' := 46) (by decide +kernel) rfl rfl ?_
        refine sd_iconst (n := 2) (v := 2) (pc' := 47) (by decide +kernel) (by decide) ?_
        obtain ⟨h15, t16, q14, hf⟩ := b2_some hf
        refine sF_callV (idx := 101) (b := 0) (As := [.int 2]) (ci := 11) (nn := 17) (pc' := 50) 1 (T_XT_found (G := G) (h := h)  q14) (by decide +kernel) mv_XT_found ml_X11_101 (by decide +kernel) rfl rfl (Nat.le_of_ble_eq_true rfl) SH_0 rfl (by decide) rfl rfl ?_
        obtain ⟨t18, q17, hf⟩ := b1_some hf
        refine sF_callS (idx := 136) (As := [.int t16]) (pc' := 53) 1 (T_XT_longRefusal (G := G) (h := h15)  q17) (by decide +kernel) mv_XT_longRefusal ml_X11_136 (by decide +kernel) rfl rfl (Nat.le_of_ble_eq_true rfl) rfl ?_
        obtain rfl := Option.some.inj hf
        exact sd_lret (by decide +kernel) rfl (hE _)
    · replace hf := ite_n c6 hf
      refine sd_aload_n (k := 0) (i := 0) (q := 0) (pc' := 25) (by decide +kernel) rfl rfl ?_
      refine sd_iconst (n := 1) (v := 1) (pc' := 26) (by decide +kernel) (by decide) ?_
      obtain ⟨h20, t21, q19, hf⟩ := b2_some hf
      refine sF_callV (idx := 101) (b := 0) (As := [.int 1]) (ci := 11) (nn := 17) (pc' := 29) 1 (T_XT_found (G := G) (h := h)  q19) (by decide +kernel) mv_XT_found ml_X11_101 (by decide +kernel) rfl rfl (Nat.le_of_ble_eq_true rfl) SH_0 rfl (by decide) rfl rfl ?_
      obtain ⟨t23, q22, hf⟩ := b1_some hf
      refine sF_callS (idx := 136) (As := [.int t21]) (pc' := 32) 1 (T_XT_longRefusal (G := G) (h := h20)  q22) (by decide +kernel) mv_XT_longRefusal ml_X11_136 (by decide +kernel) rfl rfl (Nat.le_of_ble_eq_true rfl) rfl ?_
      obtain rfl := Option.some.inj hf
      exact sd_lret (by decide +kernel) rfl (hE _)
  · replace hf := ite_p c3 hf
    refine sd_bipush (n := -2) (v := (-2)) (pc' := 9) (by decide +kernel) (by decide) ?_
    obtain ⟨t25, q24, hf⟩ := b1_some hf
    refine sF_callS (idx := 136) (As := [.int (-2)]) (pc' := 12) 1 (T_XT_longRefusal (G := G) (h := h)  q24) (by decide +kernel) mv_XT_longRefusal ml_X11_136 (by decide +kernel) rfl rfl (Nat.le_of_ble_eq_true rfl) rfl ?_
    obtain rfl := Option.some.inj hf
    exact sd_lret (by decide +kernel) rfl (hE _)

def M_XR_hasCells : sd_MX := (yX6_hasCells, cX6_hasCells, 4, (some .boolean), { frames := 1, cells := 0, slots := 0, locals := 40 })
def XR_hasCells (h : sd_H) (this : Nat) (a0 : Int32) (a1 : Int32) (a2 : Int32) : Option Int32 :=
  (if a1 < 0 then some 0 else (if a2 < 0 then some 0 else gd (sd_inB a0 6) ((if ((h.1 (this + 2) (a0 : Int32).toNatClampNeg) - a2) < a1 then some 0 else some 1))))
set_option maxHeartbeats 4000000 in
set_option maxRecDepth 100000 in
theorem T_XR_hasCells {G : sd_GX} {h : sd_H} {this : Nat} {a0 : Int32} {a1 : Int32} {a2 : Int32} {r : Int32} (pt : sd_SH this = (6, 4)) (hf : XR_hasCells h this a0 a1 a2 = some r) : sd_RunF G M_XR_hasCells [.ref (G.1 + this), .int a0, .int a1, .int a2] h (some (.int r)) h := by
  refine sF_run ⟨rfl, rfl⟩ (by decide +kernel) (Nat.le_of_ble_eq_true rfl) (lo := [(0, .ref (G.1 + this)), (1, .int a0), (2, .int a1), (3, .int a2)]) rfl (fun X hE => ?_)
  unfold XR_hasCells at hf
  refine sd_iload_n (k := 2) (i := 2) (q := 2) (pc' := 1) (by decide +kernel) rfl rfl ?_
  refine sd_if_lt (off := 23) (tgt := 24) (pc' := 4) (by decide +kernel) (fun c1 => ?_) (fun c1 => ?_)
  · replace hf := ite_p c1 hf
    refine sd_iconst (n := 0) (v := 0) (pc' := 25) (by decide +kernel) (by decide) ?_
    obtain rfl := Option.some.inj hf
    exact sd_zret (by decide +kernel) rfl (by decide) (hE _)
  · replace hf := ite_n c1 hf
    refine sd_iload_n (k := 3) (i := 3) (q := 3) (pc' := 5) (by decide +kernel) rfl rfl ?_
    refine sd_if_lt (off := 19) (tgt := 24) (pc' := 8) (by decide +kernel) (fun c2 => ?_) (fun c2 => ?_)
    · replace hf := ite_p c2 hf
      refine sd_iconst (n := 0) (v := 0) (pc' := 25) (by decide +kernel) (by decide) ?_
      obtain rfl := Option.some.inj hf
      exact sd_zret (by decide +kernel) rfl (by decide) (hE _)
    · replace hf := ite_n c2 hf
      refine sd_iload_n (k := 2) (i := 2) (q := 2) (pc' := 9) (by decide +kernel) rfl rfl ?_
      refine sd_aload_n (k := 0) (i := 0) (q := 0) (pc' := 10) (by decide +kernel) rfl rfl ?_
      refine sF_gr (idx := 15) (ci := 6) (k := 1) (n := 4) (r := (this + 2)) (pc' := 13) (by decide +kernel) fl_X6_15 (by decide +kernel) rfl pt (by decide) (rt_6_1 pt) ?_
      refine sd_iload_n (k := 1) (i := 1) (q := 1) (pc' := 14) (by decide +kernel) rfl rfl ?_
      obtain ⟨g3, hf⟩ := gd_some hf
      refine sF_iald (n := 6) (pc' := 15) (by decide +kernel) (sh_6_1 pt) g3 ?_
      refine sd_iload_n (k := 3) (i := 3) (q := 3) (pc' := 16) (by decide +kernel) rfl rfl ?_
      refine sd_isub (pc' := 17) (by decide +kernel) ?_
      refine sd_icmp_gt (off := 7) (tgt := 24) (pc' := 20) (by decide +kernel) (fun c4 => ?_) (fun c4 => ?_)
      · replace hf := ite_p c4 hf
        refine sd_iconst (n := 0) (v := 0) (pc' := 25) (by decide +kernel) (by decide) ?_
        obtain rfl := Option.some.inj hf
        exact sd_zret (by decide +kernel) rfl (by decide) (hE _)
      · replace hf := ite_n c4 hf
        refine sd_iconst (n := 1) (v := 1) (pc' := 21) (by decide +kernel) (by decide) ?_
        refine sd_goto (off := 4) (tgt := 25) (pc' := 24) (by decide +kernel) ?_
        obtain rfl := Option.some.inj hf
        exact sd_zret (by decide +kernel) rfl (by decide) (hE _)

theorem ml_X11_144 : Cond.methodLink RX11 144 yX6_hasCells ∈ sd_tb := sd_mem (i := 539) (by decide +kernel)
theorem mv_XR_hasCells : sd_mV M_XR_hasCells 3 := ⟨sd_mem (i := 540) (by decide +kernel), sd_mem (i := 541) (by decide +kernel), ⟨sd_mem (i := 542) (by decide +kernel), sd_mem (i := 109) (by decide +kernel), by decide +kernel, by decide +kernel, by decide +kernel⟩⟩
theorem ac_X11_147 : sd_ac RX11 147 := ⟨sd_mem (i := 543) (by decide +kernel), sd_mem (i := 545) (by decide +kernel), sd_mem (i := 544) (by decide +kernel), sd_mem (i := 121) (by decide +kernel)⟩
def M_XT_copy : sd_MX := (yX11_copy, cX11_copy, 6, (some .int), { frames := 3, cells := 0, slots := 0, locals := 82 })
def XT_copy_B39 (h : sd_H) : Option (sd_H × Int32) :=
  b2 (XT_found h 1) (fun h11 t12 => some (h11, t12))
set_option maxHeartbeats 4000000 in
set_option maxRecDepth 100000 in
theorem J_XT_copy_B39 {G : sd_GX} {X : sd_CX} (hE : ∀ g : sd_H, sd_end G X M_XT_copy (sd_F g)) {h : sd_H} {r : (sd_H × Int32)} (hf : XT_copy_B39 h = some r) : sd_J G X (sd_QR G X M_XT_copy (some (.int r.2), sd_F r.1)) M_XT_copy 39 [(0, .ref (G.1 + 0))] [] (sd_F h) := by
  unfold XT_copy_B39 at hf
  refine sd_aload_n (k := 0) (i := 0) (q := 0) (pc' := 40) (by decide +kernel) rfl rfl ?_
  refine sd_iconst (n := 1) (v := 1) (pc' := 41) (by decide +kernel) (by decide) ?_
  obtain ⟨h11, t12, q10, hf⟩ := b2_some hf
  refine sF_callV (idx := 101) (b := 0) (As := [.int 1]) (ci := 11) (nn := 17) (pc' := 44) 1 (T_XT_found (G := G) (h := h)  q10) (by decide +kernel) mv_XT_found ml_X11_101 (by decide +kernel) rfl rfl (Nat.le_of_ble_eq_true rfl) SH_0 rfl (by decide) rfl rfl ?_
  obtain rfl := Option.some.inj hf
  exact sd_iret (by decide +kernel) rfl (hE _)
def XT_copy_B101 (h : sd_H) : Option (sd_H × Int32) :=
  b2 (XT_found h 2) (fun h23 t24 => some (h23, t24))
set_option maxHeartbeats 4000000 in
set_option maxRecDepth 100000 in
theorem J_XT_copy_B101 {G : sd_GX} {X : sd_CX} (hE : ∀ g : sd_H, sd_end G X M_XT_copy (sd_F g)) {h : sd_H} {r : (sd_H × Int32)} (hf : XT_copy_B101 h = some r) : sd_J G X (sd_QR G X M_XT_copy (some (.int r.2), sd_F r.1)) M_XT_copy 101 [(0, .ref (G.1 + 0))] [] (sd_F h) := by
  unfold XT_copy_B101 at hf
  refine sd_aload_n (k := 0) (i := 0) (q := 0) (pc' := 102) (by decide +kernel) rfl rfl ?_
  refine sd_iconst (n := 2) (v := 2) (pc' := 103) (by decide +kernel) (by decide) ?_
  obtain ⟨h23, t24, q22, hf⟩ := b2_some hf
  refine sF_callV (idx := 101) (b := 0) (As := [.int 2]) (ci := 11) (nn := 17) (pc' := 106) 1 (T_XT_found (G := G) (h := h)  q22) (by decide +kernel) mv_XT_found ml_X11_101 (by decide +kernel) rfl rfl (Nat.le_of_ble_eq_true rfl) SH_0 rfl (by decide) rfl rfl ?_
  obtain rfl := Option.some.inj hf
  exact sd_iret (by decide +kernel) rfl (hE _)
def XT_copy (h : sd_H) (a0 : Int32) (a1 : Int32) (a2 : Int32) (a3 : Int32) (a4 : Int32) : Option (sd_H × Int32) :=
  b1 (XT_isRow a0) (fun t2 => (if t2 = 0 then some (h, (-2)) else b1 (XT_isRow a2) (fun t5 => (if t5 = 0 then some (h, (-2)) else b1 (XR_isMissing h 1 a0) (fun t8 => (if t8 = 0 then b1 (XR_isMissing h 1 a2) (fun t14 => (if t14 = 0 then gd (sd_inB a0 6) (gd (sd_inB a2 6) ((if (h.1 2 (a0 : Int32).toNatClampNeg) = (h.1 2 (a2 : Int32).toNatClampNeg) then b1 (XR_hasCells h 1 a0 a1 a4) (fun t20 => (if t20 = 0 then XT_copy_B101 h else b1 (XR_hasCells h 1 a2 a3 a4) (fun t26 => (if t26 = 0 then XT_copy_B101 h else gd (acOK ((a0 * 24) + a1) ((a2 * 24) + a3) a4 144 144) (hb (cpD h 4 ((a0 * 24) + a1) 4 ((a2 * 24) + a3) a4) (fun h29 => hb (wI h29 56 5 1) (fun h31 => some (h31, 1)))))))) else b2 (XT_found h 4) (fun h34 t35 => some (h34, t35))))) else XT_copy_B39 h)) else XT_copy_B39 h))))))
set_option maxHeartbeats 4000000 in
set_option maxRecDepth 100000 in
theorem T_XT_copy {G : sd_GX} {h : sd_H} {a0 : Int32} {a1 : Int32} {a2 : Int32} {a3 : Int32} {a4 : Int32} {r : (sd_H × Int32)} (hf : XT_copy h a0 a1 a2 a3 a4 = some r) : sd_RunF G M_XT_copy [.ref (G.1 + 0), .int a0, .int a1, .int a2, .int a3, .int a4] h (some (.int r.2)) r.1 := by
  refine sF_run ⟨rfl, rfl⟩ (by decide +kernel) (Nat.le_of_ble_eq_true rfl) (lo := [(0, .ref (G.1 + 0)), (1, .int a0), (2, .int a1), (3, .int a2), (4, .int a3), (5, .int a4)]) rfl (fun X hE => ?_)
  unfold XT_copy at hf
  refine sd_iload_n (k := 1) (i := 1) (q := 1) (pc' := 1) (by decide +kernel) rfl rfl ?_
  obtain ⟨t2, q1, hf⟩ := b1_some hf
  refine sF_callS (idx := 93) (As := [.int a0]) (pc' := 4) 1 (T_XT_isRow (G := G) (h := h)  q1) (by decide +kernel) mv_XT_isRow ml_X11_93 (by decide +kernel) rfl rfl (Nat.le_of_ble_eq_true rfl) rfl ?_
  refine sd_if_eq (off := 10) (tgt := 14) (pc' := 7) (by decide +kernel) (fun c3 => ?_) (fun c3 => ?_)
  · replace hf := ite_p c3 hf
    refine sd_bipush (n := -2) (v := (-2)) (pc' := 16) (by decide +kernel) (by decide) ?_
    obtain rfl := Option.some.inj hf
    exact sd_iret (by decide +kernel) rfl (hE _)
  · replace hf := ite_n c3 hf
    refine sd_iload_n (k := 3) (i := 3) (q := 3) (pc' := 8) (by decide +kernel) rfl rfl ?_
    obtain ⟨t5, q4, hf⟩ := b1_some hf
    refine sF_callS (idx := 93) (As := [.int a2]) (pc' := 11) 1 (T_XT_isRow (G := G) (h := h)  q4) (by decide +kernel) mv_XT_isRow ml_X11_93 (by decide +kernel) rfl rfl (Nat.le_of_ble_eq_true rfl) rfl ?_
    refine sd_if_ne (off := 6) (tgt := 17) (pc' := 14) (by decide +kernel) (fun c6 => ?_) (fun c6 => ?_)
    · replace hf := ite_n c6 hf
      refine sd_aload_n (k := 0) (i := 0) (q := 0) (pc' := 18) (by decide +kernel) rfl rfl ?_
      refine sF_gr (idx := 12) (ci := 11) (k := 0) (n := 17) (r := 1) (pc' := 21) (by decide +kernel) fl_X11_12 (by decide +kernel) rfl SH_0 (by decide) (by decide +kernel) ?_
      refine sd_iload_n (k := 1) (i := 1) (q := 1) (pc' := 22) (by decide +kernel) rfl rfl ?_
      obtain ⟨t8, q7, hf⟩ := b1_some hf
      refine sF_callV (idx := 113) (b := 1) (As := [.int a0]) (ci := 6) (nn := 4) (pc' := 25) 1 (T_XR_isMissing (G := G) (h := h) SH_1 q7) (by decide +kernel) mv_XR_isMissing ml_X11_113 (by decide +kernel) rfl rfl (Nat.le_of_ble_eq_true rfl) SH_1 rfl (by decide) rfl rfl ?_
      refine sd_if_ne (off := 14) (tgt := 39) (pc' := 28) (by decide +kernel) (fun c9 => ?_) (fun c9 => ?_)
      · replace hf := ite_n c9 hf
        refine sd_J.sub (lo' := [(0, .ref (G.1 + 0))]) [0] rfl ?_
        exact J_XT_copy_B39 hE hf
      · replace hf := ite_p c9 hf
        refine sd_aload_n (k := 0) (i := 0) (q := 0) (pc' := 29) (by decide +kernel) rfl rfl ?_
        refine sF_gr (idx := 12) (ci := 11) (k := 0) (n := 17) (r := 1) (pc' := 32) (by decide +kernel) fl_X11_12 (by decide +kernel) rfl SH_0 (by decide) (by decide +kernel) ?_
        refine sd_iload_n (k := 3) (i := 3) (q := 3) (pc' := 33) (by decide +kernel) rfl rfl ?_
        obtain ⟨t14, q13, hf⟩ := b1_some hf
        refine sF_callV (idx := 113) (b := 1) (As := [.int a2]) (ci := 6) (nn := 4) (pc' := 36) 1 (T_XR_isMissing (G := G) (h := h) SH_1 q13) (by decide +kernel) mv_XR_isMissing ml_X11_113 (by decide +kernel) rfl rfl (Nat.le_of_ble_eq_true rfl) SH_1 rfl (by decide) rfl rfl ?_
        refine sd_if_eq (off := 9) (tgt := 45) (pc' := 39) (by decide +kernel) (fun c15 => ?_) (fun c15 => ?_)
        · replace hf := ite_p c15 hf
          refine sd_aload_n (k := 0) (i := 0) (q := 0) (pc' := 46) (by decide +kernel) rfl rfl ?_
          refine sF_gr (idx := 12) (ci := 11) (k := 0) (n := 17) (r := 1) (pc' := 49) (by decide +kernel) fl_X11_12 (by decide +kernel) rfl SH_0 (by decide) (by decide +kernel) ?_
          refine sF_gr (idx := 119) (ci := 6) (k := 0) (n := 4) (r := 2) (pc' := 52) (by decide +kernel) fl_X11_119 (by decide +kernel) rfl SH_1 (by decide) (by decide +kernel) ?_
          refine sd_iload_n (k := 1) (i := 1) (q := 1) (pc' := 53) (by decide +kernel) rfl rfl ?_
          obtain ⟨g16, hf⟩ := gd_some hf
          refine sF_iald (n := 6) (pc' := 54) (by decide +kernel) SH_2 g16 ?_
          refine sd_aload_n (k := 0) (i := 0) (q := 0) (pc' := 55) (by decide +kernel) rfl rfl ?_
          refine sF_gr (idx := 12) (ci := 11) (k := 0) (n := 17) (r := 1) (pc' := 58) (by decide +kernel) fl_X11_12 (by decide +kernel) rfl SH_0 (by decide) (by decide +kernel) ?_
          refine sF_gr (idx := 119) (ci := 6) (k := 0) (n := 4) (r := 2) (pc' := 61) (by decide +kernel) fl_X11_119 (by decide +kernel) rfl SH_1 (by decide) (by decide +kernel) ?_
          refine sd_iload_n (k := 3) (i := 3) (q := 3) (pc' := 62) (by decide +kernel) rfl rfl ?_
          obtain ⟨g17, hf⟩ := gd_some hf
          refine sF_iald (n := 6) (pc' := 63) (by decide +kernel) SH_2 g17 ?_
          refine sd_icmp_eq (off := 9) (tgt := 72) (pc' := 66) (by decide +kernel) (fun c18 => ?_) (fun c18 => ?_)
          · replace hf := ite_p c18 hf
            refine sd_aload_n (k := 0) (i := 0) (q := 0) (pc' := 73) (by decide +kernel) rfl rfl ?_
            refine sF_gr (idx := 12) (ci := 11) (k := 0) (n := 17) (r := 1) (pc' := 76) (by decide +kernel) fl_X11_12 (by decide +kernel) rfl SH_0 (by decide) (by decide +kernel) ?_
            refine sd_iload_n (k := 1) (i := 1) (q := 1) (pc' := 77) (by decide +kernel) rfl rfl ?_
            refine sd_iload_n (k := 2) (i := 2) (q := 2) (pc' := 78) (by decide +kernel) rfl rfl ?_
            refine sd_iload (i := 5) (q := 5) (pc' := 80) (by decide +kernel) rfl ?_
            obtain ⟨t20, q19, hf⟩ := b1_some hf
            refine sF_callV (idx := 144) (b := 1) (As := [.int a0, .int a1, .int a4]) (ci := 6) (nn := 4) (pc' := 83) 3 (T_XR_hasCells (G := G) (h := h) SH_1 q19) (by decide +kernel) mv_XR_hasCells ml_X11_144 (by decide +kernel) rfl rfl (Nat.le_of_ble_eq_true rfl) SH_1 rfl (by decide) rfl rfl ?_
            refine sd_if_eq (off := 18) (tgt := 101) (pc' := 86) (by decide +kernel) (fun c21 => ?_) (fun c21 => ?_)
            · replace hf := ite_p c21 hf
              refine sd_J.sub (lo' := [(0, .ref (G.1 + 0))]) [0] rfl ?_
              exact J_XT_copy_B101 hE hf
            · replace hf := ite_n c21 hf
              refine sd_aload_n (k := 0) (i := 0) (q := 0) (pc' := 87) (by decide +kernel) rfl rfl ?_
              refine sF_gr (idx := 12) (ci := 11) (k := 0) (n := 17) (r := 1) (pc' := 90) (by decide +kernel) fl_X11_12 (by decide +kernel) rfl SH_0 (by decide) (by decide +kernel) ?_
              refine sd_iload_n (k := 3) (i := 3) (q := 3) (pc' := 91) (by decide +kernel) rfl rfl ?_
              refine sd_iload (i := 4) (q := 4) (pc' := 93) (by decide +kernel) rfl ?_
              refine sd_iload (i := 5) (q := 5) (pc' := 95) (by decide +kernel) rfl ?_
              obtain ⟨t26, q25, hf⟩ := b1_some hf
              refine sF_callV (idx := 144) (b := 1) (As := [.int a2, .int a3, .int a4]) (ci := 6) (nn := 4) (pc' := 98) 3 (T_XR_hasCells (G := G) (h := h) SH_1 q25) (by decide +kernel) mv_XR_hasCells ml_X11_144 (by decide +kernel) rfl rfl (Nat.le_of_ble_eq_true rfl) SH_1 rfl (by decide) rfl rfl ?_
              refine sd_if_ne (off := 9) (tgt := 107) (pc' := 101) (by decide +kernel) (fun c27 => ?_) (fun c27 => ?_)
              · replace hf := ite_n c27 hf
                refine sd_aload_n (k := 0) (i := 0) (q := 0) (pc' := 108) (by decide +kernel) rfl rfl ?_
                refine sF_gr (idx := 12) (ci := 11) (k := 0) (n := 17) (r := 1) (pc' := 111) (by decide +kernel) fl_X11_12 (by decide +kernel) rfl SH_0 (by decide) (by decide +kernel) ?_
                refine sF_gr (idx := 126) (ci := 6) (k := 2) (n := 4) (r := 4) (pc' := 114) (by decide +kernel) fl_X11_126 (by decide +kernel) rfl SH_1 (by decide) (by decide +kernel) ?_
                refine sd_iload_n (k := 1) (i := 1) (q := 1) (pc' := 115) (by decide +kernel) rfl rfl ?_
                refine sd_bipush (n := 24) (v := 24) (pc' := 117) (by decide +kernel) (by decide) ?_
                refine sd_imul (pc' := 118) (by decide +kernel) ?_
                refine sd_iload_n (k := 2) (i := 2) (q := 2) (pc' := 119) (by decide +kernel) rfl rfl ?_
                refine sd_iadd (pc' := 120) (by decide +kernel) ?_
                refine sd_aload_n (k := 0) (i := 0) (q := 0) (pc' := 121) (by decide +kernel) rfl rfl ?_
                refine sF_gr (idx := 12) (ci := 11) (k := 0) (n := 17) (r := 1) (pc' := 124) (by decide +kernel) fl_X11_12 (by decide +kernel) rfl SH_0 (by decide) (by decide +kernel) ?_
                refine sF_gr (idx := 126) (ci := 6) (k := 2) (n := 4) (r := 4) (pc' := 127) (by decide +kernel) fl_X11_126 (by decide +kernel) rfl SH_1 (by decide) (by decide +kernel) ?_
                refine sd_iload_n (k := 3) (i := 3) (q := 3) (pc' := 128) (by decide +kernel) rfl rfl ?_
                refine sd_bipush (n := 24) (v := 24) (pc' := 130) (by decide +kernel) (by decide) ?_
                refine sd_imul (pc' := 131) (by decide +kernel) ?_
                refine sd_iload (i := 4) (q := 4) (pc' := 133) (by decide +kernel) rfl ?_
                refine sd_iadd (pc' := 134) (by decide +kernel) ?_
                refine sd_iload (i := 5) (q := 5) (pc' := 136) (by decide +kernel) rfl ?_
                obtain ⟨g28, hf⟩ := gd_some hf
                obtain ⟨h29, e30, hf⟩ := hb_some hf
                refine sF_copyd (idx := 147) (n0 := 144) (n1 := 144) (pc' := 139) (by decide +kernel) rfl ac_X11_147 SH_4 SH_4 g28 (by decide) (Nat.le_of_ble_eq_true rfl) ?_
                rw [← e30]; clear e30
                refine sd_aload_n (k := 0) (i := 0) (q := 0) (pc' := 140) (by decide +kernel) rfl rfl ?_
                refine sF_gr (idx := 41) (ci := 11) (k := 4) (n := 17) (r := 56) (pc' := 143) (by decide +kernel) fl_X11_41 (by decide +kernel) rfl SH_0 (by decide) (by decide +kernel) ?_
                refine sd_iconst (n := 1) (v := 1) (pc' := 144) (by decide +kernel) (by decide) ?_
                obtain ⟨h31, e32, hf⟩ := hb_some hf
                refine sF_pz (idx := 109) (ci := 10) (k := 5) (n := 6) (pc' := 147) (by decide +kernel) fl_X11_109 (by decide +kernel) rfl rfl rfl SH_56 (by decide) ?_
                rw [← e32]; clear e32
                refine sd_iconst (n := 1) (v := 1) (pc' := 148) (by decide +kernel) (by decide) ?_
                obtain rfl := Option.some.inj hf
                exact sd_iret (by decide +kernel) rfl (hE _)
              · replace hf := ite_p c27 hf
                refine sd_J.sub (lo' := [(0, .ref (G.1 + 0))]) [0] rfl ?_
                exact J_XT_copy_B101 hE hf
          · replace hf := ite_n c18 hf
            refine sd_aload_n (k := 0) (i := 0) (q := 0) (pc' := 67) (by decide +kernel) rfl rfl ?_
            refine sd_iconst (n := 4) (v := 4) (pc' := 68) (by decide +kernel) (by decide) ?_
            obtain ⟨h34, t35, q33, hf⟩ := b2_some hf
            refine sF_callV (idx := 101) (b := 0) (As := [.int 4]) (ci := 11) (nn := 17) (pc' := 71) 1 (T_XT_found (G := G) (h := h)  q33) (by decide +kernel) mv_XT_found ml_X11_101 (by decide +kernel) rfl rfl (Nat.le_of_ble_eq_true rfl) SH_0 rfl (by decide) rfl rfl ?_
            obtain rfl := Option.some.inj hf
            exact sd_iret (by decide +kernel) rfl (hE _)
        · replace hf := ite_n c15 hf
          refine sd_J.sub (lo' := [(0, .ref (G.1 + 0))]) [0] rfl ?_
          exact J_XT_copy_B39 hE hf
    · replace hf := ite_p c6 hf
      refine sd_bipush (n := -2) (v := (-2)) (pc' := 16) (by decide +kernel) (by decide) ?_
      obtain rfl := Option.some.inj hf
      exact sd_iret (by decide +kernel) rfl (hE _)

theorem fl_X0_13 : sd_fl RX0 13 0 0 := ⟨sd_mem (i := 278) (by decide +kernel), by decide, by decide⟩
theorem fl_X0_20 : sd_fl RX0 20 0 1 := ⟨sd_mem (i := 279) (by decide +kernel), by decide, by decide⟩
theorem fl_X0_16 : sd_fl RX0 16 0 2 := ⟨sd_mem (i := 280) (by decide +kernel), by decide, by decide⟩
def M_XH_latest : sd_MX := (yX0_latest, cX0_latest, 1, (some (.array .int)), { frames := 1, cells := 0, slots := 0, locals := 40 })
def XH_latest (h : sd_H) : Option Nat :=
  gd (sd_inB (((((h.1 33 1) + (h.1 33 2)) + 20) - 1) - ((((h.1 33 1) + (h.1 33 2)) + 20) - 1) / 20 * 20) 20) (some (35 + 1 * ((((((h.1 33 1) + (h.1 33 2)) + 20) - 1) - ((((h.1 33 1) + (h.1 33 2)) + 20) - 1) / 20 * 20) : Int32).toNatClampNeg))
set_option maxHeartbeats 4000000 in
set_option maxRecDepth 100000 in
theorem T_XH_latest {G : sd_GX} {h : sd_H} {r : Nat} (hf : XH_latest h = some r) : sd_RunF G M_XH_latest [.ref (G.1 + 33)] h (some (.ref (G.1 + r))) h := by
  refine sF_run ⟨rfl, rfl⟩ (by decide +kernel) (Nat.le_of_ble_eq_true rfl) (lo := [(0, .ref (G.1 + 33))]) rfl (fun X hE => ?_)
  unfold XH_latest at hf
  refine sd_aload_n (k := 0) (i := 0) (q := 0) (pc' := 1) (by decide +kernel) rfl rfl ?_
  refine sF_gr (idx := 13) (ci := 0) (k := 0) (n := 3) (r := 34) (pc' := 4) (by decide +kernel) fl_X0_13 (by decide +kernel) rfl SH_33 (by decide) (by decide +kernel) ?_
  refine sd_aload_n (k := 0) (i := 0) (q := 0) (pc' := 5) (by decide +kernel) rfl rfl ?_
  refine sF_gi (idx := 20) (ci := 0) (k := 1) (n := 3) (pc' := 8) (by decide +kernel) fl_X0_20 (by decide +kernel) rfl SH_33 ?_
  refine sd_aload_n (k := 0) (i := 0) (q := 0) (pc' := 9) (by decide +kernel) rfl rfl ?_
  refine sF_gi (idx := 16) (ci := 0) (k := 2) (n := 3) (pc' := 12) (by decide +kernel) fl_X0_16 (by decide +kernel) rfl SH_33 ?_
  refine sd_iadd (pc' := 13) (by decide +kernel) ?_
  refine sd_bipush (n := 20) (v := 20) (pc' := 15) (by decide +kernel) (by decide) ?_
  refine sd_iadd (pc' := 16) (by decide +kernel) ?_
  refine sd_iconst (n := 1) (v := 1) (pc' := 17) (by decide +kernel) (by decide) ?_
  refine sd_isub (pc' := 18) (by decide +kernel) ?_
  refine sd_bipush (n := 20) (v := 20) (pc' := 20) (by decide +kernel) (by decide) ?_
  refine sd_irem (pc' := 21) (by decide +kernel) (by decide) ?_
  obtain ⟨g1, hf⟩ := gd_some hf
  refine sF_aald2 (n := 20) (r := (35 + 1 * ((((((h.1 33 1) + (h.1 33 2)) + 20) - 1) - ((((h.1 33 1) + (h.1 33 2)) + 20) - 1) / 20 * 20) : Int32).toNatClampNeg)) (pc' := 22) (by decide +kernel) SH_34 g1 (rta_34 (inB_lt g1)) ?_
  obtain rfl := Option.some.inj hf
  exact sd_aret (by decide +kernel) rfl (Or.inr ⟨_, rfl⟩) (hE _)

theorem ml_X0_23 : Cond.methodLink RX0 23 yX0_latest ∈ sd_tb := sd_mem (i := 554) (by decide +kernel)
theorem mv_XH_latest : sd_mV M_XH_latest 0 := ⟨sd_mem (i := 556) (by decide +kernel), sd_mem (i := 1) (by decide +kernel), ⟨sd_mem (i := 557) (by decide +kernel), sd_mem (i := 113) (by decide +kernel), by decide +kernel, by decide +kernel, by decide +kernel⟩⟩
def M_XH_note : sd_MX := (yX0_note, cX0_note, 5, none, { frames := 2, cells := 0, slots := 0, locals := 60 })
def XH_note_B35 (h : sd_H) (l1 : Int32) (l2 : Int32) (l3 : Int32) : Option sd_H :=
  b1 (XH_latest h) (fun t5 => gd (decide (sd_SH t5 = (100, 6))) (hb (wI h t5 (0 : Int32).toNatClampNeg l1) (fun h7 => hb (wI h7 t5 (1 : Int32).toNatClampNeg l2) (fun h9 => hb (wI h9 t5 (2 : Int32).toNatClampNeg l3) (fun h11 => some h11)))))
set_option maxHeartbeats 4000000 in
set_option maxRecDepth 100000 in
theorem J_XH_note_B35 {G : sd_GX} {X : sd_CX} (hE : ∀ g : sd_H, sd_end G X M_XH_note (sd_F g)) {h : sd_H} {r : sd_H} {l1 : Int32} {l2 : Int32} {l3 : Int32} (hf : XH_note_B35 h l1 l2 l3 = some r) : sd_J G X (sd_QR G X M_XH_note (none, sd_F r)) M_XH_note 35 [(0, .ref (G.1 + 33)), (1, .int l1), (2, .int l2), (3, .int l3)] [] (sd_F h) := by
  unfold XH_note_B35 at hf
  refine sd_aload_n (k := 0) (i := 0) (q := 0) (pc' := 36) (by decide +kernel) rfl rfl ?_
  obtain ⟨t5, q4, hf⟩ := b1_some hf
  refine sF_callV (idx := 23) (b := 33) (As := []) (ci := 0) (nn := 3) (pc' := 39) 0 (T_XH_latest (G := G) (h := h)  q4) (by decide +kernel) mv_XH_latest ml_X0_23 (by decide +kernel) rfl rfl (Nat.le_of_ble_eq_true rfl) SH_33 rfl (by decide) rfl rfl ?_
  obtain ⟨g6, hf⟩ := gd_some hf
  have g6 := of_decide_eq_true g6
  refine sd_astore (i := 4) (pc' := 41) (lo' := [(4, .ref (G.1 + t5)), (0, .ref (G.1 + 33)), (1, .int l1), (2, .int l2), (3, .int l3)]) (by decide +kernel) (by decide) rfl ?_
  refine sd_aload (i := 4) (q := 0) (pc' := 43) (by decide +kernel) rfl ?_
  refine sd_iconst (n := 0) (v := 0) (pc' := 44) (by decide +kernel) (by decide) ?_
  refine sd_iload_n (k := 1) (i := 1) (q := 2) (pc' := 45) (by decide +kernel) rfl rfl ?_
  obtain ⟨h7, e8, hf⟩ := hb_some hf
  refine sF_iast (n := 6) (pc' := 46) (by decide +kernel) g6 (by decide) ?_
  rw [← e8]; clear e8
  refine sd_aload (i := 4) (q := 0) (pc' := 48) (by decide +kernel) rfl ?_
  refine sd_iconst (n := 1) (v := 1) (pc' := 49) (by decide +kernel) (by decide) ?_
  refine sd_iload_n (k := 2) (i := 2) (q := 3) (pc' := 50) (by decide +kernel) rfl rfl ?_
  obtain ⟨h9, e10, hf⟩ := hb_some hf
  refine sF_iast (n := 6) (pc' := 51) (by decide +kernel) g6 (by decide) ?_
  rw [← e10]; clear e10
  refine sd_aload (i := 4) (q := 0) (pc' := 53) (by decide +kernel) rfl ?_
  refine sd_iconst (n := 2) (v := 2) (pc' := 54) (by decide +kernel) (by decide) ?_
  refine sd_iload_n (k := 3) (i := 3) (q := 4) (pc' := 55) (by decide +kernel) rfl rfl ?_
  obtain ⟨h11, e12, hf⟩ := hb_some hf
  refine sF_iast (n := 6) (pc' := 56) (by decide +kernel) g6 (by decide) ?_
  rw [← e12]; clear e12
  obtain rfl := Option.some.inj hf
  exact sd_vret (by decide +kernel) rfl (hE _)
def XH_note (h : sd_H) (a0 : Int32) (a1 : Int32) (a2 : Int32) : Option sd_H :=
  (if (h.1 33 2) = 20 then hb (wI h 33 1 (((h.1 33 1) + 1) - ((h.1 33 1) + 1) / 20 * 20)) (fun h13 => XH_note_B35 h13 a0 a1 a2) else hb (wI h 33 2 ((h.1 33 2) + 1)) (fun h2 => XH_note_B35 h2 a0 a1 a2))
set_option maxHeartbeats 4000000 in
set_option maxRecDepth 100000 in
theorem T_XH_note {G : sd_GX} {h : sd_H} {a0 : Int32} {a1 : Int32} {a2 : Int32} {r : sd_H} (hf : XH_note h a0 a1 a2 = some r) : sd_RunF G M_XH_note [.ref (G.1 + 33), .int a0, .int a1, .int a2] h none r := by
  refine sF_run ⟨rfl, rfl⟩ (by decide +kernel) (Nat.le_of_ble_eq_true rfl) (lo := [(0, .ref (G.1 + 33)), (1, .int a0), (2, .int a1), (3, .int a2)]) rfl (fun X hE => ?_)
  unfold XH_note at hf
  refine sd_aload_n (k := 0) (i := 0) (q := 0) (pc' := 1) (by decide +kernel) rfl rfl ?_
  refine sF_gi (idx := 16) (ci := 0) (k := 2) (n := 3) (pc' := 4) (by decide +kernel) fl_X0_16 (by decide +kernel) rfl SH_33 ?_
  refine sd_bipush (n := 20) (v := 20) (pc' := 6) (by decide +kernel) (by decide) ?_
  refine sd_icmp_ne (off := 19) (tgt := 25) (pc' := 9) (by decide +kernel) (fun c1 => ?_) (fun c1 => ?_)
  · replace hf := ite_n c1 hf
    refine sd_aload_n (k := 0) (i := 0) (q := 0) (pc' := 26) (by decide +kernel) rfl rfl ?_
    refine sd_dup (pc' := 27) (by decide +kernel) rfl ?_
    refine sF_gi (idx := 16) (ci := 0) (k := 2) (n := 3) (pc' := 30) (by decide +kernel) fl_X0_16 (by decide +kernel) rfl SH_33 ?_
    refine sd_iconst (n := 1) (v := 1) (pc' := 31) (by decide +kernel) (by decide) ?_
    refine sd_iadd (pc' := 32) (by decide +kernel) ?_
    obtain ⟨h2, e3, hf⟩ := hb_some hf
    refine sF_pi (idx := 16) (ci := 0) (k := 2) (n := 3) (pc' := 35) (by decide +kernel) fl_X0_16 (by decide +kernel) rfl rfl rfl SH_33 ?_
    rw [← e3]; clear e3
    refine sd_J.sub (lo' := [(0, .ref (G.1 + 33)), (1, .int a0), (2, .int a1), (3, .int a2)]) [0, 1, 2, 3] rfl ?_
    exact J_XH_note_B35 hE hf
  · replace hf := ite_p c1 hf
    refine sd_aload_n (k := 0) (i := 0) (q := 0) (pc' := 10) (by decide +kernel) rfl rfl ?_
    refine sd_aload_n (k := 0) (i := 0) (q := 0) (pc' := 11) (by decide +kernel) rfl rfl ?_
    refine sF_gi (idx := 20) (ci := 0) (k := 1) (n := 3) (pc' := 14) (by decide +kernel) fl_X0_20 (by decide +kernel) rfl SH_33 ?_
    refine sd_iconst (n := 1) (v := 1) (pc' := 15) (by decide +kernel) (by decide) ?_
    refine sd_iadd (pc' := 16) (by decide +kernel) ?_
    refine sd_bipush (n := 20) (v := 20) (pc' := 18) (by decide +kernel) (by decide) ?_
    refine sd_irem (pc' := 19) (by decide +kernel) (by decide) ?_
    obtain ⟨h13, e14, hf⟩ := hb_some hf
    refine sF_pi (idx := 20) (ci := 0) (k := 1) (n := 3) (pc' := 22) (by decide +kernel) fl_X0_20 (by decide +kernel) rfl rfl rfl SH_33 ?_
    rw [← e14]; clear e14
    refine sd_goto (off := 13) (tgt := 35) (pc' := 25) (by decide +kernel) ?_
    refine sd_J.sub (lo' := [(0, .ref (G.1 + 33)), (1, .int a0), (2, .int a1), (3, .int a2)]) [0, 1, 2, 3] rfl ?_
    exact J_XH_note_B35 hE hf

def M_XH_keep : sd_MX := (yX0_keep, cX0_keep, 5, none, { frames := 2, cells := 0, slots := 0, locals := 60 })
def XH_keep (h : sd_H) (a0 : Int32) (a1 : Int32) (a2 : Int32) : Option sd_H :=
  b1 (XH_latest h) (fun t2 => gd (decide (sd_SH t2 = (100, 6))) (hb (wI h t2 (3 : Int32).toNatClampNeg a0) (fun h4 => hb (wI h4 t2 (4 : Int32).toNatClampNeg a1) (fun h6 => hb (wI h6 t2 (5 : Int32).toNatClampNeg a2) (fun h8 => some h8)))))
set_option maxHeartbeats 4000000 in
set_option maxRecDepth 100000 in
theorem T_XH_keep {G : sd_GX} {h : sd_H} {a0 : Int32} {a1 : Int32} {a2 : Int32} {r : sd_H} (hf : XH_keep h a0 a1 a2 = some r) : sd_RunF G M_XH_keep [.ref (G.1 + 33), .int a0, .int a1, .int a2] h none r := by
  refine sF_run ⟨rfl, rfl⟩ (by decide +kernel) (Nat.le_of_ble_eq_true rfl) (lo := [(0, .ref (G.1 + 33)), (1, .int a0), (2, .int a1), (3, .int a2)]) rfl (fun X hE => ?_)
  unfold XH_keep at hf
  refine sd_aload_n (k := 0) (i := 0) (q := 0) (pc' := 1) (by decide +kernel) rfl rfl ?_
  obtain ⟨t2, q1, hf⟩ := b1_some hf
  refine sF_callV (idx := 23) (b := 33) (As := []) (ci := 0) (nn := 3) (pc' := 4) 0 (T_XH_latest (G := G) (h := h)  q1) (by decide +kernel) mv_XH_latest ml_X0_23 (by decide +kernel) rfl rfl (Nat.le_of_ble_eq_true rfl) SH_33 rfl (by decide) rfl rfl ?_
  obtain ⟨g3, hf⟩ := gd_some hf
  have g3 := of_decide_eq_true g3
  refine sd_astore (i := 4) (pc' := 6) (lo' := [(4, .ref (G.1 + t2)), (0, .ref (G.1 + 33)), (1, .int a0), (2, .int a1), (3, .int a2)]) (by decide +kernel) (by decide) rfl ?_
  refine sd_aload (i := 4) (q := 0) (pc' := 8) (by decide +kernel) rfl ?_
  refine sd_iconst (n := 3) (v := 3) (pc' := 9) (by decide +kernel) (by decide) ?_
  refine sd_iload_n (k := 1) (i := 1) (q := 2) (pc' := 10) (by decide +kernel) rfl rfl ?_
  obtain ⟨h4, e5, hf⟩ := hb_some hf
  refine sF_iast (n := 6) (pc' := 11) (by decide +kernel) g3 (by decide) ?_
  rw [← e5]; clear e5
  refine sd_aload (i := 4) (q := 0) (pc' := 13) (by decide +kernel) rfl ?_
  refine sd_iconst (n := 4) (v := 4) (pc' := 14) (by decide +kernel) (by decide) ?_
  refine sd_iload_n (k := 2) (i := 2) (q := 3) (pc' := 15) (by decide +kernel) rfl rfl ?_
  obtain ⟨h6, e7, hf⟩ := hb_some hf
  refine sF_iast (n := 6) (pc' := 16) (by decide +kernel) g3 (by decide) ?_
  rw [← e7]; clear e7
  refine sd_aload (i := 4) (q := 0) (pc' := 18) (by decide +kernel) rfl ?_
  refine sd_iconst (n := 5) (v := 5) (pc' := 19) (by decide +kernel) (by decide) ?_
  refine sd_iload_n (k := 3) (i := 3) (q := 4) (pc' := 20) (by decide +kernel) rfl rfl ?_
  obtain ⟨h8, e9, hf⟩ := hb_some hf
  refine sF_iast (n := 6) (pc' := 21) (by decide +kernel) g3 (by decide) ?_
  rw [← e9]; clear e9
  obtain rfl := Option.some.inj hf
  exact sd_vret (by decide +kernel) rfl (hE _)

theorem fl_X11_21 : sd_fl RX11 21 11 1 := ⟨sd_mem (i := 425) (by decide +kernel), by decide, by decide⟩
theorem fl_X11_153 : sd_fl RX11 153 2 1 := ⟨sd_mem (i := 258) (by decide +kernel), by decide, by decide⟩
theorem fl_X11_28 : sd_fl RX11 28 11 2 := ⟨sd_mem (i := 426) (by decide +kernel), by decide, by decide⟩
theorem ml_X11_157 : Cond.methodLink RX11 157 yX0_note ∈ sd_tb := sd_mem (i := 550) (by decide +kernel)
theorem mv_XH_note : sd_mV M_XH_note 3 := ⟨sd_mem (i := 551) (by decide +kernel), sd_mem (i := 552) (by decide +kernel), ⟨sd_mem (i := 553) (by decide +kernel), sd_mem (i := 113) (by decide +kernel), by decide +kernel, by decide +kernel, by decide +kernel⟩⟩
theorem ml_X11_160 : Cond.methodLink RX11 160 yX0_keep ∈ sd_tb := sd_mem (i := 558) (by decide +kernel)
theorem mv_XH_keep : sd_mV M_XH_keep 3 := ⟨sd_mem (i := 559) (by decide +kernel), sd_mem (i := 560) (by decide +kernel), ⟨sd_mem (i := 561) (by decide +kernel), sd_mem (i := 113) (by decide +kernel), by decide +kernel, by decide +kernel, by decide +kernel⟩⟩
def M_XT_turns : sd_MX := (yX11_turns, cX11_turns, 3, (some .int), { frames := 3, cells := 0, slots := 0, locals := 84 })
def XT_turns (h : sd_H) (a0 : Int32) : Option (sd_H × Int32) :=
  b1 (XT_within a0 0 10) (fun t2 => (if t2 = 0 then some (h, (-2)) else b1 (XH_note h 0 (-1) (-1)) (fun h5 => b1 (XH_keep h5 (h.1 6 1) 0 0) (fun h7 => hb (wI h7 6 1 a0) (fun h8 => hb (wI h8 56 5 1) (fun h10 => some (h10, (h.1 6 1))))))))
set_option maxHeartbeats 4000000 in
set_option maxRecDepth 100000 in
theorem T_XT_turns {G : sd_GX} {h : sd_H} {a0 : Int32} {r : (sd_H × Int32)} (hf : XT_turns h a0 = some r) : sd_RunF G M_XT_turns [.ref (G.1 + 0), .int a0] h (some (.int r.2)) r.1 := by
  refine sF_run ⟨rfl, rfl⟩ (by decide +kernel) (Nat.le_of_ble_eq_true rfl) (lo := [(0, .ref (G.1 + 0)), (1, .int a0)]) rfl (fun X hE => ?_)
  unfold XT_turns at hf
  refine sd_iload_n (k := 1) (i := 1) (q := 1) (pc' := 1) (by decide +kernel) rfl rfl ?_
  refine sd_iconst (n := 0) (v := 0) (pc' := 2) (by decide +kernel) (by decide) ?_
  refine sd_bipush (n := 10) (v := 10) (pc' := 4) (by decide +kernel) (by decide) ?_
  obtain ⟨t2, q1, hf⟩ := b1_some hf
  refine sF_callS (idx := 97) (As := [.int a0, .int 0, .int 10]) (pc' := 7) 3 (T_XT_within (G := G) (h := h)  q1) (by decide +kernel) mv_XT_within ml_X11_97 (by decide +kernel) rfl rfl (Nat.le_of_ble_eq_true rfl) rfl ?_
  refine sd_if_ne (off := 6) (tgt := 13) (pc' := 10) (by decide +kernel) (fun c3 => ?_) (fun c3 => ?_)
  · replace hf := ite_n c3 hf
    refine sd_aload_n (k := 0) (i := 0) (q := 0) (pc' := 14) (by decide +kernel) rfl rfl ?_
    refine sF_gr (idx := 21) (ci := 11) (k := 1) (n := 17) (r := 6) (pc' := 17) (by decide +kernel) fl_X11_21 (by decide +kernel) rfl SH_0 (by decide) (by decide +kernel) ?_
    refine sF_gi (idx := 153) (ci := 2) (k := 1) (n := 3) (pc' := 20) (by decide +kernel) fl_X11_153 (by decide +kernel) rfl SH_6 ?_
    refine sd_istore_n (k := 2) (i := 2) (pc' := 21) (lo' := [(2, .int (h.1 6 1)), (0, .ref (G.1 + 0)), (1, .int a0)]) (by decide +kernel) rfl (by decide) rfl ?_
    refine sd_aload_n (k := 0) (i := 0) (q := 1) (pc' := 22) (by decide +kernel) rfl rfl ?_
    refine sF_gr (idx := 28) (ci := 11) (k := 2) (n := 17) (r := 33) (pc' := 25) (by decide +kernel) fl_X11_28 (by decide +kernel) rfl SH_0 (by decide) (by decide +kernel) ?_
    refine sd_iconst (n := 0) (v := 0) (pc' := 26) (by decide +kernel) (by decide) ?_
    refine sd_iconst (n := -1) (v := (-1)) (pc' := 27) (by decide +kernel) (by decide) ?_
    refine sd_iconst (n := -1) (v := (-1)) (pc' := 28) (by decide +kernel) (by decide) ?_
    obtain ⟨h5, q4, hf⟩ := b1_some hf
    refine sF_callV0 (idx := 157) (b := 33) (As := [.int 0, .int (-1), .int (-1)]) (ci := 0) (nn := 3) (pc' := 31) 3 (T_XH_note (G := G) (h := h)  q4) (by decide +kernel) mv_XH_note ml_X11_157 (by decide +kernel) rfl rfl (Nat.le_of_ble_eq_true rfl) SH_33 rfl (by decide) rfl rfl ?_
    refine sd_aload_n (k := 0) (i := 0) (q := 1) (pc' := 32) (by decide +kernel) rfl rfl ?_
    refine sF_gr (idx := 28) (ci := 11) (k := 2) (n := 17) (r := 33) (pc' := 35) (by decide +kernel) fl_X11_28 (by decide +kernel) rfl SH_0 (by decide) (by decide +kernel) ?_
    refine sd_iload_n (k := 2) (i := 2) (q := 0) (pc' := 36) (by decide +kernel) rfl rfl ?_
    refine sd_iconst (n := 0) (v := 0) (pc' := 37) (by decide +kernel) (by decide) ?_
    refine sd_iconst (n := 0) (v := 0) (pc' := 38) (by decide +kernel) (by decide) ?_
    obtain ⟨h7, q6, hf⟩ := b1_some hf
    refine sF_callV0 (idx := 160) (b := 33) (As := [.int (h.1 6 1), .int 0, .int 0]) (ci := 0) (nn := 3) (pc' := 41) 3 (T_XH_keep (G := G) (h := h5)  q6) (by decide +kernel) mv_XH_keep ml_X11_160 (by decide +kernel) rfl rfl (Nat.le_of_ble_eq_true rfl) SH_33 rfl (by decide) rfl rfl ?_
    refine sd_aload_n (k := 0) (i := 0) (q := 1) (pc' := 42) (by decide +kernel) rfl rfl ?_
    refine sF_gr (idx := 21) (ci := 11) (k := 1) (n := 17) (r := 6) (pc' := 45) (by decide +kernel) fl_X11_21 (by decide +kernel) rfl SH_0 (by decide) (by decide +kernel) ?_
    refine sd_iload_n (k := 1) (i := 1) (q := 2) (pc' := 46) (by decide +kernel) rfl rfl ?_
    obtain ⟨h8, e9, hf⟩ := hb_some hf
    refine sF_pi (idx := 153) (ci := 2) (k := 1) (n := 3) (pc' := 49) (by decide +kernel) fl_X11_153 (by decide +kernel) rfl rfl rfl SH_6 ?_
    rw [← e9]; clear e9
    refine sd_aload_n (k := 0) (i := 0) (q := 1) (pc' := 50) (by decide +kernel) rfl rfl ?_
    refine sF_gr (idx := 41) (ci := 11) (k := 4) (n := 17) (r := 56) (pc' := 53) (by decide +kernel) fl_X11_41 (by decide +kernel) rfl SH_0 (by decide) (by decide +kernel) ?_
    refine sd_iconst (n := 1) (v := 1) (pc' := 54) (by decide +kernel) (by decide) ?_
    obtain ⟨h10, e11, hf⟩ := hb_some hf
    refine sF_pz (idx := 109) (ci := 10) (k := 5) (n := 6) (pc' := 57) (by decide +kernel) fl_X11_109 (by decide +kernel) rfl rfl rfl SH_56 (by decide) ?_
    rw [← e11]; clear e11
    refine sd_iload_n (k := 2) (i := 2) (q := 0) (pc' := 58) (by decide +kernel) rfl rfl ?_
    obtain rfl := Option.some.inj hf
    exact sd_iret (by decide +kernel) rfl (hE _)
  · replace hf := ite_p c3 hf
    refine sd_bipush (n := -2) (v := (-2)) (pc' := 12) (by decide +kernel) (by decide) ?_
    obtain rfl := Option.some.inj hf
    exact sd_iret (by decide +kernel) rfl (hE _)

theorem fl_X11_163 : sd_fl RX11 163 11 15 := ⟨sd_mem (i := 439) (by decide +kernel), by decide, by decide⟩
theorem fl_X11_32 : sd_fl RX11 32 11 3 := ⟨sd_mem (i := 427) (by decide +kernel), by decide, by decide⟩
def M_XT_type : sd_MX := (yX11_type, cX11_type, 2, (some .int), { frames := 2, cells := 0, slots := 0, locals := 62 })
def XT_type (h : sd_H) (a0 : Int32) : Option (sd_H × Int32) :=
  b1 (XT_within a0 0 255) (fun t2 => (if t2 = 0 then some (h, (-2)) else (if (h.1 0 15) < 5 then hb (wI h 0 15 ((h.1 0 15) + 1)) (fun h5 => gd (sd_inB (h.1 0 15) 5) (hb (wI h5 55 ((h.1 0 15) : Int32).toNatClampNeg a0) (fun h8 => some (h8, (h8.1 0 15))))) else some (h, (-4)))))
set_option maxHeartbeats 4000000 in
set_option maxRecDepth 100000 in
theorem T_XT_type {G : sd_GX} {h : sd_H} {a0 : Int32} {r : (sd_H × Int32)} (hf : XT_type h a0 = some r) : sd_RunF G M_XT_type [.ref (G.1 + 0), .int a0] h (some (.int r.2)) r.1 := by
  refine sF_run ⟨rfl, rfl⟩ (by decide +kernel) (Nat.le_of_ble_eq_true rfl) (lo := [(0, .ref (G.1 + 0)), (1, .int a0)]) rfl (fun X hE => ?_)
  unfold XT_type at hf
  refine sd_iload_n (k := 1) (i := 1) (q := 1) (pc' := 1) (by decide +kernel) rfl rfl ?_
  refine sd_iconst (n := 0) (v := 0) (pc' := 2) (by decide +kernel) (by decide) ?_
  refine sd_sipush (n := 255) (v := 255) (pc' := 5) (by decide +kernel) (by decide) ?_
  obtain ⟨t2, q1, hf⟩ := b1_some hf
  refine sF_callS (idx := 97) (As := [.int a0, .int 0, .int 255]) (pc' := 8) 3 (T_XT_within (G := G) (h := h)  q1) (by decide +kernel) mv_XT_within ml_X11_97 (by decide +kernel) rfl rfl (Nat.le_of_ble_eq_true rfl) rfl ?_
  refine sd_if_ne (off := 6) (tgt := 14) (pc' := 11) (by decide +kernel) (fun c3 => ?_) (fun c3 => ?_)
  · replace hf := ite_n c3 hf
    refine sd_aload_n (k := 0) (i := 0) (q := 0) (pc' := 15) (by decide +kernel) rfl rfl ?_
    refine sF_gi (idx := 163) (ci := 11) (k := 15) (n := 17) (pc' := 18) (by decide +kernel) fl_X11_163 (by decide +kernel) rfl SH_0 ?_
    refine sd_iconst (n := 5) (v := 5) (pc' := 19) (by decide +kernel) (by decide) ?_
    refine sd_icmp_lt (off := 6) (tgt := 25) (pc' := 22) (by decide +kernel) (fun c4 => ?_) (fun c4 => ?_)
    · replace hf := ite_p c4 hf
      refine sd_aload_n (k := 0) (i := 0) (q := 0) (pc' := 26) (by decide +kernel) rfl rfl ?_
      refine sF_gr (idx := 32) (ci := 11) (k := 3) (n := 17) (r := 55) (pc' := 29) (by decide +kernel) fl_X11_32 (by decide +kernel) rfl SH_0 (by decide) (by decide +kernel) ?_
      refine sd_aload_n (k := 0) (i := 0) (q := 0) (pc' := 30) (by decide +kernel) rfl rfl ?_
      refine sd_dup (pc' := 31) (by decide +kernel) rfl ?_
      refine sF_gi (idx := 163) (ci := 11) (k := 15) (n := 17) (pc' := 34) (by decide +kernel) fl_X11_163 (by decide +kernel) rfl SH_0 ?_
      refine sd_dup_x1 (pc' := 35) (by decide +kernel) rfl rfl ?_
      refine sd_iconst (n := 1) (v := 1) (pc' := 36) (by decide +kernel) (by decide) ?_
      refine sd_iadd (pc' := 37) (by decide +kernel) ?_
      obtain ⟨h5, e6, hf⟩ := hb_some hf
      refine sF_pi (idx := 163) (ci := 11) (k := 15) (n := 17) (pc' := 40) (by decide +kernel) fl_X11_163 (by decide +kernel) rfl rfl rfl SH_0 ?_
      rw [← e6]; clear e6
      refine sd_iload_n (k := 1) (i := 1) (q := 1) (pc' := 41) (by decide +kernel) rfl rfl ?_
      obtain ⟨g7, hf⟩ := gd_some hf
      obtain ⟨h8, e9, hf⟩ := hb_some hf
      refine sF_iast (n := 5) (pc' := 42) (by decide +kernel) SH_55 g7 ?_
      rw [← e9]; clear e9
      refine sd_aload_n (k := 0) (i := 0) (q := 0) (pc' := 43) (by decide +kernel) rfl rfl ?_
      refine sF_gi (idx := 163) (ci := 11) (k := 15) (n := 17) (pc' := 46) (by decide +kernel) fl_X11_163 (by decide +kernel) rfl SH_0 ?_
      obtain rfl := Option.some.inj hf
      exact sd_iret (by decide +kernel) rfl (hE _)
    · replace hf := ite_n c4 hf
      refine sd_bipush (n := -4) (v := (-4)) (pc' := 24) (by decide +kernel) (by decide) ?_
      obtain rfl := Option.some.inj hf
      exact sd_iret (by decide +kernel) rfl (hE _)
  · replace hf := ite_p c3 hf
    refine sd_bipush (n := -2) (v := (-2)) (pc' := 13) (by decide +kernel) (by decide) ?_
    obtain rfl := Option.some.inj hf
    exact sd_iret (by decide +kernel) rfl (hE _)

def M_XT_wipe : sd_MX := (yX11_wipe, cX11_wipe, 2, (some .int), { frames := 1, cells := 0, slots := 0, locals := 40 })
def XT_wipe (h : sd_H) : Option (sd_H × Int32) :=
  hb (wI h 0 15 0) (fun h1 => some (h1, (h.1 0 15)))
set_option maxHeartbeats 4000000 in
set_option maxRecDepth 100000 in
theorem T_XT_wipe {G : sd_GX} {h : sd_H} {r : (sd_H × Int32)} (hf : XT_wipe h = some r) : sd_RunF G M_XT_wipe [.ref (G.1 + 0)] h (some (.int r.2)) r.1 := by
  refine sF_run ⟨rfl, rfl⟩ (by decide +kernel) (Nat.le_of_ble_eq_true rfl) (lo := [(0, .ref (G.1 + 0))]) rfl (fun X hE => ?_)
  unfold XT_wipe at hf
  refine sd_aload_n (k := 0) (i := 0) (q := 0) (pc' := 1) (by decide +kernel) rfl rfl ?_
  refine sF_gi (idx := 163) (ci := 11) (k := 15) (n := 17) (pc' := 4) (by decide +kernel) fl_X11_163 (by decide +kernel) rfl SH_0 ?_
  refine sd_istore_n (k := 1) (i := 1) (pc' := 5) (lo' := [(1, .int (h.1 0 15)), (0, .ref (G.1 + 0))]) (by decide +kernel) rfl (by decide) rfl ?_
  refine sd_aload_n (k := 0) (i := 0) (q := 1) (pc' := 6) (by decide +kernel) rfl rfl ?_
  refine sd_iconst (n := 0) (v := 0) (pc' := 7) (by decide +kernel) (by decide) ?_
  obtain ⟨h1, e2, hf⟩ := hb_some hf
  refine sF_pi (idx := 163) (ci := 11) (k := 15) (n := 17) (pc' := 10) (by decide +kernel) fl_X11_163 (by decide +kernel) rfl rfl rfl SH_0 ?_
  rw [← e2]; clear e2
  refine sd_iload_n (k := 1) (i := 1) (q := 0) (pc' := 11) (by decide +kernel) rfl rfl ?_
  obtain rfl := Option.some.inj hf
  exact sd_iret (by decide +kernel) rfl (hE _)

def M_XT_nameOf : sd_MX := (yX11_nameOf, cX11_nameOf, 1, (some (.object "java/lang/String")), { frames := 1, cells := 0, slots := 0, locals := 40 })
def XT_nameOf (a0 : Int32) : Option Nat :=
  (if a0 = 0 then some 0 else (if a0 = 1 then some 1 else (if a0 = 2 then some 2 else (if a0 = 3 then some 3 else (if a0 = 4 then some 4 else (if a0 = 5 then some 5 else (if a0 = 6 then some 6 else (if a0 = 7 then some 7 else (if a0 = 8 then some 8 else (if a0 = 9 then some 9 else (if a0 = 10 then some 10 else (if a0 = 11 then some 11 else (some 12)))))))))))))
set_option maxHeartbeats 4000000 in
set_option maxRecDepth 100000 in
theorem T_XT_nameOf {G : sd_GX} {h : sd_H} {a0 : Int32} {r : Nat} (hf : XT_nameOf a0 = some r) : sd_RunF G M_XT_nameOf [.int a0] h (some (.ref (G.2.2.2.2.1 r))) h := by
  refine sF_run ⟨rfl, rfl⟩ (by decide +kernel) (Nat.le_of_ble_eq_true rfl) (lo := [(0, .int a0)]) rfl (fun X hE => ?_)
  unfold XT_nameOf at hf
  refine sd_iload_n (k := 0) (i := 0) (q := 0) (pc' := 1) (by decide +kernel) rfl rfl ?_
  by_cases c1_0 : a0 = 0
  · replace hf := ite_p c1_0 hf
    refine sd_tswIn (dflt := 111) (lo0 := 0) (hi0 := 11) (offs := #[63, 67, 71, 75, 79, 83, 87, 91, 95, 99, 103, 107]) (len := 63) (off := 63) (tgt := 64) (pc' := 64) (by decide +kernel) (by rw [c1_0]; decide) (by rw [c1_0]; decide) (by rw [c1_0]; decide) ?_
    refine sF_ldcS (j := 0) (idx := 439) (pc' := 67) (by decide +kernel) rfl (by decide) (by decide) ?_
    obtain rfl := Option.some.inj hf
    exact sd_aret (by decide +kernel) rfl (Or.inl ⟨_, rfl⟩) (hE _)
  · replace hf := ite_n c1_0 hf
    by_cases c1_1 : a0 = 1
    · replace hf := ite_p c1_1 hf
      refine sd_tswIn (dflt := 111) (lo0 := 0) (hi0 := 11) (offs := #[63, 67, 71, 75, 79, 83, 87, 91, 95, 99, 103, 107]) (len := 63) (off := 67) (tgt := 68) (pc' := 64) (by decide +kernel) (by rw [c1_1]; decide) (by rw [c1_1]; decide) (by rw [c1_1]; decide) ?_
      refine sF_ldcS (j := 1) (idx := 441) (pc' := 71) (by decide +kernel) rfl (by decide) (by decide) ?_
      obtain rfl := Option.some.inj hf
      exact sd_aret (by decide +kernel) rfl (Or.inl ⟨_, rfl⟩) (hE _)
    · replace hf := ite_n c1_1 hf
      by_cases c1_2 : a0 = 2
      · replace hf := ite_p c1_2 hf
        refine sd_tswIn (dflt := 111) (lo0 := 0) (hi0 := 11) (offs := #[63, 67, 71, 75, 79, 83, 87, 91, 95, 99, 103, 107]) (len := 63) (off := 71) (tgt := 72) (pc' := 64) (by decide +kernel) (by rw [c1_2]; decide) (by rw [c1_2]; decide) (by rw [c1_2]; decide) ?_
        refine sF_ldcS (j := 2) (idx := 443) (pc' := 75) (by decide +kernel) rfl (by decide) (by decide) ?_
        obtain rfl := Option.some.inj hf
        exact sd_aret (by decide +kernel) rfl (Or.inl ⟨_, rfl⟩) (hE _)
      · replace hf := ite_n c1_2 hf
        by_cases c1_3 : a0 = 3
        · replace hf := ite_p c1_3 hf
          refine sd_tswIn (dflt := 111) (lo0 := 0) (hi0 := 11) (offs := #[63, 67, 71, 75, 79, 83, 87, 91, 95, 99, 103, 107]) (len := 63) (off := 75) (tgt := 76) (pc' := 64) (by decide +kernel) (by rw [c1_3]; decide) (by rw [c1_3]; decide) (by rw [c1_3]; decide) ?_
          refine sF_ldcS (j := 3) (idx := 445) (pc' := 79) (by decide +kernel) rfl (by decide) (by decide) ?_
          obtain rfl := Option.some.inj hf
          exact sd_aret (by decide +kernel) rfl (Or.inl ⟨_, rfl⟩) (hE _)
        · replace hf := ite_n c1_3 hf
          by_cases c1_4 : a0 = 4
          · replace hf := ite_p c1_4 hf
            refine sd_tswIn (dflt := 111) (lo0 := 0) (hi0 := 11) (offs := #[63, 67, 71, 75, 79, 83, 87, 91, 95, 99, 103, 107]) (len := 63) (off := 79) (tgt := 80) (pc' := 64) (by decide +kernel) (by rw [c1_4]; decide) (by rw [c1_4]; decide) (by rw [c1_4]; decide) ?_
            refine sF_ldcS (j := 4) (idx := 447) (pc' := 83) (by decide +kernel) rfl (by decide) (by decide) ?_
            obtain rfl := Option.some.inj hf
            exact sd_aret (by decide +kernel) rfl (Or.inl ⟨_, rfl⟩) (hE _)
          · replace hf := ite_n c1_4 hf
            by_cases c1_5 : a0 = 5
            · replace hf := ite_p c1_5 hf
              refine sd_tswIn (dflt := 111) (lo0 := 0) (hi0 := 11) (offs := #[63, 67, 71, 75, 79, 83, 87, 91, 95, 99, 103, 107]) (len := 63) (off := 83) (tgt := 84) (pc' := 64) (by decide +kernel) (by rw [c1_5]; decide) (by rw [c1_5]; decide) (by rw [c1_5]; decide) ?_
              refine sF_ldcS (j := 5) (idx := 449) (pc' := 87) (by decide +kernel) rfl (by decide) (by decide) ?_
              obtain rfl := Option.some.inj hf
              exact sd_aret (by decide +kernel) rfl (Or.inl ⟨_, rfl⟩) (hE _)
            · replace hf := ite_n c1_5 hf
              by_cases c1_6 : a0 = 6
              · replace hf := ite_p c1_6 hf
                refine sd_tswIn (dflt := 111) (lo0 := 0) (hi0 := 11) (offs := #[63, 67, 71, 75, 79, 83, 87, 91, 95, 99, 103, 107]) (len := 63) (off := 87) (tgt := 88) (pc' := 64) (by decide +kernel) (by rw [c1_6]; decide) (by rw [c1_6]; decide) (by rw [c1_6]; decide) ?_
                refine sF_ldcS (j := 6) (idx := 451) (pc' := 91) (by decide +kernel) rfl (by decide) (by decide) ?_
                obtain rfl := Option.some.inj hf
                exact sd_aret (by decide +kernel) rfl (Or.inl ⟨_, rfl⟩) (hE _)
              · replace hf := ite_n c1_6 hf
                by_cases c1_7 : a0 = 7
                · replace hf := ite_p c1_7 hf
                  refine sd_tswIn (dflt := 111) (lo0 := 0) (hi0 := 11) (offs := #[63, 67, 71, 75, 79, 83, 87, 91, 95, 99, 103, 107]) (len := 63) (off := 91) (tgt := 92) (pc' := 64) (by decide +kernel) (by rw [c1_7]; decide) (by rw [c1_7]; decide) (by rw [c1_7]; decide) ?_
                  refine sF_ldcS (j := 7) (idx := 453) (pc' := 95) (by decide +kernel) rfl (by decide) (by decide) ?_
                  obtain rfl := Option.some.inj hf
                  exact sd_aret (by decide +kernel) rfl (Or.inl ⟨_, rfl⟩) (hE _)
                · replace hf := ite_n c1_7 hf
                  by_cases c1_8 : a0 = 8
                  · replace hf := ite_p c1_8 hf
                    refine sd_tswIn (dflt := 111) (lo0 := 0) (hi0 := 11) (offs := #[63, 67, 71, 75, 79, 83, 87, 91, 95, 99, 103, 107]) (len := 63) (off := 95) (tgt := 96) (pc' := 64) (by decide +kernel) (by rw [c1_8]; decide) (by rw [c1_8]; decide) (by rw [c1_8]; decide) ?_
                    refine sF_ldcS (j := 8) (idx := 455) (pc' := 99) (by decide +kernel) rfl (by decide) (by decide) ?_
                    obtain rfl := Option.some.inj hf
                    exact sd_aret (by decide +kernel) rfl (Or.inl ⟨_, rfl⟩) (hE _)
                  · replace hf := ite_n c1_8 hf
                    by_cases c1_9 : a0 = 9
                    · replace hf := ite_p c1_9 hf
                      refine sd_tswIn (dflt := 111) (lo0 := 0) (hi0 := 11) (offs := #[63, 67, 71, 75, 79, 83, 87, 91, 95, 99, 103, 107]) (len := 63) (off := 99) (tgt := 100) (pc' := 64) (by decide +kernel) (by rw [c1_9]; decide) (by rw [c1_9]; decide) (by rw [c1_9]; decide) ?_
                      refine sF_ldcS (j := 9) (idx := 457) (pc' := 103) (by decide +kernel) rfl (by decide) (by decide) ?_
                      obtain rfl := Option.some.inj hf
                      exact sd_aret (by decide +kernel) rfl (Or.inl ⟨_, rfl⟩) (hE _)
                    · replace hf := ite_n c1_9 hf
                      by_cases c1_10 : a0 = 10
                      · replace hf := ite_p c1_10 hf
                        refine sd_tswIn (dflt := 111) (lo0 := 0) (hi0 := 11) (offs := #[63, 67, 71, 75, 79, 83, 87, 91, 95, 99, 103, 107]) (len := 63) (off := 103) (tgt := 104) (pc' := 64) (by decide +kernel) (by rw [c1_10]; decide) (by rw [c1_10]; decide) (by rw [c1_10]; decide) ?_
                        refine sF_ldcS (j := 10) (idx := 459) (pc' := 107) (by decide +kernel) rfl (by decide) (by decide) ?_
                        obtain rfl := Option.some.inj hf
                        exact sd_aret (by decide +kernel) rfl (Or.inl ⟨_, rfl⟩) (hE _)
                      · replace hf := ite_n c1_10 hf
                        by_cases c1_11 : a0 = 11
                        · replace hf := ite_p c1_11 hf
                          refine sd_tswIn (dflt := 111) (lo0 := 0) (hi0 := 11) (offs := #[63, 67, 71, 75, 79, 83, 87, 91, 95, 99, 103, 107]) (len := 63) (off := 107) (tgt := 108) (pc' := 64) (by decide +kernel) (by rw [c1_11]; decide) (by rw [c1_11]; decide) (by rw [c1_11]; decide) ?_
                          refine sF_ldcS (j := 11) (idx := 461) (pc' := 111) (by decide +kernel) rfl (by decide) (by decide) ?_
                          obtain rfl := Option.some.inj hf
                          exact sd_aret (by decide +kernel) rfl (Or.inl ⟨_, rfl⟩) (hE _)
                        · replace hf := ite_n c1_11 hf
                          have nc1_0 := ne_ti c1_0 (n := 0) (by decide)
                          have nc1_1 := ne_ti c1_1 (n := 1) (by decide)
                          have nc1_2 := ne_ti c1_2 (n := 2) (by decide)
                          have nc1_3 := ne_ti c1_3 (n := 3) (by decide)
                          have nc1_4 := ne_ti c1_4 (n := 4) (by decide)
                          have nc1_5 := ne_ti c1_5 (n := 5) (by decide)
                          have nc1_6 := ne_ti c1_6 (n := 6) (by decide)
                          have nc1_7 := ne_ti c1_7 (n := 7) (by decide)
                          have nc1_8 := ne_ti c1_8 (n := 8) (by decide)
                          have nc1_9 := ne_ti c1_9 (n := 9) (by decide)
                          have nc1_10 := ne_ti c1_10 (n := 10) (by decide)
                          have nc1_11 := ne_ti c1_11 (n := 11) (by decide)
                          refine sd_tswOut (dflt := 111) (lo0 := 0) (hi0 := 11) (offs := #[63, 67, 71, 75, 79, 83, 87, 91, 95, 99, 103, 107]) (len := 63) (tgt := 112) (pc' := 64) (by decide +kernel) (by omega) ?_
                          refine sF_ldcS (j := 12) (idx := 463) (pc' := 115) (by decide +kernel) rfl (by decide) (by decide) ?_
                          obtain rfl := Option.some.inj hf
                          exact sd_aret (by decide +kernel) rfl (Or.inl ⟨_, rfl⟩) (hE _)

def M_XT_isTyped : sd_MX := (yX11_isTyped, cX11_isTyped, 3, (some .boolean), { frames := 6, cells := 0, slots := 0, locals := 140 })
def XT_isTyped_L15 (h : sd_H) : Nat → Nat → Int32 → Option Int32
  | 0, _, _ => none
  | n + 1, l1, l2 =>
  (if (h.1 0 15) ≤ l2 then some 1 else gd (decide (l1 < 13)) (gd (sd_inB l2 (sd_len.getD l1 0)) (gd (sd_inB l2 5) ((if (schr l1 l2) = (h.1 55 (l2 : Int32).toNatClampNeg) then XT_isTyped_L15 h n l1 (l2 + 1) else some 0)))))
set_option maxHeartbeats 4000000 in
set_option maxRecDepth 100000 in
theorem J_XT_isTyped_L15 {G : sd_GX} {X : sd_CX} (hE : ∀ g : sd_H, sd_end G X M_XT_isTyped (sd_F g)) {h : sd_H} {r : Int32} : ∀ (n : Nat) (l1 : Nat) (l2 : Int32), XT_isTyped_L15 h n l1 l2 = some r → sd_J G X (sd_QR G X M_XT_isTyped (some (.int r), sd_F h)) M_XT_isTyped 15 [(0, .ref (G.1 + 0)), (1, .ref (G.2.2.2.2.1 l1)), (2, .int l2)] [] (sd_F h) := by
  intro n
  induction n with
  | zero =>
    intro l1 l2 hf
    rw [XT_isTyped_L15] at hf
    cases hf
  | succ n ih =>
    intro l1 l2 hf
    rw [XT_isTyped_L15] at hf
    refine sd_iload_n (k := 2) (i := 2) (q := 2) (pc' := 16) (by decide +kernel) rfl rfl ?_
    refine sd_aload_n (k := 0) (i := 0) (q := 0) (pc' := 17) (by decide +kernel) rfl rfl ?_
    refine sF_gi (idx := 163) (ci := 11) (k := 15) (n := 17) (pc' := 20) (by decide +kernel) fl_X11_163 (by decide +kernel) rfl SH_0 ?_
    refine sd_icmp_ge (off := 25) (tgt := 45) (pc' := 23) (by decide +kernel) (fun c3 => ?_) (fun c3 => ?_)
    · replace hf := ite_p c3 hf
      refine sd_iconst (n := 1) (v := 1) (pc' := 46) (by decide +kernel) (by decide) ?_
      obtain rfl := Option.some.inj hf
      exact sd_zret (by decide +kernel) rfl (by decide) (hE _)
    · replace hf := ite_n c3 hf
      refine sd_aload_n (k := 1) (i := 1) (q := 1) (pc' := 24) (by decide +kernel) rfl rfl ?_
      refine sd_iload_n (k := 2) (i := 2) (q := 2) (pc' := 25) (by decide +kernel) rfl rfl ?_
      obtain ⟨g4, hf⟩ := gd_some hf
      obtain ⟨g5, hf⟩ := gd_some hf
      refine sF_schr (j := l1) (pc' := 28) (by decide +kernel) rfl rfl (by decide +kernel) (Nat.le_of_ble_eq_true rfl) (of_decide_eq_true g4) g5 ?_
      refine sd_aload_n (k := 0) (i := 0) (q := 0) (pc' := 29) (by decide +kernel) rfl rfl ?_
      refine sF_gr (idx := 32) (ci := 11) (k := 3) (n := 17) (r := 55) (pc' := 32) (by decide +kernel) fl_X11_32 (by decide +kernel) rfl SH_0 (by decide) (by decide +kernel) ?_
      refine sd_iload_n (k := 2) (i := 2) (q := 2) (pc' := 33) (by decide +kernel) rfl rfl ?_
      obtain ⟨g6, hf⟩ := gd_some hf
      refine sF_iald (n := 5) (pc' := 34) (by decide +kernel) SH_55 g6 ?_
      refine sd_icmp_eq (off := 5) (tgt := 39) (pc' := 37) (by decide +kernel) (fun c7 => ?_) (fun c7 => ?_)
      · replace hf := ite_p c7 hf
        refine sd_iinc (i := 2) (q := 2) (n := 1) (v := (l2 + 1)) (pc' := 42) (lo' := [(2, .int (l2 + 1)), (0, .ref (G.1 + 0)), (1, .ref (G.2.2.2.2.1 l1))]) (by decide +kernel) rfl rfl (by decide) rfl ?_
        refine sd_goto (off := -27) (tgt := 15) (pc' := 45) (by decide +kernel) ?_
        refine sd_J.sub (lo' := [(0, .ref (G.1 + 0)), (1, .ref (G.2.2.2.2.1 l1)), (2, .int (l2 + 1))]) [1, 2, 0] rfl ?_
        exact ih _ _ hf
      · replace hf := ite_n c7 hf
        refine sd_iconst (n := 0) (v := 0) (pc' := 38) (by decide +kernel) (by decide) ?_
        obtain rfl := Option.some.inj hf
        exact sd_zret (by decide +kernel) rfl (by decide) (hE _)
def XT_isTyped (h : sd_H) (a0 : Nat) : Option Int32 :=
  gd (decide (a0 < 13)) ((if (slen a0) = (h.1 0 15) then XT_isTyped_L15 h FU a0 0 else some 0))
set_option maxHeartbeats 4000000 in
set_option maxRecDepth 100000 in
theorem T_XT_isTyped {G : sd_GX} {h : sd_H} {a0 : Nat} {r : Int32} (hf : XT_isTyped h a0 = some r) : sd_RunF G M_XT_isTyped [.ref (G.1 + 0), .ref (G.2.2.2.2.1 a0)] h (some (.int r)) h := by
  refine sF_run ⟨rfl, rfl⟩ (by decide +kernel) (Nat.le_of_ble_eq_true rfl) (lo := [(0, .ref (G.1 + 0)), (1, .ref (G.2.2.2.2.1 a0))]) rfl (fun X hE => ?_)
  unfold XT_isTyped at hf
  refine sd_aload_n (k := 1) (i := 1) (q := 1) (pc' := 1) (by decide +kernel) rfl rfl ?_
  obtain ⟨g1, hf⟩ := gd_some hf
  refine sF_slen (j := a0) (pc' := 4) (by decide +kernel) rfl rfl (by decide +kernel) (Nat.le_of_ble_eq_true rfl) (of_decide_eq_true g1) ?_
  refine sd_aload_n (k := 0) (i := 0) (q := 0) (pc' := 5) (by decide +kernel) rfl rfl ?_
  refine sF_gi (idx := 163) (ci := 11) (k := 15) (n := 17) (pc' := 8) (by decide +kernel) fl_X11_163 (by decide +kernel) rfl SH_0 ?_
  refine sd_icmp_eq (off := 5) (tgt := 13) (pc' := 11) (by decide +kernel) (fun c2 => ?_) (fun c2 => ?_)
  · replace hf := ite_p c2 hf
    refine sd_iconst (n := 0) (v := 0) (pc' := 14) (by decide +kernel) (by decide) ?_
    refine sd_istore_n (k := 2) (i := 2) (pc' := 15) (lo' := [(2, .int 0), (0, .ref (G.1 + 0)), (1, .ref (G.2.2.2.2.1 a0))]) (by decide +kernel) rfl (by decide) rfl ?_
    refine sd_J.sub (lo' := [(0, .ref (G.1 + 0)), (1, .ref (G.2.2.2.2.1 a0)), (2, .int 0)]) [1, 2, 0] rfl ?_
    exact J_XT_isTyped_L15 hE _ _ _ hf
  · replace hf := ite_n c2 hf
    refine sd_iconst (n := 0) (v := 0) (pc' := 12) (by decide +kernel) (by decide) ?_
    obtain rfl := Option.some.inj hf
    exact sd_zret (by decide +kernel) rfl (by decide) (hE _)

theorem ml_X11_423 : Cond.methodLink RX11 423 yX11_nameOf ∈ sd_tb := sd_mem (i := 578) (by decide +kernel)
theorem mv_XT_nameOf : sd_mS M_XT_nameOf 1 := ⟨sd_mem (i := 579) (by decide +kernel), ⟨sd_mem (i := 580) (by decide +kernel), sd_mem (i := 108) (by decide +kernel), by decide +kernel, by decide +kernel, by decide +kernel⟩⟩
theorem ml_X11_427 : Cond.methodLink RX11 427 yX11_isTyped ∈ sd_tb := sd_mem (i := 594) (by decide +kernel)
theorem mv_XT_isTyped : sd_mV M_XT_isTyped 1 := ⟨sd_mem (i := 596) (by decide +kernel), sd_mem (i := 3) (by decide +kernel), ⟨sd_mem (i := 597) (by decide +kernel), sd_mem (i := 108) (by decide +kernel), by decide +kernel, by decide +kernel, by decide +kernel⟩⟩
def M_XT_operationTyped : sd_MX := (yX11_operationTyped, cX11_operationTyped, 2, (some .int), { frames := 7, cells := 0, slots := 0, locals := 162 })
def XT_operationTyped_L2 (h : sd_H) : Nat → Int32 → Option Int32
  | 0, _ => none
  | n + 1, l1 =>
  (if 13 ≤ l1 then some (-1) else b1 (XT_nameOf l1) (fun t3 => b1 (XT_isTyped h t3) (fun t5 => (if t5 = 0 then XT_operationTyped_L2 h n (l1 + 1) else some l1))))
set_option maxHeartbeats 4000000 in
set_option maxRecDepth 100000 in
theorem J_XT_operationTyped_L2 {G : sd_GX} {X : sd_CX} (hE : ∀ g : sd_H, sd_end G X M_XT_operationTyped (sd_F g)) {h : sd_H} {r : Int32} : ∀ (n : Nat) (l1 : Int32), XT_operationTyped_L2 h n l1 = some r → sd_J G X (sd_QR G X M_XT_operationTyped (some (.int r), sd_F h)) M_XT_operationTyped 2 [(0, .ref (G.1 + 0)), (1, .int l1)] [] (sd_F h) := by
  intro n
  induction n with
  | zero =>
    intro l1 hf
    rw [XT_operationTyped_L2] at hf
    cases hf
  | succ n ih =>
    intro l1 hf
    rw [XT_operationTyped_L2] at hf
    refine sd_iload_n (k := 1) (i := 1) (q := 1) (pc' := 3) (by decide +kernel) rfl rfl ?_
    refine sd_bipush (n := 13) (v := 13) (pc' := 5) (by decide +kernel) (by decide) ?_
    refine sd_icmp_ge (off := 22) (tgt := 27) (pc' := 8) (by decide +kernel) (fun c1 => ?_) (fun c1 => ?_)
    · replace hf := ite_p c1 hf
      refine sd_iconst (n := -1) (v := (-1)) (pc' := 28) (by decide +kernel) (by decide) ?_
      obtain rfl := Option.some.inj hf
      exact sd_iret (by decide +kernel) rfl (hE _)
    · replace hf := ite_n c1 hf
      refine sd_aload_n (k := 0) (i := 0) (q := 0) (pc' := 9) (by decide +kernel) rfl rfl ?_
      refine sd_iload_n (k := 1) (i := 1) (q := 1) (pc' := 10) (by decide +kernel) rfl rfl ?_
      obtain ⟨t3, q2, hf⟩ := b1_some hf
      refine sF_callS (idx := 423) (As := [.int l1]) (pc' := 13) 1 (T_XT_nameOf (G := G) (h := h)  q2) (by decide +kernel) mv_XT_nameOf ml_X11_423 (by decide +kernel) rfl rfl (Nat.le_of_ble_eq_true rfl) rfl ?_
      obtain ⟨t5, q4, hf⟩ := b1_some hf
      refine sF_callV (idx := 427) (b := 0) (As := [.ref (G.2.2.2.2.1 t3)]) (ci := 11) (nn := 17) (pc' := 16) 1 (T_XT_isTyped (G := G) (h := h)  q4) (by decide +kernel) mv_XT_isTyped ml_X11_427 (by decide +kernel) rfl rfl (Nat.le_of_ble_eq_true rfl) SH_0 rfl (by decide) rfl rfl ?_
      refine sd_if_eq (off := 5) (tgt := 21) (pc' := 19) (by decide +kernel) (fun c6 => ?_) (fun c6 => ?_)
      · replace hf := ite_p c6 hf
        refine sd_iinc (i := 1) (q := 1) (n := 1) (v := (l1 + 1)) (pc' := 24) (lo' := [(1, .int (l1 + 1)), (0, .ref (G.1 + 0))]) (by decide +kernel) rfl rfl (by decide) rfl ?_
        refine sd_goto (off := -22) (tgt := 2) (pc' := 27) (by decide +kernel) ?_
        refine sd_J.sub (lo' := [(0, .ref (G.1 + 0)), (1, .int (l1 + 1))]) [1, 0] rfl ?_
        exact ih _ hf
      · replace hf := ite_n c6 hf
        refine sd_iload_n (k := 1) (i := 1) (q := 1) (pc' := 20) (by decide +kernel) rfl rfl ?_
        obtain rfl := Option.some.inj hf
        exact sd_iret (by decide +kernel) rfl (hE _)
def XT_operationTyped (h : sd_H) : Option Int32 :=
  XT_operationTyped_L2 h FU 0
set_option maxHeartbeats 4000000 in
set_option maxRecDepth 100000 in
theorem T_XT_operationTyped {G : sd_GX} {h : sd_H} {r : Int32} (hf : XT_operationTyped h = some r) : sd_RunF G M_XT_operationTyped [.ref (G.1 + 0)] h (some (.int r)) h := by
  refine sF_run ⟨rfl, rfl⟩ (by decide +kernel) (Nat.le_of_ble_eq_true rfl) (lo := [(0, .ref (G.1 + 0))]) rfl (fun X hE => ?_)
  unfold XT_operationTyped at hf
  refine sd_iconst (n := 0) (v := 0) (pc' := 1) (by decide +kernel) (by decide) ?_
  refine sd_istore_n (k := 1) (i := 1) (pc' := 2) (lo' := [(1, .int 0), (0, .ref (G.1 + 0))]) (by decide +kernel) rfl (by decide) rfl ?_
  refine sd_J.sub (lo' := [(0, .ref (G.1 + 0)), (1, .int 0)]) [1, 0] rfl ?_
  exact J_XT_operationTyped_L2 hE _ _ hf
end
