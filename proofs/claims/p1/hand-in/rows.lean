section
/-- a private method of a class that the tables say can be made, by its rows of tables_1 -/
def lw_okq (q : MethodName × Nat) : Prop := (q.1.cls ≠ "java/lang/invoke/MethodHandle" ∧ q.1.cls ≠ "java/lang/invoke/VarHandle") ∧ Cond.instantiable q.1.cls q.2 ∈ tables_1 ∧ Cond.privateMethod q.1 ∈ tables_1 ∧ Cond.instanceMethod q.1 ∈ tables_1
theorem lw_p0 : lw_okq (⟨"MeshWalk", "needPlace", "(II)V"⟩, 5) := ⟨⟨by decide +kernel, by decide +kernel⟩, List.mem_of_getElem? (i := 20) (by decide +kernel), List.mem_of_getElem? (i := 309) (by decide +kernel), List.mem_of_getElem? (i := 310) (by decide +kernel)⟩
theorem lw_p1 : lw_okq (⟨"java/lang/Throwable", "fillInStackTrace", "(I)Ljava/lang/Throwable;"⟩, 6) := ⟨⟨by decide +kernel, by decide +kernel⟩, List.mem_of_getElem? (i := 353) (by decide +kernel), List.mem_of_getElem? (i := 351) (by decide +kernel), List.mem_of_getElem? (i := 352) (by decide +kernel)⟩
theorem lw_p2 : lw_okq (⟨"MeshWalk$Grower", "begin", "(I)V"⟩, 5) := ⟨⟨by decide +kernel, by decide +kernel⟩, List.mem_of_getElem? (i := 118) (by decide +kernel), List.mem_of_getElem? (i := 439) (by decide +kernel), List.mem_of_getElem? (i := 440) (by decide +kernel)⟩
theorem lw_p3 : lw_okq (⟨"MeshWalk$Grower", "nextOnLine", "(II)I"⟩, 5) := ⟨⟨by decide +kernel, by decide +kernel⟩, List.mem_of_getElem? (i := 118) (by decide +kernel), List.mem_of_getElem? (i := 450) (by decide +kernel), List.mem_of_getElem? (i := 451) (by decide +kernel)⟩
theorem lw_p4 : lw_okq (⟨"MeshWalk$Grower", "putLeftRound", "(III)V"⟩, 5) := ⟨⟨by decide +kernel, by decide +kernel⟩, List.mem_of_getElem? (i := 118) (by decide +kernel), List.mem_of_getElem? (i := 458) (by decide +kernel), List.mem_of_getElem? (i := 459) (by decide +kernel)⟩
theorem lw_p5 : lw_okq (⟨"MeshWalk$Mesh", "holds", "(II)Z"⟩, 9) := ⟨⟨by decide +kernel, by decide +kernel⟩, List.mem_of_getElem? (i := 81) (by decide +kernel), List.mem_of_getElem? (i := 473) (by decide +kernel), List.mem_of_getElem? (i := 474) (by decide +kernel)⟩
theorem lw_p6 : lw_okq (⟨"MeshWalk$Grower", "reachOut", "(I)V"⟩, 5) := ⟨⟨by decide +kernel, by decide +kernel⟩, List.mem_of_getElem? (i := 118) (by decide +kernel), List.mem_of_getElem? (i := 486) (by decide +kernel), List.mem_of_getElem? (i := 487) (by decide +kernel)⟩
theorem lw_p7 : lw_okq (⟨"MeshWalk$Grower", "split", "(II)V"⟩, 5) := ⟨⟨by decide +kernel, by decide +kernel⟩, List.mem_of_getElem? (i := 118) (by decide +kernel), List.mem_of_getElem? (i := 502) (by decide +kernel), List.mem_of_getElem? (i := 503) (by decide +kernel)⟩
theorem lw_p8 : lw_okq (⟨"MeshWalk$Grower", "join", "(III)V"⟩, 5) := ⟨⟨by decide +kernel, by decide +kernel⟩, List.mem_of_getElem? (i := 118) (by decide +kernel), List.mem_of_getElem? (i := 510) (by decide +kernel), List.mem_of_getElem? (i := 511) (by decide +kernel)⟩
theorem lw_p9 : lw_okq (⟨"MeshWalk$Grower", "splitBeyond", "(III)V"⟩, 5) := ⟨⟨by decide +kernel, by decide +kernel⟩, List.mem_of_getElem? (i := 118) (by decide +kernel), List.mem_of_getElem? (i := 514) (by decide +kernel), List.mem_of_getElem? (i := 515) (by decide +kernel)⟩
theorem lw_p10 : lw_okq (⟨"MeshWalk$Mesh", "isGood", "(II)Z"⟩, 9) := ⟨⟨by decide +kernel, by decide +kernel⟩, List.mem_of_getElem? (i := 81) (by decide +kernel), List.mem_of_getElem? (i := 525) (by decide +kernel), List.mem_of_getElem? (i := 526) (by decide +kernel)⟩
theorem lw_p11 : lw_okq (⟨"MeshWalk$Plane", "squareOf", "(II)J"⟩, 4) := ⟨⟨by decide +kernel, by decide +kernel⟩, List.mem_of_getElem? (i := 28) (by decide +kernel), List.mem_of_getElem? (i := 538) (by decide +kernel), List.mem_of_getElem? (i := 539) (by decide +kernel)⟩
theorem lw_p12 : lw_okq (⟨"MeshWalk$Mesh", "giveNumbers", "()V"⟩, 9) := ⟨⟨by decide +kernel, by decide +kernel⟩, List.mem_of_getElem? (i := 81) (by decide +kernel), List.mem_of_getElem? (i := 559) (by decide +kernel), List.mem_of_getElem? (i := 560) (by decide +kernel)⟩
theorem lw_p13 : lw_okq (⟨"MeshWalk$Mesh", "giveNextNumber", "(III)V"⟩, 9) := ⟨⟨by decide +kernel, by decide +kernel⟩, List.mem_of_getElem? (i := 81) (by decide +kernel), List.mem_of_getElem? (i := 563) (by decide +kernel), List.mem_of_getElem? (i := 564) (by decide +kernel)⟩
theorem lw_p14 : lw_okq (⟨"MeshWalk", "needPair", "(II)V"⟩, 5) := ⟨⟨by decide +kernel, by decide +kernel⟩, List.mem_of_getElem? (i := 20) (by decide +kernel), List.mem_of_getElem? (i := 574) (by decide +kernel), List.mem_of_getElem? (i := 575) (by decide +kernel)⟩
theorem lw_p15 : lw_okq (⟨"MeshWalk", "needPoint", "(I)V"⟩, 5) := ⟨⟨by decide +kernel, by decide +kernel⟩, List.mem_of_getElem? (i := 20) (by decide +kernel), List.mem_of_getElem? (i := 578) (by decide +kernel), List.mem_of_getElem? (i := 579) (by decide +kernel)⟩
def lw_privs_1 : List (MethodName × Nat) := [(⟨"MeshWalk", "needPlace", "(II)V"⟩, 5), (⟨"java/lang/Throwable", "fillInStackTrace", "(I)Ljava/lang/Throwable;"⟩, 6), (⟨"MeshWalk$Grower", "begin", "(I)V"⟩, 5), (⟨"MeshWalk$Grower", "nextOnLine", "(II)I"⟩, 5), (⟨"MeshWalk$Grower", "putLeftRound", "(III)V"⟩, 5), (⟨"MeshWalk$Mesh", "holds", "(II)Z"⟩, 9), (⟨"MeshWalk$Grower", "reachOut", "(I)V"⟩, 5), (⟨"MeshWalk$Grower", "split", "(II)V"⟩, 5), (⟨"MeshWalk$Grower", "join", "(III)V"⟩, 5), (⟨"MeshWalk$Grower", "splitBeyond", "(III)V"⟩, 5), (⟨"MeshWalk$Mesh", "isGood", "(II)Z"⟩, 9), (⟨"MeshWalk$Plane", "squareOf", "(II)J"⟩, 4), (⟨"MeshWalk$Mesh", "giveNumbers", "()V"⟩, 9), (⟨"MeshWalk$Mesh", "giveNextNumber", "(III)V"⟩, 9), (⟨"MeshWalk", "needPair", "(II)V"⟩, 5), (⟨"MeshWalk", "needPoint", "(I)V"⟩, 5)]
theorem lw_r1 : ∀ q ∈ lw_privs_1, lw_okq q := List.forall_mem_cons.mpr ⟨lw_p0, List.forall_mem_cons.mpr ⟨lw_p1, List.forall_mem_cons.mpr ⟨lw_p2, List.forall_mem_cons.mpr ⟨lw_p3, List.forall_mem_cons.mpr ⟨lw_p4, List.forall_mem_cons.mpr ⟨lw_p5, List.forall_mem_cons.mpr ⟨lw_p6, List.forall_mem_cons.mpr ⟨lw_p7, List.forall_mem_cons.mpr ⟨lw_p8, List.forall_mem_cons.mpr ⟨lw_p9, List.forall_mem_cons.mpr ⟨lw_p10, List.forall_mem_cons.mpr ⟨lw_p11, List.forall_mem_cons.mpr ⟨lw_p12, List.forall_mem_cons.mpr ⟨lw_p13, List.forall_mem_cons.mpr ⟨lw_p14, List.forall_mem_cons.mpr ⟨lw_p15, fun _ h => absurd h List.not_mem_nil⟩⟩⟩⟩⟩⟩⟩⟩⟩⟩⟩⟩⟩⟩⟩⟩
theorem lw_p16 : lw_okq (⟨"MeshWalk$Links", "doCross", "(IIII)Z"⟩, 3) := ⟨⟨by decide +kernel, by decide +kernel⟩, List.mem_of_getElem? (i := 64) (by decide +kernel), List.mem_of_getElem? (i := 594) (by decide +kernel), List.mem_of_getElem? (i := 595) (by decide +kernel)⟩
theorem lw_p17 : lw_okq (⟨"MeshWalk$Grower", "listCrossing", "(II)V"⟩, 5) := ⟨⟨by decide +kernel, by decide +kernel⟩, List.mem_of_getElem? (i := 118) (by decide +kernel), List.mem_of_getElem? (i := 612) (by decide +kernel), List.mem_of_getElem? (i := 613) (by decide +kernel)⟩
theorem lw_p18 : lw_okq (⟨"MeshWalk$Grower", "firstRight", "(II)I"⟩, 5) := ⟨⟨by decide +kernel, by decide +kernel⟩, List.mem_of_getElem? (i := 118) (by decide +kernel), List.mem_of_getElem? (i := 616) (by decide +kernel), List.mem_of_getElem? (i := 617) (by decide +kernel)⟩
theorem lw_p19 : lw_okq (⟨"MeshWalk$Grower", "flipAtPeak", "(II)V"⟩, 5) := ⟨⟨by decide +kernel, by decide +kernel⟩, List.mem_of_getElem? (i := 118) (by decide +kernel), List.mem_of_getElem? (i := 621) (by decide +kernel), List.mem_of_getElem? (i := 622) (by decide +kernel)⟩
theorem lw_p20 : lw_okq (⟨"MeshWalk$Grower", "peakOf", "(II)I"⟩, 5) := ⟨⟨by decide +kernel, by decide +kernel⟩, List.mem_of_getElem? (i := 118) (by decide +kernel), List.mem_of_getElem? (i := 625) (by decide +kernel), List.mem_of_getElem? (i := 626) (by decide +kernel)⟩
theorem lw_p21 : lw_okq (⟨"MeshWalk$Grower", "canFlip", "(II)Z"⟩, 5) := ⟨⟨by decide +kernel, by decide +kernel⟩, List.mem_of_getElem? (i := 118) (by decide +kernel), List.mem_of_getElem? (i := 630) (by decide +kernel), List.mem_of_getElem? (i := 631) (by decide +kernel)⟩
theorem lw_p22 : lw_okq (⟨"MeshWalk", "needCorner", "(II)V"⟩, 5) := ⟨⟨by decide +kernel, by decide +kernel⟩, List.mem_of_getElem? (i := 20) (by decide +kernel), List.mem_of_getElem? (i := 659) (by decide +kernel), List.mem_of_getElem? (i := 660) (by decide +kernel)⟩
theorem lw_p23 : lw_okq (⟨"MeshWalk$Walk", "countSteps", "(I)V"⟩, 7) := ⟨⟨by decide +kernel, by decide +kernel⟩, List.mem_of_getElem? (i := 140) (by decide +kernel), List.mem_of_getElem? (i := 735) (by decide +kernel), List.mem_of_getElem? (i := 736) (by decide +kernel)⟩
theorem lw_p24 : lw_okq (⟨"MeshWalk$Walk", "nextAfter", "(I)I"⟩, 7) := ⟨⟨by decide +kernel, by decide +kernel⟩, List.mem_of_getElem? (i := 140) (by decide +kernel), List.mem_of_getElem? (i := 746) (by decide +kernel), List.mem_of_getElem? (i := 747) (by decide +kernel)⟩
theorem lw_p25 : lw_okq (⟨"MeshWalk$Walk", "pointOr", "(I)I"⟩, 7) := ⟨⟨by decide +kernel, by decide +kernel⟩, List.mem_of_getElem? (i := 140) (by decide +kernel), List.mem_of_getElem? (i := 754) (by decide +kernel), List.mem_of_getElem? (i := 755) (by decide +kernel)⟩
theorem lw_p26 : lw_okq (⟨"MeshWalk$Walk", "passGate", "(II)V"⟩, 7) := ⟨⟨by decide +kernel, by decide +kernel⟩, List.mem_of_getElem? (i := 140) (by decide +kernel), List.mem_of_getElem? (i := 767) (by decide +kernel), List.mem_of_getElem? (i := 768) (by decide +kernel)⟩
theorem lw_p27 : lw_okq (⟨"MeshWalk$Funnel", "extend", "(LMeshWalk$Chain;LMeshWalk$Chain;I)V"⟩, 8) := ⟨⟨by decide +kernel, by decide +kernel⟩, List.mem_of_getElem? (i := 146) (by decide +kernel), List.mem_of_getElem? (i := 777) (by decide +kernel), List.mem_of_getElem? (i := 778) (by decide +kernel)⟩
theorem lw_p28 : lw_okq (⟨"MeshWalk$Funnel", "bendsOutward", "(LMeshWalk$Chain;I)Z"⟩, 8) := ⟨⟨by decide +kernel, by decide +kernel⟩, List.mem_of_getElem? (i := 146) (by decide +kernel), List.mem_of_getElem? (i := 785) (by decide +kernel), List.mem_of_getElem? (i := 786) (by decide +kernel)⟩
theorem lw_p29 : lw_okq (⟨"MeshWalk$Funnel", "isBeyond", "(LMeshWalk$Chain;I)Z"⟩, 8) := ⟨⟨by decide +kernel, by decide +kernel⟩, List.mem_of_getElem? (i := 146) (by decide +kernel), List.mem_of_getElem? (i := 802) (by decide +kernel), List.mem_of_getElem? (i := 803) (by decide +kernel)⟩
theorem lw_p30 : lw_okq (⟨"MeshWalk$Funnel", "keepTurn", "(I)V"⟩, 8) := ⟨⟨by decide +kernel, by decide +kernel⟩, List.mem_of_getElem? (i := 146) (by decide +kernel), List.mem_of_getElem? (i := 810) (by decide +kernel), List.mem_of_getElem? (i := 811) (by decide +kernel)⟩
theorem lw_p31 : lw_okq (⟨"MeshWalkModel", "refused", "(I)Z"⟩, 18) := ⟨⟨by decide +kernel, by decide +kernel⟩, List.mem_of_getElem? (i := 830) (by decide +kernel), List.mem_of_getElem? (i := 908) (by decide +kernel), List.mem_of_getElem? (i := 909) (by decide +kernel)⟩
def lw_privs_2 : List (MethodName × Nat) := [(⟨"MeshWalk$Links", "doCross", "(IIII)Z"⟩, 3), (⟨"MeshWalk$Grower", "listCrossing", "(II)V"⟩, 5), (⟨"MeshWalk$Grower", "firstRight", "(II)I"⟩, 5), (⟨"MeshWalk$Grower", "flipAtPeak", "(II)V"⟩, 5), (⟨"MeshWalk$Grower", "peakOf", "(II)I"⟩, 5), (⟨"MeshWalk$Grower", "canFlip", "(II)Z"⟩, 5), (⟨"MeshWalk", "needCorner", "(II)V"⟩, 5), (⟨"MeshWalk$Walk", "countSteps", "(I)V"⟩, 7), (⟨"MeshWalk$Walk", "nextAfter", "(I)I"⟩, 7), (⟨"MeshWalk$Walk", "pointOr", "(I)I"⟩, 7), (⟨"MeshWalk$Walk", "passGate", "(II)V"⟩, 7), (⟨"MeshWalk$Funnel", "extend", "(LMeshWalk$Chain;LMeshWalk$Chain;I)V"⟩, 8), (⟨"MeshWalk$Funnel", "bendsOutward", "(LMeshWalk$Chain;I)Z"⟩, 8), (⟨"MeshWalk$Funnel", "isBeyond", "(LMeshWalk$Chain;I)Z"⟩, 8), (⟨"MeshWalk$Funnel", "keepTurn", "(I)V"⟩, 8), (⟨"MeshWalkModel", "refused", "(I)Z"⟩, 18)]
theorem lw_r2 : ∀ q ∈ lw_privs_2, lw_okq q := List.forall_mem_cons.mpr ⟨lw_p16, List.forall_mem_cons.mpr ⟨lw_p17, List.forall_mem_cons.mpr ⟨lw_p18, List.forall_mem_cons.mpr ⟨lw_p19, List.forall_mem_cons.mpr ⟨lw_p20, List.forall_mem_cons.mpr ⟨lw_p21, List.forall_mem_cons.mpr ⟨lw_p22, List.forall_mem_cons.mpr ⟨lw_p23, List.forall_mem_cons.mpr ⟨lw_p24, List.forall_mem_cons.mpr ⟨lw_p25, List.forall_mem_cons.mpr ⟨lw_p26, List.forall_mem_cons.mpr ⟨lw_p27, List.forall_mem_cons.mpr ⟨lw_p28, List.forall_mem_cons.mpr ⟨lw_p29, List.forall_mem_cons.mpr ⟨lw_p30, List.forall_mem_cons.mpr ⟨lw_p31, fun _ h => absurd h List.not_mem_nil⟩⟩⟩⟩⟩⟩⟩⟩⟩⟩⟩⟩⟩⟩⟩⟩
theorem lw_p32 : lw_okq (⟨"MeshWalkModel", "isOn", "(III)Z"⟩, 18) := ⟨⟨by decide +kernel, by decide +kernel⟩, List.mem_of_getElem? (i := 830) (by decide +kernel), List.mem_of_getElem? (i := 912) (by decide +kernel), List.mem_of_getElem? (i := 913) (by decide +kernel)⟩
theorem lw_p33 : lw_okq (⟨"MeshWalkModel", "sideOf", "(III)I"⟩, 18) := ⟨⟨by decide +kernel, by decide +kernel⟩, List.mem_of_getElem? (i := 830) (by decide +kernel), List.mem_of_getElem? (i := 916) (by decide +kernel), List.mem_of_getElem? (i := 917) (by decide +kernel)⟩
theorem lw_p34 : lw_okq (⟨"MeshWalkModel", "isPair", "(II)Z"⟩, 18) := ⟨⟨by decide +kernel, by decide +kernel⟩, List.mem_of_getElem? (i := 830) (by decide +kernel), List.mem_of_getElem? (i := 924) (by decide +kernel), List.mem_of_getElem? (i := 925) (by decide +kernel)⟩
theorem lw_p35 : lw_okq (⟨"MeshWalkModel", "isPoint", "(I)Z"⟩, 18) := ⟨⟨by decide +kernel, by decide +kernel⟩, List.mem_of_getElem? (i := 830) (by decide +kernel), List.mem_of_getElem? (i := 928) (by decide +kernel), List.mem_of_getElem? (i := 929) (by decide +kernel)⟩
theorem lw_p36 : lw_okq (⟨"MeshWalkModel", "fits", "(II[Z)Z"⟩, 18) := ⟨⟨by decide +kernel, by decide +kernel⟩, List.mem_of_getElem? (i := 830) (by decide +kernel), List.mem_of_getElem? (i := 932) (by decide +kernel), List.mem_of_getElem? (i := 933) (by decide +kernel)⟩
theorem lw_p37 : lw_okq (⟨"MeshWalkModel", "cross", "(IIII)Z"⟩, 18) := ⟨⟨by decide +kernel, by decide +kernel⟩, List.mem_of_getElem? (i := 830) (by decide +kernel), List.mem_of_getElem? (i := 936) (by decide +kernel), List.mem_of_getElem? (i := 937) (by decide +kernel)⟩
theorem lw_p38 : lw_okq (⟨"MeshWalkModel", "mesh", "()V"⟩, 18) := ⟨⟨by decide +kernel, by decide +kernel⟩, List.mem_of_getElem? (i := 830) (by decide +kernel), List.mem_of_getElem? (i := 952) (by decide +kernel), List.mem_of_getElem? (i := 953) (by decide +kernel)⟩
theorem lw_p39 : lw_okq (⟨"MeshWalkModel", "isFlat", "()Z"⟩, 18) := ⟨⟨by decide +kernel, by decide +kernel⟩, List.mem_of_getElem? (i := 830) (by decide +kernel), List.mem_of_getElem? (i := 956) (by decide +kernel), List.mem_of_getElem? (i := 957) (by decide +kernel)⟩
theorem lw_p40 : lw_okq (⟨"MeshWalkModel", "mark", "(IIZ)V"⟩, 18) := ⟨⟨by decide +kernel, by decide +kernel⟩, List.mem_of_getElem? (i := 830) (by decide +kernel), List.mem_of_getElem? (i := 960) (by decide +kernel), List.mem_of_getElem? (i := 961) (by decide +kernel)⟩
theorem lw_p41 : lw_okq (⟨"MeshWalkModel", "turn", "(II)Z"⟩, 18) := ⟨⟨by decide +kernel, by decide +kernel⟩, List.mem_of_getElem? (i := 830) (by decide +kernel), List.mem_of_getElem? (i := 964) (by decide +kernel), List.mem_of_getElem? (i := 965) (by decide +kernel)⟩
theorem lw_p42 : lw_okq (⟨"MeshWalkModel", "apex", "(II)I"⟩, 18) := ⟨⟨by decide +kernel, by decide +kernel⟩, List.mem_of_getElem? (i := 830) (by decide +kernel), List.mem_of_getElem? (i := 968) (by decide +kernel), List.mem_of_getElem? (i := 969) (by decide +kernel)⟩
theorem lw_p43 : lw_okq (⟨"MeshWalkModel", "isTriangle", "(III)Z"⟩, 18) := ⟨⟨by decide +kernel, by decide +kernel⟩, List.mem_of_getElem? (i := 830) (by decide +kernel), List.mem_of_getElem? (i := 972) (by decide +kernel), List.mem_of_getElem? (i := 973) (by decide +kernel)⟩
theorem lw_p44 : lw_okq (⟨"MeshWalkModel", "isEmpty", "(III)Z"⟩, 18) := ⟨⟨by decide +kernel, by decide +kernel⟩, List.mem_of_getElem? (i := 830) (by decide +kernel), List.mem_of_getElem? (i := 976) (by decide +kernel), List.mem_of_getElem? (i := 977) (by decide +kernel)⟩
theorem lw_p45 : lw_okq (⟨"MeshWalkModel", "inCircle", "(IIII)I"⟩, 18) := ⟨⟨by decide +kernel, by decide +kernel⟩, List.mem_of_getElem? (i := 830) (by decide +kernel), List.mem_of_getElem? (i := 980) (by decide +kernel), List.mem_of_getElem? (i := 981) (by decide +kernel)⟩
theorem lw_p46 : lw_okq (⟨"MeshWalkModel", "addProduct", "(JJ)V"⟩, 18) := ⟨⟨by decide +kernel, by decide +kernel⟩, List.mem_of_getElem? (i := 830) (by decide +kernel), List.mem_of_getElem? (i := 984) (by decide +kernel), List.mem_of_getElem? (i := 985) (by decide +kernel)⟩
theorem lw_p47 : lw_okq (⟨"MeshWalkModel", "with", "(II)I"⟩, 18) := ⟨⟨by decide +kernel, by decide +kernel⟩, List.mem_of_getElem? (i := 830) (by decide +kernel), List.mem_of_getElem? (i := 993) (by decide +kernel), List.mem_of_getElem? (i := 994) (by decide +kernel)⟩
def lw_privs_3 : List (MethodName × Nat) := [(⟨"MeshWalkModel", "isOn", "(III)Z"⟩, 18), (⟨"MeshWalkModel", "sideOf", "(III)I"⟩, 18), (⟨"MeshWalkModel", "isPair", "(II)Z"⟩, 18), (⟨"MeshWalkModel", "isPoint", "(I)Z"⟩, 18), (⟨"MeshWalkModel", "fits", "(II[Z)Z"⟩, 18), (⟨"MeshWalkModel", "cross", "(IIII)Z"⟩, 18), (⟨"MeshWalkModel", "mesh", "()V"⟩, 18), (⟨"MeshWalkModel", "isFlat", "()Z"⟩, 18), (⟨"MeshWalkModel", "mark", "(IIZ)V"⟩, 18), (⟨"MeshWalkModel", "turn", "(II)Z"⟩, 18), (⟨"MeshWalkModel", "apex", "(II)I"⟩, 18), (⟨"MeshWalkModel", "isTriangle", "(III)Z"⟩, 18), (⟨"MeshWalkModel", "isEmpty", "(III)Z"⟩, 18), (⟨"MeshWalkModel", "inCircle", "(IIII)I"⟩, 18), (⟨"MeshWalkModel", "addProduct", "(JJ)V"⟩, 18), (⟨"MeshWalkModel", "with", "(II)I"⟩, 18)]
theorem lw_r3 : ∀ q ∈ lw_privs_3, lw_okq q := List.forall_mem_cons.mpr ⟨lw_p32, List.forall_mem_cons.mpr ⟨lw_p33, List.forall_mem_cons.mpr ⟨lw_p34, List.forall_mem_cons.mpr ⟨lw_p35, List.forall_mem_cons.mpr ⟨lw_p36, List.forall_mem_cons.mpr ⟨lw_p37, List.forall_mem_cons.mpr ⟨lw_p38, List.forall_mem_cons.mpr ⟨lw_p39, List.forall_mem_cons.mpr ⟨lw_p40, List.forall_mem_cons.mpr ⟨lw_p41, List.forall_mem_cons.mpr ⟨lw_p42, List.forall_mem_cons.mpr ⟨lw_p43, List.forall_mem_cons.mpr ⟨lw_p44, List.forall_mem_cons.mpr ⟨lw_p45, List.forall_mem_cons.mpr ⟨lw_p46, List.forall_mem_cons.mpr ⟨lw_p47, fun _ h => absurd h List.not_mem_nil⟩⟩⟩⟩⟩⟩⟩⟩⟩⟩⟩⟩⟩⟩⟩⟩
theorem lw_p48 : lw_okq (⟨"MeshWalkModel", "isCorner", "(II)Z"⟩, 18) := ⟨⟨by decide +kernel, by decide +kernel⟩, List.mem_of_getElem? (i := 830) (by decide +kernel), List.mem_of_getElem? (i := 1001) (by decide +kernel), List.mem_of_getElem? (i := 1002) (by decide +kernel)⟩
theorem lw_p49 : lw_okq (⟨"MeshWalkModel", "find", "(I)I"⟩, 18) := ⟨⟨by decide +kernel, by decide +kernel⟩, List.mem_of_getElem? (i := 830) (by decide +kernel), List.mem_of_getElem? (i := 1025) (by decide +kernel), List.mem_of_getElem? (i := 1026) (by decide +kernel)⟩
theorem lw_p50 : lw_okq (⟨"MeshWalkModel", "measure", "(I)V"⟩, 18) := ⟨⟨by decide +kernel, by decide +kernel⟩, List.mem_of_getElem? (i := 830) (by decide +kernel), List.mem_of_getElem? (i := 1033) (by decide +kernel), List.mem_of_getElem? (i := 1034) (by decide +kernel)⟩
theorem lw_p51 : lw_okq (⟨"MeshWalkModel", "behind", "(II)I"⟩, 18) := ⟨⟨by decide +kernel, by decide +kernel⟩, List.mem_of_getElem? (i := 830) (by decide +kernel), List.mem_of_getElem? (i := 1037) (by decide +kernel), List.mem_of_getElem? (i := 1038) (by decide +kernel)⟩
theorem lw_p52 : lw_okq (⟨"MeshWalkModel", "step", "(I)V"⟩, 18) := ⟨⟨by decide +kernel, by decide +kernel⟩, List.mem_of_getElem? (i := 830) (by decide +kernel), List.mem_of_getElem? (i := 1041) (by decide +kernel), List.mem_of_getElem? (i := 1042) (by decide +kernel)⟩
theorem lw_p53 : lw_okq (⟨"MeshWalkModel", "pull", "()V"⟩, 18) := ⟨⟨by decide +kernel, by decide +kernel⟩, List.mem_of_getElem? (i := 830) (by decide +kernel), List.mem_of_getElem? (i := 1045) (by decide +kernel), List.mem_of_getElem? (i := 1046) (by decide +kernel)⟩
theorem lw_p54 : lw_okq (⟨"MeshWalkModel", "straighten", "()V"⟩, 18) := ⟨⟨by decide +kernel, by decide +kernel⟩, List.mem_of_getElem? (i := 830) (by decide +kernel), List.mem_of_getElem? (i := 1049) (by decide +kernel), List.mem_of_getElem? (i := 1050) (by decide +kernel)⟩
theorem lw_p55 : lw_okq (⟨"MeshWalkModel", "isTurn", "(I)Z"⟩, 18) := ⟨⟨by decide +kernel, by decide +kernel⟩, List.mem_of_getElem? (i := 830) (by decide +kernel), List.mem_of_getElem? (i := 1053) (by decide +kernel), List.mem_of_getElem? (i := 1054) (by decide +kernel)⟩
theorem lw_p56 : lw_okq (⟨"MeshWalkModel", "pointAt", "(I)I"⟩, 18) := ⟨⟨by decide +kernel, by decide +kernel⟩, List.mem_of_getElem? (i := 830) (by decide +kernel), List.mem_of_getElem? (i := 1057) (by decide +kernel), List.mem_of_getElem? (i := 1058) (by decide +kernel)⟩
def lw_privs_4 : List (MethodName × Nat) := [(⟨"MeshWalkModel", "isCorner", "(II)Z"⟩, 18), (⟨"MeshWalkModel", "find", "(I)I"⟩, 18), (⟨"MeshWalkModel", "measure", "(I)V"⟩, 18), (⟨"MeshWalkModel", "behind", "(II)I"⟩, 18), (⟨"MeshWalkModel", "step", "(I)V"⟩, 18), (⟨"MeshWalkModel", "pull", "()V"⟩, 18), (⟨"MeshWalkModel", "straighten", "()V"⟩, 18), (⟨"MeshWalkModel", "isTurn", "(I)Z"⟩, 18), (⟨"MeshWalkModel", "pointAt", "(I)I"⟩, 18)]
theorem lw_r4 : ∀ q ∈ lw_privs_4, lw_okq q := List.forall_mem_cons.mpr ⟨lw_p48, List.forall_mem_cons.mpr ⟨lw_p49, List.forall_mem_cons.mpr ⟨lw_p50, List.forall_mem_cons.mpr ⟨lw_p51, List.forall_mem_cons.mpr ⟨lw_p52, List.forall_mem_cons.mpr ⟨lw_p53, List.forall_mem_cons.mpr ⟨lw_p54, List.forall_mem_cons.mpr ⟨lw_p55, List.forall_mem_cons.mpr ⟨lw_p56, fun _ h => absurd h List.not_mem_nil⟩⟩⟩⟩⟩⟩⟩⟩⟩
def lw_privs : List (MethodName × Nat) := lw_privs_1 ++ (lw_privs_2 ++ (lw_privs_3 ++ (lw_privs_4)))
def lw_tbl : List Cond := k2_sels lw_privs ++ tables_1
theorem lw_privs_ok : ∀ q ∈ lw_privs, lw_okq q := by
  show ∀ q ∈ lw_privs_1 ++ (lw_privs_2 ++ (lw_privs_3 ++ (lw_privs_4))), lw_okq q
  exact List.forall_mem_append.mpr ⟨lw_r1, List.forall_mem_append.mpr ⟨lw_r2, List.forall_mem_append.mpr ⟨lw_r3, lw_r4⟩⟩⟩
end
section
/-! the small machine: its tables, by program (wip/gen/names.py) out of the words of tables_1 -/
def mGood (w : Cond) : Bool := goodWord w || (match w with | .fieldLinkNest .. => true | .methodLinkNest .. => true | .castable .. => true | .declares .. => true | _ => false)
def mTbl : List Cond := lw_tbl.filter mGood
theorem mTbl_of {i : Nat} {w : Cond} (h : lw_tbl[i]? = some w) (g : mGood w = true) : w ∈ mTbl := List.mem_filter.mpr ⟨List.mem_of_getElem? h, g⟩
def mNm : List String := ["MeshWalk$Chain", "MeshWalk$Funnel", "MeshWalk$Grower", "MeshWalk$Links", "MeshWalk$Mesh", "MeshWalk$Plane", "MeshWalk$Walk", "MeshWalk$WideSum", "MeshWalk", "MeshWalkModel", "java/lang/IllegalArgumentException", "java/lang/IllegalStateException", "java/lang/IndexOutOfBoundsException", "MeshWalkLaw", "java/util/Arrays", "java/lang/Math"]
def mNmOf (c : Nat) : String := mNm.getD c ""
def mT0 : u_T := fun k => match k with
  | 0 => ("MeshWalk$Chain", "hand", "I", true)
  | 1 => ("MeshWalk$Chain", "row", "[I", true)
  | 2 => ("MeshWalk$Chain", "head", "I", false)
  | _ => ("MeshWalk$Chain", "tail", "I", false)
def mty0 : Nat → FieldType := fun k => match k with
  | 0 => .int
  | 1 => .array .int
  | 2 => .int
  | _ => .int
def mT1 : u_T := fun k => match k with
  | 0 => ("MeshWalk$Funnel", "plane", "LMeshWalk$Plane;", true)
  | 1 => ("MeshWalk$Funnel", "left", "LMeshWalk$Chain;", true)
  | 2 => ("MeshWalk$Funnel", "right", "LMeshWalk$Chain;", true)
  | 3 => ("MeshWalk$Funnel", "tip", "I", false)
  | 4 => ("MeshWalk$Funnel", "leftEnd", "I", false)
  | 5 => ("MeshWalk$Funnel", "rightEnd", "I", false)
  | 6 => ("MeshWalk$Funnel", "turns", "[I", true)
  | _ => ("MeshWalk$Funnel", "size", "I", false)
def mty1 : Nat → FieldType := fun k => match k with
  | 0 => .object "MeshWalk$Plane"
  | 1 => .object "MeshWalk$Chain"
  | 2 => .object "MeshWalk$Chain"
  | 3 => .int
  | 4 => .int
  | 5 => .int
  | 6 => .array .int
  | _ => .int
def mT2 : u_T := fun k => match k with
  | 0 => ("MeshWalk$Grower", "plane", "LMeshWalk$Plane;", true)
  | 1 => ("MeshWalk$Grower", "mesh", "LMeshWalk$Mesh;", true)
  | 2 => ("MeshWalk$Grower", "lefts", "[I", true)
  | 3 => ("MeshWalk$Grower", "rights", "[I", true)
  | _ => ("MeshWalk$Grower", "crossing", "I", false)
def mty2 : Nat → FieldType := fun k => match k with
  | 0 => .object "MeshWalk$Plane"
  | 1 => .object "MeshWalk$Mesh"
  | 2 => .array .int
  | 3 => .array .int
  | _ => .int
def mT3 : u_T := fun k => match k with
  | 0 => ("MeshWalk$Links", "plane", "LMeshWalk$Plane;", true)
  | 1 => ("MeshWalk$Links", "linked", "[J", true)
  | _ => ("MeshWalk$Links", "size", "I", false)
def mty3 : Nat → FieldType := fun k => match k with
  | 0 => .object "MeshWalk$Plane"
  | 1 => .array .long
  | _ => .int
def mT4 : u_T := fun k => match k with
  | 0 => ("MeshWalk$Mesh", "plane", "LMeshWalk$Plane;", true)
  | 1 => ("MeshWalk$Mesh", "links", "LMeshWalk$Links;", true)
  | 2 => ("MeshWalk$Mesh", "thirds", "[I", true)
  | 3 => ("MeshWalk$Mesh", "numbers", "[I", true)
  | 4 => ("MeshWalk$Mesh", "corners", "[I", true)
  | 5 => ("MeshWalk$Mesh", "size", "I", false)
  | 6 => ("MeshWalk$Mesh", "suspects", "[I", true)
  | 7 => ("MeshWalk$Mesh", "pending", "I", false)
  | _ => ("MeshWalk$Mesh", "suspected", "[J", true)
def mty4 : Nat → FieldType := fun k => match k with
  | 0 => .object "MeshWalk$Plane"
  | 1 => .object "MeshWalk$Links"
  | 2 => .array .int
  | 3 => .array .int
  | 4 => .array .int
  | 5 => .int
  | 6 => .array .int
  | 7 => .int
  | _ => .array .long
def mT5 : u_T := fun k => match k with
  | 0 => ("MeshWalk$Plane", "xs", "[I", true)
  | 1 => ("MeshWalk$Plane", "ys", "[I", true)
  | 2 => ("MeshWalk$Plane", "sum", "LMeshWalk$WideSum;", true)
  | _ => ("MeshWalk$Plane", "size", "I", false)
def mty5 : Nat → FieldType := fun k => match k with
  | 0 => .array .int
  | 1 => .array .int
  | 2 => .object "MeshWalk$WideSum"
  | _ => .int
def mT6 : u_T := fun k => match k with
  | 0 => ("MeshWalk$Walk", "plane", "LMeshWalk$Plane;", true)
  | 1 => ("MeshWalk$Walk", "mesh", "LMeshWalk$Mesh;", true)
  | 2 => ("MeshWalk$Walk", "funnel", "LMeshWalk$Funnel;", true)
  | 3 => ("MeshWalk$Walk", "row", "[I", true)
  | 4 => ("MeshWalk$Walk", "length", "I", false)
  | 5 => ("MeshWalk$Walk", "steps", "[I", true)
  | _ => ("MeshWalk$Walk", "queue", "[I", true)
def mty6 : Nat → FieldType := fun k => match k with
  | 0 => .object "MeshWalk$Plane"
  | 1 => .object "MeshWalk$Mesh"
  | 2 => .object "MeshWalk$Funnel"
  | 3 => .array .int
  | 4 => .int
  | 5 => .array .int
  | _ => .array .int
def mT7 : u_T := fun k => match k with
  | 0 => ("MeshWalk$WideSum", "high", "J", false)
  | 1 => ("MeshWalk$WideSum", "middle", "J", false)
  | _ => ("MeshWalk$WideSum", "low", "J", false)
def mty7 : Nat → FieldType := fun k => match k with
  | 0 => .long
  | 1 => .long
  | _ => .long
def mT8 : u_T := fun k => match k with
  | 0 => ("MeshWalk", "plane", "LMeshWalk$Plane;", true)
  | 1 => ("MeshWalk", "links", "LMeshWalk$Links;", true)
  | 2 => ("MeshWalk", "mesh", "LMeshWalk$Mesh;", true)
  | 3 => ("MeshWalk", "grower", "LMeshWalk$Grower;", true)
  | _ => ("MeshWalk", "walk", "LMeshWalk$Walk;", true)
def mty8 : Nat → FieldType := fun k => match k with
  | 0 => .object "MeshWalk$Plane"
  | 1 => .object "MeshWalk$Links"
  | 2 => .object "MeshWalk$Mesh"
  | 3 => .object "MeshWalk$Grower"
  | _ => .object "MeshWalk$Walk"
def mT9 : u_T := fun k => match k with
  | 0 => ("MeshWalkModel", "refusal", "I", false)
  | 1 => ("MeshWalkModel", "points", "I", false)
  | 2 => ("MeshWalkModel", "xs", "[J", true)
  | 3 => ("MeshWalkModel", "ys", "[J", true)
  | 4 => ("MeshWalkModel", "links", "[Z", true)
  | 5 => ("MeshWalkModel", "edges", "[Z", true)
  | 6 => ("MeshWalkModel", "isCurrent", "Z", false)
  | 7 => ("MeshWalkModel", "triangles", "I", false)
  | 8 => ("MeshWalkModel", "corners", "[I", true)
  | 9 => ("MeshWalkModel", "rowSize", "I", false)
  | 10 => ("MeshWalkModel", "row", "[I", true)
  | 11 => ("MeshWalkModel", "turns", "I", false)
  | 12 => ("MeshWalkModel", "turned", "[I", true)
  | 13 => ("MeshWalkModel", "distances", "[I", true)
  | 14 => ("MeshWalkModel", "lefts", "[I", true)
  | 15 => ("MeshWalkModel", "rights", "[I", true)
  | 16 => ("MeshWalkModel", "high", "J", false)
  | _ => ("MeshWalkModel", "low", "J", false)
def mty9 : Nat → FieldType := fun k => match k with
  | 0 => .int
  | 1 => .int
  | 2 => .array .long
  | 3 => .array .long
  | 4 => .array .boolean
  | 5 => .array .boolean
  | 6 => .boolean
  | 7 => .int
  | 8 => .array .int
  | 9 => .int
  | 10 => .array .int
  | 11 => .int
  | 12 => .array .int
  | 13 => .array .int
  | 14 => .array .int
  | 15 => .array .int
  | 16 => .long
  | _ => .long
def mT10 : u_T := fun _ => ("", "", "", false)
def mty10 : Nat → FieldType := fun _ => .int
def mcl : List vw_C := [("MeshWalk$Chain", mT0, 4), ("MeshWalk$Funnel", mT1, 8), ("MeshWalk$Grower", mT2, 5), ("MeshWalk$Links", mT3, 3), ("MeshWalk$Mesh", mT4, 9), ("MeshWalk$Plane", mT5, 4), ("MeshWalk$Walk", mT6, 7), ("MeshWalk$WideSum", mT7, 3), ("MeshWalk", mT8, 5), ("MeshWalkModel", mT9, 18), ("java/lang/IllegalArgumentException", mT10, 0), ("java/lang/IllegalStateException", mT10, 0), ("java/lang/IndexOutOfBoundsException", mT10, 0)]
def mty (c : Nat) : Nat → FieldType := match c with
  | 0 => mty0
  | 1 => mty1
  | 2 => mty2
  | 3 => mty3
  | 4 => mty4
  | 5 => mty5
  | 6 => mty6
  | 7 => mty7
  | 8 => mty8
  | 9 => mty9
  | _ => mty10
set_option maxRecDepth 20000 in
theorem mlay0 : ∀ w ∈ u_ws "MeshWalk$Chain" mT0 4, w ∈ mTbl := by
  have h : (u_ws "MeshWalk$Chain" mT0 4) = [219, 221, 223, 225].filterMap (fun i => lw_tbl[i]?) := by decide +kernel
  have g : (u_ws "MeshWalk$Chain" mT0 4).all mGood = true := by decide +kernel
  intro w hw
  refine List.mem_filter.mpr ⟨?_, List.all_eq_true.mp g w hw⟩
  rw [h] at hw
  obtain ⟨i, -, hi⟩ := List.mem_filterMap.mp hw
  exact List.mem_of_getElem? hi
theorem mnm0 : ∀ a, a < 4 → ∀ b, b < 4 → a ≠ b → (mT0 a).2.1 ≠ (mT0 b).2.1 := by decide +kernel
theorem mtyok0 : ∀ k, k < 4 → parseFieldDescriptor (mT0 k).2.2.1 = some (mty0 k) := by decide +kernel
set_option maxRecDepth 20000 in
theorem mlay1 : ∀ w ∈ u_ws "MeshWalk$Funnel" mT1 8, w ∈ mTbl := by
  have h : (u_ws "MeshWalk$Funnel" mT1 8) = [236, 238, 240, 242, 244, 246, 248, 250].filterMap (fun i => lw_tbl[i]?) := by decide +kernel
  have g : (u_ws "MeshWalk$Funnel" mT1 8).all mGood = true := by decide +kernel
  intro w hw
  refine List.mem_filter.mpr ⟨?_, List.all_eq_true.mp g w hw⟩
  rw [h] at hw
  obtain ⟨i, -, hi⟩ := List.mem_filterMap.mp hw
  exact List.mem_of_getElem? hi
theorem mnm1 : ∀ a, a < 8 → ∀ b, b < 8 → a ≠ b → (mT1 a).2.1 ≠ (mT1 b).2.1 := by decide +kernel
theorem mtyok1 : ∀ k, k < 8 → parseFieldDescriptor (mT1 k).2.2.1 = some (mty1 k) := by decide +kernel
set_option maxRecDepth 20000 in
theorem mlay2 : ∀ w ∈ u_ws "MeshWalk$Grower" mT2 5, w ∈ mTbl := by
  have h : (u_ws "MeshWalk$Grower" mT2 5) = [185, 187, 189, 191, 193].filterMap (fun i => lw_tbl[i]?) := by decide +kernel
  have g : (u_ws "MeshWalk$Grower" mT2 5).all mGood = true := by decide +kernel
  intro w hw
  refine List.mem_filter.mpr ⟨?_, List.all_eq_true.mp g w hw⟩
  rw [h] at hw
  obtain ⟨i, -, hi⟩ := List.mem_filterMap.mp hw
  exact List.mem_of_getElem? hi
theorem mnm2 : ∀ a, a < 5 → ∀ b, b < 5 → a ≠ b → (mT2 a).2.1 ≠ (mT2 b).2.1 := by decide +kernel
theorem mtyok2 : ∀ k, k < 5 → parseFieldDescriptor (mT2 k).2.2.1 = some (mty2 k) := by decide +kernel
set_option maxRecDepth 20000 in
theorem mlay3 : ∀ w ∈ u_ws "MeshWalk$Links" mT3 3, w ∈ mTbl := by
  have h : (u_ws "MeshWalk$Links" mT3 3) = [129, 131, 133].filterMap (fun i => lw_tbl[i]?) := by decide +kernel
  have g : (u_ws "MeshWalk$Links" mT3 3).all mGood = true := by decide +kernel
  intro w hw
  refine List.mem_filter.mpr ⟨?_, List.all_eq_true.mp g w hw⟩
  rw [h] at hw
  obtain ⟨i, -, hi⟩ := List.mem_filterMap.mp hw
  exact List.mem_of_getElem? hi
theorem mnm3 : ∀ a, a < 3 → ∀ b, b < 3 → a ≠ b → (mT3 a).2.1 ≠ (mT3 b).2.1 := by decide +kernel
theorem mtyok3 : ∀ k, k < 3 → parseFieldDescriptor (mT3 k).2.2.1 = some (mty3 k) := by decide +kernel
set_option maxRecDepth 20000 in
theorem mlay4 : ∀ w ∈ u_ws "MeshWalk$Mesh" mT4 9, w ∈ mTbl := by
  have h : (u_ws "MeshWalk$Mesh" mT4 9) = [155, 157, 159, 161, 163, 165, 167, 169, 171].filterMap (fun i => lw_tbl[i]?) := by decide +kernel
  have g : (u_ws "MeshWalk$Mesh" mT4 9).all mGood = true := by decide +kernel
  intro w hw
  refine List.mem_filter.mpr ⟨?_, List.all_eq_true.mp g w hw⟩
  rw [h] at hw
  obtain ⟨i, -, hi⟩ := List.mem_filterMap.mp hw
  exact List.mem_of_getElem? hi
theorem mnm4 : ∀ a, a < 9 → ∀ b, b < 9 → a ≠ b → (mT4 a).2.1 ≠ (mT4 b).2.1 := by decide +kernel
theorem mtyok4 : ∀ k, k < 9 → parseFieldDescriptor (mT4 k).2.2.1 = some (mty4 k) := by decide +kernel
set_option maxRecDepth 20000 in
theorem mlay5 : ∀ w ∈ u_ws "MeshWalk$Plane" mT5 4, w ∈ mTbl := by
  have h : (u_ws "MeshWalk$Plane" mT5 4) = [111, 113, 115, 117].filterMap (fun i => lw_tbl[i]?) := by decide +kernel
  have g : (u_ws "MeshWalk$Plane" mT5 4).all mGood = true := by decide +kernel
  intro w hw
  refine List.mem_filter.mpr ⟨?_, List.all_eq_true.mp g w hw⟩
  rw [h] at hw
  obtain ⟨i, -, hi⟩ := List.mem_filterMap.mp hw
  exact List.mem_of_getElem? hi
theorem mnm5 : ∀ a, a < 4 → ∀ b, b < 4 → a ≠ b → (mT5 a).2.1 ≠ (mT5 b).2.1 := by decide +kernel
theorem mtyok5 : ∀ k, k < 4 → parseFieldDescriptor (mT5 k).2.2.1 = some (mty5 k) := by decide +kernel
set_option maxRecDepth 20000 in
theorem mlay6 : ∀ w ∈ u_ws "MeshWalk$Walk" mT6 7, w ∈ mTbl := by
  have h : (u_ws "MeshWalk$Walk" mT6 7) = [260, 262, 264, 266, 268, 270, 272].filterMap (fun i => lw_tbl[i]?) := by decide +kernel
  have g : (u_ws "MeshWalk$Walk" mT6 7).all mGood = true := by decide +kernel
  intro w hw
  refine List.mem_filter.mpr ⟨?_, List.all_eq_true.mp g w hw⟩
  rw [h] at hw
  obtain ⟨i, -, hi⟩ := List.mem_filterMap.mp hw
  exact List.mem_of_getElem? hi
theorem mnm6 : ∀ a, a < 7 → ∀ b, b < 7 → a ≠ b → (mT6 a).2.1 ≠ (mT6 b).2.1 := by decide +kernel
theorem mtyok6 : ∀ k, k < 7 → parseFieldDescriptor (mT6 k).2.2.1 = some (mty6 k) := by decide +kernel
set_option maxRecDepth 20000 in
theorem mlay7 : ∀ w ∈ u_ws "MeshWalk$WideSum" mT7 3, w ∈ mTbl := by
  have h : (u_ws "MeshWalk$WideSum" mT7 3) = [99, 101, 103].filterMap (fun i => lw_tbl[i]?) := by decide +kernel
  have g : (u_ws "MeshWalk$WideSum" mT7 3).all mGood = true := by decide +kernel
  intro w hw
  refine List.mem_filter.mpr ⟨?_, List.all_eq_true.mp g w hw⟩
  rw [h] at hw
  obtain ⟨i, -, hi⟩ := List.mem_filterMap.mp hw
  exact List.mem_of_getElem? hi
theorem mnm7 : ∀ a, a < 3 → ∀ b, b < 3 → a ≠ b → (mT7 a).2.1 ≠ (mT7 b).2.1 := by decide +kernel
theorem mtyok7 : ∀ k, k < 3 → parseFieldDescriptor (mT7 k).2.2.1 = some (mty7 k) := by decide +kernel
set_option maxRecDepth 20000 in
theorem mlay8 : ∀ w ∈ u_ws "MeshWalk" mT8 5, w ∈ mTbl := by
  have h : (u_ws "MeshWalk" mT8 5) = [280, 282, 284, 286, 288].filterMap (fun i => lw_tbl[i]?) := by decide +kernel
  have g : (u_ws "MeshWalk" mT8 5).all mGood = true := by decide +kernel
  intro w hw
  refine List.mem_filter.mpr ⟨?_, List.all_eq_true.mp g w hw⟩
  rw [h] at hw
  obtain ⟨i, -, hi⟩ := List.mem_filterMap.mp hw
  exact List.mem_of_getElem? hi
theorem mnm8 : ∀ a, a < 5 → ∀ b, b < 5 → a ≠ b → (mT8 a).2.1 ≠ (mT8 b).2.1 := by decide +kernel
theorem mtyok8 : ∀ k, k < 5 → parseFieldDescriptor (mT8 k).2.2.1 = some (mty8 k) := by decide +kernel
set_option maxRecDepth 20000 in
theorem mlay9 : ∀ w ∈ u_ws "MeshWalkModel" mT9 18, w ∈ mTbl := by
  have h : (u_ws "MeshWalkModel" mT9 18) = [910, 912, 914, 916, 918, 920, 922, 924, 926, 928, 930, 932, 934, 936, 938, 940, 942, 944].filterMap (fun i => lw_tbl[i]?) := by decide +kernel
  have g : (u_ws "MeshWalkModel" mT9 18).all mGood = true := by decide +kernel
  intro w hw
  refine List.mem_filter.mpr ⟨?_, List.all_eq_true.mp g w hw⟩
  rw [h] at hw
  obtain ⟨i, -, hi⟩ := List.mem_filterMap.mp hw
  exact List.mem_of_getElem? hi
theorem mnm9 : ∀ a, a < 18 → ∀ b, b < 18 → a ≠ b → (mT9 a).2.1 ≠ (mT9 b).2.1 := by decide +kernel
theorem mtyok9 : ∀ k, k < 18 → parseFieldDescriptor (mT9 k).2.2.1 = some (mty9 k) := by decide +kernel
def mTab : List (MethodName × ByteArray × Nat × Option FieldType × Nat × Nat × Nat × Nat) := [
  (⟨"MeshWalk$Chain", "<init>", "(I)V"⟩, prog_2_method_1_code, 2, none, 0, 1, 1, 20),
  (⟨"MeshWalk$Chain", "reset", "()V"⟩, prog_2_method_2_code, 1, none, 0, 0, 0, 0),
  (⟨"MeshWalk$Chain", "size", "()I"⟩, prog_2_method_3_code, 1, (some .int), 0, 0, 0, 0),
  (⟨"MeshWalk$Chain", "lastButOne", "(I)I"⟩, prog_2_method_6_code, 2, (some .int), 0, 1, 0, 0),
  (⟨"MeshWalk$Chain", "last", "()I"⟩, prog_2_method_5_code, 1, (some .int), 0, 0, 0, 0),
  (⟨"MeshWalk$Chain", "dropLast", "()V"⟩, prog_2_method_9_code, 1, none, 0, 0, 0, 0),
  (⟨"MeshWalk$Chain", "first", "()I"⟩, prog_2_method_4_code, 1, (some .int), 0, 0, 0, 0),
  (⟨"MeshWalk$Chain", "dropFirst", "()V"⟩, prog_2_method_8_code, 1, none, 0, 0, 0, 0),
  (⟨"MeshWalk$Chain", "push", "(I)V"⟩, prog_2_method_7_code, 2, none, 0, 1, 0, 0),
  (⟨"MeshWalk$Funnel", "<init>", "(LMeshWalk$Plane;)V"⟩, prog_3_method_1_code, 2, none, 1, 1, 2, 41),
  (⟨"MeshWalk$Funnel", "turnAt", "(I)I"⟩, prog_3_method_3_code, 2, (some .int), 1, 1, 0, 0),
  (⟨"MeshWalk$Funnel", "open", "(I)V"⟩, prog_3_method_4_code, 2, none, 1, 1, 1, 20),
  (⟨"MeshWalk$Funnel", "pass", "(II)V"⟩, prog_3_method_5_code, 3, none, 1, 2, 3, 77),
  (⟨"MeshWalk$Funnel", "extend", "(LMeshWalk$Chain;LMeshWalk$Chain;I)V"⟩, prog_3_method_7_code, 5, none, 1, 3, 2, 53),
  (⟨"MeshWalk$Funnel", "bendsOutward", "(LMeshWalk$Chain;I)Z"⟩, prog_3_method_8_code, 3, (some .boolean), 1, 2, 1, 31),
  (⟨"MeshWalk$Funnel", "isBeyond", "(LMeshWalk$Chain;I)Z"⟩, prog_3_method_9_code, 3, (some .boolean), 1, 2, 1, 31),
  (⟨"MeshWalk$Funnel", "keepTurn", "(I)V"⟩, prog_3_method_10_code, 2, none, 1, 1, 0, 0),
  (⟨"MeshWalk$Funnel", "close", "(I)V"⟩, prog_3_method_6_code, 3, none, 1, 1, 3, 77),
  (⟨"MeshWalk$Funnel", "size", "()I"⟩, prog_3_method_2_code, 1, (some .int), 1, 0, 0, 0),
  (⟨"MeshWalk$Grower", "<init>", "(LMeshWalk$Plane;LMeshWalk$Mesh;)V"⟩, prog_4_method_1_code, 3, none, 2, 2, 1, 20),
  (⟨"MeshWalk$Grower", "takeIn", "(I)V"⟩, prog_4_method_2_code, 3, none, 2, 1, 5, 117),
  (⟨"MeshWalk$Grower", "begin", "(I)V"⟩, prog_4_method_3_code, 4, none, 2, 1, 3, 77),
  (⟨"MeshWalk$Grower", "nextOnLine", "(II)I"⟩, prog_4_method_4_code, 5, (some .int), 2, 2, 1, 22),
  (⟨"MeshWalk$Grower", "putLeftRound", "(III)V"⟩, prog_4_method_5_code, 4, none, 2, 3, 2, 54),
  (⟨"MeshWalk$Grower", "reachOut", "(I)V"⟩, prog_4_method_6_code, 6, none, 2, 1, 2, 54),
  (⟨"MeshWalk$Grower", "split", "(II)V"⟩, prog_4_method_7_code, 6, none, 2, 2, 4, 92),
  (⟨"MeshWalk$Grower", "join", "(III)V"⟩, prog_4_method_8_code, 4, none, 2, 3, 3, 69),
  (⟨"MeshWalk$Grower", "splitBeyond", "(III)V"⟩, prog_4_method_9_code, 5, none, 2, 3, 2, 45),
  (⟨"MeshWalk$Grower", "force", "(II)V"⟩, prog_4_method_10_code, 4, none, 2, 2, 5, 117),
  (⟨"MeshWalk$Grower", "listCrossing", "(II)V"⟩, prog_4_method_11_code, 6, none, 2, 2, 3, 78),
  (⟨"MeshWalk$Grower", "firstRight", "(II)I"⟩, prog_4_method_12_code, 5, (some .int), 2, 2, 2, 54),
  (⟨"MeshWalk$Grower", "flipAtPeak", "(II)V"⟩, prog_4_method_13_code, 7, none, 2, 2, 3, 78),
  (⟨"MeshWalk$Grower", "peakOf", "(II)I"⟩, prog_4_method_14_code, 9, (some .int), 2, 2, 1, 31),
  (⟨"MeshWalk$Grower", "canFlip", "(II)Z"⟩, prog_4_method_15_code, 5, (some .boolean), 2, 2, 2, 54),
  (⟨"MeshWalk$Grower", "free", "(II)V"⟩, prog_4_method_16_code, 3, none, 2, 2, 5, 117),
  (⟨"MeshWalk$Links", "<init>", "(LMeshWalk$Plane;)V"⟩, prog_5_method_1_code, 2, none, 3, 1, 1, 20),
  (⟨"MeshWalk$Links", "reset", "()V"⟩, prog_5_method_6_code, 1, none, 3, 0, 1, 24),
  (⟨"MeshWalk$Links", "size", "()I"⟩, prog_5_method_2_code, 1, (some .int), 3, 0, 0, 0),
  (⟨"MeshWalk$Links", "reach", "(I)Z"⟩, prog_5_method_7_code, 4, (some .boolean), 3, 1, 2, 54),
  (⟨"MeshWalk$Links", "has", "(II)Z"⟩, prog_5_method_3_code, 3, (some .boolean), 3, 2, 0, 0),
  (⟨"MeshWalk$Links", "cross", "(II)Z"⟩, prog_5_method_8_code, 5, (some .boolean), 3, 2, 3, 78),
  (⟨"MeshWalk$Links", "doCross", "(IIII)Z"⟩, prog_5_method_9_code, 5, (some .boolean), 3, 4, 2, 54),
  (⟨"MeshWalk$Links", "set", "(II)V"⟩, prog_5_method_4_code, 3, none, 3, 2, 0, 0),
  (⟨"MeshWalk$Links", "drop", "(II)V"⟩, prog_5_method_5_code, 3, none, 3, 2, 0, 0),
  (⟨"MeshWalk$Mesh", "<init>", "(LMeshWalk$Plane;LMeshWalk$Links;)V"⟩, prog_6_method_1_code, 3, none, 4, 2, 1, 23),
  (⟨"MeshWalk$Mesh", "reset", "()V"⟩, prog_6_method_2_code, 1, none, 4, 0, 1, 23),
  (⟨"MeshWalk$Mesh", "size", "()I"⟩, prog_6_method_3_code, 1, (some .int), 4, 0, 0, 0),
  (⟨"MeshWalk$Mesh", "edges", "()I"⟩, prog_6_method_4_code, 1, (some .int), 4, 0, 1, 20),
  (⟨"MeshWalk$Mesh", "hullEdges", "()I"⟩, prog_6_method_5_code, 1, (some .int), 4, 0, 2, 40),
  (⟨"MeshWalk$Mesh", "put", "(III)V"⟩, prog_6_method_14_code, 4, none, 4, 3, 1, 21),
  (⟨"MeshWalk$Mesh", "holding", "(I)I"⟩, prog_6_method_12_code, 3, (some .int), 4, 1, 2, 54),
  (⟨"MeshWalk$Mesh", "holds", "(II)Z"⟩, prog_6_method_13_code, 4, (some .boolean), 4, 2, 1, 31),
  (⟨"MeshWalk$Mesh", "cornerOf", "(II)I"⟩, prog_6_method_6_code, 3, (some .int), 4, 2, 0, 0),
  (⟨"MeshWalk$Mesh", "nextCorner", "(II)I"⟩, prog_6_method_7_code, 3, (some .int), 4, 2, 0, 0),
  (⟨"MeshWalk$Mesh", "thirdOf", "(II)I"⟩, prog_6_method_8_code, 3, (some .int), 4, 2, 1, 21),
  (⟨"MeshWalk$Mesh", "suspect", "(II)V"⟩, prog_6_method_17_code, 5, none, 4, 2, 1, 21),
  (⟨"MeshWalk$Mesh", "take", "(III)V"⟩, prog_6_method_15_code, 4, none, 4, 3, 1, 21),
  (⟨"MeshWalk$Mesh", "settle", "()V"⟩, prog_6_method_18_code, 4, none, 4, 0, 4, 94),
  (⟨"MeshWalk$Mesh", "isGood", "(II)Z"⟩, prog_6_method_19_code, 6, (some .boolean), 4, 2, 3, 69),
  (⟨"MeshWalk$Mesh", "flip", "(II)V"⟩, prog_6_method_16_code, 5, none, 4, 2, 2, 45),
  (⟨"MeshWalk$Mesh", "giveNumbers", "()V"⟩, prog_6_method_20_code, 3, none, 4, 0, 2, 44),
  (⟨"MeshWalk$Mesh", "giveNextNumber", "(III)V"⟩, prog_6_method_21_code, 4, none, 4, 3, 1, 21),
  (⟨"MeshWalk$Mesh", "hasEdge", "(II)Z"⟩, prog_6_method_9_code, 3, (some .boolean), 4, 2, 2, 43),
  (⟨"MeshWalk$Mesh", "beyond", "(II)I"⟩, prog_6_method_10_code, 5, (some .int), 4, 2, 2, 43),
  (⟨"MeshWalk$Mesh", "openBeyond", "(II)I"⟩, prog_6_method_11_code, 4, (some .int), 4, 2, 3, 67),
  (⟨"MeshWalk$Plane", "<init>", "()V"⟩, prog_7_method_1_code, 1, none, 5, 0, 2, 40),
  (⟨"MeshWalk$Plane", "size", "()I"⟩, prog_7_method_2_code, 1, (some .int), 5, 0, 0, 0),
  (⟨"MeshWalk$Plane", "reset", "()V"⟩, prog_7_method_3_code, 1, none, 5, 0, 0, 0),
  (⟨"MeshWalk$Plane", "put", "(III)V"⟩, prog_7_method_4_code, 4, none, 5, 3, 0, 0),
  (⟨"MeshWalk$Plane", "pointAt", "(I)I"⟩, prog_7_method_6_code, 3, (some .int), 5, 1, 0, 0),
  (⟨"MeshWalk$Plane", "isOn", "(III)Z"⟩, prog_7_method_11_code, 4, (some .boolean), 5, 3, 1, 31),
  (⟨"MeshWalk$Plane", "areaOf", "(III)J"⟩, prog_7_method_7_code, 12, (some .long), 5, 3, 0, 0),
  (⟨"MeshWalk$Plane", "keep", "()V"⟩, prog_7_method_5_code, 1, none, 5, 0, 0, 0),
  (⟨"MeshWalk$Plane", "sideOf", "(III)I"⟩, prog_7_method_8_code, 4, (some .int), 5, 3, 1, 31),
  (⟨"MeshWalk$Plane", "isBefore", "(II)Z"⟩, prog_7_method_13_code, 3, (some .boolean), 5, 2, 0, 0),
  (⟨"MeshWalk$Plane", "insideOf", "(IIII)I"⟩, prog_7_method_9_code, 5, (some .int), 5, 4, 2, 45),
  (⟨"MeshWalk$Plane", "squareOf", "(II)J"⟩, prog_7_method_10_code, 7, (some .long), 5, 2, 0, 0),
  (⟨"MeshWalk$Plane", "isCovered", "(II)Z"⟩, prog_7_method_12_code, 4, (some .boolean), 5, 2, 2, 54),
  (⟨"MeshWalk$Walk", "<init>", "(LMeshWalk$Plane;LMeshWalk$Mesh;)V"⟩, prog_8_method_1_code, 3, none, 6, 2, 3, 62),
  (⟨"MeshWalk$Walk", "turnAt", "(I)I"⟩, prog_8_method_3_code, 2, (some .int), 6, 1, 1, 21),
  (⟨"MeshWalk$Walk", "triangleAt", "(I)I"⟩, prog_8_method_2_code, 2, (some .int), 6, 1, 0, 0),
  (⟨"MeshWalk$Walk", "findRow", "(II)Z"⟩, prog_8_method_4_code, 4, (some .boolean), 6, 2, 5, 116),
  (⟨"MeshWalk$Walk", "countSteps", "(I)V"⟩, prog_8_method_5_code, 7, none, 6, 1, 4, 90),
  (⟨"MeshWalk$Walk", "nextAfter", "(I)I"⟩, prog_8_method_6_code, 6, (some .int), 6, 1, 4, 90),
  (⟨"MeshWalk$Walk", "pullTight", "()I"⟩, prog_8_method_7_code, 2, (some .int), 6, 0, 5, 122),
  (⟨"MeshWalk$Walk", "pointOr", "(I)I"⟩, prog_8_method_8_code, 3, (some .int), 6, 1, 1, 22),
  (⟨"MeshWalk$Walk", "passGate", "(II)V"⟩, prog_8_method_9_code, 4, none, 6, 2, 4, 99),
  (⟨"MeshWalk$WideSum", "<init>", "()V"⟩, prog_9_method_1_code, 1, none, 7, 0, 1, 20),
  (⟨"MeshWalk$WideSum", "reset", "()V"⟩, prog_9_method_2_code, 1, none, 7, 0, 0, 0),
  (⟨"MeshWalk$WideSum", "plusProduct", "(JJ)V"⟩, prog_9_method_3_code, 17, none, 7, 2, 0, 0),
  (⟨"MeshWalk$WideSum", "sign", "()I"⟩, prog_9_method_4_code, 5, (some .int), 7, 0, 1, 21),
  (⟨"MeshWalk", "<init>", "()V"⟩, prog_1_method_1_code, 4, none, 8, 0, 4, 84),
  (⟨"MeshWalk", "clear", "()I"⟩, prog_1_method_5_code, 2, (some .int), 8, 0, 2, 44),
  (⟨"MeshWalk", "count", "(I)I"⟩, prog_1_method_6_code, 2, (some .int), 8, 1, 3, 60),
  (⟨"MeshWalk", "turn", "(I)I"⟩, prog_1_method_14_code, 2, (some .int), 8, 1, 2, 42),
  (⟨"MeshWalk", "sleeve", "(I)I"⟩, prog_1_method_15_code, 2, (some .int), 8, 1, 1, 21),
  (⟨"MeshWalk", "add", "(II)I"⟩, prog_1_method_2_code, 4, (some .int), 8, 2, 9, 182),
  (⟨"MeshWalk", "needPlace", "(II)V"⟩, prog_1_method_16_code, 3, none, 8, 2, 8, 160),
  (⟨"MeshWalk", "signOf", "(J)I"⟩, prog_1_method_21_code, 2, (some .int), 8, 1, 0, 0),
  (⟨"MeshWalk", "pair", "(II)I"⟩, prog_1_method_20_code, 2, (some .int), 8, 2, 0, 0),
  (⟨"MeshWalk", "link", "(II)Z"⟩, prog_1_method_3_code, 3, (some .boolean), 8, 2, 10, 203),
  (⟨"MeshWalk", "needPair", "(II)V"⟩, prog_1_method_18_code, 3, none, 8, 2, 9, 181),
  (⟨"MeshWalk", "needPoint", "(I)V"⟩, prog_1_method_17_code, 2, none, 8, 1, 8, 160),
  (⟨"MeshWalk", "unlink", "(II)Z"⟩, prog_1_method_4_code, 3, (some .boolean), 8, 2, 10, 203),
  (⟨"MeshWalk", "corner", "(II)I"⟩, prog_1_method_7_code, 3, (some .int), 8, 2, 9, 182),
  (⟨"MeshWalk", "needCorner", "(II)V"⟩, prog_1_method_19_code, 3, none, 8, 2, 8, 160),
  (⟨"MeshWalk", "across", "(II)I"⟩, prog_1_method_8_code, 3, (some .int), 8, 2, 9, 182),
  (⟨"MeshWalk", "edge", "(II)I"⟩, prog_1_method_9_code, 3, (some .int), 8, 2, 10, 203),
  (⟨"MeshWalk", "side", "(III)I"⟩, prog_1_method_10_code, 4, (some .int), 8, 3, 9, 181),
  (⟨"MeshWalk", "circle", "(IIII)I"⟩, prog_1_method_11_code, 6, (some .int), 8, 4, 9, 181),
  (⟨"MeshWalk", "locate", "(II)I"⟩, prog_1_method_12_code, 3, (some .int), 8, 2, 9, 182),
  (⟨"MeshWalk", "way", "(IIII)I"⟩, prog_1_method_13_code, 7, (some .int), 8, 4, 9, 182),
  (⟨"MeshWalkModel", "<init>", "()V"⟩, prog_11_method_1_code, 1, none, 9, 0, 1, 20),
  (⟨"MeshWalkModel", "thrown", "()I"⟩, prog_11_method_2_code, 1, (some .int), 9, 0, 0, 0),
  (⟨"MeshWalkModel", "add", "(II)I"⟩, prog_11_method_12_code, 6, (some .int), 9, 2, 2, 50),
  (⟨"MeshWalkModel", "isPlace", "(II)Z"⟩, prog_11_method_5_code, 2, (some .boolean), 9, 2, 1, 22),
  (⟨"MeshWalkModel", "isIn", "(III)Z"⟩, prog_11_method_4_code, 3, (some .boolean), 9, 3, 0, 0),
  (⟨"MeshWalkModel", "refused", "(I)Z"⟩, prog_11_method_3_code, 2, (some .boolean), 9, 1, 0, 0),
  (⟨"MeshWalkModel", "isOn", "(III)Z"⟩, prog_11_method_10_code, 6, (some .boolean), 9, 3, 1, 25),
  (⟨"MeshWalkModel", "sideOf", "(III)I"⟩, prog_11_method_7_code, 6, (some .int), 9, 3, 0, 0),
  (⟨"MeshWalkModel", "link", "(II)Z"⟩, prog_11_method_15_code, 3, (some .boolean), 9, 2, 3, 75),
  (⟨"MeshWalkModel", "isPair", "(II)Z"⟩, prog_11_method_13_code, 3, (some .boolean), 9, 2, 2, 43),
  (⟨"MeshWalkModel", "isPoint", "(I)Z"⟩, prog_11_method_6_code, 2, (some .boolean), 9, 1, 1, 22),
  (⟨"MeshWalkModel", "fits", "(II[Z)Z"⟩, prog_11_method_14_code, 6, (some .boolean), 9, 3, 2, 50),
  (⟨"MeshWalkModel", "cross", "(IIII)Z"⟩, prog_11_method_11_code, 5, (some .boolean), 9, 4, 1, 25),
  (⟨"MeshWalkModel", "unlink", "(II)Z"⟩, prog_11_method_16_code, 4, (some .boolean), 9, 2, 3, 65),
  (⟨"MeshWalkModel", "clear", "()I"⟩, prog_11_method_17_code, 3, (some .int), 9, 0, 0, 0),
  (⟨"MeshWalkModel", "count", "(I)I"⟩, prog_11_method_27_code, 7, (some .int), 9, 1, 6, 147),
  (⟨"MeshWalkModel", "mesh", "()V"⟩, prog_11_method_25_code, 5, none, 9, 0, 5, 123),
  (⟨"MeshWalkModel", "isFlat", "()Z"⟩, prog_11_method_22_code, 3, (some .boolean), 9, 0, 1, 25),
  (⟨"MeshWalkModel", "mark", "(IIZ)V"⟩, prog_11_method_18_code, 4, none, 9, 3, 0, 0),
  (⟨"MeshWalkModel", "turn", "(II)Z"⟩, prog_11_method_24_code, 7, (some .boolean), 9, 2, 4, 97),
  (⟨"MeshWalkModel", "apex", "(II)I"⟩, prog_11_method_21_code, 5, (some .int), 9, 2, 3, 73),
  (⟨"MeshWalkModel", "isTriangle", "(III)Z"⟩, prog_11_method_20_code, 4, (some .boolean), 9, 3, 2, 50),
  (⟨"MeshWalkModel", "isEmpty", "(III)Z"⟩, prog_11_method_19_code, 6, (some .boolean), 9, 3, 1, 25),
  (⟨"MeshWalkModel", "inCircle", "(IIII)I"⟩, prog_11_method_9_code, 17, (some .int), 9, 4, 1, 34),
  (⟨"MeshWalkModel", "addProduct", "(JJ)V"⟩, prog_11_method_8_code, 15, none, 9, 2, 0, 0),
  (⟨"MeshWalkModel", "least", "(II)I"⟩, prog_11_method_23_code, 2, (some .int), 9, 2, 0, 0),
  (⟨"MeshWalkModel", "with", "(II)I"⟩, prog_11_method_26_code, 6, (some .int), 9, 2, 0, 0),
  (⟨"MeshWalkModel", "corner", "(II)I"⟩, prog_11_method_29_code, 3, (some .int), 9, 2, 7, 169),
  (⟨"MeshWalkModel", "isCorner", "(II)Z"⟩, prog_11_method_28_code, 3, (some .boolean), 9, 2, 6, 147),
  (⟨"MeshWalkModel", "across", "(II)I"⟩, prog_11_method_30_code, 3, (some .int), 9, 2, 7, 169),
  (⟨"MeshWalkModel", "edge", "(II)I"⟩, prog_11_method_31_code, 3, (some .int), 9, 2, 6, 147),
  (⟨"MeshWalkModel", "side", "(III)I"⟩, prog_11_method_32_code, 4, (some .int), 9, 3, 2, 43),
  (⟨"MeshWalkModel", "circle", "(IIII)I"⟩, prog_11_method_33_code, 6, (some .int), 9, 4, 2, 70),
  (⟨"MeshWalkModel", "locate", "(II)I"⟩, prog_11_method_35_code, 3, (some .int), 9, 2, 6, 147),
  (⟨"MeshWalkModel", "find", "(I)I"⟩, prog_11_method_34_code, 6, (some .int), 9, 1, 1, 25),
  (⟨"MeshWalkModel", "way", "(IIII)I"⟩, prog_11_method_38_code, 7, (some .int), 9, 4, 6, 147),
  (⟨"MeshWalkModel", "measure", "(I)V"⟩, prog_11_method_37_code, 6, none, 9, 1, 2, 49),
  (⟨"MeshWalkModel", "behind", "(II)I"⟩, prog_11_method_36_code, 5, (some .int), 9, 2, 1, 25),
  (⟨"MeshWalkModel", "step", "(I)V"⟩, prog_11_method_39_code, 5, none, 9, 1, 2, 49),
  (⟨"MeshWalkModel", "pull", "()V"⟩, prog_11_method_40_code, 13, none, 9, 0, 2, 50),
  (⟨"MeshWalkModel", "straighten", "()V"⟩, prog_11_method_43_code, 3, none, 9, 0, 2, 58),
  (⟨"MeshWalkModel", "isTurn", "(I)Z"⟩, prog_11_method_42_code, 14, (some .boolean), 9, 1, 1, 25),
  (⟨"MeshWalkModel", "pointAt", "(I)I"⟩, prog_11_method_41_code, 2, (some .int), 9, 1, 0, 0),
  (⟨"MeshWalkModel", "turn", "(I)I"⟩, prog_11_method_44_code, 2, (some .int), 9, 1, 1, 22),
  (⟨"MeshWalkModel", "sleeve", "(I)I"⟩, prog_11_method_45_code, 2, (some .int), 9, 1, 1, 22),
  (⟨"MeshWalkLaw", "add", "(LMeshWalk;II[J)I"⟩, method_3_code, 5, (some .int), 13, 4, 10, 205),
  (⟨"MeshWalkLaw", "link", "(LMeshWalk;II[J)I"⟩, method_4_code, 5, (some .int), 13, 4, 11, 225),
  (⟨"MeshWalkLaw", "unlink", "(LMeshWalk;II[J)I"⟩, method_5_code, 5, (some .int), 13, 4, 11, 225),
  (⟨"MeshWalkLaw", "corner", "(LMeshWalk;II[J)I"⟩, method_6_code, 5, (some .int), 13, 4, 10, 204),
  (⟨"MeshWalkLaw", "across", "(LMeshWalk;II[J)I"⟩, method_7_code, 5, (some .int), 13, 4, 10, 204),
  (⟨"MeshWalkLaw", "edge", "(LMeshWalk;II[J)I"⟩, method_8_code, 5, (some .int), 13, 4, 11, 225),
  (⟨"MeshWalkLaw", "side", "(LMeshWalk;III[J)I"⟩, method_9_code, 6, (some .int), 13, 5, 10, 204),
  (⟨"MeshWalkLaw", "circle", "(LMeshWalk;IIII[J)I"⟩, method_10_code, 7, (some .int), 13, 6, 10, 206),
  (⟨"MeshWalkLaw", "locate", "(LMeshWalk;II[J)I"⟩, method_11_code, 5, (some .int), 13, 4, 10, 204),
  (⟨"MeshWalkLaw", "way", "(LMeshWalk;IIII[J)I"⟩, method_12_code, 7, (some .int), 13, 6, 10, 208),
  (⟨"java/util/Arrays", "fill", "([II)V"⟩, prog_20_method_103_code, 4, none, 14, 2, 0, 0),
  (⟨"java/util/Arrays", "fill", "([JJ)V"⟩, prog_20_method_101_code, 5, none, 14, 2, 0, 0),
  (⟨"java/lang/Math", "min", "(II)I"⟩, prog_16_method_69_code, 2, (some .int), 15, 2, 0, 0),
  (⟨"java/lang/Math", "max", "(II)I"⟩, prog_16_method_65_code, 2, (some .int), 15, 2, 0, 0),
  (⟨"MeshWalkLaw", "law", "([I)Z"⟩, code, 7, (some .boolean), 13, 1, 12, 249)]
def mRow (M : Nat) : MethodName × ByteArray × Nat × Option FieldType × Nat × Nat × Nat × Nat := mTab.getD M (⟨"", "", ""⟩, ⟨#[]⟩, 0, none, 0, 0, 0, 0)
def mName (M : Nat) : MethodName := (mRow M).1
def mCode (M : Nat) : ByteArray := (mRow M).2.1
def mMaxL (M : Nat) : Nat := (mRow M).2.2.1
def mRet (M : Nat) : Option FieldType := (mRow M).2.2.2.1
def mOwn (M : Nat) : Nat := (mRow M).2.2.2.2.1
def mAr (M : Nat) : Nat := (mRow M).2.2.2.2.2.1
def mFr (M : Nat) : Nat := (mRow M).2.2.2.2.2.2.1
def mLo (M : Nat) : Nat := (mRow M).2.2.2.2.2.2.2
def mHand (M : Nat) : List (Nat × Nat × Nat × Nat) := match M with
  | 157 => [(0, 10, 13, 13), (0, 10, 17, 15)]
  | 158 => [(0, 17, 20, 13)]
  | 159 => [(0, 17, 20, 13)]
  | 160 => [(0, 10, 13, 27)]
  | 161 => [(0, 10, 13, 27)]
  | 162 => [(0, 10, 13, 13)]
  | 163 => [(0, 12, 15, 13)]
  | 164 => [(0, 14, 17, 13)]
  | 165 => [(0, 10, 13, 13)]
  | 166 => [(0, 14, 17, 13)]
  | _ => []
def mFldT : List (Nat × Nat × Nat × Nat × Nat) := [(7, 9, 7, 0, 96), (7, 13, 7, 1, 97), (7, 16, 7, 2, 98), (5, 9, 5, 0, 107), (5, 15, 5, 1, 108), (5, 21, 5, 2, 109), (5, 25, 5, 3, 110), (3, 15, 3, 0, 126), (3, 9, 3, 1, 127), (3, 19, 3, 2, 128), (4, 28, 4, 0, 146), (4, 32, 4, 1, 147), (4, 9, 4, 2, 148), (4, 15, 4, 3, 149), (4, 18, 4, 4, 150), (4, 42, 4, 5, 151), (4, 21, 4, 6, 152), (4, 102, 4, 7, 153), (4, 24, 4, 8, 154), (2, 18, 2, 0, 180), (2, 22, 2, 1, 181), (2, 9, 2, 2, 182), (2, 15, 2, 3, 183), (2, 105, 2, 4, 184), (0, 15, 0, 0, 214), (0, 9, 0, 1, 216), (0, 19, 0, 2, 217), (0, 22, 0, 3, 218), (1, 27, 1, 0, 228), (1, 14, 1, 1, 229), (1, 20, 1, 2, 230), (1, 38, 1, 3, 231), (1, 41, 1, 4, 232), (1, 44, 1, 5, 233), (1, 23, 1, 6, 234), (1, 31, 1, 7, 235), (6, 21, 6, 0, 253), (6, 25, 6, 1, 254), (6, 34, 6, 2, 255), (6, 9, 6, 3, 256), (6, 38, 6, 4, 257), (6, 15, 6, 5, 258), (6, 18, 6, 6, 259), (8, 22, 8, 0, 275), (8, 26, 8, 1, 276), (8, 30, 8, 2, 277), (8, 39, 8, 3, 278), (8, 46, 8, 4, 279), (9, 42, 9, 0, 892), (9, 52, 9, 1, 893), (9, 7, 9, 2, 894), (9, 13, 9, 3, 895), (9, 16, 9, 4, 896), (9, 20, 9, 5, 897), (9, 85, 9, 6, 898), (9, 124, 9, 7, 899), (9, 23, 9, 8, 900), (9, 154, 9, 9, 901), (9, 27, 9, 10, 902), (9, 166, 9, 11, 903), (9, 30, 9, 12, 904), (9, 33, 9, 13, 905), (9, 36, 9, 14, 906), (9, 39, 9, 15, 907), (9, 57, 9, 16, 908), (9, 61, 9, 17, 909)]
def mFldNT : List (Nat × Nat × Nat × Nat × Nat) := [(1, 76, 0, 0, 215)]
def mLnkT : List (Nat × Nat × Nat × Nat × Nat × Nat × Nat × Nat × Nat) := [
  (13, 49, 91, 2, 78, 79, 0, 58, 80),
  (8, 11, 65, 5, 86, 87, 0, 59, 88),
  (5, 20, 87, 5, 92, 93, 0, 60, 94),
  (8, 14, 35, 2, 122, 123, 0, 61, 124),
  (8, 19, 44, 2, 139, 140, 0, 62, 141),
  (4, 36, 167, 1, 143, 144, 0, 63, 145),
  (8, 36, 19, 2, 176, 177, 0, 64, 178),
  (8, 45, 78, 2, 198, 199, 0, 65, 200),
  (6, 31, 9, 2, 204, 205, 0, 66, 206),
  (1, 11, 0, 2, 210, 211, 0, 67, 212),
  (13, 69, 92, 0, 291, 292, 293, 58, 294),
  (8, 54, 66, 0, 295, 296, 297, 59, 298),
  (8, 109, 67, 0, 299, 300, 301, 59, 302),
  (8, 112, 36, 0, 303, 304, 305, 61, 306),
  (3, 25, 168, 1, 307, 308, 0, 63, 309),
  (8, 113, 45, 0, 310, 311, 312, 62, 313),
  (13, 73, 93, 0, 314, 315, 316, 58, 317),
  (8, 114, 37, 0, 318, 319, 320, 61, 321),
  (8, 115, 46, 0, 322, 323, 324, 62, 325),
  (8, 116, 47, 0, 326, 327, 328, 62, 329),
  (4, 46, 66, 0, 330, 296, 297, 59, 298),
  (8, 119, 48, 0, 331, 332, 333, 62, 334),
  (4, 51, 47, 0, 335, 327, 328, 62, 329),
  (13, 101, 94, 0, 336, 337, 338, 58, 339),
  (8, 160, 79, 0, 340, 341, 342, 65, 343),
  (6, 42, 10, 0, 344, 345, 346, 66, 347),
  (13, 105, 95, 0, 348, 349, 350, 58, 351),
  (8, 163, 80, 0, 352, 353, 354, 65, 355),
  (13, 53, 157, 1, 356, 357, 0, 57, 358),
  (13, 7, 96, 0, 361, 362, 363, 58, 364),
  (8, 50, 97, 0, 365, 367, 0, 58, 368),
  (8, 65, 68, 0, 455, 456, 457, 59, 458),
  (8, 69, 69, 0, 459, 460, 461, 59, 462),
  (8, 73, 38, 0, 463, 464, 465, 61, 466),
  (3, 31, 66, 0, 467, 296, 297, 59, 298),
  (3, 36, 39, 0, 468, 469, 470, 61, 471),
  (3, 40, 70, 0, 472, 473, 474, 59, 475),
  (5, 29, 71, 0, 476, 477, 478, 59, 479),
  (5, 52, 169, 1, 480, 481, 0, 74, 482),
  (5, 58, 170, 1, 483, 484, 0, 74, 485),
  (8, 77, 72, 0, 486, 487, 488, 59, 489),
  (8, 80, 20, 0, 490, 491, 492, 64, 493),
  (2, 26, 46, 0, 494, 323, 324, 62, 325),
  (2, 32, 21, 0, 495, 497, 2, 64, 498),
  (2, 50, 73, 0, 499, 500, 501, 59, 502),
  (5, 33, 98, 4, 503, 504, 0, 58, 505),
  (2, 56, 22, 0, 506, 508, 3, 64, 509),
  (2, 64, 74, 0, 510, 511, 512, 59, 513),
  (2, 60, 23, 0, 514, 516, 4, 64, 517),
  (2, 68, 49, 0, 518, 519, 520, 62, 521),
  (4, 54, 99, 4, 522, 523, 0, 58, 524),
  (2, 36, 50, 0, 525, 526, 527, 62, 528),
  (4, 76, 51, 0, 529, 531, 5, 62, 532),
  (4, 61, 52, 0, 533, 534, 535, 62, 536),
  (4, 64, 53, 0, 537, 538, 539, 62, 540),
  (4, 79, 71, 0, 541, 477, 478, 59, 479),
  (2, 40, 24, 0, 542, 544, 6, 64, 545),
  (2, 71, 52, 0, 546, 534, 535, 62, 536),
  (2, 74, 53, 0, 547, 538, 539, 62, 540),
  (2, 77, 54, 0, 548, 549, 550, 62, 551),
  (2, 80, 55, 0, 552, 553, 554, 62, 555),
  (4, 94, 169, 1, 556, 481, 0, 74, 482),
  (4, 99, 170, 1, 557, 484, 0, 74, 485),
  (2, 43, 25, 0, 558, 560, 7, 64, 561),
  (2, 83, 56, 0, 562, 563, 564, 62, 565),
  (2, 86, 26, 0, 566, 568, 8, 64, 569),
  (2, 89, 27, 0, 570, 572, 9, 64, 573),
  (2, 47, 57, 0, 574, 575, 576, 62, 577),
  (4, 67, 39, 0, 580, 469, 470, 61, 471),
  (4, 108, 58, 0, 581, 583, 10, 62, 584),
  (4, 58, 54, 0, 585, 549, 550, 62, 551),
  (4, 117, 75, 0, 586, 587, 588, 59, 589),
  (5, 37, 88, 0, 590, 591, 592, 60, 593),
  (5, 40, 76, 0, 594, 596, 11, 59, 597),
  (5, 44, 89, 0, 598, 599, 600, 60, 601),
  (5, 48, 90, 0, 603, 604, 605, 60, 606),
  (7, 21, 98, 4, 607, 504, 0, 58, 505),
  (4, 111, 59, 0, 608, 609, 610, 62, 611),
  (4, 83, 56, 0, 612, 563, 564, 62, 565),
  (4, 87, 49, 0, 613, 519, 520, 62, 521),
  (4, 90, 55, 0, 614, 553, 554, 62, 555),
  (4, 114, 60, 0, 615, 617, 12, 62, 618),
  (4, 121, 61, 0, 619, 621, 13, 62, 622),
  (13, 63, 158, 1, 623, 624, 0, 57, 625),
  (13, 17, 100, 0, 626, 627, 628, 58, 629),
  (8, 84, 101, 0, 630, 632, 14, 58, 633),
  (8, 135, 102, 0, 634, 636, 15, 58, 637),
  (8, 87, 39, 0, 640, 469, 470, 61, 471),
  (8, 91, 77, 0, 641, 642, 643, 59, 644),
  (5, 61, 70, 0, 645, 473, 474, 59, 475),
  (8, 94, 40, 0, 646, 647, 648, 61, 649),
  (3, 44, 41, 0, 650, 652, 16, 61, 653),
  (3, 48, 73, 0, 654, 500, 501, 59, 502),
  (8, 97, 42, 0, 655, 656, 657, 61, 658),
  (8, 100, 28, 0, 659, 660, 661, 64, 662),
  (2, 93, 62, 0, 664, 665, 666, 62, 667),
  (2, 96, 29, 0, 668, 670, 17, 64, 671),
  (2, 102, 30, 0, 672, 674, 18, 64, 675),
  (2, 109, 66, 0, 676, 296, 297, 59, 298),
  (2, 99, 31, 0, 677, 679, 19, 64, 680),
  (2, 110, 32, 0, 681, 683, 20, 64, 684),
  (2, 119, 71, 0, 685, 477, 478, 59, 479),
  (2, 113, 33, 0, 686, 688, 21, 64, 689),
  (2, 116, 59, 0, 690, 609, 610, 62, 611),
  (13, 66, 159, 1, 691, 692, 0, 57, 693),
  (13, 21, 103, 0, 694, 695, 696, 58, 697),
  (8, 103, 43, 0, 698, 699, 700, 61, 701),
  (8, 106, 34, 0, 703, 704, 705, 64, 706),
  (13, 78, 160, 1, 707, 708, 0, 57, 709),
  (13, 24, 104, 0, 711, 712, 713, 58, 714),
  (8, 122, 105, 0, 715, 717, 22, 58, 718),
  (8, 125, 52, 0, 735, 534, 535, 62, 536),
  (13, 81, 161, 1, 736, 737, 0, 57, 738),
  (13, 29, 106, 0, 739, 740, 741, 58, 742),
  (8, 129, 63, 0, 743, 744, 745, 62, 746),
  (13, 84, 162, 1, 747, 748, 0, 57, 749),
  (13, 32, 107, 0, 750, 751, 752, 58, 753),
  (8, 132, 62, 0, 754, 665, 666, 62, 667),
  (13, 87, 163, 1, 755, 756, 0, 57, 757),
  (13, 35, 108, 0, 758, 759, 760, 58, 761),
  (8, 138, 73, 0, 762, 500, 501, 59, 502),
  (13, 91, 164, 1, 763, 764, 0, 57, 765),
  (13, 39, 109, 0, 766, 767, 768, 58, 769),
  (8, 147, 75, 0, 771, 587, 588, 59, 589),
  (13, 95, 165, 1, 772, 773, 0, 57, 774),
  (13, 43, 110, 0, 775, 776, 777, 58, 778),
  (8, 151, 50, 0, 779, 526, 527, 62, 528),
  (13, 98, 166, 1, 780, 781, 0, 57, 782),
  (13, 46, 111, 0, 783, 784, 785, 58, 786),
  (8, 154, 81, 0, 787, 788, 789, 65, 790),
  (6, 46, 82, 0, 791, 793, 23, 65, 794),
  (6, 53, 167, 1, 795, 144, 0, 63, 145),
  (6, 59, 46, 0, 796, 323, 324, 62, 325),
  (6, 65, 64, 0, 797, 798, 799, 62, 800),
  (4, 73, 63, 0, 801, 744, 745, 62, 746),
  (6, 50, 83, 0, 802, 804, 24, 65, 805),
  (8, 157, 84, 0, 806, 807, 808, 65, 809),
  (6, 69, 85, 0, 810, 812, 25, 65, 813),
  (6, 83, 69, 0, 814, 460, 461, 59, 462),
  (6, 72, 11, 0, 815, 816, 817, 66, 818),
  (1, 35, 1, 0, 819, 820, 821, 67, 822),
  (6, 75, 86, 0, 823, 825, 26, 65, 826),
  (6, 88, 53, 0, 827, 538, 539, 62, 540),
  (6, 91, 52, 0, 828, 534, 535, 62, 536),
  (6, 94, 12, 0, 829, 830, 831, 66, 832),
  (1, 47, 13, 0, 833, 835, 27, 66, 836),
  (1, 51, 2, 0, 837, 838, 839, 67, 840),
  (1, 63, 14, 0, 841, 843, 28, 66, 844),
  (1, 79, 3, 0, 845, 846, 847, 67, 848),
  (1, 83, 4, 0, 849, 850, 851, 67, 852),
  (1, 86, 71, 0, 853, 477, 478, 59, 479),
  (1, 67, 5, 0, 854, 855, 856, 67, 857),
  (1, 70, 15, 0, 858, 860, 29, 66, 861),
  (1, 54, 6, 0, 862, 863, 864, 67, 865),
  (1, 57, 16, 0, 866, 868, 30, 66, 869),
  (1, 60, 7, 0, 870, 871, 872, 67, 873),
  (1, 73, 8, 0, 874, 875, 876, 67, 877),
  (6, 79, 17, 0, 878, 879, 880, 66, 881),
  (6, 82, 18, 0, 882, 883, 884, 66, 885),
  (13, 52, 112, 2, 888, 889, 0, 68, 890),
  (13, 59, 113, 0, 948, 949, 950, 68, 951),
  (13, 58, 114, 0, 952, 953, 954, 68, 955),
  (9, 74, 115, 1, 956, 957, 0, 68, 958),
  (9, 48, 116, 1, 961, 962, 0, 68, 963),
  (9, 78, 117, 0, 964, 966, 31, 68, 967),
  (9, 82, 118, 0, 968, 970, 32, 68, 971),
  (9, 70, 119, 0, 972, 974, 33, 68, 975),
  (13, 65, 120, 0, 976, 977, 978, 68, 979),
  (9, 96, 121, 0, 980, 982, 34, 68, 983),
  (9, 89, 122, 0, 984, 986, 35, 68, 987),
  (9, 99, 123, 0, 988, 990, 36, 68, 991),
  (9, 92, 124, 0, 992, 994, 37, 68, 995),
  (13, 68, 125, 0, 996, 997, 998, 68, 999),
  (13, 72, 126, 0, 1000, 1001, 1002, 68, 1003),
  (13, 77, 127, 0, 1004, 1005, 1006, 68, 1007),
  (9, 134, 128, 0, 1008, 1010, 38, 68, 1011),
  (9, 127, 129, 0, 1012, 1014, 39, 68, 1015),
  (9, 120, 130, 0, 1016, 1018, 40, 68, 1019),
  (9, 131, 131, 0, 1020, 1022, 41, 68, 1023),
  (9, 109, 132, 0, 1024, 1026, 42, 68, 1027),
  (9, 106, 133, 0, 1028, 1030, 43, 68, 1031),
  (9, 103, 134, 0, 1032, 1034, 44, 68, 1035),
  (9, 113, 135, 0, 1036, 1038, 45, 68, 1039),
  (9, 66, 136, 0, 1040, 1042, 46, 68, 1043),
  (9, 117, 137, 1, 1046, 1047, 0, 68, 1048),
  (9, 137, 138, 0, 1049, 1051, 47, 68, 1052),
  (13, 80, 139, 0, 1053, 1054, 1055, 68, 1056),
  (9, 140, 140, 0, 1057, 1059, 48, 68, 1060),
  (13, 83, 141, 0, 1061, 1062, 1063, 68, 1064),
  (13, 86, 142, 0, 1065, 1066, 1067, 68, 1068),
  (13, 90, 143, 0, 1069, 1070, 1071, 68, 1072),
  (13, 94, 144, 0, 1073, 1074, 1075, 68, 1076),
  (13, 97, 145, 0, 1077, 1078, 1079, 68, 1080),
  (9, 143, 146, 0, 1081, 1083, 49, 68, 1084),
  (13, 100, 147, 0, 1085, 1086, 1087, 68, 1088),
  (9, 150, 148, 0, 1089, 1091, 50, 68, 1092),
  (9, 147, 149, 0, 1093, 1095, 51, 68, 1096),
  (9, 157, 150, 0, 1097, 1099, 52, 68, 1100),
  (9, 160, 151, 0, 1101, 1103, 53, 68, 1104),
  (9, 163, 152, 0, 1105, 1107, 54, 68, 1108),
  (9, 172, 153, 0, 1109, 1111, 55, 68, 1112),
  (9, 169, 154, 0, 1113, 1115, 56, 68, 1116),
  (13, 104, 155, 0, 1117, 1118, 1119, 68, 1120),
  (13, 108, 156, 0, 1121, 1122, 1123, 68, 1124)]
def mObjT : List (Nat × Nat × Nat) := [(8, 3, 81), (5, 3, 89), (7, 3, 95), (3, 3, 125), (4, 3, 142), (2, 3, 179), (6, 3, 201), (1, 3, 207), (0, 3, 213), (9, 1, 891)]
def mNewT : List (Nat × Nat × Nat × Nat × Nat × Nat) := [(13, 8, 8, 76, 77, 58), (8, 9, 5, 84, 85, 59), (5, 18, 7, 90, 91, 60), (8, 12, 3, 120, 121, 61), (8, 17, 4, 137, 138, 62), (8, 34, 2, 174, 175, 64), (8, 43, 6, 196, 197, 65), (6, 29, 1, 202, 203, 66), (1, 9, 0, 208, 209, 67), (13, 50, 9, 886, 887, 68)]
def mCiT : List (Nat × Nat × Int32 × Nat) := [(8, 166, (-536870911), 369), (8, 167, 536870911, 370), (4, 105, 1000000, 578), (2, 92, 1000000, 663), (9, 46, (-536870911), 959), (9, 47, 536870911, 960)]
def mClT : List (Nat × Nat × Int64 × Nat) := [(4, 106, (-1), 579), (7, 19, 2147483647, 602), (3, 23, (-1), 702), (9, 55, 4294967295, 1044), (9, 64, (-9223372036854775808), 1045)]
def mIs (i : Nat) (w : Cond) : Bool := decide (lw_tbl[i]? = some w) && mGood w
theorem mIs.mem {i : Nat} {w : Cond} (h : mIs i w = true) : w ∈ mTbl := by
  simp only [mIs, Bool.and_eq_true, decide_eq_true_eq] at h
  exact mTbl_of h.1 h.2
def mFldOK (q : Nat × Nat × Nat × Nat × Nat) : Bool := match mcl[q.2.2.1]? with
  | some (C, T, N) => decide (q.2.2.2.1 < N) && (decide ((T q.2.2.2.1).1 = C) && mIs q.2.2.2.2 (.fieldLink (mNmOf q.1) q.2.1 C (T q.2.2.2.1).2.1 (T q.2.2.2.1).2.2.1))
  | none => false
set_option maxRecDepth 20000 in
theorem mFldT_ok : mFldT.all mFldOK = true := by decide +kernel
def mFldNOK (q : Nat × Nat × Nat × Nat × Nat) : Bool := match mcl[q.2.2.1]? with
  | some (C, T, N) => decide (q.2.2.2.1 < N) && (decide ((T q.2.2.2.1).1 = C) && mIs q.2.2.2.2 (.fieldLinkNest (mNmOf q.1) q.2.1 C (T q.2.2.2.1).2.1 (T q.2.2.2.1).2.2.1 "MeshWalk"))
  | none => false
set_option maxRecDepth 20000 in
theorem mFldNT_ok : mFldNT.all mFldNOK = true := by decide +kernel
def mLnkOK (q : Nat × Nat × Nat × Nat × Nat × Nat × Nat × Nat × Nat) : Bool := match q with
  | (own, idx, N, kind, i1, i2, i3, i4, _) =>
    mIs i1 (if kind < 3 then .methodLink (mNmOf own) idx (mName N) else .methodLinkNest (mNmOf own) idx (mName N) "MeshWalk") &&
    (mIs i2 (if kind % 3 = 1 then .static (mName N) else .instanceMethod (mName N)) &&
    ((if kind % 3 = 0 then mIs i3 (.selects (mName N).cls (mName N) (mName N)) else true) &&
    (mIs i4 (.initialized (mName N).cls) &&
    (decide ((mName N).cls ≠ "java/lang/invoke/MethodHandle" ∧ (mName N).cls ≠ "java/lang/invoke/VarHandle") &&
    (decide ((parseMethodDescriptor (mName N).desc).map (fun d => d.parameters.length) = some (mAr N)) &&
    (decide (mNmOf (mOwn N) = (mName N).cls) && (plainFor (mName N) && (if kind % 3 = 2 then decide ((mName N).name = "<init>" ∧ mRet N = none) else true))))))))
set_option maxRecDepth 20000 in
theorem mLnkT_ok : mLnkT.all mLnkOK = true := by decide +kernel
def mObjOK (q : Nat × Nat × Nat) : Bool := mIs q.2.2 (.methodLink (mNmOf q.1) q.2.1 objectInit)
set_option maxRecDepth 20000 in
theorem mObjT_ok : mObjT.all mObjOK = true := by decide +kernel
def mNewOK (q : Nat × Nat × Nat × Nat × Nat × Nat) : Bool := match mcl[q.2.2.1]? with
  | some (C, _, N) => mIs q.2.2.2.1 (.classLink (mNmOf q.1) q.2.1 C) && (mIs q.2.2.2.2.1 (.instantiable C N) && mIs q.2.2.2.2.2 (.initialized C))
  | none => false
set_option maxRecDepth 20000 in
theorem mNewT_ok : mNewT.all mNewOK = true := by decide +kernel
def mCiOK (q : Nat × Nat × Int32 × Nat) : Bool := mIs q.2.2.2 (.constant (mNmOf q.1) q.2.1 q.2.2.1)
set_option maxRecDepth 20000 in
theorem mCiT_ok : mCiT.all mCiOK = true := by decide +kernel
def mClOK (q : Nat × Nat × Int64 × Nat) : Bool := mIs q.2.2.2 (.constantLong (mNmOf q.1) q.2.1 q.2.2.1)
set_option maxRecDepth 20000 in
theorem mClT_ok : mClT.all mClOK = true := by decide +kernel
def mCw (N : Nat) : Cond := if mHand N = [] then .code (mName N) (mCode N) (mMaxL N) (mRet N) else .codeWith (mName N) (mCode N) (mMaxL N) (mRet N) (mHand N)
end
section
/-! the code word of every method, by program -/
theorem mcd0 : mCw 0 ∈ mTbl := mIs.mem (i := 212) (by decide +kernel)
theorem mcd1 : mCw 1 ∈ mTbl := mIs.mem (i := 822) (by decide +kernel)
theorem mcd2 : mCw 2 ∈ mTbl := mIs.mem (i := 840) (by decide +kernel)
theorem mcd3 : mCw 3 ∈ mTbl := mIs.mem (i := 848) (by decide +kernel)
theorem mcd4 : mCw 4 ∈ mTbl := mIs.mem (i := 852) (by decide +kernel)
theorem mcd5 : mCw 5 ∈ mTbl := mIs.mem (i := 857) (by decide +kernel)
theorem mcd6 : mCw 6 ∈ mTbl := mIs.mem (i := 865) (by decide +kernel)
theorem mcd7 : mCw 7 ∈ mTbl := mIs.mem (i := 873) (by decide +kernel)
theorem mcd8 : mCw 8 ∈ mTbl := mIs.mem (i := 877) (by decide +kernel)
theorem mcd9 : mCw 9 ∈ mTbl := mIs.mem (i := 206) (by decide +kernel)
theorem mcd10 : mCw 10 ∈ mTbl := mIs.mem (i := 347) (by decide +kernel)
theorem mcd11 : mCw 11 ∈ mTbl := mIs.mem (i := 818) (by decide +kernel)
theorem mcd12 : mCw 12 ∈ mTbl := mIs.mem (i := 832) (by decide +kernel)
theorem mcd13 : mCw 13 ∈ mTbl := mIs.mem (i := 836) (by decide +kernel)
theorem mcd14 : mCw 14 ∈ mTbl := mIs.mem (i := 844) (by decide +kernel)
theorem mcd15 : mCw 15 ∈ mTbl := mIs.mem (i := 861) (by decide +kernel)
theorem mcd16 : mCw 16 ∈ mTbl := mIs.mem (i := 869) (by decide +kernel)
theorem mcd17 : mCw 17 ∈ mTbl := mIs.mem (i := 881) (by decide +kernel)
theorem mcd18 : mCw 18 ∈ mTbl := mIs.mem (i := 885) (by decide +kernel)
theorem mcd19 : mCw 19 ∈ mTbl := mIs.mem (i := 178) (by decide +kernel)
theorem mcd20 : mCw 20 ∈ mTbl := mIs.mem (i := 493) (by decide +kernel)
theorem mcd21 : mCw 21 ∈ mTbl := mIs.mem (i := 498) (by decide +kernel)
theorem mcd22 : mCw 22 ∈ mTbl := mIs.mem (i := 509) (by decide +kernel)
theorem mcd23 : mCw 23 ∈ mTbl := mIs.mem (i := 517) (by decide +kernel)
theorem mcd24 : mCw 24 ∈ mTbl := mIs.mem (i := 545) (by decide +kernel)
theorem mcd25 : mCw 25 ∈ mTbl := mIs.mem (i := 561) (by decide +kernel)
theorem mcd26 : mCw 26 ∈ mTbl := mIs.mem (i := 569) (by decide +kernel)
theorem mcd27 : mCw 27 ∈ mTbl := mIs.mem (i := 573) (by decide +kernel)
theorem mcd28 : mCw 28 ∈ mTbl := mIs.mem (i := 662) (by decide +kernel)
theorem mcd29 : mCw 29 ∈ mTbl := mIs.mem (i := 671) (by decide +kernel)
theorem mcd30 : mCw 30 ∈ mTbl := mIs.mem (i := 675) (by decide +kernel)
theorem mcd31 : mCw 31 ∈ mTbl := mIs.mem (i := 680) (by decide +kernel)
theorem mcd32 : mCw 32 ∈ mTbl := mIs.mem (i := 684) (by decide +kernel)
theorem mcd33 : mCw 33 ∈ mTbl := mIs.mem (i := 689) (by decide +kernel)
theorem mcd34 : mCw 34 ∈ mTbl := mIs.mem (i := 706) (by decide +kernel)
theorem mcd35 : mCw 35 ∈ mTbl := mIs.mem (i := 124) (by decide +kernel)
theorem mcd36 : mCw 36 ∈ mTbl := mIs.mem (i := 306) (by decide +kernel)
theorem mcd37 : mCw 37 ∈ mTbl := mIs.mem (i := 321) (by decide +kernel)
theorem mcd38 : mCw 38 ∈ mTbl := mIs.mem (i := 466) (by decide +kernel)
theorem mcd39 : mCw 39 ∈ mTbl := mIs.mem (i := 471) (by decide +kernel)
theorem mcd40 : mCw 40 ∈ mTbl := mIs.mem (i := 649) (by decide +kernel)
theorem mcd41 : mCw 41 ∈ mTbl := mIs.mem (i := 653) (by decide +kernel)
theorem mcd42 : mCw 42 ∈ mTbl := mIs.mem (i := 658) (by decide +kernel)
theorem mcd43 : mCw 43 ∈ mTbl := mIs.mem (i := 701) (by decide +kernel)
theorem mcd44 : mCw 44 ∈ mTbl := mIs.mem (i := 141) (by decide +kernel)
theorem mcd45 : mCw 45 ∈ mTbl := mIs.mem (i := 313) (by decide +kernel)
theorem mcd46 : mCw 46 ∈ mTbl := mIs.mem (i := 325) (by decide +kernel)
theorem mcd47 : mCw 47 ∈ mTbl := mIs.mem (i := 329) (by decide +kernel)
theorem mcd48 : mCw 48 ∈ mTbl := mIs.mem (i := 334) (by decide +kernel)
theorem mcd49 : mCw 49 ∈ mTbl := mIs.mem (i := 521) (by decide +kernel)
theorem mcd50 : mCw 50 ∈ mTbl := mIs.mem (i := 528) (by decide +kernel)
theorem mcd51 : mCw 51 ∈ mTbl := mIs.mem (i := 532) (by decide +kernel)
theorem mcd52 : mCw 52 ∈ mTbl := mIs.mem (i := 536) (by decide +kernel)
theorem mcd53 : mCw 53 ∈ mTbl := mIs.mem (i := 540) (by decide +kernel)
theorem mcd54 : mCw 54 ∈ mTbl := mIs.mem (i := 551) (by decide +kernel)
theorem mcd55 : mCw 55 ∈ mTbl := mIs.mem (i := 555) (by decide +kernel)
theorem mcd56 : mCw 56 ∈ mTbl := mIs.mem (i := 565) (by decide +kernel)
theorem mcd57 : mCw 57 ∈ mTbl := mIs.mem (i := 577) (by decide +kernel)
theorem mcd58 : mCw 58 ∈ mTbl := mIs.mem (i := 584) (by decide +kernel)
theorem mcd59 : mCw 59 ∈ mTbl := mIs.mem (i := 611) (by decide +kernel)
theorem mcd60 : mCw 60 ∈ mTbl := mIs.mem (i := 618) (by decide +kernel)
theorem mcd61 : mCw 61 ∈ mTbl := mIs.mem (i := 622) (by decide +kernel)
theorem mcd62 : mCw 62 ∈ mTbl := mIs.mem (i := 667) (by decide +kernel)
theorem mcd63 : mCw 63 ∈ mTbl := mIs.mem (i := 746) (by decide +kernel)
theorem mcd64 : mCw 64 ∈ mTbl := mIs.mem (i := 800) (by decide +kernel)
theorem mcd65 : mCw 65 ∈ mTbl := mIs.mem (i := 88) (by decide +kernel)
theorem mcd66 : mCw 66 ∈ mTbl := mIs.mem (i := 298) (by decide +kernel)
theorem mcd67 : mCw 67 ∈ mTbl := mIs.mem (i := 302) (by decide +kernel)
theorem mcd68 : mCw 68 ∈ mTbl := mIs.mem (i := 458) (by decide +kernel)
theorem mcd69 : mCw 69 ∈ mTbl := mIs.mem (i := 462) (by decide +kernel)
theorem mcd70 : mCw 70 ∈ mTbl := mIs.mem (i := 475) (by decide +kernel)
theorem mcd71 : mCw 71 ∈ mTbl := mIs.mem (i := 479) (by decide +kernel)
theorem mcd72 : mCw 72 ∈ mTbl := mIs.mem (i := 489) (by decide +kernel)
theorem mcd73 : mCw 73 ∈ mTbl := mIs.mem (i := 502) (by decide +kernel)
theorem mcd74 : mCw 74 ∈ mTbl := mIs.mem (i := 513) (by decide +kernel)
theorem mcd75 : mCw 75 ∈ mTbl := mIs.mem (i := 589) (by decide +kernel)
theorem mcd76 : mCw 76 ∈ mTbl := mIs.mem (i := 597) (by decide +kernel)
theorem mcd77 : mCw 77 ∈ mTbl := mIs.mem (i := 644) (by decide +kernel)
theorem mcd78 : mCw 78 ∈ mTbl := mIs.mem (i := 200) (by decide +kernel)
theorem mcd79 : mCw 79 ∈ mTbl := mIs.mem (i := 343) (by decide +kernel)
theorem mcd80 : mCw 80 ∈ mTbl := mIs.mem (i := 355) (by decide +kernel)
theorem mcd81 : mCw 81 ∈ mTbl := mIs.mem (i := 790) (by decide +kernel)
theorem mcd82 : mCw 82 ∈ mTbl := mIs.mem (i := 794) (by decide +kernel)
theorem mcd83 : mCw 83 ∈ mTbl := mIs.mem (i := 805) (by decide +kernel)
theorem mcd84 : mCw 84 ∈ mTbl := mIs.mem (i := 809) (by decide +kernel)
theorem mcd85 : mCw 85 ∈ mTbl := mIs.mem (i := 813) (by decide +kernel)
theorem mcd86 : mCw 86 ∈ mTbl := mIs.mem (i := 826) (by decide +kernel)
theorem mcd87 : mCw 87 ∈ mTbl := mIs.mem (i := 94) (by decide +kernel)
theorem mcd88 : mCw 88 ∈ mTbl := mIs.mem (i := 593) (by decide +kernel)
theorem mcd89 : mCw 89 ∈ mTbl := mIs.mem (i := 601) (by decide +kernel)
theorem mcd90 : mCw 90 ∈ mTbl := mIs.mem (i := 606) (by decide +kernel)
theorem mcd91 : mCw 91 ∈ mTbl := mIs.mem (i := 80) (by decide +kernel)
theorem mcd92 : mCw 92 ∈ mTbl := mIs.mem (i := 294) (by decide +kernel)
theorem mcd93 : mCw 93 ∈ mTbl := mIs.mem (i := 317) (by decide +kernel)
theorem mcd94 : mCw 94 ∈ mTbl := mIs.mem (i := 339) (by decide +kernel)
theorem mcd95 : mCw 95 ∈ mTbl := mIs.mem (i := 351) (by decide +kernel)
theorem mcd96 : mCw 96 ∈ mTbl := mIs.mem (i := 364) (by decide +kernel)
theorem mcd97 : mCw 97 ∈ mTbl := mIs.mem (i := 368) (by decide +kernel)
theorem mcd98 : mCw 98 ∈ mTbl := mIs.mem (i := 505) (by decide +kernel)
theorem mcd99 : mCw 99 ∈ mTbl := mIs.mem (i := 524) (by decide +kernel)
theorem mcd100 : mCw 100 ∈ mTbl := mIs.mem (i := 629) (by decide +kernel)
theorem mcd101 : mCw 101 ∈ mTbl := mIs.mem (i := 633) (by decide +kernel)
theorem mcd102 : mCw 102 ∈ mTbl := mIs.mem (i := 637) (by decide +kernel)
theorem mcd103 : mCw 103 ∈ mTbl := mIs.mem (i := 697) (by decide +kernel)
theorem mcd104 : mCw 104 ∈ mTbl := mIs.mem (i := 714) (by decide +kernel)
theorem mcd105 : mCw 105 ∈ mTbl := mIs.mem (i := 718) (by decide +kernel)
theorem mcd106 : mCw 106 ∈ mTbl := mIs.mem (i := 742) (by decide +kernel)
theorem mcd107 : mCw 107 ∈ mTbl := mIs.mem (i := 753) (by decide +kernel)
theorem mcd108 : mCw 108 ∈ mTbl := mIs.mem (i := 761) (by decide +kernel)
theorem mcd109 : mCw 109 ∈ mTbl := mIs.mem (i := 769) (by decide +kernel)
theorem mcd110 : mCw 110 ∈ mTbl := mIs.mem (i := 778) (by decide +kernel)
theorem mcd111 : mCw 111 ∈ mTbl := mIs.mem (i := 786) (by decide +kernel)
theorem mcd112 : mCw 112 ∈ mTbl := mIs.mem (i := 890) (by decide +kernel)
theorem mcd113 : mCw 113 ∈ mTbl := mIs.mem (i := 951) (by decide +kernel)
theorem mcd114 : mCw 114 ∈ mTbl := mIs.mem (i := 955) (by decide +kernel)
theorem mcd115 : mCw 115 ∈ mTbl := mIs.mem (i := 958) (by decide +kernel)
theorem mcd116 : mCw 116 ∈ mTbl := mIs.mem (i := 963) (by decide +kernel)
theorem mcd117 : mCw 117 ∈ mTbl := mIs.mem (i := 967) (by decide +kernel)
theorem mcd118 : mCw 118 ∈ mTbl := mIs.mem (i := 971) (by decide +kernel)
theorem mcd119 : mCw 119 ∈ mTbl := mIs.mem (i := 975) (by decide +kernel)
theorem mcd120 : mCw 120 ∈ mTbl := mIs.mem (i := 979) (by decide +kernel)
theorem mcd121 : mCw 121 ∈ mTbl := mIs.mem (i := 983) (by decide +kernel)
theorem mcd122 : mCw 122 ∈ mTbl := mIs.mem (i := 987) (by decide +kernel)
theorem mcd123 : mCw 123 ∈ mTbl := mIs.mem (i := 991) (by decide +kernel)
theorem mcd124 : mCw 124 ∈ mTbl := mIs.mem (i := 995) (by decide +kernel)
theorem mcd125 : mCw 125 ∈ mTbl := mIs.mem (i := 999) (by decide +kernel)
theorem mcd126 : mCw 126 ∈ mTbl := mIs.mem (i := 1003) (by decide +kernel)
theorem mcd127 : mCw 127 ∈ mTbl := mIs.mem (i := 1007) (by decide +kernel)
theorem mcd128 : mCw 128 ∈ mTbl := mIs.mem (i := 1011) (by decide +kernel)
theorem mcd129 : mCw 129 ∈ mTbl := mIs.mem (i := 1015) (by decide +kernel)
theorem mcd130 : mCw 130 ∈ mTbl := mIs.mem (i := 1019) (by decide +kernel)
theorem mcd131 : mCw 131 ∈ mTbl := mIs.mem (i := 1023) (by decide +kernel)
theorem mcd132 : mCw 132 ∈ mTbl := mIs.mem (i := 1027) (by decide +kernel)
theorem mcd133 : mCw 133 ∈ mTbl := mIs.mem (i := 1031) (by decide +kernel)
theorem mcd134 : mCw 134 ∈ mTbl := mIs.mem (i := 1035) (by decide +kernel)
theorem mcd135 : mCw 135 ∈ mTbl := mIs.mem (i := 1039) (by decide +kernel)
theorem mcd136 : mCw 136 ∈ mTbl := mIs.mem (i := 1043) (by decide +kernel)
theorem mcd137 : mCw 137 ∈ mTbl := mIs.mem (i := 1048) (by decide +kernel)
theorem mcd138 : mCw 138 ∈ mTbl := mIs.mem (i := 1052) (by decide +kernel)
theorem mcd139 : mCw 139 ∈ mTbl := mIs.mem (i := 1056) (by decide +kernel)
theorem mcd140 : mCw 140 ∈ mTbl := mIs.mem (i := 1060) (by decide +kernel)
theorem mcd141 : mCw 141 ∈ mTbl := mIs.mem (i := 1064) (by decide +kernel)
theorem mcd142 : mCw 142 ∈ mTbl := mIs.mem (i := 1068) (by decide +kernel)
theorem mcd143 : mCw 143 ∈ mTbl := mIs.mem (i := 1072) (by decide +kernel)
theorem mcd144 : mCw 144 ∈ mTbl := mIs.mem (i := 1076) (by decide +kernel)
theorem mcd145 : mCw 145 ∈ mTbl := mIs.mem (i := 1080) (by decide +kernel)
theorem mcd146 : mCw 146 ∈ mTbl := mIs.mem (i := 1084) (by decide +kernel)
theorem mcd147 : mCw 147 ∈ mTbl := mIs.mem (i := 1088) (by decide +kernel)
theorem mcd148 : mCw 148 ∈ mTbl := mIs.mem (i := 1092) (by decide +kernel)
theorem mcd149 : mCw 149 ∈ mTbl := mIs.mem (i := 1096) (by decide +kernel)
theorem mcd150 : mCw 150 ∈ mTbl := mIs.mem (i := 1100) (by decide +kernel)
theorem mcd151 : mCw 151 ∈ mTbl := mIs.mem (i := 1104) (by decide +kernel)
theorem mcd152 : mCw 152 ∈ mTbl := mIs.mem (i := 1108) (by decide +kernel)
theorem mcd153 : mCw 153 ∈ mTbl := mIs.mem (i := 1112) (by decide +kernel)
theorem mcd154 : mCw 154 ∈ mTbl := mIs.mem (i := 1116) (by decide +kernel)
theorem mcd155 : mCw 155 ∈ mTbl := mIs.mem (i := 1120) (by decide +kernel)
theorem mcd156 : mCw 156 ∈ mTbl := mIs.mem (i := 1124) (by decide +kernel)
theorem mcd157 : mCw 157 ∈ mTbl := mIs.mem (i := 358) (by decide +kernel)
theorem mcd158 : mCw 158 ∈ mTbl := mIs.mem (i := 625) (by decide +kernel)
theorem mcd159 : mCw 159 ∈ mTbl := mIs.mem (i := 693) (by decide +kernel)
theorem mcd160 : mCw 160 ∈ mTbl := mIs.mem (i := 709) (by decide +kernel)
theorem mcd161 : mCw 161 ∈ mTbl := mIs.mem (i := 738) (by decide +kernel)
theorem mcd162 : mCw 162 ∈ mTbl := mIs.mem (i := 749) (by decide +kernel)
theorem mcd163 : mCw 163 ∈ mTbl := mIs.mem (i := 757) (by decide +kernel)
theorem mcd164 : mCw 164 ∈ mTbl := mIs.mem (i := 765) (by decide +kernel)
theorem mcd165 : mCw 165 ∈ mTbl := mIs.mem (i := 774) (by decide +kernel)
theorem mcd166 : mCw 166 ∈ mTbl := mIs.mem (i := 782) (by decide +kernel)
theorem mcd167 : mCw 167 ∈ mTbl := mIs.mem (i := 145) (by decide +kernel)
theorem mcd168 : mCw 168 ∈ mTbl := mIs.mem (i := 309) (by decide +kernel)
theorem mcd169 : mCw 169 ∈ mTbl := mIs.mem (i := 482) (by decide +kernel)
theorem mcd170 : mCw 170 ∈ mTbl := mIs.mem (i := 485) (by decide +kernel)
end
section
/-! THE SMALL MACHINE. A cell: an array (type of its elements, contents) or an object (number of its class in mcl, its fields). A reference k: k < 16 a cell that was there before (0: the script), else the cell k - 16 of the heap. A frame: pc, locals, operand stack, heap. Runs S M f r: method number M, from the frame f, ends with r (returned or threw; the heap then). -/
abbrev mC : Type := (FieldType × vp_A) ⊕ (Nat × List Value)
abbrev mHp : Type := List mC
abbrev mL : Type := List (Nat × Value)
abbrev mF : Type := Nat × mL × List Value × mHp
abbrev mR : Type := (Option Value ⊕ Nat) × mHp
abbrev mE : Type := Nat × (Nat → Int32)
def mget (h : mHp) (a : Nat) : Option mC := if a < 16 then none else h[a - 16]?
def mput (h : mHp) (a : Nat) (c : mC) : mHp := h.set (a - 16) c
def lget (ls : mL) (i : Nat) : Option Value := match ls with
  | [] => none
  | (j, v) :: t => if j = i then some v else lget t i
def lins (l : mL) (i : Nat) (v : Value) : mL := match l with
  | [] => [(i, v)]
  | (j, w) :: t => if i < j then (i, v) :: (j, w) :: t else (j, w) :: lins t i v
def lset1 (ls : mL) (i : Nat) (v : Value) : mL := lins (ls.filter (fun q => !(q.1 == i) && !(q.1 + 1 == i && q.2.category == 2))) i v
def lset2 (ls : mL) (i : Nat) (v : Value) : mL := lins (ls.filter (fun q => !(q.1 == i) && (!(q.1 == i + 1) && !(q.1 + 1 == i && q.2.category == 2)))) i v
def m_ii (f : Int32 → Int32 → Int32) (ls : mL) (st : List Value) : Option (mL × List Value) := match st with
  | .int y :: .int x :: t => some (ls, .int (f x y) :: t)
  | _ => none
def m_ll (f : Int64 → Int64 → Int64) (ls : mL) (st : List Value) : Option (mL × List Value) := match st with
  | .long y :: .long x :: t => some (ls, .long (f x y) :: t)
  | _ => none
def m_li (f : Int64 → Int32 → Int64) (ls : mL) (st : List Value) : Option (mL × List Value) := match st with
  | .int y :: .long x :: t => some (ls, .long (f x y) :: t)
  | _ => none
def m_il (ls : mL) (i : Nat) (st : List Value) : Option (mL × List Value) := match lget ls i with
  | some (.int x) => some (ls, .int x :: st)
  | _ => none
def m_llo (ls : mL) (i : Nat) (st : List Value) : Option (mL × List Value) := match lget ls i with
  | some (.long x) => some (ls, .long x :: st)
  | _ => none
def m_al (ls : mL) (i : Nat) (st : List Value) : Option (mL × List Value) := match lget ls i with
  | some (.ref x) => some (ls, .ref x :: st)
  | _ => none
def m_is (nL : Nat) (ls : mL) (i : Nat) (st : List Value) : Option (mL × List Value) := match st with
  | .int x :: t => if i < nL then some (lset1 ls i (.int x), t) else none
  | _ => none
def m_lst (nL : Nat) (ls : mL) (i : Nat) (st : List Value) : Option (mL × List Value) := match st with
  | .long x :: t => if i + 1 < nL then some (lset2 ls i (.long x), t) else none
  | _ => none
def m_as (nL : Nat) (ls : mL) (i : Nat) (st : List Value) : Option (mL × List Value) := match st with
  | .ref x :: t => if i < nL then some (lset1 ls i (.ref x), t) else none
  | _ => none
/-- the instructions that touch locals and stack alone -/
def mpure (nL : Nat) (i : Instr) (ls : mL) (st : List Value) : Option (mL × List Value) := match i with
  | .iconst n => some (ls, .int (Int32.ofInt n) :: st)
  | .bipush n => some (ls, .int (Int8.ofInt n).toInt32 :: st)
  | .sipush n => some (ls, .int (Int16.ofInt n).toInt32 :: st)
  | .lconst n => some (ls, .long (Int64.ofNat n.val) :: st)
  | .iload_n k => m_il ls k.val st
  | .iload k => m_il ls k st
  | .lload_n k => m_llo ls k.val st
  | .lload k => m_llo ls k st
  | .aload_n k => m_al ls k.val st
  | .aload k => m_al ls k st
  | .istore_n k => m_is nL ls k.val st
  | .istore k => m_is nL ls k st
  | .lstore_n k => m_lst nL ls k.val st
  | .lstore k => m_lst nL ls k st
  | .astore_n k => m_as nL ls k.val st
  | .astore k => m_as nL ls k st
  | .iinc k n => match lget ls k with
    | some (.int x) => if k < nL then some (lset1 ls k (.int (x + Int32.ofInt n)), st) else none
    | _ => none
  | .iadd => m_ii (fun x y => x + y) ls st
  | .isub => m_ii (fun x y => x - y) ls st
  | .imul => m_ii (fun x y => x * y) ls st
  | .iand => m_ii (fun x y => x &&& y) ls st
  | .irem => match st with
    | .int y :: .int x :: t => if y = 0 then none else some (ls, .int (x - x / y * y) :: t)
    | _ => none
  | .ladd => m_ll (fun x y => x + y) ls st
  | .lsub => m_ll (fun x y => x - y) ls st
  | .lmul => m_ll (fun x y => x * y) ls st
  | .land => m_ll (fun x y => x &&& y) ls st
  | .lor => m_ll (fun x y => x ||| y) ls st
  | .lxor => m_ll (fun x y => x ^^^ y) ls st
  | .lshl => m_li (fun x y => x <<< (y.toInt64 &&& 63)) ls st
  | .lshr => m_li (fun x y => x >>> (y.toInt64 &&& 63)) ls st
  | .lushr => m_li (fun x y => (x.toUInt64 >>> (y.toInt64.toUInt64 &&& Int64.toUInt64 63)).toInt64) ls st
  | .lcmp => match st with
    | .long y :: .long x :: t => some (ls, .int (lg_cmp x y) :: t)
    | _ => none
  | .i2l => match st with
    | .int x :: t => some (ls, .long x.toInt64 :: t)
    | _ => none
  | .dup => match st with
    | v :: t => if v.category = 1 then some (ls, v :: v :: t) else none
    | _ => none
  | .dup2 => match st with
    | v :: w :: t => if v.category = 1 ∧ w.category = 1 then some (ls, v :: w :: v :: w :: t) else none
    | _ => none
  | .pop => match st with
    | v :: t => if v.category = 1 then some (ls, t) else none
    | _ => none
  | _ => none
def mb1 (b : Prop) [Decidable b] (off : Int) (t : List Value) : Option (Option Int × List Value) := some (if b then some off else none, t)
/-- branches: taken, with its offset, or not -/
def mbr (i : Instr) (st : List Value) : Option (Option Int × List Value) := match i with
  | .goto off => some (some off, st)
  | .ifCond o off => match st with
    | .int x :: t => match o with
      | .eq => mb1 (x = 0) off t
      | .ne => mb1 (¬ x = 0) off t
      | .lt => mb1 (x < 0) off t
      | .ge => mb1 (0 ≤ x) off t
      | .gt => mb1 (0 < x) off t
      | .le => mb1 (x ≤ 0) off t
    | _ => none
  | .if_icmp o off => match st with
    | .int y :: .int x :: t => match o with
      | .eq => mb1 (x = y) off t
      | .ne => mb1 (¬ x = y) off t
      | .lt => mb1 (x < y) off t
      | .ge => mb1 (y ≤ x) off t
      | .gt => mb1 (y < x) off t
      | .le => mb1 (x ≤ y) off t
    | _ => none
  | _ => none
def mzero (ty : FieldType) (n : Nat) : vp_A := if ty = .long then (n, .inr (.inl (fun _ => 0))) else (n, .inl (fun _ => 0))
def mslot (c : mC) : Nat := match c with
  | .inl (_, a) => a.1
  | .inr (ci, _) => if ci < 10 then ((mcl[ci]?).map (fun q => q.2.2)).getD 0 else 6
def msl (h : mHp) : Nat := (h.map mslot).sum
def mprim (ty : FieldType) : Bool := match ty with
  | .int => true
  | .long => true
  | .boolean => true
  | _ => false
def mfin (ci k : Nat) : Bool := ((mcl[ci]?).map (fun q => (q.2.1 k).2.2.2)).getD true
def mdef (ci : Nat) : List Value := (List.range (((mcl[ci]?).map (fun q => q.2.2)).getD 0)).map (fun k => defaultValue (mty ci k))
def mcats (st : List Value) : Nat := (st.map (fun v => v.category)).sum
def mlen (i : Instr) : Nat := match i with
  | .bipush _ => 2
  | .sipush _ => 3
  | .iload _ => 2
  | .lload _ => 2
  | .aload _ => 2
  | .istore _ => 2
  | .lstore _ => 2
  | .astore _ => 2
  | .iinc _ _ => 3
  | _ => 1
def mnn (pc : Nat) (i : Instr) : Bool := match i with
  | .ifCond _ off => decide (0 ≤ (pc : Int) + off)
  | .if_icmp _ off => decide (0 ≤ (pc : Int) + off)
  | _ => true
section Rules
variable (S : mE) (P : Nat → mF → mR → Prop)
def mc_pure : Prop := ∀ (M pc : Nat) (ls : mL) (st : List Value) (h : mHp) (r : mR) (i : Instr) (len : Nat) (ls' : mL) (st' : List Value), decode (mCode M) pc = .ok (i, len) → mlen i = len → mpure (mMaxL M) i ls st = some (ls', st') → P M (pc + len, ls', st', h) r → P M (pc, ls, st, h) r
def mc_br : Prop := ∀ (M pc : Nat) (ls : mL) (st : List Value) (h : mHp) (r : mR) (i : Instr) (off : Int) (st' : List Value) (tgt : Nat), decode (mCode M) pc = .ok (i, 3) → mbr i st = some (some off, st') → (pc : Int) + off = (tgt : Int) → P M (tgt, ls, st', h) r → P M (pc, ls, st, h) r
def mc_nb : Prop := ∀ (M pc : Nat) (ls : mL) (st : List Value) (h : mHp) (r : mR) (i : Instr) (st' : List Value), decode (mCode M) pc = .ok (i, 3) → mnn pc i = true → mbr i st = some (none, st') → P M (pc + 3, ls, st', h) r → P M (pc, ls, st, h) r
def mc_swo : Prop := ∀ (M pc : Nat) (ls : mL) (st : List Value) (h : mHp) (r : mR) (dflt lo hi : Int) (offs : Array Int) (len : Nat) (x : Int32) (tgt : Nat), decode (mCode M) pc = .ok (.tableswitch dflt lo hi offs, len) → (x.toInt < lo ∨ hi < x.toInt) → (pc : Int) + dflt = (tgt : Int) → P M (tgt, ls, st, h) r → P M (pc, ls, .int x :: st, h) r
def mc_swi : Prop := ∀ (M pc : Nat) (ls : mL) (st : List Value) (h : mHp) (r : mR) (dflt lo hi : Int) (offs : Array Int) (len : Nat) (x : Int32) (off : Int) (tgt : Nat), decode (mCode M) pc = .ok (.tableswitch dflt lo hi offs, len) → ¬ x.toInt < lo → ¬ hi < x.toInt → offs[(x.toInt - lo).toNat]? = some off → (pc : Int) + off = (tgt : Int) → P M (tgt, ls, st, h) r → P M (pc, ls, .int x :: st, h) r
def mc_ci : Prop := ∀ (M pc : Nat) (ls : mL) (st : List Value) (h : mHp) (r : mR) (idx : Nat) (v : Int32) (w : Nat), decode (mCode M) pc = .ok (.ldc idx, 2) → (mOwn M, idx, v, w) ∈ mCiT → P M (pc + 2, ls, .int v :: st, h) r → P M (pc, ls, st, h) r
def mc_cl : Prop := ∀ (M pc : Nat) (ls : mL) (st : List Value) (h : mHp) (r : mR) (idx : Nat) (v : Int64) (w : Nat), decode (mCode M) pc = .ok (.ldc2_w idx, 3) → (mOwn M, idx, v, w) ∈ mClT → P M (pc + 3, ls, .long v :: st, h) r → P M (pc, ls, st, h) r
def mc_get : Prop := ∀ (M pc : Nat) (ls : mL) (st : List Value) (h : mHp) (r : mR) (idx ci k w a : Nat) (fs : List Value) (v : Value), decode (mCode M) pc = .ok (.getfield idx, 3) → ((mOwn M, idx, ci, k, w) ∈ mFldT ∨ (mOwn M, idx, ci, k, w) ∈ mFldNT) → mget h a = some (.inr (ci, fs)) → fs[k]? = some v → P M (pc + 3, ls, v :: st, h) r → P M (pc, ls, .ref a :: st, h) r
def mc_put : Prop := ∀ (M pc : Nat) (ls : mL) (st : List Value) (h : mHp) (r : mR) (idx ci k w a : Nat) (fs : List Value) (v : Value), decode (mCode M) pc = .ok (.putfield idx, 3) → (mOwn M, idx, ci, k, w) ∈ mFldT → mget h a = some (.inr (ci, fs)) → k < fs.length → narrow (mty ci k) v = v → fits (mty ci k) v = true → (mfin ci k = false ∨ ((mName M).name = "<init>" ∧ mOwn M = ci)) → P M (pc + 3, ls, st, mput h a (.inr (ci, fs.set k v))) r → P M (pc, ls, v :: .ref a :: st, h) r
def mc_ild : Prop := ∀ (M pc : Nat) (ls : mL) (st : List Value) (h : mHp) (r : mR) (a n : Nat) (f : Nat → Int32) (i : Int32), decode (mCode M) pc = .ok (.iaload, 1) → mget h a = some (.inl (.int, n, .inl f)) → vp_in i n → P M (pc + 1, ls, .int (f i.toNatClampNeg) :: st, h) r → P M (pc, ls, .int i :: .ref a :: st, h) r
def mc_zld : Prop := ∀ (M pc : Nat) (ls : mL) (st : List Value) (h : mHp) (r : mR) (a n : Nat) (f : Nat → Int32) (i : Int32), decode (mCode M) pc = .ok (.baload, 1) → mget h a = some (.inl (.boolean, n, .inl f)) → vp_in i n → P M (pc + 1, ls, .int (f i.toNatClampNeg) :: st, h) r → P M (pc, ls, .int i :: .ref a :: st, h) r
def mc_lld : Prop := ∀ (M pc : Nat) (ls : mL) (st : List Value) (h : mHp) (r : mR) (a n : Nat) (f : Nat → Int64) (i : Int32), decode (mCode M) pc = .ok (.laload, 1) → mget h a = some (.inl (.long, n, .inr (.inl f))) → vp_in i n → P M (pc + 1, ls, .long (f i.toNatClampNeg) :: st, h) r → P M (pc, ls, .int i :: .ref a :: st, h) r
def mc_ist : Prop := ∀ (M pc : Nat) (ls : mL) (st : List Value) (h : mHp) (r : mR) (a n : Nat) (f : Nat → Int32) (i x : Int32), decode (mCode M) pc = .ok (.iastore, 1) → mget h a = some (.inl (.int, n, .inl f)) → vp_in i n → P M (pc + 1, ls, st, mput h a (.inl (.int, n, .inl (upd f i.toNatClampNeg x)))) r → P M (pc, ls, .int x :: .int i :: .ref a :: st, h) r
def mc_zst : Prop := ∀ (M pc : Nat) (ls : mL) (st : List Value) (h : mHp) (r : mR) (a n : Nat) (f : Nat → Int32) (i x : Int32), decode (mCode M) pc = .ok (.bastore, 1) → mget h a = some (.inl (.boolean, n, .inl f)) → vp_in i n → P M (pc + 1, ls, st, mput h a (.inl (.boolean, n, .inl (upd f i.toNatClampNeg (vp_nar .boolean x))))) r → P M (pc, ls, .int x :: .int i :: .ref a :: st, h) r
def mc_lst : Prop := ∀ (M pc : Nat) (ls : mL) (st : List Value) (h : mHp) (r : mR) (a n : Nat) (f : Nat → Int64) (i : Int32) (x : Int64), decode (mCode M) pc = .ok (.lastore, 1) → mget h a = some (.inl (.long, n, .inr (.inl f))) → vp_in i n → P M (pc + 1, ls, st, mput h a (.inl (.long, n, .inr (.inl (vp_updL f i.toNatClampNeg x))))) r → P M (pc, ls, .long x :: .int i :: .ref a :: st, h) r
def mc_len : Prop := ∀ (M pc : Nat) (ls : mL) (st : List Value) (h : mHp) (r : mR) (a : Nat) (ty : FieldType) (x : vp_A), decode (mCode M) pc = .ok (.arraylength, 1) → mget h a = some (.inl (ty, x)) → mprim ty = true → P M (pc + 1, ls, .int (Int32.ofNat x.1) :: st, h) r → P M (pc, ls, .ref a :: st, h) r
def mc_sld : Prop := ∀ (M pc : Nat) (ls : mL) (st : List Value) (h : mHp) (r : mR) (i : Int32), decode (mCode M) pc = .ok (.iaload, 1) → vp_in i S.1 → P M (pc + 1, ls, .int (S.2 i.toNatClampNeg) :: st, h) r → P M (pc, ls, .int i :: .ref 0 :: st, h) r
def mc_sln : Prop := ∀ (M pc : Nat) (ls : mL) (st : List Value) (h : mHp) (r : mR), decode (mCode M) pc = .ok (.arraylength, 1) → P M (pc + 1, ls, .int (Int32.ofNat S.1) :: st, h) r → P M (pc, ls, .ref 0 :: st, h) r
def mc_newa : Prop := ∀ (M pc : Nat) (ls : mL) (st : List Value) (h : mHp) (r : mR) (at_ : ArrayType) (ty : FieldType) (n : Int32) (N : Nat), decode (mCode M) pc = .ok (.newarray at_, 2) → newarray.typeOf at_ = ty → mprim ty = true → ¬ n < 0 → n.toNatClampNeg = N → N ≤ 10000 → P M (pc + 2, ls, .ref (h.length + 16) :: st, h ++ [.inl (ty, mzero ty N)]) r → P M (pc, ls, .int n :: st, h) r
def mc_new : Prop := ∀ (M pc : Nat) (ls : mL) (st : List Value) (h : mHp) (r : mR) (idx ci w1 w2 w3 : Nat), decode (mCode M) pc = .ok (.new idx, 3) → (mOwn M, idx, ci, w1, w2, w3) ∈ mNewT → P M (pc + 3, ls, .ref (h.length + 16) :: st, h ++ [.inr (ci, mdef ci)]) r → P M (pc, ls, st, h) r
def mc_iret : Prop := ∀ (M pc : Nat) (ls : mL) (h : mHp) (v : Int32) (ty : FieldType), decode (mCode M) pc = .ok (.ireturn, 1) → mRet M = some ty → narrow ty (.int v) = .int v → P M (pc, ls, [.int v], h) (.inl (some (.int v)), h)
def mc_lret : Prop := ∀ (M pc : Nat) (ls : mL) (h : mHp) (v : Int64), decode (mCode M) pc = .ok (.lreturn, 1) → mRet M = some .long → P M (pc, ls, [.long v], h) (.inl (some (.long v)), h)
def mc_vret : Prop := ∀ (M pc : Nat) (ls : mL) (h : mHp), decode (mCode M) pc = .ok (.return_, 1) → mRet M = none → P M (pc, ls, [], h) (.inl none, h)
def mc_obj : Prop := ∀ (M pc : Nat) (ls : mL) (st : List Value) (h : mHp) (r : mR) (idx w a : Nat), decode (mCode M) pc = .ok (.invokespecial idx, 3) → (mOwn M, idx, w) ∈ mObjT → 1 ≤ mFr M → mcats st + 12 ≤ mLo M → P M (pc + 3, ls, st, h) r → P M (pc, ls, .ref a :: st, h) r
def mroom (M N : Nat) (st : List Value) : Prop := mFr N + 1 ≤ mFr M ∧ 8 + (mMaxL N + 11) + mLo N ≤ mLo M ∧ mcats st ≤ 8 ∧ mHand N = [] ∧ mCw N ∈ mTbl
/-- a call of a method on an object: 0, 3: invokevirtual; 2, 5: a constructor -/
def mc_cv : Prop := ∀ (M pc : Nat) (ls : mL) (st st0 : List Value) (h h' : mHp) (r : mR) (idx N kind w1 w2 w3 w4 w5 a ci : Nat) (fs As : List Value) (v : Option Value), decode (mCode M) pc = .ok ((if kind % 3 = 2 then .invokespecial idx else .invokevirtual idx), 3) → (mOwn M, idx, N, kind, w1, w2, w3, w4, w5) ∈ mLnkT → (kind % 3 = 2 ∨ kind % 3 = 0) → mroom M N st → st0 = As.reverse ++ .ref a :: st → As.length = mAr N → mcats (.ref a :: As) ≤ mMaxL N → mget h a = some (.inr (ci, fs)) → mOwn N = ci →
  P N (0, lv_args 0 (.ref a :: As), [], h) (.inl v, h') → P M (pc + 3, ls, v.toList ++ st, h') r → P M (pc, ls, st0, h) r
def mc_cs : Prop := ∀ (M pc : Nat) (ls : mL) (st st0 : List Value) (h h' : mHp) (r : mR) (idx N kind w1 w2 w3 w4 w5 : Nat) (As : List Value) (v : Option Value), decode (mCode M) pc = .ok (.invokestatic idx, 3) → (mOwn M, idx, N, kind, w1, w2, w3, w4, w5) ∈ mLnkT → kind % 3 = 1 → mroom M N st → st0 = As.reverse ++ st → As.length = mAr N → mcats As ≤ mMaxL N →
  P N (0, lv_args 0 As, [], h) (.inl v, h') → P M (pc + 3, ls, v.toList ++ st, h') r → P M (pc, ls, st0, h) r
def mClosed : Prop := mc_pure P ∧ mc_br P ∧ mc_nb P ∧ mc_swo P ∧ mc_swi P ∧ mc_ci P ∧ mc_cl P ∧ mc_get P ∧ mc_put P ∧ mc_ild P ∧ mc_zld P ∧ mc_lld P ∧ mc_ist P ∧ mc_zst P ∧ mc_lst P ∧ mc_len P ∧ mc_sld S P ∧ mc_sln S P ∧ mc_newa P ∧ mc_new P ∧ mc_iret P ∧ mc_lret P ∧ mc_vret P ∧ mc_obj P ∧ mc_cv P ∧ mc_cs P
end Rules
def Runs (S : mE) (M : Nat) (f : mF) (r : mR) : Prop := ∀ P : Nat → mF → mR → Prop, mClosed S P → P M f r
end
section
/-! what the small machine's state is in the machine: addresses, values, cells -/
def sg (n0 : Nat) (ex : Nat → Nat) (k : Nat) : Nat := if k < 16 then ex k else n0 + (k - 16)
def cv (n0 : Nat) (ex : Nat → Nat) (v : Value) : Value := match v with
  | .ref k => .ref (sg n0 ex k)
  | w => w
def cvp (n0 : Nat) (ex : Nat → Nat) (q : Nat × Value) : Nat × Value := (q.1, cv n0 ex q.2)
theorem cv_cat {n0 : Nat} {ex : Nat → Nat} (v : Value) : (cv n0 ex v).category = v.category := by cases v <;> rfl
def mce (n0 : Nat) (ex : Nat → Nat) (dA : FieldType → ClassId) (c : mC) : va_E := match c with
  | .inl (ty, a) => .inl (dA ty, a)
  | .inr (ci, fs) => .inr (ci, fs.map (cv n0 ex))
def mws (n0 : Nat) (ex : Nat → Nat) (dA : FieldType → ClassId) : mHp → Nat → va_W
  | [], _ => []
  | c :: t, i => (n0 + i, mce n0 ex dA c) :: mws n0 ex dA t (i + 1)
section Ws
variable {n0 : Nat} {ex : Nat → Nat} {dA : FieldType → ClassId}
theorem mws_get (h : mHp) (i k : Nat) : (mws n0 ex dA h i)[k]? = (h[k]?).map (fun c => (n0 + (i + k), mce n0 ex dA c)) := by
  induction h generalizing i k with
  | nil => simp [mws]
  | cons c t ih =>
    cases k with
    | zero => simp [mws]
    | succ k =>
      simp only [mws, List.getElem?_cons_succ]
      rw [ih]
      congr 1
      funext c
      rw [show i + 1 + k = i + (k + 1) by omega]
theorem mws_set (h : mHp) (i k : Nat) (c : mC) : (mws n0 ex dA h i).set k (n0 + (i + k), mce n0 ex dA c) = mws n0 ex dA (h.set k c) i := by
  induction h generalizing i k with
  | nil => simp [mws]
  | cons x t ih =>
    cases k with
    | zero => simp [mws]
    | succ k =>
      simp only [mws, List.set_cons_succ]
      rw [← ih, show i + 1 + k = i + (k + 1) by omega]
theorem mws_app (h : mHp) (c : mC) (i : Nat) : mws n0 ex dA (h ++ [c]) i = mws n0 ex dA h i ++ [(n0 + (i + h.length), mce n0 ex dA c)] := by
  induction h generalizing i with
  | nil => simp [mws]
  | cons x t ih =>
    simp only [List.cons_append, mws, ih, List.length_cons]
    rw [show i + 1 + t.length = i + (t.length + 1) by omega]
theorem mws_len (h : mHp) (i : Nat) : (mws n0 ex dA h i).length = h.length := by
  induction h generalizing i with
  | nil => rfl
  | cons x t ih => simp [mws, ih]
theorem mws_D (h : mHp) : va_D (fun q => n0 ≤ q) (mws n0 ex dA h 0) := by
  constructor
  · intro i j p q hi hj he
    rw [mws_get] at hi hj
    cases h1 : h[i]? with
    | none => rw [h1] at hi; cases hi
    | some c1 =>
      cases h2 : h[j]? with
      | none => rw [h2] at hj; cases hj
      | some c2 =>
        rw [h1] at hi; rw [h2] at hj
        cases hi; cases hj
        simp only at he
        omega
  · intro k q hk
    rw [mws_get] at hk
    cases h1 : h[k]? with
    | none => rw [h1] at hk; cases hk
    | some c1 => rw [h1] at hk; cases hk; exact Nat.le_add_right _ _
/-- a cell of the small heap in the world -/
theorem mws_at {h : mHp} {a : Nat} {c : mC} (hg : mget h a = some c) : (mws n0 ex dA h 0)[a - 16]? = some (sg n0 ex a, mce n0 ex dA c) := by
  unfold mget at hg
  by_cases ha : a < 16
  · rw [if_pos ha] at hg; cases hg
  · rw [if_neg ha] at hg
    rw [mws_get, hg]
    simp [sg, ha]
theorem mws_put {h : mHp} {a : Nat} {c : mC} (hg : mget h a = some c) (c' : mC) : (mws n0 ex dA h 0).set (a - 16) (sg n0 ex a, mce n0 ex dA c') = mws n0 ex dA (mput h a c') 0 := by
  unfold mget at hg
  by_cases ha : a < 16
  · rw [if_pos ha] at hg; cases hg
  · have := mws_set (n0 := n0) (ex := ex) (dA := dA) h 0 (a - 16) c'
    unfold mput
    rw [← this]
    simp [sg, ha]
end Ws
theorem lins_mem {l : mL} {i : Nat} {v : Value} {q : Nat × Value} (h : q ∈ lins l i v) : q = (i, v) ∨ q ∈ l := by
  induction l with
  | nil => simp [lins] at h; exact Or.inl h
  | cons x t ih =>
    obtain ⟨j, w⟩ := x
    simp only [lins] at h
    split at h
    · rcases List.mem_cons.mp h with h | h
      · exact Or.inl h
      · exact Or.inr h
    · rcases List.mem_cons.mp h with h | h
      · exact Or.inr (by rw [h]; exact List.mem_cons_self)
      · rcases ih h with h | h
        · exact Or.inl h
        · exact Or.inr (List.mem_cons_of_mem _ h)
theorem lget_mem {l : mL} {i : Nat} {v : Value} (h : lget l i = some v) : (i, v) ∈ l := by
  induction l with
  | nil => simp [lget] at h
  | cons x t ih =>
    obtain ⟨j, w⟩ := x
    simp only [lget] at h
    split at h
    · rename_i hj; subst hj; cases h; exact List.mem_cons_self
    · exact List.mem_cons_of_mem _ (ih h)
section Loc
variable {n0 : Nat} {ex : Nat → Nat} {la : Array Slot} {nL : Nat} {ls : mL}
theorem lh_at (hl : lv_has la nL (ls.map (cvp n0 ex))) {i : Nat} {v : Value} (h : lget ls i = some v) : la[i]? = some (.val (cv n0 ex v)) :=
  hl.2.2 (i, cv n0 ex v) (List.mem_map.mpr ⟨(i, v), lget_mem h, rfl⟩)
theorem lh_pos (hl : lv_has la nL (ls.map (cvp n0 ex))) {i : Nat} {v : Value} (h : lget ls i = some v) : ∃ k : Nat, (ls.map (cvp n0 ex))[k]? = some (i, cv n0 ex v) :=
  List.getElem?_of_mem (List.mem_map.mpr ⟨(i, v), lget_mem h, rfl⟩)
theorem lh_set1 {i : Nat} {v : Value} (h : lv_has la nL ((i, cv n0 ex v) :: (ls.map (cvp n0 ex)).filter (fun q => !(q.1 == i) && !(q.1 + 1 == i && q.2.category == 2)))) : lv_has la nL ((lset1 ls i v).map (cvp n0 ex)) := by
  refine ⟨h.1, h.2.1, fun q hq => h.2.2 q ?_⟩
  obtain ⟨q0, h0, rfl⟩ := List.mem_map.mp hq
  rcases lins_mem h0 with h1 | h1
  · rw [h1]; exact List.mem_cons_self
  · obtain ⟨h2, h3⟩ := List.mem_filter.mp h1
    refine List.mem_cons_of_mem _ (List.mem_filter.mpr ⟨List.mem_map.mpr ⟨q0, h2, rfl⟩, ?_⟩)
    simpa [cvp, cv_cat] using h3
theorem lh_set2 {i : Nat} {v : Value} (h : lv_has la nL ((i, cv n0 ex v) :: (ls.map (cvp n0 ex)).filter (fun q => !(q.1 == i) && (!(q.1 == i + 1) && !(q.1 + 1 == i && q.2.category == 2))))) : lv_has la nL ((lset2 ls i v).map (cvp n0 ex)) := by
  refine ⟨h.1, h.2.1, fun q hq => h.2.2 q ?_⟩
  obtain ⟨q0, h0, rfl⟩ := List.mem_map.mp hq
  rcases lins_mem h0 with h1 | h1
  · rw [h1]; exact List.mem_cons_self
  · obtain ⟨h2, h3⟩ := List.mem_filter.mp h1
    refine List.mem_cons_of_mem _ (List.mem_filter.mpr ⟨List.mem_map.mpr ⟨q0, h2, rfl⟩, ?_⟩)
    simpa [cvp, cv_cat] using h3
end Loc
section Pure
variable {p : Program} {l : Launch} {e : Env} {R : Room} {s : State} {m : MethodId} {args : Array Value} {below : List Frame} {meth : Method} {c : Code} {H : Heap} {locs : List Loc} {cells slots : Nat} {Q : State → Prop}
variable {n0 : Nat} {ex : Nat → Nat} {cc : ByteArray} {pc nL len : Nat} {la : Array Slot} {ls ls' : mL} {st st' : List Value} {i : Instr}
set_option maxHeartbeats 4000000 in
theorem ms_pure (hx : p.tables.exec = Jvm.exec) (hb : c.code = cc) (hd : decode cc pc = .ok (i, len)) (hn : mlen i = len) (hp : mpure nL i ls st = some (ls', st')) (hl : lv_has la nL (ls.map (cvp n0 ex)))
    (kk : ∀ la' : Array Slot, lv_has la' nL (ls'.map (cvp n0 ex)) → W p l e R s m args below meth c H locs cells slots Q (F0 m (pc + len) la' (st'.map (cv n0 ex)))) : W p l e R s m args below meth c H locs cells slots Q (F0 m pc la (st.map (cv n0 ex))) := by
  subst hn
  cases i with
  | iconst n => cases hp; exact lv_iconst hx hb hd rfl (kk la hl)
  | bipush n => cases hp; exact lv_bipush hx hb hd rfl (kk la hl)
  | sipush n => cases hp; exact lv_sipush hx hb hd rfl (kk la hl)
  | lconst n => cases hp; exact lv_lconst hx hb hd rfl (kk la hl)
  | iload_n k =>
    simp only [mpure, m_il] at hp
    split at hp
    · rename_i x hg; cases hp; exact lv_iload_n hx hb hd rfl (lh_at hl hg) (kk la hl)
    · cases hp
  | iload k =>
    simp only [mpure, m_il] at hp
    split at hp
    · rename_i x hg; cases hp; exact lv_iload hx hb hd (lh_at hl hg) (kk la hl)
    · cases hp
  | lload_n k =>
    simp only [mpure, m_llo] at hp
    split at hp
    · rename_i x hg; cases hp; exact lv_lload_n hx hb hd rfl (lh_at hl hg) (kk la hl)
    · cases hp
  | lload k =>
    simp only [mpure, m_llo] at hp
    split at hp
    · rename_i x hg; cases hp; exact lv_lload hx hb hd (lh_at hl hg) (kk la hl)
    · cases hp
  | aload_n k =>
    simp only [mpure, m_al] at hp
    split at hp
    · rename_i x hg; cases hp; exact lv_aload_n hx hb hd rfl (lh_at hl hg) (kk la hl)
    · cases hp
  | aload k =>
    simp only [mpure, m_al] at hp
    split at hp
    · rename_i x hg; cases hp; exact lv_aload hx hb hd (lh_at hl hg) (kk la hl)
    · cases hp
  | istore_n k =>
    simp only [mpure, m_is] at hp
    split at hp
    · split at hp
      · rename_i hi; cases hp; exact lv_istore_n hx hb hd rfl hl hi rfl (fun la' h' => kk la' (lh_set1 h'))
      · cases hp
    · cases hp
  | istore k =>
    simp only [mpure, m_is] at hp
    split at hp
    · split at hp
      · rename_i hi; cases hp; exact lv_istore hx hb hd hl hi rfl (fun la' h' => kk la' (lh_set1 h'))
      · cases hp
    · cases hp
  | lstore_n k =>
    simp only [mpure, m_lst] at hp
    split at hp
    · split at hp
      · rename_i hi; cases hp; exact lv_lstore_n hx hb hd rfl hl hi rfl (fun la' h' => kk la' (lh_set2 h'))
      · cases hp
    · cases hp
  | lstore k =>
    simp only [mpure, m_lst] at hp
    split at hp
    · split at hp
      · rename_i hi; cases hp; exact lv_lstore hx hb hd hl hi rfl (fun la' h' => kk la' (lh_set2 h'))
      · cases hp
    · cases hp
  | astore_n k =>
    simp only [mpure, m_as] at hp
    split at hp
    · split at hp
      · rename_i hi; cases hp; exact lv_astore_n hx hb hd rfl hl hi rfl (fun la' h' => kk la' (lh_set1 h'))
      · cases hp
    · cases hp
  | astore k =>
    simp only [mpure, m_as] at hp
    split at hp
    · split at hp
      · rename_i hi; cases hp; exact lv_astore hx hb hd hl hi rfl (fun la' h' => kk la' (lh_set1 h'))
      · cases hp
    · cases hp
  | iinc k n =>
    simp only [mpure] at hp
    split at hp
    · rename_i x hg
      split at hp
      · rename_i hi
        cases hp
        obtain ⟨q, hq⟩ := lh_pos hl hg
        exact lv_iinc hx hb hd hl hq rfl hi rfl (fun la' h' => kk la' (lh_set1 h'))
      · cases hp
    · cases hp
  | iadd => simp only [mpure, m_ii] at hp; split at hp; (· cases hp; exact lv_iadd hx hb hd (kk la hl)); (· cases hp)
  | isub => simp only [mpure, m_ii] at hp; split at hp; (· cases hp; exact lv_isub hx hb hd (kk la hl)); (· cases hp)
  | imul => simp only [mpure, m_ii] at hp; split at hp; (· cases hp; exact lv_imul hx hb hd (kk la hl)); (· cases hp)
  | iand => simp only [mpure, m_ii] at hp; split at hp; (· cases hp; exact lv_iand hx hb hd (kk la hl)); (· cases hp)
  | irem =>
    simp only [mpure] at hp
    split at hp
    · split at hp
      · cases hp
      · rename_i hy; cases hp; exact lv_irem hx hb hd hy (kk la hl)
    · cases hp
  | ladd => simp only [mpure, m_ll] at hp; split at hp; (· cases hp; exact lv_ladd hx hb hd (kk la hl)); (· cases hp)
  | lsub => simp only [mpure, m_ll] at hp; split at hp; (· cases hp; exact lv_lsub hx hb hd (kk la hl)); (· cases hp)
  | lmul => simp only [mpure, m_ll] at hp; split at hp; (· cases hp; exact lv_lmul hx hb hd (kk la hl)); (· cases hp)
  | land => simp only [mpure, m_ll] at hp; split at hp; (· cases hp; exact lv_land hx hb hd (kk la hl)); (· cases hp)
  | lor => simp only [mpure, m_ll] at hp; split at hp; (· cases hp; exact lv_lor hx hb hd (kk la hl)); (· cases hp)
  | lxor => simp only [mpure, m_ll] at hp; split at hp; (· cases hp; exact lv_lxor hx hb hd (kk la hl)); (· cases hp)
  | lshl => simp only [mpure, m_li] at hp; split at hp; (· cases hp; exact lv_lshl hx hb hd rfl (kk la hl)); (· cases hp)
  | lshr => simp only [mpure, m_li] at hp; split at hp; (· cases hp; exact lv_lshr hx hb hd rfl (kk la hl)); (· cases hp)
  | lushr => simp only [mpure, m_li] at hp; split at hp; (· cases hp; exact lv_lushr hx hb hd rfl (kk la hl)); (· cases hp)
  | lcmp => simp only [mpure] at hp; split at hp; (· cases hp; exact W.lcmp hx hb hd (kk la hl)); (· cases hp)
  | i2l => simp only [mpure] at hp; split at hp; (· cases hp; exact lv_i2l hx hb hd rfl (kk la hl)); (· cases hp)
  | dup =>
    simp only [mpure] at hp
    split at hp
    · split at hp
      · rename_i hc; cases hp; exact lv_dup hx hb hd (by rw [cv_cat]; exact hc) (kk la hl)
      · cases hp
    · cases hp
  | dup2 =>
    simp only [mpure] at hp
    split at hp
    · split at hp
      · rename_i hc; cases hp; exact lv_dup2_11 hx hb hd (by rw [cv_cat]; exact hc.1) (by rw [cv_cat]; exact hc.2) (kk la hl)
      · cases hp
    · cases hp
  | pop =>
    simp only [mpure] at hp
    split at hp
    · split at hp
      · rename_i hc; cases hp; exact lv_pop hx hb hd (by rw [cv_cat]; exact hc) (kk la hl)
      · cases hp
    · cases hp
  | _ => simp [mpure] at hp
theorem mb1_t {b : Prop} [Decidable b] {off o : Int} {t t' : List Value} (h : mb1 b off t = some (some o, t')) : b ∧ o = off ∧ t' = t := by
  unfold mb1 at h
  by_cases hb : b
  · simp [hb] at h; exact ⟨hb, h.1.symm, h.2.symm⟩
  · simp [hb] at h
theorem mb1_f {b : Prop} [Decidable b] {off : Int} {t t' : List Value} (h : mb1 b off t = some (none, t')) : ¬ b ∧ t' = t := by
  unfold mb1 at h
  by_cases hb : b
  · simp [hb] at h
  · simp [hb] at h; exact ⟨hb, h.symm⟩
set_option maxHeartbeats 4000000 in
theorem ms_br (hx : p.tables.exec = Jvm.exec) (hb : c.code = cc) {off : Int} {tgt : Nat} (hd : decode cc pc = .ok (i, 3)) (hp : mbr i st = some (some off, st')) (ht : (pc : Int) + off = (tgt : Int))
    (kk : W p l e R s m args below meth c H locs cells slots Q (F0 m tgt la (st'.map (cv n0 ex)))) : W p l e R s m args below meth c H locs cells slots Q (F0 m pc la (st.map (cv n0 ex))) := by
  cases i with
  | goto o => cases hp; exact lv_goto hx hb hd ht kk
  | ifCond o off' =>
    simp only [mbr] at hp
    split at hp
    · cases o
      all_goals simp only at hp
      all_goals obtain ⟨h1, rfl, rfl⟩ := mb1_t hp
      · exact lv_if_eq hx hb hd ht (fun _ => kk) (fun h => absurd h1 h)
      · exact lv_if_ne hx hb hd ht (fun _ => kk) (fun h => absurd h h1)
      · exact lv_if_lt hx hb hd ht (fun _ => kk) (fun h => absurd h1 h)
      · exact lv_if_ge hx hb hd ht (fun _ => kk) (fun h => absurd h1 h)
      · exact lv_if_gt hx hb hd ht (fun _ => kk) (fun h => absurd h1 h)
      · exact lv_if_le hx hb hd ht (fun _ => kk) (fun h => absurd h1 h)
    · cases hp
  | if_icmp o off' =>
    simp only [mbr] at hp
    split at hp
    · cases o
      all_goals simp only at hp
      all_goals obtain ⟨h1, rfl, rfl⟩ := mb1_t hp
      · exact lv_icmp_eq hx hb hd ht (fun _ => kk) (fun h => absurd h1 h)
      · exact lv_icmp_ne hx hb hd ht (fun _ => kk) (fun h => absurd h h1)
      · exact lv_icmp_lt hx hb hd ht (fun _ => kk) (fun h => absurd h1 h)
      · exact lv_icmp_ge hx hb hd ht (fun _ => kk) (fun h => absurd h1 h)
      · exact lv_icmp_gt hx hb hd ht (fun _ => kk) (fun h => absurd h1 h)
      · exact lv_icmp_le hx hb hd ht (fun _ => kk) (fun h => absurd h1 h)
    · cases hp
  | _ => simp [mbr] at hp
set_option maxHeartbeats 4000000 in
theorem ms_nb (hx : p.tables.exec = Jvm.exec) (hb : c.code = cc) (hd : decode cc pc = .ok (i, 3)) {tg : Int → Nat} (htg : ∀ off : Int, (∃ o, i = .ifCond o off) ∨ (∃ o, i = .if_icmp o off) → (pc : Int) + off = (tg off : Int)) (hp : mbr i st = some (none, st'))
    (kk : W p l e R s m args below meth c H locs cells slots Q (F0 m (pc + 3) la (st'.map (cv n0 ex)))) : W p l e R s m args below meth c H locs cells slots Q (F0 m pc la (st.map (cv n0 ex))) := by
  cases i with
  | goto o => cases hp
  | ifCond o off' =>
    simp only [mbr] at hp
    have ht := htg off' (Or.inl ⟨_, rfl⟩)
    split at hp
    · cases o
      all_goals simp only at hp
      all_goals obtain ⟨h1, rfl⟩ := mb1_f hp
      · exact lv_if_eq hx hb hd ht (fun h => absurd h h1) (fun _ => kk)
      · exact lv_if_ne hx hb hd ht (fun h => absurd h h1) (fun _ => kk)
      · exact lv_if_lt hx hb hd ht (fun h => absurd h h1) (fun _ => kk)
      · exact lv_if_ge hx hb hd ht (fun h => absurd h h1) (fun _ => kk)
      · exact lv_if_gt hx hb hd ht (fun h => absurd h h1) (fun _ => kk)
      · exact lv_if_le hx hb hd ht (fun h => absurd h h1) (fun _ => kk)
    · cases hp
  | if_icmp o off' =>
    simp only [mbr] at hp
    have ht := htg off' (Or.inr ⟨_, rfl⟩)
    split at hp
    · cases o
      all_goals simp only at hp
      all_goals obtain ⟨h1, rfl⟩ := mb1_f hp
      · exact lv_icmp_eq hx hb hd ht (fun h => absurd h h1) (fun _ => kk)
      · exact lv_icmp_ne hx hb hd ht (fun h => absurd h h1) (fun _ => kk)
      · exact lv_icmp_lt hx hb hd ht (fun h => absurd h h1) (fun _ => kk)
      · exact lv_icmp_ge hx hb hd ht (fun h => absurd h h1) (fun _ => kk)
      · exact lv_icmp_gt hx hb hd ht (fun h => absurd h h1) (fun _ => kk)
      · exact lv_icmp_le hx hb hd ht (fun h => absurd h h1) (fun _ => kk)
    · cases hp
  | _ => simp [mbr] at hp
end Pure
end
section
/-! the words of the tables at every state of the run; the tables of the small machine say what they should -/
def mTb (s : State) : Prop := ∀ w ∈ mTbl, w.before #[] s = true
theorem mTb_warm {s U : State} {a : Array Value} (hW : s.WarmedH U.vm) (h : mTb s) : ∀ w ∈ mTbl, w.before a U = true := by
  intro w hw
  have g : mGood w = true := (List.mem_filter.mp hw).2
  have hb := h w hw
  unfold mGood at g
  by_cases hg : goodWord w = true
  · exact word_at hW (good_of_word hg) hb
  · cases w with
    | fieldLinkNest a i b n d h => exact va_Nw.use rfl (va_Nw.warmF hW hb)
    | methodLinkNest a i x h => exact va_Nw.use rfl (va_Nw.warmM hW hb)
    | castable a b => exact va_Nw.use rfl (va_Nw.warmC hW hb)
    | declares x => exact va_Nw.use rfl (va_Nw.warmD hW hb)
    | _ => simp [hg] at g
theorem mTb_use {s : State} {w : Cond} (h : mTb s) (hw : w ∈ mTbl) {a : Array Value} : w.before a s = true := mTb_warm (State.WarmedH.refl s) h w hw
theorem m_lay {ci : Nat} {C : String} {T : u_T} {N : Nat} (h : mcl[ci]? = some (C, T, N)) : ∀ w ∈ u_ws C T N, w ∈ mTbl := by
  match ci, h with
  | 0, h => cases h; exact mlay0
  | 1, h => cases h; exact mlay1
  | 2, h => cases h; exact mlay2
  | 3, h => cases h; exact mlay3
  | 4, h => cases h; exact mlay4
  | 5, h => cases h; exact mlay5
  | 6, h => cases h; exact mlay6
  | 7, h => cases h; exact mlay7
  | 8, h => cases h; exact mlay8
  | 9, h => cases h; exact mlay9
  | 10, h => cases h; intro w hw; cases hw
  | 11, h => cases h; intro w hw; cases hw
  | 12, h => cases h; intro w hw; cases hw
  | n + 13, h => cases h
theorem m_ty {ci : Nat} {C : String} {T : u_T} {N : Nat} (h : mcl[ci]? = some (C, T, N)) : ∀ k, k < N → parseFieldDescriptor (T k).2.2.1 = some (mty ci k) := by
  match ci, h with
  | 0, h => cases h; exact mtyok0
  | 1, h => cases h; exact mtyok1
  | 2, h => cases h; exact mtyok2
  | 3, h => cases h; exact mtyok3
  | 4, h => cases h; exact mtyok4
  | 5, h => cases h; exact mtyok5
  | 6, h => cases h; exact mtyok6
  | 7, h => cases h; exact mtyok7
  | 8, h => cases h; exact mtyok8
  | 9, h => cases h; exact mtyok9
  | 10, h => cases h; intro k hk; omega
  | 11, h => cases h; intro k hk; omega
  | 12, h => cases h; intro k hk; omega
  | n + 13, h => cases h
theorem m_nm {ci : Nat} {C : String} {T : u_T} {N : Nat} (h : mcl[ci]? = some (C, T, N)) : ∀ a, a < N → ∀ b, b < N → a ≠ b → (T a).2.1 ≠ (T b).2.1 := by
  match ci, h with
  | 0, h => cases h; exact mnm0
  | 1, h => cases h; exact mnm1
  | 2, h => cases h; exact mnm2
  | 3, h => cases h; exact mnm3
  | 4, h => cases h; exact mnm4
  | 5, h => cases h; exact mnm5
  | 6, h => cases h; exact mnm6
  | 7, h => cases h; exact mnm7
  | 8, h => cases h; exact mnm8
  | 9, h => cases h; exact mnm9
  | 10, h => cases h; intro k hk; omega
  | 11, h => cases h; intro k hk; omega
  | 12, h => cases h; intro k hk; omega
  | n + 13, h => cases h
theorem mcl_nm {ci : Nat} {C : String} {T : u_T} {N : Nat} (h : mcl[ci]? = some (C, T, N)) : mNmOf ci = C := by
  match ci, h with
  | 0, h => cases h; rfl
  | 1, h => cases h; rfl
  | 2, h => cases h; rfl
  | 3, h => cases h; rfl
  | 4, h => cases h; rfl
  | 5, h => cases h; rfl
  | 6, h => cases h; rfl
  | 7, h => cases h; rfl
  | 8, h => cases h; rfl
  | 9, h => cases h; rfl
  | 10, h => cases h; rfl
  | 11, h => cases h; rfl
  | 12, h => cases h; rfl
  | n + 13, h => cases h
theorem mFld_spec {o idx ci k w : Nat} (h : (o, idx, ci, k, w) ∈ mFldT) : ∃ C T N, mcl[ci]? = some (C, T, N) ∧ k < N ∧ (T k).1 = C ∧ Cond.fieldLink (mNmOf o) idx C (T k).2.1 (T k).2.2.1 ∈ mTbl := by
  have hk := List.all_eq_true.mp mFldT_ok _ h
  simp only [mFldOK] at hk
  split at hk
  · rename_i C T N hc
    simp only [Bool.and_eq_true, decide_eq_true_eq] at hk
    exact ⟨C, T, N, hc, hk.1, hk.2.1, mIs.mem hk.2.2⟩
  · cases hk
theorem mFldN_spec {o idx ci k w : Nat} (h : (o, idx, ci, k, w) ∈ mFldNT) : ∃ C T N, mcl[ci]? = some (C, T, N) ∧ k < N ∧ (T k).1 = C ∧ Cond.fieldLinkNest (mNmOf o) idx C (T k).2.1 (T k).2.2.1 "MeshWalk" ∈ mTbl := by
  have hk := List.all_eq_true.mp mFldNT_ok _ h
  simp only [mFldNOK] at hk
  split at hk
  · rename_i C T N hc
    simp only [Bool.and_eq_true, decide_eq_true_eq] at hk
    exact ⟨C, T, N, hc, hk.1, hk.2.1, mIs.mem hk.2.2⟩
  · cases hk
theorem mNewT_lt : mNewT.all (fun q => decide (q.2.2.1 < 10)) = true := by decide +kernel
theorem mNew_spec {o idx ci a b d : Nat} (h : (o, idx, ci, a, b, d) ∈ mNewT) : ∃ C T N, mcl[ci]? = some (C, T, N) ∧ ci < 10 ∧ Cond.classLink (mNmOf o) idx C ∈ mTbl ∧ Cond.instantiable C N ∈ mTbl ∧ Cond.initialized C ∈ mTbl := by
  have hk := List.all_eq_true.mp mNewT_ok _ h
  have hl := List.all_eq_true.mp mNewT_lt _ h
  simp only [decide_eq_true_eq] at hl
  simp only [mNewOK] at hk
  split at hk
  · rename_i C T N hc
    simp only [Bool.and_eq_true] at hk
    exact ⟨C, T, N, hc, hl, mIs.mem hk.1, mIs.mem hk.2.1, mIs.mem hk.2.2⟩
  · cases hk
theorem mobj1 : Cond.instanceMethod objectInit ∈ mTbl := mIs.mem (i := 82) (by decide +kernel)
theorem mobj2 : Cond.code objectInit ⟨#[0xb1]⟩ 1 none ∈ mTbl := mIs.mem (i := 83) (by decide +kernel)
theorem marr1 : Cond.arrayClass .int ∈ mTbl := mIs.mem (i := 106) (by decide +kernel)
theorem marr2 : Cond.arrayClass .long ∈ mTbl := mIs.mem (i := 136) (by decide +kernel)
theorem marr3 : Cond.arrayClass .boolean ∈ mTbl := mIs.mem (i := 947) (by decide +kernel)
/-! what stands at every point of a method's walk -/
abbrev mA (n0 : Nat) : Nat → Prop := fun q => n0 ≤ q
abbrev mtys (dA : FieldType → ClassId) : List (ClassId × FieldType) := [(dA .int, .int), (dA .long, .long), (dA .boolean, .boolean)]
/-- what the makers of exceptions need of Throwable's two statics: where they lie, and that they hold a reference or null -/
def mStatT : List (String × String) := [("UNASSIGNED_STACK", "[Ljava/lang/StackTraceElement;"), ("SUPPRESSED_SENTINEL", "Ljava/util/List;")]
def mSt (n0 : Nat) (s : State) : Prop := ∀ q ∈ mStatT, ∃ c k i f a cell v, s.vm.findClass "java/lang/Throwable" = some c ∧ s.fieldFound? "java/lang/Throwable" q.1 q.2 = some (c, k, i, f) ∧ f.isStatic = true ∧ k.statics = some a ∧ a < n0 ∧ s.heap[a]? = some cell ∧ cell.vm.isStatics = true ∧ cell.cls = c ∧ f.slot < cell.slots.size ∧ k.staticTypes[f.slot]? = some f.type ∧ cell.slots[f.slot]? = some v ∧ v.isRef = true
/-- the String constants, by their places in the class file and among the cells that were there before -/
def mStrT : List (Nat × String × Nat) := [(168, "a coordinate is out of bounds", 1), (60, "there are 40 points", 2), (170, "there is no such point", 3), (172, "the points are the same", 4), (176, "there is no such triangle, corner or edge", 5), (144, "no circle goes through points on one line", 6)]
def mXc (n0 : Nat) (ex : Nat → Nat) (s : State) : Prop := mSt n0 s ∧ (∀ q ∈ mStrT, vk_R "MeshWalk" q.1 q.2.1 (ex q.2.2) s) ∧ (Cond.castable "java/lang/IllegalStateException" "java/lang/IllegalArgumentException").before #[] s = false
def mCx (D : va_G) (n0 : Nat) (ex : Nat → Nat) (dA : FieldType → ClassId) (S : mE) (s : State) : Prop :=
  va_K D mcl (mtys dA) s ∧ va_X (ex 0) S.1 S.2 s s.heap ∧ ex 0 < n0 ∧ n0 ≤ s.heap.size ∧ mTb s ∧ mXc n0 ex s
theorem mSt_moved {n0 : Nat} {s U : State} (hW : s.WarmedH U.vm) (hh : ∀ q, q < n0 → U.heap[q]? = s.heap[q]?) (h : mSt n0 s) : mSt n0 U := by
  intro q hq
  obtain ⟨c, k, i, f, a, cell, v, h1, h2, h3, h4, h5, h6, h7, h8, h9, h10, h11, h12⟩ := h q hq
  obtain ⟨k', hk', he⟩ := State.fieldFound?_setVm hW.alike h2
  refine ⟨c, k', i, f, a, cell, v, by rw [hW.alike.findClass]; exact h1, by simpa only [State.fieldFound?, State.vm_setVm] using hk', h3, by rw [he]; exact h4, h5, by rw [hh a h5]; exact h6, h7, h8, h9, by rw [he]; exact h10, h11, h12⟩
theorem mXc_moved {n0 : Nat} {ex : Nat → Nat} {s U : State} (hW : s.WarmedH U.vm) (hh : ∀ q, q < n0 → U.heap[q]? = s.heap[q]?) (h : mXc n0 ex s) : mXc n0 ex U := by
  refine ⟨mSt_moved hW hh h.1, fun q hq => vk_R.warm hW (h.2.1 q hq), ?_⟩
  have h1 := Cond.castable_setVm (args := #[]) hW.alike "java/lang/IllegalStateException" "java/lang/IllegalArgumentException"
  rw [h.2.2] at h1
  have h2 : (Cond.castable "java/lang/IllegalStateException" "java/lang/IllegalArgumentException").before #[] U = (Cond.castable "java/lang/IllegalStateException" "java/lang/IllegalArgumentException").before #[] (s.setVm U.vm) := by
    simp only [Cond.before, Cond.holds, Cond.value, State.vm_setVm]
  rw [h2]; exact h1
def mFix (M : Nat) (p : Program) (s : State) (m : MethodId) (meth : Method) (c : Code) : Prop :=
  p.tables.exec = Jvm.exec ∧ c.code = mCode M ∧ meth.sig.returnType = mRet M ∧ c.maxLocals = mMaxL M ∧ meth.locks = false ∧ meth.name = (mName M).name ∧ s.vm.findClass (mNmOf (mOwn M)) = some m.cls ∧ c.exceptionTable.toList.map (fun h => (h.startPc, h.endPc, h.handlerPc, h.catchType)) = mHand M
section Heap
variable {p : Program} {l : Launch} {e : Env} {R : Room} {s : State} {m : MethodId} {args : Array Value} {below : List Frame} {meth : Method} {c : Code} {H : Heap} {locs : List Loc} {cells slots : Nat} {Q : State → Prop}
variable {D : va_G} {n0 : Nat} {ex : Nat → Nat} {dA : FieldType → ClassId} {S : mE} {M pc : Nat} {la : Array Slot} {st : List Value} {h : mHp}
theorem W.sz {g : JFrame} (k : H.size ≤ s.heap.size + cells → W p l e R s m args below meth c H locs cells slots Q g) : W p l e R s m args below meth c H locs cells slots Q g := fun T hT X => k (by rw [← hT]; exact X.heapSize) T hT X
theorem W.mono {Q' : State → Prop} {g : JFrame} (hq : ∀ t, Q t → Q' t) (k : W p l e R s m args below meth c H locs cells slots Q g) : W p l e R s m args below meth c H locs cells slots Q' g := fun T hT X => by
  obtain ⟨t, a, b⟩ := k T hT X
  exact ⟨t, a, hq t b⟩
theorem ms_get (F : mFix M p s m meth c) (X : mCx D n0 ex dA S s) (hP : va_P D mcl (mws n0 ex dA h 0) H) {idx ci k w a : Nat} {fs : List Value} {v : Value} (hd : decode (mCode M) pc = .ok (.getfield idx, 3)) (hf : (mOwn M, idx, ci, k, w) ∈ mFldT ∨ (mOwn M, idx, ci, k, w) ∈ mFldNT) (hg : mget h a = some (.inr (ci, fs))) (hv : fs[k]? = some v)
    (kk : W p l e R s m args below meth c H locs cells slots Q (F0 m (pc + 3) la (cv n0 ex v :: st))) : W p l e R s m args below meth c H locs cells slots Q (F0 m pc la (.ref (sg n0 ex a) :: st)) := by
  obtain ⟨hx, hb, -, -, -, -, hown, -⟩ := F
  have hv' : (fs.map (cv n0 ex))[k]? = some (cv n0 ex v) := by rw [List.getElem?_map, hv]; rfl
  rcases hf with hf | hf
  · obtain ⟨C, T, N, hc, hk, hC, hw⟩ := mFld_spec hf
    exact va_get (D := D) (v := cv n0 ex v) hx hb (fun w hw => mTb_use X.2.2.2.2.1 hw) (m_lay hc) hown X.1 hP (a - 16) (mws_at hg) hc k hk (mTb_use X.2.2.2.2.1 hw) (fun x9 h9 => by rw [hC] at h9; exact h9) hv' hd kk
  · obtain ⟨C, T, N, hc, hk, hC, hw⟩ := mFldN_spec hf
    exact va_getN (D := D) (v := cv n0 ex v) hx hb (fun w hw => mTb_use X.2.2.2.2.1 hw) (m_lay hc) hown X.1 hP (a - 16) (mws_at hg) hc k hk (mTb_use X.2.2.2.2.1 hw) (fun x9 h9 => by rw [hC] at h9; exact h9) hv' hd kk
theorem cv_nar {ty : FieldType} {v : Value} (h : narrow ty v = v) : narrow ty (cv n0 ex v) = cv n0 ex v := by
  cases v <;> first | exact h | (cases ty <;> rfl)
theorem cv_fit {ty : FieldType} {v : Value} (h : fits ty v = true) : fits ty (cv n0 ex v) = true := by
  cases v <;> first | exact h | (cases ty <;> first | rfl | exact h)
theorem ms_put (F : mFix M p s m meth c) (X : mCx D n0 ex dA S s) (hP : va_P D mcl (mws n0 ex dA h 0) H) (hS : va_S (mA n0) s.heap H locs) {idx ci k w a : Nat} {fs : List Value} {v : Value} (hd : decode (mCode M) pc = .ok (.putfield idx, 3)) (hf : (mOwn M, idx, ci, k, w) ∈ mFldT) (hg : mget h a = some (.inr (ci, fs))) (hl : k < fs.length) (hn : narrow (mty ci k) v = v) (hft : fits (mty ci k) v = true) (hfin : mfin ci k = false ∨ ((mName M).name = "<init>" ∧ mOwn M = ci))
    (kk : ∀ (H1 : Heap) (locs1 : List Loc), va_P D mcl (mws n0 ex dA (mput h a (.inr (ci, fs.set k v))) 0) H1 → va_S (mA n0) s.heap H1 locs1 → W p l e R s m args below meth c H1 locs1 cells slots Q (F0 m (pc + 3) la st)) : W p l e R s m args below meth c H locs cells slots Q (F0 m pc la (cv n0 ex v :: .ref (sg n0 ex a) :: st)) := by
  obtain ⟨hx, hb, -, -, -, hin, hown, -⟩ := F
  obtain ⟨C, T, N, hc, hk, hC, hw⟩ := mFld_spec hf
  have e1 : ((mws n0 ex dA h 0).set (a - 16) (sg n0 ex a, .inr (ci, (fs.map (cv n0 ex)).set k (cv n0 ex v)))) = mws n0 ex dA (mput h a (.inr (ci, fs.set k v))) 0 := by
    rw [← mws_put hg (.inr (ci, fs.set k v))]
    simp only [mce, List.map_set]
  have kk' : ∀ (H1 : Heap) (locs1 : List Loc), va_P D mcl ((mws n0 ex dA h 0).set (a - 16) (sg n0 ex a, .inr (ci, (fs.map (cv n0 ex)).set k (cv n0 ex v)))) H1 → va_D (mA n0) ((mws n0 ex dA h 0).set (a - 16) (sg n0 ex a, .inr (ci, (fs.map (cv n0 ex)).set k (cv n0 ex v)))) → va_S (mA n0) s.heap H1 locs1 → W p l e R s m args below meth c H1 locs1 cells slots Q (F0 m (pc + 3) la st) := by
    intro H1 locs1 h1 _ h3
    rw [e1] at h1
    exact kk H1 locs1 h1 h3
  have hmf : mfin ci k = (T k).2.2.2 := by unfold mfin; rw [hc]; rfl
  by_cases hb1 : (T k).2.2.2 = true
  · rcases hfin with hfin | ⟨h1, h2⟩
    · rw [hmf, hb1] at hfin; cases hfin
    · exact va_putF (D := D) (A := mA n0) hx hb (fun w hw => mTb_use X.2.2.2.2.1 hw) (m_lay hc) (mty ci) (m_ty hc) (m_nm hc) hown X.1 hP (mws_D h) hS (a - 16) (mws_at hg) hc k hk (mTb_use X.2.2.2.2.1 hw) (fun x9 h9 => by rw [hC] at h9; exact h9) hb1 (hin.trans h1) (by rw [hC, h2]; exact (mcl_nm hc).symm) (m_ty hc k hk) (cv_nar hn) (cv_fit hft) (by rw [List.length_map]; exact hl) hd kk'
  · have hb2 : (T k).2.2.2 = false := by cases hz : (T k).2.2.2 with
      | true => exact absurd hz hb1
      | false => rfl
    exact va_put (D := D) (A := mA n0) hx hb (fun w hw => mTb_use X.2.2.2.2.1 hw) (m_lay hc) (mty ci) (m_ty hc) (m_nm hc) hown X.1 hP (mws_D h) hS (a - 16) (mws_at hg) hc k hk (mTb_use X.2.2.2.2.1 hw) (fun x9 h9 => by rw [hC] at h9; exact h9) hb2 (m_ty hc k hk) (cv_nar hn) (cv_fit hft) (by rw [List.length_map]; exact hl) hd kk'
theorem ms_ild (F : mFix M p s m meth c) (X : mCx D n0 ex dA S s) (hP : va_P D mcl (mws n0 ex dA h 0) H) {a n : Nat} {f : Nat → Int32} {i : Int32} (hd : decode (mCode M) pc = .ok (.iaload, 1)) (hg : mget h a = some (.inl (.int, n, .inl f))) (hin : vp_in i n)
    (kk : W p l e R s m args below meth c H locs cells slots Q (F0 m (pc + 1) la (.int (f i.toNatClampNeg) :: st))) : W p l e R s m args below meth c H locs cells slots Q (F0 m pc la (.int i :: .ref (sg n0 ex a) :: st)) :=
  va_iald F.1 F.2.1 X.1 hP (a - 16) 0 (mws_at hg) rfl hin hd kk
theorem ms_zld (F : mFix M p s m meth c) (X : mCx D n0 ex dA S s) (hP : va_P D mcl (mws n0 ex dA h 0) H) {a n : Nat} {f : Nat → Int32} {i : Int32} (hd : decode (mCode M) pc = .ok (.baload, 1)) (hg : mget h a = some (.inl (.boolean, n, .inl f))) (hin : vp_in i n)
    (kk : W p l e R s m args below meth c H locs cells slots Q (F0 m (pc + 1) la (.int (f i.toNatClampNeg) :: st))) : W p l e R s m args below meth c H locs cells slots Q (F0 m pc la (.int i :: .ref (sg n0 ex a) :: st)) :=
  va_zald F.1 F.2.1 X.1 hP (a - 16) 2 (mws_at hg) rfl hin hd kk
theorem ms_lld (F : mFix M p s m meth c) (X : mCx D n0 ex dA S s) (hP : va_P D mcl (mws n0 ex dA h 0) H) {a n : Nat} {f : Nat → Int64} {i : Int32} (hd : decode (mCode M) pc = .ok (.laload, 1)) (hg : mget h a = some (.inl (.long, n, .inr (.inl f)))) (hin : vp_in i n)
    (kk : W p l e R s m args below meth c H locs cells slots Q (F0 m (pc + 1) la (.long (f i.toNatClampNeg) :: st))) : W p l e R s m args below meth c H locs cells slots Q (F0 m pc la (.int i :: .ref (sg n0 ex a) :: st)) :=
  va_lald F.1 F.2.1 X.1 hP (a - 16) 1 (mws_at hg) rfl hin hd kk
theorem ms_ist (F : mFix M p s m meth c) (X : mCx D n0 ex dA S s) (hP : va_P D mcl (mws n0 ex dA h 0) H) (hS : va_S (mA n0) s.heap H locs) {a n : Nat} {f : Nat → Int32} {i x : Int32} (hd : decode (mCode M) pc = .ok (.iastore, 1)) (hg : mget h a = some (.inl (.int, n, .inl f))) (hin : vp_in i n)
    (kk : ∀ (H1 : Heap) (locs1 : List Loc), va_P D mcl (mws n0 ex dA (mput h a (.inl (.int, n, .inl (upd f i.toNatClampNeg x)))) 0) H1 → va_S (mA n0) s.heap H1 locs1 → W p l e R s m args below meth c H1 locs1 cells slots Q (F0 m (pc + 1) la st)) : W p l e R s m args below meth c H locs cells slots Q (F0 m pc la (.int x :: .int i :: .ref (sg n0 ex a) :: st)) :=
  va_iast F.1 F.2.1 X.1 hP (mws_D h) hS (a - 16) 0 (mws_at hg) rfl hin hd (fun H1 locs1 h1 _ h3 => kk H1 locs1 (by rw [← mws_put hg]; exact h1) h3)
theorem ms_zst (F : mFix M p s m meth c) (X : mCx D n0 ex dA S s) (hP : va_P D mcl (mws n0 ex dA h 0) H) (hS : va_S (mA n0) s.heap H locs) {a n : Nat} {f : Nat → Int32} {i x : Int32} (hd : decode (mCode M) pc = .ok (.bastore, 1)) (hg : mget h a = some (.inl (.boolean, n, .inl f))) (hin : vp_in i n)
    (kk : ∀ (H1 : Heap) (locs1 : List Loc), va_P D mcl (mws n0 ex dA (mput h a (.inl (.boolean, n, .inl (upd f i.toNatClampNeg (vp_nar .boolean x))))) 0) H1 → va_S (mA n0) s.heap H1 locs1 → W p l e R s m args below meth c H1 locs1 cells slots Q (F0 m (pc + 1) la st)) : W p l e R s m args below meth c H locs cells slots Q (F0 m pc la (.int x :: .int i :: .ref (sg n0 ex a) :: st)) :=
  va_zast F.1 F.2.1 X.1 hP (mws_D h) hS (a - 16) 2 (mws_at hg) rfl hin hd (fun H1 locs1 h1 _ h3 => kk H1 locs1 (by rw [← mws_put hg]; exact h1) h3)
theorem ms_lst (F : mFix M p s m meth c) (X : mCx D n0 ex dA S s) (hP : va_P D mcl (mws n0 ex dA h 0) H) (hS : va_S (mA n0) s.heap H locs) {a n : Nat} {f : Nat → Int64} {i : Int32} {x : Int64} (hd : decode (mCode M) pc = .ok (.lastore, 1)) (hg : mget h a = some (.inl (.long, n, .inr (.inl f)))) (hin : vp_in i n)
    (kk : ∀ (H1 : Heap) (locs1 : List Loc), va_P D mcl (mws n0 ex dA (mput h a (.inl (.long, n, .inr (.inl (vp_updL f i.toNatClampNeg x))))) 0) H1 → va_S (mA n0) s.heap H1 locs1 → W p l e R s m args below meth c H1 locs1 cells slots Q (F0 m (pc + 1) la st)) : W p l e R s m args below meth c H locs cells slots Q (F0 m pc la (.long x :: .int i :: .ref (sg n0 ex a) :: st)) :=
  va_last F.1 F.2.1 X.1 hP (mws_D h) hS (a - 16) 1 (mws_at hg) rfl hin hd (fun H1 locs1 h1 _ h3 => kk H1 locs1 (by rw [← mws_put hg]; exact h1) h3)
theorem ms_len (F : mFix M p s m meth c) (X : mCx D n0 ex dA S s) (hP : va_P D mcl (mws n0 ex dA h 0) H) {a : Nat} {ty : FieldType} {x : vp_A} (hd : decode (mCode M) pc = .ok (.arraylength, 1)) (hg : mget h a = some (.inl (ty, x))) (hty : mprim ty = true)
    (kk : W p l e R s m args below meth c H locs cells slots Q (F0 m (pc + 1) la (.int (Int32.ofNat x.1) :: st))) : W p l e R s m args below meth c H locs cells slots Q (F0 m pc la (.ref (sg n0 ex a) :: st)) := by
  cases ty with
  | int => exact va_alen F.1 F.2.1 X.1 hP (a - 16) 0 (mws_at hg) rfl rfl hd kk
  | long => exact va_alen F.1 F.2.1 X.1 hP (a - 16) 1 (mws_at hg) rfl rfl hd kk
  | boolean => exact va_alen F.1 F.2.1 X.1 hP (a - 16) 2 (mws_at hg) rfl rfl hd kk
  | _ => cases hty
theorem ms_sld (F : mFix M p s m meth c) (X : mCx D n0 ex dA S s) (hS : va_S (mA n0) s.heap H locs) {i : Int32} (hd : decode (mCode M) pc = .ok (.iaload, 1)) (hin : vp_in i S.1)
    (kk : W p l e R s m args below meth c H locs cells slots Q (F0 m (pc + 1) la (.int (S.2 i.toNatClampNeg) :: st))) : W p l e R s m args below meth c H locs cells slots Q (F0 m pc la (.int i :: .ref (sg n0 ex 0) :: st)) :=
  va_sld (A := mA n0) F.1 F.2.1 X.2.1 (Nat.lt_of_lt_of_le X.2.2.1 X.2.2.2.1) (Nat.not_le.mpr X.2.2.1) hS hin hd kk
theorem ms_sln (F : mFix M p s m meth c) (X : mCx D n0 ex dA S s) (hS : va_S (mA n0) s.heap H locs) (hd : decode (mCode M) pc = .ok (.arraylength, 1))
    (kk : W p l e R s m args below meth c H locs cells slots Q (F0 m (pc + 1) la (.int (Int32.ofNat S.1) :: st))) : W p l e R s m args below meth c H locs cells slots Q (F0 m pc la (.ref (sg n0 ex 0) :: st)) :=
  va_slen (A := mA n0) F.1 F.2.1 X.2.1 (Nat.lt_of_lt_of_le X.2.2.1 X.2.2.2.1) (Nat.not_le.mpr X.2.2.1) hS hd kk
/-- the address of a new cell -/
theorem m_q {q : Nat} {x : va_E} {H1 : Heap} (hP : va_P D mcl (mws n0 ex dA h 0 ++ [(q, x)]) H1) (hD : va_D (mA n0) (mws n0 ex dA h 0 ++ [(q, x)])) (hz : H1.size ≤ n0 + h.length + 1) : q = n0 + h.length := by
  have hl : (mws n0 ex dA h 0 ++ [(q, x)])[h.length]? = some (q, x) := by
    rw [List.getElem?_append_right (by rw [mws_len]; exact Nat.le_refl _), mws_len]
    simp
  have h1 : q < H1.size := (hP _ _ hl).lt
  have h2 : n0 ≤ q := hD.2 _ _ hl
  by_cases h3 : q = n0 + h.length
  · exact h3
  · have h4 : q - n0 < h.length := by omega
    have h5 : (mws n0 ex dA h 0 ++ [(q, x)])[q - n0]? = some (n0 + (0 + (q - n0)), mce n0 ex dA h[q - n0]) := by
      rw [List.getElem?_append_left (by rw [mws_len]; exact h4), mws_get, List.getElem?_eq_getElem h4]
      rfl
    have h6 := hD.1 _ _ _ _ h5 hl (by show n0 + (0 + (q - n0)) = q; omega)
    omega
theorem ms_newa (F : mFix M p s m meth c) (X : mCx D n0 ex dA S s) (hP : va_P D mcl (mws n0 ex dA h 0) H) (hS : va_S (mA n0) s.heap H locs) {at_ : ArrayType} {ty : FieldType} {n : Int32} {N : Nat} (hd : decode (mCode M) pc = .ok (.newarray at_, 2)) (hat : newarray.typeOf at_ = ty) (hty : mprim ty = true) (hn : ¬ n < 0) (hN : n.toNatClampNeg = N) (hNb : N ≤ 10000) (hsz : s.heap.size + cells = n0 + h.length) (hc : cells + 1 ≤ R.cells) (hs : slots + N ≤ R.slots)
    (kk : ∀ H1 : Heap, va_P D mcl (mws n0 ex dA (h ++ [.inl (ty, mzero ty N)]) 0) H1 → va_S (mA n0) s.heap H1 locs → W p l e R s m args below meth c H1 locs (cells + 1) (slots + N) Q (F0 m (pc + 2) la (.ref (sg n0 ex (h.length + 16)) :: st))) : W p l e R s m args below meth c H locs cells slots Q (F0 m pc la (.int n :: st)) := by
  have harr : (Cond.arrayClass ty).before args s = true := by
    cases ty with
    | int => exact mTb_use X.2.2.2.2.1 marr1
    | long => exact mTb_use X.2.2.2.2.1 marr2
    | boolean => exact mTb_use X.2.2.2.2.1 marr3
    | _ => cases hty
  subst hat
  refine va_newa (D := D) (cl := mcl) (A := mA n0) (a0 := mzero (newarray.typeOf at_) N) F.1 F.2.1 harr rfl X.1 hP (mws_D h) hS (fun q hq => Nat.le_trans X.2.2.2.1 hq) ?_ hn hN ?_ hc hs hd ?_
  · intro cA
    cases at_ <;> first | rfl | cases hty
  · have : componentBytes (newarray.typeOf at_) ≤ 8 := by cases at_ <;> decide
    calc N * componentBytes (newarray.typeOf at_) ≤ 10000 * 8 := Nat.mul_le_mul hNb this
      _ ≤ 536870912 := by decide
  · intro q cA H1 hK1 hP1 hD1 hS1
    refine W.sz (fun hz => ?_)
    have hq : q = n0 + h.length := m_q hP1 hD1 (by omega)
    have hcA : cA = dA (newarray.typeOf at_) := by
      have g1 := (hK1.2 3 (cA, newarray.typeOf at_) rfl).2
      cases at_ with
      | int => exact Option.some.inj (g1.symm.trans (X.1.2 0 _ rfl).2)
      | long => exact Option.some.inj (g1.symm.trans (X.1.2 1 _ rfl).2)
      | boolean => exact Option.some.inj (g1.symm.trans (X.1.2 2 _ rfl).2)
      | _ => cases hty
    subst hq
    subst hcA
    have e1 : sg n0 ex (h.length + 16) = n0 + h.length := by unfold sg; rw [if_neg (by omega), Nat.add_sub_cancel]
    rw [e1] at kk
    refine kk H1 ?_ hS1
    rw [mws_app]
    simpa [mce] using hP1
theorem ms_new (F : mFix M p s m meth c) (X : mCx D n0 ex dA S s) (hP : va_P D mcl (mws n0 ex dA h 0) H) (hS : va_S (mA n0) s.heap H locs) {idx ci w1 w2 w3 : Nat} (hd : decode (mCode M) pc = .ok (.new idx, 3)) (hf : (mOwn M, idx, ci, w1, w2, w3) ∈ mNewT) (hsz : s.heap.size + cells = n0 + h.length) (hc : cells + 1 ≤ R.cells) (hs : slots + mslot (.inr (ci, mdef ci)) ≤ R.slots)
    (kk : ∀ H1 : Heap, va_P D mcl (mws n0 ex dA (h ++ [.inr (ci, mdef ci)]) 0) H1 → va_S (mA n0) s.heap H1 locs → W p l e R s m args below meth c H1 locs (cells + 1) (slots + mslot (.inr (ci, mdef ci))) Q (F0 m (pc + 3) la (.ref (sg n0 ex (h.length + 16)) :: st))) : W p l e R s m args below meth c H locs cells slots Q (F0 m pc la st) := by
  obtain ⟨C, T, N, hcl, hlt, h1, h2, h3⟩ := mNew_spec hf
  have hms : mslot (.inr (ci, mdef ci)) = N := by
    simp only [mslot, hlt, if_true, hcl]
    rfl
  rw [hms] at hs kk
  refine va_new (D := D) (cl := mcl) (A := mA n0) (fs := (mdef ci).map (cv n0 ex)) (C := C) (T := T) (N := N) F.1 F.2.1 (fun w hw => mTb_use X.2.2.2.2.1 hw) (m_lay hcl) (mty ci) (m_ty hcl) F.2.2.2.2.2.2.1 (mTb_use X.2.2.2.2.1 h1) (mTb_use X.2.2.2.2.1 h2) (mTb_use X.2.2.2.2.1 h3) X.1 hP (mws_D h) hS (fun q hq => Nat.le_trans X.2.2.2.1 hq) hcl ?_ hc hs hd ?_
  · intro j hj
    have hz : ∀ ty : FieldType, cv n0 ex (defaultValue ty) = defaultValue ty := fun ty => by cases ty <;> rfl
    simp [vp_V, mdef, hcl, hj, hz]
  · intro q H1 hP1 hD1 hS1
    refine W.sz (fun hz => ?_)
    have hq : q = n0 + h.length := m_q hP1 hD1 (by omega)
    subst hq
    have e1 : sg n0 ex (h.length + 16) = n0 + h.length := by unfold sg; rw [if_neg (by omega), Nat.add_sub_cancel]
    rw [e1] at kk
    refine kk H1 ?_ hS1
    rw [mws_app]
    simpa [mce] using hP1
theorem mObj_spec {o idx w : Nat} (h : (o, idx, w) ∈ mObjT) : Cond.methodLink (mNmOf o) idx objectInit ∈ mTbl := mIs.mem (List.all_eq_true.mp mObjT_ok _ h)
theorem ms_obj (F : mFix M p s m meth c) (X : mCx D n0 ex dA S s) (hl : la.size = mMaxL M) {idx w a : Nat} (hd : decode (mCode M) pc = .ok (.invokespecial idx, 3)) (hf : (mOwn M, idx, w) ∈ mObjT) (h1 : 1 ≤ R.frames) (h2 : mcats st + 12 ≤ R.locals)
    (kk : W p l e R s m args below meth c H locs cells slots Q (F0 m (pc + 3) la (st.map (cv n0 ex)))) : W p l e R s m args below meth c H locs cells slots Q (F0 m pc la (.ref a :: st.map (cv n0 ex))) := by
  refine W.objInit F.1 F.2.1 F.2.2.2.2.2.2.1 (mTb_use X.2.2.2.2.1 (mObj_spec hf)) (mTb_use X.2.2.2.2.1 mobj1) (mTb_use X.2.2.2.2.1 mobj2) rfl (hl.trans F.2.2.2.1.symm) rfl hd h1 ?_ kk
  show 2 * 0 + _ + 12 ≤ R.locals
  have : ((st.map (cv n0 ex)).map fun v => v.category).sum = mcats st := by simp [mcats, Function.comp_def, cv_cat]
  rw [this]
  omega
theorem mCi_spec {o idx w : Nat} {v : Int32} (h : (o, idx, v, w) ∈ mCiT) : Cond.constant (mNmOf o) idx v ∈ mTbl := mIs.mem (List.all_eq_true.mp mCiT_ok _ h)
theorem mCl_spec {o idx w : Nat} {v : Int64} (h : (o, idx, v, w) ∈ mClT) : Cond.constantLong (mNmOf o) idx v ∈ mTbl := mIs.mem (List.all_eq_true.mp mClT_ok _ h)
end Heap
end
section
/-! THE SMALL MACHINE IS THE MACHINE: mSem, its closure under the rules, so: what Runs says holds of the machine -/
def mOut (n0 : Nat) (ex : Nat → Nat) (o : Option Value ⊕ Nat) : Outcome := match o with
  | .inl v => .returned (v.map (cv n0 ex))
  | .inr k => .threw (sg n0 ex k)
def mQ (D : va_G) (n0 : Nat) (ex : Nat → Nat) (dA : FieldType → ClassId) (s : State) (below : List Frame) (mc ms : Nat) (r : mR) : State → Prop := fun t =>
  t.status = .running ∧ Ended t below (mOut n0 ex r.1) ∧ s.WarmedH t.vm ∧ (∃ L : List Loc, s.sameButNew ({ t with vm := s.vm } : State) L mc ms ∧ ∀ q ∈ L, n0 ≤ q.base) ∧ va_P D mcl (mws n0 ex dA r.2 0) t.heap ∧ va_F (mA n0) s t
def mGo (l : Launch) (D : va_G) (n0 : Nat) (ex : Nat → Nat) (dA : FieldType → ClassId) (S : mE) (M : Nat) (f : mF) (r : mR) : Prop :=
  ∀ (p : Program) (e : Env) (R : Room) (s : State) (m : MethodId) (args : Array Value) (below : List Frame) (meth : Method) (c : Code) (H : Heap) (locs : List Loc) (la : Array Slot) (cells slots mc ms sl0 : Nat),
    mFix M p s m meth c → mCx D n0 ex dA S s → va_P D mcl (mws n0 ex dA f.2.2.2 0) H → va_S (mA n0) s.heap H locs → lv_has la (mMaxL M) (f.2.1.map (cvp n0 ex)) → mFr M ≤ R.frames → mLo M ≤ R.locals → mc ≤ R.cells → ms ≤ R.slots → s.heap.size + cells = n0 + f.2.2.2.length → s.heap.size + mc = n0 + r.2.length → msl f.2.2.2 = sl0 + slots → msl r.2 = sl0 + ms →
    W p l e R s m args below meth c H locs cells slots (mQ D n0 ex dA s below mc ms r) (F0 m f.1 la (f.2.2.1.map (cv n0 ex)))
def mSem (l : Launch) (D : va_G) (n0 : Nat) (ex : Nat → Nat) (dA : FieldType → ClassId) (S : mE) (M : Nat) (f : mF) (r : mR) : Prop := f.2.2.2.length ≤ r.2.length ∧ msl f.2.2.2 ≤ msl r.2 ∧ mGo l D n0 ex dA S M f r
theorem msl_app (h : mHp) (c : mC) : msl (h ++ [c]) = msl h + mslot c := by simp [msl]
theorem mput_len (h : mHp) (a : Nat) (c : mC) : (mput h a c).length = h.length := by simp [mput]
theorem msl_set (h : mHp) (k : Nat) (c c' : mC) (hk : h[k]? = some c) (hs : mslot c' = mslot c) : msl (h.set k c') = msl h := by
  induction h generalizing k with
  | nil => rfl
  | cons x t ih =>
    cases k with
    | zero =>
      cases hk
      simp [msl, hs]
    | succ k =>
      have := ih k (by simpa using hk)
      simp only [msl, List.set_cons_succ, List.map_cons, List.sum_cons] at this ⊢
      rw [this]
theorem mput_sl {h : mHp} {a : Nat} {c c' : mC} (hg : mget h a = some c) (hs : mslot c' = mslot c) : msl (mput h a c') = msl h := by
  unfold mget at hg
  by_cases ha : a < 16
  · rw [if_pos ha] at hg; cases hg
  · rw [if_neg ha] at hg
    exact msl_set h (a - 16) c c' hg hs
theorem mcats_sl (vs : List Value) : (lg_sl vs).length = mcats vs := by
  induction vs with
  | nil => rfl
  | cons v t ih =>
    simp only [lg_sl, List.flatMap_cons, List.length_append, mcats, List.map_cons, List.sum_cons] at ih ⊢
    rw [ih]
    rcases lv_cat v with h | h <;> simp [h]
theorem mcats_map (n0 : Nat) (ex : Nat → Nat) (vs : List Value) : mcats (vs.map (cv n0 ex)) = mcats vs := by simp [mcats, Function.comp_def, cv_cat]
theorem lv_args_map (n0 : Nat) (ex : Nat → Nat) (vs : List Value) (i : Nat) : lv_args i (vs.map (cv n0 ex)) = (lv_args i vs).map (cvp n0 ex) := by
  induction vs generalizing i with
  | nil => rfl
  | cons v t ih =>
    simp only [List.map_cons, lv_args, cv_cat, ih]
    rfl
theorem mCx_moved {D : va_G} {n0 : Nat} {ex : Nat → Nat} {dA : FieldType → ClassId} {S : mE} {s U : State} {H : Heap} {locs : List Loc} (X : mCx D n0 ex dA S s) (hS : va_S (mA n0) s.heap H locs) (hU : U.heap = H) (hW : s.WarmedH U.vm) : mCx D n0 ex dA S U := by
  obtain ⟨h1, h2, h3, h4, h5, h6⟩ := X
  refine ⟨va_K.moved hW.alike h1, ?_, h3, ?_, fun w hw => mTb_warm hW h5 w hw, mXc_moved hW (fun q hq => by rw [hU]; exact hS.2.1 q (Nat.lt_of_lt_of_le hq h4) (Nat.not_le.mpr hq)) h6⟩
  · refine (va_X.moved hW.alike h2).kept ?_
    rw [hU]
    exact hS.2.1 _ (Nat.lt_of_lt_of_le h3 h4) (Nat.not_le.mpr h3)
  · rw [hU]; exact Nat.le_trans h4 hS.1
def mPc (D : va_G) (n0 : Nat) (ex : Nat → Nat) (dA : FieldType → ClassId) (S : mE) (h : mHp) (vs : List Value) : Array Value → State → Prop :=
  va_Pc (vs.map (cv n0 ex)) (fun U => mCx D n0 ex dA S U ∧ va_P D mcl (mws n0 ex dA h 0) U.heap ∧ U.heap.size = n0 + h.length)
def mQc (D : va_G) (n0 : Nat) (ex : Nat → Nat) (dA : FieldType → ClassId) (v : Option Value) (h' : mHp) : Array Value → State → Outcome → State → Prop := fun _ st o t =>
  o = .returned (v.map (cv n0 ex)) ∧ va_P D mcl (mws n0 ex dA h' 0) t.heap ∧ va_F (mA n0) st t
theorem mPc_blind {D : va_G} {n0 : Nat} {ex : Nat → Nat} {dA : FieldType → ClassId} {S : mE} {h : mHp} {vs : List Value} : FrameBlind (mPc D n0 ex dA S h vs) := by
  intro a U g mk hp
  obtain ⟨q0, qX, qP, qs⟩ := hp
  exact ⟨q0, mCx_moved (U := U.calling g mk a) (H := U.heap) (locs := []) qX va_S.rf rfl (State.WarmedH.refl U), qP, qs⟩
section Met
variable {l : Launch} {D : va_G} {n0 : Nat} {ex : Nat → Nat} {dA : FieldType → ClassId} {S : mE}
/-- a run of the small machine that returns is a contract of the machine -/
theorem m_met {N : Nat} {vs : List Value} {h h' : mHp} {v : Option Value} {mc ms : Nat} (hk : mSem l D n0 ex dA S N (0, lv_args 0 vs, [], h) (.inl v, h')) (hpl : plainFor (mName N) = true) (hnm : mNmOf (mOwn N) = (mName N).cls) (hhd : mHand N = []) (hw : mcats vs ≤ mMaxL N) (hmc : h.length + mc = h'.length) (hms : msl h + ms = msl h') :
    Met l (mName N) [Cond.code (mName N) (mCode N) (mMaxL N) (mRet N)] ({ frames := mFr N, cells := mc, slots := ms, locals := mLo N }) (mPc D n0 ex dA S h vs) (mQc D n0 ex dA v h') mc ms (mA n0) := by
  refine MetFree.of_bodySF (code := mCode N) (maxLocals := mMaxL N) (ret := mRet N) hpl ?_ ?_
  · intro args s m hh hn
    obtain ⟨meth, c, h1, h2, h3, h4, h5, h6, -, -⟩ := Cond.code_spec hn (atoms_spec (ws := [Cond.code (mName N) (mCode N) (mMaxL N) (mRet N)]) hh _ List.mem_cons_self)
    exact ⟨meth, c, h1, h2, h3, h4, h5, h6⟩
  · intro p e s m args below meth c s₁ B hml hP _
    obtain ⟨rfl, hX, hPw, hsz⟩ := hP
    have hcode := atoms_spec (ws := [Cond.code (mName N) (mCode N) (mMaxL N) (mRet N)]) B.pre _ List.mem_cons_self
    have hh0 : s₁.heap = s.heap := by rw [B.state]; rfl
    have hex : c.exceptionTable.toList.map (fun h => (h.startPc, h.endPc, h.handlerPc, h.catchType)) = mHand N := by
      have h0 : c.exceptionTable.size = 0 := by simpa [Array.isEmpty] using BodyLoose.noHandlers B hcode
      have h1 : c.exceptionTable.toList = [] := List.eq_nil_of_length_eq_zero (by simpa using h0)
      rw [h1, hhd]; rfl
    have F : mFix N p s m meth c := ⟨B.exec, B.bytes, B.returns, hml, B.notSynchronized, (name_of_methodNamed B.named B.method).1, by rw [hnm]; exact findClass_of_methodNamed B.named, hex⟩
    have hl := lv_entry (vs.map (cv n0 ex)) (n := mMaxL N) (by rw [mcats_sl, mcats_map]; exact hw)
    have K : W p l e ({ frames := mFr N, cells := mc, slots := ms, locals := mLo N } : Room) s m (vs.map (cv n0 ex)).toArray below meth c s.heap [] 0 0 (mQ D n0 ex dA s below mc ms (.inl v, h')) (entryFrame m (vs.map (cv n0 ex)).toArray (mMaxL N)) := by
      rw [lg_entry_eq]
      exact hk.2.2 p e _ s m _ below meth c s.heap [] _ 0 0 mc ms (msl h) F hX hPw va_S.rf (by rw [← lv_args_map]; exact hl) (Nat.le_refl _) (Nat.le_refl _) (Nat.le_refl _) (Nat.le_refl _) hsz (by rw [hsz, ← hmc]; omega) rfl hms.symm
    obtain ⟨t, a1, b1, b2, b3, ⟨L, b4, b5⟩, b6, b7⟩ := K s₁ hh0 (Stand.of_body B)
    exact ⟨t, _, a1, b1, b2, ⟨rfl, b6, b7⟩, L, ⟨⟨_, rfl⟩, b3, b4⟩, b5⟩
end Met
theorem mLnk_spec {o idx N kind w1 w2 w3 w4 w5 : Nat} (h : (o, idx, N, kind, w1, w2, w3, w4, w5) ∈ mLnkT) :
    (if kind < 3 then Cond.methodLink (mNmOf o) idx (mName N) else .methodLinkNest (mNmOf o) idx (mName N) "MeshWalk") ∈ mTbl ∧ (if kind % 3 = 1 then Cond.static (mName N) else .instanceMethod (mName N)) ∈ mTbl ∧ (kind % 3 = 0 → Cond.selects (mName N).cls (mName N) (mName N) ∈ mTbl) ∧ Cond.initialized (mName N).cls ∈ mTbl ∧ ((mName N).cls ≠ "java/lang/invoke/MethodHandle" ∧ (mName N).cls ≠ "java/lang/invoke/VarHandle") ∧ (parseMethodDescriptor (mName N).desc).map (fun d => d.parameters.length) = some (mAr N) ∧ mNmOf (mOwn N) = (mName N).cls ∧ plainFor (mName N) = true ∧ (kind % 3 = 2 → (mName N).name = "<init>" ∧ mRet N = none) := by
  have hk := List.all_eq_true.mp mLnkT_ok _ h
  simp only [mLnkOK, Bool.and_eq_true, decide_eq_true_eq] at hk
  obtain ⟨h1, h2, h3, h4, h5, h6, h7, h8, h9⟩ := hk
  refine ⟨mIs.mem h1, mIs.mem h2, fun hz => ?_, mIs.mem h4, h5, h6, h7, h8, fun hz => ?_⟩
  · rw [if_pos hz] at h3; exact mIs.mem h3
  · rw [if_pos hz] at h9; exact of_decide_eq_true h9
section Calls
variable {p : Program} {l : Launch} {e : Env} {R : Room} {s : State} {m : MethodId} {args : Array Value} {below : List Frame} {meth : Method} {c : Code} {H : Heap} {locs : List Loc} {cells slots : Nat} {Q : State → Prop}
variable {D : va_G} {n0 : Nat} {ex : Nat → Nat} {dA : FieldType → ClassId} {S : mE} {M pc : Nat} {la : Array Slot} {st : List Value} {h : mHp}
theorem m_back {mc ms : Nat} {st0 rest : List Value} {v : Option Value} {h' : mHp} {a : Array Value} (hr : va_Run p l e R s m args below meth c H locs cells slots mc ms (F0 m pc la st0) rest (mQc D n0 ex dA v h' a) (mA n0)) (hS : va_S (mA n0) s.heap H locs)
    (kk : ∀ (H1 : Heap) (locs1 : List Loc), va_P D mcl (mws n0 ex dA h' 0) H1 → va_S (mA n0) s.heap H1 locs1 → W p l e R s m args below meth c H1 locs1 (cells + mc) (slots + ms) Q (F0 m (pc + 3) la ((v.map (cv n0 ex)).toList ++ rest))) : W p l e R s m args below meth c H locs cells slots Q (F0 m pc la st0) := by
  intro T hT X
  obtain ⟨v1, st₀, t, T', L, h0, X', hL, e1, e2, ⟨hv, hp, hz, hk⟩, stp⟩ := hr T hT X
  cases hv
  rw [h0] at hz hk
  obtain ⟨t2, a1, b1⟩ := kk T'.heap (locs ++ L) (by rw [e1]; exact hp)
    ⟨Nat.le_trans hS.1 (by rw [e1]; exact hz), fun q h1 h2 => by rw [e1, hk q (Nat.lt_of_lt_of_le h1 hS.1) h2]; exact hS.2.1 q h1 h2, fun q hq => by
      rcases List.mem_append.mp hq with hq | hq
      · exact hS.2.2 q hq
      · exact hL q hq⟩ T' rfl X'
  exact ⟨t2, stp t2 a1, b1⟩
theorem m_cats (st : List Value) (hc : mcats st ≤ 8) : 2 * (F0 m pc la []).monitorRoom + ((st.map (cv n0 ex)).map fun v => v.category).sum ≤ 8 := by
  show 2 * 0 + _ ≤ 8
  have := mcats_map n0 ex st
  unfold mcats at this
  rw [this]
  unfold mcats at hc
  omega
theorem m_lenn {N n : Nat} (h : (parseMethodDescriptor (mName N).desc).map (fun d => d.parameters.length) = some n) : ∀ sig, parseMethodDescriptor (mName N).desc = some sig → n = sig.parameters.length := by
  intro sig hs
  rw [hs] at h
  exact (Option.some.inj h).symm
theorem m_size (hP : va_P D mcl (mws n0 ex dA h 0) H) (hS : va_S (mA n0) s.heap H locs) (h1 : s.heap.size + cells = n0 + h.length) (h0 : n0 ≤ s.heap.size) (hz : H.size ≤ s.heap.size + cells) : H.size = n0 + h.length := by
  by_cases hl : h.length = 0
  · have := hS.1; omega
  · have hg : (mws n0 ex dA h 0)[h.length - 1]? = some (n0 + (0 + (h.length - 1)), mce n0 ex dA h[h.length - 1]) := by
      rw [mws_get, List.getElem?_eq_getElem (by omega)]
      rfl
    have := (hP _ _ hg).lt
    simp only at this
    omega
set_option maxHeartbeats 4000000 in
theorem ms_rv {Qc : Array Value → State → Outcome → State → Prop} {free : Addr → Prop} (F : mFix M p s m meth c) (X : mCx D n0 ex dA S s) (hP : va_P D mcl (mws n0 ex dA h 0) H) (hS : va_S (mA n0) s.heap H locs) (hla : la.size = mMaxL M) (hRf : mFr M ≤ R.frames) (hRl : mLo M ≤ R.locals) {idx N kind w1 w2 w3 w4 w5 a ci : Nat} {fs As st0 : List Value} {mc ms : Nat}
    (hd : decode (mCode M) pc = .ok ((if kind % 3 = 2 then .invokespecial idx else .invokevirtual idx), 3)) (hf : (mOwn M, idx, N, kind, w1, w2, w3, w4, w5) ∈ mLnkT) (hkd : kind % 3 = 2 ∨ kind % 3 = 0) (hrm : mroom M N st) (hst : st0 = As.reverse ++ .ref a :: st) (har : As.length = mAr N) (hcw : mcats (.ref a :: As) ≤ mMaxL N) (hg : mget h a = some (.inr (ci, fs))) (hci : mOwn N = ci)
    (hM : Met l (mName N) [Cond.code (mName N) (mCode N) (mMaxL N) (mRet N)] ({ frames := mFr N, cells := mc, slots := ms, locals := mLo N }) (mPc D n0 ex dA S h (.ref a :: As)) Qc mc ms free) (hHs : H.size = n0 + h.length) (hRc : cells + mc ≤ R.cells) (hRs : slots + ms ≤ R.slots) :
    va_Run p l e R s m args below meth c H locs cells slots mc ms (F0 m pc la (st0.map (cv n0 ex))) (st.map (cv n0 ex)) (Qc ((.ref a :: As).map (cv n0 ex)).toArray) free := by
  obtain ⟨hr1, hr2, hr3, hr4, hr5⟩ := hrm
  obtain ⟨g1, g2, g3, g4, g5, g6, g7, g8, g9⟩ := mLnk_spec hf
  have hcodew : Cond.code (mName N) (mCode N) (mMaxL N) (mRet N) ∈ mTbl := by
    have := hr5
    unfold mCw at this
    rw [if_pos hr4] at this
    exact this
  have hws : ∀ w ∈ [Cond.code (mName N) (mCode N) (mMaxL N) (mRet N)], ∀ (a' : Array Value) (U : State), s.WarmedH U.vm → w.before a' U = true := fun w hw a' U hW => mTb_warm hW X.2.2.2.2.1 w (by rw [List.mem_singleton.mp hw]; exact hcodew)
  have hpre : ∀ U : State, U.heap = H → s.WarmedH U.vm → mPc D n0 ex dA S h (.ref a :: As) (Value.ref (sg n0 ex a) :: As.map (cv n0 ex)).toArray U := fun U hU hW => ⟨rfl, mCx_moved X hS hU hW, by rw [hU]; exact hP, by rw [hU]; exact hHs⟩
  have hstk : st0.map (cv n0 ex) = (As.map (cv n0 ex)).reverse ++ .ref (sg n0 ex a) :: st.map (cv n0 ex) := by
    rw [hst]; simp [cv]
  have hln : (As.map (cv n0 ex)).length = mAr N := by rw [List.length_map]; exact har
  have hlz : la.size = mMaxL M := hla
  rcases hkd with hkd | hkd
  · -- a constructor
    rw [if_pos hkd] at hd
    obtain ⟨n1, n2⟩ := g9 hkd
    rw [n2] at hcodew hM hws
    rw [if_neg (by omega)] at g2
    by_cases hk3 : kind < 3
    · rw [if_pos hk3] at g1
      exact va_runI (Ts := mTbl) (own := mNmOf (mOwn M)) (index := idx) (n := mAr N) (bytes := mCode N) (maxL := mMaxL N) (As := As.map (cv n0 ex)) (b := sg n0 ex a) (rest := st.map (cv n0 ex)) ⟨F.1, F.2.1, F.2.2.2.1, F.2.2.2.2.2.2.1, fun w hw => mTb_use X.2.2.2.2.1 hw⟩ hM ⟨⟨rfl, rfl, Nat.le_trans hr1 hRf, Nat.le_trans hr2 hRl, hws, List.mem_cons_self, mTb_use X.2.2.2.2.1 hcodew, mTb_use X.2.2.2.2.1 g4, g5, m_lenn g6, mTb_use X.2.2.2.2.1 g1⟩, n1, mTb_use X.2.2.2.2.1 g2⟩ ⟨mPc_blind, hpre⟩ rfl hln hlz hstk (m_cats (m := m) (pc := pc) (la := la) st hr3) hd ⟨hRc, hRs⟩
    · rw [if_neg hk3] at g1
      exact va_runIN (Ts := mTbl) (own := mNmOf (mOwn M)) (index := idx) (n := mAr N) (bytes := mCode N) (maxL := mMaxL N) (host := "MeshWalk") (As := As.map (cv n0 ex)) (b := sg n0 ex a) (rest := st.map (cv n0 ex)) ⟨F.1, F.2.1, F.2.2.2.1, F.2.2.2.2.2.2.1, fun w hw => mTb_use X.2.2.2.2.1 hw⟩ hM ⟨⟨⟨rfl, rfl, Nat.le_trans hr1 hRf, Nat.le_trans hr2 hRl, hws, List.mem_cons_self⟩, mTb_use X.2.2.2.2.1 hcodew, mTb_use X.2.2.2.2.1 g4, g5, m_lenn g6, mTb_use X.2.2.2.2.1 g1⟩, n1, mTb_use X.2.2.2.2.1 g2⟩ ⟨mPc_blind, hpre⟩ rfl hln hlz hstk (m_cats (m := m) (pc := pc) (la := la) st hr3) hd ⟨hRc, hRs⟩
  · -- a method
    rw [if_neg (by omega)] at hd
    rw [if_neg (by omega)] at g2
    have g3' := g3 hkd
    have hrecv : ∃ cellB : Cell, H[sg n0 ex a]? = some cellB ∧ cellB.vm.isStatics = false ∧ s.vm.findClass (mName N).cls = some cellB.cls := by
      have hlt : ∃ q : vw_C, mcl[ci]? = some q := by
        obtain ⟨r, hr, -⟩ := hP _ _ (mws_at hg)
        exact ⟨r, hr⟩
      obtain ⟨⟨C, T, NN⟩, hc⟩ := hlt
      have := va_recv X.1 hP hc (mws_at hg)
      have hC : C = (mName N).cls := by rw [← g7, hci]; exact (mcl_nm hc).symm
      rw [← hC]
      exact this
    by_cases hk3 : kind < 3
    · rw [if_pos hk3] at g1
      exact va_runV (Ts := mTbl) (own := mNmOf (mOwn M)) (index := idx) (n := mAr N) (bytes := mCode N) (maxL := mMaxL N) (C := (mName N).cls) (As := As.map (cv n0 ex)) (b := sg n0 ex a) (rest := st.map (cv n0 ex)) ⟨F.1, F.2.1, F.2.2.2.1, F.2.2.2.2.2.2.1, fun w hw => mTb_use X.2.2.2.2.1 hw⟩ hM ⟨⟨rfl, rfl, Nat.le_trans hr1 hRf, Nat.le_trans hr2 hRl, hws, List.mem_cons_self, mTb_use X.2.2.2.2.1 hcodew, mTb_use X.2.2.2.2.1 g4, g5, m_lenn g6, mTb_use X.2.2.2.2.1 g1⟩, mTb_use X.2.2.2.2.1 g2, mTb_use X.2.2.2.2.1 g3'⟩ ⟨mPc_blind, hrecv, hpre⟩ rfl hln hlz hstk (m_cats (m := m) (pc := pc) (la := la) st hr3) hd ⟨hRc, hRs⟩
    · rw [if_neg hk3] at g1
      exact va_runVN (Ts := mTbl) (own := mNmOf (mOwn M)) (index := idx) (n := mAr N) (bytes := mCode N) (maxL := mMaxL N) (C := (mName N).cls) (host := "MeshWalk") (As := As.map (cv n0 ex)) (b := sg n0 ex a) (rest := st.map (cv n0 ex)) ⟨F.1, F.2.1, F.2.2.2.1, F.2.2.2.2.2.2.1, fun w hw => mTb_use X.2.2.2.2.1 hw⟩ hM ⟨⟨⟨rfl, rfl, Nat.le_trans hr1 hRf, Nat.le_trans hr2 hRl, hws, List.mem_cons_self⟩, mTb_use X.2.2.2.2.1 hcodew, mTb_use X.2.2.2.2.1 g4, g5, m_lenn g6, mTb_use X.2.2.2.2.1 g1⟩, mTb_use X.2.2.2.2.1 g2, mTb_use X.2.2.2.2.1 g3'⟩ ⟨mPc_blind, hrecv, hpre⟩ rfl hln hlz hstk (m_cats (m := m) (pc := pc) (la := la) st hr3) hd ⟨hRc, hRs⟩
theorem ms_cv (F : mFix M p s m meth c) (X : mCx D n0 ex dA S s) (hP : va_P D mcl (mws n0 ex dA h 0) H) (hS : va_S (mA n0) s.heap H locs) (hla : la.size = mMaxL M) (hRf : mFr M ≤ R.frames) (hRl : mLo M ≤ R.locals) {h' : mHp} {idx N kind w1 w2 w3 w4 w5 a ci : Nat} {fs As st0 : List Value} {v : Option Value} {mc ms : Nat}
    (hd : decode (mCode M) pc = .ok ((if kind % 3 = 2 then .invokespecial idx else .invokevirtual idx), 3)) (hf : (mOwn M, idx, N, kind, w1, w2, w3, w4, w5) ∈ mLnkT) (hkd : kind % 3 = 2 ∨ kind % 3 = 0) (hrm : mroom M N st) (hst : st0 = As.reverse ++ .ref a :: st) (har : As.length = mAr N) (hcw : mcats (.ref a :: As) ≤ mMaxL N) (hg : mget h a = some (.inr (ci, fs))) (hci : mOwn N = ci)
    (hk : mSem l D n0 ex dA S N (0, lv_args 0 (.ref a :: As), [], h) (.inl v, h')) (hsz : s.heap.size + cells = n0 + h.length) (hmc : h.length + mc = h'.length) (hms : msl h + ms = msl h') (hRc : cells + mc ≤ R.cells) (hRs : slots + ms ≤ R.slots)
    (kk : ∀ (H1 : Heap) (locs1 : List Loc), va_P D mcl (mws n0 ex dA h' 0) H1 → va_S (mA n0) s.heap H1 locs1 → W p l e R s m args below meth c H1 locs1 (cells + mc) (slots + ms) Q (F0 m (pc + 3) la ((v.toList ++ st).map (cv n0 ex)))) : W p l e R s m args below meth c H locs cells slots Q (F0 m pc la (st0.map (cv n0 ex))) := by
  refine W.sz (fun hz => ?_)
  have hHs : H.size = n0 + h.length := m_size hP hS hsz X.2.2.2.1 hz
  obtain ⟨g1, g2, g3, g4, g5, g6, g7, g8, g9⟩ := mLnk_spec hf
  have hM := m_met (l := l) (mc := mc) (ms := ms) hk g8 g7 hrm.2.2.2.1 hcw hmc hms
  exact m_back (v := v) (h' := h') (ms_rv F X hP hS hla hRf hRl hd hf hkd hrm hst har hcw hg hci hM hHs hRc hRs) hS (fun H1 locs1 a1 a2 => by
    have := kk H1 locs1 a1 a2
    cases v <;> simpa using this)
set_option maxHeartbeats 4000000 in
theorem ms_rs {Qc : Array Value → State → Outcome → State → Prop} {free : Addr → Prop} (F : mFix M p s m meth c) (X : mCx D n0 ex dA S s) (hP : va_P D mcl (mws n0 ex dA h 0) H) (hS : va_S (mA n0) s.heap H locs) (hla : la.size = mMaxL M) (hRf : mFr M ≤ R.frames) (hRl : mLo M ≤ R.locals) {idx N kind w1 w2 w3 w4 w5 : Nat} {As st0 : List Value} {mc ms : Nat}
    (hd : decode (mCode M) pc = .ok (.invokestatic idx, 3)) (hf : (mOwn M, idx, N, kind, w1, w2, w3, w4, w5) ∈ mLnkT) (hkd : kind % 3 = 1) (hrm : mroom M N st) (hst : st0 = As.reverse ++ st) (har : As.length = mAr N) (hcw : mcats As ≤ mMaxL N)
    (hM : Met l (mName N) [Cond.code (mName N) (mCode N) (mMaxL N) (mRet N)] ({ frames := mFr N, cells := mc, slots := ms, locals := mLo N }) (mPc D n0 ex dA S h (As)) Qc mc ms free) (hHs : H.size = n0 + h.length) (hRc : cells + mc ≤ R.cells) (hRs : slots + ms ≤ R.slots) :
    va_Run p l e R s m args below meth c H locs cells slots mc ms (F0 m pc la (st0.map (cv n0 ex))) (st.map (cv n0 ex)) (Qc ((As).map (cv n0 ex)).toArray) free := by
  obtain ⟨hr1, hr2, hr3, hr4, hr5⟩ := hrm
  obtain ⟨g1, g2, g3, g4, g5, g6, g7, g8, g9⟩ := mLnk_spec hf
  have hcodew : Cond.code (mName N) (mCode N) (mMaxL N) (mRet N) ∈ mTbl := by
    have := hr5
    unfold mCw at this
    rw [if_pos hr4] at this
    exact this
  have hws : ∀ w ∈ [Cond.code (mName N) (mCode N) (mMaxL N) (mRet N)], ∀ (a' : Array Value) (U : State), s.WarmedH U.vm → w.before a' U = true := fun w hw a' U hW => mTb_warm hW X.2.2.2.2.1 w (by rw [List.mem_singleton.mp hw]; exact hcodew)
  have hpre : ∀ U : State, U.heap = H → s.WarmedH U.vm → mPc D n0 ex dA S h As (As.map (cv n0 ex)).toArray U := fun U hU hW => ⟨rfl, mCx_moved X hS hU hW, by rw [hU]; exact hP, by rw [hU]; exact hHs⟩
  have hstk : st0.map (cv n0 ex) = (As.map (cv n0 ex)).reverse ++ st.map (cv n0 ex) := by
    rw [hst]; simp
  have hln : (As.map (cv n0 ex)).length = mAr N := by rw [List.length_map]; exact har
  have hlz : la.size = mMaxL M := hla
  rw [if_pos hkd] at g2
  by_cases hk3 : kind < 3
  · rw [if_pos hk3] at g1
    exact va_runS (Ts := mTbl) (own := mNmOf (mOwn M)) (index := idx) (n := mAr N) (bytes := mCode N) (maxL := mMaxL N) (As := As.map (cv n0 ex)) (rest := st.map (cv n0 ex)) ⟨F.1, F.2.1, F.2.2.2.1, F.2.2.2.2.2.2.1, fun w hw => mTb_use X.2.2.2.2.1 hw⟩ hM ⟨⟨rfl, rfl, Nat.le_trans hr1 hRf, Nat.le_trans hr2 hRl, hws, List.mem_cons_self, mTb_use X.2.2.2.2.1 hcodew, mTb_use X.2.2.2.2.1 g4, g5, m_lenn g6, mTb_use X.2.2.2.2.1 g1⟩, mTb_use X.2.2.2.2.1 g2⟩ ⟨mPc_blind, hpre⟩ rfl hln hlz hstk (m_cats (m := m) (pc := pc) (la := la) st hr3) hd ⟨hRc, hRs⟩
  · rw [if_neg hk3] at g1
    exact va_runSN (Ts := mTbl) (own := mNmOf (mOwn M)) (index := idx) (n := mAr N) (bytes := mCode N) (maxL := mMaxL N) (host := "MeshWalk") (As := As.map (cv n0 ex)) (rest := st.map (cv n0 ex)) ⟨F.1, F.2.1, F.2.2.2.1, F.2.2.2.2.2.2.1, fun w hw => mTb_use X.2.2.2.2.1 hw⟩ hM ⟨⟨⟨rfl, rfl, Nat.le_trans hr1 hRf, Nat.le_trans hr2 hRl, hws, List.mem_cons_self⟩, mTb_use X.2.2.2.2.1 hcodew, mTb_use X.2.2.2.2.1 g4, g5, m_lenn g6, mTb_use X.2.2.2.2.1 g1⟩, mTb_use X.2.2.2.2.1 g2, trivial⟩ ⟨mPc_blind, hpre⟩ rfl hln hlz hstk (m_cats (m := m) (pc := pc) (la := la) st hr3) hd ⟨hRc, hRs⟩
theorem ms_cs (F : mFix M p s m meth c) (X : mCx D n0 ex dA S s) (hP : va_P D mcl (mws n0 ex dA h 0) H) (hS : va_S (mA n0) s.heap H locs) (hla : la.size = mMaxL M) (hRf : mFr M ≤ R.frames) (hRl : mLo M ≤ R.locals) {h' : mHp} {idx N kind w1 w2 w3 w4 w5 : Nat} {As st0 : List Value} {v : Option Value} {mc ms : Nat}
    (hd : decode (mCode M) pc = .ok (.invokestatic idx, 3)) (hf : (mOwn M, idx, N, kind, w1, w2, w3, w4, w5) ∈ mLnkT) (hkd : kind % 3 = 1) (hrm : mroom M N st) (hst : st0 = As.reverse ++ st) (har : As.length = mAr N) (hcw : mcats As ≤ mMaxL N)
    (hk : mSem l D n0 ex dA S N (0, lv_args 0 As, [], h) (.inl v, h')) (hsz : s.heap.size + cells = n0 + h.length) (hmc : h.length + mc = h'.length) (hms : msl h + ms = msl h') (hRc : cells + mc ≤ R.cells) (hRs : slots + ms ≤ R.slots)
    (kk : ∀ (H1 : Heap) (locs1 : List Loc), va_P D mcl (mws n0 ex dA h' 0) H1 → va_S (mA n0) s.heap H1 locs1 → W p l e R s m args below meth c H1 locs1 (cells + mc) (slots + ms) Q (F0 m (pc + 3) la ((v.toList ++ st).map (cv n0 ex)))) : W p l e R s m args below meth c H locs cells slots Q (F0 m pc la (st0.map (cv n0 ex))) := by
  refine W.sz (fun hz => ?_)
  have hHs : H.size = n0 + h.length := m_size hP hS hsz X.2.2.2.1 hz
  obtain ⟨g1, g2, g3, g4, g5, g6, g7, g8, g9⟩ := mLnk_spec hf
  have hM := m_met (l := l) (mc := mc) (ms := ms) hk g8 g7 hrm.2.2.2.1 hcw hmc hms
  exact m_back (v := v) (h' := h') (ms_rs F X hP hS hla hRf hRl hd hf hkd hrm hst har hcw hM hHs hRc hRs) hS (fun H1 locs1 a1 a2 => by
    have := kk H1 locs1 a1 a2
    cases v <;> simpa using this)
end Calls
end
section
section Closed
variable {l : Launch} {D : va_G} {n0 : Nat} {ex : Nat → Nat} {dA : FieldType → ClassId} {S : mE}
/-- a step that leaves the heap -/
theorem mSem_step {M pc pc' : Nat} {ls ls' : mL} {st st' : List Value} {h : mHp} {r : mR} (k : mSem l D n0 ex dA S M (pc', ls', st', h) r)
    (hs : ∀ (p : Program) (e : Env) (R : Room) (s : State) (m : MethodId) (args : Array Value) (below : List Frame) (meth : Method) (c : Code) (H : Heap) (locs : List Loc) (la : Array Slot) (cells slots : Nat) (Q : State → Prop), mFix M p s m meth c → mCx D n0 ex dA S s → va_P D mcl (mws n0 ex dA h 0) H → va_S (mA n0) s.heap H locs → lv_has la (mMaxL M) (ls.map (cvp n0 ex)) → mFr M ≤ R.frames → mLo M ≤ R.locals →
      (∀ la' : Array Slot, lv_has la' (mMaxL M) (ls'.map (cvp n0 ex)) → W p l e R s m args below meth c H locs cells slots Q (F0 m pc' la' (st'.map (cv n0 ex)))) → W p l e R s m args below meth c H locs cells slots Q (F0 m pc la (st.map (cv n0 ex)))) : mSem l D n0 ex dA S M (pc, ls, st, h) r := by
  refine ⟨k.1, k.2.1, fun p e R s m args below meth c H locs la cells slots mc ms sl0 F X hP hS hl hRf hRl hRc hRs h1 h2 h3 h4 => ?_⟩
  exact hs p e R s m args below meth c H locs la cells slots _ F X hP hS hl hRf hRl (fun la' hl' => k.2.2 p e R s m args below meth c H locs la' cells slots mc ms sl0 F X hP hS hl' hRf hRl hRc hRs h1 h2 h3 h4)
/-- a step that writes one cell -/
theorem mSem_write {M pc pc' : Nat} {ls : mL} {st st' : List Value} {h h1 : mHp} {r : mR} (k : mSem l D n0 ex dA S M (pc', ls, st', h1) r) (hlen : h1.length = h.length) (hsl : msl h1 = msl h)
    (hs : ∀ (p : Program) (e : Env) (R : Room) (s : State) (m : MethodId) (args : Array Value) (below : List Frame) (meth : Method) (c : Code) (H : Heap) (locs : List Loc) (la : Array Slot) (cells slots : Nat) (Q : State → Prop), mFix M p s m meth c → mCx D n0 ex dA S s → va_P D mcl (mws n0 ex dA h 0) H → va_S (mA n0) s.heap H locs → 
      (∀ (H1 : Heap) (locs1 : List Loc), va_P D mcl (mws n0 ex dA h1 0) H1 → va_S (mA n0) s.heap H1 locs1 → W p l e R s m args below meth c H1 locs1 cells slots Q (F0 m pc' la (st'.map (cv n0 ex)))) → W p l e R s m args below meth c H locs cells slots Q (F0 m pc la (st.map (cv n0 ex)))) : mSem l D n0 ex dA S M (pc, ls, st, h) r := by
  have k1 : h1.length ≤ r.2.length := k.1
  have k2 : msl h1 ≤ msl r.2 := k.2.1
  refine ⟨by rw [hlen] at k1; exact k1, by rw [hsl] at k2; exact k2, fun p e R s m args below meth c H locs la cells slots mc ms sl0 F X hP hS hl hRf hRl hRc hRs g1 g2 g3 g4 => ?_⟩
  exact hs p e R s m args below meth c H locs la cells slots _ F X hP hS (fun H1 locs1 hP1 hS1 => k.2.2 p e R s m args below meth c H1 locs1 la cells slots mc ms sl0 F X hP1 hS1 hl hRf hRl hRc hRs (by show _ = n0 + h1.length; rw [hlen]; exact g1) g2 (by show msl h1 = _; rw [hsl]; exact g3) g4)
/-- a step that makes one cell -/
theorem mSem_make {M pc pc' : Nat} {ls : mL} {st st' : List Value} {h : mHp} {x : mC} {r : mR} (k : mSem l D n0 ex dA S M (pc', ls, st', h ++ [x]) r)
    (hs : ∀ (p : Program) (e : Env) (R : Room) (s : State) (m : MethodId) (args : Array Value) (below : List Frame) (meth : Method) (c : Code) (H : Heap) (locs : List Loc) (la : Array Slot) (cells slots : Nat) (Q : State → Prop), mFix M p s m meth c → mCx D n0 ex dA S s → va_P D mcl (mws n0 ex dA h 0) H → va_S (mA n0) s.heap H locs → s.heap.size + cells = n0 + h.length → cells + 1 ≤ R.cells → slots + mslot x ≤ R.slots →
      (∀ H1 : Heap, va_P D mcl (mws n0 ex dA (h ++ [x]) 0) H1 → va_S (mA n0) s.heap H1 locs → W p l e R s m args below meth c H1 locs (cells + 1) (slots + mslot x) Q (F0 m pc' la (st'.map (cv n0 ex)))) → W p l e R s m args below meth c H locs cells slots Q (F0 m pc la (st.map (cv n0 ex)))) : mSem l D n0 ex dA S M (pc, ls, st, h) r := by
  have k1 : (h ++ [x]).length ≤ r.2.length := k.1
  have k2 : msl (h ++ [x]) ≤ msl r.2 := k.2.1
  rw [msl_app] at k2
  rw [List.length_append, List.length_singleton] at k1
  refine ⟨by show h.length ≤ _; omega, by show msl h ≤ _; omega, fun p e R s m args below meth c H locs la cells slots mc ms sl0 F X hP hS hl hRf hRl hRc hRs g1 g2 g3 g4 => ?_⟩
  have g1' : s.heap.size + cells = n0 + h.length := g1
  have g3' : msl h = sl0 + slots := g3
  exact hs p e R s m args below meth c H locs la cells slots _ F X hP hS g1' (by omega) (by omega) (fun H1 hP1 hS1 => k.2.2 p e R s m args below meth c H1 locs la (cells + 1) (slots + mslot x) mc ms sl0 F X hP1 hS1 hl hRf hRl hRc hRs (by show _ = n0 + (h ++ [x]).length; rw [List.length_append, List.length_singleton]; omega) g2 (by show msl (h ++ [x]) = _; rw [msl_app]; omega) g4)
theorem mSem_ret {M pc : Nat} {ls : mL} {st : List Value} {h : mHp} {v : Option Value}
    (hs : ∀ (p : Program) (e : Env) (R : Room) (s : State) (m : MethodId) (args : Array Value) (below : List Frame) (meth : Method) (c : Code) (H : Heap) (locs : List Loc) (la : Array Slot) (cells slots : Nat), mFix M p s m meth c → va_P D mcl (mws n0 ex dA h 0) H → va_S (mA n0) s.heap H locs → W p l e R s m args below meth c H locs cells slots (MQ below (mQc D n0 ex dA v h) args s cells slots (mA n0)) (F0 m pc la (st.map (cv n0 ex)))) : mSem l D n0 ex dA S M (pc, ls, st, h) (.inl v, h) := by
  refine ⟨Nat.le_refl _, Nat.le_refl _, fun p e R s m args below meth c H locs la cells slots mc ms sl0 F X hP hS hl hRf hRl hRc hRs g1 g2 g3 g4 => ?_⟩
  have g1' : s.heap.size + cells = n0 + h.length := g1
  have g2' : s.heap.size + mc = n0 + h.length := g2
  have g3' : msl h = sl0 + slots := g3
  have g4' : msl h = sl0 + ms := g4
  have e1 : mc = cells := by omega
  have e2 : ms = slots := by omega
  subst e1; subst e2
  refine W.mono (fun t ht => ?_) (hs p e R s m args below meth c H locs la mc ms F hP hS)
  obtain ⟨o, a1, a2, ⟨rfl, a4, a5⟩, L, ⟨-, a6, a7⟩, a8⟩ := ht
  exact ⟨a1, a2, a6, ⟨L, a7, a8⟩, a4, a5⟩
theorem mSem_call {M N pc : Nat} {ls : mL} {st st0 vs : List Value} {h h' : mHp} {v : Option Value} {r : mR} (k0 : mSem l D n0 ex dA S N (0, lv_args 0 vs, [], h) (.inl v, h')) (k : mSem l D n0 ex dA S M (pc + 3, ls, v.toList ++ st, h') r)
    (hs : ∀ (p : Program) (e : Env) (R : Room) (s : State) (m : MethodId) (args : Array Value) (below : List Frame) (meth : Method) (c : Code) (H : Heap) (locs : List Loc) (la : Array Slot) (cells slots mc ms : Nat) (Q : State → Prop), mFix M p s m meth c → mCx D n0 ex dA S s → va_P D mcl (mws n0 ex dA h 0) H → va_S (mA n0) s.heap H locs → la.size = mMaxL M → mFr M ≤ R.frames → mLo M ≤ R.locals → s.heap.size + cells = n0 + h.length → h.length + mc = h'.length → msl h + ms = msl h' → cells + mc ≤ R.cells → slots + ms ≤ R.slots →
      (∀ (H1 : Heap) (locs1 : List Loc), va_P D mcl (mws n0 ex dA h' 0) H1 → va_S (mA n0) s.heap H1 locs1 → W p l e R s m args below meth c H1 locs1 (cells + mc) (slots + ms) Q (F0 m (pc + 3) la ((v.toList ++ st).map (cv n0 ex)))) → W p l e R s m args below meth c H locs cells slots Q (F0 m pc la (st0.map (cv n0 ex)))) : mSem l D n0 ex dA S M (pc, ls, st0, h) r := by
  have k1 : h'.length ≤ r.2.length := k.1
  have k2 : msl h' ≤ msl r.2 := k.2.1
  have k3 : h.length ≤ h'.length := k0.1
  have k4 : msl h ≤ msl h' := k0.2.1
  refine ⟨Nat.le_trans k3 k1, Nat.le_trans k4 k2, fun p e R s m args below meth c H locs la cells slots mc ms sl0 F X hP hS hl hRf hRl hRc hRs g1 g2 g3 g4 => ?_⟩
  have g1' : s.heap.size + cells = n0 + h.length := g1
  have g3' : msl h = sl0 + slots := g3
  exact hs p e R s m args below meth c H locs la cells slots (h'.length - h.length) (msl h' - msl h) _ F X hP hS hl.1 hRf hRl g1' (by omega) (by omega) (by omega) (by omega) (fun H1 locs1 hP1 hS1 => k.2.2 p e R s m args below meth c H1 locs1 la (cells + (h'.length - h.length)) (slots + (msl h' - msl h)) mc ms sl0 F X hP1 hS1 hl hRf hRl hRc hRs (by show _ = n0 + h'.length; omega) g2 (by show msl h' = _; omega) g4)
set_option maxHeartbeats 4000000 in
theorem mSem_closed : mClosed S (mSem l D n0 ex dA S) := by
  refine ⟨?_, ?_, ?_, ?_, ?_, ?_, ?_, ?_, ?_, ?_, ?_, ?_, ?_, ?_, ?_, ?_, ?_, ?_, ?_, ?_, ?_, ?_, ?_, ?_, ?_, ?_⟩
  · intro M pc ls st h r i len ls' st' hd hn hp k
    exact mSem_step k (fun p e R s m args below meth c H locs la cells slots Q F X hP hS hl _ _ kk => ms_pure F.1 F.2.1 hd hn hp hl kk)
  · intro M pc ls st h r i off st' tgt hd hp ht k
    exact mSem_step k (fun p e R s m args below meth c H locs la cells slots Q F X hP hS hl _ _ kk => ms_br F.1 F.2.1 hd hp ht (kk la hl))
  · intro M pc ls st h r i st' hd hnn hp k
    refine mSem_step k (fun p e R s m args below meth c H locs la cells slots Q F X hP hS hl _ _ kk => ms_nb (tg := fun off => ((pc : Int) + off).toNat) F.1 F.2.1 hd ?_ hp (kk la hl))
    intro off ho
    rcases ho with ⟨o, rfl⟩ | ⟨o, rfl⟩
    · have : 0 ≤ (pc : Int) + off := of_decide_eq_true hnn
      exact (Int.toNat_of_nonneg this).symm
    · have : 0 ≤ (pc : Int) + off := of_decide_eq_true hnn
      exact (Int.toNat_of_nonneg this).symm
  · intro M pc ls st h r dflt lo hi offs len x tgt hd ho ht k
    exact mSem_step k (fun p e R s m args below meth c H locs la cells slots Q F X hP hS hl _ _ kk => lv_tableOut F.1 F.2.1 hd ho ht (kk la hl))
  · intro M pc ls st h r dflt lo hi offs len x off tgt hd h1 h2 ho ht k
    exact mSem_step k (fun p e R s m args below meth c H locs la cells slots Q F X hP hS hl _ _ kk => lv_tableIn F.1 F.2.1 hd h1 h2 ho ht (kk la hl))
  · intro M pc ls st h r idx v w hd hf k
    exact mSem_step k (fun p e R s m args below meth c H locs la cells slots Q F X hP hS hl _ _ kk => lv_ldc F.1 F.2.1 F.2.2.2.2.2.2.1 (mTb_use X.2.2.2.2.1 (mCi_spec hf)) hd (kk la hl))
  · intro M pc ls st h r idx v w hd hf k
    exact mSem_step k (fun p e R s m args below meth c H locs la cells slots Q F X hP hS hl _ _ kk => lv_ldc2 F.1 F.2.1 F.2.2.2.2.2.2.1 (mTb_use X.2.2.2.2.1 (mCl_spec hf)) hd (kk la hl))
  · intro M pc ls st h r idx ci k w a fs v hd hf hg hv kq
    exact mSem_step kq (fun p e R s m args below meth c H locs la cells slots Q F X hP hS hl _ _ kk => ms_get F X hP hd hf hg hv (kk la hl))
  · intro M pc ls st h r idx ci k w a fs v hd hf hg hl hn hft hfin kq
    exact mSem_write kq (mput_len _ _ _) (mput_sl hg rfl) (fun p e R s m args below meth c H locs la cells slots Q F X hP hS kk => ms_put F X hP hS hd hf hg hl hn hft hfin kk)
  · intro M pc ls st h r a n f i hd hg hin k
    exact mSem_step k (fun p e R s m args below meth c H locs la cells slots Q F X hP hS hl _ _ kk => ms_ild F X hP hd hg hin (kk la hl))
  · intro M pc ls st h r a n f i hd hg hin k
    exact mSem_step k (fun p e R s m args below meth c H locs la cells slots Q F X hP hS hl _ _ kk => ms_zld F X hP hd hg hin (kk la hl))
  · intro M pc ls st h r a n f i hd hg hin k
    exact mSem_step k (fun p e R s m args below meth c H locs la cells slots Q F X hP hS hl _ _ kk => ms_lld F X hP hd hg hin (kk la hl))
  · intro M pc ls st h r a n f i x hd hg hin k
    exact mSem_write k (mput_len _ _ _) (mput_sl hg rfl) (fun p e R s m args below meth c H locs la cells slots Q F X hP hS kk => ms_ist F X hP hS hd hg hin kk)
  · intro M pc ls st h r a n f i x hd hg hin k
    exact mSem_write k (mput_len _ _ _) (mput_sl hg rfl) (fun p e R s m args below meth c H locs la cells slots Q F X hP hS kk => ms_zst F X hP hS hd hg hin kk)
  · intro M pc ls st h r a n f i x hd hg hin k
    exact mSem_write k (mput_len _ _ _) (mput_sl hg rfl) (fun p e R s m args below meth c H locs la cells slots Q F X hP hS kk => ms_lst F X hP hS hd hg hin kk)
  · intro M pc ls st h r a ty x hd hg hty k
    exact mSem_step k (fun p e R s m args below meth c H locs la cells slots Q F X hP hS hl _ _ kk => ms_len F X hP hd hg hty (kk la hl))
  · intro M pc ls st h r i hd hin k
    exact mSem_step k (fun p e R s m args below meth c H locs la cells slots Q F X hP hS hl _ _ kk => ms_sld F X hS hd hin (kk la hl))
  · intro M pc ls st h r hd k
    exact mSem_step k (fun p e R s m args below meth c H locs la cells slots Q F X hP hS hl _ _ kk => ms_sln F X hS hd (kk la hl))
  · intro M pc ls st h r at_ ty n N hd hat hty hn hN hNb k
    have hms : mslot (.inl (ty, mzero ty N)) = N := by
      simp only [mslot, mzero]
      split <;> rfl
    refine mSem_make k (fun p e R s m args below meth c H locs la cells slots Q F X hP hS g1 g2 g3 kk => ?_)
    rw [hms] at g3 kk
    exact ms_newa F X hP hS hd hat hty hn hN hNb g1 g2 g3 kk
  · intro M pc ls st h r idx ci w1 w2 w3 hd hf k
    exact mSem_make k (fun p e R s m args below meth c H locs la cells slots Q F X hP hS g1 g2 g3 kk => ms_new F X hP hS hd hf g1 g2 g3 kk)
  · intro M pc ls h v ty hd hr hn
    exact mSem_ret (fun p e R s m args below meth c H locs la cells slots F hP hS => W.zret F.1 F.2.1 (F.2.2.1.trans hr) hn (fun t ht _ => ⟨rfl, by rw [ht]; exact hP, hS.F ht⟩) hS.2.2 hd F.2.2.2.2.1)
  · intro M pc ls h v hd hr
    exact mSem_ret (fun p e R s m args below meth c H locs la cells slots F hP hS => W.lret F.1 F.2.1 (F.2.2.1.trans hr) (fun t ht _ => ⟨rfl, by rw [ht]; exact hP, hS.F ht⟩) hS.2.2 hd F.2.2.2.2.1)
  · intro M pc ls h hd hr
    exact mSem_ret (fun p e R s m args below meth c H locs la cells slots F hP hS => W.vret F.1 F.2.1 (F.2.2.1.trans hr) (fun t ht _ => ⟨rfl, by rw [ht]; exact hP, hS.F ht⟩) hS.2.2 hd F.2.2.2.2.1)
  · intro M pc ls st h r idx w a hd hf h1 h2 k
    exact mSem_step k (fun p e R s m args below meth c H locs la cells slots Q F X hP hS hl hRf hRl kk => ms_obj F X hl.1 hd hf (Nat.le_trans h1 hRf) (Nat.le_trans h2 hRl) (kk la hl))
  · intro M pc ls st st0 h h' r idx N kind w1 w2 w3 w4 w5 a ci fs As v hd hf hkd hrm hst har hcw hg hci k0 k
    exact mSem_call k0 k (fun p e R s m args below meth c H locs la cells slots mc ms Q F X hP hS hla hRf hRl g1 g2 g3 g4 g5 kk => ms_cv F X hP hS hla hRf hRl hd hf hkd hrm hst har hcw hg hci k0 g1 g2 g3 g4 g5 kk)
  · intro M pc ls st st0 h h' r idx N kind w1 w2 w3 w4 w5 As v hd hf hkd hrm hst har hcw k0 k
    exact mSem_call k0 k (fun p e R s m args below meth c H locs la cells slots mc ms Q F X hP hS hla hRf hRl g1 g2 g3 g4 g5 kk => ms_cs F X hP hS hla hRf hRl hd hf hkd hrm hst har hcw k0 g1 g2 g3 g4 g5 kk)
theorem Runs.sem {M : Nat} {f : mF} {r : mR} (h : Runs S M f r) : mSem l D n0 ex dA S M f r := h _ mSem_closed
end Closed
end
section
/-! THROWS, 1: what makes an exception. The words that the library asks of it (Bundle.ownAtoms) hold; mSemP: a run that has written nothing yet, up to its return or its own 'throw new' -/
def mNames : List String := ["java/lang/RuntimeException", "java/lang/Exception"]
def mSt4 : List Cond := [.laysStatic "java/lang/Throwable" "UNASSIGNED_STACK" "[Ljava/lang/StackTraceElement;", .laysStatic "java/lang/Throwable" "SUPPRESSED_SENTINEL" "Ljava/util/List;", .isRef (.static "java/lang/Throwable" "UNASSIGNED_STACK" "[Ljava/lang/StackTraceElement;"), .isRef (.static "java/lang/Throwable" "SUPPRESSED_SENTINEL" "Ljava/util/List;")]
theorem m_st {n0 : Nat} {s : State} (h : mSt n0 s) : ∀ w ∈ mSt4, ∀ A : Array Value, w.before A s = true := by
  obtain ⟨c, k, i, f, a, cell, v, h1, h2, h3, h4, h5, h6, h7, h8, h9, h10, h11, h12⟩ := h ("UNASSIGNED_STACK", "[Ljava/lang/StackTraceElement;") (by simp [mStatT])
  obtain ⟨c', k', i', f', a', cell', v', g1, g2, g3, g4, g5, g6, g7, g8, g9, g10, g11, g12⟩ := h ("SUPPRESSED_SENTINEL", "Ljava/util/List;") (by simp [mStatT])
  intro w hw A
  simp only [mSt4, List.mem_cons, List.not_mem_nil, or_false] at hw
  dsimp only at h2 g2
  rcases hw with rfl | rfl | rfl | rfl
  · simp [Cond.before, Cond.holds, Cond.value, h1, h2, h3, h4, h6, h7, h8, h9, h10]
  · simp [Cond.before, Cond.holds, Cond.value, g1, g2, g3, g4, g6, g7, g8, g9, g10]
  · cases v <;> simp [Value.isRef] at h12 <;> simp [Cond.before, Cond.holds, Cond.value, Term.eval, State.fieldNamed?, h2, h3, h4, h6, h7, h11]
  · cases v' <;> simp [Value.isRef] at g12 <;> simp [Cond.before, Cond.holds, Cond.value, Term.eval, State.fieldNamed?, g2, g3, g4, g6, g7, g11]
theorem zip_mem {α β : Type} {l : List α} {m : List β} (hl : l.length = m.length) {w : α} (hw : w ∈ l) : ∃ o, (w, o) ∈ l.zip m := by
  induction l generalizing m with
  | nil => cases hw
  | cons x t ih =>
    cases m with
    | nil => cases hl
    | cons y u =>
      rcases List.mem_cons.mp hw with rfl | hw
      · exact ⟨y, List.mem_cons_self⟩
      · obtain ⟨o, ho⟩ := ih (by simpa using hl) hw
        exact ⟨o, List.mem_cons_of_mem _ ho⟩
def mAtOK (q : Cond × Option Nat) : Bool := match q.2 with
  | some i => mIs i q.1
  | none => decide (q.1 ∈ mSt4)
theorem mAt_of {l : List Cond} {xi : List (Option Nat)} (hl : l.length = xi.length) (h : (l.zip xi).all mAtOK = true) : ∀ w ∈ l, w ∈ mTbl ∨ w ∈ mSt4 := by
  intro w hw
  obtain ⟨o, ho⟩ := zip_mem hl hw
  have := List.all_eq_true.mp h _ ho
  cases o with
  | none => exact Or.inr (of_decide_eq_true this)
  | some i => exact Or.inl (mIs.mem this)
set_option maxRecDepth 20000 in
theorem mox10 : ∀ w ∈ Bundle.ownAtoms "MeshWalk" 146 "java/lang/IllegalArgumentException" mNames, w ∈ mTbl ∨ w ∈ mSt4 := mAt_of (xi := [some 69, some 393, some 402, some 406, some 409, some 411, some 394, some 395, some 82, some 83, some 396, some 401, some 407, some 427, some 383, some 428, some 385, some 429, some 387, some 397, none, some 399, none, some 389, some 423, some 424, some 426, some 389, some 414, some 415, some 416, some 417, some 375, some 417, some 418, some 419, some 420, some 377, some 420, some 421, some 422, some 423, some 379, some 413, some 372, some 373, some 380, some 381, some 382, some 384, some 386, some 388, none, none, some 392, some 391, some 390]) (by decide +kernel) (by decide +kernel)
theorem mfit10 : Bundle.fit "java/lang/IllegalArgumentException" = true := by decide +kernel
set_option maxRecDepth 20000 in
theorem mox11 : ∀ w ∈ Bundle.ownAtoms "MeshWalk" 62 "java/lang/IllegalStateException" mNames, w ∈ mTbl ∨ w ∈ mSt4 := mAt_of (xi := [some 69, some 393, some 402, some 406, some 409, some 411, some 394, some 395, some 82, some 83, some 396, some 401, some 407, some 427, some 383, some 428, some 385, some 429, some 387, some 397, none, some 399, none, some 389, some 423, some 424, some 426, some 389, some 450, some 451, some 452, some 417, some 375, some 417, some 418, some 419, some 420, some 377, some 420, some 421, some 422, some 423, some 379, some 449, some 440, some 441, some 442, some 404, some 443, some 444, some 445, some 446, none, none, some 392, some 391, some 447]) (by decide +kernel) (by decide +kernel)
theorem mfit11 : Bundle.fit "java/lang/IllegalStateException" = true := by decide +kernel
set_option maxRecDepth 20000 in
theorem mox12 : ∀ w ∈ Bundle.ownAtoms "MeshWalk" 178 "java/lang/IndexOutOfBoundsException" mNames, w ∈ mTbl ∨ w ∈ mSt4 := mAt_of (xi := [some 69, some 393, some 402, some 406, some 409, some 411, some 394, some 395, some 82, some 83, some 396, some 401, some 407, some 427, some 383, some 428, some 385, some 429, some 387, some 397, none, some 399, none, some 389, some 423, some 424, some 426, some 389, some 730, some 731, some 732, some 417, some 375, some 417, some 418, some 419, some 420, some 377, some 420, some 421, some 422, some 423, some 379, some 729, some 720, some 721, some 722, some 405, some 723, some 724, some 725, some 726, none, none, some 392, some 391, some 727]) (by decide +kernel) (by decide +kernel)
theorem mfit12 : Bundle.fit "java/lang/IndexOutOfBoundsException" = true := by decide +kernel
theorem mfitN : ∀ n ∈ mNames, Bundle.fit n = true := by decide +kernel
end
section
/-! THROWS, 2: runs that have written nothing, and the 'throw new' at their end -/
def mThrT : List (Nat × Nat × Nat × Nat × Nat) := [(58, 60, 62, 11, 2), (142, 144, 146, 10, 6), (142, 168, 146, 10, 1), (142, 170, 146, 10, 3), (142, 172, 146, 10, 4), (174, 176, 178, 12, 5)]
theorem mcl_10 : mcl[10]? = some ("java/lang/IllegalArgumentException", mT10, 0) := rfl
theorem mcl_11 : mcl[11]? = some ("java/lang/IllegalStateException", mT10, 0) := rfl
theorem mcl_12 : mcl[12]? = some ("java/lang/IndexOutOfBoundsException", mT10, 0) := rfl
theorem mxc_l10 : Cond.classLink "MeshWalk" 142 "java/lang/IllegalArgumentException" ∈ mTbl := mIs.mem (i := 371) (by decide +kernel)
theorem mxc_l11 : Cond.classLink "MeshWalk" 58 "java/lang/IllegalStateException" ∈ mTbl := mIs.mem (i := 439) (by decide +kernel)
theorem mxc_l12 : Cond.classLink "MeshWalk" 174 "java/lang/IndexOutOfBoundsException" ∈ mTbl := mIs.mem (i := 719) (by decide +kernel)
theorem mxc_i10 : Cond.instantiable "java/lang/IllegalArgumentException" 6 ∈ mTbl := mIs.mem (i := 372) (by decide +kernel)
theorem mxc_i11 : Cond.instantiable "java/lang/IllegalStateException" 6 ∈ mTbl := mIs.mem (i := 440) (by decide +kernel)
theorem mxc_i12 : Cond.instantiable "java/lang/IndexOutOfBoundsException" 6 ∈ mTbl := mIs.mem (i := 720) (by decide +kernel)
theorem mxc_n10 : Cond.initialized "java/lang/IllegalArgumentException" ∈ mTbl := mIs.mem (i := 72) (by decide +kernel)
theorem mxc_n11 : Cond.initialized "java/lang/IllegalStateException" ∈ mTbl := mIs.mem (i := 73) (by decide +kernel)
theorem mxc_n12 : Cond.initialized "java/lang/IndexOutOfBoundsException" ∈ mTbl := mIs.mem (i := 75) (by decide +kernel)
theorem mThr_spec {idx is ic ci q : Nat} (h : (idx, is, ic, ci, q) ∈ mThrT) : ∃ C tx, mcl[ci]? = some (C, mT10, 0) ∧ 10 ≤ ci ∧ Cond.classLink "MeshWalk" idx C ∈ mTbl ∧ Cond.instantiable C 6 ∈ mTbl ∧ Cond.initialized C ∈ mTbl ∧ (∀ w ∈ Bundle.ownAtoms "MeshWalk" ic C mNames, w ∈ mTbl ∨ w ∈ mSt4) ∧ Bundle.fit C = true ∧ (is, tx, q) ∈ mStrT := by
  simp only [mThrT, List.mem_cons, List.not_mem_nil, or_false] at h
  rcases h with h | h | h | h | h | h
  · cases h; exact ⟨_, "there are 40 points", mcl_11, by decide, mxc_l11, mxc_i11, mxc_n11, mox11, mfit11, by decide⟩
  · cases h; exact ⟨_, "no circle goes through points on one line", mcl_10, by decide, mxc_l10, mxc_i10, mxc_n10, mox10, mfit10, by decide⟩
  · cases h; exact ⟨_, "a coordinate is out of bounds", mcl_10, by decide, mxc_l10, mxc_i10, mxc_n10, mox10, mfit10, by decide⟩
  · cases h; exact ⟨_, "there is no such point", mcl_10, by decide, mxc_l10, mxc_i10, mxc_n10, mox10, mfit10, by decide⟩
  · cases h; exact ⟨_, "the points are the same", mcl_10, by decide, mxc_l10, mxc_i10, mxc_n10, mox10, mfit10, by decide⟩
  · cases h; exact ⟨_, "there is no such triangle, corner or edge", mcl_12, by decide, mxc_l12, mxc_i12, mxc_n12, mox12, mfit12, by decide⟩
def mc_thr (P : Nat → mF → mR → Prop) : Prop := ∀ (M pc : Nat) (ls : mL) (st : List Value) (h : mHp) (idx is ic ci q : Nat), decode (mCode M) pc = .ok (.new idx, 3) → decode (mCode M) (pc + 3) = .ok (.dup, 1) → decode (mCode M) (pc + 4) = .ok (.ldc is, 2) → decode (mCode M) (pc + 6) = .ok (.invokespecial ic, 3) → decode (mCode M) (pc + 9) = .ok (.athrow, 1) → mOwn M = 8 → (idx, is, ic, ci, q) ∈ mThrT → mHand M = [] → 6 ≤ mFr M → mcats st + 82 ≤ mLo M → P M (pc, ls, st, h) (.inr (h.length + 16), h ++ [.inr (ci, [])])
def mc_pv (P : Nat → mF → mR → Prop) : Prop := ∀ (M pc : Nat) (ls : mL) (st st0 : List Value) (h : mHp) (r : mR) (idx N kind w1 w2 w3 w4 w5 a ci : Nat) (fs As : List Value) (v : Option Value), decode (mCode M) pc = .ok ((if kind % 3 = 2 then .invokespecial idx else .invokevirtual idx), 3) → (mOwn M, idx, N, kind, w1, w2, w3, w4, w5) ∈ mLnkT → (kind % 3 = 2 ∨ kind % 3 = 0) → mroom M N st → st0 = As.reverse ++ .ref a :: st → As.length = mAr N → mcats (.ref a :: As) ≤ mMaxL N → mget h a = some (.inr (ci, fs)) → mOwn N = ci →
  P N (0, lv_args 0 (.ref a :: As), [], h) (.inl v, h) → P M (pc + 3, ls, v.toList ++ st, h) r → P M (pc, ls, st0, h) r
def mc_ps (P : Nat → mF → mR → Prop) : Prop := ∀ (M pc : Nat) (ls : mL) (st st0 : List Value) (h : mHp) (r : mR) (idx N kind w1 w2 w3 w4 w5 : Nat) (As : List Value) (v : Option Value), decode (mCode M) pc = .ok (.invokestatic idx, 3) → (mOwn M, idx, N, kind, w1, w2, w3, w4, w5) ∈ mLnkT → kind % 3 = 1 → mroom M N st → st0 = As.reverse ++ st → As.length = mAr N → mcats As ≤ mMaxL N →
  P N (0, lv_args 0 As, [], h) (.inl v, h) → P M (pc + 3, ls, v.toList ++ st, h) r → P M (pc, ls, st0, h) r
def mClosedP (P : Nat → mF → mR → Prop) : Prop := mc_pure P ∧ mc_br P ∧ mc_nb P ∧ mc_ci P ∧ mc_cl P ∧ mc_get P ∧ mc_ild P ∧ mc_zld P ∧ mc_lld P ∧ mc_len P ∧ mc_iret P ∧ mc_lret P ∧ mc_vret P ∧ mc_pv P ∧ mc_ps P ∧ mc_thr P
def RunsP (M : Nat) (f : mF) (r : mR) : Prop := ∀ P : Nat → mF → mR → Prop, mClosedP P → P M f r
def mQP (D : va_G) (n0 : Nat) (ex : Nat → Nat) (dA : FieldType → ClassId) (s : State) (below : List Frame) (mc ms : Nat) (r : mR) : State → Prop := fun t =>
  t.status = .running ∧ Ended t below (mOut n0 ex r.1) ∧ s.WarmedH t.vm ∧ s.sameButNew ({ t with vm := s.vm } : State) [] mc ms ∧ va_P D mcl (mws n0 ex dA r.2 0) t.heap
def mGoP (l : Launch) (D : va_G) (n0 : Nat) (ex : Nat → Nat) (dA : FieldType → ClassId) (S : mE) (M : Nat) (f : mF) (r : mR) : Prop :=
  ∀ (p : Program) (e : Env) (R : Room) (s : State) (m : MethodId) (args : Array Value) (below : List Frame) (meth : Method) (c : Code) (la : Array Slot) (mc ms : Nat),
    mFix M p s m meth c → mCx D n0 ex dA S s → va_P D mcl (mws n0 ex dA f.2.2.2 0) s.heap → lv_has la (mMaxL M) (f.2.1.map (cvp n0 ex)) → mFr M ≤ R.frames → mLo M ≤ R.locals → mc ≤ R.cells → ms ≤ R.slots → s.heap.size = n0 + f.2.2.2.length → s.heap.size + mc = n0 + r.2.length → msl f.2.2.2 + ms = msl r.2 →
    W p l e R s m args below meth c s.heap [] 0 0 (mQP D n0 ex dA s below mc ms r) (F0 m f.1 la (f.2.2.1.map (cv n0 ex)))
def mSemP (l : Launch) (D : va_G) (n0 : Nat) (ex : Nat → Nat) (dA : FieldType → ClassId) (S : mE) (M : Nat) (f : mF) (r : mR) : Prop := f.2.2.2.length ≤ r.2.length ∧ msl f.2.2.2 ≤ msl r.2 ∧ mGoP l D n0 ex dA S M f r
theorem same_heap {s t : State} {n : Nat} (h : s.sameButNew t [] 0 n) : t.heap = s.heap := by
  apply Array.ext_getElem?
  intro i
  cases hc : s.heap[i]? with
  | some c => exact h.old_cell hc
  | none =>
    have h1 : s.heap.size ≤ i := by simpa using hc
    have h2 : t.heap.size ≤ i := Nat.le_trans h.2.2.1 h1
    simpa using h2
section PSound
variable {l : Launch} {D : va_G} {n0 : Nat} {ex : Nat → Nat} {dA : FieldType → ClassId} {S : mE}
theorem mSemP_step {M pc pc' : Nat} {ls ls' : mL} {st st' : List Value} {h : mHp} {r : mR} (k : mSemP l D n0 ex dA S M (pc', ls', st', h) r)
    (hs : ∀ (p : Program) (e : Env) (R : Room) (s : State) (m : MethodId) (args : Array Value) (below : List Frame) (meth : Method) (c : Code) (la : Array Slot) (Q : State → Prop), mFix M p s m meth c → mCx D n0 ex dA S s → va_P D mcl (mws n0 ex dA h 0) s.heap → lv_has la (mMaxL M) (ls.map (cvp n0 ex)) → mFr M ≤ R.frames → mLo M ≤ R.locals → s.heap.size = n0 + h.length →
      (∀ la' : Array Slot, lv_has la' (mMaxL M) (ls'.map (cvp n0 ex)) → W p l e R s m args below meth c s.heap [] 0 0 Q (F0 m pc' la' (st'.map (cv n0 ex)))) → W p l e R s m args below meth c s.heap [] 0 0 Q (F0 m pc la (st.map (cv n0 ex)))) : mSemP l D n0 ex dA S M (pc, ls, st, h) r := by
  refine ⟨k.1, k.2.1, fun p e R s m args below meth c la mc ms F X hP hl hRf hRl hRc hRs h1 h2 h3 => ?_⟩
  exact hs p e R s m args below meth c la _ F X hP hl hRf hRl h1 (fun la' hl' => k.2.2 p e R s m args below meth c la' mc ms F X hP hl' hRf hRl hRc hRs h1 h2 h3)
theorem mSemP_ret {M pc : Nat} {ls : mL} {st : List Value} {h : mHp} {v : Option Value}
    (hs : ∀ (p : Program) (e : Env) (R : Room) (s : State) (m : MethodId) (args : Array Value) (below : List Frame) (meth : Method) (c : Code) (la : Array Slot), mFix M p s m meth c → W p l e R s m args below meth c s.heap [] 0 0 (MQ below (fun _ st o t => o = .returned (v.map (cv n0 ex)) ∧ t.heap = st.heap) args s 0 0 (fun _ => False)) (F0 m pc la (st.map (cv n0 ex)))) : mSemP l D n0 ex dA S M (pc, ls, st, h) (.inl v, h) := by
  refine ⟨Nat.le_refl _, Nat.le_refl _, fun p e R s m args below meth c la mc ms F X hP hl hRf hRl hRc hRs g1 g2 g3 => ?_⟩
  have g1' : s.heap.size = n0 + h.length := g1
  have g2' : s.heap.size + mc = n0 + h.length := g2
  have g3' : msl h + ms = msl h := g3
  have e1 : mc = 0 := by omega
  have e2 : ms = 0 := by omega
  subst e1; subst e2
  refine W.mono (fun t ht => ?_) (hs p e R s m args below meth c la F)
  obtain ⟨o, a1, a2, ⟨rfl, a4⟩, L, ⟨-, a6, a7⟩, a8⟩ := ht
  have hL : L = [] := by
    cases L with
    | nil => rfl
    | cons x t => exact absurd (a8 x List.mem_cons_self) (fun z => z)
  subst hL
  exact ⟨a1, a2, a6, a7, by rw [a4]; exact hP⟩
/-- a return that wrote nothing, as a contract -/
theorem m_metP {N : Nat} {vs : List Value} {h : mHp} {v : Option Value} (hk : mSemP l D n0 ex dA S N (0, lv_args 0 vs, [], h) (.inl v, h)) (hpl : plainFor (mName N) = true) (hnm : mNmOf (mOwn N) = (mName N).cls) (hhd : mHand N = []) (hw : mcats vs ≤ mMaxL N) :
    Met l (mName N) [Cond.code (mName N) (mCode N) (mMaxL N) (mRet N)] ({ frames := mFr N, cells := 0, slots := 0, locals := mLo N }) (mPc D n0 ex dA S h vs) (fun _ st o t => o = .returned (v.map (cv n0 ex)) ∧ t.heap = st.heap) 0 0 (fun _ => False) := by
  refine MetFree.of_bodySF (code := mCode N) (maxLocals := mMaxL N) (ret := mRet N) hpl ?_ ?_
  · intro args s m hh hn
    obtain ⟨meth, c, h1, h2, h3, h4, h5, h6, -, -⟩ := Cond.code_spec hn (atoms_spec (ws := [Cond.code (mName N) (mCode N) (mMaxL N) (mRet N)]) hh _ List.mem_cons_self)
    exact ⟨meth, c, h1, h2, h3, h4, h5, h6⟩
  · intro p e s m args below meth c s₁ B hml hP _
    obtain ⟨rfl, hX, hPw, hsz⟩ := hP
    have hcode := atoms_spec (ws := [Cond.code (mName N) (mCode N) (mMaxL N) (mRet N)]) B.pre _ List.mem_cons_self
    have hh0 : s₁.heap = s.heap := by rw [B.state]; rfl
    have hex : c.exceptionTable.toList.map (fun h => (h.startPc, h.endPc, h.handlerPc, h.catchType)) = mHand N := by
      have h0 : c.exceptionTable.size = 0 := by simpa [Array.isEmpty] using BodyLoose.noHandlers B hcode
      have h1 : c.exceptionTable.toList = [] := List.eq_nil_of_length_eq_zero (by simpa using h0)
      rw [h1, hhd]; rfl
    have F : mFix N p s m meth c := ⟨B.exec, B.bytes, B.returns, hml, B.notSynchronized, (name_of_methodNamed B.named B.method).1, by rw [hnm]; exact findClass_of_methodNamed B.named, hex⟩
    have hl := lv_entry (vs.map (cv n0 ex)) (n := mMaxL N) (by rw [mcats_sl, mcats_map]; exact hw)
    have K : W p l e ({ frames := mFr N, cells := 0, slots := 0, locals := mLo N } : Room) s m (vs.map (cv n0 ex)).toArray below meth c s.heap [] 0 0 (mQP D n0 ex dA s below 0 0 (.inl v, h)) (entryFrame m (vs.map (cv n0 ex)).toArray (mMaxL N)) := by
      rw [lg_entry_eq]
      exact hk.2.2 p e _ s m _ below meth c _ 0 0 F hX hPw (by rw [← lv_args_map]; exact hl) (Nat.le_refl _) (Nat.le_refl _) (Nat.le_refl _) (Nat.le_refl _) hsz hsz rfl
    obtain ⟨t, a1, b1, b2, b3, b4, b5⟩ := K s₁ hh0 (Stand.of_body B)
    exact ⟨t, _, a1, b1, b2, ⟨rfl, same_heap (t := ({ t with vm := s.vm } : State)) b4⟩, [], ⟨⟨_, rfl⟩, b3, b4⟩, fun q hq => by cases hq⟩
theorem m_backP {p : Program} {e : Env} {R : Room} {s : State} {m : MethodId} {args : Array Value} {below : List Frame} {meth : Method} {c : Code} {H : Heap} {pc : Nat} {la : Array Slot} {st0 rest : List Value} {v : Option Value} {a : Array Value} {Q : State → Prop} (hr : va_Run p l e R s m args below meth c H [] 0 0 0 0 (F0 m pc la st0) rest ((fun _ st o t => o = .returned (v.map (cv n0 ex)) ∧ t.heap = st.heap : Array Value → State → Outcome → State → Prop) a) (fun _ => False))
    (kk : W p l e R s m args below meth c H [] 0 0 Q (F0 m (pc + 3) la ((v.map (cv n0 ex)).toList ++ rest))) : W p l e R s m args below meth c H [] 0 0 Q (F0 m pc la st0) := by
  intro T hT X
  obtain ⟨v1, st₀, t, T', L, h0, X', hL, e1, e2, ⟨hv, hp⟩, stp⟩ := hr T hT X
  cases hv
  have hLn : L = [] := by
    cases L with
    | nil => rfl
    | cons x t => exact absurd (hL x List.mem_cons_self) (fun z => z)
  subst hLn
  obtain ⟨t2, a1, b1⟩ := kk T' (by rw [e1, hp]; exact h0) X'
  exact ⟨t2, stp t2 a1, b1⟩
set_option maxHeartbeats 4000000 in
theorem ms_thr (hfl : l.flags = pinnedFlags ++ [noTraceFlag]) {M pc : Nat} {ls : mL} {st : List Value} {h : mHp} {idx is ic ci q : Nat} (d0 : decode (mCode M) pc = .ok (.new idx, 3)) (d3 : decode (mCode M) (pc + 3) = .ok (.dup, 1)) (d4 : decode (mCode M) (pc + 4) = .ok (.ldc is, 2)) (d6 : decode (mCode M) (pc + 6) = .ok (.invokespecial ic, 3)) (d9 : decode (mCode M) (pc + 9) = .ok (.athrow, 1)) (hown : mOwn M = 8) (hf : (idx, is, ic, ci, q) ∈ mThrT) (hhd : mHand M = []) (hfr : 6 ≤ mFr M) (hlo : mcats st + 82 ≤ mLo M) :
    mSemP l D n0 ex dA S M (pc, ls, st, h) (.inr (h.length + 16), h ++ [.inr (ci, [])]) := by
  obtain ⟨C, tx, hcl, hci, w1, w2, w3, hat, hfit, hstr⟩ := mThr_spec hf
  have hms : mslot (.inr (ci, [])) = 6 := by simp only [mslot]; rw [if_neg (by omega)]
  refine ⟨by simp, by show msl h ≤ msl (h ++ [_]); rw [msl_app]; omega, fun p e R s m args below meth c la mc ms F X hP hl hRf hRl hRc hRs g1 g2 g3 => ?_⟩
  have g1' : s.heap.size = n0 + h.length := g1
  have g2' : s.heap.size + mc = n0 + (h ++ [(.inr (ci, []) : mC)]).length := g2
  have g3' : msl h + ms = msl (h ++ [.inr (ci, [])]) := g3
  rw [List.length_append, List.length_singleton] at g2'
  rw [msl_app, hms] at g3'
  have e1 : mc = 1 := by omega
  have e2 : ms = 6 := by omega
  subst e1; subst e2
  have hownS : s.vm.findClass "MeshWalk" = some m.cls := by
    have := F.2.2.2.2.2.2.1
    rw [hown] at this
    exact this
  have hK := X.1.1 ci _ hcl
  refine W.newcK F.1 F.2.1 hownS (mTb_use X.2.2.2.2.1 w1) (mTb_use X.2.2.2.2.1 w2) (mTb_use X.2.2.2.2.1 w3) rfl d0 (by omega) (by omega) hK.2.1 g1' (fun H' kC hkC q1 q2 q3 => ?_)
  refine W.eq (g2 := F0 m (pc + 3) la (.ref (n0 + h.length) :: st.map (cv n0 ex))) rfl ?_
  refine lv_dup F.1 F.2.1 d3 rfl ?_
  refine W.eq (g2 := F0 m (pc + 4) la (.ref (n0 + h.length) :: .ref (n0 + h.length) :: st.map (cv n0 ex))) rfl ?_
  refine va_ldcS F.1 F.2.1 hownS (X.2.2.2.2.2.2.1 _ hstr) d4 ?_
  intro T hT Xs
  have htr : e.platform.stackTraces = false := Launch.traces_off hfl Xs.admits
  have hatoms : ∀ a ∈ Bundle.ownAtoms "MeshWalk" ic C mNames, a.before args s = true := fun w hw => by
    rcases hat w hw with h | h
    · exact mTb_use X.2.2.2.2.1 h
    · exact m_st X.2.2.2.2.2.1 w h args
  have hexc : c.exceptionTable.toList = [] := by
    have := F.2.2.2.2.2.2.2
    rw [hhd] at this
    exact List.map_eq_nil_iff.mp this
  have hcat : ((st.map (cv n0 ex)).map fun v => v.category).sum = mcats st := mcats_map n0 ex st
  obtain ⟨U, st1, r1, r2, r3, r4, ce, hce, hoc⟩ := Xs.ctorThrowS F.1 htr hownS hfit mfitN hatoms (fun x hx => by cases hx) hK.2.1 hkC (a := n0 + h.length) (by rw [hT]; exact q1) (by omega) (msg := .ref (ex q)) rfl (g := F0 m (pc + 6) la (.ref (ex q) :: .ref (n0 + h.length) :: .ref (n0 + h.length) :: st.map (cv n0 ex))) rfl (hl.1.trans F.2.2.2.1.symm) rfl rfl (rest := st.map (cv n0 ex)) rfl (by rw [F.2.1]; exact d6) (by rw [F.2.1]; exact d9) (fun x hx => by rw [hexc] at hx; cases hx) (by show 2 + 3 < R.frames; omega) (by
      show 2 * 0 + (1 + ((st.map (cv n0 ex)).map fun v => v.category).sum) + (13 * (2 + 1) + 42) ≤ R.locals
      rw [hcat]; omega) F.2.2.2.2.1
  have e3 : sg n0 ex (h.length + 16) = n0 + h.length := by unfold sg; rw [if_neg (by omega), Nat.add_sub_cancel]
  refine ⟨U, st1, r1, by show Ended U below (.threw (sg n0 ex (h.length + 16))); rw [e3]; exact r2, r3, r4, ?_⟩
  show va_P D mcl (mws n0 ex dA (h ++ [.inr (ci, [])]) 0) U.heap
  rw [mws_app]
  refine va_P.app (hP.kept (fun k x hx => ?_)) (fun k x hx => ?_)
  · have hlt := (hP k x hx).lt
    have hs : s.heap[x.1]? = some s.heap[x.1] := Array.getElem?_eq_getElem hlt
    have := r4.old_cell hs
    rw [hs]
    exact this
  · have hz : k < 1 := (List.getElem?_eq_some_iff.mp hx).1
    rw [show k = 0 by omega] at hx
    cases hx
    refine ⟨_, hcl, ce, ?_, ?_, hoc.vm, fun j hj => absurd hj (Nat.not_lt_zero _)⟩
    · rw [Nat.zero_add]; exact hce
    · exact (Option.some.inj (hK.2.1.symm.trans hoc.cls)).symm
set_option maxHeartbeats 4000000 in
theorem mSemP_closed (hfl : l.flags = pinnedFlags ++ [noTraceFlag]) : mClosedP (mSemP l D n0 ex dA S) := by
  refine ⟨?_, ?_, ?_, ?_, ?_, ?_, ?_, ?_, ?_, ?_, ?_, ?_, ?_, ?_, ?_, ?_⟩
  · intro M pc ls st h r i len ls' st' hd hn hp k
    exact mSemP_step k (fun p e R s m args below meth c la Q F X hP hl _ _ _ kk => ms_pure F.1 F.2.1 hd hn hp hl kk)
  · intro M pc ls st h r i off st' tgt hd hp ht k
    exact mSemP_step k (fun p e R s m args below meth c la Q F X hP hl _ _ _ kk => ms_br F.1 F.2.1 hd hp ht (kk la hl))
  · intro M pc ls st h r i st' hd hnn hp k
    refine mSemP_step k (fun p e R s m args below meth c la Q F X hP hl _ _ _ kk => ms_nb (tg := fun off => ((pc : Int) + off).toNat) F.1 F.2.1 hd ?_ hp (kk la hl))
    intro off ho
    rcases ho with ⟨o, rfl⟩ | ⟨o, rfl⟩
    · have : 0 ≤ (pc : Int) + off := of_decide_eq_true hnn
      exact (Int.toNat_of_nonneg this).symm
    · have : 0 ≤ (pc : Int) + off := of_decide_eq_true hnn
      exact (Int.toNat_of_nonneg this).symm
  · intro M pc ls st h r idx v w hd hf k
    exact mSemP_step k (fun p e R s m args below meth c la Q F X hP hl _ _ _ kk => lv_ldc F.1 F.2.1 F.2.2.2.2.2.2.1 (mTb_use X.2.2.2.2.1 (mCi_spec hf)) hd (kk la hl))
  · intro M pc ls st h r idx v w hd hf k
    exact mSemP_step k (fun p e R s m args below meth c la Q F X hP hl _ _ _ kk => lv_ldc2 F.1 F.2.1 F.2.2.2.2.2.2.1 (mTb_use X.2.2.2.2.1 (mCl_spec hf)) hd (kk la hl))
  · intro M pc ls st h r idx ci k w a fs v hd hf hg hv kq
    exact mSemP_step kq (fun p e R s m args below meth c la Q F X hP hl _ _ _ kk => ms_get F X hP hd hf hg hv (kk la hl))
  · intro M pc ls st h r a n f i hd hg hin k
    exact mSemP_step k (fun p e R s m args below meth c la Q F X hP hl _ _ _ kk => ms_ild F X hP hd hg hin (kk la hl))
  · intro M pc ls st h r a n f i hd hg hin k
    exact mSemP_step k (fun p e R s m args below meth c la Q F X hP hl _ _ _ kk => ms_zld F X hP hd hg hin (kk la hl))
  · intro M pc ls st h r a n f i hd hg hin k
    exact mSemP_step k (fun p e R s m args below meth c la Q F X hP hl _ _ _ kk => ms_lld F X hP hd hg hin (kk la hl))
  · intro M pc ls st h r a ty x hd hg hty k
    exact mSemP_step k (fun p e R s m args below meth c la Q F X hP hl _ _ _ kk => ms_len F X hP hd hg hty (kk la hl))
  · intro M pc ls h v ty hd hr hn
    exact mSemP_ret (fun p e R s m args below meth c la F => W.zret F.1 F.2.1 (F.2.2.1.trans hr) hn (fun t ht _ => ⟨rfl, ht⟩) (fun q hq => by cases hq) hd F.2.2.2.2.1)
  · intro M pc ls h v hd hr
    exact mSemP_ret (fun p e R s m args below meth c la F => W.lret F.1 F.2.1 (F.2.2.1.trans hr) (fun t ht _ => ⟨rfl, ht⟩) (fun q hq => by cases hq) hd F.2.2.2.2.1)
  · intro M pc ls h hd hr
    exact mSemP_ret (fun p e R s m args below meth c la F => W.vret F.1 F.2.1 (F.2.2.1.trans hr) (fun t ht _ => ⟨rfl, ht⟩) (fun q hq => by cases hq) hd F.2.2.2.2.1)
  · intro M pc ls st st0 h r idx N kind w1 w2 w3 w4 w5 a ci fs As v hd hf hkd hrm hst har hcw hg hci k0 k
    obtain ⟨g1, g2, g3, g4, g5, g6, g7, g8, g9⟩ := mLnk_spec hf
    refine mSemP_step k (fun p e R s m args below meth c la Q F X hP hl hRf hRl hsz kk => ?_)
    refine m_backP (v := v) (a := #[]) (ms_rv (mc := 0) (ms := 0) F X hP va_S.rf hl.1 hRf hRl hd hf hkd hrm hst har hcw hg hci (m_metP k0 g8 g7 hrm.2.2.2.1 hcw) hsz (Nat.zero_le _) (Nat.zero_le _)) ?_
    have := kk la hl
    cases v <;> simpa using this
  · intro M pc ls st st0 h r idx N kind w1 w2 w3 w4 w5 As v hd hf hkd hrm hst har hcw k0 k
    obtain ⟨g1, g2, g3, g4, g5, g6, g7, g8, g9⟩ := mLnk_spec hf
    refine mSemP_step k (fun p e R s m args below meth c la Q F X hP hl hRf hRl hsz kk => ?_)
    refine m_backP (v := v) (a := #[]) (ms_rs (mc := 0) (ms := 0) F X hP va_S.rf hl.1 hRf hRl hd hf hkd hrm hst har hcw (m_metP k0 g8 g7 hrm.2.2.2.1 hcw) hsz (Nat.zero_le _) (Nat.zero_le _)) ?_
    have := kk la hl
    cases v <;> simpa using this
  · intro M pc ls st h idx is ic ci q d0 d3 d4 d6 d9 ho hf hhd hfr hlo
    exact ms_thr hfl d0 d3 d4 d6 d9 ho hf hhd hfr hlo
theorem RunsP.sem (hfl : l.flags = pinnedFlags ++ [noTraceFlag]) {M : Nat} {f : mF} {r : mR} (h : RunsP M f r) : mSemP l D n0 ex dA S M f r := h _ (mSemP_closed hfl)
end PSound
end
section
/-! THROWS, 3: entering a method by hand (also one that has handlers, also one that throws); the search for a handler where its class has not been looked up yet -/
theorem fh_cold {E : CtlPost} {e : Env} {d : Bool} {acts : List Action} {s : State} {f : JFrame} {a : Addr} {Q : Handler → Pre} {x : ExceptionTableEntry} {t : List ExceptionTableEntry} {c : ClassId} {vm' : Vm} {cell : Cell} (hx : covers x f.pc = true) (h0 : x.catchType ≠ 0) (hg : (resolveClass f.method.cls x.catchType).Gives e.toSetting s.vm (.ok c) vm') (hsz : vm'.classes.size ≤ s.vm.classes.size) (hcell : s.heap[a]? = some cell) (hobj : ∀ k, cell.vm ≠ .statics k) (hk : ∃ k, vm'.classes[cell.cls]? = some k) (hc : ∃ k, vm'.classes[c]? = some k) :
    wp (findHandler.go f a (x :: t)) Q E e d acts s ↔ if vm'.assignable cell.cls c = true then Q (.found x.handlerPc) d acts (s.setVm vm') else wp (findHandler.go f a t) Q E e d acts (s.setVm vm') := by
  simp only [covers] at hx
  obtain ⟨ha, ht⟩ := hg.op (op := VmOp.resolveClass f.method.cls x.catchType) rfl
  cases hfit : vm'.assignable cell.cls c <;>
    simp [findHandler.go, hx, h0, ha, ht, hsz, hcell, hobj, hk, hc, hfit, VmOp.dirties, VmOp.acts]
theorem st_catch {e : Env} {s : State} {a : Addr} {f : JFrame} {r : List Frame} {pc : Nat} {vm' : Vm} (hfind : ∀ (Q : Handler → Pre) (E : CtlPost) (d : Bool) (acts : List Action), wp (findHandler f a) Q E e d acts s ↔ Q (.found pc) d acts (s.setVm vm')) :
    (stepThrowing e s a (.java f :: r)).Is ((s.setVm vm').setFrames (.java { f with pc := pc, stack := [.ref a] } :: r)) [] := by
  simp only [stepThrowing, searchFrame, vmDo]
  generalize hr : Sem.go _ e false [] s = res
  obtain ⟨as, rfl, ha⟩ := Sem.eq_ok_of hr (a := Handler.found pc) (s' := s.setVm vm') (acts' := []) (by simp [hfind _ _ _ _])
  exact ⟨rfl, ha⟩
theorem st_caught {tb : Tables} {e : Env} {s target : State} {g : JFrame} {c : Code} {below : List Frame} {a : Addr} (h : At s g.method c below) {pc : Nat} {vm' : Vm} (hfind : ∀ (Q : Handler → Pre) (E : CtlPost) (d : Bool) (acts : List Action), wp (findHandler g a) Q E e d acts ((s.setTop g).pushFrame (.throwing a)) ↔ Q (.found pc) d acts (((s.setTop g).pushFrame (.throwing a)).setVm vm'))
    (hrest : Steps tb e below ((s.setVm vm').setTop { g with pc := pc, stack := [.ref a] }) target) : Steps tb e below ((s.setTop g).pushFrame (.throwing a)) target := by
  obtain ⟨hgo, hw⟩ := h.throwing a
  refine Steps.head hgo hw ?_
  rw [stepThread_throwing (frames_entered h.top _), (st_catch (s := (s.setTop g).pushFrame (.throwing a)) hfind).1]
  obtain ⟨g₀, hg⟩ := Option.isSome_iff_exists.mp h.top
  obtain ⟨r, hr⟩ := State.topJava?_eq_some.mp hg
  have hr' : (s.setVm vm').frames = .java g₀ :: r := hr
  rw [State.setTop_of_frames _ hr'] at hrest
  rw [State.pushFrame, State.setTop_of_frames _ hr, State.setFrames_setFrames, hr]
  show Steps tb e below (((s.setVm vm').setFrames (Frame.throwing a :: (s.setFrames (Frame.java g :: r)).frames)).setFrames (Frame.java { g with pc := pc, stack := [.ref a] } :: r)) target
  rw [State.setFrames_setFrames]
  exact hrest
theorem m_code {N : Nat} {A : Array Value} {s : State} (h : (mCw N).before A s = true) : ∃ mk meth c, s.methodNamed? (mName N) = some mk ∧ s.vm.method? mk = some meth ∧ meth.code = some c ∧ c.code = mCode N ∧ c.maxLocals = mMaxL N ∧ c.exceptionTable.toList.map (fun h => (h.startPc, h.endPc, h.handlerPc, h.catchType)) = mHand N ∧ meth.sig.returnType = mRet N ∧ meth.locks = false ∧ parseMethodDescriptor (mName N).desc = some meth.sig := by
  unfold mCw at h
  by_cases hh : mHand N = []
  · rw [if_pos hh] at h
    obtain ⟨mk, hnamed⟩ := Cond.code_named h
    obtain ⟨meth, c, h1, h2, h3, h4, h5, h6, h7, h8⟩ := Cond.code_spec hnamed h
    have h0 : c.exceptionTable.size = 0 := by simpa [Array.isEmpty] using h7
    have h9 : c.exceptionTable.toList = [] := List.eq_nil_of_length_eq_zero (by simpa using h0)
    exact ⟨mk, meth, c, hnamed, h1, h2, h3, h4, by rw [h9, hh]; rfl, h5, h6, h8⟩
  · rw [if_neg hh] at h
    obtain ⟨mk, meth, c, h1, h2, h3, h4, h5, h6, h7, h8, h9⟩ := Cond.codeWith_spec h
    exact ⟨mk, meth, c, h1, h2, h3, h4, h5, h6, h7, h8, h9⟩
/-- what a method does from its entry -/
def mEnt (l : Launch) (D : va_G) (n0 : Nat) (ex : Nat → Nat) (dA : FieldType → ClassId) (S : mE) (N : Nat) (vs : List Value) (h : mHp) (r : mR) : Prop := h.length ≤ r.2.length ∧ msl h ≤ msl r.2 ∧
  ∀ (p : Program) (e : Env) (s : State) (m : MethodId) (below : List Frame) (meth : Method) (c : Code) (mc ms : Nat), mFix N p s m meth c → mCx D n0 ex dA S s → va_P D mcl (mws n0 ex dA h 0) s.heap → s.heap.size = n0 + h.length → h.length + mc = r.2.length → msl h + ms = msl r.2 →
    W p l e ({ frames := mFr N, cells := mc, slots := ms, locals := mLo N } : Room) s m (vs.map (cv n0 ex)).toArray below meth c s.heap [] 0 0 (mQ D n0 ex dA s below mc ms r) (entryFrame m (vs.map (cv n0 ex)).toArray (mMaxL N))
section Ent
variable {l : Launch} {D : va_G} {n0 : Nat} {ex : Nat → Nat} {dA : FieldType → ClassId} {S : mE}
theorem mSem.ent {N : Nat} {vs : List Value} {h : mHp} {r : mR} (k : mSem l D n0 ex dA S N (0, lv_args 0 vs, [], h) r) (hw : mcats vs ≤ mMaxL N) : mEnt l D n0 ex dA S N vs h r := by
  refine ⟨k.1, k.2.1, fun p e s m below meth c mc ms F X hP hsz h1 h2 => ?_⟩
  have hl := lv_entry (vs.map (cv n0 ex)) (n := mMaxL N) (by rw [mcats_sl, mcats_map]; exact hw)
  rw [lg_entry_eq]
  exact k.2.2 p e _ s m _ below meth c s.heap [] _ 0 0 mc ms (msl h) F X hP va_S.rf (by rw [← lv_args_map]; exact hl) (Nat.le_refl _) (Nat.le_refl _) (Nat.le_refl _) (Nat.le_refl _) hsz (by rw [hsz, ← h1]; omega) rfl h2.symm
theorem mSemP.ent {N : Nat} {vs : List Value} {h : mHp} {r : mR} (k : mSemP l D n0 ex dA S N (0, lv_args 0 vs, [], h) r) (hw : mcats vs ≤ mMaxL N) : mEnt l D n0 ex dA S N vs h r := by
  refine ⟨k.1, k.2.1, fun p e s m below meth c mc ms F X hP hsz h1 h2 => ?_⟩
  have hl := lv_entry (vs.map (cv n0 ex)) (n := mMaxL N) (by rw [mcats_sl, mcats_map]; exact hw)
  rw [lg_entry_eq]
  refine W.mono (fun t ht => ?_) (k.2.2 p e _ s m _ below meth c _ mc ms F X hP (by rw [← lv_args_map]; exact hl) (Nat.le_refl _) (Nat.le_refl _) (Nat.le_refl _) (Nat.le_refl _) hsz (by rw [hsz, ← h1]; omega) h2)
  obtain ⟨a1, a2, a3, a4, a5⟩ := ht
  refine ⟨a1, a2, a3, ⟨[], a4, fun q hq => by cases hq⟩, a5, ?_⟩
  refine ⟨a4.2.1, fun q hq _ => ?_⟩
  have hs : s.heap[q]? = some s.heap[q] := Array.getElem?_eq_getElem hq
  rw [hs]
  exact a4.old_cell hs
set_option maxHeartbeats 4000000 in
theorem m_into {p : Program} {e : Env} {R : Room} {s : State} {m : MethodId} {args : Array Value} {below : List Frame} {meth : Method} {c : Code} {T : State} {locs : List Loc} {cells slots : Nat} {N : Nat} {h : mHp} {vs : List Value} {r : mR} {g : JFrame} {ig : Instr} {mk : MethodId} {methk : Method} {ck : Code} {mc ms : Nat}
    (Xs : Stand p l e R s m args below meth c T locs cells slots) (hx : p.tables.exec = Jvm.exec) (X : mCx D n0 ex dA S s) (hP : va_P D mcl (mws n0 ex dA h 0) T.heap) (hS : va_S (mA n0) s.heap T.heap locs) (hsz : T.heap.size = n0 + h.length) (k0 : mEnt l D n0 ex dA S N vs h r)
    (hg : g.method = m) (hgs : g.locals.size = c.maxLocals) (hdg : decode c.code g.pc = .ok (ig, 3)) (hcat : 2 * g.monitorRoom + (g.stack.map fun v => v.category).sum ≤ 8)
    (h1 : s.methodNamed? (mName N) = some mk) (h2 : s.vm.method? mk = some methk) (h3 : methk.code = some ck) (h4 : ck.code = mCode N) (h5 : ck.maxLocals = mMaxL N) (h6 : ck.exceptionTable.toList.map (fun h => (h.startPc, h.endPc, h.handlerPc, h.catchType)) = mHand N) (h7 : methk.sig.returnType = mRet N) (h8 : methk.locks = false)
    (hnm : mNmOf (mOwn N) = (mName N).cls) (hpl : plainFor (mName N) = true) (hf1 : mFr N + 1 ≤ R.frames) (hf2 : 8 + (mMaxL N + 11) + mLo N ≤ R.locals) (hmc : h.length + mc = r.2.length) (hms : msl h + ms = msl r.2) (hRc : cells + mc ≤ R.cells) (hRs : slots + ms ≤ R.slots) :
    ∃ (t : State) (L : List Loc), (∀ acts, Steps p.tables e below (doInvoke e (T.setTop g) acts mk (vs.map (cv n0 ex)).toArray).1 t) ∧ Ended t (.java g :: below) (mOut n0 ex r.1) ∧ (T.calling g mk (vs.map (cv n0 ex)).toArray).WarmedH t.vm ∧ (T.calling g mk (vs.map (cv n0 ex)).toArray).sameButNew ({ t with vm := (T.calling g mk (vs.map (cv n0 ex)).toArray).vm } : State) L mc ms ∧ (∀ q ∈ L, n0 ≤ q.base) ∧ va_P D mcl (mws n0 ex dA r.2 0) t.heap ∧ va_F (mA n0) (T.calling g mk (vs.map (cv n0 ex)).toArray) t := by
  have hnT : T.methodNamed? (mName N) = some mk := Xs.named h1
  have hmT : T.vm.method? mk = some methk := by rw [Xs.warmed.alike.method?]; exact h2
  obtain ⟨Y, hin⟩ := Xs.into hg hgs hdg (vs.map (cv n0 ex)).toArray (R' := ({ frames := mFr N, cells := mc, slots := ms, locals := mLo N } : Room)) hmT h3 h8 (State.plainMethod.of_named hpl hnT hmT) hf1 (by show _ + (ck.maxLocals + 11) + mLo N ≤ R.locals; rw [h5]; omega) hRc hRs
  have hX' : mCx D n0 ex dA S (T.calling g mk (vs.map (cv n0 ex)).toArray) := mCx_moved X hS rfl Xs.warmed
  have hfc : (T.calling g mk (vs.map (cv n0 ex)).toArray).vm.findClass (mNmOf (mOwn N)) = some mk.cls := by
    rw [hnm]
    exact findClass_of_methodNamed (s := T) hnT
  have F' : mFix N p (T.calling g mk (vs.map (cv n0 ex)).toArray) mk methk ck := ⟨hx, h4, h7, h5, h8, (name_of_methodNamed h1 h2).1, hfc, h6⟩
  have K := k0.2.2 p e (T.calling g mk (vs.map (cv n0 ex)).toArray) mk (.java g :: below) methk ck mc ms F' hX' hP hsz hmc hms
  obtain ⟨t, a1, b1, b2, b3, ⟨L, b4, b5⟩, b6, b7⟩ := K ((T.setTop g).pushFrame (.java (entryFrame mk (vs.map (cv n0 ex)).toArray ck.maxLocals))) (by rfl) Y
  refine ⟨t, L, fun acts => ?_, b2, b3, b4, b5, b6, b7⟩
  rw [hin acts, h5]
  rw [h5] at a1
  exact Steps.weaken (mid := [.java g]) a1
end Ent
/-! the rules with throws -/
def mrm (M N : Nat) (st : List Value) : Prop := mFr N + 1 ≤ mFr M ∧ 8 + (mMaxL N + 11) + mLo N ≤ mLo M ∧ mcats st ≤ 8 ∧ mCw N ∈ mTbl
/-- MeshWalkLaw's catch types: which class of mcl -/
def mCatch (ct : Nat) : Nat := match ct with
  | 13 => 10
  | 15 => 11
  | 27 => 12
  | _ => 0
def mfind (hs : List (Nat × Nat × Nat × Nat)) (pc ci : Nat) : Option Nat := match hs with
  | [] => none
  | (a, b, hp, ct) :: t => if a ≤ pc ∧ pc < b then (if mCatch ct = ci then some hp else if ci = 11 ∧ ct = 13 then mfind t pc ci else none) else mfind t pc ci
section RulesX
variable (P : Nat → mF → mR → Prop)
/-- a call on an object throws, and nothing here catches it -/
def mc_tv : Prop := ∀ (M pc : Nat) (ls : mL) (st st0 : List Value) (h h' : mHp) (idx N w1 w2 w3 w4 w5 a ci k : Nat) (fs As : List Value), decode (mCode M) pc = .ok (.invokevirtual idx, 3) → (mOwn M, idx, N, 0, w1, w2, w3, w4, w5) ∈ mLnkT → mrm M N st → st0 = As.reverse ++ .ref a :: st → As.length = mAr N → mcats (.ref a :: As) ≤ mMaxL N → mget h a = some (.inr (ci, fs)) → mOwn N = ci → mHand M = [] →
  (P N (0, lv_args 0 (.ref a :: As), [], h) (.inr k, h') ∨ RunsP N (0, lv_args 0 (.ref a :: As), [], h) (.inr k, h')) → P M (pc, ls, st0, h) (.inr k, h')
/-- .. and a handler here catches it -/
def mc_tc : Prop := ∀ (M pc : Nat) (ls : mL) (st st0 : List Value) (h h' : mHp) (r : mR) (idx N w1 w2 w3 w4 w5 a ci k cx hp : Nat) (fs As : List Value), decode (mCode M) pc = .ok (.invokevirtual idx, 3) → (mOwn M, idx, N, 0, w1, w2, w3, w4, w5) ∈ mLnkT → mrm M N st → st0 = As.reverse ++ .ref a :: st → As.length = mAr N → mcats (.ref a :: As) ≤ mMaxL N → mget h a = some (.inr (ci, fs)) → mOwn N = ci → mOwn M = 13 → mget h' k = some (.inr (cx, [])) → (cx = 10 ∨ cx = 11 ∨ cx = 12) → (∀ q ∈ mHand M, q.2.2.2 = 13 ∨ q.2.2.2 = 15 ∨ q.2.2.2 = 27) → mfind (mHand M) pc cx = some hp →
  (P N (0, lv_args 0 (.ref a :: As), [], h) (.inr k, h') ∨ RunsP N (0, lv_args 0 (.ref a :: As), [], h) (.inr k, h')) → P M (hp, ls, [.ref k], h') r → P M (pc, ls, st0, h) r
/-- a call of a static method that has handlers -/
def mc_hs : Prop := ∀ (M pc : Nat) (ls : mL) (st st0 : List Value) (h h' : mHp) (r : mR) (idx N w1 w2 w3 w4 w5 : Nat) (As : List Value) (v : Option Value), decode (mCode M) pc = .ok (.invokestatic idx, 3) → (mOwn M, idx, N, 1, w1, w2, w3, w4, w5) ∈ mLnkT → mrm M N st → st0 = As.reverse ++ st → As.length = mAr N → mcats As ≤ mMaxL N →
  P N (0, lv_args 0 As, [], h) (.inl v, h') → P M (pc + 3, ls, v.toList ++ st, h') r → P M (pc, ls, st0, h) r
end RulesX
section XSound
variable {l : Launch} {D : va_G} {n0 : Nat} {ex : Nat → Nat} {dA : FieldType → ClassId} {S : mE}
/-- the machine's own step into a method on an object, and what the method does -/
theorem m_stepV {p : Program} {e : Env} {R : Room} {s : State} {m : MethodId} {args : Array Value} {below : List Frame} {meth : Method} {c : Code} {T : State} {locs : List Loc} {cells slots : Nat} {M N pc idx w1 w2 w3 w4 w5 a ci mc ms : Nat} {la : Array Slot} {h : mHp} {st st0 As fs : List Value} {r : mR}
    (Xs : Stand p l e R s m args below meth c T locs cells slots) (F : mFix M p s m meth c) (X : mCx D n0 ex dA S s) (hP : va_P D mcl (mws n0 ex dA h 0) T.heap) (hS : va_S (mA n0) s.heap T.heap locs) (hsz : T.heap.size = n0 + h.length) (hla : la.size = mMaxL M)
    (hd : decode (mCode M) pc = .ok (.invokevirtual idx, 3)) (hf : (mOwn M, idx, N, 0, w1, w2, w3, w4, w5) ∈ mLnkT) (hrm : mrm M N st) (hst : st0 = As.reverse ++ .ref a :: st) (har : As.length = mAr N) (hg : mget h a = some (.inr (ci, fs))) (hci : mOwn N = ci) (hRf : mFr M ≤ R.frames) (hRl : mLo M ≤ R.locals)
    (k0 : mEnt l D n0 ex dA S N (.ref a :: As) h r) (hmc : h.length + mc = r.2.length) (hms : msl h + ms = msl r.2) (hRc : cells + mc ≤ R.cells) (hRs : slots + ms ≤ R.slots) :
    ∃ (vm' : Vm) (mk : MethodId) (t : State) (L : List Loc), Stand p l e R s m args below meth c (T.setVm vm') locs cells slots ∧ (∀ tg, Steps p.tables e below t tg → Steps p.tables e below (T.setTop (F0 m pc la (st0.map (cv n0 ex)))) tg) ∧ Ended t (.java (F0 m pc la (st.map (cv n0 ex))) :: below) (mOut n0 ex r.1) ∧ ((T.setVm vm').calling (F0 m pc la (st.map (cv n0 ex))) mk ((.ref a :: As).map (cv n0 ex)).toArray).WarmedH t.vm ∧ ((T.setVm vm').calling (F0 m pc la (st.map (cv n0 ex))) mk ((.ref a :: As).map (cv n0 ex)).toArray).sameButNew ({ t with vm := ((T.setVm vm').calling (F0 m pc la (st.map (cv n0 ex))) mk ((.ref a :: As).map (cv n0 ex)).toArray).vm } : State) L mc ms ∧ (∀ q ∈ L, n0 ≤ q.base) ∧ va_P D mcl (mws n0 ex dA r.2 0) t.heap ∧ va_F (mA n0) ((T.setVm vm').calling (F0 m pc la (st.map (cv n0 ex))) mk ((.ref a :: As).map (cv n0 ex)).toArray) t := by
  obtain ⟨hr1, hr2, hr3, hr5⟩ := hrm
  obtain ⟨g1, g2, g3, g4, g5, g6, g7, g8, g9⟩ := mLnk_spec hf
  rw [if_pos (by decide)] at g1
  rw [if_neg (by decide)] at g2
  have g3' := g3 (by decide)
  obtain ⟨mk, methM, ck, h1, h2, h3, h4, h5, h6, h7, h8, h9⟩ := m_code (A := args) (mTb_use X.2.2.2.2.1 hr5)
  obtain ⟨mk2, meth2, i1, i2, hstM, habM⟩ := Cond.instanceMethod_spec (mTb_use (a := args) X.2.2.2.2.1 g2)
  cases h1.symm.trans i1
  cases h2.symm.trans i2
  obtain ⟨C, hcl⟩ : ∃ q : vw_C, mcl[ci]? = some q := by
    obtain ⟨r, hr, -⟩ := hP _ _ (mws_at hg)
    exact ⟨r, hr⟩
  obtain ⟨C, TT, NN⟩ := C
  obtain ⟨cellB, b1, b2, b3⟩ := va_recv X.1 hP hcl (mws_at hg)
  have hC : C = (mName N).cls := by rw [← g7, hci]; exact (mcl_nm hcl).symm
  rw [hC] at b3
  obtain ⟨c2, r2, m2, q1, q2, q3, q4, kP, hkP, hkPi⟩ := Cond.selects_spec (mTb_use (a := args) X.2.2.2.2.1 g3')
  cases b3.symm.trans q1
  cases (State.methodFound?_of_named h1 g5).symm.trans q2
  cases h1.symm.trans q3
  have hselP : selectMethod e.platform s.vm cellB.cls mk = .method mk := by rw [Launch.admits_selectMethod Xs.admits]; exact q4
  have hlen : (As.map (cv n0 ex)).length = methM.sig.parameters.length := by
    rw [List.length_map, har]
    exact m_lenn g6 _ h9
  have hstk : (F0 m pc la (st0.map (cv n0 ex))).stack = (As.map (cv n0 ex)).reverse ++ .ref (sg n0 ex a) :: st.map (cv n0 ex) := by
    show st0.map (cv n0 ex) = _
    rw [hst]; simp [cv]
  obtain ⟨vm₁, X₁, hstep₁⟩ := Xs.invokevirtual F.1 F.2.2.2.2.2.2.1 (mTb_use X.2.2.2.2.1 g1) h1 h2 hstM hkP hkPi g5 (a := sg n0 ex a) (cell := cellB) b1 (fun z h => by rw [h] at b2; cases b2) hselP h2 habM hkP hkPi (g := F0 m pc la (st0.map (cv n0 ex))) rfl (argsL := As.map (cv n0 ex)) (rest := st.map (cv n0 ex)) hlen hstk (by rw [F.2.1]; exact hd)
  obtain ⟨t, L, c1, c3, c4, c5, c6, c7, c8⟩ := m_into (mc := mc) (ms := ms) X₁ F.1 X hP hS hsz k0 (g := F0 m pc la (st.map (cv n0 ex))) rfl (hla.trans F.2.2.2.1.symm) (by rw [F.2.1]; exact hd) (m_cats (m := m) (pc := pc) (la := la) st hr3) h1 h2 h3 h4 h5 h6 h7 h8 g7 g8 (Nat.le_trans hr1 hRf) (Nat.le_trans hr2 hRl) hmc hms hRc hRs
  exact ⟨vm₁, mk, t, L, X₁, fun tg hs => hstep₁ tg (fun acts => (c1 acts).trans hs), c3, c4, c5, c6, c7, c8⟩
theorem mSem_tv (hfl : l.flags = pinnedFlags ++ [noTraceFlag]) : mc_tv (mSem l D n0 ex dA S) := by
  intro M pc ls st st0 h h' idx N w1 w2 w3 w4 w5 a ci k fs As hd hf hrm hst har hcw hg hci hhd k1
  have k0 : mEnt l D n0 ex dA S N (.ref a :: As) h (.inr k, h') := by
    rcases k1 with k1 | k1
    · exact mSem.ent k1 hcw
    · exact mSemP.ent (k1.sem hfl) hcw
  have k3 : h.length ≤ h'.length := k0.1
  have k4 : msl h ≤ msl h' := k0.2.1
  refine ⟨k3, k4, fun p e R s m args below meth c H locs la cells slots mc ms sl0 F X hP hS hl hRf hRl hRc hRs g1 g2 g3 g4 => ?_⟩
  have g1' : s.heap.size + cells = n0 + h.length := g1
  have g2' : s.heap.size + mc = n0 + h'.length := g2
  have g3' : msl h = sl0 + slots := g3
  have g4' : msl h' = sl0 + ms := g4
  refine W.sz (fun hz => ?_)
  have hHs : H.size = n0 + h.length := m_size hP hS g1' X.2.2.2.1 hz
  intro T hT Xs
  subst hT
  obtain ⟨vm', mk, t, L, X₁, hgo, hend, hW, hsame, hL, hPt, hFt⟩ := m_stepV (mc := h'.length - h.length) (ms := msl h' - msl h) Xs F X hP hS hHs hl.1 hd hf hrm hst har hg hci hRf hRl k0 (by show h.length + _ = h'.length; omega) (by show msl h + _ = msl h'; omega) (by omega) (by omega)
  obtain ⟨T', X', -, -, ht⟩ := X₁.outOfThrown rfl hend hW hsame
  have hexc : c.exceptionTable.toList = [] := by
    have := F.2.2.2.2.2.2.2
    rw [hhd] at this
    exact List.map_eq_nil_iff.mp this
  obtain ⟨hs1, r1, r2, r3, r4⟩ := X'.leaveThrown (sg n0 ex k) (g := F0 m pc la (st.map (cv n0 ex))) rfl rfl rfl (fun x hx => by rw [hexc] at hx; cases hx) F.2.2.2.2.1
  have hth : t.heap = T'.heap := by rw [ht]; exact throwing_heap T' _ _
  refine ⟨_, hgo _ (by rw [ht]; exact hs1), r1, r2, r3, ⟨locs ++ L, ?_, fun q hq => ?_⟩, by rw [hth] at hPt; exact hPt, ?_⟩
  · have e1 : mc = cells + (h'.length - h.length) := by omega
    have e2 : ms = slots + (msl h' - msl h) := by omega
    rw [e1, e2]
    exact r4
  · rcases List.mem_append.mp hq with hq | hq
    · exact hS.2.2 q hq
    · exact hL q hq
  · obtain ⟨f1, f2⟩ := hFt
    have f1' : T.heap.size ≤ T'.heap.size := by rw [← hth]; exact f1
    refine ⟨Nat.le_trans hS.1 f1', fun q q1 q2 => ?_⟩
    have := f2 q (Nat.lt_of_lt_of_le q1 hS.1) q2
    rw [hth] at this
    exact this.trans (hS.2.1 q q1 q2)
theorem mSem_hs : mc_hs (mSem l D n0 ex dA S) := by
  intro M pc ls st st0 h h' r idx N w1 w2 w3 w4 w5 As v hd hf hrm hst har hcw k1 k
  have k0 : mEnt l D n0 ex dA S N As h (.inl v, h') := mSem.ent k1 hcw
  refine mSem_call k1 k (fun p e R s m args below meth c H locs la cells slots mc ms Q F X hP hS hla hRf hRl g1 g2 g3 g4 g5 kk => ?_)
  refine W.sz (fun hz => ?_)
  have hHs : H.size = n0 + h.length := m_size hP hS g1 X.2.2.2.1 hz
  intro T hT Xs
  subst hT
  obtain ⟨hr1, hr2, hr3, hr5⟩ := hrm
  obtain ⟨l1, l2, l3, l4, l5, l6, l7, l8, l9⟩ := mLnk_spec hf
  rw [if_pos (by decide)] at l1
  rw [if_pos (by decide)] at l2
  obtain ⟨mk, methM, ck, h1, h2, h3, h4, h5, h6, h7, h8, h9⟩ := m_code (A := args) (mTb_use X.2.2.2.2.1 hr5)
  have hstatic : methM.isStatic = true := Cond.static_spec h1 h2 (mTb_use (a := args) X.2.2.2.2.1 l2)
  obtain ⟨kP, hkP, -⟩ := className_of_methodNamed h1
  have hinitP : kP.init = .initialized := Cond.initialized_spec (findClass_of_methodNamed h1) hkP (mTb_use (a := args) X.2.2.2.2.1 l4)
  have hlen : (As.map (cv n0 ex)).length = methM.sig.parameters.length := by
    rw [List.length_map, har]
    exact m_lenn l6 _ h9
  have hstk : (F0 m pc la (st0.map (cv n0 ex))).stack = (As.map (cv n0 ex)).reverse ++ st.map (cv n0 ex) := by
    show st0.map (cv n0 ex) = _
    rw [hst]; simp
  obtain ⟨vm₁, X₁, hstep₁⟩ := Xs.invokestatic F.1 F.2.2.2.2.2.2.1 (mTb_use X.2.2.2.2.1 l1) h1 h2 hstatic hkP hinitP l5 (g := F0 m pc la (st0.map (cv n0 ex))) rfl (argsL := As.map (cv n0 ex)) (rest := st.map (cv n0 ex)) hlen hstk (by rw [F.2.1]; exact hd)
  obtain ⟨t, L, c1, c3, c4, c5, c6, c7, c8⟩ := m_into (mc := mc) (ms := ms) X₁ F.1 X hP hS hHs k0 (g := F0 m pc la (st.map (cv n0 ex))) rfl (hla.trans F.2.2.2.1.symm) (by rw [F.2.1]; exact hd) (m_cats (m := m) (pc := pc) (la := la) st hr3) h1 h2 h3 h4 h5 h6 h7 h8 l7 l8 (Nat.le_trans hr1 hRf) (Nat.le_trans hr2 hRl) g2 g3 g4 g5
  obtain ⟨T', X', -, -, ht⟩ := X₁.outOf (g := F0 m pc la (st.map (cv n0 ex))) rfl (by rw [F.2.1]; exact hd) c3 c4 c5
  have hth : t.heap = T'.heap := by rw [ht]; rfl
  obtain ⟨f1, f2⟩ := c8
  obtain ⟨tg, a1, b1⟩ := kk T'.heap (locs ++ L) (by rw [← hth]; exact c7) ⟨by rw [← hth]; exact Nat.le_trans hS.1 f1, fun q q1 q2 => by
      rw [← hth]
      exact (f2 q (Nat.lt_of_lt_of_le q1 hS.1) q2).trans (hS.2.1 q q1 q2), fun q hq => by
      rcases List.mem_append.mp hq with hq | hq
      · exact hS.2.2 q hq
      · exact c6 q hq⟩ T' rfl X'
  refine ⟨tg, hstep₁ tg (fun acts => (c1 acts).trans ?_), b1⟩
  rw [ht]
  cases v <;> exact a1
theorem mxc_k13 : Cond.classLink "MeshWalkLaw" 13 "java/lang/IllegalArgumentException" ∈ mTbl := mIs.mem (i := 359) (by decide +kernel)
theorem mxc_k15 : Cond.classLink "MeshWalkLaw" 15 "java/lang/IllegalStateException" ∈ mTbl := mIs.mem (i := 360) (by decide +kernel)
theorem mxc_k27 : Cond.classLink "MeshWalkLaw" 27 "java/lang/IndexOutOfBoundsException" ∈ mTbl := mIs.mem (i := 710) (by decide +kernel)
theorem mxc_c10 : Cond.castable "java/lang/IllegalArgumentException" "java/lang/IllegalArgumentException" ∈ mTbl := mIs.mem (i := 373) (by decide +kernel)
theorem mxc_c11 : Cond.castable "java/lang/IllegalStateException" "java/lang/IllegalStateException" ∈ mTbl := mIs.mem (i := 441) (by decide +kernel)
theorem mxc_c12 : Cond.castable "java/lang/IndexOutOfBoundsException" "java/lang/IndexOutOfBoundsException" ∈ mTbl := mIs.mem (i := 721) (by decide +kernel)
theorem mct_spec {ct : Nat} (h : ct = 13 ∨ ct = 15 ∨ ct = 27) : ∃ C, mcl[mCatch ct]? = some (C, mT10, 0) ∧ Cond.classLink "MeshWalkLaw" ct C ∈ mTbl ∧ Cond.castable C C ∈ mTbl := by
  rcases h with rfl | rfl | rfl
  · exact ⟨_, mcl_10, mxc_k13, mxc_c10⟩
  · exact ⟨_, mcl_11, mxc_k15, mxc_c11⟩
  · exact ⟨_, mcl_12, mxc_k27, mxc_c12⟩
/-- the search through the handlers, the classes looked up on the way -/
theorem fh_go {e : Env} {s : State} (hadm : e.platform.magicAccessors = ({} : Platform).magicAccessors) (X : mCx D n0 ex dA S s) {f : JFrame} {x : Addr} {cell : Cell} {cx hp : Nat} (hown : s.vm.findClass "MeshWalkLaw" = some f.method.cls) {C : String} (hcx : mcl[cx]? = some (C, mT10, 0)) (hcc : s.vm.findClass C = some cell.cls) (hobj : ∀ k, cell.vm ≠ .statics k) :
    ∀ (tl : List ExceptionTableEntry) (U : State), s.WarmedH U.vm → U.heap[x]? = some cell → (∀ q ∈ tl.map (fun h => (h.startPc, h.endPc, h.handlerPc, h.catchType)), q.2.2.2 = 13 ∨ q.2.2.2 = 15 ∨ q.2.2.2 = 27) → mfind (tl.map (fun h => (h.startPc, h.endPc, h.handlerPc, h.catchType))) f.pc cx = some hp →
      ∃ vm', s.WarmedH vm' ∧ ∀ (Q : Handler → Pre) (E : CtlPost) (d : Bool) (acts : List Action), wp (findHandler.go f x tl) Q E e d acts U ↔ Q (.found hp) d acts (U.setVm vm') := by
  intro tl
  induction tl with
  | nil => intro U _ _ _ h; cases h
  | cons y t ih =>
    intro U hW hcell hall hm
    simp only [List.map_cons, mfind] at hm
    by_cases hcov : y.startPc ≤ f.pc ∧ f.pc < y.endPc
    · rw [if_pos hcov] at hm
      have hct : y.catchType = 13 ∨ y.catchType = 15 ∨ y.catchType = 27 := hall _ List.mem_cons_self
      have hcv : covers y f.pc = true := by simp [covers, hcov.1, hcov.2]
      have h0 : y.catchType ≠ 0 := by rcases hct with h | h | h <;> rw [h] <;> decide
      obtain ⟨Ct, hcl, hlk, hcst⟩ := mct_spec hct
      obtain ⟨cC, hfcc, hlinks⟩ := Cond.classLink_spec hown (mTb_use (a := #[]) X.2.2.2.2.1 hlk) e.platform hadm
      obtain ⟨hg₁, hwarm₁, hready₁⟩ := State.classEntry (e := e) hW hlinks
      generalize U.vm.noted f.method.cls y.catchType (.cls cC) = vm₁ at hg₁ hwarm₁ hready₁
      have hal := hwarm₁.alike
      obtain ⟨kx, hkx⟩ := Vm.classAt_of_findClass hcc
      obtain ⟨kc, hkc⟩ := Vm.classAt_of_findClass hfcc
      obtain ⟨kx', hkx', -⟩ := hal.2.2 _ _ hkx
      obtain ⟨kc', hkc', -⟩ := hal.2.2 _ _ hkc
      have hsz : vm₁.classes.size ≤ U.vm.classes.size := by
        have h1 := hal.2.1
        have h2 := hW.alike.2.1
        omega
      have key := fun (Q : Handler → Pre) (E : CtlPost) (d : Bool) (acts : List Action) => fh_cold (E := E) (e := e) (d := d) (acts := acts) (Q := Q) (f := f) (a := x) (t := t) hcv h0 hg₁ hsz hcell hobj ⟨kx', hkx'⟩ ⟨kc', hkc'⟩
      have hasg : vm₁.assignable cell.cls cC = s.vm.assignable cell.cls cC := hal.assignable _ _
      by_cases heq : mCatch y.catchType = cx
      · rw [if_pos heq] at hm
        cases hm
        refine ⟨vm₁, hwarm₁, fun Q E d acts => ?_⟩
        have hC : C = Ct := by
          rw [heq] at hcl
          have := hcx.symm.trans hcl
          simp only [Option.some.injEq, Prod.mk.injEq] at this
          exact this.1
        subst hC
        obtain ⟨c1, c2, q1, q2, q3⟩ := Cond.castable_spec (mTb_use (a := #[]) X.2.2.2.2.1 hcst)
        cases hcc.symm.trans q1
        cases hfcc.symm.trans q2
        rw [key Q E d acts, if_pos (by rw [hasg]; exact q3)]
      · rw [if_neg heq] at hm
        by_cases hsp : cx = 11 ∧ y.catchType = 13
        · rw [if_pos hsp] at hm
          obtain ⟨vm', hW', hres⟩ := ih (U.setVm vm₁) hwarm₁ hcell (fun q hq => hall q (List.mem_cons_of_mem _ hq)) hm
          have hno : s.vm.assignable cell.cls cC = false := by
            have hcn := X.2.2.2.2.2.2.2
            obtain ⟨rfl, h13⟩ := hsp
            rw [h13] at hcl
            have e1 : C = "java/lang/IllegalStateException" := by
              have := hcx.symm.trans mcl_11
              simp only [Option.some.injEq, Prod.mk.injEq] at this
              exact this.1
            have e2 : Ct = "java/lang/IllegalArgumentException" := by
              have := hcl.symm.trans mcl_10
              simp only [Option.some.injEq, Prod.mk.injEq] at this
              exact this.1
            subst e1; subst e2
            cases ha : s.vm.assignable cell.cls cC with
            | false => rfl
            | true => simp [Cond.before, Cond.holds, Cond.value, hcc, hfcc, ha] at hcn
          refine ⟨vm', hW', fun Q E d acts => ?_⟩
          rw [key Q E d acts, if_neg (by rw [hasg, hno]; decide), hres Q E d acts]
          rfl
        · rw [if_neg hsp] at hm; cases hm
    · rw [if_neg hcov] at hm
      obtain ⟨vm', hW', hres⟩ := ih U hW hcell (fun q hq => hall q (List.mem_cons_of_mem _ hq)) hm
      refine ⟨vm', hW', fun Q E d acts => ?_⟩
      have hcv : covers y f.pc = false := by
        simp only [covers, Bool.and_eq_false_iff, decide_eq_false_iff_not]
        by_cases h1 : y.startPc ≤ f.pc
        · exact Or.inr (fun h2 => hcov ⟨h1, h2⟩)
        · exact Or.inl h1
      rw [Jvm.W.findHandler_go_skip hcv]
      exact hres Q E d acts
theorem mSem_tc (hfl : l.flags = pinnedFlags ++ [noTraceFlag]) : mc_tc (mSem l D n0 ex dA S) := by
  intro M pc ls st st0 h h' r idx N w1 w2 w3 w4 w5 a ci k cx hp fs As hd hf hrm hst har hcw hg hci hM hgx hcx hall hfd k1 kq
  have k0 : mEnt l D n0 ex dA S N (.ref a :: As) h (.inr k, h') := by
    rcases k1 with k1 | k1
    · exact mSem.ent k1 hcw
    · exact mSemP.ent (k1.sem hfl) hcw
  have k3 : h.length ≤ h'.length := k0.1
  have k4 : msl h ≤ msl h' := k0.2.1
  have k5 : h'.length ≤ r.2.length := kq.1
  have k6 : msl h' ≤ msl r.2 := kq.2.1
  refine ⟨Nat.le_trans k3 k5, Nat.le_trans k4 k6, fun p e R s m args below meth c H locs la cells slots mc ms sl0 F X hP hS hl hRf hRl hRc hRs g1 g2 g3 g4 => ?_⟩
  have g1' : s.heap.size + cells = n0 + h.length := g1
  have g3' : msl h = sl0 + slots := g3
  refine W.sz (fun hz => ?_)
  have hHs : H.size = n0 + h.length := m_size hP hS g1' X.2.2.2.1 hz
  intro T hT Xs
  subst hT
  obtain ⟨vm', mk, t, L, X₁, hgo, hend, hW, hsame, hL, hPt, hFt⟩ := m_stepV (mc := h'.length - h.length) (ms := msl h' - msl h) Xs F X hP hS hHs hl.1 hd hf hrm hst har hg hci hRf hRl k0 (by show h.length + _ = h'.length; omega) (by show msl h + _ = msl h'; omega) (by omega) (by omega)
  obtain ⟨T', X', -, -, ht⟩ := X₁.outOfThrown rfl hend hW hsame
  have hth : t.heap = T'.heap := by rw [ht]; exact throwing_heap T' _ _
  have hPT : va_P D mcl (mws n0 ex dA h' 0) T'.heap := by rw [← hth]; exact hPt
  obtain ⟨C, hcl⟩ : ∃ C, mcl[cx]? = some (C, mT10, 0) := by
    rcases hcx with rfl | rfl | rfl
    · exact ⟨_, mcl_10⟩
    · exact ⟨_, mcl_11⟩
    · exact ⟨_, mcl_12⟩
  obtain ⟨cell, b1, b2, b3⟩ := va_recv X.1 hPT hcl (mws_at hgx)
  have hownS : s.vm.findClass "MeshWalkLaw" = some (F0 m pc la (st.map (cv n0 ex))).method.cls := by
    have := F.2.2.2.2.2.2.1
    rw [hM] at this
    exact this
  have hpl : e.platform.magicAccessors = ({} : Platform).magicAccessors := by rw [Xs.admits.platform]
  obtain ⟨vm2, hW2, hfind⟩ := fh_go hpl X (f := F0 m pc la (st.map (cv n0 ex))) (x := sg n0 ex k) (cell := cell) (hp := hp) hownS hcl b3 (fun z hz => by rw [hz] at b2; cases b2) c.exceptionTable.toList ((T'.setTop (F0 m pc la (st.map (cv n0 ex)))).pushFrame (.throwing (sg n0 ex k))) (by rw [throwing_vm]; exact X'.warmed) (by rw [throwing_heap]; exact b1) (by rw [F.2.2.2.2.2.2.2]; exact hall) (by rw [F.2.2.2.2.2.2.2]; exact hfd)
  have hfind' : ∀ (Q : Handler → Pre) (E : CtlPost) (d : Bool) (acts : List Action), wp (findHandler (F0 m pc la (st.map (cv n0 ex))) (sg n0 ex k)) Q E e d acts ((T'.setTop (F0 m pc la (st.map (cv n0 ex)))).pushFrame (.throwing (sg n0 ex k))) ↔ Q (.found hp) d acts (((T'.setTop (F0 m pc la (st.map (cv n0 ex)))).pushFrame (.throwing (sg n0 ex k))).setVm vm2) := fun Q E d acts => by
    rw [Jvm.W.findHandler_eq (meth := meth) (code := c) (by rw [throwing_vm]; exact X'.method') X'.code]
    exact hfind Q E d acts
  have hS' : va_S (mA n0) s.heap T'.heap (locs ++ L) := by
    obtain ⟨f1, f2⟩ := hFt
    refine ⟨by rw [← hth]; exact Nat.le_trans hS.1 f1, fun q q1 q2 => ?_, fun q hq => ?_⟩
    · rw [← hth]
      exact (f2 q (Nat.lt_of_lt_of_le q1 hS.1) q2).trans (hS.2.1 q q1 q2)
    · rcases List.mem_append.mp hq with hq | hq
      · exact hS.2.2 q hq
      · exact hL q hq
  obtain ⟨tg, a1, b1'⟩ := kq.2.2 p e R s m args below meth c T'.heap (locs ++ L) la (cells + (h'.length - h.length)) (slots + (msl h' - msl h)) mc ms sl0 F X hPT hS' hl hRf hRl hRc hRs (by show _ = n0 + h'.length; omega) g2 (by show msl h' = _; omega) g4 (T'.setVm vm2) rfl (X'.noted hW2)
  refine ⟨tg, hgo _ ?_, b1'⟩
  rw [ht]
  exact st_caught X'.here hfind' a1
end XSound
end
section
/-! THE RUNS: the least relation that keeps the rules; its rules as rows (R_ for Run, Q_ for RunsP) -/
def mClosedX (S : mE) (P : Nat → mF → mR → Prop) : Prop := mClosed S P ∧ mc_tv P ∧ mc_tc P ∧ mc_hs P
def Run (S : mE) (M : Nat) (f : mF) (r : mR) : Prop := ∀ P : Nat → mF → mR → Prop, mClosedX S P → P M f r
theorem Run.sem {l : Launch} {D : va_G} {n0 : Nat} {ex : Nat → Nat} {dA : FieldType → ClassId} {S : mE} (hfl : l.flags = pinnedFlags ++ [noTraceFlag]) {M : Nat} {f : mF} {r : mR} (h : Run S M f r) : mSem l D n0 ex dA S M f r := h _ ⟨mSem_closed, mSem_tv hfl, mSem_tc hfl, mSem_hs⟩
theorem Run.closed (S : mE) : mClosedX S (Run S) := by
  refine ⟨⟨?_, ?_, ?_, ?_, ?_, ?_, ?_, ?_, ?_, ?_, ?_, ?_, ?_, ?_, ?_, ?_, ?_, ?_, ?_, ?_, ?_, ?_, ?_, ?_, ?_, ?_⟩, ?_, ?_, ?_⟩
  · intro M pc ls st h r i len ls' st' a1 a2 a3 k P hP
    exact hP.1.1 M pc ls st h r i len ls' st' a1 a2 a3 (k P hP)
  · intro M pc ls st h r i off st' tgt a1 a2 a3 k P hP
    exact hP.1.2.1 M pc ls st h r i off st' tgt a1 a2 a3 (k P hP)
  · intro M pc ls st h r i st' a1 a2 a3 k P hP
    exact hP.1.2.2.1 M pc ls st h r i st' a1 a2 a3 (k P hP)
  · intro M pc ls st h r dflt lo hi offs len x tgt a1 a2 a3 k P hP
    exact hP.1.2.2.2.1 M pc ls st h r dflt lo hi offs len x tgt a1 a2 a3 (k P hP)
  · intro M pc ls st h r dflt lo hi offs len x off tgt a1 a2 a3 a4 a5 k P hP
    exact hP.1.2.2.2.2.1 M pc ls st h r dflt lo hi offs len x off tgt a1 a2 a3 a4 a5 (k P hP)
  · intro M pc ls st h r idx v w a1 a2 k P hP
    exact hP.1.2.2.2.2.2.1 M pc ls st h r idx v w a1 a2 (k P hP)
  · intro M pc ls st h r idx v w a1 a2 k P hP
    exact hP.1.2.2.2.2.2.2.1 M pc ls st h r idx v w a1 a2 (k P hP)
  · intro M pc ls st h r idx ci j w a fs v a1 a2 a3 a4 k P hP
    exact hP.1.2.2.2.2.2.2.2.1 M pc ls st h r idx ci j w a fs v a1 a2 a3 a4 (k P hP)
  · intro M pc ls st h r idx ci j w a fs v a1 a2 a3 a4 a5 a6 a7 k P hP
    exact hP.1.2.2.2.2.2.2.2.2.1 M pc ls st h r idx ci j w a fs v a1 a2 a3 a4 a5 a6 a7 (k P hP)
  · intro M pc ls st h r a n f i a1 a2 a3 k P hP
    exact hP.1.2.2.2.2.2.2.2.2.2.1 M pc ls st h r a n f i a1 a2 a3 (k P hP)
  · intro M pc ls st h r a n f i a1 a2 a3 k P hP
    exact hP.1.2.2.2.2.2.2.2.2.2.2.1 M pc ls st h r a n f i a1 a2 a3 (k P hP)
  · intro M pc ls st h r a n f i a1 a2 a3 k P hP
    exact hP.1.2.2.2.2.2.2.2.2.2.2.2.1 M pc ls st h r a n f i a1 a2 a3 (k P hP)
  · intro M pc ls st h r a n f i x a1 a2 a3 k P hP
    exact hP.1.2.2.2.2.2.2.2.2.2.2.2.2.1 M pc ls st h r a n f i x a1 a2 a3 (k P hP)
  · intro M pc ls st h r a n f i x a1 a2 a3 k P hP
    exact hP.1.2.2.2.2.2.2.2.2.2.2.2.2.2.1 M pc ls st h r a n f i x a1 a2 a3 (k P hP)
  · intro M pc ls st h r a n f i x a1 a2 a3 k P hP
    exact hP.1.2.2.2.2.2.2.2.2.2.2.2.2.2.2.1 M pc ls st h r a n f i x a1 a2 a3 (k P hP)
  · intro M pc ls st h r a ty x a1 a2 a3 k P hP
    exact hP.1.2.2.2.2.2.2.2.2.2.2.2.2.2.2.2.1 M pc ls st h r a ty x a1 a2 a3 (k P hP)
  · intro M pc ls st h r i a1 a2 k P hP
    exact hP.1.2.2.2.2.2.2.2.2.2.2.2.2.2.2.2.2.1 M pc ls st h r i a1 a2 (k P hP)
  · intro M pc ls st h r a1 k P hP
    exact hP.1.2.2.2.2.2.2.2.2.2.2.2.2.2.2.2.2.2.1 M pc ls st h r a1 (k P hP)
  · intro M pc ls st h r at_ ty n N a1 a2 a3 a4 a5 a6 k P hP
    exact hP.1.2.2.2.2.2.2.2.2.2.2.2.2.2.2.2.2.2.2.1 M pc ls st h r at_ ty n N a1 a2 a3 a4 a5 a6 (k P hP)
  · intro M pc ls st h r idx ci w1 w2 w3 a1 a2 k P hP
    exact hP.1.2.2.2.2.2.2.2.2.2.2.2.2.2.2.2.2.2.2.2.1 M pc ls st h r idx ci w1 w2 w3 a1 a2 (k P hP)
  · intro M pc ls h v ty a1 a2 a3  P hP
    exact hP.1.2.2.2.2.2.2.2.2.2.2.2.2.2.2.2.2.2.2.2.2.1 M pc ls h v ty a1 a2 a3 
  · intro M pc ls h v a1 a2  P hP
    exact hP.1.2.2.2.2.2.2.2.2.2.2.2.2.2.2.2.2.2.2.2.2.2.1 M pc ls h v a1 a2 
  · intro M pc ls h a1 a2  P hP
    exact hP.1.2.2.2.2.2.2.2.2.2.2.2.2.2.2.2.2.2.2.2.2.2.2.1 M pc ls h a1 a2 
  · intro M pc ls st h r idx w a a1 a2 a3 a4 k P hP
    exact hP.1.2.2.2.2.2.2.2.2.2.2.2.2.2.2.2.2.2.2.2.2.2.2.2.1 M pc ls st h r idx w a a1 a2 a3 a4 (k P hP)
  · intro M pc ls st st0 h h' r idx N kind w1 w2 w3 w4 w5 a ci fs As v a1 a2 a3 a4 a5 a6 a7 a8 a9 k0 k P hP
    exact hP.1.2.2.2.2.2.2.2.2.2.2.2.2.2.2.2.2.2.2.2.2.2.2.2.2.1 M pc ls st st0 h h' r idx N kind w1 w2 w3 w4 w5 a ci fs As v a1 a2 a3 a4 a5 a6 a7 a8 a9 (k0 P hP) (k P hP)
  · intro M pc ls st st0 h h' r idx N kind w1 w2 w3 w4 w5 As v a1 a2 a3 a4 a5 a6 a7 k0 k P hP
    exact hP.1.2.2.2.2.2.2.2.2.2.2.2.2.2.2.2.2.2.2.2.2.2.2.2.2.2 M pc ls st st0 h h' r idx N kind w1 w2 w3 w4 w5 As v a1 a2 a3 a4 a5 a6 a7 (k0 P hP) (k P hP)
  · intro M pc ls st st0 h h' idx N w1 w2 w3 w4 w5 a ci k fs As a1 a2 a3 a4 a5 a6 a7 a8 a9 k1 P hP
    exact hP.2.1 M pc ls st st0 h h' idx N w1 w2 w3 w4 w5 a ci k fs As a1 a2 a3 a4 a5 a6 a7 a8 a9 (k1.elim (fun q => Or.inl (q P hP)) Or.inr)
  · intro M pc ls st st0 h h' r idx N w1 w2 w3 w4 w5 a ci k cx hp fs As a1 a2 a3 a4 a5 a6 a7 a8 a9 b1 b2 b3 b4 k1 kk P hP
    exact hP.2.2.1 M pc ls st st0 h h' r idx N w1 w2 w3 w4 w5 a ci k cx hp fs As a1 a2 a3 a4 a5 a6 a7 a8 a9 b1 b2 b3 b4 (k1.elim (fun q => Or.inl (q P hP)) Or.inr) (kk P hP)
  · intro M pc ls st st0 h h' r idx N w1 w2 w3 w4 w5 As v a1 a2 a3 a4 a5 a6 k0 k P hP
    exact hP.2.2.2 M pc ls st st0 h h' r idx N w1 w2 w3 w4 w5 As v a1 a2 a3 a4 a5 a6 (k0 P hP) (k P hP)
theorem RunsP.closed : mClosedP RunsP := by
  refine ⟨?_, ?_, ?_, ?_, ?_, ?_, ?_, ?_, ?_, ?_, ?_, ?_, ?_, ?_, ?_, ?_⟩
  · intro M pc ls st h r i len ls' st' a1 a2 a3 k P hP
    exact hP.1 M pc ls st h r i len ls' st' a1 a2 a3 (k P hP)
  · intro M pc ls st h r i off st' tgt a1 a2 a3 k P hP
    exact hP.2.1 M pc ls st h r i off st' tgt a1 a2 a3 (k P hP)
  · intro M pc ls st h r i st' a1 a2 a3 k P hP
    exact hP.2.2.1 M pc ls st h r i st' a1 a2 a3 (k P hP)
  · intro M pc ls st h r idx v w a1 a2 k P hP
    exact hP.2.2.2.1 M pc ls st h r idx v w a1 a2 (k P hP)
  · intro M pc ls st h r idx v w a1 a2 k P hP
    exact hP.2.2.2.2.1 M pc ls st h r idx v w a1 a2 (k P hP)
  · intro M pc ls st h r idx ci j w a fs v a1 a2 a3 a4 k P hP
    exact hP.2.2.2.2.2.1 M pc ls st h r idx ci j w a fs v a1 a2 a3 a4 (k P hP)
  · intro M pc ls st h r a n f i a1 a2 a3 k P hP
    exact hP.2.2.2.2.2.2.1 M pc ls st h r a n f i a1 a2 a3 (k P hP)
  · intro M pc ls st h r a n f i a1 a2 a3 k P hP
    exact hP.2.2.2.2.2.2.2.1 M pc ls st h r a n f i a1 a2 a3 (k P hP)
  · intro M pc ls st h r a n f i a1 a2 a3 k P hP
    exact hP.2.2.2.2.2.2.2.2.1 M pc ls st h r a n f i a1 a2 a3 (k P hP)
  · intro M pc ls st h r a ty x a1 a2 a3 k P hP
    exact hP.2.2.2.2.2.2.2.2.2.1 M pc ls st h r a ty x a1 a2 a3 (k P hP)
  · intro M pc ls h v ty a1 a2 a3  P hP
    exact hP.2.2.2.2.2.2.2.2.2.2.1 M pc ls h v ty a1 a2 a3 
  · intro M pc ls h v a1 a2  P hP
    exact hP.2.2.2.2.2.2.2.2.2.2.2.1 M pc ls h v a1 a2 
  · intro M pc ls h a1 a2  P hP
    exact hP.2.2.2.2.2.2.2.2.2.2.2.2.1 M pc ls h a1 a2 
  · intro M pc ls st st0 h r idx N kind w1 w2 w3 w4 w5 a ci fs As v a1 a2 a3 a4 a5 a6 a7 a8 a9 k0 k P hP
    exact hP.2.2.2.2.2.2.2.2.2.2.2.2.2.1 M pc ls st st0 h r idx N kind w1 w2 w3 w4 w5 a ci fs As v a1 a2 a3 a4 a5 a6 a7 a8 a9 (k0 P hP) (k P hP)
  · intro M pc ls st st0 h r idx N kind w1 w2 w3 w4 w5 As v a1 a2 a3 a4 a5 a6 a7 k0 k P hP
    exact hP.2.2.2.2.2.2.2.2.2.2.2.2.2.2.1 M pc ls st st0 h r idx N kind w1 w2 w3 w4 w5 As v a1 a2 a3 a4 a5 a6 a7 (k0 P hP) (k P hP)
  · intro M pc ls st h idx is ic ci q a1 a2 a3 a4 a5 a6 a7 a8 a9 b1 P hP
    exact hP.2.2.2.2.2.2.2.2.2.2.2.2.2.2.2 M pc ls st h idx is ic ci q a1 a2 a3 a4 a5 a6 a7 a8 a9 b1
/-- a run that writes nothing and returns is a run -/
theorem RunsP.run {S : mE} {M : Nat} {f : mF} {v : Option Value} {h : mHp} (k : RunsP M f (.inl v, h)) : Run S M f (.inl v, h) := by
  have key := k (fun M f r => (∃ v, r.1 = .inl v) → Run S M f r) ?_
  · exact key ⟨v, rfl⟩
  have C := Run.closed S
  refine ⟨?_, ?_, ?_, ?_, ?_, ?_, ?_, ?_, ?_, ?_, ?_, ?_, ?_, ?_, ?_, ?_⟩
  · intro M pc ls st h r i len ls' st' a1 a2 a3 k hv
    exact C.1.1 M pc ls st h r i len ls' st' a1 a2 a3 (k hv)
  · intro M pc ls st h r i off st' tgt a1 a2 a3 k hv
    exact C.1.2.1 M pc ls st h r i off st' tgt a1 a2 a3 (k hv)
  · intro M pc ls st h r i st' a1 a2 a3 k hv
    exact C.1.2.2.1 M pc ls st h r i st' a1 a2 a3 (k hv)
  · intro M pc ls st h r idx v w a1 a2 k hv
    exact C.1.2.2.2.2.2.1 M pc ls st h r idx v w a1 a2 (k hv)
  · intro M pc ls st h r idx v w a1 a2 k hv
    exact C.1.2.2.2.2.2.2.1 M pc ls st h r idx v w a1 a2 (k hv)
  · intro M pc ls st h r idx ci j w a fs v a1 a2 a3 a4 k hv
    exact C.1.2.2.2.2.2.2.2.1 M pc ls st h r idx ci j w a fs v a1 a2 a3 a4 (k hv)
  · intro M pc ls st h r a n f i a1 a2 a3 k hv
    exact C.1.2.2.2.2.2.2.2.2.2.1 M pc ls st h r a n f i a1 a2 a3 (k hv)
  · intro M pc ls st h r a n f i a1 a2 a3 k hv
    exact C.1.2.2.2.2.2.2.2.2.2.2.1 M pc ls st h r a n f i a1 a2 a3 (k hv)
  · intro M pc ls st h r a n f i a1 a2 a3 k hv
    exact C.1.2.2.2.2.2.2.2.2.2.2.2.1 M pc ls st h r a n f i a1 a2 a3 (k hv)
  · intro M pc ls st h r a ty x a1 a2 a3 k hv
    exact C.1.2.2.2.2.2.2.2.2.2.2.2.2.2.2.2.1 M pc ls st h r a ty x a1 a2 a3 (k hv)
  · intro M pc ls h v ty a1 a2 a3  hv
    exact C.1.2.2.2.2.2.2.2.2.2.2.2.2.2.2.2.2.2.2.2.2.1 M pc ls h v ty a1 a2 a3 
  · intro M pc ls h v a1 a2  hv
    exact C.1.2.2.2.2.2.2.2.2.2.2.2.2.2.2.2.2.2.2.2.2.2.1 M pc ls h v a1 a2 
  · intro M pc ls h a1 a2  hv
    exact C.1.2.2.2.2.2.2.2.2.2.2.2.2.2.2.2.2.2.2.2.2.2.2.1 M pc ls h a1 a2 
  · intro M pc ls st st0 h r idx N kind w1 w2 w3 w4 w5 a ci fs As v a1 a2 a3 a4 a5 a6 a7 a8 a9 k0 k hv
    exact C.1.2.2.2.2.2.2.2.2.2.2.2.2.2.2.2.2.2.2.2.2.2.2.2.2.1 M pc ls st st0 h h r idx N kind w1 w2 w3 w4 w5 a ci fs As v a1 a2 a3 a4 a5 a6 a7 a8 a9 (k0 ⟨v, rfl⟩) (k hv)
  · intro M pc ls st st0 h r idx N kind w1 w2 w3 w4 w5 As v a1 a2 a3 a4 a5 a6 a7 k0 k hv
    exact C.1.2.2.2.2.2.2.2.2.2.2.2.2.2.2.2.2.2.2.2.2.2.2.2.2.2 M pc ls st st0 h h r idx N kind w1 w2 w3 w4 w5 As v a1 a2 a3 a4 a5 a6 a7 (k0 ⟨v, rfl⟩) (k hv)
  · intro M pc ls st h idx is ic ci q a1 a2 a3 a4 a5 a6 a7 a8 a9 b1 hv
    obtain ⟨v, hv⟩ := hv
    cases hv
end
section
/-! the rules as rows -/
section Rows
variable {S : mE} {M pc : Nat} {ls : mL} {st : List Value} {h : mHp} {r : mR}
theorem R_p {i : Instr} {len : Nat} {ls' : mL} {st' : List Value} (hd : decode (mCode M) pc = .ok (i, len)) (hn : mlen i = len) (hp : mpure (mMaxL M) i ls st = some (ls', st')) (k : Run S M (pc + len, ls', st', h) r) : Run S M (pc, ls, st, h) r := (Run.closed S).1.1 _ _ _ _ _ _ _ _ _ _ hd hn hp k
theorem R_br {i : Instr} {off : Int} {st' : List Value} (tgt : Nat) (hd : decode (mCode M) pc = .ok (i, 3)) (hp : mbr i st = some (some off, st')) (ht : (pc : Int) + off = (tgt : Int)) (k : Run S M (tgt, ls, st', h) r) : Run S M (pc, ls, st, h) r := (Run.closed S).1.2.1 _ _ _ _ _ _ _ _ _ _ hd hp ht k
theorem R_nb {i : Instr} {st' : List Value} (hd : decode (mCode M) pc = .ok (i, 3)) (hnn : mnn pc i = true) (hp : mbr i st = some (none, st')) (k : Run S M (pc + 3, ls, st', h) r) : Run S M (pc, ls, st, h) r := (Run.closed S).1.2.2.1 _ _ _ _ _ _ _ _ hd hnn hp k
theorem R_swo {dflt lo hi : Int} {offs : Array Int} {len : Nat} {x : Int32} (tgt : Nat) (hd : decode (mCode M) pc = .ok (.tableswitch dflt lo hi offs, len)) (ho : x.toInt < lo ∨ hi < x.toInt) (ht : (pc : Int) + dflt = (tgt : Int)) (k : Run S M (tgt, ls, st, h) r) : Run S M (pc, ls, .int x :: st, h) r := (Run.closed S).1.2.2.2.1 _ _ _ _ _ _ _ _ _ _ _ _ _ hd ho ht k
theorem R_swi {dflt lo hi : Int} {offs : Array Int} {len : Nat} {x : Int32} {off : Int} (tgt : Nat) (hd : decode (mCode M) pc = .ok (.tableswitch dflt lo hi offs, len)) (h1 : ¬ x.toInt < lo) (h2 : ¬ hi < x.toInt) (ho : offs[(x.toInt - lo).toNat]? = some off) (ht : (pc : Int) + off = (tgt : Int)) (k : Run S M (tgt, ls, st, h) r) : Run S M (pc, ls, .int x :: st, h) r := (Run.closed S).1.2.2.2.2.1 _ _ _ _ _ _ _ _ _ _ _ _ _ _ hd h1 h2 ho ht k
theorem R_ci {idx : Nat} {v : Int32} (w : Nat) (hd : decode (mCode M) pc = .ok (.ldc idx, 2)) (hf : (mOwn M, idx, v, w) ∈ mCiT) (k : Run S M (pc + 2, ls, .int v :: st, h) r) : Run S M (pc, ls, st, h) r := (Run.closed S).1.2.2.2.2.2.1 _ _ _ _ _ _ _ _ _ hd hf k
theorem R_cl {idx : Nat} {v : Int64} (w : Nat) (hd : decode (mCode M) pc = .ok (.ldc2_w idx, 3)) (hf : (mOwn M, idx, v, w) ∈ mClT) (k : Run S M (pc + 3, ls, .long v :: st, h) r) : Run S M (pc, ls, st, h) r := (Run.closed S).1.2.2.2.2.2.2.1 _ _ _ _ _ _ _ _ _ hd hf k
theorem R_get {idx ci j w a : Nat} {fs : List Value} {v : Value} (hd : decode (mCode M) pc = .ok (.getfield idx, 3)) (hf : (mOwn M, idx, ci, j, w) ∈ mFldT ∨ (mOwn M, idx, ci, j, w) ∈ mFldNT) (hg : mget h a = some (.inr (ci, fs))) (hv : fs[j]? = some v) (k : Run S M (pc + 3, ls, v :: st, h) r) : Run S M (pc, ls, .ref a :: st, h) r := (Run.closed S).1.2.2.2.2.2.2.2.1 _ _ _ _ _ _ _ _ _ _ _ _ _ hd hf hg hv k
theorem R_put {idx ci j w a : Nat} {fs : List Value} {v : Value} (hd : decode (mCode M) pc = .ok (.putfield idx, 3)) (hf : (mOwn M, idx, ci, j, w) ∈ mFldT) (hg : mget h a = some (.inr (ci, fs))) (hl : j < fs.length) (hn : narrow (mty ci j) v = v) (hft : fits (mty ci j) v = true) (hfin : mfin ci j = false ∨ ((mName M).name = "<init>" ∧ mOwn M = ci)) (k : Run S M (pc + 3, ls, st, mput h a (.inr (ci, fs.set j v))) r) : Run S M (pc, ls, v :: .ref a :: st, h) r := (Run.closed S).1.2.2.2.2.2.2.2.2.1 _ _ _ _ _ _ _ _ _ _ _ _ _ hd hf hg hl hn hft hfin k
theorem R_ild {a n : Nat} {f : Nat → Int32} {i : Int32} (hd : decode (mCode M) pc = .ok (.iaload, 1)) (hg : mget h a = some (.inl (.int, n, .inl f))) (hin : vp_in i n) (k : Run S M (pc + 1, ls, .int (f i.toNatClampNeg) :: st, h) r) : Run S M (pc, ls, .int i :: .ref a :: st, h) r := (Run.closed S).1.2.2.2.2.2.2.2.2.2.1 _ _ _ _ _ _ _ _ _ _ hd hg hin k
theorem R_zld {a n : Nat} {f : Nat → Int32} {i : Int32} (hd : decode (mCode M) pc = .ok (.baload, 1)) (hg : mget h a = some (.inl (.boolean, n, .inl f))) (hin : vp_in i n) (k : Run S M (pc + 1, ls, .int (f i.toNatClampNeg) :: st, h) r) : Run S M (pc, ls, .int i :: .ref a :: st, h) r := (Run.closed S).1.2.2.2.2.2.2.2.2.2.2.1 _ _ _ _ _ _ _ _ _ _ hd hg hin k
theorem R_lld {a n : Nat} {f : Nat → Int64} {i : Int32} (hd : decode (mCode M) pc = .ok (.laload, 1)) (hg : mget h a = some (.inl (.long, n, .inr (.inl f)))) (hin : vp_in i n) (k : Run S M (pc + 1, ls, .long (f i.toNatClampNeg) :: st, h) r) : Run S M (pc, ls, .int i :: .ref a :: st, h) r := (Run.closed S).1.2.2.2.2.2.2.2.2.2.2.2.1 _ _ _ _ _ _ _ _ _ _ hd hg hin k
theorem R_ist {a n : Nat} {f : Nat → Int32} {i x : Int32} (hd : decode (mCode M) pc = .ok (.iastore, 1)) (hg : mget h a = some (.inl (.int, n, .inl f))) (hin : vp_in i n) (k : Run S M (pc + 1, ls, st, mput h a (.inl (.int, n, .inl (upd f i.toNatClampNeg x)))) r) : Run S M (pc, ls, .int x :: .int i :: .ref a :: st, h) r := (Run.closed S).1.2.2.2.2.2.2.2.2.2.2.2.2.1 _ _ _ _ _ _ _ _ _ _ _ hd hg hin k
theorem R_zst {a n : Nat} {f : Nat → Int32} {i x : Int32} (hd : decode (mCode M) pc = .ok (.bastore, 1)) (hg : mget h a = some (.inl (.boolean, n, .inl f))) (hin : vp_in i n) (k : Run S M (pc + 1, ls, st, mput h a (.inl (.boolean, n, .inl (upd f i.toNatClampNeg (vp_nar .boolean x))))) r) : Run S M (pc, ls, .int x :: .int i :: .ref a :: st, h) r := (Run.closed S).1.2.2.2.2.2.2.2.2.2.2.2.2.2.1 _ _ _ _ _ _ _ _ _ _ _ hd hg hin k
theorem R_lst {a n : Nat} {f : Nat → Int64} {i : Int32} {x : Int64} (hd : decode (mCode M) pc = .ok (.lastore, 1)) (hg : mget h a = some (.inl (.long, n, .inr (.inl f)))) (hin : vp_in i n) (k : Run S M (pc + 1, ls, st, mput h a (.inl (.long, n, .inr (.inl (vp_updL f i.toNatClampNeg x))))) r) : Run S M (pc, ls, .long x :: .int i :: .ref a :: st, h) r := (Run.closed S).1.2.2.2.2.2.2.2.2.2.2.2.2.2.2.1 _ _ _ _ _ _ _ _ _ _ _ hd hg hin k
theorem R_len {a : Nat} {ty : FieldType} {x : vp_A} (hd : decode (mCode M) pc = .ok (.arraylength, 1)) (hg : mget h a = some (.inl (ty, x))) (hty : mprim ty = true) (k : Run S M (pc + 1, ls, .int (Int32.ofNat x.1) :: st, h) r) : Run S M (pc, ls, .ref a :: st, h) r := (Run.closed S).1.2.2.2.2.2.2.2.2.2.2.2.2.2.2.2.1 _ _ _ _ _ _ _ _ _ hd hg hty k
theorem R_sld {i : Int32} (hd : decode (mCode M) pc = .ok (.iaload, 1)) (hin : vp_in i S.1) (k : Run S M (pc + 1, ls, .int (S.2 i.toNatClampNeg) :: st, h) r) : Run S M (pc, ls, .int i :: .ref 0 :: st, h) r := (Run.closed S).1.2.2.2.2.2.2.2.2.2.2.2.2.2.2.2.2.1 _ _ _ _ _ _ _ hd hin k
theorem R_sln (hd : decode (mCode M) pc = .ok (.arraylength, 1)) (k : Run S M (pc + 1, ls, .int (Int32.ofNat S.1) :: st, h) r) : Run S M (pc, ls, .ref 0 :: st, h) r := (Run.closed S).1.2.2.2.2.2.2.2.2.2.2.2.2.2.2.2.2.2.1 _ _ _ _ _ _ hd k
theorem R_newa {at_ : ArrayType} {ty : FieldType} {n : Int32} {N : Nat} (hd : decode (mCode M) pc = .ok (.newarray at_, 2)) (hat : newarray.typeOf at_ = ty) (hty : mprim ty = true) (hn : ¬ n < 0) (hN : n.toNatClampNeg = N) (hNb : N ≤ 10000) (k : Run S M (pc + 2, ls, .ref (h.length + 16) :: st, h ++ [.inl (ty, mzero ty N)]) r) : Run S M (pc, ls, .int n :: st, h) r := (Run.closed S).1.2.2.2.2.2.2.2.2.2.2.2.2.2.2.2.2.2.2.1 _ _ _ _ _ _ _ _ _ _ hd hat hty hn hN hNb k
theorem R_new {idx ci w1 w2 w3 : Nat} (hd : decode (mCode M) pc = .ok (.new idx, 3)) (hf : (mOwn M, idx, ci, w1, w2, w3) ∈ mNewT) (k : Run S M (pc + 3, ls, .ref (h.length + 16) :: st, h ++ [.inr (ci, mdef ci)]) r) : Run S M (pc, ls, st, h) r := (Run.closed S).1.2.2.2.2.2.2.2.2.2.2.2.2.2.2.2.2.2.2.2.1 _ _ _ _ _ _ _ _ _ _ _ hd hf k
theorem R_iret {v : Int32} {h' : mHp} {ty : FieldType} (hd : decode (mCode M) pc = .ok (.ireturn, 1)) (hr : mRet M = some ty) (hn : narrow ty (.int v) = .int v) (hh : h = h') : Run S M (pc, ls, [.int v], h) (.inl (some (.int v)), h') := hh ▸ (Run.closed S).1.2.2.2.2.2.2.2.2.2.2.2.2.2.2.2.2.2.2.2.2.1 _ _ _ _ _ _ hd hr hn
theorem R_lret {v : Int64} {h' : mHp} (hd : decode (mCode M) pc = .ok (.lreturn, 1)) (hr : mRet M = some .long) (hh : h = h') : Run S M (pc, ls, [.long v], h) (.inl (some (.long v)), h') := hh ▸ (Run.closed S).1.2.2.2.2.2.2.2.2.2.2.2.2.2.2.2.2.2.2.2.2.2.1 _ _ _ _ _ hd hr
theorem R_vret {h' : mHp} (hd : decode (mCode M) pc = .ok (.return_, 1)) (hr : mRet M = none) (hh : h = h') : Run S M (pc, ls, [], h) (.inl none, h') := hh ▸ (Run.closed S).1.2.2.2.2.2.2.2.2.2.2.2.2.2.2.2.2.2.2.2.2.2.2.1 _ _ _ _ hd hr
theorem R_obj {idx w a : Nat} (hd : decode (mCode M) pc = .ok (.invokespecial idx, 3)) (hf : (mOwn M, idx, w) ∈ mObjT) (h1 : 1 ≤ mFr M) (h2 : mcats st + 12 ≤ mLo M) (k : Run S M (pc + 3, ls, st, h) r) : Run S M (pc, ls, .ref a :: st, h) r := (Run.closed S).1.2.2.2.2.2.2.2.2.2.2.2.2.2.2.2.2.2.2.2.2.2.2.2.1 _ _ _ _ _ _ _ _ _ hd hf h1 h2 k
theorem R_cv {st0 : List Value} {h' : mHp} {idx N kind w1 w2 w3 w4 w5 a ci : Nat} {fs : List Value} {v : Option Value} (As : List Value) (hd : decode (mCode M) pc = .ok ((if kind % 3 = 2 then .invokespecial idx else .invokevirtual idx), 3)) (hf : (mOwn M, idx, N, kind, w1, w2, w3, w4, w5) ∈ mLnkT) (hkd : kind % 3 = 2 ∨ kind % 3 = 0) (hrm : mroom M N st) (hst : st0 = As.reverse ++ .ref a :: st) (har : As.length = mAr N) (hcw : mcats (.ref a :: As) ≤ mMaxL N) (hg : mget h a = some (.inr (ci, fs))) (hci : mOwn N = ci) (k0 : Run S N (0, lv_args 0 (.ref a :: As), [], h) (.inl v, h')) (k : Run S M (pc + 3, ls, v.toList ++ st, h') r) : Run S M (pc, ls, st0, h) r := (Run.closed S).1.2.2.2.2.2.2.2.2.2.2.2.2.2.2.2.2.2.2.2.2.2.2.2.2.1 _ _ _ _ _ _ _ _ _ _ _ _ _ _ _ _ _ _ _ _ _ hd hf hkd hrm hst har hcw hg hci k0 k
theorem R_cs {st0 : List Value} {h' : mHp} {idx N kind w1 w2 w3 w4 w5 : Nat} {v : Option Value} (As : List Value) (hd : decode (mCode M) pc = .ok (.invokestatic idx, 3)) (hf : (mOwn M, idx, N, kind, w1, w2, w3, w4, w5) ∈ mLnkT) (hkd : kind % 3 = 1) (hrm : mroom M N st) (hst : st0 = As.reverse ++ st) (har : As.length = mAr N) (hcw : mcats As ≤ mMaxL N) (k0 : Run S N (0, lv_args 0 As, [], h) (.inl v, h')) (k : Run S M (pc + 3, ls, v.toList ++ st, h') r) : Run S M (pc, ls, st0, h) r := (Run.closed S).1.2.2.2.2.2.2.2.2.2.2.2.2.2.2.2.2.2.2.2.2.2.2.2.2.2 _ _ _ _ _ _ _ _ _ _ _ _ _ _ _ _ _ _ hd hf hkd hrm hst har hcw k0 k
theorem R_tv {st0 : List Value} {h' : mHp} {idx N w1 w2 w3 w4 w5 a ci x : Nat} {fs : List Value} (As : List Value) (hd : decode (mCode M) pc = .ok (.invokevirtual idx, 3)) (hf : (mOwn M, idx, N, 0, w1, w2, w3, w4, w5) ∈ mLnkT) (hrm : mrm M N st) (hst : st0 = As.reverse ++ .ref a :: st) (har : As.length = mAr N) (hcw : mcats (.ref a :: As) ≤ mMaxL N) (hg : mget h a = some (.inr (ci, fs))) (hci : mOwn N = ci) (hhd : mHand M = []) (k : Run S N (0, lv_args 0 (.ref a :: As), [], h) (.inr x, h') ∨ RunsP N (0, lv_args 0 (.ref a :: As), [], h) (.inr x, h')) : Run S M (pc, ls, st0, h) (.inr x, h') := (Run.closed S).2.1 _ _ _ _ _ _ _ _ _ _ _ _ _ _ _ _ _ _ _ hd hf hrm hst har hcw hg hci hhd k
theorem R_tc {st0 : List Value} {h' : mHp} {idx N w1 w2 w3 w4 w5 a ci x cx hp : Nat} {fs : List Value} (As : List Value) (hd : decode (mCode M) pc = .ok (.invokevirtual idx, 3)) (hf : (mOwn M, idx, N, 0, w1, w2, w3, w4, w5) ∈ mLnkT) (hrm : mrm M N st) (hst : st0 = As.reverse ++ .ref a :: st) (har : As.length = mAr N) (hcw : mcats (.ref a :: As) ≤ mMaxL N) (hg : mget h a = some (.inr (ci, fs))) (hci : mOwn N = ci) (hM : mOwn M = 13) (hgx : mget h' x = some (.inr (cx, []))) (hcx : cx = 10 ∨ cx = 11 ∨ cx = 12) (hall : ∀ q ∈ mHand M, q.2.2.2 = 13 ∨ q.2.2.2 = 15 ∨ q.2.2.2 = 27) (hfd : mfind (mHand M) pc cx = some hp) (k1 : Run S N (0, lv_args 0 (.ref a :: As), [], h) (.inr x, h') ∨ RunsP N (0, lv_args 0 (.ref a :: As), [], h) (.inr x, h')) (k : Run S M (hp, ls, [.ref x], h') r) : Run S M (pc, ls, st0, h) r := (Run.closed S).2.2.1 _ _ _ _ _ _ _ _ _ _ _ _ _ _ _ _ _ _ _ _ _ _ hd hf hrm hst har hcw hg hci hM hgx hcx hall hfd k1 k
theorem R_hs {st0 : List Value} {h' : mHp} {idx N w1 w2 w3 w4 w5 : Nat} {v : Option Value} (As : List Value) (hd : decode (mCode M) pc = .ok (.invokestatic idx, 3)) (hf : (mOwn M, idx, N, 1, w1, w2, w3, w4, w5) ∈ mLnkT) (hrm : mrm M N st) (hst : st0 = As.reverse ++ st) (har : As.length = mAr N) (hcw : mcats As ≤ mMaxL N) (k0 : Run S N (0, lv_args 0 As, [], h) (.inl v, h')) (k : Run S M (pc + 3, ls, v.toList ++ st, h') r) : Run S M (pc, ls, st0, h) r := (Run.closed S).2.2.2 _ _ _ _ _ _ _ _ _ _ _ _ _ _ _ _ _ hd hf hrm hst har hcw k0 k
theorem R_h (h' : mHp) (e : h = h') (k : Run S M (pc, ls, st, h') r) : Run S M (pc, ls, st, h) r := e ▸ k
-- runs that write nothing
theorem Q_p {i : Instr} {len : Nat} {ls' : mL} {st' : List Value} (hd : decode (mCode M) pc = .ok (i, len)) (hn : mlen i = len) (hp : mpure (mMaxL M) i ls st = some (ls', st')) (k : RunsP M (pc + len, ls', st', h) r) : RunsP M (pc, ls, st, h) r := RunsP.closed.1 _ _ _ _ _ _ _ _ _ _ hd hn hp k
theorem Q_br {i : Instr} {off : Int} {st' : List Value} (tgt : Nat) (hd : decode (mCode M) pc = .ok (i, 3)) (hp : mbr i st = some (some off, st')) (ht : (pc : Int) + off = (tgt : Int)) (k : RunsP M (tgt, ls, st', h) r) : RunsP M (pc, ls, st, h) r := RunsP.closed.2.1 _ _ _ _ _ _ _ _ _ _ hd hp ht k
theorem Q_nb {i : Instr} {st' : List Value} (hd : decode (mCode M) pc = .ok (i, 3)) (hnn : mnn pc i = true) (hp : mbr i st = some (none, st')) (k : RunsP M (pc + 3, ls, st', h) r) : RunsP M (pc, ls, st, h) r := RunsP.closed.2.2.1 _ _ _ _ _ _ _ _ hd hnn hp k
theorem Q_ci {idx : Nat} {v : Int32} (w : Nat) (hd : decode (mCode M) pc = .ok (.ldc idx, 2)) (hf : (mOwn M, idx, v, w) ∈ mCiT) (k : RunsP M (pc + 2, ls, .int v :: st, h) r) : RunsP M (pc, ls, st, h) r := RunsP.closed.2.2.2.1 _ _ _ _ _ _ _ _ _ hd hf k
theorem Q_cl {idx : Nat} {v : Int64} (w : Nat) (hd : decode (mCode M) pc = .ok (.ldc2_w idx, 3)) (hf : (mOwn M, idx, v, w) ∈ mClT) (k : RunsP M (pc + 3, ls, .long v :: st, h) r) : RunsP M (pc, ls, st, h) r := RunsP.closed.2.2.2.2.1 _ _ _ _ _ _ _ _ _ hd hf k
theorem Q_get {idx ci j w a : Nat} {fs : List Value} {v : Value} (hd : decode (mCode M) pc = .ok (.getfield idx, 3)) (hf : (mOwn M, idx, ci, j, w) ∈ mFldT ∨ (mOwn M, idx, ci, j, w) ∈ mFldNT) (hg : mget h a = some (.inr (ci, fs))) (hv : fs[j]? = some v) (k : RunsP M (pc + 3, ls, v :: st, h) r) : RunsP M (pc, ls, .ref a :: st, h) r := RunsP.closed.2.2.2.2.2.1 _ _ _ _ _ _ _ _ _ _ _ _ _ hd hf hg hv k
theorem Q_ild {a n : Nat} {f : Nat → Int32} {i : Int32} (hd : decode (mCode M) pc = .ok (.iaload, 1)) (hg : mget h a = some (.inl (.int, n, .inl f))) (hin : vp_in i n) (k : RunsP M (pc + 1, ls, .int (f i.toNatClampNeg) :: st, h) r) : RunsP M (pc, ls, .int i :: .ref a :: st, h) r := RunsP.closed.2.2.2.2.2.2.1 _ _ _ _ _ _ _ _ _ _ hd hg hin k
theorem Q_zld {a n : Nat} {f : Nat → Int32} {i : Int32} (hd : decode (mCode M) pc = .ok (.baload, 1)) (hg : mget h a = some (.inl (.boolean, n, .inl f))) (hin : vp_in i n) (k : RunsP M (pc + 1, ls, .int (f i.toNatClampNeg) :: st, h) r) : RunsP M (pc, ls, .int i :: .ref a :: st, h) r := RunsP.closed.2.2.2.2.2.2.2.1 _ _ _ _ _ _ _ _ _ _ hd hg hin k
theorem Q_lld {a n : Nat} {f : Nat → Int64} {i : Int32} (hd : decode (mCode M) pc = .ok (.laload, 1)) (hg : mget h a = some (.inl (.long, n, .inr (.inl f)))) (hin : vp_in i n) (k : RunsP M (pc + 1, ls, .long (f i.toNatClampNeg) :: st, h) r) : RunsP M (pc, ls, .int i :: .ref a :: st, h) r := RunsP.closed.2.2.2.2.2.2.2.2.1 _ _ _ _ _ _ _ _ _ _ hd hg hin k
theorem Q_iret {v : Int32} {ty : FieldType} (hd : decode (mCode M) pc = .ok (.ireturn, 1)) (hr : mRet M = some ty) (hn : narrow ty (.int v) = .int v) : RunsP M (pc, ls, [.int v], h) (.inl (some (.int v)), h) := RunsP.closed.2.2.2.2.2.2.2.2.2.2.1 _ _ _ _ _ _ hd hr hn
theorem Q_lret {v : Int64} (hd : decode (mCode M) pc = .ok (.lreturn, 1)) (hr : mRet M = some .long) : RunsP M (pc, ls, [.long v], h) (.inl (some (.long v)), h) := RunsP.closed.2.2.2.2.2.2.2.2.2.2.2.1 _ _ _ _ _ hd hr
theorem Q_vret (hd : decode (mCode M) pc = .ok (.return_, 1)) (hr : mRet M = none) : RunsP M (pc, ls, [], h) (.inl none, h) := RunsP.closed.2.2.2.2.2.2.2.2.2.2.2.2.1 _ _ _ _ hd hr
theorem Q_cv {st0 : List Value} {idx N kind w1 w2 w3 w4 w5 a ci : Nat} {fs : List Value} {v : Option Value} (As : List Value) (hd : decode (mCode M) pc = .ok ((if kind % 3 = 2 then .invokespecial idx else .invokevirtual idx), 3)) (hf : (mOwn M, idx, N, kind, w1, w2, w3, w4, w5) ∈ mLnkT) (hkd : kind % 3 = 2 ∨ kind % 3 = 0) (hrm : mroom M N st) (hst : st0 = As.reverse ++ .ref a :: st) (har : As.length = mAr N) (hcw : mcats (.ref a :: As) ≤ mMaxL N) (hg : mget h a = some (.inr (ci, fs))) (hci : mOwn N = ci) (k0 : RunsP N (0, lv_args 0 (.ref a :: As), [], h) (.inl v, h)) (k : RunsP M (pc + 3, ls, v.toList ++ st, h) r) : RunsP M (pc, ls, st0, h) r := RunsP.closed.2.2.2.2.2.2.2.2.2.2.2.2.2.1 _ _ _ _ _ _ _ _ _ _ _ _ _ _ _ _ _ _ _ _ hd hf hkd hrm hst har hcw hg hci k0 k
theorem Q_cs {st0 : List Value} {idx N kind w1 w2 w3 w4 w5 : Nat} {v : Option Value} (As : List Value) (hd : decode (mCode M) pc = .ok (.invokestatic idx, 3)) (hf : (mOwn M, idx, N, kind, w1, w2, w3, w4, w5) ∈ mLnkT) (hkd : kind % 3 = 1) (hrm : mroom M N st) (hst : st0 = As.reverse ++ st) (har : As.length = mAr N) (hcw : mcats As ≤ mMaxL N) (k0 : RunsP N (0, lv_args 0 As, [], h) (.inl v, h)) (k : RunsP M (pc + 3, ls, v.toList ++ st, h) r) : RunsP M (pc, ls, st0, h) r := RunsP.closed.2.2.2.2.2.2.2.2.2.2.2.2.2.2.1 _ _ _ _ _ _ _ _ _ _ _ _ _ _ _ _ _ hd hf hkd hrm hst har hcw k0 k
theorem Q_thr {idx is ic ci : Nat} (q : Nat) (d0 : decode (mCode M) pc = .ok (.new idx, 3)) (d3 : decode (mCode M) (pc + 3) = .ok (.dup, 1)) (d4 : decode (mCode M) (pc + 4) = .ok (.ldc is, 2)) (d6 : decode (mCode M) (pc + 6) = .ok (.invokespecial ic, 3)) (d9 : decode (mCode M) (pc + 9) = .ok (.athrow, 1)) (ho : mOwn M = 8) (hf : (idx, is, ic, ci, q) ∈ mThrT) (hhd : mHand M = []) (hfr : 6 ≤ mFr M) (hlo : mcats st + 82 ≤ mLo M) : RunsP M (pc, ls, st, h) (.inr (h.length + 16), h ++ [.inr (ci, [])]) := RunsP.closed.2.2.2.2.2.2.2.2.2.2.2.2.2.2.2 _ _ _ _ _ _ _ _ _ _ d0 d3 d4 d6 d9 ho hf hhd hfr hlo
end Rows
end
section
/-! the heap of the small machine, loops; Arrays.fill -/
theorem d167_0 : decode (mCode 167) 0 = .ok (.iconst 0, 1) := by decide +kernel
theorem d167_1 : decode (mCode 167) 1 = .ok (.istore_n 2, 1) := by decide +kernel
theorem d167_2 : decode (mCode 167) 2 = .ok (.aload_n 0, 1) := by decide +kernel
theorem d167_3 : decode (mCode 167) 3 = .ok (.arraylength, 1) := by decide +kernel
theorem d167_4 : decode (mCode 167) 4 = .ok (.istore_n 3, 1) := by decide +kernel
theorem d167_5 : decode (mCode 167) 5 = .ok (.iload_n 2, 1) := by decide +kernel
theorem d167_6 : decode (mCode 167) 6 = .ok (.iload_n 3, 1) := by decide +kernel
theorem d167_7 : decode (mCode 167) 7 = .ok (.if_icmp .ge 13, 3) := by decide +kernel
theorem d167_10 : decode (mCode 167) 10 = .ok (.aload_n 0, 1) := by decide +kernel
theorem d167_11 : decode (mCode 167) 11 = .ok (.iload_n 2, 1) := by decide +kernel
theorem d167_12 : decode (mCode 167) 12 = .ok (.iload_n 1, 1) := by decide +kernel
theorem d167_13 : decode (mCode 167) 13 = .ok (.iastore, 1) := by decide +kernel
theorem d167_14 : decode (mCode 167) 14 = .ok (.iinc 2 1, 3) := by decide +kernel
theorem d167_17 : decode (mCode 167) 17 = .ok (.goto (-12), 3) := by decide +kernel
theorem d167_20 : decode (mCode 167) 20 = .ok (.return_, 1) := by decide +kernel
theorem d168_0 : decode (mCode 168) 0 = .ok (.iconst 0, 1) := by decide +kernel
theorem d168_1 : decode (mCode 168) 1 = .ok (.istore_n 3, 1) := by decide +kernel
theorem d168_2 : decode (mCode 168) 2 = .ok (.aload_n 0, 1) := by decide +kernel
theorem d168_3 : decode (mCode 168) 3 = .ok (.arraylength, 1) := by decide +kernel
theorem d168_4 : decode (mCode 168) 4 = .ok (.istore 4, 2) := by decide +kernel
theorem d168_6 : decode (mCode 168) 6 = .ok (.iload_n 3, 1) := by decide +kernel
theorem d168_7 : decode (mCode 168) 7 = .ok (.iload 4, 2) := by decide +kernel
theorem d168_9 : decode (mCode 168) 9 = .ok (.if_icmp .ge 13, 3) := by decide +kernel
theorem d168_12 : decode (mCode 168) 12 = .ok (.aload_n 0, 1) := by decide +kernel
theorem d168_13 : decode (mCode 168) 13 = .ok (.iload_n 3, 1) := by decide +kernel
theorem d168_14 : decode (mCode 168) 14 = .ok (.lload_n 1, 1) := by decide +kernel
theorem d168_15 : decode (mCode 168) 15 = .ok (.lastore, 1) := by decide +kernel
theorem d168_16 : decode (mCode 168) 16 = .ok (.iinc 3 1, 3) := by decide +kernel
theorem d168_19 : decode (mCode 168) 19 = .ok (.goto (-13), 3) := by decide +kernel
theorem d168_22 : decode (mCode 168) 22 = .ok (.return_, 1) := by decide +kernel
theorem mget_eq {h : mHp} {a : Nat} {c0 : mC} (hg : mget h a = some c0) (c : mC) : mget (mput h a c) a = some c := by
  unfold mget at hg ⊢
  by_cases ha : a < 16
  · rw [if_pos ha] at hg; cases hg
  · rw [if_neg ha] at hg ⊢
    have hl := (List.getElem?_eq_some_iff.mp hg).1
    unfold mput
    rw [List.getElem?_set_self hl]
theorem mget_ne {h : mHp} {a b : Nat} {c : mC} (hab : a ≠ b) (ha : 16 ≤ a) : mget (mput h a c) b = mget h b := by
  unfold mget mput
  by_cases hb : b < 16
  · rw [if_pos hb, if_pos hb]
  · rw [if_neg hb, if_neg hb, List.getElem?_set_ne (by omega)]
theorem mput_put (h : mHp) (a : Nat) (c c' : mC) : mput (mput h a c) a c' = mput h a c' := by unfold mput; rw [List.set_set]
theorem mput_self {h : mHp} {a : Nat} {c : mC} (hg : mget h a = some c) : mput h a c = h := by
  unfold mget at hg
  by_cases ha : a < 16
  · rw [if_pos ha] at hg; cases hg
  · rw [if_neg ha] at hg
    obtain ⟨hl, he⟩ := List.getElem?_eq_some_iff.mp hg
    unfold mput
    rw [← he, List.set_getElem_self]
theorem R_e {S : mE} {M : Nat} {f : mF} {r : mR} (f' : mF) (e : f = f') (k : Run S M f' r) : Run S M f r := e ▸ k
theorem R_r {S : mE} {M : Nat} {f : mF} {r : mR} (r' : mR) (e : r' = r) (k : Run S M f r') : Run S M f r := e ▸ k
theorem mb_t {b : Prop} [Decidable b] {off : Int} {t : List Value} (h : b) : mb1 b off t = some (some off, t) := by simp [mb1, h]
theorem mb_f {b : Prop} [Decidable b] {off : Int} {t : List Value} (h : ¬ b) : mb1 b off t = some (none, t) := by simp [mb1, h]
theorem nI_inc (i : Nat) : nI i + Int32.ofInt 1 = nI (i + 1) := nI_1 i
def mfill {α : Type} (n : Nat) (v : α) (f : Nat → α) : Nat → α := fun j => if j < n then v else f j
theorem mfill_0 {α : Type} (v : α) (f : Nat → α) : mfill 0 v f = f := by funext j; simp [mfill]
theorem mfill_s (n : Nat) (v : Int32) (f : Nat → Int32) : upd (mfill n v f) n v = mfill (n + 1) v f := by
  funext j
  simp only [upd, mfill]
  by_cases h : j = n
  · simp [h]
  · by_cases h2 : j < n
    · simp [h, h2, Nat.lt_succ_of_lt h2]
    · simp [h, h2, show ¬ j < n + 1 by omega]
theorem mfill_sL (n : Nat) (v : Int64) (f : Nat → Int64) : vp_updL (mfill n v f) n v = mfill (n + 1) v f := by
  funext j
  simp only [vp_updL, mfill]
  by_cases h : j = n
  · simp [h]
  · by_cases h2 : j < n
    · simp [h, h2, Nat.lt_succ_of_lt h2]
    · simp [h, h2, show ¬ j < n + 1 by omega]
theorem t_fillI_loop {S : mE} {h : mHp} {a n : Nat} {f : Nat → Int32} {v : Int32} (hn : n ≤ 10000) (hg : mget h a = some (.inl (.int, n, .inl f))) : ∀ k i : Nat, i + k = n → Run S 167 (5, [(0, .ref a), (1, .int v), (2, .int (nI i)), (3, .int (nI n))], [], mput h a (.inl (.int, n, .inl (mfill i v f)))) (.inl none, mput h a (.inl (.int, n, .inl (mfill n v f)))) := by
  intro k
  induction k with
  | zero =>
    intro i hi
    have hi : i = n := by omega
    subst hi
    refine R_p d167_5 rfl rfl ?_
    refine R_p d167_6 rfl rfl ?_
    refine R_br 20 d167_7 (mb_t (b := nI i ≤ nI i) (nI_le (Nat.le_refl _) (by omega))) rfl ?_
    exact R_vret d167_20 rfl rfl
  | succ k ih =>
    intro i hi
    refine R_p d167_5 rfl rfl ?_
    refine R_p d167_6 rfl rfl ?_
    refine R_nb d167_7 rfl (mb_f (b := nI n ≤ nI i) (nI_ge (by omega) (by omega))) ?_
    refine R_p d167_10 rfl rfl ?_
    refine R_p d167_11 rfl rfl ?_
    refine R_p d167_12 rfl rfl ?_
    refine R_ist d167_13 (mget_eq hg _) (vp_in_nI (by omega) (by omega)) ?_
    refine R_p d167_14 rfl rfl ?_
    refine R_br 5 d167_17 rfl rfl ?_
    refine R_e (5, [(0, .ref a), (1, .int v), (2, .int (nI (i + 1))), (3, .int (nI n))], [], mput h a (.inl (.int, n, .inl (mfill (i + 1) v f)))) ?_ (ih (i + 1) (by omega))
    rw [mput_put, nI_clamp (by omega), mfill_s, ← nI_inc]
    rfl
theorem t_fillI {S : mE} {h : mHp} {a n : Nat} {f : Nat → Int32} {v : Int32} (hn : n ≤ 10000) (hg : mget h a = some (.inl (.int, n, .inl f))) : Run S 167 (0, [(0, .ref a), (1, .int v)], [], h) (.inl none, mput h a (.inl (.int, n, .inl (mfill n v f)))) := by
  refine R_p d167_0 rfl rfl ?_
  refine R_p d167_1 rfl rfl ?_
  refine R_p d167_2 rfl rfl ?_
  refine R_len d167_3 hg rfl ?_
  refine R_p d167_4 rfl rfl ?_
  refine R_e (5, [(0, .ref a), (1, .int v), (2, .int (nI 0)), (3, .int (nI n))], [], mput h a (.inl (.int, n, .inl (mfill 0 v f)))) ?_ (t_fillI_loop hn hg n 0 (by omega))
  rw [mfill_0, mput_self hg]
  rfl
theorem t_fillL_loop {S : mE} {h : mHp} {a n : Nat} {f : Nat → Int64} {v : Int64} (hn : n ≤ 10000) (hg : mget h a = some (.inl (.long, n, .inr (.inl f)))) : ∀ k i : Nat, i + k = n → Run S 168 (6, [(0, .ref a), (1, .long v), (3, .int (nI i)), (4, .int (nI n))], [], mput h a (.inl (.long, n, .inr (.inl (mfill i v f))))) (.inl none, mput h a (.inl (.long, n, .inr (.inl (mfill n v f))))) := by
  intro k
  induction k with
  | zero =>
    intro i hi
    have hi : i = n := by omega
    subst hi
    refine R_p d168_6 rfl rfl ?_
    refine R_p d168_7 rfl rfl ?_
    refine R_br 22 d168_9 (mb_t (b := nI i ≤ nI i) (nI_le (Nat.le_refl _) (by omega))) rfl ?_
    exact R_vret d168_22 rfl rfl
  | succ k ih =>
    intro i hi
    refine R_p d168_6 rfl rfl ?_
    refine R_p d168_7 rfl rfl ?_
    refine R_nb d168_9 rfl (mb_f (b := nI n ≤ nI i) (nI_ge (by omega) (by omega))) ?_
    refine R_p d168_12 rfl rfl ?_
    refine R_p d168_13 rfl rfl ?_
    refine R_p d168_14 rfl rfl ?_
    refine R_lst d168_15 (mget_eq hg _) (vp_in_nI (by omega) (by omega)) ?_
    refine R_p d168_16 rfl rfl ?_
    refine R_br 6 d168_19 rfl rfl ?_
    refine R_e (6, [(0, .ref a), (1, .long v), (3, .int (nI (i + 1))), (4, .int (nI n))], [], mput h a (.inl (.long, n, .inr (.inl (mfill (i + 1) v f))))) ?_ (ih (i + 1) (by omega))
    rw [mput_put, nI_clamp (by omega), mfill_sL, ← nI_inc]
    rfl
theorem t_fillL {S : mE} {h : mHp} {a n : Nat} {f : Nat → Int64} {v : Int64} (hn : n ≤ 10000) (hg : mget h a = some (.inl (.long, n, .inr (.inl f)))) : Run S 168 (0, [(0, .ref a), (1, .long v)], [], h) (.inl none, mput h a (.inl (.long, n, .inr (.inl (mfill n v f))))) := by
  refine R_p d168_0 rfl rfl ?_
  refine R_p d168_1 rfl rfl ?_
  refine R_p d168_2 rfl rfl ?_
  refine R_len d168_3 hg rfl ?_
  refine R_p d168_4 rfl rfl ?_
  refine R_e (6, [(0, .ref a), (1, .long v), (3, .int (nI 0)), (4, .int (nI n))], [], mput h a (.inl (.long, n, .inr (.inl (mfill 0 v f))))) ?_ (t_fillL_loop hn hg n 0 (by omega))
  rw [mfill_0, mput_self hg]
  rfl
end
section
/-! constants as rows; the constructors, from the empty heap on, by program (wip/gen/c15.py) -/
section Consts
variable {S : mE} {M pc : Nat} {ls : mL} {st : List Value} {h : mHp} {r : mR}
theorem R_ic {n : Int} {v : Int32} (hd : decode (mCode M) pc = .ok (.iconst n, 1)) (hv : Int32.ofInt n = v) (k : Run S M (pc + 1, ls, .int v :: st, h) r) : Run S M (pc, ls, st, h) r := R_p hd rfl (by rw [← hv]; rfl) k
theorem R_bi {n : Int} {v : Int32} (hd : decode (mCode M) pc = .ok (.bipush n, 2)) (hv : (Int8.ofInt n).toInt32 = v) (k : Run S M (pc + 2, ls, .int v :: st, h) r) : Run S M (pc, ls, st, h) r := R_p hd rfl (by rw [← hv]; rfl) k
theorem R_si {n : Int} {v : Int32} (hd : decode (mCode M) pc = .ok (.sipush n, 3)) (hv : (Int16.ofInt n).toInt32 = v) (k : Run S M (pc + 3, ls, .int v :: st, h) r) : Run S M (pc, ls, st, h) r := R_p hd rfl (by rw [← hv]; rfl) k
theorem R_lc {n : Fin 2} {v : Int64} (hd : decode (mCode M) pc = .ok (.lconst n, 1)) (hv : Int64.ofNat n.val = v) (k : Run S M (pc + 1, ls, .long v :: st, h) r) : Run S M (pc, ls, st, h) r := R_p hd rfl (by rw [← hv]; rfl) k
theorem Q_ic {n : Int} {v : Int32} (hd : decode (mCode M) pc = .ok (.iconst n, 1)) (hv : Int32.ofInt n = v) (k : RunsP M (pc + 1, ls, .int v :: st, h) r) : RunsP M (pc, ls, st, h) r := Q_p hd rfl (by rw [← hv]; rfl) k
theorem Q_bi {n : Int} {v : Int32} (hd : decode (mCode M) pc = .ok (.bipush n, 2)) (hv : (Int8.ofInt n).toInt32 = v) (k : RunsP M (pc + 2, ls, .int v :: st, h) r) : RunsP M (pc, ls, st, h) r := Q_p hd rfl (by rw [← hv]; rfl) k
theorem Q_si {n : Int} {v : Int32} (hd : decode (mCode M) pc = .ok (.sipush n, 3)) (hv : (Int16.ofInt n).toInt32 = v) (k : RunsP M (pc + 3, ls, .int v :: st, h) r) : RunsP M (pc, ls, st, h) r := Q_p hd rfl (by rw [← hv]; rfl) k
theorem Q_lc {n : Fin 2} {v : Int64} (hd : decode (mCode M) pc = .ok (.lconst n, 1)) (hv : Int64.ofNat n.val = v) (k : RunsP M (pc + 1, ls, .long v :: st, h) r) : RunsP M (pc, ls, st, h) r := Q_p hd rfl (by rw [← hv]; rfl) k
theorem R_cc {st0 : List Value} {h' : mHp} {idx N kind w1 w2 w3 w4 w5 a ci : Nat} {fs : List Value} {v : Option Value} (As : List Value) (hd : decode (mCode M) pc = .ok (.invokespecial idx, 3)) (hf : (mOwn M, idx, N, kind, w1, w2, w3, w4, w5) ∈ mLnkT) (hkd : kind % 3 = 2) (hrm : mroom M N st) (hst : st0 = As.reverse ++ .ref a :: st) (har : As.length = mAr N) (hcw : mcats (.ref a :: As) ≤ mMaxL N) (hg : mget h a = some (.inr (ci, fs))) (hci : mOwn N = ci) (k0 : Run S N (0, lv_args 0 (.ref a :: As), [], h) (.inl v, h')) (k : Run S M (pc + 3, ls, v.toList ++ st, h') r) : Run S M (pc, ls, st0, h) r := R_cv As (by rw [if_pos hkd]; exact hd) hf (Or.inl hkd) hrm hst har hcw hg hci k0 k
theorem R_cm {st0 : List Value} {h' : mHp} {idx N kind w1 w2 w3 w4 w5 a ci : Nat} {fs : List Value} {v : Option Value} (As : List Value) (hd : decode (mCode M) pc = .ok (.invokevirtual idx, 3)) (hf : (mOwn M, idx, N, kind, w1, w2, w3, w4, w5) ∈ mLnkT) (hkd : kind % 3 = 0) (hrm : mroom M N st) (hst : st0 = As.reverse ++ .ref a :: st) (har : As.length = mAr N) (hcw : mcats (.ref a :: As) ≤ mMaxL N) (hg : mget h a = some (.inr (ci, fs))) (hci : mOwn N = ci) (k0 : Run S N (0, lv_args 0 (.ref a :: As), [], h) (.inl v, h')) (k : Run S M (pc + 3, ls, v.toList ++ st, h') r) : Run S M (pc, ls, st0, h) r := R_cv As (by rw [if_neg (by omega)]; exact hd) hf (Or.inr hkd) hrm hst har hcw hg hci k0 k
theorem Q_cm {st0 : List Value} {idx N kind w1 w2 w3 w4 w5 a ci : Nat} {fs : List Value} {v : Option Value} (As : List Value) (hd : decode (mCode M) pc = .ok (.invokevirtual idx, 3)) (hf : (mOwn M, idx, N, kind, w1, w2, w3, w4, w5) ∈ mLnkT) (hkd : kind % 3 = 0) (hrm : mroom M N st) (hst : st0 = As.reverse ++ .ref a :: st) (har : As.length = mAr N) (hcw : mcats (.ref a :: As) ≤ mMaxL N) (hg : mget h a = some (.inr (ci, fs))) (hci : mOwn N = ci) (k0 : RunsP N (0, lv_args 0 (.ref a :: As), [], h) (.inl v, h)) (k : RunsP M (pc + 3, ls, v.toList ++ st, h) r) : RunsP M (pc, ls, st0, h) r := Q_cv As (by rw [if_neg (by omega)]; exact hd) hf (Or.inr hkd) hrm hst har hcw hg hci k0 k
end Consts
theorem d0_0 : decode (mCode 0) 0 = .ok (.aload_n 0, 1) := by decide +kernel
theorem d0_1 : decode (mCode 0) 1 = .ok (.invokespecial 3, 3) := by decide +kernel
theorem d0_4 : decode (mCode 0) 4 = .ok (.aload_n 0, 1) := by decide +kernel
theorem d0_5 : decode (mCode 0) 5 = .ok (.bipush 77, 2) := by decide +kernel
theorem d0_7 : decode (mCode 0) 7 = .ok (.newarray .int, 2) := by decide +kernel
theorem d0_9 : decode (mCode 0) 9 = .ok (.putfield 9, 3) := by decide +kernel
theorem d0_12 : decode (mCode 0) 12 = .ok (.aload_n 0, 1) := by decide +kernel
theorem d0_13 : decode (mCode 0) 13 = .ok (.iload_n 1, 1) := by decide +kernel
theorem d0_14 : decode (mCode 0) 14 = .ok (.putfield 15, 3) := by decide +kernel
theorem d0_17 : decode (mCode 0) 17 = .ok (.return_, 1) := by decide +kernel
theorem d9_0 : decode (mCode 9) 0 = .ok (.aload_n 0, 1) := by decide +kernel
theorem d9_1 : decode (mCode 9) 1 = .ok (.invokespecial 3, 3) := by decide +kernel
theorem d9_4 : decode (mCode 9) 4 = .ok (.aload_n 0, 1) := by decide +kernel
theorem d9_5 : decode (mCode 9) 5 = .ok (.new 9, 3) := by decide +kernel
theorem d9_8 : decode (mCode 9) 8 = .ok (.dup, 1) := by decide +kernel
theorem d9_9 : decode (mCode 9) 9 = .ok (.iconst 1, 1) := by decide +kernel
theorem d9_10 : decode (mCode 9) 10 = .ok (.invokespecial 11, 3) := by decide +kernel
theorem d9_13 : decode (mCode 9) 13 = .ok (.putfield 14, 3) := by decide +kernel
theorem d9_16 : decode (mCode 9) 16 = .ok (.aload_n 0, 1) := by decide +kernel
theorem d9_17 : decode (mCode 9) 17 = .ok (.new 9, 3) := by decide +kernel
theorem d9_20 : decode (mCode 9) 20 = .ok (.dup, 1) := by decide +kernel
theorem d9_21 : decode (mCode 9) 21 = .ok (.iconst (-1), 1) := by decide +kernel
theorem d9_22 : decode (mCode 9) 22 = .ok (.invokespecial 11, 3) := by decide +kernel
theorem d9_25 : decode (mCode 9) 25 = .ok (.putfield 20, 3) := by decide +kernel
theorem d9_28 : decode (mCode 9) 28 = .ok (.aload_n 0, 1) := by decide +kernel
theorem d9_29 : decode (mCode 9) 29 = .ok (.bipush 77, 2) := by decide +kernel
theorem d9_31 : decode (mCode 9) 31 = .ok (.newarray .int, 2) := by decide +kernel
theorem d9_33 : decode (mCode 9) 33 = .ok (.putfield 23, 3) := by decide +kernel
theorem d9_36 : decode (mCode 9) 36 = .ok (.aload_n 0, 1) := by decide +kernel
theorem d9_37 : decode (mCode 9) 37 = .ok (.aload_n 1, 1) := by decide +kernel
theorem d9_38 : decode (mCode 9) 38 = .ok (.putfield 27, 3) := by decide +kernel
theorem d9_41 : decode (mCode 9) 41 = .ok (.return_, 1) := by decide +kernel
theorem d19_0 : decode (mCode 19) 0 = .ok (.aload_n 0, 1) := by decide +kernel
theorem d19_1 : decode (mCode 19) 1 = .ok (.invokespecial 3, 3) := by decide +kernel
theorem d19_4 : decode (mCode 19) 4 = .ok (.aload_n 0, 1) := by decide +kernel
theorem d19_5 : decode (mCode 19) 5 = .ok (.bipush 75, 2) := by decide +kernel
theorem d19_7 : decode (mCode 19) 7 = .ok (.newarray .int, 2) := by decide +kernel
theorem d19_9 : decode (mCode 19) 9 = .ok (.putfield 9, 3) := by decide +kernel
theorem d19_12 : decode (mCode 19) 12 = .ok (.aload_n 0, 1) := by decide +kernel
theorem d19_13 : decode (mCode 19) 13 = .ok (.bipush 75, 2) := by decide +kernel
theorem d19_15 : decode (mCode 19) 15 = .ok (.newarray .int, 2) := by decide +kernel
theorem d19_17 : decode (mCode 19) 17 = .ok (.putfield 15, 3) := by decide +kernel
theorem d19_20 : decode (mCode 19) 20 = .ok (.aload_n 0, 1) := by decide +kernel
theorem d19_21 : decode (mCode 19) 21 = .ok (.aload_n 1, 1) := by decide +kernel
theorem d19_22 : decode (mCode 19) 22 = .ok (.putfield 18, 3) := by decide +kernel
theorem d19_25 : decode (mCode 19) 25 = .ok (.aload_n 0, 1) := by decide +kernel
theorem d19_26 : decode (mCode 19) 26 = .ok (.aload_n 2, 1) := by decide +kernel
theorem d19_27 : decode (mCode 19) 27 = .ok (.putfield 22, 3) := by decide +kernel
theorem d19_30 : decode (mCode 19) 30 = .ok (.return_, 1) := by decide +kernel
theorem d35_0 : decode (mCode 35) 0 = .ok (.aload_n 0, 1) := by decide +kernel
theorem d35_1 : decode (mCode 35) 1 = .ok (.invokespecial 3, 3) := by decide +kernel
theorem d35_4 : decode (mCode 35) 4 = .ok (.aload_n 0, 1) := by decide +kernel
theorem d35_5 : decode (mCode 35) 5 = .ok (.bipush 40, 2) := by decide +kernel
theorem d35_7 : decode (mCode 35) 7 = .ok (.newarray .long, 2) := by decide +kernel
theorem d35_9 : decode (mCode 35) 9 = .ok (.putfield 9, 3) := by decide +kernel
theorem d35_12 : decode (mCode 35) 12 = .ok (.aload_n 0, 1) := by decide +kernel
theorem d35_13 : decode (mCode 35) 13 = .ok (.aload_n 1, 1) := by decide +kernel
theorem d35_14 : decode (mCode 35) 14 = .ok (.putfield 15, 3) := by decide +kernel
theorem d35_17 : decode (mCode 35) 17 = .ok (.return_, 1) := by decide +kernel
theorem d44_0 : decode (mCode 44) 0 = .ok (.aload_n 0, 1) := by decide +kernel
theorem d44_1 : decode (mCode 44) 1 = .ok (.invokespecial 3, 3) := by decide +kernel
theorem d44_4 : decode (mCode 44) 4 = .ok (.aload_n 0, 1) := by decide +kernel
theorem d44_5 : decode (mCode 44) 5 = .ok (.sipush 1600, 3) := by decide +kernel
theorem d44_8 : decode (mCode 44) 8 = .ok (.newarray .int, 2) := by decide +kernel
theorem d44_10 : decode (mCode 44) 10 = .ok (.putfield 9, 3) := by decide +kernel
theorem d44_13 : decode (mCode 44) 13 = .ok (.aload_n 0, 1) := by decide +kernel
theorem d44_14 : decode (mCode 44) 14 = .ok (.sipush 1600, 3) := by decide +kernel
theorem d44_17 : decode (mCode 44) 17 = .ok (.newarray .int, 2) := by decide +kernel
theorem d44_19 : decode (mCode 44) 19 = .ok (.putfield 15, 3) := by decide +kernel
theorem d44_22 : decode (mCode 44) 22 = .ok (.aload_n 0, 1) := by decide +kernel
theorem d44_23 : decode (mCode 44) 23 = .ok (.sipush 225, 3) := by decide +kernel
theorem d44_26 : decode (mCode 44) 26 = .ok (.newarray .int, 2) := by decide +kernel
theorem d44_28 : decode (mCode 44) 28 = .ok (.putfield 18, 3) := by decide +kernel
theorem d44_31 : decode (mCode 44) 31 = .ok (.aload_n 0, 1) := by decide +kernel
theorem d44_32 : decode (mCode 44) 32 = .ok (.sipush 800, 3) := by decide +kernel
theorem d44_35 : decode (mCode 44) 35 = .ok (.newarray .int, 2) := by decide +kernel
theorem d44_37 : decode (mCode 44) 37 = .ok (.putfield 21, 3) := by decide +kernel
theorem d44_40 : decode (mCode 44) 40 = .ok (.aload_n 0, 1) := by decide +kernel
theorem d44_41 : decode (mCode 44) 41 = .ok (.bipush 40, 2) := by decide +kernel
theorem d44_43 : decode (mCode 44) 43 = .ok (.newarray .long, 2) := by decide +kernel
theorem d44_45 : decode (mCode 44) 45 = .ok (.putfield 24, 3) := by decide +kernel
theorem d44_48 : decode (mCode 44) 48 = .ok (.aload_n 0, 1) := by decide +kernel
theorem d44_49 : decode (mCode 44) 49 = .ok (.aload_n 1, 1) := by decide +kernel
theorem d44_50 : decode (mCode 44) 50 = .ok (.putfield 28, 3) := by decide +kernel
theorem d44_53 : decode (mCode 44) 53 = .ok (.aload_n 0, 1) := by decide +kernel
theorem d44_54 : decode (mCode 44) 54 = .ok (.aload_n 2, 1) := by decide +kernel
theorem d44_55 : decode (mCode 44) 55 = .ok (.putfield 32, 3) := by decide +kernel
theorem d44_58 : decode (mCode 44) 58 = .ok (.aload_n 0, 1) := by decide +kernel
theorem d44_59 : decode (mCode 44) 59 = .ok (.getfield 9, 3) := by decide +kernel
theorem d44_62 : decode (mCode 44) 62 = .ok (.iconst (-1), 1) := by decide +kernel
theorem d44_63 : decode (mCode 44) 63 = .ok (.invokestatic 36, 3) := by decide +kernel
theorem d44_66 : decode (mCode 44) 66 = .ok (.return_, 1) := by decide +kernel
theorem d65_0 : decode (mCode 65) 0 = .ok (.aload_n 0, 1) := by decide +kernel
theorem d65_1 : decode (mCode 65) 1 = .ok (.invokespecial 3, 3) := by decide +kernel
theorem d65_4 : decode (mCode 65) 4 = .ok (.aload_n 0, 1) := by decide +kernel
theorem d65_5 : decode (mCode 65) 5 = .ok (.bipush 42, 2) := by decide +kernel
theorem d65_7 : decode (mCode 65) 7 = .ok (.newarray .int, 2) := by decide +kernel
theorem d65_9 : decode (mCode 65) 9 = .ok (.putfield 9, 3) := by decide +kernel
theorem d65_12 : decode (mCode 65) 12 = .ok (.aload_n 0, 1) := by decide +kernel
theorem d65_13 : decode (mCode 65) 13 = .ok (.bipush 42, 2) := by decide +kernel
theorem d65_15 : decode (mCode 65) 15 = .ok (.newarray .int, 2) := by decide +kernel
theorem d65_17 : decode (mCode 65) 17 = .ok (.putfield 15, 3) := by decide +kernel
theorem d65_20 : decode (mCode 65) 20 = .ok (.aload_n 0, 1) := by decide +kernel
theorem d65_21 : decode (mCode 65) 21 = .ok (.new 18, 3) := by decide +kernel
theorem d65_24 : decode (mCode 65) 24 = .ok (.dup, 1) := by decide +kernel
theorem d65_25 : decode (mCode 65) 25 = .ok (.invokespecial 20, 3) := by decide +kernel
theorem d65_28 : decode (mCode 65) 28 = .ok (.putfield 21, 3) := by decide +kernel
theorem d65_31 : decode (mCode 65) 31 = .ok (.return_, 1) := by decide +kernel
theorem d78_0 : decode (mCode 78) 0 = .ok (.aload_n 0, 1) := by decide +kernel
theorem d78_1 : decode (mCode 78) 1 = .ok (.invokespecial 3, 3) := by decide +kernel
theorem d78_4 : decode (mCode 78) 4 = .ok (.aload_n 0, 1) := by decide +kernel
theorem d78_5 : decode (mCode 78) 5 = .ok (.bipush 75, 2) := by decide +kernel
theorem d78_7 : decode (mCode 78) 7 = .ok (.newarray .int, 2) := by decide +kernel
theorem d78_9 : decode (mCode 78) 9 = .ok (.putfield 9, 3) := by decide +kernel
theorem d78_12 : decode (mCode 78) 12 = .ok (.aload_n 0, 1) := by decide +kernel
theorem d78_13 : decode (mCode 78) 13 = .ok (.bipush 75, 2) := by decide +kernel
theorem d78_15 : decode (mCode 78) 15 = .ok (.newarray .int, 2) := by decide +kernel
theorem d78_17 : decode (mCode 78) 17 = .ok (.putfield 15, 3) := by decide +kernel
theorem d78_20 : decode (mCode 78) 20 = .ok (.aload_n 0, 1) := by decide +kernel
theorem d78_21 : decode (mCode 78) 21 = .ok (.bipush 75, 2) := by decide +kernel
theorem d78_23 : decode (mCode 78) 23 = .ok (.newarray .int, 2) := by decide +kernel
theorem d78_25 : decode (mCode 78) 25 = .ok (.putfield 18, 3) := by decide +kernel
theorem d78_28 : decode (mCode 78) 28 = .ok (.aload_n 0, 1) := by decide +kernel
theorem d78_29 : decode (mCode 78) 29 = .ok (.aload_n 1, 1) := by decide +kernel
theorem d78_30 : decode (mCode 78) 30 = .ok (.putfield 21, 3) := by decide +kernel
theorem d78_33 : decode (mCode 78) 33 = .ok (.aload_n 0, 1) := by decide +kernel
theorem d78_34 : decode (mCode 78) 34 = .ok (.aload_n 2, 1) := by decide +kernel
theorem d78_35 : decode (mCode 78) 35 = .ok (.putfield 25, 3) := by decide +kernel
theorem d78_38 : decode (mCode 78) 38 = .ok (.aload_n 0, 1) := by decide +kernel
theorem d78_39 : decode (mCode 78) 39 = .ok (.new 29, 3) := by decide +kernel
theorem d78_42 : decode (mCode 78) 42 = .ok (.dup, 1) := by decide +kernel
theorem d78_43 : decode (mCode 78) 43 = .ok (.aload_n 1, 1) := by decide +kernel
theorem d78_44 : decode (mCode 78) 44 = .ok (.invokespecial 31, 3) := by decide +kernel
theorem d78_47 : decode (mCode 78) 47 = .ok (.putfield 34, 3) := by decide +kernel
theorem d78_50 : decode (mCode 78) 50 = .ok (.return_, 1) := by decide +kernel
theorem d87_0 : decode (mCode 87) 0 = .ok (.aload_n 0, 1) := by decide +kernel
theorem d87_1 : decode (mCode 87) 1 = .ok (.invokespecial 3, 3) := by decide +kernel
theorem d87_4 : decode (mCode 87) 4 = .ok (.return_, 1) := by decide +kernel
theorem d91_0 : decode (mCode 91) 0 = .ok (.aload_n 0, 1) := by decide +kernel
theorem d91_1 : decode (mCode 91) 1 = .ok (.invokespecial 3, 3) := by decide +kernel
theorem d91_4 : decode (mCode 91) 4 = .ok (.new 9, 3) := by decide +kernel
theorem d91_7 : decode (mCode 91) 7 = .ok (.dup, 1) := by decide +kernel
theorem d91_8 : decode (mCode 91) 8 = .ok (.invokespecial 11, 3) := by decide +kernel
theorem d91_11 : decode (mCode 91) 11 = .ok (.astore_n 1, 1) := by decide +kernel
theorem d91_12 : decode (mCode 91) 12 = .ok (.new 12, 3) := by decide +kernel
theorem d91_15 : decode (mCode 91) 15 = .ok (.dup, 1) := by decide +kernel
theorem d91_16 : decode (mCode 91) 16 = .ok (.aload_n 1, 1) := by decide +kernel
theorem d91_17 : decode (mCode 91) 17 = .ok (.invokespecial 14, 3) := by decide +kernel
theorem d91_20 : decode (mCode 91) 20 = .ok (.astore_n 2, 1) := by decide +kernel
theorem d91_21 : decode (mCode 91) 21 = .ok (.new 17, 3) := by decide +kernel
theorem d91_24 : decode (mCode 91) 24 = .ok (.dup, 1) := by decide +kernel
theorem d91_25 : decode (mCode 91) 25 = .ok (.aload_n 1, 1) := by decide +kernel
theorem d91_26 : decode (mCode 91) 26 = .ok (.aload_n 2, 1) := by decide +kernel
theorem d91_27 : decode (mCode 91) 27 = .ok (.invokespecial 19, 3) := by decide +kernel
theorem d91_30 : decode (mCode 91) 30 = .ok (.astore_n 3, 1) := by decide +kernel
theorem d91_31 : decode (mCode 91) 31 = .ok (.aload_n 0, 1) := by decide +kernel
theorem d91_32 : decode (mCode 91) 32 = .ok (.aload_n 1, 1) := by decide +kernel
theorem d91_33 : decode (mCode 91) 33 = .ok (.putfield 22, 3) := by decide +kernel
theorem d91_36 : decode (mCode 91) 36 = .ok (.aload_n 0, 1) := by decide +kernel
theorem d91_37 : decode (mCode 91) 37 = .ok (.aload_n 2, 1) := by decide +kernel
theorem d91_38 : decode (mCode 91) 38 = .ok (.putfield 26, 3) := by decide +kernel
theorem d91_41 : decode (mCode 91) 41 = .ok (.aload_n 0, 1) := by decide +kernel
theorem d91_42 : decode (mCode 91) 42 = .ok (.aload_n 3, 1) := by decide +kernel
theorem d91_43 : decode (mCode 91) 43 = .ok (.putfield 30, 3) := by decide +kernel
theorem d91_46 : decode (mCode 91) 46 = .ok (.aload_n 0, 1) := by decide +kernel
theorem d91_47 : decode (mCode 91) 47 = .ok (.new 34, 3) := by decide +kernel
theorem d91_50 : decode (mCode 91) 50 = .ok (.dup, 1) := by decide +kernel
theorem d91_51 : decode (mCode 91) 51 = .ok (.aload_n 1, 1) := by decide +kernel
theorem d91_52 : decode (mCode 91) 52 = .ok (.aload_n 3, 1) := by decide +kernel
theorem d91_53 : decode (mCode 91) 53 = .ok (.invokespecial 36, 3) := by decide +kernel
theorem d91_56 : decode (mCode 91) 56 = .ok (.putfield 39, 3) := by decide +kernel
theorem d91_59 : decode (mCode 91) 59 = .ok (.aload_n 0, 1) := by decide +kernel
theorem d91_60 : decode (mCode 91) 60 = .ok (.new 43, 3) := by decide +kernel
theorem d91_63 : decode (mCode 91) 63 = .ok (.dup, 1) := by decide +kernel
theorem d91_64 : decode (mCode 91) 64 = .ok (.aload_n 1, 1) := by decide +kernel
theorem d91_65 : decode (mCode 91) 65 = .ok (.aload_n 3, 1) := by decide +kernel
theorem d91_66 : decode (mCode 91) 66 = .ok (.invokespecial 45, 3) := by decide +kernel
theorem d91_69 : decode (mCode 91) 69 = .ok (.putfield 46, 3) := by decide +kernel
theorem d91_72 : decode (mCode 91) 72 = .ok (.return_, 1) := by decide +kernel
theorem d112_0 : decode (mCode 112) 0 = .ok (.aload_n 0, 1) := by decide +kernel
theorem d112_1 : decode (mCode 112) 1 = .ok (.invokespecial 1, 3) := by decide +kernel
theorem d112_4 : decode (mCode 112) 4 = .ok (.aload_n 0, 1) := by decide +kernel
theorem d112_5 : decode (mCode 112) 5 = .ok (.bipush 42, 2) := by decide +kernel
theorem d112_7 : decode (mCode 112) 7 = .ok (.newarray .long, 2) := by decide +kernel
theorem d112_9 : decode (mCode 112) 9 = .ok (.putfield 7, 3) := by decide +kernel
theorem d112_12 : decode (mCode 112) 12 = .ok (.aload_n 0, 1) := by decide +kernel
theorem d112_13 : decode (mCode 112) 13 = .ok (.bipush 42, 2) := by decide +kernel
theorem d112_15 : decode (mCode 112) 15 = .ok (.newarray .long, 2) := by decide +kernel
theorem d112_17 : decode (mCode 112) 17 = .ok (.putfield 13, 3) := by decide +kernel
theorem d112_20 : decode (mCode 112) 20 = .ok (.aload_n 0, 1) := by decide +kernel
theorem d112_21 : decode (mCode 112) 21 = .ok (.sipush 1600, 3) := by decide +kernel
theorem d112_24 : decode (mCode 112) 24 = .ok (.newarray .boolean, 2) := by decide +kernel
theorem d112_26 : decode (mCode 112) 26 = .ok (.putfield 16, 3) := by decide +kernel
theorem d112_29 : decode (mCode 112) 29 = .ok (.aload_n 0, 1) := by decide +kernel
theorem d112_30 : decode (mCode 112) 30 = .ok (.sipush 1600, 3) := by decide +kernel
theorem d112_33 : decode (mCode 112) 33 = .ok (.newarray .boolean, 2) := by decide +kernel
theorem d112_35 : decode (mCode 112) 35 = .ok (.putfield 20, 3) := by decide +kernel
theorem d112_38 : decode (mCode 112) 38 = .ok (.aload_n 0, 1) := by decide +kernel
theorem d112_39 : decode (mCode 112) 39 = .ok (.sipush 300, 3) := by decide +kernel
theorem d112_42 : decode (mCode 112) 42 = .ok (.newarray .int, 2) := by decide +kernel
theorem d112_44 : decode (mCode 112) 44 = .ok (.putfield 23, 3) := by decide +kernel
theorem d112_47 : decode (mCode 112) 47 = .ok (.aload_n 0, 1) := by decide +kernel
theorem d112_48 : decode (mCode 112) 48 = .ok (.bipush 100, 2) := by decide +kernel
theorem d112_50 : decode (mCode 112) 50 = .ok (.newarray .int, 2) := by decide +kernel
theorem d112_52 : decode (mCode 112) 52 = .ok (.putfield 27, 3) := by decide +kernel
theorem d112_55 : decode (mCode 112) 55 = .ok (.aload_n 0, 1) := by decide +kernel
theorem d112_56 : decode (mCode 112) 56 = .ok (.bipush 100, 2) := by decide +kernel
theorem d112_58 : decode (mCode 112) 58 = .ok (.newarray .int, 2) := by decide +kernel
theorem d112_60 : decode (mCode 112) 60 = .ok (.putfield 30, 3) := by decide +kernel
theorem d112_63 : decode (mCode 112) 63 = .ok (.aload_n 0, 1) := by decide +kernel
theorem d112_64 : decode (mCode 112) 64 = .ok (.bipush 100, 2) := by decide +kernel
theorem d112_66 : decode (mCode 112) 66 = .ok (.newarray .int, 2) := by decide +kernel
theorem d112_68 : decode (mCode 112) 68 = .ok (.putfield 33, 3) := by decide +kernel
theorem d112_71 : decode (mCode 112) 71 = .ok (.aload_n 0, 1) := by decide +kernel
theorem d112_72 : decode (mCode 112) 72 = .ok (.bipush 100, 2) := by decide +kernel
theorem d112_74 : decode (mCode 112) 74 = .ok (.newarray .int, 2) := by decide +kernel
theorem d112_76 : decode (mCode 112) 76 = .ok (.putfield 36, 3) := by decide +kernel
theorem d112_79 : decode (mCode 112) 79 = .ok (.aload_n 0, 1) := by decide +kernel
theorem d112_80 : decode (mCode 112) 80 = .ok (.bipush 100, 2) := by decide +kernel
theorem d112_82 : decode (mCode 112) 82 = .ok (.newarray .int, 2) := by decide +kernel
theorem d112_84 : decode (mCode 112) 84 = .ok (.putfield 39, 3) := by decide +kernel
theorem d112_87 : decode (mCode 112) 87 = .ok (.return_, 1) := by decide +kernel
def HK0 : mHp := [(.inr (8, [.null, .null, .null, .null, .null]))]
def HK1 : mHp := [(.inr (8, [.null, .null, .null, .null, .null])), (.inr (5, [.null, .null, .null, .int 0]))]
def HK2 : mHp := [(.inr (8, [.null, .null, .null, .null, .null])), (.inr (5, [.ref 18, .ref 19, .null, .int 0])), (.inl (.int, 42, .inl ((fun _ => 0)))), (.inl (.int, 42, .inl ((fun _ => 0)))), (.inr (7, [.long 0, .long 0, .long 0]))]
def HK3 : mHp := [(.inr (8, [.null, .null, .null, .null, .null])), (.inr (5, [.ref 18, .ref 19, .null, .int 0])), (.inl (.int, 42, .inl ((fun _ => 0)))), (.inl (.int, 42, .inl ((fun _ => 0)))), (.inr (7, [.long 0, .long 0, .long 0]))]
def HK4 : mHp := [(.inr (8, [.null, .null, .null, .null, .null])), (.inr (5, [.ref 18, .ref 19, .ref 20, .int 0])), (.inl (.int, 42, .inl ((fun _ => 0)))), (.inl (.int, 42, .inl ((fun _ => 0)))), (.inr (7, [.long 0, .long 0, .long 0]))]
def HK5 : mHp := [(.inr (8, [.null, .null, .null, .null, .null])), (.inr (5, [.ref 18, .ref 19, .ref 20, .int 0])), (.inl (.int, 42, .inl ((fun _ => 0)))), (.inl (.int, 42, .inl ((fun _ => 0)))), (.inr (7, [.long 0, .long 0, .long 0])), (.inr (3, [.null, .null, .int 0]))]
def HK6 : mHp := [(.inr (8, [.null, .null, .null, .null, .null])), (.inr (5, [.ref 18, .ref 19, .ref 20, .int 0])), (.inl (.int, 42, .inl ((fun _ => 0)))), (.inl (.int, 42, .inl ((fun _ => 0)))), (.inr (7, [.long 0, .long 0, .long 0])), (.inr (3, [.ref 17, .ref 22, .int 0])), (.inl (.long, 40, .inr (.inl ((fun _ => 0)))))]
def HK7 : mHp := [(.inr (8, [.null, .null, .null, .null, .null])), (.inr (5, [.ref 18, .ref 19, .ref 20, .int 0])), (.inl (.int, 42, .inl ((fun _ => 0)))), (.inl (.int, 42, .inl ((fun _ => 0)))), (.inr (7, [.long 0, .long 0, .long 0])), (.inr (3, [.ref 17, .ref 22, .int 0])), (.inl (.long, 40, .inr (.inl ((fun _ => 0))))), (.inr (4, [.null, .null, .null, .null, .null, .int 0, .null, .int 0, .null]))]
def HK8 : mHp := [(.inr (8, [.null, .null, .null, .null, .null])), (.inr (5, [.ref 18, .ref 19, .ref 20, .int 0])), (.inl (.int, 42, .inl ((fun _ => 0)))), (.inl (.int, 42, .inl ((fun _ => 0)))), (.inr (7, [.long 0, .long 0, .long 0])), (.inr (3, [.ref 17, .ref 22, .int 0])), (.inl (.long, 40, .inr (.inl ((fun _ => 0))))), (.inr (4, [.ref 17, .ref 21, .ref 24, .ref 25, .ref 26, .int 0, .ref 27, .int 0, .ref 28])), (.inl (.int, 1600, .inl (mfill 1600 (-1) (fun _ => 0)))), (.inl (.int, 1600, .inl ((fun _ => 0)))), (.inl (.int, 225, .inl ((fun _ => 0)))), (.inl (.int, 800, .inl ((fun _ => 0)))), (.inl (.long, 40, .inr (.inl ((fun _ => 0)))))]
def HK9 : mHp := [(.inr (8, [.ref 17, .ref 21, .ref 23, .null, .null])), (.inr (5, [.ref 18, .ref 19, .ref 20, .int 0])), (.inl (.int, 42, .inl ((fun _ => 0)))), (.inl (.int, 42, .inl ((fun _ => 0)))), (.inr (7, [.long 0, .long 0, .long 0])), (.inr (3, [.ref 17, .ref 22, .int 0])), (.inl (.long, 40, .inr (.inl ((fun _ => 0))))), (.inr (4, [.ref 17, .ref 21, .ref 24, .ref 25, .ref 26, .int 0, .ref 27, .int 0, .ref 28])), (.inl (.int, 1600, .inl (mfill 1600 (-1) (fun _ => 0)))), (.inl (.int, 1600, .inl ((fun _ => 0)))), (.inl (.int, 225, .inl ((fun _ => 0)))), (.inl (.int, 800, .inl ((fun _ => 0)))), (.inl (.long, 40, .inr (.inl ((fun _ => 0))))), (.inr (2, [.null, .null, .null, .null, .int 0]))]
def HK10 : mHp := [(.inr (8, [.ref 17, .ref 21, .ref 23, .null, .null])), (.inr (5, [.ref 18, .ref 19, .ref 20, .int 0])), (.inl (.int, 42, .inl ((fun _ => 0)))), (.inl (.int, 42, .inl ((fun _ => 0)))), (.inr (7, [.long 0, .long 0, .long 0])), (.inr (3, [.ref 17, .ref 22, .int 0])), (.inl (.long, 40, .inr (.inl ((fun _ => 0))))), (.inr (4, [.ref 17, .ref 21, .ref 24, .ref 25, .ref 26, .int 0, .ref 27, .int 0, .ref 28])), (.inl (.int, 1600, .inl (mfill 1600 (-1) (fun _ => 0)))), (.inl (.int, 1600, .inl ((fun _ => 0)))), (.inl (.int, 225, .inl ((fun _ => 0)))), (.inl (.int, 800, .inl ((fun _ => 0)))), (.inl (.long, 40, .inr (.inl ((fun _ => 0))))), (.inr (2, [.ref 17, .ref 23, .ref 30, .ref 31, .int 0])), (.inl (.int, 75, .inl ((fun _ => 0)))), (.inl (.int, 75, .inl ((fun _ => 0))))]
def HK11 : mHp := [(.inr (8, [.ref 17, .ref 21, .ref 23, .ref 29, .null])), (.inr (5, [.ref 18, .ref 19, .ref 20, .int 0])), (.inl (.int, 42, .inl ((fun _ => 0)))), (.inl (.int, 42, .inl ((fun _ => 0)))), (.inr (7, [.long 0, .long 0, .long 0])), (.inr (3, [.ref 17, .ref 22, .int 0])), (.inl (.long, 40, .inr (.inl ((fun _ => 0))))), (.inr (4, [.ref 17, .ref 21, .ref 24, .ref 25, .ref 26, .int 0, .ref 27, .int 0, .ref 28])), (.inl (.int, 1600, .inl (mfill 1600 (-1) (fun _ => 0)))), (.inl (.int, 1600, .inl ((fun _ => 0)))), (.inl (.int, 225, .inl ((fun _ => 0)))), (.inl (.int, 800, .inl ((fun _ => 0)))), (.inl (.long, 40, .inr (.inl ((fun _ => 0))))), (.inr (2, [.ref 17, .ref 23, .ref 30, .ref 31, .int 0])), (.inl (.int, 75, .inl ((fun _ => 0)))), (.inl (.int, 75, .inl ((fun _ => 0)))), (.inr (6, [.null, .null, .null, .null, .int 0, .null, .null]))]
def HK12 : mHp := [(.inr (8, [.ref 17, .ref 21, .ref 23, .ref 29, .null])), (.inr (5, [.ref 18, .ref 19, .ref 20, .int 0])), (.inl (.int, 42, .inl ((fun _ => 0)))), (.inl (.int, 42, .inl ((fun _ => 0)))), (.inr (7, [.long 0, .long 0, .long 0])), (.inr (3, [.ref 17, .ref 22, .int 0])), (.inl (.long, 40, .inr (.inl ((fun _ => 0))))), (.inr (4, [.ref 17, .ref 21, .ref 24, .ref 25, .ref 26, .int 0, .ref 27, .int 0, .ref 28])), (.inl (.int, 1600, .inl (mfill 1600 (-1) (fun _ => 0)))), (.inl (.int, 1600, .inl ((fun _ => 0)))), (.inl (.int, 225, .inl ((fun _ => 0)))), (.inl (.int, 800, .inl ((fun _ => 0)))), (.inl (.long, 40, .inr (.inl ((fun _ => 0))))), (.inr (2, [.ref 17, .ref 23, .ref 30, .ref 31, .int 0])), (.inl (.int, 75, .inl ((fun _ => 0)))), (.inl (.int, 75, .inl ((fun _ => 0)))), (.inr (6, [.ref 17, .ref 23, .null, .ref 33, .int 0, .ref 34, .ref 35])), (.inl (.int, 75, .inl ((fun _ => 0)))), (.inl (.int, 75, .inl ((fun _ => 0)))), (.inl (.int, 75, .inl ((fun _ => 0)))), (.inr (1, [.null, .null, .null, .int 0, .int 0, .int 0, .null, .int 0]))]
def HK13 : mHp := [(.inr (8, [.ref 17, .ref 21, .ref 23, .ref 29, .null])), (.inr (5, [.ref 18, .ref 19, .ref 20, .int 0])), (.inl (.int, 42, .inl ((fun _ => 0)))), (.inl (.int, 42, .inl ((fun _ => 0)))), (.inr (7, [.long 0, .long 0, .long 0])), (.inr (3, [.ref 17, .ref 22, .int 0])), (.inl (.long, 40, .inr (.inl ((fun _ => 0))))), (.inr (4, [.ref 17, .ref 21, .ref 24, .ref 25, .ref 26, .int 0, .ref 27, .int 0, .ref 28])), (.inl (.int, 1600, .inl (mfill 1600 (-1) (fun _ => 0)))), (.inl (.int, 1600, .inl ((fun _ => 0)))), (.inl (.int, 225, .inl ((fun _ => 0)))), (.inl (.int, 800, .inl ((fun _ => 0)))), (.inl (.long, 40, .inr (.inl ((fun _ => 0))))), (.inr (2, [.ref 17, .ref 23, .ref 30, .ref 31, .int 0])), (.inl (.int, 75, .inl ((fun _ => 0)))), (.inl (.int, 75, .inl ((fun _ => 0)))), (.inr (6, [.ref 17, .ref 23, .null, .ref 33, .int 0, .ref 34, .ref 35])), (.inl (.int, 75, .inl ((fun _ => 0)))), (.inl (.int, 75, .inl ((fun _ => 0)))), (.inl (.int, 75, .inl ((fun _ => 0)))), (.inr (1, [.null, .null, .null, .int 0, .int 0, .int 0, .null, .int 0])), (.inr (0, [.int 0, .null, .int 0, .int 0]))]
def HK14 : mHp := [(.inr (8, [.ref 17, .ref 21, .ref 23, .ref 29, .null])), (.inr (5, [.ref 18, .ref 19, .ref 20, .int 0])), (.inl (.int, 42, .inl ((fun _ => 0)))), (.inl (.int, 42, .inl ((fun _ => 0)))), (.inr (7, [.long 0, .long 0, .long 0])), (.inr (3, [.ref 17, .ref 22, .int 0])), (.inl (.long, 40, .inr (.inl ((fun _ => 0))))), (.inr (4, [.ref 17, .ref 21, .ref 24, .ref 25, .ref 26, .int 0, .ref 27, .int 0, .ref 28])), (.inl (.int, 1600, .inl (mfill 1600 (-1) (fun _ => 0)))), (.inl (.int, 1600, .inl ((fun _ => 0)))), (.inl (.int, 225, .inl ((fun _ => 0)))), (.inl (.int, 800, .inl ((fun _ => 0)))), (.inl (.long, 40, .inr (.inl ((fun _ => 0))))), (.inr (2, [.ref 17, .ref 23, .ref 30, .ref 31, .int 0])), (.inl (.int, 75, .inl ((fun _ => 0)))), (.inl (.int, 75, .inl ((fun _ => 0)))), (.inr (6, [.ref 17, .ref 23, .null, .ref 33, .int 0, .ref 34, .ref 35])), (.inl (.int, 75, .inl ((fun _ => 0)))), (.inl (.int, 75, .inl ((fun _ => 0)))), (.inl (.int, 75, .inl ((fun _ => 0)))), (.inr (1, [.null, .null, .null, .int 0, .int 0, .int 0, .null, .int 0])), (.inr (0, [.int 1, .ref 38, .int 0, .int 0])), (.inl (.int, 77, .inl ((fun _ => 0))))]
def HK15 : mHp := [(.inr (8, [.ref 17, .ref 21, .ref 23, .ref 29, .null])), (.inr (5, [.ref 18, .ref 19, .ref 20, .int 0])), (.inl (.int, 42, .inl ((fun _ => 0)))), (.inl (.int, 42, .inl ((fun _ => 0)))), (.inr (7, [.long 0, .long 0, .long 0])), (.inr (3, [.ref 17, .ref 22, .int 0])), (.inl (.long, 40, .inr (.inl ((fun _ => 0))))), (.inr (4, [.ref 17, .ref 21, .ref 24, .ref 25, .ref 26, .int 0, .ref 27, .int 0, .ref 28])), (.inl (.int, 1600, .inl (mfill 1600 (-1) (fun _ => 0)))), (.inl (.int, 1600, .inl ((fun _ => 0)))), (.inl (.int, 225, .inl ((fun _ => 0)))), (.inl (.int, 800, .inl ((fun _ => 0)))), (.inl (.long, 40, .inr (.inl ((fun _ => 0))))), (.inr (2, [.ref 17, .ref 23, .ref 30, .ref 31, .int 0])), (.inl (.int, 75, .inl ((fun _ => 0)))), (.inl (.int, 75, .inl ((fun _ => 0)))), (.inr (6, [.ref 17, .ref 23, .null, .ref 33, .int 0, .ref 34, .ref 35])), (.inl (.int, 75, .inl ((fun _ => 0)))), (.inl (.int, 75, .inl ((fun _ => 0)))), (.inl (.int, 75, .inl ((fun _ => 0)))), (.inr (1, [.null, .ref 37, .null, .int 0, .int 0, .int 0, .null, .int 0])), (.inr (0, [.int 1, .ref 38, .int 0, .int 0])), (.inl (.int, 77, .inl ((fun _ => 0)))), (.inr (0, [.int 0, .null, .int 0, .int 0]))]
def HK16 : mHp := [(.inr (8, [.ref 17, .ref 21, .ref 23, .ref 29, .null])), (.inr (5, [.ref 18, .ref 19, .ref 20, .int 0])), (.inl (.int, 42, .inl ((fun _ => 0)))), (.inl (.int, 42, .inl ((fun _ => 0)))), (.inr (7, [.long 0, .long 0, .long 0])), (.inr (3, [.ref 17, .ref 22, .int 0])), (.inl (.long, 40, .inr (.inl ((fun _ => 0))))), (.inr (4, [.ref 17, .ref 21, .ref 24, .ref 25, .ref 26, .int 0, .ref 27, .int 0, .ref 28])), (.inl (.int, 1600, .inl (mfill 1600 (-1) (fun _ => 0)))), (.inl (.int, 1600, .inl ((fun _ => 0)))), (.inl (.int, 225, .inl ((fun _ => 0)))), (.inl (.int, 800, .inl ((fun _ => 0)))), (.inl (.long, 40, .inr (.inl ((fun _ => 0))))), (.inr (2, [.ref 17, .ref 23, .ref 30, .ref 31, .int 0])), (.inl (.int, 75, .inl ((fun _ => 0)))), (.inl (.int, 75, .inl ((fun _ => 0)))), (.inr (6, [.ref 17, .ref 23, .null, .ref 33, .int 0, .ref 34, .ref 35])), (.inl (.int, 75, .inl ((fun _ => 0)))), (.inl (.int, 75, .inl ((fun _ => 0)))), (.inl (.int, 75, .inl ((fun _ => 0)))), (.inr (1, [.null, .ref 37, .null, .int 0, .int 0, .int 0, .null, .int 0])), (.inr (0, [.int 1, .ref 38, .int 0, .int 0])), (.inl (.int, 77, .inl ((fun _ => 0)))), (.inr (0, [.int (-1), .ref 40, .int 0, .int 0])), (.inl (.int, 77, .inl ((fun _ => 0))))]
def HK17 : mHp := [(.inr (8, [.ref 17, .ref 21, .ref 23, .ref 29, .null])), (.inr (5, [.ref 18, .ref 19, .ref 20, .int 0])), (.inl (.int, 42, .inl ((fun _ => 0)))), (.inl (.int, 42, .inl ((fun _ => 0)))), (.inr (7, [.long 0, .long 0, .long 0])), (.inr (3, [.ref 17, .ref 22, .int 0])), (.inl (.long, 40, .inr (.inl ((fun _ => 0))))), (.inr (4, [.ref 17, .ref 21, .ref 24, .ref 25, .ref 26, .int 0, .ref 27, .int 0, .ref 28])), (.inl (.int, 1600, .inl (mfill 1600 (-1) (fun _ => 0)))), (.inl (.int, 1600, .inl ((fun _ => 0)))), (.inl (.int, 225, .inl ((fun _ => 0)))), (.inl (.int, 800, .inl ((fun _ => 0)))), (.inl (.long, 40, .inr (.inl ((fun _ => 0))))), (.inr (2, [.ref 17, .ref 23, .ref 30, .ref 31, .int 0])), (.inl (.int, 75, .inl ((fun _ => 0)))), (.inl (.int, 75, .inl ((fun _ => 0)))), (.inr (6, [.ref 17, .ref 23, .null, .ref 33, .int 0, .ref 34, .ref 35])), (.inl (.int, 75, .inl ((fun _ => 0)))), (.inl (.int, 75, .inl ((fun _ => 0)))), (.inl (.int, 75, .inl ((fun _ => 0)))), (.inr (1, [.ref 17, .ref 37, .ref 39, .int 0, .int 0, .int 0, .ref 41, .int 0])), (.inr (0, [.int 1, .ref 38, .int 0, .int 0])), (.inl (.int, 77, .inl ((fun _ => 0)))), (.inr (0, [.int (-1), .ref 40, .int 0, .int 0])), (.inl (.int, 77, .inl ((fun _ => 0)))), (.inl (.int, 77, .inl ((fun _ => 0))))]
def HK18 : mHp := [(.inr (8, [.ref 17, .ref 21, .ref 23, .ref 29, .null])), (.inr (5, [.ref 18, .ref 19, .ref 20, .int 0])), (.inl (.int, 42, .inl ((fun _ => 0)))), (.inl (.int, 42, .inl ((fun _ => 0)))), (.inr (7, [.long 0, .long 0, .long 0])), (.inr (3, [.ref 17, .ref 22, .int 0])), (.inl (.long, 40, .inr (.inl ((fun _ => 0))))), (.inr (4, [.ref 17, .ref 21, .ref 24, .ref 25, .ref 26, .int 0, .ref 27, .int 0, .ref 28])), (.inl (.int, 1600, .inl (mfill 1600 (-1) (fun _ => 0)))), (.inl (.int, 1600, .inl ((fun _ => 0)))), (.inl (.int, 225, .inl ((fun _ => 0)))), (.inl (.int, 800, .inl ((fun _ => 0)))), (.inl (.long, 40, .inr (.inl ((fun _ => 0))))), (.inr (2, [.ref 17, .ref 23, .ref 30, .ref 31, .int 0])), (.inl (.int, 75, .inl ((fun _ => 0)))), (.inl (.int, 75, .inl ((fun _ => 0)))), (.inr (6, [.ref 17, .ref 23, .ref 36, .ref 33, .int 0, .ref 34, .ref 35])), (.inl (.int, 75, .inl ((fun _ => 0)))), (.inl (.int, 75, .inl ((fun _ => 0)))), (.inl (.int, 75, .inl ((fun _ => 0)))), (.inr (1, [.ref 17, .ref 37, .ref 39, .int 0, .int 0, .int 0, .ref 41, .int 0])), (.inr (0, [.int 1, .ref 38, .int 0, .int 0])), (.inl (.int, 77, .inl ((fun _ => 0)))), (.inr (0, [.int (-1), .ref 40, .int 0, .int 0])), (.inl (.int, 77, .inl ((fun _ => 0)))), (.inl (.int, 77, .inl ((fun _ => 0))))]
def HK19 : mHp := [(.inr (8, [.ref 17, .ref 21, .ref 23, .ref 29, .ref 32])), (.inr (5, [.ref 18, .ref 19, .ref 20, .int 0])), (.inl (.int, 42, .inl ((fun _ => 0)))), (.inl (.int, 42, .inl ((fun _ => 0)))), (.inr (7, [.long 0, .long 0, .long 0])), (.inr (3, [.ref 17, .ref 22, .int 0])), (.inl (.long, 40, .inr (.inl ((fun _ => 0))))), (.inr (4, [.ref 17, .ref 21, .ref 24, .ref 25, .ref 26, .int 0, .ref 27, .int 0, .ref 28])), (.inl (.int, 1600, .inl (mfill 1600 (-1) (fun _ => 0)))), (.inl (.int, 1600, .inl ((fun _ => 0)))), (.inl (.int, 225, .inl ((fun _ => 0)))), (.inl (.int, 800, .inl ((fun _ => 0)))), (.inl (.long, 40, .inr (.inl ((fun _ => 0))))), (.inr (2, [.ref 17, .ref 23, .ref 30, .ref 31, .int 0])), (.inl (.int, 75, .inl ((fun _ => 0)))), (.inl (.int, 75, .inl ((fun _ => 0)))), (.inr (6, [.ref 17, .ref 23, .ref 36, .ref 33, .int 0, .ref 34, .ref 35])), (.inl (.int, 75, .inl ((fun _ => 0)))), (.inl (.int, 75, .inl ((fun _ => 0)))), (.inl (.int, 75, .inl ((fun _ => 0)))), (.inr (1, [.ref 17, .ref 37, .ref 39, .int 0, .int 0, .int 0, .ref 41, .int 0])), (.inr (0, [.int 1, .ref 38, .int 0, .int 0])), (.inl (.int, 77, .inl ((fun _ => 0)))), (.inr (0, [.int (-1), .ref 40, .int 0, .int 0])), (.inl (.int, 77, .inl ((fun _ => 0)))), (.inl (.int, 77, .inl ((fun _ => 0))))]
def HK20 : mHp := [(.inr (8, [.ref 17, .ref 21, .ref 23, .ref 29, .ref 32])), (.inr (5, [.ref 18, .ref 19, .ref 20, .int 0])), (.inl (.int, 42, .inl ((fun _ => 0)))), (.inl (.int, 42, .inl ((fun _ => 0)))), (.inr (7, [.long 0, .long 0, .long 0])), (.inr (3, [.ref 17, .ref 22, .int 0])), (.inl (.long, 40, .inr (.inl ((fun _ => 0))))), (.inr (4, [.ref 17, .ref 21, .ref 24, .ref 25, .ref 26, .int 0, .ref 27, .int 0, .ref 28])), (.inl (.int, 1600, .inl (mfill 1600 (-1) (fun _ => 0)))), (.inl (.int, 1600, .inl ((fun _ => 0)))), (.inl (.int, 225, .inl ((fun _ => 0)))), (.inl (.int, 800, .inl ((fun _ => 0)))), (.inl (.long, 40, .inr (.inl ((fun _ => 0))))), (.inr (2, [.ref 17, .ref 23, .ref 30, .ref 31, .int 0])), (.inl (.int, 75, .inl ((fun _ => 0)))), (.inl (.int, 75, .inl ((fun _ => 0)))), (.inr (6, [.ref 17, .ref 23, .ref 36, .ref 33, .int 0, .ref 34, .ref 35])), (.inl (.int, 75, .inl ((fun _ => 0)))), (.inl (.int, 75, .inl ((fun _ => 0)))), (.inl (.int, 75, .inl ((fun _ => 0)))), (.inr (1, [.ref 17, .ref 37, .ref 39, .int 0, .int 0, .int 0, .ref 41, .int 0])), (.inr (0, [.int 1, .ref 38, .int 0, .int 0])), (.inl (.int, 77, .inl ((fun _ => 0)))), (.inr (0, [.int (-1), .ref 40, .int 0, .int 0])), (.inl (.int, 77, .inl ((fun _ => 0)))), (.inl (.int, 77, .inl ((fun _ => 0)))), (.inr (9, [.int 0, .int 0, .null, .null, .null, .null, .int 0, .int 0, .null, .int 0, .null, .int 0, .null, .null, .null, .null, .long 0, .long 0]))]
def HK21 : mHp := [(.inr (8, [.ref 17, .ref 21, .ref 23, .ref 29, .ref 32])), (.inr (5, [.ref 18, .ref 19, .ref 20, .int 0])), (.inl (.int, 42, .inl ((fun _ => 0)))), (.inl (.int, 42, .inl ((fun _ => 0)))), (.inr (7, [.long 0, .long 0, .long 0])), (.inr (3, [.ref 17, .ref 22, .int 0])), (.inl (.long, 40, .inr (.inl ((fun _ => 0))))), (.inr (4, [.ref 17, .ref 21, .ref 24, .ref 25, .ref 26, .int 0, .ref 27, .int 0, .ref 28])), (.inl (.int, 1600, .inl (mfill 1600 (-1) (fun _ => 0)))), (.inl (.int, 1600, .inl ((fun _ => 0)))), (.inl (.int, 225, .inl ((fun _ => 0)))), (.inl (.int, 800, .inl ((fun _ => 0)))), (.inl (.long, 40, .inr (.inl ((fun _ => 0))))), (.inr (2, [.ref 17, .ref 23, .ref 30, .ref 31, .int 0])), (.inl (.int, 75, .inl ((fun _ => 0)))), (.inl (.int, 75, .inl ((fun _ => 0)))), (.inr (6, [.ref 17, .ref 23, .ref 36, .ref 33, .int 0, .ref 34, .ref 35])), (.inl (.int, 75, .inl ((fun _ => 0)))), (.inl (.int, 75, .inl ((fun _ => 0)))), (.inl (.int, 75, .inl ((fun _ => 0)))), (.inr (1, [.ref 17, .ref 37, .ref 39, .int 0, .int 0, .int 0, .ref 41, .int 0])), (.inr (0, [.int 1, .ref 38, .int 0, .int 0])), (.inl (.int, 77, .inl ((fun _ => 0)))), (.inr (0, [.int (-1), .ref 40, .int 0, .int 0])), (.inl (.int, 77, .inl ((fun _ => 0)))), (.inl (.int, 77, .inl ((fun _ => 0)))), (.inr (9, [.int 0, .int 0, .ref 43, .ref 44, .ref 45, .ref 46, .int 0, .int 0, .ref 47, .int 0, .ref 48, .int 0, .ref 49, .ref 50, .ref 51, .ref 52, .long 0, .long 0])), (.inl (.long, 42, .inr (.inl ((fun _ => 0))))), (.inl (.long, 42, .inr (.inl ((fun _ => 0))))), (.inl (.boolean, 1600, .inl ((fun _ => 0)))), (.inl (.boolean, 1600, .inl ((fun _ => 0)))), (.inl (.int, 300, .inl ((fun _ => 0)))), (.inl (.int, 100, .inl ((fun _ => 0)))), (.inl (.int, 100, .inl ((fun _ => 0)))), (.inl (.int, 100, .inl ((fun _ => 0)))), (.inl (.int, 100, .inl ((fun _ => 0)))), (.inl (.int, 100, .inl ((fun _ => 0))))]
set_option maxRecDepth 4000 in
theorem rk_HK3 {S : mE} : Run S 87 (0, [(0, .ref 20)], [], HK2) (.inl none, HK3) := by
  refine R_p d87_0 rfl rfl ?_
  refine R_obj d87_1 (List.mem_of_getElem? (i := 2) rfl) (by decide) (by decide) ?_
  exact R_vret d87_4 rfl rfl
set_option maxRecDepth 4000 in
theorem rk_HK4 {S : mE} : Run S 65 (0, [(0, .ref 17)], [], HK1) (.inl none, HK4) := by
  refine R_p d65_0 rfl rfl ?_
  refine R_obj d65_1 (List.mem_of_getElem? (i := 1) rfl) (by decide) (by decide) ?_
  refine R_p d65_4 rfl rfl ?_
  refine R_bi (v := 42) d65_5 (by decide) ?_
  refine R_newa (N := 42) d65_7 rfl rfl (by decide) (by decide) (by decide) ?_
  refine R_put d65_9 (List.mem_of_getElem? (i := 3) rfl) rfl (by decide) rfl rfl (Or.inr ⟨rfl, rfl⟩) ?_
  refine R_p d65_12 rfl rfl ?_
  refine R_bi (v := 42) d65_13 (by decide) ?_
  refine R_newa (N := 42) d65_15 rfl rfl (by decide) (by decide) (by decide) ?_
  refine R_put d65_17 (List.mem_of_getElem? (i := 4) rfl) rfl (by decide) rfl rfl (Or.inr ⟨rfl, rfl⟩) ?_
  refine R_p d65_20 rfl rfl ?_
  refine R_new d65_21 (List.mem_of_getElem? (i := 2) rfl) ?_
  refine R_p d65_24 rfl rfl ?_
  refine R_cc [] d65_25 (List.mem_of_getElem? (i := 2) rfl) rfl ⟨by decide, by decide, by decide, rfl, mcd87⟩ rfl rfl (by decide) rfl rfl rk_HK3 ?_
  refine R_put d65_28 (List.mem_of_getElem? (i := 5) rfl) rfl (by decide) rfl rfl (Or.inr ⟨rfl, rfl⟩) ?_
  exact R_vret d65_31 rfl rfl
set_option maxRecDepth 4000 in
theorem rk_HK6 {S : mE} : Run S 35 (0, [(0, .ref 21), (1, .ref 17)], [], HK5) (.inl none, HK6) := by
  refine R_p d35_0 rfl rfl ?_
  refine R_obj d35_1 (List.mem_of_getElem? (i := 3) rfl) (by decide) (by decide) ?_
  refine R_p d35_4 rfl rfl ?_
  refine R_bi (v := 40) d35_5 (by decide) ?_
  refine R_newa (N := 40) d35_7 rfl rfl (by decide) (by decide) (by decide) ?_
  refine R_put d35_9 (List.mem_of_getElem? (i := 8) rfl) rfl (by decide) rfl rfl (Or.inr ⟨rfl, rfl⟩) ?_
  refine R_p d35_12 rfl rfl ?_
  refine R_p d35_13 rfl rfl ?_
  refine R_put d35_14 (List.mem_of_getElem? (i := 7) rfl) rfl (by decide) rfl rfl (Or.inr ⟨rfl, rfl⟩) ?_
  exact R_vret d35_17 rfl rfl
set_option maxRecDepth 4000 in
theorem rk_HK8 {S : mE} : Run S 44 (0, [(0, .ref 23), (1, .ref 17), (2, .ref 21)], [], HK7) (.inl none, HK8) := by
  refine R_p d44_0 rfl rfl ?_
  refine R_obj d44_1 (List.mem_of_getElem? (i := 4) rfl) (by decide) (by decide) ?_
  refine R_p d44_4 rfl rfl ?_
  refine R_si (v := 1600) d44_5 (by decide) ?_
  refine R_newa (N := 1600) d44_8 rfl rfl (by decide) (by decide) (by decide) ?_
  refine R_put d44_10 (List.mem_of_getElem? (i := 12) rfl) rfl (by decide) rfl rfl (Or.inr ⟨rfl, rfl⟩) ?_
  refine R_p d44_13 rfl rfl ?_
  refine R_si (v := 1600) d44_14 (by decide) ?_
  refine R_newa (N := 1600) d44_17 rfl rfl (by decide) (by decide) (by decide) ?_
  refine R_put d44_19 (List.mem_of_getElem? (i := 13) rfl) rfl (by decide) rfl rfl (Or.inr ⟨rfl, rfl⟩) ?_
  refine R_p d44_22 rfl rfl ?_
  refine R_si (v := 225) d44_23 (by decide) ?_
  refine R_newa (N := 225) d44_26 rfl rfl (by decide) (by decide) (by decide) ?_
  refine R_put d44_28 (List.mem_of_getElem? (i := 14) rfl) rfl (by decide) rfl rfl (Or.inr ⟨rfl, rfl⟩) ?_
  refine R_p d44_31 rfl rfl ?_
  refine R_si (v := 800) d44_32 (by decide) ?_
  refine R_newa (N := 800) d44_35 rfl rfl (by decide) (by decide) (by decide) ?_
  refine R_put d44_37 (List.mem_of_getElem? (i := 16) rfl) rfl (by decide) rfl rfl (Or.inr ⟨rfl, rfl⟩) ?_
  refine R_p d44_40 rfl rfl ?_
  refine R_bi (v := 40) d44_41 (by decide) ?_
  refine R_newa (N := 40) d44_43 rfl rfl (by decide) (by decide) (by decide) ?_
  refine R_put d44_45 (List.mem_of_getElem? (i := 18) rfl) rfl (by decide) rfl rfl (Or.inr ⟨rfl, rfl⟩) ?_
  refine R_p d44_48 rfl rfl ?_
  refine R_p d44_49 rfl rfl ?_
  refine R_put d44_50 (List.mem_of_getElem? (i := 10) rfl) rfl (by decide) rfl rfl (Or.inr ⟨rfl, rfl⟩) ?_
  refine R_p d44_53 rfl rfl ?_
  refine R_p d44_54 rfl rfl ?_
  refine R_put d44_55 (List.mem_of_getElem? (i := 11) rfl) rfl (by decide) rfl rfl (Or.inr ⟨rfl, rfl⟩) ?_
  refine R_p d44_58 rfl rfl ?_
  refine R_get d44_59 (Or.inl (List.mem_of_getElem? (i := 12) rfl)) rfl rfl ?_
  refine R_ic (v := (-1)) d44_62 (by decide) ?_
  refine R_cs [.ref 24, .int (-1)] d44_63 (List.mem_of_getElem? (i := 5) rfl) rfl ⟨by decide, by decide, by decide, rfl, mcd167⟩ rfl rfl (by decide) (t_fillI (by decide) rfl) ?_
  exact R_vret d44_66 rfl rfl
set_option maxRecDepth 4000 in
theorem rk_HK10 {S : mE} : Run S 19 (0, [(0, .ref 29), (1, .ref 17), (2, .ref 23)], [], HK9) (.inl none, HK10) := by
  refine R_p d19_0 rfl rfl ?_
  refine R_obj d19_1 (List.mem_of_getElem? (i := 5) rfl) (by decide) (by decide) ?_
  refine R_p d19_4 rfl rfl ?_
  refine R_bi (v := 75) d19_5 (by decide) ?_
  refine R_newa (N := 75) d19_7 rfl rfl (by decide) (by decide) (by decide) ?_
  refine R_put d19_9 (List.mem_of_getElem? (i := 21) rfl) rfl (by decide) rfl rfl (Or.inr ⟨rfl, rfl⟩) ?_
  refine R_p d19_12 rfl rfl ?_
  refine R_bi (v := 75) d19_13 (by decide) ?_
  refine R_newa (N := 75) d19_15 rfl rfl (by decide) (by decide) (by decide) ?_
  refine R_put d19_17 (List.mem_of_getElem? (i := 22) rfl) rfl (by decide) rfl rfl (Or.inr ⟨rfl, rfl⟩) ?_
  refine R_p d19_20 rfl rfl ?_
  refine R_p d19_21 rfl rfl ?_
  refine R_put d19_22 (List.mem_of_getElem? (i := 19) rfl) rfl (by decide) rfl rfl (Or.inr ⟨rfl, rfl⟩) ?_
  refine R_p d19_25 rfl rfl ?_
  refine R_p d19_26 rfl rfl ?_
  refine R_put d19_27 (List.mem_of_getElem? (i := 20) rfl) rfl (by decide) rfl rfl (Or.inr ⟨rfl, rfl⟩) ?_
  exact R_vret d19_30 rfl rfl
set_option maxRecDepth 4000 in
theorem rk_HK14 {S : mE} : Run S 0 (0, [(0, .ref 37), (1, .int 1)], [], HK13) (.inl none, HK14) := by
  refine R_p d0_0 rfl rfl ?_
  refine R_obj d0_1 (List.mem_of_getElem? (i := 8) rfl) (by decide) (by decide) ?_
  refine R_p d0_4 rfl rfl ?_
  refine R_bi (v := 77) d0_5 (by decide) ?_
  refine R_newa (N := 77) d0_7 rfl rfl (by decide) (by decide) (by decide) ?_
  refine R_put d0_9 (List.mem_of_getElem? (i := 25) rfl) rfl (by decide) rfl rfl (Or.inr ⟨rfl, rfl⟩) ?_
  refine R_p d0_12 rfl rfl ?_
  refine R_p d0_13 rfl rfl ?_
  refine R_put d0_14 (List.mem_of_getElem? (i := 24) rfl) rfl (by decide) rfl rfl (Or.inr ⟨rfl, rfl⟩) ?_
  exact R_vret d0_17 rfl rfl
set_option maxRecDepth 4000 in
theorem rk_HK16 {S : mE} : Run S 0 (0, [(0, .ref 39), (1, .int (-1))], [], HK15) (.inl none, HK16) := by
  refine R_p d0_0 rfl rfl ?_
  refine R_obj d0_1 (List.mem_of_getElem? (i := 8) rfl) (by decide) (by decide) ?_
  refine R_p d0_4 rfl rfl ?_
  refine R_bi (v := 77) d0_5 (by decide) ?_
  refine R_newa (N := 77) d0_7 rfl rfl (by decide) (by decide) (by decide) ?_
  refine R_put d0_9 (List.mem_of_getElem? (i := 25) rfl) rfl (by decide) rfl rfl (Or.inr ⟨rfl, rfl⟩) ?_
  refine R_p d0_12 rfl rfl ?_
  refine R_p d0_13 rfl rfl ?_
  refine R_put d0_14 (List.mem_of_getElem? (i := 24) rfl) rfl (by decide) rfl rfl (Or.inr ⟨rfl, rfl⟩) ?_
  exact R_vret d0_17 rfl rfl
set_option maxRecDepth 4000 in
theorem rk_HK17 {S : mE} : Run S 9 (0, [(0, .ref 36), (1, .ref 17)], [], HK12) (.inl none, HK17) := by
  refine R_p d9_0 rfl rfl ?_
  refine R_obj d9_1 (List.mem_of_getElem? (i := 7) rfl) (by decide) (by decide) ?_
  refine R_p d9_4 rfl rfl ?_
  refine R_new d9_5 (List.mem_of_getElem? (i := 8) rfl) ?_
  refine R_p d9_8 rfl rfl ?_
  refine R_ic (v := 1) d9_9 (by decide) ?_
  refine R_cc [.int 1] d9_10 (List.mem_of_getElem? (i := 9) rfl) rfl ⟨by decide, by decide, by decide, rfl, mcd0⟩ rfl rfl (by decide) rfl rfl rk_HK14 ?_
  refine R_put d9_13 (List.mem_of_getElem? (i := 29) rfl) rfl (by decide) rfl rfl (Or.inr ⟨rfl, rfl⟩) ?_
  refine R_p d9_16 rfl rfl ?_
  refine R_new d9_17 (List.mem_of_getElem? (i := 8) rfl) ?_
  refine R_p d9_20 rfl rfl ?_
  refine R_ic (v := (-1)) d9_21 (by decide) ?_
  refine R_cc [.int (-1)] d9_22 (List.mem_of_getElem? (i := 9) rfl) rfl ⟨by decide, by decide, by decide, rfl, mcd0⟩ rfl rfl (by decide) rfl rfl rk_HK16 ?_
  refine R_put d9_25 (List.mem_of_getElem? (i := 30) rfl) rfl (by decide) rfl rfl (Or.inr ⟨rfl, rfl⟩) ?_
  refine R_p d9_28 rfl rfl ?_
  refine R_bi (v := 77) d9_29 (by decide) ?_
  refine R_newa (N := 77) d9_31 rfl rfl (by decide) (by decide) (by decide) ?_
  refine R_put d9_33 (List.mem_of_getElem? (i := 34) rfl) rfl (by decide) rfl rfl (Or.inr ⟨rfl, rfl⟩) ?_
  refine R_p d9_36 rfl rfl ?_
  refine R_p d9_37 rfl rfl ?_
  refine R_put d9_38 (List.mem_of_getElem? (i := 28) rfl) rfl (by decide) rfl rfl (Or.inr ⟨rfl, rfl⟩) ?_
  exact R_vret d9_41 rfl rfl
set_option maxRecDepth 4000 in
theorem rk_HK18 {S : mE} : Run S 78 (0, [(0, .ref 32), (1, .ref 17), (2, .ref 23)], [], HK11) (.inl none, HK18) := by
  refine R_p d78_0 rfl rfl ?_
  refine R_obj d78_1 (List.mem_of_getElem? (i := 6) rfl) (by decide) (by decide) ?_
  refine R_p d78_4 rfl rfl ?_
  refine R_bi (v := 75) d78_5 (by decide) ?_
  refine R_newa (N := 75) d78_7 rfl rfl (by decide) (by decide) (by decide) ?_
  refine R_put d78_9 (List.mem_of_getElem? (i := 39) rfl) rfl (by decide) rfl rfl (Or.inr ⟨rfl, rfl⟩) ?_
  refine R_p d78_12 rfl rfl ?_
  refine R_bi (v := 75) d78_13 (by decide) ?_
  refine R_newa (N := 75) d78_15 rfl rfl (by decide) (by decide) (by decide) ?_
  refine R_put d78_17 (List.mem_of_getElem? (i := 41) rfl) rfl (by decide) rfl rfl (Or.inr ⟨rfl, rfl⟩) ?_
  refine R_p d78_20 rfl rfl ?_
  refine R_bi (v := 75) d78_21 (by decide) ?_
  refine R_newa (N := 75) d78_23 rfl rfl (by decide) (by decide) (by decide) ?_
  refine R_put d78_25 (List.mem_of_getElem? (i := 42) rfl) rfl (by decide) rfl rfl (Or.inr ⟨rfl, rfl⟩) ?_
  refine R_p d78_28 rfl rfl ?_
  refine R_p d78_29 rfl rfl ?_
  refine R_put d78_30 (List.mem_of_getElem? (i := 36) rfl) rfl (by decide) rfl rfl (Or.inr ⟨rfl, rfl⟩) ?_
  refine R_p d78_33 rfl rfl ?_
  refine R_p d78_34 rfl rfl ?_
  refine R_put d78_35 (List.mem_of_getElem? (i := 37) rfl) rfl (by decide) rfl rfl (Or.inr ⟨rfl, rfl⟩) ?_
  refine R_p d78_38 rfl rfl ?_
  refine R_new d78_39 (List.mem_of_getElem? (i := 7) rfl) ?_
  refine R_p d78_42 rfl rfl ?_
  refine R_p d78_43 rfl rfl ?_
  refine R_cc [.ref 17] d78_44 (List.mem_of_getElem? (i := 8) rfl) rfl ⟨by decide, by decide, by decide, rfl, mcd9⟩ rfl rfl (by decide) rfl rfl rk_HK17 ?_
  refine R_put d78_47 (List.mem_of_getElem? (i := 38) rfl) rfl (by decide) rfl rfl (Or.inr ⟨rfl, rfl⟩) ?_
  exact R_vret d78_50 rfl rfl
set_option maxRecDepth 4000 in
theorem rk_MeshWalk {S : mE} : Run S 91 (0, [(0, .ref 16)], [], HK0) (.inl none, HK19) := by
  refine R_p d91_0 rfl rfl ?_
  refine R_obj d91_1 (List.mem_of_getElem? (i := 0) rfl) (by decide) (by decide) ?_
  refine R_new d91_4 (List.mem_of_getElem? (i := 1) rfl) ?_
  refine R_p d91_7 rfl rfl ?_
  refine R_cc [] d91_8 (List.mem_of_getElem? (i := 1) rfl) rfl ⟨by decide, by decide, by decide, rfl, mcd65⟩ rfl rfl (by decide) rfl rfl rk_HK4 ?_
  refine R_p (ls' := [(0, .ref 16), (1, .ref 17)]) d91_11 rfl rfl ?_
  refine R_new d91_12 (List.mem_of_getElem? (i := 3) rfl) ?_
  refine R_p d91_15 rfl rfl ?_
  refine R_p d91_16 rfl rfl ?_
  refine R_cc [.ref 17] d91_17 (List.mem_of_getElem? (i := 3) rfl) rfl ⟨by decide, by decide, by decide, rfl, mcd35⟩ rfl rfl (by decide) rfl rfl rk_HK6 ?_
  refine R_p (ls' := [(0, .ref 16), (1, .ref 17), (2, .ref 21)]) d91_20 rfl rfl ?_
  refine R_new d91_21 (List.mem_of_getElem? (i := 4) rfl) ?_
  refine R_p d91_24 rfl rfl ?_
  refine R_p d91_25 rfl rfl ?_
  refine R_p d91_26 rfl rfl ?_
  refine R_cc [.ref 17, .ref 21] d91_27 (List.mem_of_getElem? (i := 4) rfl) rfl ⟨by decide, by decide, by decide, rfl, mcd44⟩ rfl rfl (by decide) rfl rfl rk_HK8 ?_
  refine R_p (ls' := [(0, .ref 16), (1, .ref 17), (2, .ref 21), (3, .ref 23)]) d91_30 rfl rfl ?_
  refine R_p d91_31 rfl rfl ?_
  refine R_p d91_32 rfl rfl ?_
  refine R_put d91_33 (List.mem_of_getElem? (i := 43) rfl) rfl (by decide) rfl rfl (Or.inr ⟨rfl, rfl⟩) ?_
  refine R_p d91_36 rfl rfl ?_
  refine R_p d91_37 rfl rfl ?_
  refine R_put d91_38 (List.mem_of_getElem? (i := 44) rfl) rfl (by decide) rfl rfl (Or.inr ⟨rfl, rfl⟩) ?_
  refine R_p d91_41 rfl rfl ?_
  refine R_p d91_42 rfl rfl ?_
  refine R_put d91_43 (List.mem_of_getElem? (i := 45) rfl) rfl (by decide) rfl rfl (Or.inr ⟨rfl, rfl⟩) ?_
  refine R_p d91_46 rfl rfl ?_
  refine R_new d91_47 (List.mem_of_getElem? (i := 5) rfl) ?_
  refine R_p d91_50 rfl rfl ?_
  refine R_p d91_51 rfl rfl ?_
  refine R_p d91_52 rfl rfl ?_
  refine R_cc [.ref 17, .ref 23] d91_53 (List.mem_of_getElem? (i := 6) rfl) rfl ⟨by decide, by decide, by decide, rfl, mcd19⟩ rfl rfl (by decide) rfl rfl rk_HK10 ?_
  refine R_put d91_56 (List.mem_of_getElem? (i := 46) rfl) rfl (by decide) rfl rfl (Or.inr ⟨rfl, rfl⟩) ?_
  refine R_p d91_59 rfl rfl ?_
  refine R_new d91_60 (List.mem_of_getElem? (i := 6) rfl) ?_
  refine R_p d91_63 rfl rfl ?_
  refine R_p d91_64 rfl rfl ?_
  refine R_p d91_65 rfl rfl ?_
  refine R_cc [.ref 17, .ref 23] d91_66 (List.mem_of_getElem? (i := 7) rfl) rfl ⟨by decide, by decide, by decide, rfl, mcd78⟩ rfl rfl (by decide) rfl rfl rk_HK18 ?_
  refine R_put d91_69 (List.mem_of_getElem? (i := 47) rfl) rfl (by decide) rfl rfl (Or.inr ⟨rfl, rfl⟩) ?_
  exact R_vret d91_72 rfl rfl
set_option maxRecDepth 4000 in
theorem rk_Model {S : mE} : Run S 112 (0, [(0, .ref 42)], [], HK20) (.inl none, HK21) := by
  refine R_p d112_0 rfl rfl ?_
  refine R_obj d112_1 (List.mem_of_getElem? (i := 9) rfl) (by decide) (by decide) ?_
  refine R_p d112_4 rfl rfl ?_
  refine R_bi (v := 42) d112_5 (by decide) ?_
  refine R_newa (N := 42) d112_7 rfl rfl (by decide) (by decide) (by decide) ?_
  refine R_put d112_9 (List.mem_of_getElem? (i := 50) rfl) rfl (by decide) rfl rfl (Or.inr ⟨rfl, rfl⟩) ?_
  refine R_p d112_12 rfl rfl ?_
  refine R_bi (v := 42) d112_13 (by decide) ?_
  refine R_newa (N := 42) d112_15 rfl rfl (by decide) (by decide) (by decide) ?_
  refine R_put d112_17 (List.mem_of_getElem? (i := 51) rfl) rfl (by decide) rfl rfl (Or.inr ⟨rfl, rfl⟩) ?_
  refine R_p d112_20 rfl rfl ?_
  refine R_si (v := 1600) d112_21 (by decide) ?_
  refine R_newa (N := 1600) d112_24 rfl rfl (by decide) (by decide) (by decide) ?_
  refine R_put d112_26 (List.mem_of_getElem? (i := 52) rfl) rfl (by decide) rfl rfl (Or.inr ⟨rfl, rfl⟩) ?_
  refine R_p d112_29 rfl rfl ?_
  refine R_si (v := 1600) d112_30 (by decide) ?_
  refine R_newa (N := 1600) d112_33 rfl rfl (by decide) (by decide) (by decide) ?_
  refine R_put d112_35 (List.mem_of_getElem? (i := 53) rfl) rfl (by decide) rfl rfl (Or.inr ⟨rfl, rfl⟩) ?_
  refine R_p d112_38 rfl rfl ?_
  refine R_si (v := 300) d112_39 (by decide) ?_
  refine R_newa (N := 300) d112_42 rfl rfl (by decide) (by decide) (by decide) ?_
  refine R_put d112_44 (List.mem_of_getElem? (i := 56) rfl) rfl (by decide) rfl rfl (Or.inr ⟨rfl, rfl⟩) ?_
  refine R_p d112_47 rfl rfl ?_
  refine R_bi (v := 100) d112_48 (by decide) ?_
  refine R_newa (N := 100) d112_50 rfl rfl (by decide) (by decide) (by decide) ?_
  refine R_put d112_52 (List.mem_of_getElem? (i := 58) rfl) rfl (by decide) rfl rfl (Or.inr ⟨rfl, rfl⟩) ?_
  refine R_p d112_55 rfl rfl ?_
  refine R_bi (v := 100) d112_56 (by decide) ?_
  refine R_newa (N := 100) d112_58 rfl rfl (by decide) (by decide) (by decide) ?_
  refine R_put d112_60 (List.mem_of_getElem? (i := 60) rfl) rfl (by decide) rfl rfl (Or.inr ⟨rfl, rfl⟩) ?_
  refine R_p d112_63 rfl rfl ?_
  refine R_bi (v := 100) d112_64 (by decide) ?_
  refine R_newa (N := 100) d112_66 rfl rfl (by decide) (by decide) (by decide) ?_
  refine R_put d112_68 (List.mem_of_getElem? (i := 61) rfl) rfl (by decide) rfl rfl (Or.inr ⟨rfl, rfl⟩) ?_
  refine R_p d112_71 rfl rfl ?_
  refine R_bi (v := 100) d112_72 (by decide) ?_
  refine R_newa (N := 100) d112_74 rfl rfl (by decide) (by decide) (by decide) ?_
  refine R_put d112_76 (List.mem_of_getElem? (i := 62) rfl) rfl (by decide) rfl rfl (Or.inr ⟨rfl, rfl⟩) ?_
  refine R_p d112_79 rfl rfl ?_
  refine R_bi (v := 100) d112_80 (by decide) ?_
  refine R_newa (N := 100) d112_82 rfl rfl (by decide) (by decide) (by decide) ?_
  refine R_put d112_84 (List.mem_of_getElem? (i := 63) rfl) rfl (by decide) rfl rfl (Or.inr ⟨rfl, rfl⟩) ?_
  exact R_vret d112_87 rfl rfl
end
section
/-! loops of the reference, by hand (wip/gen/c16.py); contracts of small methods, on any heap that holds their cells -/
theorem d114_179 : decode (mCode 114) 179 = .ok (.iload 4, 2) := by decide +kernel
theorem d114_181 : decode (mCode 114) 181 = .ok (.bipush 40, 2) := by decide +kernel
theorem d114_183 : decode (mCode 114) 183 = .ok (.if_icmp .ge 41, 3) := by decide +kernel
theorem d114_186 : decode (mCode 114) 186 = .ok (.aload_n 0, 1) := by decide +kernel
theorem d114_187 : decode (mCode 114) 187 = .ok (.getfield 16, 3) := by decide +kernel
theorem d114_190 : decode (mCode 114) 190 = .ok (.bipush 40, 2) := by decide +kernel
theorem d114_192 : decode (mCode 114) 192 = .ok (.aload_n 0, 1) := by decide +kernel
theorem d114_193 : decode (mCode 114) 193 = .ok (.getfield 52, 3) := by decide +kernel
theorem d114_196 : decode (mCode 114) 196 = .ok (.imul, 1) := by decide +kernel
theorem d114_197 : decode (mCode 114) 197 = .ok (.iload 4, 2) := by decide +kernel
theorem d114_199 : decode (mCode 114) 199 = .ok (.iadd, 1) := by decide +kernel
theorem d114_200 : decode (mCode 114) 200 = .ok (.iconst 0, 1) := by decide +kernel
theorem d114_201 : decode (mCode 114) 201 = .ok (.bastore, 1) := by decide +kernel
theorem d114_202 : decode (mCode 114) 202 = .ok (.aload_n 0, 1) := by decide +kernel
theorem d114_203 : decode (mCode 114) 203 = .ok (.getfield 16, 3) := by decide +kernel
theorem d114_206 : decode (mCode 114) 206 = .ok (.bipush 40, 2) := by decide +kernel
theorem d114_208 : decode (mCode 114) 208 = .ok (.iload 4, 2) := by decide +kernel
theorem d114_210 : decode (mCode 114) 210 = .ok (.imul, 1) := by decide +kernel
theorem d114_211 : decode (mCode 114) 211 = .ok (.aload_n 0, 1) := by decide +kernel
theorem d114_212 : decode (mCode 114) 212 = .ok (.getfield 52, 3) := by decide +kernel
theorem d114_215 : decode (mCode 114) 215 = .ok (.iadd, 1) := by decide +kernel
theorem d114_216 : decode (mCode 114) 216 = .ok (.iconst 0, 1) := by decide +kernel
theorem d114_217 : decode (mCode 114) 217 = .ok (.bastore, 1) := by decide +kernel
theorem d114_218 : decode (mCode 114) 218 = .ok (.iinc 4 1, 3) := by decide +kernel
theorem d114_221 : decode (mCode 114) 221 = .ok (.goto (-42), 3) := by decide +kernel
theorem d126_17 : decode (mCode 126) 17 = .ok (.iload_n 2, 1) := by decide +kernel
theorem d126_18 : decode (mCode 126) 18 = .ok (.sipush 1600, 3) := by decide +kernel
theorem d126_21 : decode (mCode 126) 21 = .ok (.if_icmp .ge 16, 3) := by decide +kernel
theorem d126_24 : decode (mCode 126) 24 = .ok (.aload_n 0, 1) := by decide +kernel
theorem d126_25 : decode (mCode 126) 25 = .ok (.getfield 16, 3) := by decide +kernel
theorem d126_28 : decode (mCode 126) 28 = .ok (.iload_n 2, 1) := by decide +kernel
theorem d126_29 : decode (mCode 126) 29 = .ok (.iconst 0, 1) := by decide +kernel
theorem d126_30 : decode (mCode 126) 30 = .ok (.bastore, 1) := by decide +kernel
theorem d126_31 : decode (mCode 126) 31 = .ok (.iinc 2 1, 3) := by decide +kernel
theorem d126_34 : decode (mCode 126) 34 = .ok (.goto (-17), 3) := by decide +kernel
theorem d128_20 : decode (mCode 128) 20 = .ok (.iload_n 1, 1) := by decide +kernel
theorem d128_21 : decode (mCode 128) 21 = .ok (.sipush 1600, 3) := by decide +kernel
theorem d128_24 : decode (mCode 128) 24 = .ok (.if_icmp .ge 21, 3) := by decide +kernel
theorem d128_27 : decode (mCode 128) 27 = .ok (.aload_n 0, 1) := by decide +kernel
theorem d128_28 : decode (mCode 128) 28 = .ok (.getfield 20, 3) := by decide +kernel
theorem d128_31 : decode (mCode 128) 31 = .ok (.iload_n 1, 1) := by decide +kernel
theorem d128_32 : decode (mCode 128) 32 = .ok (.aload_n 0, 1) := by decide +kernel
theorem d128_33 : decode (mCode 128) 33 = .ok (.getfield 16, 3) := by decide +kernel
theorem d128_36 : decode (mCode 128) 36 = .ok (.iload_n 1, 1) := by decide +kernel
theorem d128_37 : decode (mCode 128) 37 = .ok (.baload, 1) := by decide +kernel
theorem d128_38 : decode (mCode 128) 38 = .ok (.bastore, 1) := by decide +kernel
theorem d128_39 : decode (mCode 128) 39 = .ok (.iinc 1 1, 3) := by decide +kernel
theorem d128_42 : decode (mCode 128) 42 = .ok (.goto (-22), 3) := by decide +kernel
def mcpz (n : Nat) (L E : Nat → Int32) : Nat → Int32 := fun j => if j < n then vp_nar .boolean (L j) else E j
theorem mcpz_0 (L E : Nat → Int32) : mcpz 0 L E = E := by funext j; simp [mcpz]
theorem mcpz_s (n : Nat) (L E : Nat → Int32) : upd (mcpz n L E) n (vp_nar .boolean (L n)) = mcpz (n + 1) L E := by
  funext j
  simp only [upd, mcpz]
  by_cases h : j = n
  · simp [h]
  · by_cases h2 : j < n
    · simp [h, h2, Nat.lt_succ_of_lt h2]
    · simp [h, h2, show ¬ j < n + 1 by omega]
theorem nI_1600 : (1600 : Int32) = nI 1600 := by decide
theorem nI_40 : (40 : Int32) = nI 40 := by decide
/-- mesh(): edges[k] = links[k] for all k -/
theorem t_meshCopy {S : mE} {h : mHp} {r : mR} {fs : List Value} {L E : Nat → Int32} (hm : mget h 42 = some (.inr (9, fs))) (h4 : fs[4]? = some (.ref 45)) (h5 : fs[5]? = some (.ref 46)) (hL : mget h 45 = some (.inl (.boolean, 1600, .inl L))) (hE : mget h 46 = some (.inl (.boolean, 1600, .inl E)))
    (kk : Run S 128 (45, [(0, .ref 42), (1, .int 1600)], [], mput h 46 (.inl (.boolean, 1600, .inl (mcpz 1600 L E)))) r) : ∀ k i : Nat, i + k = 1600 → Run S 128 (20, [(0, .ref 42), (1, .int (nI i))], [], mput h 46 (.inl (.boolean, 1600, .inl (mcpz i L E)))) r := by
  intro k
  induction k with
  | zero =>
    intro i hi
    have hi : i = 1600 := by omega
    subst hi
    refine R_p d128_20 rfl rfl ?_
    refine R_si (v := 1600) d128_21 (by decide) ?_
    refine R_br 45 d128_24 (mb_t (b := ((1600 : Int32) ≤ nI 1600)) (by decide)) rfl ?_
    exact kk
  | succ k ih =>
    intro i hi
    refine R_p d128_20 rfl rfl ?_
    refine R_si (v := 1600) d128_21 (by decide) ?_
    refine R_nb d128_24 rfl (mb_f (b := ((1600 : Int32) ≤ nI i)) (by rw [nI_1600]; exact nI_ge (by omega) (by omega))) ?_
    refine R_p d128_27 rfl rfl ?_
    refine R_get d128_28 (Or.inl (List.mem_of_getElem? (i := 53) rfl)) ((mget_ne (by decide) (by decide)).trans hm) h5 ?_
    refine R_p d128_31 rfl rfl ?_
    refine R_p d128_32 rfl rfl ?_
    refine R_get d128_33 (Or.inl (List.mem_of_getElem? (i := 52) rfl)) ((mget_ne (by decide) (by decide)).trans hm) h4 ?_
    refine R_p d128_36 rfl rfl ?_
    refine R_zld d128_37 ((mget_ne (by decide) (by decide)).trans hL) (vp_in_nI (by omega) (by omega)) ?_
    refine R_zst d128_38 (mget_eq hE _) (vp_in_nI (by omega) (by omega)) ?_
    refine R_p d128_39 rfl rfl ?_
    refine R_br 20 d128_42 rfl rfl ?_
    refine R_e (20, [(0, .ref 42), (1, .int (nI (i + 1)))], [], mput h 46 (.inl (.boolean, 1600, .inl (mcpz (i + 1) L E)))) ?_ (ih (i + 1) (by omega))
    rw [mput_put, nI_clamp (by omega), mcpz_s, ← nI_inc]
    rfl
/-- clear(): links[k] = false for all k -/
theorem t_clearLoop {S : mE} {h : mHp} {r : mR} {fs : List Value} {n : Int32} {L : Nat → Int32} (hm : mget h 42 = some (.inr (9, fs))) (h4 : fs[4]? = some (.ref 45)) (hL : mget h 45 = some (.inl (.boolean, 1600, .inl L)))
    (kk : Run S 126 (37, [(0, .ref 42), (1, .int n), (2, .int 1600)], [], mput h 45 (.inl (.boolean, 1600, .inl (mfill 1600 0 L)))) r) : ∀ k i : Nat, i + k = 1600 → Run S 126 (17, [(0, .ref 42), (1, .int n), (2, .int (nI i))], [], mput h 45 (.inl (.boolean, 1600, .inl (mfill i 0 L)))) r := by
  intro k
  induction k with
  | zero =>
    intro i hi
    have hi : i = 1600 := by omega
    subst hi
    refine R_p d126_17 rfl rfl ?_
    refine R_si (v := 1600) d126_18 (by decide) ?_
    refine R_br 37 d126_21 (mb_t (b := ((1600 : Int32) ≤ nI 1600)) (by decide)) rfl ?_
    exact kk
  | succ k ih =>
    intro i hi
    refine R_p d126_17 rfl rfl ?_
    refine R_si (v := 1600) d126_18 (by decide) ?_
    refine R_nb d126_21 rfl (mb_f (b := ((1600 : Int32) ≤ nI i)) (by rw [nI_1600]; exact nI_ge (by omega) (by omega))) ?_
    refine R_p d126_24 rfl rfl ?_
    refine R_get d126_25 (Or.inl (List.mem_of_getElem? (i := 52) rfl)) ((mget_ne (by decide) (by decide)).trans hm) h4 ?_
    refine R_p d126_28 rfl rfl ?_
    refine R_ic (v := 0) d126_29 (by decide) ?_
    refine R_zst d126_30 (mget_eq hL _) (vp_in_nI (by omega) (by omega)) ?_
    refine R_p d126_31 rfl rfl ?_
    refine R_br 17 d126_34 rfl rfl ?_
    refine R_e (17, [(0, .ref 42), (1, .int n), (2, .int (nI (i + 1)))], [], mput h 45 (.inl (.boolean, 1600, .inl (mfill (i + 1) 0 L)))) ?_ (ih (i + 1) (by omega))
    rw [mput_put, nI_clamp (by omega), show vp_nar .boolean 0 = 0 from by decide, mfill_s, ← nI_inc]
    rfl
def mrow (p n : Nat) (L : Nat → Int32) : Nat → Int32 := fun j => if (40 * p ≤ j ∧ j < 40 * p + n) ∨ (j % 40 = p ∧ j / 40 < n) then 0 else L j
theorem mrow_0 (p : Nat) (L : Nat → Int32) : mrow p 0 L = L := by
  funext j
  simp only [mrow]
  rw [if_neg (by omega)]
theorem mrow_s (p n : Nat) (hp : p < 40) (L : Nat → Int32) : upd (upd (mrow p n L) (40 * p + n) 0) (40 * n + p) 0 = mrow p (n + 1) L := by
  funext j
  simp only [upd, mrow]
  by_cases h1 : j = 40 * n + p
  · rw [if_pos h1, if_pos (Or.inr (by omega))]
  · rw [if_neg h1]
    by_cases h2 : j = 40 * p + n
    · rw [if_pos h2, if_pos (Or.inl (by omega))]
    · rw [if_neg h2]
      by_cases h3 : (40 * p ≤ j ∧ j < 40 * p + n) ∨ (j % 40 = p ∧ j / 40 < n)
      · rw [if_pos h3, if_pos (by omega)]
      · rw [if_neg h3, if_neg (by omega)]
/-- add(..): the row and the column of the new point are emptied -/
theorem t_addLoop {S : mE} {h : mHp} {r : mR} {fs : List Value} {p : Nat} {L : Nat → Int32} {x y : Int32} {tl : mL} (hp : p < 40) (hm : mget h 42 = some (.inr (9, fs))) (h1 : fs[1]? = some (.int (nI p))) (h4 : fs[4]? = some (.ref 45)) (hL : mget h 45 = some (.inl (.boolean, 1600, .inl L))) (v3 v5 : Int32)
    (htl : tl = [] ∨ tl = [(5, .int v5)])
    (kk : Run S 114 (224, [(0, .ref 42), (1, .int x), (2, .int y), (3, .int v3), (4, .int 40)] ++ tl, [], mput h 45 (.inl (.boolean, 1600, .inl (mrow p 40 L)))) r) : ∀ k i : Nat, i + k = 40 → Run S 114 (179, [(0, .ref 42), (1, .int x), (2, .int y), (3, .int v3), (4, .int (nI i))] ++ tl, [], mput h 45 (.inl (.boolean, 1600, .inl (mrow p i L)))) r := by
  intro k
  induction k with
  | zero =>
    intro i hi
    have hi : i = 40 := by omega
    subst hi
    refine R_p d114_179 rfl rfl ?_
    refine R_bi (v := 40) d114_181 (by decide) ?_
    refine R_br 224 d114_183 (mb_t (b := ((40 : Int32) ≤ nI 40)) (by decide)) rfl ?_
    exact kk
  | succ k ih =>
    intro i hi
    refine R_p d114_179 rfl rfl ?_
    refine R_bi (v := 40) d114_181 (by decide) ?_
    refine R_nb d114_183 rfl (mb_f (b := ((40 : Int32) ≤ nI i)) (by rw [nI_40]; exact nI_ge (by omega) (by omega))) ?_
    refine R_p d114_186 rfl rfl ?_
    refine R_get d114_187 (Or.inl (List.mem_of_getElem? (i := 52) rfl)) ((mget_ne (by decide) (by decide)).trans hm) h4 ?_
    refine R_bi (v := 40) d114_190 (by decide) ?_
    refine R_p d114_192 rfl rfl ?_
    refine R_get d114_193 (Or.inl (List.mem_of_getElem? (i := 49) rfl)) ((mget_ne (by decide) (by decide)).trans hm) h1 ?_
    refine R_p d114_196 rfl rfl ?_
    refine R_p d114_197 rfl rfl ?_
    refine R_p d114_199 rfl rfl ?_
    refine R_ic (v := 0) d114_200 (by decide) ?_
    have e1 : (40 : Int32) * nI p + nI i = nI (40 * p + i) := by rw [nI_40, pk_mul, nI_add]
    have e2 : (40 : Int32) * nI i + nI p = nI (40 * i + p) := by rw [nI_40, pk_mul, nI_add]
    refine R_zst d114_201 (mget_eq hL _) (by show vp_in ((40 : Int32) * nI p + nI i) 1600; rw [e1]; exact vp_in_nI (by omega) (by omega)) ?_
    refine R_p d114_202 rfl rfl ?_
    refine R_get d114_203 (Or.inl (List.mem_of_getElem? (i := 52) rfl)) ((mget_ne (by decide) (by decide)).trans ((mget_ne (by decide) (by decide)).trans hm)) h4 ?_
    refine R_bi (v := 40) d114_206 (by decide) ?_
    refine R_p d114_208 rfl rfl ?_
    refine R_p d114_210 rfl rfl ?_
    refine R_p d114_211 rfl rfl ?_
    refine R_get d114_212 (Or.inl (List.mem_of_getElem? (i := 49) rfl)) ((mget_ne (by decide) (by decide)).trans ((mget_ne (by decide) (by decide)).trans hm)) h1 ?_
    refine R_p d114_215 rfl rfl ?_
    refine R_ic (v := 0) d114_216 (by decide) ?_
    refine R_zst d114_217 (mget_eq (mget_eq hL _) _) (by show vp_in ((40 : Int32) * nI i + nI p) 1600; rw [e2]; exact vp_in_nI (by omega) (by omega)) ?_
    refine R_p (ls' := [(0, .ref 42), (1, .int x), (2, .int y), (3, .int v3), (4, .int (nI i + Int32.ofInt 1))] ++ tl) d114_218 rfl (by rcases htl with rfl | rfl <;> rfl) ?_
    refine R_br 179 d114_221 rfl rfl ?_
    refine R_e (179, [(0, .ref 42), (1, .int x), (2, .int y), (3, .int v3), (4, .int (nI (i + 1)))] ++ tl, [], mput h 45 (.inl (.boolean, 1600, .inl (mrow p (i + 1) L)))) ?_ (ih (i + 1) (by omega))
    dsimp only
    rw [mput_put, mput_put, e1, e2, nI_clamp (by omega), nI_clamp (by omega), show vp_nar .boolean 0 = 0 from by decide, mrow_s p i hp, ← nI_inc]
end
section
/-! rows for walks over wholly known heaps; the loops of part 16 from their beginnings -/
section Sym
variable {S : mE} {M pc : Nat} {ls : mL} {st : List Value} {h : mHp} {r : mR}
theorem R_nv {v v' : Int32} (e : v = v') (k : Run S M (pc, ls, .int v' :: st, h) r) : Run S M (pc, ls, .int v :: st, h) r := e ▸ k
theorem R_nw {v v' : Int64} (e : v = v') (k : Run S M (pc, ls, .long v' :: st, h) r) : Run S M (pc, ls, .long v :: st, h) r := e ▸ k
theorem Q_nv {v v' : Int32} (e : v = v') (k : RunsP M (pc, ls, .int v' :: st, h) r) : RunsP M (pc, ls, .int v :: st, h) r := e ▸ k
theorem vp_ok {i : Int32} {n : Nat} (h : ¬ (i < 0 ∨ n ≤ i.toNatClampNeg)) : vp_in i n := h
theorem R_sldk {N : Nat} {f : Nat → Int32} {i x : Int32} {n : Nat} (hd : decode (mCode M) pc = .ok (.iaload, 1)) (hin : vp_in i N) (hn : i.toNatClampNeg = n) (hx : f n = x) (k : Run (N, f) M (pc + 1, ls, .int x :: st, h) r) : Run (N, f) M (pc, ls, .int i :: .ref 0 :: st, h) r := R_sld hd hin (by rw [hn]; show Run (N, f) M (pc + 1, ls, .int (f n) :: st, h) r; rw [hx]; exact k)
theorem m1_lt {x : Int32} (h : ¬ x < 0) : -1 < x := by
  rw [Int32.lt_iff_toInt_lt] at h ⊢
  have e0 : (0 : Int32).toInt = 0 := by decide
  have e1 : (-1 : Int32).toInt = -1 := by decide
  omega
theorem m1_nlt {x : Int32} (h : x < 0) : ¬ -1 < x := by
  rw [Int32.lt_iff_toInt_lt] at h ⊢
  have e0 : (0 : Int32).toInt = 0 := by decide
  have e1 : (-1 : Int32).toInt = -1 := by decide
  omega
theorem sw_ne {x : Int32} {n : Int32} (h : ¬ x = n) : x.toInt ≠ n.toInt := fun e => h (Int32.toInt_inj.mp e)
theorem sw_out5 {x : Int32} (h0 : ¬ x = 0) (h1 : ¬ x = 1) (h2 : ¬ x = 2) (h3 : ¬ x = 3) (h4 : ¬ x = 4) : x.toInt < 0 ∨ 4 < x.toInt := by
  have a0 := sw_ne h0; have a1 := sw_ne h1; have a2 := sw_ne h2; have a3 := sw_ne h3; have a4 := sw_ne h4
  simp only [show (0 : Int32).toInt = 0 from by decide, show (1 : Int32).toInt = 1 from by decide, show (2 : Int32).toInt = 2 from by decide, show (3 : Int32).toInt = 3 from by decide, show (4 : Int32).toInt = 4 from by decide] at a0 a1 a2 a3 a4
  omega
theorem R_meshCopy {fs : List Value} {L E : Nat → Int32} (hm : mget h 42 = some (.inr (9, fs))) (h4 : fs[4]? = some (.ref 45)) (h5 : fs[5]? = some (.ref 46)) (hL : mget h 45 = some (.inl (.boolean, 1600, .inl L))) (hE : mget h 46 = some (.inl (.boolean, 1600, .inl E))) (kk : Run S 128 (45, [(0, .ref 42), (1, .int 1600)], [], mput h 46 (.inl (.boolean, 1600, .inl (mcpz 1600 L E)))) r) : Run S 128 (20, [(0, .ref 42), (1, .int 0)], [], h) r := by
  refine R_e (20, [(0, .ref 42), (1, .int (nI 0))], [], mput h 46 (.inl (.boolean, 1600, .inl (mcpz 0 L E)))) ?_ (t_meshCopy hm h4 h5 hL hE kk 1600 0 (by omega))
  rw [mcpz_0, mput_self hE]
  rfl
theorem R_clearLoop {fs : List Value} {n : Int32} {L : Nat → Int32} (hm : mget h 42 = some (.inr (9, fs))) (h4 : fs[4]? = some (.ref 45)) (hL : mget h 45 = some (.inl (.boolean, 1600, .inl L))) (kk : Run S 126 (37, [(0, .ref 42), (1, .int n), (2, .int 1600)], [], mput h 45 (.inl (.boolean, 1600, .inl (mfill 1600 0 L)))) r) : Run S 126 (17, [(0, .ref 42), (1, .int n), (2, .int 0)], [], h) r := by
  refine R_e (17, [(0, .ref 42), (1, .int n), (2, .int (nI 0))], [], mput h 45 (.inl (.boolean, 1600, .inl (mfill 0 0 L)))) ?_ (t_clearLoop hm h4 hL kk 1600 0 (by omega))
  rw [mfill_0, mput_self hL]
  rfl
theorem R_addLoop {fs : List Value} {p : Nat} {L : Nat → Int32} {x y v3 : Int32} (hp : p < 40) (hm : mget h 42 = some (.inr (9, fs))) (h1 : fs[1]? = some (.int (nI p))) (h4 : fs[4]? = some (.ref 45)) (hL : mget h 45 = some (.inl (.boolean, 1600, .inl L))) (kk : Run S 114 (224, [(0, .ref 42), (1, .int x), (2, .int y), (3, .int v3), (4, .int 40)], [], mput h 45 (.inl (.boolean, 1600, .inl (mrow p 40 L)))) r) : Run S 114 (179, [(0, .ref 42), (1, .int x), (2, .int y), (3, .int v3), (4, .int 0)], [], h) r := by
  refine R_e (179, [(0, .ref 42), (1, .int x), (2, .int y), (3, .int v3), (4, .int (nI 0))] ++ [], [], mput h 45 (.inl (.boolean, 1600, .inl (mrow p 0 L)))) ?_ (t_addLoop hp hm h1 h4 hL v3 0 (Or.inl rfl) kk 40 0 (by omega))
  rw [mrow_0, mput_self hL]
  rfl
end Sym
end
section
/-! the law: its entry, its loop head, its end -/
theorem d171_0 : decode (mCode 171) 0 = .ok (.new 8, 3) := by decide +kernel
theorem d171_3 : decode (mCode 171) 3 = .ok (.dup, 1) := by decide +kernel
theorem d171_4 : decode (mCode 171) 4 = .ok (.invokespecial 49, 3) := by decide +kernel
theorem d171_7 : decode (mCode 171) 7 = .ok (.astore_n 1, 1) := by decide +kernel
theorem d171_8 : decode (mCode 171) 8 = .ok (.new 50, 3) := by decide +kernel
theorem d171_11 : decode (mCode 171) 11 = .ok (.dup, 1) := by decide +kernel
theorem d171_12 : decode (mCode 171) 12 = .ok (.invokespecial 52, 3) := by decide +kernel
theorem d171_15 : decode (mCode 171) 15 = .ok (.astore_n 2, 1) := by decide +kernel
theorem d171_16 : decode (mCode 171) 16 = .ok (.iconst 1, 1) := by decide +kernel
theorem d171_17 : decode (mCode 171) 17 = .ok (.newarray .long, 2) := by decide +kernel
theorem d171_19 : decode (mCode 171) 19 = .ok (.astore_n 3, 1) := by decide +kernel
theorem d171_20 : decode (mCode 171) 20 = .ok (.iconst 0, 1) := by decide +kernel
theorem d171_21 : decode (mCode 171) 21 = .ok (.istore 4, 2) := by decide +kernel
theorem d171_23 : decode (mCode 171) 23 = .ok (.iload 4, 2) := by decide +kernel
theorem d171_25 : decode (mCode 171) 25 = .ok (.aload_n 0, 1) := by decide +kernel
theorem d171_26 : decode (mCode 171) 26 = .ok (.arraylength, 1) := by decide +kernel
theorem d171_27 : decode (mCode 171) 27 = .ok (.iconst 5, 1) := by decide +kernel
theorem d171_28 : decode (mCode 171) 28 = .ok (.isub, 1) := by decide +kernel
theorem d171_29 : decode (mCode 171) 29 = .ok (.if_icmp .gt 927, 3) := by decide +kernel
theorem d171_32 : decode (mCode 171) 32 = .ok (.aload_n 0, 1) := by decide +kernel
theorem d171_33 : decode (mCode 171) 33 = .ok (.iload 4, 2) := by decide +kernel
theorem d171_35 : decode (mCode 171) 35 = .ok (.iaload, 1) := by decide +kernel
theorem d171_36 : decode (mCode 171) 36 = .ok (.bipush 15, 2) := by decide +kernel
theorem d171_38 : decode (mCode 171) 38 = .ok (.iand, 1) := by decide +kernel
theorem d171_39 : decode (mCode 171) 39 = .ok (.tableswitch 911 0 13 #[69, 137, 212, 287, 300, 325, 393, 461, 529, 609, 701, 769, 861, 886], 69) := by decide +kernel
theorem d171_950 : decode (mCode 171) 950 = .ok (.iinc 4 5, 3) := by decide +kernel
theorem d171_953 : decode (mCode 171) 953 = .ok (.goto (-930), 3) := by decide +kernel
theorem d171_956 : decode (mCode 171) 956 = .ok (.iconst 1, 1) := by decide +kernel
theorem d171_957 : decode (mCode 171) 957 = .ok (.ireturn, 1) := by decide +kernel
def HL0 : mHp := [(.inr (8, [.ref 17, .ref 21, .ref 23, .ref 29, .ref 32])), (.inr (5, [.ref 18, .ref 19, .ref 20, .int 0])), (.inl (.int, 42, .inl ((fun _ => 0)))), (.inl (.int, 42, .inl ((fun _ => 0)))), (.inr (7, [.long 0, .long 0, .long 0])), (.inr (3, [.ref 17, .ref 22, .int 0])), (.inl (.long, 40, .inr (.inl ((fun _ => 0))))), (.inr (4, [.ref 17, .ref 21, .ref 24, .ref 25, .ref 26, .int 0, .ref 27, .int 0, .ref 28])), (.inl (.int, 1600, .inl (mfill 1600 (-1) (fun _ => 0)))), (.inl (.int, 1600, .inl ((fun _ => 0)))), (.inl (.int, 225, .inl ((fun _ => 0)))), (.inl (.int, 800, .inl ((fun _ => 0)))), (.inl (.long, 40, .inr (.inl ((fun _ => 0))))), (.inr (2, [.ref 17, .ref 23, .ref 30, .ref 31, .int 0])), (.inl (.int, 75, .inl ((fun _ => 0)))), (.inl (.int, 75, .inl ((fun _ => 0)))), (.inr (6, [.ref 17, .ref 23, .ref 36, .ref 33, .int 0, .ref 34, .ref 35])), (.inl (.int, 75, .inl ((fun _ => 0)))), (.inl (.int, 75, .inl ((fun _ => 0)))), (.inl (.int, 75, .inl ((fun _ => 0)))), (.inr (1, [.ref 17, .ref 37, .ref 39, .int 0, .int 0, .int 0, .ref 41, .int 0])), (.inr (0, [.int 1, .ref 38, .int 0, .int 0])), (.inl (.int, 77, .inl ((fun _ => 0)))), (.inr (0, [.int (-1), .ref 40, .int 0, .int 0])), (.inl (.int, 77, .inl ((fun _ => 0)))), (.inl (.int, 77, .inl ((fun _ => 0)))), (.inr (9, [.int 0, .int 0, .ref 43, .ref 44, .ref 45, .ref 46, .int 0, .int 0, .ref 47, .int 0, .ref 48, .int 0, .ref 49, .ref 50, .ref 51, .ref 52, .long 0, .long 0])), (.inl (.long, 42, .inr (.inl ((fun _ => 0))))), (.inl (.long, 42, .inr (.inl ((fun _ => 0))))), (.inl (.boolean, 1600, .inl ((fun _ => 0)))), (.inl (.boolean, 1600, .inl ((fun _ => 0)))), (.inl (.int, 300, .inl ((fun _ => 0)))), (.inl (.int, 100, .inl ((fun _ => 0)))), (.inl (.int, 100, .inl ((fun _ => 0)))), (.inl (.int, 100, .inl ((fun _ => 0)))), (.inl (.int, 100, .inl ((fun _ => 0)))), (.inl (.int, 100, .inl ((fun _ => 0)))), (.inl (.long, 1, .inr (.inl (fun _ => 0))))]
set_option maxRecDepth 4000 in
theorem law_entry {S : mE} {r : mR} (kk : Run S 171 (23, [(0, .ref 0), (1, .ref 16), (2, .ref 42), (3, .ref 53), (4, .int 0)], [], HL0) r) : Run S 171 (0, [(0, .ref 0)], [], []) r := by
  refine R_new d171_0 (List.mem_of_getElem? (i := 0) rfl) ?_
  refine R_p d171_3 rfl rfl ?_
  refine R_cc [] d171_4 (List.mem_of_getElem? (i := 0) rfl) rfl ⟨by decide, by decide, Nat.le_of_ble_eq_true rfl, rfl, mcd91⟩ rfl rfl (by decide) rfl rfl rk_MeshWalk ?_
  refine R_p (ls' := [(0, .ref 0), (1, .ref 16)]) d171_7 rfl rfl ?_
  refine R_new d171_8 (List.mem_of_getElem? (i := 9) rfl) ?_
  refine R_p d171_11 rfl rfl ?_
  refine R_h HK20 rfl ?_
  refine R_cc [] d171_12 (List.mem_of_getElem? (i := 159) rfl) rfl ⟨by decide, by decide, Nat.le_of_ble_eq_true rfl, rfl, mcd112⟩ rfl rfl (by decide) rfl rfl rk_Model ?_
  refine R_p (ls' := [(0, .ref 0), (1, .ref 16), (2, .ref 42)]) d171_15 rfl rfl ?_
  refine R_ic (v := 1) d171_16 (by decide) ?_
  refine R_newa (N := 1) d171_17 rfl rfl (by decide) (by decide) (by decide) ?_
  refine R_p (ls' := [(0, .ref 0), (1, .ref 16), (2, .ref 42), (3, .ref 53)]) d171_19 rfl rfl ?_
  refine R_ic (v := 0) d171_20 (by decide) ?_
  refine R_p (ls' := [(0, .ref 0), (1, .ref 16), (2, .ref 42), (3, .ref 53), (4, .int 0)]) d171_21 rfl rfl ?_
  refine R_h HL0 rfl ?_
  exact kk
theorem law_exit {S : mE} {ls : mL} {h : mHp} : Run S 171 (956, ls, [], h) (.inl (some (.int 1)), h) := by
  refine R_ic (v := 1) d171_956 (by decide) ?_
  exact R_iret d171_957 rfl rfl rfl
/-- the loop's test: it ends -/
theorem law_out {S : mE} {i : Int32} {tl : mL} {h : mHp} (hi : Int32.ofNat S.1 - 5 < i) : Run S 171 (23, [(0, .ref 0), (1, .ref 16), (2, .ref 42), (3, .ref 53), (4, .int i)] ++ tl, [], h) (.inl (some (.int 1)), h) := by
  refine R_p d171_23 rfl rfl ?_
  refine R_p d171_25 rfl rfl ?_
  refine R_sln d171_26 ?_
  refine R_ic (v := 5) d171_27 (by decide) ?_
  refine R_p d171_28 rfl rfl ?_
  refine R_br 956 d171_29 (mb_t (b := (Int32.ofNat S.1 - 5 < i)) hi) rfl ?_
  exact law_exit
/-- the loop's test: it goes on, with the next call's number on the stack -/
theorem law_in {N : Nat} {f : Nat → Int32} {i : Int32} {n : Nat} {tl : mL} {h : mHp} {r : mR} (hi : ¬ Int32.ofNat N - 5 < i) (hin : vp_in i N) (hn : i.toNatClampNeg = n) (kk : Run (N, f) 171 (39, [(0, .ref 0), (1, .ref 16), (2, .ref 42), (3, .ref 53), (4, .int i)] ++ tl, [.int (f n &&& 15)], h) r) : Run (N, f) 171 (23, [(0, .ref 0), (1, .ref 16), (2, .ref 42), (3, .ref 53), (4, .int i)] ++ tl, [], h) r := by
  refine R_p d171_23 rfl rfl ?_
  refine R_p d171_25 rfl rfl ?_
  refine R_sln d171_26 ?_
  refine R_ic (v := 5) d171_27 (by decide) ?_
  refine R_p d171_28 rfl rfl ?_
  refine R_nb d171_29 rfl (mb_f (b := (Int32.ofNat N - 5 < i)) hi) ?_
  refine R_p d171_32 rfl rfl ?_
  refine R_p d171_33 rfl rfl ?_
  refine R_sldk (n := n) (x := f n) d171_35 hin hn rfl ?_
  refine R_bi (v := 15) d171_36 (by decide) ?_
  refine R_p d171_38 rfl rfl ?_
  exact kk
end
section
/-! one call on a fresh object, by program (wip/gen/c17.py): every path of every case -/
theorem d10_0 : decode (mCode 10) 0 = .ok (.iload_n 1, 1) := by decide +kernel
theorem d10_1 : decode (mCode 10) 1 = .ok (.ifCond .lt 11, 3) := by decide +kernel
theorem d10_4 : decode (mCode 10) 4 = .ok (.iload_n 1, 1) := by decide +kernel
theorem d10_5 : decode (mCode 10) 5 = .ok (.aload_n 0, 1) := by decide +kernel
theorem d10_6 : decode (mCode 10) 6 = .ok (.getfield 31, 3) := by decide +kernel
theorem d10_9 : decode (mCode 10) 9 = .ok (.if_icmp .lt 7, 3) := by decide +kernel
theorem d10_12 : decode (mCode 10) 12 = .ok (.iconst (-1), 1) := by decide +kernel
theorem d10_13 : decode (mCode 10) 13 = .ok (.goto 9, 3) := by decide +kernel
theorem d10_22 : decode (mCode 10) 22 = .ok (.ireturn, 1) := by decide +kernel
theorem d20_0 : decode (mCode 20) 0 = .ok (.aload_n 0, 1) := by decide +kernel
theorem d20_1 : decode (mCode 20) 1 = .ok (.getfield 22, 3) := by decide +kernel
theorem d20_4 : decode (mCode 20) 4 = .ok (.invokevirtual 26, 3) := by decide +kernel
theorem d20_7 : decode (mCode 20) 7 = .ok (.ifCond .ne 11, 3) := by decide +kernel
theorem d20_10 : decode (mCode 20) 10 = .ok (.aload_n 0, 1) := by decide +kernel
theorem d20_11 : decode (mCode 20) 11 = .ok (.iload_n 1, 1) := by decide +kernel
theorem d20_12 : decode (mCode 20) 12 = .ok (.invokevirtual 32, 3) := by decide +kernel
theorem d20_15 : decode (mCode 20) 15 = .ok (.goto 31, 3) := by decide +kernel
theorem d20_46 : decode (mCode 20) 46 = .ok (.aload_n 0, 1) := by decide +kernel
theorem d20_47 : decode (mCode 20) 47 = .ok (.getfield 22, 3) := by decide +kernel
theorem d20_50 : decode (mCode 20) 50 = .ok (.invokevirtual 47, 3) := by decide +kernel
theorem d20_53 : decode (mCode 20) 53 = .ok (.return_, 1) := by decide +kernel
theorem d21_0 : decode (mCode 21) 0 = .ok (.iload_n 1, 1) := by decide +kernel
theorem d21_1 : decode (mCode 21) 1 = .ok (.iconst 2, 1) := by decide +kernel
theorem d21_2 : decode (mCode 21) 2 = .ok (.if_icmp .lt 16, 3) := by decide +kernel
theorem d21_18 : decode (mCode 21) 18 = .ok (.return_, 1) := by decide +kernel
theorem d36_0 : decode (mCode 36) 0 = .ok (.aload_n 0, 1) := by decide +kernel
theorem d36_1 : decode (mCode 36) 1 = .ok (.getfield 9, 3) := by decide +kernel
theorem d36_4 : decode (mCode 36) 4 = .ok (.lconst 0, 1) := by decide +kernel
theorem d36_5 : decode (mCode 36) 5 = .ok (.invokestatic 25, 3) := by decide +kernel
theorem d36_8 : decode (mCode 36) 8 = .ok (.aload_n 0, 1) := by decide +kernel
theorem d36_9 : decode (mCode 36) 9 = .ok (.iconst 0, 1) := by decide +kernel
theorem d36_10 : decode (mCode 36) 10 = .ok (.putfield 19, 3) := by decide +kernel
theorem d36_13 : decode (mCode 36) 13 = .ok (.return_, 1) := by decide +kernel
theorem d37_0 : decode (mCode 37) 0 = .ok (.aload_n 0, 1) := by decide +kernel
theorem d37_1 : decode (mCode 37) 1 = .ok (.getfield 19, 3) := by decide +kernel
theorem d37_4 : decode (mCode 37) 4 = .ok (.ireturn, 1) := by decide +kernel
theorem d38_0 : decode (mCode 38) 0 = .ok (.iconst 0, 1) := by decide +kernel
theorem d38_1 : decode (mCode 38) 1 = .ok (.istore_n 2, 1) := by decide +kernel
theorem d38_2 : decode (mCode 38) 2 = .ok (.iload_n 2, 1) := by decide +kernel
theorem d38_3 : decode (mCode 38) 3 = .ok (.aload_n 0, 1) := by decide +kernel
theorem d38_4 : decode (mCode 38) 4 = .ok (.getfield 15, 3) := by decide +kernel
theorem d38_7 : decode (mCode 38) 7 = .ok (.invokevirtual 31, 3) := by decide +kernel
theorem d38_10 : decode (mCode 38) 10 = .ok (.if_icmp .ge 54, 3) := by decide +kernel
theorem d38_64 : decode (mCode 38) 64 = .ok (.iconst 0, 1) := by decide +kernel
theorem d38_65 : decode (mCode 38) 65 = .ok (.ireturn, 1) := by decide +kernel
theorem d45_0 : decode (mCode 45) 0 = .ok (.aload_n 0, 1) := by decide +kernel
theorem d45_1 : decode (mCode 45) 1 = .ok (.getfield 9, 3) := by decide +kernel
theorem d45_4 : decode (mCode 45) 4 = .ok (.iconst (-1), 1) := by decide +kernel
theorem d45_5 : decode (mCode 45) 5 = .ok (.invokestatic 36, 3) := by decide +kernel
theorem d45_8 : decode (mCode 45) 8 = .ok (.aload_n 0, 1) := by decide +kernel
theorem d45_9 : decode (mCode 45) 9 = .ok (.iconst 0, 1) := by decide +kernel
theorem d45_10 : decode (mCode 45) 10 = .ok (.putfield 42, 3) := by decide +kernel
theorem d45_13 : decode (mCode 45) 13 = .ok (.return_, 1) := by decide +kernel
theorem d46_0 : decode (mCode 46) 0 = .ok (.aload_n 0, 1) := by decide +kernel
theorem d46_1 : decode (mCode 46) 1 = .ok (.getfield 42, 3) := by decide +kernel
theorem d46_4 : decode (mCode 46) 4 = .ok (.ireturn, 1) := by decide +kernel
theorem d47_0 : decode (mCode 47) 0 = .ok (.aload_n 0, 1) := by decide +kernel
theorem d47_1 : decode (mCode 47) 1 = .ok (.getfield 42, 3) := by decide +kernel
theorem d47_4 : decode (mCode 47) 4 = .ok (.ifCond .ne 7, 3) := by decide +kernel
theorem d47_7 : decode (mCode 47) 7 = .ok (.iconst 0, 1) := by decide +kernel
theorem d47_8 : decode (mCode 47) 8 = .ok (.goto 17, 3) := by decide +kernel
theorem d47_25 : decode (mCode 47) 25 = .ok (.ireturn, 1) := by decide +kernel
theorem d48_0 : decode (mCode 48) 0 = .ok (.iconst 2, 1) := by decide +kernel
theorem d48_1 : decode (mCode 48) 1 = .ok (.aload_n 0, 1) := by decide +kernel
theorem d48_2 : decode (mCode 48) 2 = .ok (.invokevirtual 51, 3) := by decide +kernel
theorem d48_5 : decode (mCode 48) 5 = .ok (.imul, 1) := by decide +kernel
theorem d48_6 : decode (mCode 48) 6 = .ok (.iconst 3, 1) := by decide +kernel
theorem d48_7 : decode (mCode 48) 7 = .ok (.aload_n 0, 1) := by decide +kernel
theorem d48_8 : decode (mCode 48) 8 = .ok (.getfield 42, 3) := by decide +kernel
theorem d48_11 : decode (mCode 48) 11 = .ok (.imul, 1) := by decide +kernel
theorem d48_12 : decode (mCode 48) 12 = .ok (.isub, 1) := by decide +kernel
theorem d48_13 : decode (mCode 48) 13 = .ok (.ireturn, 1) := by decide +kernel
theorem d50_0 : decode (mCode 50) 0 = .ok (.iconst 0, 1) := by decide +kernel
theorem d50_1 : decode (mCode 50) 1 = .ok (.istore_n 2, 1) := by decide +kernel
theorem d50_2 : decode (mCode 50) 2 = .ok (.iload_n 2, 1) := by decide +kernel
theorem d50_3 : decode (mCode 50) 3 = .ok (.aload_n 0, 1) := by decide +kernel
theorem d50_4 : decode (mCode 50) 4 = .ok (.getfield 42, 3) := by decide +kernel
theorem d50_7 : decode (mCode 50) 7 = .ok (.if_icmp .ge 20, 3) := by decide +kernel
theorem d50_27 : decode (mCode 50) 27 = .ok (.iconst (-1), 1) := by decide +kernel
theorem d50_28 : decode (mCode 50) 28 = .ok (.ireturn, 1) := by decide +kernel
theorem d57_0 : decode (mCode 57) 0 = .ok (.iconst 0, 1) := by decide +kernel
theorem d57_1 : decode (mCode 57) 1 = .ok (.istore_n 1, 1) := by decide +kernel
theorem d57_2 : decode (mCode 57) 2 = .ok (.iload_n 1, 1) := by decide +kernel
theorem d57_3 : decode (mCode 57) 3 = .ok (.ldc 105, 2) := by decide +kernel
theorem d57_5 : decode (mCode 57) 5 = .ok (.if_icmp .ge 95, 3) := by decide +kernel
theorem d57_8 : decode (mCode 57) 8 = .ok (.aload_n 0, 1) := by decide +kernel
theorem d57_9 : decode (mCode 57) 9 = .ok (.getfield 102, 3) := by decide +kernel
theorem d57_12 : decode (mCode 57) 12 = .ok (.ifCond .le 88, 3) := by decide +kernel
theorem d57_100 : decode (mCode 57) 100 = .ok (.aload_n 0, 1) := by decide +kernel
theorem d57_101 : decode (mCode 57) 101 = .ok (.invokevirtual 114, 3) := by decide +kernel
theorem d57_104 : decode (mCode 57) 104 = .ok (.return_, 1) := by decide +kernel
theorem d60_0 : decode (mCode 60) 0 = .ok (.aload_n 0, 1) := by decide +kernel
theorem d60_1 : decode (mCode 60) 1 = .ok (.iconst 0, 1) := by decide +kernel
theorem d60_2 : decode (mCode 60) 2 = .ok (.putfield 42, 3) := by decide +kernel
theorem d60_5 : decode (mCode 60) 5 = .ok (.iconst 0, 1) := by decide +kernel
theorem d60_6 : decode (mCode 60) 6 = .ok (.istore_n 1, 1) := by decide +kernel
theorem d60_7 : decode (mCode 60) 7 = .ok (.iload_n 1, 1) := by decide +kernel
theorem d60_8 : decode (mCode 60) 8 = .ok (.aload_n 0, 1) := by decide +kernel
theorem d60_9 : decode (mCode 60) 9 = .ok (.getfield 28, 3) := by decide +kernel
theorem d60_12 : decode (mCode 60) 12 = .ok (.invokevirtual 46, 3) := by decide +kernel
theorem d60_15 : decode (mCode 60) 15 = .ok (.if_icmp .ge 52, 3) := by decide +kernel
theorem d60_18 : decode (mCode 60) 18 = .ok (.iload_n 1, 1) := by decide +kernel
theorem d60_19 : decode (mCode 60) 19 = .ok (.iconst 1, 1) := by decide +kernel
theorem d60_20 : decode (mCode 60) 20 = .ok (.iadd, 1) := by decide +kernel
theorem d60_21 : decode (mCode 60) 21 = .ok (.istore_n 2, 1) := by decide +kernel
theorem d60_22 : decode (mCode 60) 22 = .ok (.iload_n 2, 1) := by decide +kernel
theorem d60_23 : decode (mCode 60) 23 = .ok (.aload_n 0, 1) := by decide +kernel
theorem d60_24 : decode (mCode 60) 24 = .ok (.getfield 28, 3) := by decide +kernel
theorem d60_27 : decode (mCode 60) 27 = .ok (.invokevirtual 46, 3) := by decide +kernel
theorem d60_30 : decode (mCode 60) 30 = .ok (.if_icmp .ge 31, 3) := by decide +kernel
theorem d60_61 : decode (mCode 60) 61 = .ok (.iinc 1 1, 3) := by decide +kernel
theorem d60_64 : decode (mCode 60) 64 = .ok (.goto (-57), 3) := by decide +kernel
theorem d60_67 : decode (mCode 60) 67 = .ok (.return_, 1) := by decide +kernel
theorem d66_0 : decode (mCode 66) 0 = .ok (.aload_n 0, 1) := by decide +kernel
theorem d66_1 : decode (mCode 66) 1 = .ok (.getfield 25, 3) := by decide +kernel
theorem d66_4 : decode (mCode 66) 4 = .ok (.ireturn, 1) := by decide +kernel
theorem d67_0 : decode (mCode 67) 0 = .ok (.aload_n 0, 1) := by decide +kernel
theorem d67_1 : decode (mCode 67) 1 = .ok (.iconst 0, 1) := by decide +kernel
theorem d67_2 : decode (mCode 67) 2 = .ok (.putfield 25, 3) := by decide +kernel
theorem d67_5 : decode (mCode 67) 5 = .ok (.return_, 1) := by decide +kernel
theorem d68_0 : decode (mCode 68) 0 = .ok (.aload_n 0, 1) := by decide +kernel
theorem d68_1 : decode (mCode 68) 1 = .ok (.getfield 9, 3) := by decide +kernel
theorem d68_4 : decode (mCode 68) 4 = .ok (.iload_n 1, 1) := by decide +kernel
theorem d68_5 : decode (mCode 68) 5 = .ok (.iload_n 2, 1) := by decide +kernel
theorem d68_6 : decode (mCode 68) 6 = .ok (.iastore, 1) := by decide +kernel
theorem d68_7 : decode (mCode 68) 7 = .ok (.aload_n 0, 1) := by decide +kernel
theorem d68_8 : decode (mCode 68) 8 = .ok (.getfield 15, 3) := by decide +kernel
theorem d68_11 : decode (mCode 68) 11 = .ok (.iload_n 1, 1) := by decide +kernel
theorem d68_12 : decode (mCode 68) 12 = .ok (.iload_n 3, 1) := by decide +kernel
theorem d68_13 : decode (mCode 68) 13 = .ok (.iastore, 1) := by decide +kernel
theorem d68_14 : decode (mCode 68) 14 = .ok (.return_, 1) := by decide +kernel
theorem d69_0 : decode (mCode 69) 0 = .ok (.iconst 0, 1) := by decide +kernel
theorem d69_1 : decode (mCode 69) 1 = .ok (.istore_n 2, 1) := by decide +kernel
theorem d69_2 : decode (mCode 69) 2 = .ok (.iload_n 2, 1) := by decide +kernel
theorem d69_3 : decode (mCode 69) 3 = .ok (.aload_n 0, 1) := by decide +kernel
theorem d69_4 : decode (mCode 69) 4 = .ok (.getfield 25, 3) := by decide +kernel
theorem d69_7 : decode (mCode 69) 7 = .ok (.if_icmp .ge 41, 3) := by decide +kernel
theorem d69_48 : decode (mCode 69) 48 = .ok (.iconst (-1), 1) := by decide +kernel
theorem d69_49 : decode (mCode 69) 49 = .ok (.ireturn, 1) := by decide +kernel
theorem d72_0 : decode (mCode 72) 0 = .ok (.aload_n 0, 1) := by decide +kernel
theorem d72_1 : decode (mCode 72) 1 = .ok (.dup, 1) := by decide +kernel
theorem d72_2 : decode (mCode 72) 2 = .ok (.getfield 25, 3) := by decide +kernel
theorem d72_5 : decode (mCode 72) 5 = .ok (.iconst 1, 1) := by decide +kernel
theorem d72_6 : decode (mCode 72) 6 = .ok (.iadd, 1) := by decide +kernel
theorem d72_7 : decode (mCode 72) 7 = .ok (.putfield 25, 3) := by decide +kernel
theorem d72_10 : decode (mCode 72) 10 = .ok (.return_, 1) := by decide +kernel
theorem d79_0 : decode (mCode 79) 0 = .ok (.aload_n 0, 1) := by decide +kernel
theorem d79_1 : decode (mCode 79) 1 = .ok (.getfield 34, 3) := by decide +kernel
theorem d79_4 : decode (mCode 79) 4 = .ok (.iload_n 1, 1) := by decide +kernel
theorem d79_5 : decode (mCode 79) 5 = .ok (.invokevirtual 42, 3) := by decide +kernel
theorem d79_8 : decode (mCode 79) 8 = .ok (.ireturn, 1) := by decide +kernel
theorem d80_0 : decode (mCode 80) 0 = .ok (.iload_n 1, 1) := by decide +kernel
theorem d80_1 : decode (mCode 80) 1 = .ok (.ifCond .lt 11, 3) := by decide +kernel
theorem d80_4 : decode (mCode 80) 4 = .ok (.iload_n 1, 1) := by decide +kernel
theorem d80_5 : decode (mCode 80) 5 = .ok (.aload_n 0, 1) := by decide +kernel
theorem d80_6 : decode (mCode 80) 6 = .ok (.getfield 38, 3) := by decide +kernel
theorem d80_9 : decode (mCode 80) 9 = .ok (.if_icmp .lt 7, 3) := by decide +kernel
theorem d80_12 : decode (mCode 80) 12 = .ok (.iconst (-1), 1) := by decide +kernel
theorem d80_13 : decode (mCode 80) 13 = .ok (.goto 9, 3) := by decide +kernel
theorem d80_22 : decode (mCode 80) 22 = .ok (.ireturn, 1) := by decide +kernel
theorem d92_0 : decode (mCode 92) 0 = .ok (.aload_n 0, 1) := by decide +kernel
theorem d92_1 : decode (mCode 92) 1 = .ok (.getfield 22, 3) := by decide +kernel
theorem d92_4 : decode (mCode 92) 4 = .ok (.invokevirtual 54, 3) := by decide +kernel
theorem d92_7 : decode (mCode 92) 7 = .ok (.istore_n 1, 1) := by decide +kernel
theorem d92_8 : decode (mCode 92) 8 = .ok (.aload_n 0, 1) := by decide +kernel
theorem d92_9 : decode (mCode 92) 9 = .ok (.getfield 22, 3) := by decide +kernel
theorem d92_12 : decode (mCode 92) 12 = .ok (.invokevirtual 109, 3) := by decide +kernel
theorem d92_15 : decode (mCode 92) 15 = .ok (.aload_n 0, 1) := by decide +kernel
theorem d92_16 : decode (mCode 92) 16 = .ok (.getfield 26, 3) := by decide +kernel
theorem d92_19 : decode (mCode 92) 19 = .ok (.invokevirtual 112, 3) := by decide +kernel
theorem d92_22 : decode (mCode 92) 22 = .ok (.aload_n 0, 1) := by decide +kernel
theorem d92_23 : decode (mCode 92) 23 = .ok (.getfield 30, 3) := by decide +kernel
theorem d92_26 : decode (mCode 92) 26 = .ok (.invokevirtual 113, 3) := by decide +kernel
theorem d92_29 : decode (mCode 92) 29 = .ok (.iload_n 1, 1) := by decide +kernel
theorem d92_30 : decode (mCode 92) 30 = .ok (.ireturn, 1) := by decide +kernel
theorem d93_0 : decode (mCode 93) 0 = .ok (.iload_n 1, 1) := by decide +kernel
theorem d93_1 : decode (mCode 93) 1 = .ok (.tableswitch 75 0 4 #[35, 43, 51, 59, 67], 35) := by decide +kernel
theorem d93_36 : decode (mCode 93) 36 = .ok (.aload_n 0, 1) := by decide +kernel
theorem d93_37 : decode (mCode 93) 37 = .ok (.getfield 22, 3) := by decide +kernel
theorem d93_40 : decode (mCode 93) 40 = .ok (.invokevirtual 54, 3) := by decide +kernel
theorem d93_43 : decode (mCode 93) 43 = .ok (.ireturn, 1) := by decide +kernel
theorem d93_44 : decode (mCode 93) 44 = .ok (.aload_n 0, 1) := by decide +kernel
theorem d93_45 : decode (mCode 93) 45 = .ok (.getfield 26, 3) := by decide +kernel
theorem d93_48 : decode (mCode 93) 48 = .ok (.invokevirtual 114, 3) := by decide +kernel
theorem d93_51 : decode (mCode 93) 51 = .ok (.ireturn, 1) := by decide +kernel
theorem d93_52 : decode (mCode 93) 52 = .ok (.aload_n 0, 1) := by decide +kernel
theorem d93_53 : decode (mCode 93) 53 = .ok (.getfield 30, 3) := by decide +kernel
theorem d93_56 : decode (mCode 93) 56 = .ok (.invokevirtual 115, 3) := by decide +kernel
theorem d93_59 : decode (mCode 93) 59 = .ok (.ireturn, 1) := by decide +kernel
theorem d93_60 : decode (mCode 93) 60 = .ok (.aload_n 0, 1) := by decide +kernel
theorem d93_61 : decode (mCode 93) 61 = .ok (.getfield 30, 3) := by decide +kernel
theorem d93_64 : decode (mCode 93) 64 = .ok (.invokevirtual 116, 3) := by decide +kernel
theorem d93_67 : decode (mCode 93) 67 = .ok (.ireturn, 1) := by decide +kernel
theorem d93_68 : decode (mCode 93) 68 = .ok (.aload_n 0, 1) := by decide +kernel
theorem d93_69 : decode (mCode 93) 69 = .ok (.getfield 30, 3) := by decide +kernel
theorem d93_72 : decode (mCode 93) 72 = .ok (.invokevirtual 119, 3) := by decide +kernel
theorem d93_75 : decode (mCode 93) 75 = .ok (.ireturn, 1) := by decide +kernel
theorem d93_76 : decode (mCode 93) 76 = .ok (.iconst (-1), 1) := by decide +kernel
theorem d93_77 : decode (mCode 93) 77 = .ok (.ireturn, 1) := by decide +kernel
theorem d94_0 : decode (mCode 94) 0 = .ok (.aload_n 0, 1) := by decide +kernel
theorem d94_1 : decode (mCode 94) 1 = .ok (.getfield 46, 3) := by decide +kernel
theorem d94_4 : decode (mCode 94) 4 = .ok (.iload_n 1, 1) := by decide +kernel
theorem d94_5 : decode (mCode 94) 5 = .ok (.invokevirtual 160, 3) := by decide +kernel
theorem d94_8 : decode (mCode 94) 8 = .ok (.ireturn, 1) := by decide +kernel
theorem d95_0 : decode (mCode 95) 0 = .ok (.aload_n 0, 1) := by decide +kernel
theorem d95_1 : decode (mCode 95) 1 = .ok (.getfield 46, 3) := by decide +kernel
theorem d95_4 : decode (mCode 95) 4 = .ok (.iload_n 1, 1) := by decide +kernel
theorem d95_5 : decode (mCode 95) 5 = .ok (.invokevirtual 163, 3) := by decide +kernel
theorem d95_8 : decode (mCode 95) 8 = .ok (.ireturn, 1) := by decide +kernel
theorem d96_0 : decode (mCode 96) 0 = .ok (.aload_n 0, 1) := by decide +kernel
theorem d96_1 : decode (mCode 96) 1 = .ok (.iload_n 1, 1) := by decide +kernel
theorem d96_2 : decode (mCode 96) 2 = .ok (.iload_n 2, 1) := by decide +kernel
theorem d96_3 : decode (mCode 96) 3 = .ok (.invokevirtual 50, 3) := by decide +kernel
theorem d96_6 : decode (mCode 96) 6 = .ok (.aload_n 0, 1) := by decide +kernel
theorem d96_7 : decode (mCode 96) 7 = .ok (.getfield 22, 3) := by decide +kernel
theorem d96_10 : decode (mCode 96) 10 = .ok (.invokevirtual 54, 3) := by decide +kernel
theorem d96_13 : decode (mCode 96) 13 = .ok (.istore_n 3, 1) := by decide +kernel
theorem d96_14 : decode (mCode 96) 14 = .ok (.iload_n 3, 1) := by decide +kernel
theorem d96_15 : decode (mCode 96) 15 = .ok (.bipush 40, 2) := by decide +kernel
theorem d96_17 : decode (mCode 96) 17 = .ok (.if_icmp .ne 13, 3) := by decide +kernel
theorem d96_30 : decode (mCode 96) 30 = .ok (.aload_n 0, 1) := by decide +kernel
theorem d96_31 : decode (mCode 96) 31 = .ok (.getfield 22, 3) := by decide +kernel
theorem d96_34 : decode (mCode 96) 34 = .ok (.iload_n 3, 1) := by decide +kernel
theorem d96_35 : decode (mCode 96) 35 = .ok (.iload_n 1, 1) := by decide +kernel
theorem d96_36 : decode (mCode 96) 36 = .ok (.iload_n 2, 1) := by decide +kernel
theorem d96_37 : decode (mCode 96) 37 = .ok (.invokevirtual 65, 3) := by decide +kernel
theorem d96_40 : decode (mCode 96) 40 = .ok (.aload_n 0, 1) := by decide +kernel
theorem d96_41 : decode (mCode 96) 41 = .ok (.getfield 22, 3) := by decide +kernel
theorem d96_44 : decode (mCode 96) 44 = .ok (.iload_n 3, 1) := by decide +kernel
theorem d96_45 : decode (mCode 96) 45 = .ok (.invokevirtual 69, 3) := by decide +kernel
theorem d96_48 : decode (mCode 96) 48 = .ok (.iconst (-1), 1) := by decide +kernel
theorem d96_49 : decode (mCode 96) 49 = .ok (.if_icmp .ne 14, 3) := by decide +kernel
theorem d96_52 : decode (mCode 96) 52 = .ok (.aload_n 0, 1) := by decide +kernel
theorem d96_53 : decode (mCode 96) 53 = .ok (.getfield 26, 3) := by decide +kernel
theorem d96_56 : decode (mCode 96) 56 = .ok (.iload_n 3, 1) := by decide +kernel
theorem d96_57 : decode (mCode 96) 57 = .ok (.invokevirtual 73, 3) := by decide +kernel
theorem d96_60 : decode (mCode 96) 60 = .ok (.ifCond .eq 5, 3) := by decide +kernel
theorem d96_65 : decode (mCode 96) 65 = .ok (.aload_n 0, 1) := by decide +kernel
theorem d96_66 : decode (mCode 96) 66 = .ok (.getfield 22, 3) := by decide +kernel
theorem d96_69 : decode (mCode 96) 69 = .ok (.invokevirtual 77, 3) := by decide +kernel
theorem d96_72 : decode (mCode 96) 72 = .ok (.aload_n 0, 1) := by decide +kernel
theorem d96_73 : decode (mCode 96) 73 = .ok (.getfield 39, 3) := by decide +kernel
theorem d96_76 : decode (mCode 96) 76 = .ok (.iload_n 3, 1) := by decide +kernel
theorem d96_77 : decode (mCode 96) 77 = .ok (.invokevirtual 80, 3) := by decide +kernel
theorem d96_80 : decode (mCode 96) 80 = .ok (.iload_n 3, 1) := by decide +kernel
theorem d96_81 : decode (mCode 96) 81 = .ok (.ireturn, 1) := by decide +kernel
theorem d97_0 : decode (mCode 97) 0 = .ok (.iload_n 1, 1) := by decide +kernel
theorem d97_1 : decode (mCode 97) 1 = .ok (.ldc 166, 2) := by decide +kernel
theorem d97_3 : decode (mCode 97) 3 = .ok (.if_icmp .lt 21, 3) := by decide +kernel
theorem d97_6 : decode (mCode 97) 6 = .ok (.iload_n 1, 1) := by decide +kernel
theorem d97_7 : decode (mCode 97) 7 = .ok (.ldc 167, 2) := by decide +kernel
theorem d97_9 : decode (mCode 97) 9 = .ok (.if_icmp .gt 15, 3) := by decide +kernel
theorem d97_12 : decode (mCode 97) 12 = .ok (.iload_n 2, 1) := by decide +kernel
theorem d97_13 : decode (mCode 97) 13 = .ok (.ldc 166, 2) := by decide +kernel
theorem d97_15 : decode (mCode 97) 15 = .ok (.if_icmp .lt 9, 3) := by decide +kernel
theorem d97_18 : decode (mCode 97) 18 = .ok (.iload_n 2, 1) := by decide +kernel
theorem d97_19 : decode (mCode 97) 19 = .ok (.ldc 167, 2) := by decide +kernel
theorem d97_21 : decode (mCode 97) 21 = .ok (.if_icmp .le 13, 3) := by decide +kernel
theorem d97_24 : decode (mCode 97) 24 = .ok (.new 142, 3) := by decide +kernel
theorem d97_27 : decode (mCode 97) 27 = .ok (.dup, 1) := by decide +kernel
theorem d97_28 : decode (mCode 97) 28 = .ok (.ldc 168, 2) := by decide +kernel
theorem d97_30 : decode (mCode 97) 30 = .ok (.invokespecial 146, 3) := by decide +kernel
theorem d97_33 : decode (mCode 97) 33 = .ok (.athrow, 1) := by decide +kernel
theorem d97_34 : decode (mCode 97) 34 = .ok (.return_, 1) := by decide +kernel
theorem d100_0 : decode (mCode 100) 0 = .ok (.aload_n 0, 1) := by decide +kernel
theorem d100_1 : decode (mCode 100) 1 = .ok (.iload_n 1, 1) := by decide +kernel
theorem d100_2 : decode (mCode 100) 2 = .ok (.iload_n 2, 1) := by decide +kernel
theorem d100_3 : decode (mCode 100) 3 = .ok (.invokevirtual 84, 3) := by decide +kernel
theorem d101_0 : decode (mCode 101) 0 = .ok (.aload_n 0, 1) := by decide +kernel
theorem d101_1 : decode (mCode 101) 1 = .ok (.iload_n 1, 1) := by decide +kernel
theorem d101_2 : decode (mCode 101) 2 = .ok (.invokevirtual 135, 3) := by decide +kernel
theorem d102_0 : decode (mCode 102) 0 = .ok (.iload_n 1, 1) := by decide +kernel
theorem d102_1 : decode (mCode 102) 1 = .ok (.ifCond .lt 14, 3) := by decide +kernel
theorem d102_4 : decode (mCode 102) 4 = .ok (.iload_n 1, 1) := by decide +kernel
theorem d102_5 : decode (mCode 102) 5 = .ok (.aload_n 0, 1) := by decide +kernel
theorem d102_6 : decode (mCode 102) 6 = .ok (.getfield 22, 3) := by decide +kernel
theorem d102_9 : decode (mCode 102) 9 = .ok (.invokevirtual 54, 3) := by decide +kernel
theorem d102_12 : decode (mCode 102) 12 = .ok (.if_icmp .lt 13, 3) := by decide +kernel
theorem d102_15 : decode (mCode 102) 15 = .ok (.new 142, 3) := by decide +kernel
theorem d102_18 : decode (mCode 102) 18 = .ok (.dup, 1) := by decide +kernel
theorem d102_19 : decode (mCode 102) 19 = .ok (.ldc 170, 2) := by decide +kernel
theorem d102_21 : decode (mCode 102) 21 = .ok (.invokespecial 146, 3) := by decide +kernel
theorem d102_24 : decode (mCode 102) 24 = .ok (.athrow, 1) := by decide +kernel
theorem d103_0 : decode (mCode 103) 0 = .ok (.aload_n 0, 1) := by decide +kernel
theorem d103_1 : decode (mCode 103) 1 = .ok (.iload_n 1, 1) := by decide +kernel
theorem d103_2 : decode (mCode 103) 2 = .ok (.iload_n 2, 1) := by decide +kernel
theorem d103_3 : decode (mCode 103) 3 = .ok (.invokevirtual 84, 3) := by decide +kernel
theorem d104_0 : decode (mCode 104) 0 = .ok (.aload_n 0, 1) := by decide +kernel
theorem d104_1 : decode (mCode 104) 1 = .ok (.iload_n 1, 1) := by decide +kernel
theorem d104_2 : decode (mCode 104) 2 = .ok (.iload_n 2, 1) := by decide +kernel
theorem d104_3 : decode (mCode 104) 3 = .ok (.invokevirtual 122, 3) := by decide +kernel
theorem d105_0 : decode (mCode 105) 0 = .ok (.iload_n 1, 1) := by decide +kernel
theorem d105_1 : decode (mCode 105) 1 = .ok (.ifCond .lt 23, 3) := by decide +kernel
theorem d105_4 : decode (mCode 105) 4 = .ok (.iload_n 1, 1) := by decide +kernel
theorem d105_5 : decode (mCode 105) 5 = .ok (.aload_n 0, 1) := by decide +kernel
theorem d105_6 : decode (mCode 105) 6 = .ok (.getfield 30, 3) := by decide +kernel
theorem d105_9 : decode (mCode 105) 9 = .ok (.invokevirtual 115, 3) := by decide +kernel
theorem d105_12 : decode (mCode 105) 12 = .ok (.if_icmp .ge 12, 3) := by decide +kernel
theorem d105_24 : decode (mCode 105) 24 = .ok (.new 174, 3) := by decide +kernel
theorem d105_27 : decode (mCode 105) 27 = .ok (.dup, 1) := by decide +kernel
theorem d105_28 : decode (mCode 105) 28 = .ok (.ldc 176, 2) := by decide +kernel
theorem d105_30 : decode (mCode 105) 30 = .ok (.invokespecial 178, 3) := by decide +kernel
theorem d105_33 : decode (mCode 105) 33 = .ok (.athrow, 1) := by decide +kernel
theorem d106_0 : decode (mCode 106) 0 = .ok (.aload_n 0, 1) := by decide +kernel
theorem d106_1 : decode (mCode 106) 1 = .ok (.iload_n 1, 1) := by decide +kernel
theorem d106_2 : decode (mCode 106) 2 = .ok (.iload_n 2, 1) := by decide +kernel
theorem d106_3 : decode (mCode 106) 3 = .ok (.invokevirtual 122, 3) := by decide +kernel
theorem d107_0 : decode (mCode 107) 0 = .ok (.aload_n 0, 1) := by decide +kernel
theorem d107_1 : decode (mCode 107) 1 = .ok (.iload_n 1, 1) := by decide +kernel
theorem d107_2 : decode (mCode 107) 2 = .ok (.iload_n 2, 1) := by decide +kernel
theorem d107_3 : decode (mCode 107) 3 = .ok (.invokevirtual 84, 3) := by decide +kernel
theorem d108_0 : decode (mCode 108) 0 = .ok (.aload_n 0, 1) := by decide +kernel
theorem d108_1 : decode (mCode 108) 1 = .ok (.iload_n 1, 1) := by decide +kernel
theorem d108_2 : decode (mCode 108) 2 = .ok (.invokevirtual 135, 3) := by decide +kernel
theorem d109_0 : decode (mCode 109) 0 = .ok (.aload_n 0, 1) := by decide +kernel
theorem d109_1 : decode (mCode 109) 1 = .ok (.iload_n 1, 1) := by decide +kernel
theorem d109_2 : decode (mCode 109) 2 = .ok (.invokevirtual 135, 3) := by decide +kernel
theorem d110_0 : decode (mCode 110) 0 = .ok (.aload_n 0, 1) := by decide +kernel
theorem d110_1 : decode (mCode 110) 1 = .ok (.iload_n 1, 1) := by decide +kernel
theorem d110_2 : decode (mCode 110) 2 = .ok (.iload_n 2, 1) := by decide +kernel
theorem d110_3 : decode (mCode 110) 3 = .ok (.invokevirtual 50, 3) := by decide +kernel
theorem d110_6 : decode (mCode 110) 6 = .ok (.aload_n 0, 1) := by decide +kernel
theorem d110_7 : decode (mCode 110) 7 = .ok (.getfield 22, 3) := by decide +kernel
theorem d110_10 : decode (mCode 110) 10 = .ok (.bipush 40, 2) := by decide +kernel
theorem d110_12 : decode (mCode 110) 12 = .ok (.iload_n 1, 1) := by decide +kernel
theorem d110_13 : decode (mCode 110) 13 = .ok (.iload_n 2, 1) := by decide +kernel
theorem d110_14 : decode (mCode 110) 14 = .ok (.invokevirtual 65, 3) := by decide +kernel
theorem d110_17 : decode (mCode 110) 17 = .ok (.aload_n 0, 1) := by decide +kernel
theorem d110_18 : decode (mCode 110) 18 = .ok (.getfield 30, 3) := by decide +kernel
theorem d110_21 : decode (mCode 110) 21 = .ok (.bipush 40, 2) := by decide +kernel
theorem d110_23 : decode (mCode 110) 23 = .ok (.invokevirtual 151, 3) := by decide +kernel
theorem d110_26 : decode (mCode 110) 26 = .ok (.ireturn, 1) := by decide +kernel
theorem d111_0 : decode (mCode 111) 0 = .ok (.aload_n 0, 1) := by decide +kernel
theorem d111_1 : decode (mCode 111) 1 = .ok (.iload_n 1, 1) := by decide +kernel
theorem d111_2 : decode (mCode 111) 2 = .ok (.iload_n 2, 1) := by decide +kernel
theorem d111_3 : decode (mCode 111) 3 = .ok (.invokevirtual 50, 3) := by decide +kernel
theorem d111_6 : decode (mCode 111) 6 = .ok (.aload_n 0, 1) := by decide +kernel
theorem d111_7 : decode (mCode 111) 7 = .ok (.iload_n 3, 1) := by decide +kernel
theorem d111_8 : decode (mCode 111) 8 = .ok (.iload 4, 2) := by decide +kernel
theorem d111_10 : decode (mCode 111) 10 = .ok (.invokevirtual 50, 3) := by decide +kernel
theorem d111_13 : decode (mCode 111) 13 = .ok (.aload_n 0, 1) := by decide +kernel
theorem d111_14 : decode (mCode 111) 14 = .ok (.getfield 22, 3) := by decide +kernel
theorem d111_17 : decode (mCode 111) 17 = .ok (.bipush 40, 2) := by decide +kernel
theorem d111_19 : decode (mCode 111) 19 = .ok (.iload_n 1, 1) := by decide +kernel
theorem d111_20 : decode (mCode 111) 20 = .ok (.iload_n 2, 1) := by decide +kernel
theorem d111_21 : decode (mCode 111) 21 = .ok (.invokevirtual 65, 3) := by decide +kernel
theorem d111_24 : decode (mCode 111) 24 = .ok (.aload_n 0, 1) := by decide +kernel
theorem d111_25 : decode (mCode 111) 25 = .ok (.getfield 22, 3) := by decide +kernel
theorem d111_28 : decode (mCode 111) 28 = .ok (.bipush 41, 2) := by decide +kernel
theorem d111_30 : decode (mCode 111) 30 = .ok (.iload_n 3, 1) := by decide +kernel
theorem d111_31 : decode (mCode 111) 31 = .ok (.iload 4, 2) := by decide +kernel
theorem d111_33 : decode (mCode 111) 33 = .ok (.invokevirtual 65, 3) := by decide +kernel
theorem d111_36 : decode (mCode 111) 36 = .ok (.aload_n 0, 1) := by decide +kernel
theorem d111_37 : decode (mCode 111) 37 = .ok (.getfield 30, 3) := by decide +kernel
theorem d111_40 : decode (mCode 111) 40 = .ok (.bipush 40, 2) := by decide +kernel
theorem d111_42 : decode (mCode 111) 42 = .ok (.invokevirtual 151, 3) := by decide +kernel
theorem d111_45 : decode (mCode 111) 45 = .ok (.istore 5, 2) := by decide +kernel
theorem d111_47 : decode (mCode 111) 47 = .ok (.aload_n 0, 1) := by decide +kernel
theorem d111_48 : decode (mCode 111) 48 = .ok (.getfield 30, 3) := by decide +kernel
theorem d111_51 : decode (mCode 111) 51 = .ok (.bipush 41, 2) := by decide +kernel
theorem d111_53 : decode (mCode 111) 53 = .ok (.invokevirtual 151, 3) := by decide +kernel
theorem d111_56 : decode (mCode 111) 56 = .ok (.istore 6, 2) := by decide +kernel
theorem d111_58 : decode (mCode 111) 58 = .ok (.iload 5, 2) := by decide +kernel
theorem d111_60 : decode (mCode 111) 60 = .ok (.iconst (-1), 1) := by decide +kernel
theorem d111_61 : decode (mCode 111) 61 = .ok (.if_icmp .eq 23, 3) := by decide +kernel
theorem d111_84 : decode (mCode 111) 84 = .ok (.iconst (-1), 1) := by decide +kernel
theorem d111_85 : decode (mCode 111) 85 = .ok (.ireturn, 1) := by decide +kernel
theorem d113_0 : decode (mCode 113) 0 = .ok (.aload_n 0, 1) := by decide +kernel
theorem d113_1 : decode (mCode 113) 1 = .ok (.getfield 42, 3) := by decide +kernel
theorem d113_4 : decode (mCode 113) 4 = .ok (.ireturn, 1) := by decide +kernel
theorem d114_0 : decode (mCode 114) 0 = .ok (.aload_n 0, 1) := by decide +kernel
theorem d114_1 : decode (mCode 114) 1 = .ok (.iload_n 1, 1) := by decide +kernel
theorem d114_2 : decode (mCode 114) 2 = .ok (.iload_n 2, 1) := by decide +kernel
theorem d114_3 : decode (mCode 114) 3 = .ok (.invokestatic 74, 3) := by decide +kernel
theorem d114_6 : decode (mCode 114) 6 = .ok (.ifCond .ne 7, 3) := by decide +kernel
theorem d114_9 : decode (mCode 114) 9 = .ok (.iconst 1, 1) := by decide +kernel
theorem d114_10 : decode (mCode 114) 10 = .ok (.goto 17, 3) := by decide +kernel
theorem d114_13 : decode (mCode 114) 13 = .ok (.aload_n 0, 1) := by decide +kernel
theorem d114_14 : decode (mCode 114) 14 = .ok (.getfield 52, 3) := by decide +kernel
theorem d114_17 : decode (mCode 114) 17 = .ok (.bipush 40, 2) := by decide +kernel
theorem d114_19 : decode (mCode 114) 19 = .ok (.if_icmp .ne 7, 3) := by decide +kernel
theorem d114_26 : decode (mCode 114) 26 = .ok (.iconst 0, 1) := by decide +kernel
theorem d114_27 : decode (mCode 114) 27 = .ok (.invokevirtual 78, 3) := by decide +kernel
theorem d114_30 : decode (mCode 114) 30 = .ok (.ifCond .eq 5, 3) := by decide +kernel
theorem d114_33 : decode (mCode 114) 33 = .ok (.iconst 0, 1) := by decide +kernel
theorem d114_34 : decode (mCode 114) 34 = .ok (.ireturn, 1) := by decide +kernel
theorem d114_35 : decode (mCode 114) 35 = .ok (.aload_n 0, 1) := by decide +kernel
theorem d114_36 : decode (mCode 114) 36 = .ok (.getfield 7, 3) := by decide +kernel
theorem d114_39 : decode (mCode 114) 39 = .ok (.aload_n 0, 1) := by decide +kernel
theorem d114_40 : decode (mCode 114) 40 = .ok (.getfield 52, 3) := by decide +kernel
theorem d114_43 : decode (mCode 114) 43 = .ok (.iload_n 1, 1) := by decide +kernel
theorem d114_44 : decode (mCode 114) 44 = .ok (.i2l, 1) := by decide +kernel
theorem d114_45 : decode (mCode 114) 45 = .ok (.lastore, 1) := by decide +kernel
theorem d114_46 : decode (mCode 114) 46 = .ok (.aload_n 0, 1) := by decide +kernel
theorem d114_47 : decode (mCode 114) 47 = .ok (.getfield 13, 3) := by decide +kernel
theorem d114_50 : decode (mCode 114) 50 = .ok (.aload_n 0, 1) := by decide +kernel
theorem d114_51 : decode (mCode 114) 51 = .ok (.getfield 52, 3) := by decide +kernel
theorem d114_54 : decode (mCode 114) 54 = .ok (.iload_n 2, 1) := by decide +kernel
theorem d114_55 : decode (mCode 114) 55 = .ok (.i2l, 1) := by decide +kernel
theorem d114_56 : decode (mCode 114) 56 = .ok (.lastore, 1) := by decide +kernel
theorem d114_57 : decode (mCode 114) 57 = .ok (.iconst 1, 1) := by decide +kernel
theorem d114_58 : decode (mCode 114) 58 = .ok (.istore_n 3, 1) := by decide +kernel
theorem d114_59 : decode (mCode 114) 59 = .ok (.iconst 0, 1) := by decide +kernel
theorem d114_60 : decode (mCode 114) 60 = .ok (.istore 4, 2) := by decide +kernel
theorem d114_62 : decode (mCode 114) 62 = .ok (.iload 4, 2) := by decide +kernel
theorem d114_64 : decode (mCode 114) 64 = .ok (.aload_n 0, 1) := by decide +kernel
theorem d114_65 : decode (mCode 114) 65 = .ok (.getfield 52, 3) := by decide +kernel
theorem d114_68 : decode (mCode 114) 68 = .ok (.if_icmp .ge 102, 3) := by decide +kernel
theorem d114_170 : decode (mCode 114) 170 = .ok (.iload_n 3, 1) := by decide +kernel
theorem d114_171 : decode (mCode 114) 171 = .ok (.ifCond .ne 5, 3) := by decide +kernel
theorem d114_176 : decode (mCode 114) 176 = .ok (.iconst 0, 1) := by decide +kernel
theorem d114_177 : decode (mCode 114) 177 = .ok (.istore 4, 2) := by decide +kernel
theorem d114_224 : decode (mCode 114) 224 = .ok (.aload_n 0, 1) := by decide +kernel
theorem d114_225 : decode (mCode 114) 225 = .ok (.dup, 1) := by decide +kernel
theorem d114_226 : decode (mCode 114) 226 = .ok (.getfield 52, 3) := by decide +kernel
theorem d114_229 : decode (mCode 114) 229 = .ok (.iconst 1, 1) := by decide +kernel
theorem d114_230 : decode (mCode 114) 230 = .ok (.iadd, 1) := by decide +kernel
theorem d114_231 : decode (mCode 114) 231 = .ok (.putfield 52, 3) := by decide +kernel
theorem d114_234 : decode (mCode 114) 234 = .ok (.aload_n 0, 1) := by decide +kernel
theorem d114_235 : decode (mCode 114) 235 = .ok (.iconst 0, 1) := by decide +kernel
theorem d114_236 : decode (mCode 114) 236 = .ok (.putfield 85, 3) := by decide +kernel
theorem d114_239 : decode (mCode 114) 239 = .ok (.aload_n 0, 1) := by decide +kernel
theorem d114_240 : decode (mCode 114) 240 = .ok (.getfield 52, 3) := by decide +kernel
theorem d114_243 : decode (mCode 114) 243 = .ok (.iconst 1, 1) := by decide +kernel
theorem d114_244 : decode (mCode 114) 244 = .ok (.isub, 1) := by decide +kernel
theorem d114_245 : decode (mCode 114) 245 = .ok (.ireturn, 1) := by decide +kernel
theorem d115_0 : decode (mCode 115) 0 = .ok (.iload_n 0, 1) := by decide +kernel
theorem d115_1 : decode (mCode 115) 1 = .ok (.ldc 46, 2) := by decide +kernel
theorem d115_3 : decode (mCode 115) 3 = .ok (.ldc 47, 2) := by decide +kernel
theorem d115_5 : decode (mCode 115) 5 = .ok (.invokestatic 48, 3) := by decide +kernel
theorem d115_8 : decode (mCode 115) 8 = .ok (.ifCond .eq 18, 3) := by decide +kernel
theorem d115_11 : decode (mCode 115) 11 = .ok (.iload_n 1, 1) := by decide +kernel
theorem d115_12 : decode (mCode 115) 12 = .ok (.ldc 46, 2) := by decide +kernel
theorem d115_14 : decode (mCode 115) 14 = .ok (.ldc 47, 2) := by decide +kernel
theorem d115_16 : decode (mCode 115) 16 = .ok (.invokestatic 48, 3) := by decide +kernel
theorem d115_19 : decode (mCode 115) 19 = .ok (.ifCond .eq 7, 3) := by decide +kernel
theorem d115_22 : decode (mCode 115) 22 = .ok (.iconst 1, 1) := by decide +kernel
theorem d115_23 : decode (mCode 115) 23 = .ok (.goto 4, 3) := by decide +kernel
theorem d115_26 : decode (mCode 115) 26 = .ok (.iconst 0, 1) := by decide +kernel
theorem d115_27 : decode (mCode 115) 27 = .ok (.ireturn, 1) := by decide +kernel
theorem d116_0 : decode (mCode 116) 0 = .ok (.iload_n 0, 1) := by decide +kernel
theorem d116_1 : decode (mCode 116) 1 = .ok (.iload_n 1, 1) := by decide +kernel
theorem d116_2 : decode (mCode 116) 2 = .ok (.if_icmp .lt 12, 3) := by decide +kernel
theorem d116_5 : decode (mCode 116) 5 = .ok (.iload_n 0, 1) := by decide +kernel
theorem d116_6 : decode (mCode 116) 6 = .ok (.iload_n 2, 1) := by decide +kernel
theorem d116_7 : decode (mCode 116) 7 = .ok (.if_icmp .gt 7, 3) := by decide +kernel
theorem d116_10 : decode (mCode 116) 10 = .ok (.iconst 1, 1) := by decide +kernel
theorem d116_11 : decode (mCode 116) 11 = .ok (.goto 4, 3) := by decide +kernel
theorem d116_14 : decode (mCode 116) 14 = .ok (.iconst 0, 1) := by decide +kernel
theorem d116_15 : decode (mCode 116) 15 = .ok (.ireturn, 1) := by decide +kernel
theorem d117_0 : decode (mCode 117) 0 = .ok (.aload_n 0, 1) := by decide +kernel
theorem d117_1 : decode (mCode 117) 1 = .ok (.iload_n 1, 1) := by decide +kernel
theorem d117_2 : decode (mCode 117) 2 = .ok (.putfield 42, 3) := by decide +kernel
theorem d117_5 : decode (mCode 117) 5 = .ok (.iload_n 1, 1) := by decide +kernel
theorem d117_6 : decode (mCode 117) 6 = .ok (.ifCond .le 7, 3) := by decide +kernel
theorem d117_9 : decode (mCode 117) 9 = .ok (.iconst 1, 1) := by decide +kernel
theorem d117_10 : decode (mCode 117) 10 = .ok (.goto 4, 3) := by decide +kernel
theorem d117_13 : decode (mCode 117) 13 = .ok (.iconst 0, 1) := by decide +kernel
theorem d117_14 : decode (mCode 117) 14 = .ok (.ireturn, 1) := by decide +kernel
theorem d120_0 : decode (mCode 120) 0 = .ok (.aload_n 0, 1) := by decide +kernel
theorem d120_1 : decode (mCode 120) 1 = .ok (.aload_n 0, 1) := by decide +kernel
theorem d120_2 : decode (mCode 120) 2 = .ok (.iload_n 1, 1) := by decide +kernel
theorem d120_3 : decode (mCode 120) 3 = .ok (.iload_n 2, 1) := by decide +kernel
theorem d120_4 : decode (mCode 120) 4 = .ok (.invokevirtual 96, 3) := by decide +kernel
theorem d120_7 : decode (mCode 120) 7 = .ok (.ifCond .eq 7, 3) := by decide +kernel
theorem d120_14 : decode (mCode 120) 14 = .ok (.iconst 1, 1) := by decide +kernel
theorem d120_15 : decode (mCode 120) 15 = .ok (.invokevirtual 78, 3) := by decide +kernel
theorem d120_18 : decode (mCode 120) 18 = .ok (.ifCond .eq 5, 3) := by decide +kernel
theorem d120_21 : decode (mCode 120) 21 = .ok (.iconst 0, 1) := by decide +kernel
theorem d120_22 : decode (mCode 120) 22 = .ok (.ireturn, 1) := by decide +kernel
theorem d121_0 : decode (mCode 121) 0 = .ok (.aload_n 0, 1) := by decide +kernel
theorem d121_1 : decode (mCode 121) 1 = .ok (.iload_n 1, 1) := by decide +kernel
theorem d121_2 : decode (mCode 121) 2 = .ok (.invokevirtual 89, 3) := by decide +kernel
theorem d121_5 : decode (mCode 121) 5 = .ok (.ifCond .eq 20, 3) := by decide +kernel
theorem d121_25 : decode (mCode 121) 25 = .ok (.iconst 0, 1) := by decide +kernel
theorem d121_26 : decode (mCode 121) 26 = .ok (.ireturn, 1) := by decide +kernel
theorem d122_0 : decode (mCode 122) 0 = .ok (.iload_n 1, 1) := by decide +kernel
theorem d122_1 : decode (mCode 122) 1 = .ok (.iconst 0, 1) := by decide +kernel
theorem d122_2 : decode (mCode 122) 2 = .ok (.aload_n 0, 1) := by decide +kernel
theorem d122_3 : decode (mCode 122) 3 = .ok (.getfield 52, 3) := by decide +kernel
theorem d122_6 : decode (mCode 122) 6 = .ok (.iconst 1, 1) := by decide +kernel
theorem d122_7 : decode (mCode 122) 7 = .ok (.isub, 1) := by decide +kernel
theorem d122_8 : decode (mCode 122) 8 = .ok (.invokestatic 48, 3) := by decide +kernel
theorem d122_11 : decode (mCode 122) 11 = .ok (.ireturn, 1) := by decide +kernel
theorem d125_0 : decode (mCode 125) 0 = .ok (.aload_n 0, 1) := by decide +kernel
theorem d125_1 : decode (mCode 125) 1 = .ok (.aload_n 0, 1) := by decide +kernel
theorem d125_2 : decode (mCode 125) 2 = .ok (.iload_n 1, 1) := by decide +kernel
theorem d125_3 : decode (mCode 125) 3 = .ok (.iload_n 2, 1) := by decide +kernel
theorem d125_4 : decode (mCode 125) 4 = .ok (.invokevirtual 96, 3) := by decide +kernel
theorem d125_7 : decode (mCode 125) 7 = .ok (.ifCond .eq 7, 3) := by decide +kernel
theorem d125_14 : decode (mCode 125) 14 = .ok (.iconst 1, 1) := by decide +kernel
theorem d125_15 : decode (mCode 125) 15 = .ok (.invokevirtual 78, 3) := by decide +kernel
theorem d125_18 : decode (mCode 125) 18 = .ok (.ifCond .eq 5, 3) := by decide +kernel
theorem d125_21 : decode (mCode 125) 21 = .ok (.iconst 0, 1) := by decide +kernel
theorem d125_22 : decode (mCode 125) 22 = .ok (.ireturn, 1) := by decide +kernel
theorem d126_0 : decode (mCode 126) 0 = .ok (.aload_n 0, 1) := by decide +kernel
theorem d126_1 : decode (mCode 126) 1 = .ok (.iconst 0, 1) := by decide +kernel
theorem d126_2 : decode (mCode 126) 2 = .ok (.putfield 42, 3) := by decide +kernel
theorem d126_5 : decode (mCode 126) 5 = .ok (.aload_n 0, 1) := by decide +kernel
theorem d126_6 : decode (mCode 126) 6 = .ok (.getfield 52, 3) := by decide +kernel
theorem d126_9 : decode (mCode 126) 9 = .ok (.istore_n 1, 1) := by decide +kernel
theorem d126_10 : decode (mCode 126) 10 = .ok (.aload_n 0, 1) := by decide +kernel
theorem d126_11 : decode (mCode 126) 11 = .ok (.iconst 0, 1) := by decide +kernel
theorem d126_12 : decode (mCode 126) 12 = .ok (.putfield 52, 3) := by decide +kernel
theorem d126_15 : decode (mCode 126) 15 = .ok (.iconst 0, 1) := by decide +kernel
theorem d126_16 : decode (mCode 126) 16 = .ok (.istore_n 2, 1) := by decide +kernel
theorem d126_37 : decode (mCode 126) 37 = .ok (.aload_n 0, 1) := by decide +kernel
theorem d126_38 : decode (mCode 126) 38 = .ok (.iconst 0, 1) := by decide +kernel
theorem d126_39 : decode (mCode 126) 39 = .ok (.putfield 85, 3) := by decide +kernel
theorem d126_42 : decode (mCode 126) 42 = .ok (.iload_n 1, 1) := by decide +kernel
theorem d126_43 : decode (mCode 126) 43 = .ok (.ireturn, 1) := by decide +kernel
theorem d127_0 : decode (mCode 127) 0 = .ok (.aload_n 0, 1) := by decide +kernel
theorem d127_1 : decode (mCode 127) 1 = .ok (.iconst 0, 1) := by decide +kernel
theorem d127_2 : decode (mCode 127) 2 = .ok (.putfield 42, 3) := by decide +kernel
theorem d127_5 : decode (mCode 127) 5 = .ok (.aload_n 0, 1) := by decide +kernel
theorem d127_6 : decode (mCode 127) 6 = .ok (.invokevirtual 134, 3) := by decide +kernel
theorem d127_9 : decode (mCode 127) 9 = .ok (.iload_n 1, 1) := by decide +kernel
theorem d127_10 : decode (mCode 127) 10 = .ok (.ifCond .eq 8, 3) := by decide +kernel
theorem d127_13 : decode (mCode 127) 13 = .ok (.iload_n 1, 1) := by decide +kernel
theorem d127_14 : decode (mCode 127) 14 = .ok (.iconst 2, 1) := by decide +kernel
theorem d127_15 : decode (mCode 127) 15 = .ok (.if_icmp .ne 19, 3) := by decide +kernel
theorem d127_18 : decode (mCode 127) 18 = .ok (.iload_n 1, 1) := by decide +kernel
theorem d127_19 : decode (mCode 127) 19 = .ok (.ifCond .ne 10, 3) := by decide +kernel
theorem d127_22 : decode (mCode 127) 22 = .ok (.aload_n 0, 1) := by decide +kernel
theorem d127_23 : decode (mCode 127) 23 = .ok (.getfield 52, 3) := by decide +kernel
theorem d127_26 : decode (mCode 127) 26 = .ok (.goto 7, 3) := by decide +kernel
theorem d127_29 : decode (mCode 127) 29 = .ok (.aload_n 0, 1) := by decide +kernel
theorem d127_30 : decode (mCode 127) 30 = .ok (.getfield 124, 3) := by decide +kernel
theorem d127_33 : decode (mCode 127) 33 = .ok (.ireturn, 1) := by decide +kernel
theorem d127_34 : decode (mCode 127) 34 = .ok (.iconst 0, 1) := by decide +kernel
theorem d127_35 : decode (mCode 127) 35 = .ok (.istore_n 2, 1) := by decide +kernel
theorem d127_36 : decode (mCode 127) 36 = .ok (.iconst 0, 1) := by decide +kernel
theorem d127_37 : decode (mCode 127) 37 = .ok (.istore_n 3, 1) := by decide +kernel
theorem d127_38 : decode (mCode 127) 38 = .ok (.iload_n 3, 1) := by decide +kernel
theorem d127_39 : decode (mCode 127) 39 = .ok (.aload_n 0, 1) := by decide +kernel
theorem d127_40 : decode (mCode 127) 40 = .ok (.getfield 52, 3) := by decide +kernel
theorem d127_43 : decode (mCode 127) 43 = .ok (.if_icmp .ge 128, 3) := by decide +kernel
theorem d127_171 : decode (mCode 127) 171 = .ok (.iload_n 1, 1) := by decide +kernel
theorem d127_172 : decode (mCode 127) 172 = .ok (.iconst 1, 1) := by decide +kernel
theorem d127_173 : decode (mCode 127) 173 = .ok (.if_icmp .eq 13, 3) := by decide +kernel
theorem d127_176 : decode (mCode 127) 176 = .ok (.iload_n 1, 1) := by decide +kernel
theorem d127_177 : decode (mCode 127) 177 = .ok (.iconst 3, 1) := by decide +kernel
theorem d127_178 : decode (mCode 127) 178 = .ok (.if_icmp .eq 8, 3) := by decide +kernel
theorem d127_181 : decode (mCode 127) 181 = .ok (.iload_n 1, 1) := by decide +kernel
theorem d127_182 : decode (mCode 127) 182 = .ok (.iconst 4, 1) := by decide +kernel
theorem d127_183 : decode (mCode 127) 183 = .ok (.if_icmp .ne 7, 3) := by decide +kernel
theorem d127_186 : decode (mCode 127) 186 = .ok (.iload_n 2, 1) := by decide +kernel
theorem d127_187 : decode (mCode 127) 187 = .ok (.goto 4, 3) := by decide +kernel
theorem d127_190 : decode (mCode 127) 190 = .ok (.iconst (-1), 1) := by decide +kernel
theorem d127_191 : decode (mCode 127) 191 = .ok (.ireturn, 1) := by decide +kernel
theorem d128_0 : decode (mCode 128) 0 = .ok (.aload_n 0, 1) := by decide +kernel
theorem d128_1 : decode (mCode 128) 1 = .ok (.getfield 85, 3) := by decide +kernel
theorem d128_4 : decode (mCode 128) 4 = .ok (.ifCond .eq 4, 3) := by decide +kernel
theorem d128_8 : decode (mCode 128) 8 = .ok (.aload_n 0, 1) := by decide +kernel
theorem d128_9 : decode (mCode 128) 9 = .ok (.iconst 1, 1) := by decide +kernel
theorem d128_10 : decode (mCode 128) 10 = .ok (.putfield 85, 3) := by decide +kernel
theorem d128_13 : decode (mCode 128) 13 = .ok (.aload_n 0, 1) := by decide +kernel
theorem d128_14 : decode (mCode 128) 14 = .ok (.iconst 0, 1) := by decide +kernel
theorem d128_15 : decode (mCode 128) 15 = .ok (.putfield 124, 3) := by decide +kernel
theorem d128_18 : decode (mCode 128) 18 = .ok (.iconst 0, 1) := by decide +kernel
theorem d128_19 : decode (mCode 128) 19 = .ok (.istore_n 1, 1) := by decide +kernel
theorem d128_45 : decode (mCode 128) 45 = .ok (.aload_n 0, 1) := by decide +kernel
theorem d128_46 : decode (mCode 128) 46 = .ok (.invokevirtual 127, 3) := by decide +kernel
theorem d128_49 : decode (mCode 128) 49 = .ok (.ifCond .eq 4, 3) := by decide +kernel
theorem d128_52 : decode (mCode 128) 52 = .ok (.return_, 1) := by decide +kernel
theorem d129_0 : decode (mCode 129) 0 = .ok (.iconst 1, 1) := by decide +kernel
theorem d129_1 : decode (mCode 129) 1 = .ok (.istore_n 1, 1) := by decide +kernel
theorem d129_2 : decode (mCode 129) 2 = .ok (.iconst 2, 1) := by decide +kernel
theorem d129_3 : decode (mCode 129) 3 = .ok (.istore_n 2, 1) := by decide +kernel
theorem d129_4 : decode (mCode 129) 4 = .ok (.iload_n 2, 1) := by decide +kernel
theorem d129_5 : decode (mCode 129) 5 = .ok (.aload_n 0, 1) := by decide +kernel
theorem d129_6 : decode (mCode 129) 6 = .ok (.getfield 52, 3) := by decide +kernel
theorem d129_9 : decode (mCode 129) 9 = .ok (.if_icmp .ge 29, 3) := by decide +kernel
theorem d129_38 : decode (mCode 129) 38 = .ok (.iload_n 1, 1) := by decide +kernel
theorem d129_39 : decode (mCode 129) 39 = .ok (.ireturn, 1) := by decide +kernel
theorem d139_0 : decode (mCode 139) 0 = .ok (.aload_n 0, 1) := by decide +kernel
theorem d139_1 : decode (mCode 139) 1 = .ok (.aload_n 0, 1) := by decide +kernel
theorem d139_2 : decode (mCode 139) 2 = .ok (.iload_n 1, 1) := by decide +kernel
theorem d139_3 : decode (mCode 139) 3 = .ok (.iload_n 2, 1) := by decide +kernel
theorem d139_4 : decode (mCode 139) 4 = .ok (.invokevirtual 140, 3) := by decide +kernel
theorem d139_7 : decode (mCode 139) 7 = .ok (.ifCond .eq 7, 3) := by decide +kernel
theorem d139_14 : decode (mCode 139) 14 = .ok (.iconst 1, 1) := by decide +kernel
theorem d139_15 : decode (mCode 139) 15 = .ok (.invokevirtual 78, 3) := by decide +kernel
theorem d139_18 : decode (mCode 139) 18 = .ok (.ifCond .eq 7, 3) := by decide +kernel
theorem d139_21 : decode (mCode 139) 21 = .ok (.iconst 0, 1) := by decide +kernel
theorem d139_22 : decode (mCode 139) 22 = .ok (.goto 13, 3) := by decide +kernel
theorem d139_35 : decode (mCode 139) 35 = .ok (.ireturn, 1) := by decide +kernel
theorem d140_0 : decode (mCode 140) 0 = .ok (.aload_n 0, 1) := by decide +kernel
theorem d140_1 : decode (mCode 140) 1 = .ok (.invokevirtual 134, 3) := by decide +kernel
theorem d140_4 : decode (mCode 140) 4 = .ok (.iload_n 1, 1) := by decide +kernel
theorem d140_5 : decode (mCode 140) 5 = .ok (.iconst 0, 1) := by decide +kernel
theorem d140_6 : decode (mCode 140) 6 = .ok (.aload_n 0, 1) := by decide +kernel
theorem d140_7 : decode (mCode 140) 7 = .ok (.getfield 124, 3) := by decide +kernel
theorem d140_10 : decode (mCode 140) 10 = .ok (.iconst 1, 1) := by decide +kernel
theorem d140_11 : decode (mCode 140) 11 = .ok (.isub, 1) := by decide +kernel
theorem d140_12 : decode (mCode 140) 12 = .ok (.invokestatic 48, 3) := by decide +kernel
theorem d140_15 : decode (mCode 140) 15 = .ok (.ifCond .eq 16, 3) := by decide +kernel
theorem d140_31 : decode (mCode 140) 31 = .ok (.iconst 0, 1) := by decide +kernel
theorem d140_32 : decode (mCode 140) 32 = .ok (.ireturn, 1) := by decide +kernel
theorem d141_0 : decode (mCode 141) 0 = .ok (.aload_n 0, 1) := by decide +kernel
theorem d141_1 : decode (mCode 141) 1 = .ok (.aload_n 0, 1) := by decide +kernel
theorem d141_2 : decode (mCode 141) 2 = .ok (.iload_n 1, 1) := by decide +kernel
theorem d141_3 : decode (mCode 141) 3 = .ok (.iload_n 2, 1) := by decide +kernel
theorem d141_4 : decode (mCode 141) 4 = .ok (.invokevirtual 140, 3) := by decide +kernel
theorem d141_7 : decode (mCode 141) 7 = .ok (.ifCond .eq 7, 3) := by decide +kernel
theorem d141_14 : decode (mCode 141) 14 = .ok (.iconst 1, 1) := by decide +kernel
theorem d141_15 : decode (mCode 141) 15 = .ok (.invokevirtual 78, 3) := by decide +kernel
theorem d141_18 : decode (mCode 141) 18 = .ok (.ifCond .eq 7, 3) := by decide +kernel
theorem d141_21 : decode (mCode 141) 21 = .ok (.iconst 0, 1) := by decide +kernel
theorem d141_22 : decode (mCode 141) 22 = .ok (.goto 31, 3) := by decide +kernel
theorem d141_53 : decode (mCode 141) 53 = .ok (.ireturn, 1) := by decide +kernel
theorem d142_0 : decode (mCode 142) 0 = .ok (.aload_n 0, 1) := by decide +kernel
theorem d142_1 : decode (mCode 142) 1 = .ok (.aload_n 0, 1) := by decide +kernel
theorem d142_2 : decode (mCode 142) 2 = .ok (.iload_n 1, 1) := by decide +kernel
theorem d142_3 : decode (mCode 142) 3 = .ok (.iload_n 2, 1) := by decide +kernel
theorem d142_4 : decode (mCode 142) 4 = .ok (.invokevirtual 96, 3) := by decide +kernel
theorem d142_7 : decode (mCode 142) 7 = .ok (.ifCond .eq 7, 3) := by decide +kernel
theorem d142_14 : decode (mCode 142) 14 = .ok (.iconst 1, 1) := by decide +kernel
theorem d142_15 : decode (mCode 142) 15 = .ok (.invokevirtual 78, 3) := by decide +kernel
theorem d142_18 : decode (mCode 142) 18 = .ok (.ifCond .eq 5, 3) := by decide +kernel
theorem d142_21 : decode (mCode 142) 21 = .ok (.iconst 0, 1) := by decide +kernel
theorem d142_22 : decode (mCode 142) 22 = .ok (.ireturn, 1) := by decide +kernel
theorem d143_0 : decode (mCode 143) 0 = .ok (.aload_n 0, 1) := by decide +kernel
theorem d143_1 : decode (mCode 143) 1 = .ok (.aload_n 0, 1) := by decide +kernel
theorem d143_2 : decode (mCode 143) 2 = .ok (.iload_n 1, 1) := by decide +kernel
theorem d143_3 : decode (mCode 143) 3 = .ok (.invokevirtual 89, 3) := by decide +kernel
theorem d143_6 : decode (mCode 143) 6 = .ok (.ifCond .eq 23, 3) := by decide +kernel
theorem d143_29 : decode (mCode 143) 29 = .ok (.iconst 1, 1) := by decide +kernel
theorem d143_30 : decode (mCode 143) 30 = .ok (.invokevirtual 78, 3) := by decide +kernel
theorem d143_33 : decode (mCode 143) 33 = .ok (.ifCond .eq 7, 3) := by decide +kernel
theorem d143_36 : decode (mCode 143) 36 = .ok (.iconst 0, 1) := by decide +kernel
theorem d143_37 : decode (mCode 143) 37 = .ok (.goto 10, 3) := by decide +kernel
theorem d143_47 : decode (mCode 143) 47 = .ok (.ireturn, 1) := by decide +kernel
theorem d144_0 : decode (mCode 144) 0 = .ok (.aload_n 0, 1) := by decide +kernel
theorem d144_1 : decode (mCode 144) 1 = .ok (.iload_n 1, 1) := by decide +kernel
theorem d144_2 : decode (mCode 144) 2 = .ok (.invokevirtual 89, 3) := by decide +kernel
theorem d144_5 : decode (mCode 144) 5 = .ok (.ifCond .eq 32, 3) := by decide +kernel
theorem d144_37 : decode (mCode 144) 37 = .ok (.iconst 0, 1) := by decide +kernel
theorem d144_38 : decode (mCode 144) 38 = .ok (.istore 5, 2) := by decide +kernel
theorem d144_40 : decode (mCode 144) 40 = .ok (.aload_n 0, 1) := by decide +kernel
theorem d144_41 : decode (mCode 144) 41 = .ok (.iload 5, 2) := by decide +kernel
theorem d144_43 : decode (mCode 144) 43 = .ok (.ifCond .eq 17, 3) := by decide +kernel
theorem d144_60 : decode (mCode 144) 60 = .ok (.iconst 1, 1) := by decide +kernel
theorem d144_61 : decode (mCode 144) 61 = .ok (.invokevirtual 78, 3) := by decide +kernel
theorem d144_64 : decode (mCode 144) 64 = .ok (.ifCond .eq 5, 3) := by decide +kernel
theorem d144_67 : decode (mCode 144) 67 = .ok (.iconst 0, 1) := by decide +kernel
theorem d144_68 : decode (mCode 144) 68 = .ok (.ireturn, 1) := by decide +kernel
theorem d145_0 : decode (mCode 145) 0 = .ok (.aload_n 0, 1) := by decide +kernel
theorem d145_1 : decode (mCode 145) 1 = .ok (.iload_n 1, 1) := by decide +kernel
theorem d145_2 : decode (mCode 145) 2 = .ok (.iload_n 2, 1) := by decide +kernel
theorem d145_3 : decode (mCode 145) 3 = .ok (.invokestatic 74, 3) := by decide +kernel
theorem d145_6 : decode (mCode 145) 6 = .ok (.ifCond .eq 7, 3) := by decide +kernel
theorem d145_9 : decode (mCode 145) 9 = .ok (.iconst 0, 1) := by decide +kernel
theorem d145_10 : decode (mCode 145) 10 = .ok (.goto 4, 3) := by decide +kernel
theorem d145_13 : decode (mCode 145) 13 = .ok (.iconst 1, 1) := by decide +kernel
theorem d145_14 : decode (mCode 145) 14 = .ok (.invokevirtual 78, 3) := by decide +kernel
theorem d145_17 : decode (mCode 145) 17 = .ok (.ifCond .eq 5, 3) := by decide +kernel
theorem d145_20 : decode (mCode 145) 20 = .ok (.iconst 0, 1) := by decide +kernel
theorem d145_21 : decode (mCode 145) 21 = .ok (.ireturn, 1) := by decide +kernel
theorem d145_22 : decode (mCode 145) 22 = .ok (.aload_n 0, 1) := by decide +kernel
theorem d145_23 : decode (mCode 145) 23 = .ok (.invokevirtual 134, 3) := by decide +kernel
theorem d145_26 : decode (mCode 145) 26 = .ok (.aload_n 0, 1) := by decide +kernel
theorem d145_27 : decode (mCode 145) 27 = .ok (.getfield 7, 3) := by decide +kernel
theorem d145_30 : decode (mCode 145) 30 = .ok (.bipush 40, 2) := by decide +kernel
theorem d145_32 : decode (mCode 145) 32 = .ok (.iload_n 1, 1) := by decide +kernel
theorem d145_33 : decode (mCode 145) 33 = .ok (.i2l, 1) := by decide +kernel
theorem d145_34 : decode (mCode 145) 34 = .ok (.lastore, 1) := by decide +kernel
theorem d145_35 : decode (mCode 145) 35 = .ok (.aload_n 0, 1) := by decide +kernel
theorem d145_36 : decode (mCode 145) 36 = .ok (.getfield 13, 3) := by decide +kernel
theorem d145_39 : decode (mCode 145) 39 = .ok (.bipush 40, 2) := by decide +kernel
theorem d145_41 : decode (mCode 145) 41 = .ok (.iload_n 2, 1) := by decide +kernel
theorem d145_42 : decode (mCode 145) 42 = .ok (.i2l, 1) := by decide +kernel
theorem d145_43 : decode (mCode 145) 43 = .ok (.lastore, 1) := by decide +kernel
theorem d145_44 : decode (mCode 145) 44 = .ok (.aload_n 0, 1) := by decide +kernel
theorem d145_45 : decode (mCode 145) 45 = .ok (.bipush 40, 2) := by decide +kernel
theorem d145_47 : decode (mCode 145) 47 = .ok (.invokevirtual 143, 3) := by decide +kernel
theorem d145_50 : decode (mCode 145) 50 = .ok (.ireturn, 1) := by decide +kernel
theorem d146_0 : decode (mCode 146) 0 = .ok (.iconst 0, 1) := by decide +kernel
theorem d146_1 : decode (mCode 146) 1 = .ok (.istore_n 2, 1) := by decide +kernel
theorem d146_2 : decode (mCode 146) 2 = .ok (.iload_n 2, 1) := by decide +kernel
theorem d146_3 : decode (mCode 146) 3 = .ok (.aload_n 0, 1) := by decide +kernel
theorem d146_4 : decode (mCode 146) 4 = .ok (.getfield 124, 3) := by decide +kernel
theorem d146_7 : decode (mCode 146) 7 = .ok (.if_icmp .ge 78, 3) := by decide +kernel
theorem d146_85 : decode (mCode 146) 85 = .ok (.iconst (-1), 1) := by decide +kernel
theorem d146_86 : decode (mCode 146) 86 = .ok (.ireturn, 1) := by decide +kernel
theorem d147_0 : decode (mCode 147) 0 = .ok (.aload_n 0, 1) := by decide +kernel
theorem d147_1 : decode (mCode 147) 1 = .ok (.iload_n 1, 1) := by decide +kernel
theorem d147_2 : decode (mCode 147) 2 = .ok (.iload_n 2, 1) := by decide +kernel
theorem d147_3 : decode (mCode 147) 3 = .ok (.invokestatic 74, 3) := by decide +kernel
theorem d147_6 : decode (mCode 147) 6 = .ok (.ifCond .eq 16, 3) := by decide +kernel
theorem d147_9 : decode (mCode 147) 9 = .ok (.iload_n 3, 1) := by decide +kernel
theorem d147_10 : decode (mCode 147) 10 = .ok (.iload 4, 2) := by decide +kernel
theorem d147_12 : decode (mCode 147) 12 = .ok (.invokestatic 74, 3) := by decide +kernel
theorem d147_15 : decode (mCode 147) 15 = .ok (.ifCond .eq 7, 3) := by decide +kernel
theorem d147_18 : decode (mCode 147) 18 = .ok (.iconst 0, 1) := by decide +kernel
theorem d147_19 : decode (mCode 147) 19 = .ok (.goto 4, 3) := by decide +kernel
theorem d147_22 : decode (mCode 147) 22 = .ok (.iconst 1, 1) := by decide +kernel
theorem d147_23 : decode (mCode 147) 23 = .ok (.invokevirtual 78, 3) := by decide +kernel
theorem d147_26 : decode (mCode 147) 26 = .ok (.ifCond .eq 5, 3) := by decide +kernel
theorem d147_29 : decode (mCode 147) 29 = .ok (.iconst 0, 1) := by decide +kernel
theorem d147_30 : decode (mCode 147) 30 = .ok (.ireturn, 1) := by decide +kernel
theorem d147_31 : decode (mCode 147) 31 = .ok (.aload_n 0, 1) := by decide +kernel
theorem d147_32 : decode (mCode 147) 32 = .ok (.invokevirtual 134, 3) := by decide +kernel
theorem d147_35 : decode (mCode 147) 35 = .ok (.aload_n 0, 1) := by decide +kernel
theorem d147_36 : decode (mCode 147) 36 = .ok (.getfield 7, 3) := by decide +kernel
theorem d147_39 : decode (mCode 147) 39 = .ok (.bipush 40, 2) := by decide +kernel
theorem d147_41 : decode (mCode 147) 41 = .ok (.iload_n 1, 1) := by decide +kernel
theorem d147_42 : decode (mCode 147) 42 = .ok (.i2l, 1) := by decide +kernel
theorem d147_43 : decode (mCode 147) 43 = .ok (.lastore, 1) := by decide +kernel
theorem d147_44 : decode (mCode 147) 44 = .ok (.aload_n 0, 1) := by decide +kernel
theorem d147_45 : decode (mCode 147) 45 = .ok (.getfield 13, 3) := by decide +kernel
theorem d147_48 : decode (mCode 147) 48 = .ok (.bipush 40, 2) := by decide +kernel
theorem d147_50 : decode (mCode 147) 50 = .ok (.iload_n 2, 1) := by decide +kernel
theorem d147_51 : decode (mCode 147) 51 = .ok (.i2l, 1) := by decide +kernel
theorem d147_52 : decode (mCode 147) 52 = .ok (.lastore, 1) := by decide +kernel
theorem d147_53 : decode (mCode 147) 53 = .ok (.aload_n 0, 1) := by decide +kernel
theorem d147_54 : decode (mCode 147) 54 = .ok (.getfield 7, 3) := by decide +kernel
theorem d147_57 : decode (mCode 147) 57 = .ok (.bipush 41, 2) := by decide +kernel
theorem d147_59 : decode (mCode 147) 59 = .ok (.iload_n 3, 1) := by decide +kernel
theorem d147_60 : decode (mCode 147) 60 = .ok (.i2l, 1) := by decide +kernel
theorem d147_61 : decode (mCode 147) 61 = .ok (.lastore, 1) := by decide +kernel
theorem d147_62 : decode (mCode 147) 62 = .ok (.aload_n 0, 1) := by decide +kernel
theorem d147_63 : decode (mCode 147) 63 = .ok (.getfield 13, 3) := by decide +kernel
theorem d147_66 : decode (mCode 147) 66 = .ok (.bipush 41, 2) := by decide +kernel
theorem d147_68 : decode (mCode 147) 68 = .ok (.iload 4, 2) := by decide +kernel
theorem d147_70 : decode (mCode 147) 70 = .ok (.i2l, 1) := by decide +kernel
theorem d147_71 : decode (mCode 147) 71 = .ok (.lastore, 1) := by decide +kernel
theorem d147_72 : decode (mCode 147) 72 = .ok (.aload_n 0, 1) := by decide +kernel
theorem d147_73 : decode (mCode 147) 73 = .ok (.bipush 40, 2) := by decide +kernel
theorem d147_75 : decode (mCode 147) 75 = .ok (.invokevirtual 143, 3) := by decide +kernel
theorem d147_78 : decode (mCode 147) 78 = .ok (.istore 5, 2) := by decide +kernel
theorem d147_80 : decode (mCode 147) 80 = .ok (.aload_n 0, 1) := by decide +kernel
theorem d147_81 : decode (mCode 147) 81 = .ok (.bipush 41, 2) := by decide +kernel
theorem d147_83 : decode (mCode 147) 83 = .ok (.invokevirtual 143, 3) := by decide +kernel
theorem d147_86 : decode (mCode 147) 86 = .ok (.istore 6, 2) := by decide +kernel
theorem d147_88 : decode (mCode 147) 88 = .ok (.iload 5, 2) := by decide +kernel
theorem d147_90 : decode (mCode 147) 90 = .ok (.ifCond .lt 8, 3) := by decide +kernel
theorem d147_98 : decode (mCode 147) 98 = .ok (.iconst (-1), 1) := by decide +kernel
theorem d147_99 : decode (mCode 147) 99 = .ok (.ireturn, 1) := by decide +kernel
theorem d155_0 : decode (mCode 155) 0 = .ok (.aload_n 0, 1) := by decide +kernel
theorem d155_1 : decode (mCode 155) 1 = .ok (.iconst 0, 1) := by decide +kernel
theorem d155_2 : decode (mCode 155) 2 = .ok (.putfield 42, 3) := by decide +kernel
theorem d155_5 : decode (mCode 155) 5 = .ok (.iload_n 1, 1) := by decide +kernel
theorem d155_6 : decode (mCode 155) 6 = .ok (.iconst 0, 1) := by decide +kernel
theorem d155_7 : decode (mCode 155) 7 = .ok (.aload_n 0, 1) := by decide +kernel
theorem d155_8 : decode (mCode 155) 8 = .ok (.getfield 166, 3) := by decide +kernel
theorem d155_11 : decode (mCode 155) 11 = .ok (.iconst 1, 1) := by decide +kernel
theorem d155_12 : decode (mCode 155) 12 = .ok (.isub, 1) := by decide +kernel
theorem d155_13 : decode (mCode 155) 13 = .ok (.invokestatic 48, 3) := by decide +kernel
theorem d155_16 : decode (mCode 155) 16 = .ok (.ifCond .eq 12, 3) := by decide +kernel
theorem d155_28 : decode (mCode 155) 28 = .ok (.iconst (-1), 1) := by decide +kernel
theorem d155_29 : decode (mCode 155) 29 = .ok (.ireturn, 1) := by decide +kernel
theorem d156_0 : decode (mCode 156) 0 = .ok (.aload_n 0, 1) := by decide +kernel
theorem d156_1 : decode (mCode 156) 1 = .ok (.iconst 0, 1) := by decide +kernel
theorem d156_2 : decode (mCode 156) 2 = .ok (.putfield 42, 3) := by decide +kernel
theorem d156_5 : decode (mCode 156) 5 = .ok (.iload_n 1, 1) := by decide +kernel
theorem d156_6 : decode (mCode 156) 6 = .ok (.iconst 0, 1) := by decide +kernel
theorem d156_7 : decode (mCode 156) 7 = .ok (.aload_n 0, 1) := by decide +kernel
theorem d156_8 : decode (mCode 156) 8 = .ok (.getfield 154, 3) := by decide +kernel
theorem d156_11 : decode (mCode 156) 11 = .ok (.iconst 1, 1) := by decide +kernel
theorem d156_12 : decode (mCode 156) 12 = .ok (.isub, 1) := by decide +kernel
theorem d156_13 : decode (mCode 156) 13 = .ok (.invokestatic 48, 3) := by decide +kernel
theorem d156_16 : decode (mCode 156) 16 = .ok (.ifCond .eq 12, 3) := by decide +kernel
theorem d156_28 : decode (mCode 156) 28 = .ok (.iconst (-1), 1) := by decide +kernel
theorem d156_29 : decode (mCode 156) 29 = .ok (.ireturn, 1) := by decide +kernel
theorem d157_0 : decode (mCode 157) 0 = .ok (.aload_n 3, 1) := by decide +kernel
theorem d157_1 : decode (mCode 157) 1 = .ok (.iconst 0, 1) := by decide +kernel
theorem d157_2 : decode (mCode 157) 2 = .ok (.aload_n 0, 1) := by decide +kernel
theorem d157_3 : decode (mCode 157) 3 = .ok (.iload_n 1, 1) := by decide +kernel
theorem d157_4 : decode (mCode 157) 4 = .ok (.iload_n 2, 1) := by decide +kernel
theorem d157_5 : decode (mCode 157) 5 = .ok (.invokevirtual 7, 3) := by decide +kernel
theorem d157_8 : decode (mCode 157) 8 = .ok (.i2l, 1) := by decide +kernel
theorem d157_9 : decode (mCode 157) 9 = .ok (.lastore, 1) := by decide +kernel
theorem d157_10 : decode (mCode 157) 10 = .ok (.goto 11, 3) := by decide +kernel
theorem d157_13 : decode (mCode 157) 13 = .ok (.astore 4, 2) := by decide +kernel
theorem d157_15 : decode (mCode 157) 15 = .ok (.iconst 1, 1) := by decide +kernel
theorem d157_16 : decode (mCode 157) 16 = .ok (.ireturn, 1) := by decide +kernel
theorem d157_21 : decode (mCode 157) 21 = .ok (.iconst 0, 1) := by decide +kernel
theorem d157_22 : decode (mCode 157) 22 = .ok (.ireturn, 1) := by decide +kernel
theorem d158_0 : decode (mCode 158) 0 = .ok (.aload_n 3, 1) := by decide +kernel
theorem d158_1 : decode (mCode 158) 1 = .ok (.iconst 0, 1) := by decide +kernel
theorem d158_2 : decode (mCode 158) 2 = .ok (.aload_n 0, 1) := by decide +kernel
theorem d158_3 : decode (mCode 158) 3 = .ok (.iload_n 1, 1) := by decide +kernel
theorem d158_4 : decode (mCode 158) 4 = .ok (.iload_n 2, 1) := by decide +kernel
theorem d158_5 : decode (mCode 158) 5 = .ok (.invokevirtual 17, 3) := by decide +kernel
theorem d158_20 : decode (mCode 158) 20 = .ok (.astore 4, 2) := by decide +kernel
theorem d158_22 : decode (mCode 158) 22 = .ok (.iconst 1, 1) := by decide +kernel
theorem d158_23 : decode (mCode 158) 23 = .ok (.ireturn, 1) := by decide +kernel
theorem d159_0 : decode (mCode 159) 0 = .ok (.aload_n 3, 1) := by decide +kernel
theorem d159_1 : decode (mCode 159) 1 = .ok (.iconst 0, 1) := by decide +kernel
theorem d159_2 : decode (mCode 159) 2 = .ok (.aload_n 0, 1) := by decide +kernel
theorem d159_3 : decode (mCode 159) 3 = .ok (.iload_n 1, 1) := by decide +kernel
theorem d159_4 : decode (mCode 159) 4 = .ok (.iload_n 2, 1) := by decide +kernel
theorem d159_5 : decode (mCode 159) 5 = .ok (.invokevirtual 21, 3) := by decide +kernel
theorem d159_20 : decode (mCode 159) 20 = .ok (.astore 4, 2) := by decide +kernel
theorem d159_22 : decode (mCode 159) 22 = .ok (.iconst 1, 1) := by decide +kernel
theorem d159_23 : decode (mCode 159) 23 = .ok (.ireturn, 1) := by decide +kernel
theorem d160_0 : decode (mCode 160) 0 = .ok (.aload_n 3, 1) := by decide +kernel
theorem d160_1 : decode (mCode 160) 1 = .ok (.iconst 0, 1) := by decide +kernel
theorem d160_2 : decode (mCode 160) 2 = .ok (.aload_n 0, 1) := by decide +kernel
theorem d160_3 : decode (mCode 160) 3 = .ok (.iload_n 1, 1) := by decide +kernel
theorem d160_4 : decode (mCode 160) 4 = .ok (.iload_n 2, 1) := by decide +kernel
theorem d160_5 : decode (mCode 160) 5 = .ok (.invokevirtual 24, 3) := by decide +kernel
theorem d160_13 : decode (mCode 160) 13 = .ok (.astore 4, 2) := by decide +kernel
theorem d160_15 : decode (mCode 160) 15 = .ok (.iconst 1, 1) := by decide +kernel
theorem d160_16 : decode (mCode 160) 16 = .ok (.ireturn, 1) := by decide +kernel
theorem d161_0 : decode (mCode 161) 0 = .ok (.aload_n 3, 1) := by decide +kernel
theorem d161_1 : decode (mCode 161) 1 = .ok (.iconst 0, 1) := by decide +kernel
theorem d161_2 : decode (mCode 161) 2 = .ok (.aload_n 0, 1) := by decide +kernel
theorem d161_3 : decode (mCode 161) 3 = .ok (.iload_n 1, 1) := by decide +kernel
theorem d161_4 : decode (mCode 161) 4 = .ok (.iload_n 2, 1) := by decide +kernel
theorem d161_5 : decode (mCode 161) 5 = .ok (.invokevirtual 29, 3) := by decide +kernel
theorem d161_13 : decode (mCode 161) 13 = .ok (.astore 4, 2) := by decide +kernel
theorem d161_15 : decode (mCode 161) 15 = .ok (.iconst 1, 1) := by decide +kernel
theorem d161_16 : decode (mCode 161) 16 = .ok (.ireturn, 1) := by decide +kernel
theorem d162_0 : decode (mCode 162) 0 = .ok (.aload_n 3, 1) := by decide +kernel
theorem d162_1 : decode (mCode 162) 1 = .ok (.iconst 0, 1) := by decide +kernel
theorem d162_2 : decode (mCode 162) 2 = .ok (.aload_n 0, 1) := by decide +kernel
theorem d162_3 : decode (mCode 162) 3 = .ok (.iload_n 1, 1) := by decide +kernel
theorem d162_4 : decode (mCode 162) 4 = .ok (.iload_n 2, 1) := by decide +kernel
theorem d162_5 : decode (mCode 162) 5 = .ok (.invokevirtual 32, 3) := by decide +kernel
theorem d162_13 : decode (mCode 162) 13 = .ok (.astore 4, 2) := by decide +kernel
theorem d162_15 : decode (mCode 162) 15 = .ok (.iconst 1, 1) := by decide +kernel
theorem d162_16 : decode (mCode 162) 16 = .ok (.ireturn, 1) := by decide +kernel
theorem d163_0 : decode (mCode 163) 0 = .ok (.aload 4, 2) := by decide +kernel
theorem d163_2 : decode (mCode 163) 2 = .ok (.iconst 0, 1) := by decide +kernel
theorem d163_3 : decode (mCode 163) 3 = .ok (.aload_n 0, 1) := by decide +kernel
theorem d163_4 : decode (mCode 163) 4 = .ok (.iload_n 1, 1) := by decide +kernel
theorem d163_5 : decode (mCode 163) 5 = .ok (.iload_n 2, 1) := by decide +kernel
theorem d163_6 : decode (mCode 163) 6 = .ok (.iload_n 3, 1) := by decide +kernel
theorem d163_7 : decode (mCode 163) 7 = .ok (.invokevirtual 35, 3) := by decide +kernel
theorem d163_15 : decode (mCode 163) 15 = .ok (.astore 5, 2) := by decide +kernel
theorem d163_17 : decode (mCode 163) 17 = .ok (.iconst 1, 1) := by decide +kernel
theorem d163_18 : decode (mCode 163) 18 = .ok (.ireturn, 1) := by decide +kernel
theorem d164_0 : decode (mCode 164) 0 = .ok (.aload 5, 2) := by decide +kernel
theorem d164_2 : decode (mCode 164) 2 = .ok (.iconst 0, 1) := by decide +kernel
theorem d164_3 : decode (mCode 164) 3 = .ok (.aload_n 0, 1) := by decide +kernel
theorem d164_4 : decode (mCode 164) 4 = .ok (.iload_n 1, 1) := by decide +kernel
theorem d164_5 : decode (mCode 164) 5 = .ok (.iload_n 2, 1) := by decide +kernel
theorem d164_6 : decode (mCode 164) 6 = .ok (.iload_n 3, 1) := by decide +kernel
theorem d164_7 : decode (mCode 164) 7 = .ok (.iload 4, 2) := by decide +kernel
theorem d164_9 : decode (mCode 164) 9 = .ok (.invokevirtual 39, 3) := by decide +kernel
theorem d164_17 : decode (mCode 164) 17 = .ok (.astore 6, 2) := by decide +kernel
theorem d164_19 : decode (mCode 164) 19 = .ok (.iconst 1, 1) := by decide +kernel
theorem d164_20 : decode (mCode 164) 20 = .ok (.ireturn, 1) := by decide +kernel
theorem d165_0 : decode (mCode 165) 0 = .ok (.aload_n 3, 1) := by decide +kernel
theorem d165_1 : decode (mCode 165) 1 = .ok (.iconst 0, 1) := by decide +kernel
theorem d165_2 : decode (mCode 165) 2 = .ok (.aload_n 0, 1) := by decide +kernel
theorem d165_3 : decode (mCode 165) 3 = .ok (.iload_n 1, 1) := by decide +kernel
theorem d165_4 : decode (mCode 165) 4 = .ok (.iload_n 2, 1) := by decide +kernel
theorem d165_5 : decode (mCode 165) 5 = .ok (.invokevirtual 43, 3) := by decide +kernel
theorem d165_8 : decode (mCode 165) 8 = .ok (.i2l, 1) := by decide +kernel
theorem d165_9 : decode (mCode 165) 9 = .ok (.lastore, 1) := by decide +kernel
theorem d165_10 : decode (mCode 165) 10 = .ok (.goto 7, 3) := by decide +kernel
theorem d165_13 : decode (mCode 165) 13 = .ok (.astore 4, 2) := by decide +kernel
theorem d165_15 : decode (mCode 165) 15 = .ok (.iconst 1, 1) := by decide +kernel
theorem d165_16 : decode (mCode 165) 16 = .ok (.ireturn, 1) := by decide +kernel
theorem d165_17 : decode (mCode 165) 17 = .ok (.iconst 0, 1) := by decide +kernel
theorem d165_18 : decode (mCode 165) 18 = .ok (.ireturn, 1) := by decide +kernel
theorem d166_0 : decode (mCode 166) 0 = .ok (.aload 5, 2) := by decide +kernel
theorem d166_2 : decode (mCode 166) 2 = .ok (.iconst 0, 1) := by decide +kernel
theorem d166_3 : decode (mCode 166) 3 = .ok (.aload_n 0, 1) := by decide +kernel
theorem d166_4 : decode (mCode 166) 4 = .ok (.iload_n 1, 1) := by decide +kernel
theorem d166_5 : decode (mCode 166) 5 = .ok (.iload_n 2, 1) := by decide +kernel
theorem d166_6 : decode (mCode 166) 6 = .ok (.iload_n 3, 1) := by decide +kernel
theorem d166_7 : decode (mCode 166) 7 = .ok (.iload 4, 2) := by decide +kernel
theorem d166_9 : decode (mCode 166) 9 = .ok (.invokevirtual 46, 3) := by decide +kernel
theorem d166_12 : decode (mCode 166) 12 = .ok (.i2l, 1) := by decide +kernel
theorem d166_13 : decode (mCode 166) 13 = .ok (.lastore, 1) := by decide +kernel
theorem d166_14 : decode (mCode 166) 14 = .ok (.goto 7, 3) := by decide +kernel
theorem d166_17 : decode (mCode 166) 17 = .ok (.astore 6, 2) := by decide +kernel
theorem d166_19 : decode (mCode 166) 19 = .ok (.iconst 1, 1) := by decide +kernel
theorem d166_20 : decode (mCode 166) 20 = .ok (.ireturn, 1) := by decide +kernel
theorem d166_21 : decode (mCode 166) 21 = .ok (.iconst 0, 1) := by decide +kernel
theorem d166_22 : decode (mCode 166) 22 = .ok (.ireturn, 1) := by decide +kernel
theorem d171_108 : decode (mCode 171) 108 = .ok (.aload_n 1, 1) := by decide +kernel
theorem d171_109 : decode (mCode 171) 109 = .ok (.aload_n 0, 1) := by decide +kernel
theorem d171_110 : decode (mCode 171) 110 = .ok (.iload 4, 2) := by decide +kernel
theorem d171_112 : decode (mCode 171) 112 = .ok (.iconst 1, 1) := by decide +kernel
theorem d171_113 : decode (mCode 171) 113 = .ok (.iadd, 1) := by decide +kernel
theorem d171_114 : decode (mCode 171) 114 = .ok (.iaload, 1) := by decide +kernel
theorem d171_115 : decode (mCode 171) 115 = .ok (.aload_n 0, 1) := by decide +kernel
theorem d171_116 : decode (mCode 171) 116 = .ok (.iload 4, 2) := by decide +kernel
theorem d171_118 : decode (mCode 171) 118 = .ok (.iconst 2, 1) := by decide +kernel
theorem d171_119 : decode (mCode 171) 119 = .ok (.iadd, 1) := by decide +kernel
theorem d171_120 : decode (mCode 171) 120 = .ok (.iaload, 1) := by decide +kernel
theorem d171_121 : decode (mCode 171) 121 = .ok (.aload_n 3, 1) := by decide +kernel
theorem d171_122 : decode (mCode 171) 122 = .ok (.invokestatic 53, 3) := by decide +kernel
theorem d171_125 : decode (mCode 171) 125 = .ok (.istore 5, 2) := by decide +kernel
theorem d171_127 : decode (mCode 171) 127 = .ok (.aload_n 2, 1) := by decide +kernel
theorem d171_128 : decode (mCode 171) 128 = .ok (.aload_n 0, 1) := by decide +kernel
theorem d171_129 : decode (mCode 171) 129 = .ok (.iload 4, 2) := by decide +kernel
theorem d171_131 : decode (mCode 171) 131 = .ok (.iconst 1, 1) := by decide +kernel
theorem d171_132 : decode (mCode 171) 132 = .ok (.iadd, 1) := by decide +kernel
theorem d171_133 : decode (mCode 171) 133 = .ok (.iaload, 1) := by decide +kernel
theorem d171_134 : decode (mCode 171) 134 = .ok (.aload_n 0, 1) := by decide +kernel
theorem d171_135 : decode (mCode 171) 135 = .ok (.iload 4, 2) := by decide +kernel
theorem d171_137 : decode (mCode 171) 137 = .ok (.iconst 2, 1) := by decide +kernel
theorem d171_138 : decode (mCode 171) 138 = .ok (.iadd, 1) := by decide +kernel
theorem d171_139 : decode (mCode 171) 139 = .ok (.iaload, 1) := by decide +kernel
theorem d171_140 : decode (mCode 171) 140 = .ok (.invokevirtual 58, 3) := by decide +kernel
theorem d171_143 : decode (mCode 171) 143 = .ok (.istore 6, 2) := by decide +kernel
theorem d171_145 : decode (mCode 171) 145 = .ok (.aload_n 2, 1) := by decide +kernel
theorem d171_146 : decode (mCode 171) 146 = .ok (.invokevirtual 59, 3) := by decide +kernel
theorem d171_149 : decode (mCode 171) 149 = .ok (.iload 5, 2) := by decide +kernel
theorem d171_151 : decode (mCode 171) 151 = .ok (.if_icmp .eq 5, 3) := by decide +kernel
theorem d171_156 : decode (mCode 171) 156 = .ok (.iload 5, 2) := by decide +kernel
theorem d171_158 : decode (mCode 171) 158 = .ok (.ifCond .ne 15, 3) := by decide +kernel
theorem d171_161 : decode (mCode 171) 161 = .ok (.aload_n 3, 1) := by decide +kernel
theorem d171_162 : decode (mCode 171) 162 = .ok (.iconst 0, 1) := by decide +kernel
theorem d171_163 : decode (mCode 171) 163 = .ok (.laload, 1) := by decide +kernel
theorem d171_164 : decode (mCode 171) 164 = .ok (.iload 6, 2) := by decide +kernel
theorem d171_166 : decode (mCode 171) 166 = .ok (.i2l, 1) := by decide +kernel
theorem d171_167 : decode (mCode 171) 167 = .ok (.lcmp, 1) := by decide +kernel
theorem d171_168 : decode (mCode 171) 168 = .ok (.ifCond .eq 5, 3) := by decide +kernel
theorem d171_173 : decode (mCode 171) 173 = .ok (.goto 777, 3) := by decide +kernel
theorem d171_176 : decode (mCode 171) 176 = .ok (.aload_n 1, 1) := by decide +kernel
theorem d171_177 : decode (mCode 171) 177 = .ok (.aload_n 0, 1) := by decide +kernel
theorem d171_178 : decode (mCode 171) 178 = .ok (.iload 4, 2) := by decide +kernel
theorem d171_180 : decode (mCode 171) 180 = .ok (.iconst 1, 1) := by decide +kernel
theorem d171_181 : decode (mCode 171) 181 = .ok (.iadd, 1) := by decide +kernel
theorem d171_182 : decode (mCode 171) 182 = .ok (.iaload, 1) := by decide +kernel
theorem d171_183 : decode (mCode 171) 183 = .ok (.aload_n 0, 1) := by decide +kernel
theorem d171_184 : decode (mCode 171) 184 = .ok (.iload 4, 2) := by decide +kernel
theorem d171_186 : decode (mCode 171) 186 = .ok (.iconst 2, 1) := by decide +kernel
theorem d171_187 : decode (mCode 171) 187 = .ok (.iadd, 1) := by decide +kernel
theorem d171_188 : decode (mCode 171) 188 = .ok (.iaload, 1) := by decide +kernel
theorem d171_189 : decode (mCode 171) 189 = .ok (.aload_n 3, 1) := by decide +kernel
theorem d171_190 : decode (mCode 171) 190 = .ok (.invokestatic 63, 3) := by decide +kernel
theorem d171_193 : decode (mCode 171) 193 = .ok (.istore 5, 2) := by decide +kernel
theorem d171_195 : decode (mCode 171) 195 = .ok (.aload_n 2, 1) := by decide +kernel
theorem d171_196 : decode (mCode 171) 196 = .ok (.aload_n 0, 1) := by decide +kernel
theorem d171_197 : decode (mCode 171) 197 = .ok (.iload 4, 2) := by decide +kernel
theorem d171_199 : decode (mCode 171) 199 = .ok (.iconst 1, 1) := by decide +kernel
theorem d171_200 : decode (mCode 171) 200 = .ok (.iadd, 1) := by decide +kernel
theorem d171_201 : decode (mCode 171) 201 = .ok (.iaload, 1) := by decide +kernel
theorem d171_202 : decode (mCode 171) 202 = .ok (.aload_n 0, 1) := by decide +kernel
theorem d171_203 : decode (mCode 171) 203 = .ok (.iload 4, 2) := by decide +kernel
theorem d171_205 : decode (mCode 171) 205 = .ok (.iconst 2, 1) := by decide +kernel
theorem d171_206 : decode (mCode 171) 206 = .ok (.iadd, 1) := by decide +kernel
theorem d171_207 : decode (mCode 171) 207 = .ok (.iaload, 1) := by decide +kernel
theorem d171_208 : decode (mCode 171) 208 = .ok (.invokevirtual 65, 3) := by decide +kernel
theorem d171_211 : decode (mCode 171) 211 = .ok (.istore 6, 2) := by decide +kernel
theorem d171_213 : decode (mCode 171) 213 = .ok (.aload_n 2, 1) := by decide +kernel
theorem d171_214 : decode (mCode 171) 214 = .ok (.invokevirtual 59, 3) := by decide +kernel
theorem d171_217 : decode (mCode 171) 217 = .ok (.iload 5, 2) := by decide +kernel
theorem d171_219 : decode (mCode 171) 219 = .ok (.if_icmp .eq 5, 3) := by decide +kernel
theorem d171_224 : decode (mCode 171) 224 = .ok (.iload 5, 2) := by decide +kernel
theorem d171_226 : decode (mCode 171) 226 = .ok (.ifCond .ne 22, 3) := by decide +kernel
theorem d171_248 : decode (mCode 171) 248 = .ok (.goto 702, 3) := by decide +kernel
theorem d171_251 : decode (mCode 171) 251 = .ok (.aload_n 1, 1) := by decide +kernel
theorem d171_252 : decode (mCode 171) 252 = .ok (.aload_n 0, 1) := by decide +kernel
theorem d171_253 : decode (mCode 171) 253 = .ok (.iload 4, 2) := by decide +kernel
theorem d171_255 : decode (mCode 171) 255 = .ok (.iconst 1, 1) := by decide +kernel
theorem d171_256 : decode (mCode 171) 256 = .ok (.iadd, 1) := by decide +kernel
theorem d171_257 : decode (mCode 171) 257 = .ok (.iaload, 1) := by decide +kernel
theorem d171_258 : decode (mCode 171) 258 = .ok (.aload_n 0, 1) := by decide +kernel
theorem d171_259 : decode (mCode 171) 259 = .ok (.iload 4, 2) := by decide +kernel
theorem d171_261 : decode (mCode 171) 261 = .ok (.iconst 2, 1) := by decide +kernel
theorem d171_262 : decode (mCode 171) 262 = .ok (.iadd, 1) := by decide +kernel
theorem d171_263 : decode (mCode 171) 263 = .ok (.iaload, 1) := by decide +kernel
theorem d171_264 : decode (mCode 171) 264 = .ok (.aload_n 3, 1) := by decide +kernel
theorem d171_265 : decode (mCode 171) 265 = .ok (.invokestatic 66, 3) := by decide +kernel
theorem d171_268 : decode (mCode 171) 268 = .ok (.istore 5, 2) := by decide +kernel
theorem d171_270 : decode (mCode 171) 270 = .ok (.aload_n 2, 1) := by decide +kernel
theorem d171_271 : decode (mCode 171) 271 = .ok (.aload_n 0, 1) := by decide +kernel
theorem d171_272 : decode (mCode 171) 272 = .ok (.iload 4, 2) := by decide +kernel
theorem d171_274 : decode (mCode 171) 274 = .ok (.iconst 1, 1) := by decide +kernel
theorem d171_275 : decode (mCode 171) 275 = .ok (.iadd, 1) := by decide +kernel
theorem d171_276 : decode (mCode 171) 276 = .ok (.iaload, 1) := by decide +kernel
theorem d171_277 : decode (mCode 171) 277 = .ok (.aload_n 0, 1) := by decide +kernel
theorem d171_278 : decode (mCode 171) 278 = .ok (.iload 4, 2) := by decide +kernel
theorem d171_280 : decode (mCode 171) 280 = .ok (.iconst 2, 1) := by decide +kernel
theorem d171_281 : decode (mCode 171) 281 = .ok (.iadd, 1) := by decide +kernel
theorem d171_282 : decode (mCode 171) 282 = .ok (.iaload, 1) := by decide +kernel
theorem d171_283 : decode (mCode 171) 283 = .ok (.invokevirtual 68, 3) := by decide +kernel
theorem d171_286 : decode (mCode 171) 286 = .ok (.istore 6, 2) := by decide +kernel
theorem d171_288 : decode (mCode 171) 288 = .ok (.aload_n 2, 1) := by decide +kernel
theorem d171_289 : decode (mCode 171) 289 = .ok (.invokevirtual 59, 3) := by decide +kernel
theorem d171_292 : decode (mCode 171) 292 = .ok (.iload 5, 2) := by decide +kernel
theorem d171_294 : decode (mCode 171) 294 = .ok (.if_icmp .eq 5, 3) := by decide +kernel
theorem d171_299 : decode (mCode 171) 299 = .ok (.iload 5, 2) := by decide +kernel
theorem d171_301 : decode (mCode 171) 301 = .ok (.ifCond .ne 22, 3) := by decide +kernel
theorem d171_323 : decode (mCode 171) 323 = .ok (.goto 627, 3) := by decide +kernel
theorem d171_326 : decode (mCode 171) 326 = .ok (.aload_n 1, 1) := by decide +kernel
theorem d171_327 : decode (mCode 171) 327 = .ok (.invokevirtual 69, 3) := by decide +kernel
theorem d171_330 : decode (mCode 171) 330 = .ok (.aload_n 2, 1) := by decide +kernel
theorem d171_331 : decode (mCode 171) 331 = .ok (.invokevirtual 72, 3) := by decide +kernel
theorem d171_334 : decode (mCode 171) 334 = .ok (.if_icmp .eq 616, 3) := by decide +kernel
theorem d171_339 : decode (mCode 171) 339 = .ok (.aload_n 1, 1) := by decide +kernel
theorem d171_340 : decode (mCode 171) 340 = .ok (.aload_n 0, 1) := by decide +kernel
theorem d171_341 : decode (mCode 171) 341 = .ok (.iload 4, 2) := by decide +kernel
theorem d171_343 : decode (mCode 171) 343 = .ok (.iconst 1, 1) := by decide +kernel
theorem d171_344 : decode (mCode 171) 344 = .ok (.iadd, 1) := by decide +kernel
theorem d171_345 : decode (mCode 171) 345 = .ok (.iaload, 1) := by decide +kernel
theorem d171_346 : decode (mCode 171) 346 = .ok (.invokevirtual 73, 3) := by decide +kernel
theorem d171_349 : decode (mCode 171) 349 = .ok (.aload_n 2, 1) := by decide +kernel
theorem d171_350 : decode (mCode 171) 350 = .ok (.aload_n 0, 1) := by decide +kernel
theorem d171_351 : decode (mCode 171) 351 = .ok (.iload 4, 2) := by decide +kernel
theorem d171_353 : decode (mCode 171) 353 = .ok (.iconst 1, 1) := by decide +kernel
theorem d171_354 : decode (mCode 171) 354 = .ok (.iadd, 1) := by decide +kernel
theorem d171_355 : decode (mCode 171) 355 = .ok (.iaload, 1) := by decide +kernel
theorem d171_356 : decode (mCode 171) 356 = .ok (.invokevirtual 77, 3) := by decide +kernel
theorem d171_359 : decode (mCode 171) 359 = .ok (.if_icmp .eq 591, 3) := by decide +kernel
theorem d171_364 : decode (mCode 171) 364 = .ok (.aload_n 1, 1) := by decide +kernel
theorem d171_365 : decode (mCode 171) 365 = .ok (.aload_n 0, 1) := by decide +kernel
theorem d171_366 : decode (mCode 171) 366 = .ok (.iload 4, 2) := by decide +kernel
theorem d171_368 : decode (mCode 171) 368 = .ok (.iconst 1, 1) := by decide +kernel
theorem d171_369 : decode (mCode 171) 369 = .ok (.iadd, 1) := by decide +kernel
theorem d171_370 : decode (mCode 171) 370 = .ok (.iaload, 1) := by decide +kernel
theorem d171_371 : decode (mCode 171) 371 = .ok (.aload_n 0, 1) := by decide +kernel
theorem d171_372 : decode (mCode 171) 372 = .ok (.iload 4, 2) := by decide +kernel
theorem d171_374 : decode (mCode 171) 374 = .ok (.iconst 2, 1) := by decide +kernel
theorem d171_375 : decode (mCode 171) 375 = .ok (.iadd, 1) := by decide +kernel
theorem d171_376 : decode (mCode 171) 376 = .ok (.iaload, 1) := by decide +kernel
theorem d171_377 : decode (mCode 171) 377 = .ok (.aload_n 3, 1) := by decide +kernel
theorem d171_378 : decode (mCode 171) 378 = .ok (.invokestatic 78, 3) := by decide +kernel
theorem d171_381 : decode (mCode 171) 381 = .ok (.istore 5, 2) := by decide +kernel
theorem d171_383 : decode (mCode 171) 383 = .ok (.aload_n 2, 1) := by decide +kernel
theorem d171_384 : decode (mCode 171) 384 = .ok (.aload_n 0, 1) := by decide +kernel
theorem d171_385 : decode (mCode 171) 385 = .ok (.iload 4, 2) := by decide +kernel
theorem d171_387 : decode (mCode 171) 387 = .ok (.iconst 1, 1) := by decide +kernel
theorem d171_388 : decode (mCode 171) 388 = .ok (.iadd, 1) := by decide +kernel
theorem d171_389 : decode (mCode 171) 389 = .ok (.iaload, 1) := by decide +kernel
theorem d171_390 : decode (mCode 171) 390 = .ok (.aload_n 0, 1) := by decide +kernel
theorem d171_391 : decode (mCode 171) 391 = .ok (.iload 4, 2) := by decide +kernel
theorem d171_393 : decode (mCode 171) 393 = .ok (.iconst 2, 1) := by decide +kernel
theorem d171_394 : decode (mCode 171) 394 = .ok (.iadd, 1) := by decide +kernel
theorem d171_395 : decode (mCode 171) 395 = .ok (.iaload, 1) := by decide +kernel
theorem d171_396 : decode (mCode 171) 396 = .ok (.invokevirtual 80, 3) := by decide +kernel
theorem d171_399 : decode (mCode 171) 399 = .ok (.istore 6, 2) := by decide +kernel
theorem d171_401 : decode (mCode 171) 401 = .ok (.aload_n 2, 1) := by decide +kernel
theorem d171_402 : decode (mCode 171) 402 = .ok (.invokevirtual 59, 3) := by decide +kernel
theorem d171_405 : decode (mCode 171) 405 = .ok (.iload 5, 2) := by decide +kernel
theorem d171_407 : decode (mCode 171) 407 = .ok (.if_icmp .eq 5, 3) := by decide +kernel
theorem d171_412 : decode (mCode 171) 412 = .ok (.iload 5, 2) := by decide +kernel
theorem d171_414 : decode (mCode 171) 414 = .ok (.ifCond .ne 15, 3) := by decide +kernel
theorem d171_429 : decode (mCode 171) 429 = .ok (.goto 521, 3) := by decide +kernel
theorem d171_432 : decode (mCode 171) 432 = .ok (.aload_n 1, 1) := by decide +kernel
theorem d171_433 : decode (mCode 171) 433 = .ok (.aload_n 0, 1) := by decide +kernel
theorem d171_434 : decode (mCode 171) 434 = .ok (.iload 4, 2) := by decide +kernel
theorem d171_436 : decode (mCode 171) 436 = .ok (.iconst 1, 1) := by decide +kernel
theorem d171_437 : decode (mCode 171) 437 = .ok (.iadd, 1) := by decide +kernel
theorem d171_438 : decode (mCode 171) 438 = .ok (.iaload, 1) := by decide +kernel
theorem d171_439 : decode (mCode 171) 439 = .ok (.aload_n 0, 1) := by decide +kernel
theorem d171_440 : decode (mCode 171) 440 = .ok (.iload 4, 2) := by decide +kernel
theorem d171_442 : decode (mCode 171) 442 = .ok (.iconst 2, 1) := by decide +kernel
theorem d171_443 : decode (mCode 171) 443 = .ok (.iadd, 1) := by decide +kernel
theorem d171_444 : decode (mCode 171) 444 = .ok (.iaload, 1) := by decide +kernel
theorem d171_445 : decode (mCode 171) 445 = .ok (.aload_n 3, 1) := by decide +kernel
theorem d171_446 : decode (mCode 171) 446 = .ok (.invokestatic 81, 3) := by decide +kernel
theorem d171_449 : decode (mCode 171) 449 = .ok (.istore 5, 2) := by decide +kernel
theorem d171_451 : decode (mCode 171) 451 = .ok (.aload_n 2, 1) := by decide +kernel
theorem d171_452 : decode (mCode 171) 452 = .ok (.aload_n 0, 1) := by decide +kernel
theorem d171_453 : decode (mCode 171) 453 = .ok (.iload 4, 2) := by decide +kernel
theorem d171_455 : decode (mCode 171) 455 = .ok (.iconst 1, 1) := by decide +kernel
theorem d171_456 : decode (mCode 171) 456 = .ok (.iadd, 1) := by decide +kernel
theorem d171_457 : decode (mCode 171) 457 = .ok (.iaload, 1) := by decide +kernel
theorem d171_458 : decode (mCode 171) 458 = .ok (.aload_n 0, 1) := by decide +kernel
theorem d171_459 : decode (mCode 171) 459 = .ok (.iload 4, 2) := by decide +kernel
theorem d171_461 : decode (mCode 171) 461 = .ok (.iconst 2, 1) := by decide +kernel
theorem d171_462 : decode (mCode 171) 462 = .ok (.iadd, 1) := by decide +kernel
theorem d171_463 : decode (mCode 171) 463 = .ok (.iaload, 1) := by decide +kernel
theorem d171_464 : decode (mCode 171) 464 = .ok (.invokevirtual 83, 3) := by decide +kernel
theorem d171_467 : decode (mCode 171) 467 = .ok (.istore 6, 2) := by decide +kernel
theorem d171_469 : decode (mCode 171) 469 = .ok (.aload_n 2, 1) := by decide +kernel
theorem d171_470 : decode (mCode 171) 470 = .ok (.invokevirtual 59, 3) := by decide +kernel
theorem d171_473 : decode (mCode 171) 473 = .ok (.iload 5, 2) := by decide +kernel
theorem d171_475 : decode (mCode 171) 475 = .ok (.if_icmp .eq 5, 3) := by decide +kernel
theorem d171_480 : decode (mCode 171) 480 = .ok (.iload 5, 2) := by decide +kernel
theorem d171_482 : decode (mCode 171) 482 = .ok (.ifCond .ne 15, 3) := by decide +kernel
theorem d171_497 : decode (mCode 171) 497 = .ok (.goto 453, 3) := by decide +kernel
theorem d171_500 : decode (mCode 171) 500 = .ok (.aload_n 1, 1) := by decide +kernel
theorem d171_501 : decode (mCode 171) 501 = .ok (.aload_n 0, 1) := by decide +kernel
theorem d171_502 : decode (mCode 171) 502 = .ok (.iload 4, 2) := by decide +kernel
theorem d171_504 : decode (mCode 171) 504 = .ok (.iconst 1, 1) := by decide +kernel
theorem d171_505 : decode (mCode 171) 505 = .ok (.iadd, 1) := by decide +kernel
theorem d171_506 : decode (mCode 171) 506 = .ok (.iaload, 1) := by decide +kernel
theorem d171_507 : decode (mCode 171) 507 = .ok (.aload_n 0, 1) := by decide +kernel
theorem d171_508 : decode (mCode 171) 508 = .ok (.iload 4, 2) := by decide +kernel
theorem d171_510 : decode (mCode 171) 510 = .ok (.iconst 2, 1) := by decide +kernel
theorem d171_511 : decode (mCode 171) 511 = .ok (.iadd, 1) := by decide +kernel
theorem d171_512 : decode (mCode 171) 512 = .ok (.iaload, 1) := by decide +kernel
theorem d171_513 : decode (mCode 171) 513 = .ok (.aload_n 3, 1) := by decide +kernel
theorem d171_514 : decode (mCode 171) 514 = .ok (.invokestatic 84, 3) := by decide +kernel
theorem d171_517 : decode (mCode 171) 517 = .ok (.istore 5, 2) := by decide +kernel
theorem d171_519 : decode (mCode 171) 519 = .ok (.aload_n 2, 1) := by decide +kernel
theorem d171_520 : decode (mCode 171) 520 = .ok (.aload_n 0, 1) := by decide +kernel
theorem d171_521 : decode (mCode 171) 521 = .ok (.iload 4, 2) := by decide +kernel
theorem d171_523 : decode (mCode 171) 523 = .ok (.iconst 1, 1) := by decide +kernel
theorem d171_524 : decode (mCode 171) 524 = .ok (.iadd, 1) := by decide +kernel
theorem d171_525 : decode (mCode 171) 525 = .ok (.iaload, 1) := by decide +kernel
theorem d171_526 : decode (mCode 171) 526 = .ok (.aload_n 0, 1) := by decide +kernel
theorem d171_527 : decode (mCode 171) 527 = .ok (.iload 4, 2) := by decide +kernel
theorem d171_529 : decode (mCode 171) 529 = .ok (.iconst 2, 1) := by decide +kernel
theorem d171_530 : decode (mCode 171) 530 = .ok (.iadd, 1) := by decide +kernel
theorem d171_531 : decode (mCode 171) 531 = .ok (.iaload, 1) := by decide +kernel
theorem d171_532 : decode (mCode 171) 532 = .ok (.invokevirtual 86, 3) := by decide +kernel
theorem d171_535 : decode (mCode 171) 535 = .ok (.istore 6, 2) := by decide +kernel
theorem d171_537 : decode (mCode 171) 537 = .ok (.aload_n 2, 1) := by decide +kernel
theorem d171_538 : decode (mCode 171) 538 = .ok (.invokevirtual 59, 3) := by decide +kernel
theorem d171_541 : decode (mCode 171) 541 = .ok (.iload 5, 2) := by decide +kernel
theorem d171_543 : decode (mCode 171) 543 = .ok (.if_icmp .eq 5, 3) := by decide +kernel
theorem d171_548 : decode (mCode 171) 548 = .ok (.iload 5, 2) := by decide +kernel
theorem d171_550 : decode (mCode 171) 550 = .ok (.ifCond .ne 15, 3) := by decide +kernel
theorem d171_565 : decode (mCode 171) 565 = .ok (.goto 385, 3) := by decide +kernel
theorem d171_568 : decode (mCode 171) 568 = .ok (.aload_n 1, 1) := by decide +kernel
theorem d171_569 : decode (mCode 171) 569 = .ok (.aload_n 0, 1) := by decide +kernel
theorem d171_570 : decode (mCode 171) 570 = .ok (.iload 4, 2) := by decide +kernel
theorem d171_572 : decode (mCode 171) 572 = .ok (.iconst 1, 1) := by decide +kernel
theorem d171_573 : decode (mCode 171) 573 = .ok (.iadd, 1) := by decide +kernel
theorem d171_574 : decode (mCode 171) 574 = .ok (.iaload, 1) := by decide +kernel
theorem d171_575 : decode (mCode 171) 575 = .ok (.aload_n 0, 1) := by decide +kernel
theorem d171_576 : decode (mCode 171) 576 = .ok (.iload 4, 2) := by decide +kernel
theorem d171_578 : decode (mCode 171) 578 = .ok (.iconst 2, 1) := by decide +kernel
theorem d171_579 : decode (mCode 171) 579 = .ok (.iadd, 1) := by decide +kernel
theorem d171_580 : decode (mCode 171) 580 = .ok (.iaload, 1) := by decide +kernel
theorem d171_581 : decode (mCode 171) 581 = .ok (.aload_n 0, 1) := by decide +kernel
theorem d171_582 : decode (mCode 171) 582 = .ok (.iload 4, 2) := by decide +kernel
theorem d171_584 : decode (mCode 171) 584 = .ok (.iconst 3, 1) := by decide +kernel
theorem d171_585 : decode (mCode 171) 585 = .ok (.iadd, 1) := by decide +kernel
theorem d171_586 : decode (mCode 171) 586 = .ok (.iaload, 1) := by decide +kernel
theorem d171_587 : decode (mCode 171) 587 = .ok (.aload_n 3, 1) := by decide +kernel
theorem d171_588 : decode (mCode 171) 588 = .ok (.invokestatic 87, 3) := by decide +kernel
theorem d171_591 : decode (mCode 171) 591 = .ok (.istore 5, 2) := by decide +kernel
theorem d171_593 : decode (mCode 171) 593 = .ok (.aload_n 2, 1) := by decide +kernel
theorem d171_594 : decode (mCode 171) 594 = .ok (.aload_n 0, 1) := by decide +kernel
theorem d171_595 : decode (mCode 171) 595 = .ok (.iload 4, 2) := by decide +kernel
theorem d171_597 : decode (mCode 171) 597 = .ok (.iconst 1, 1) := by decide +kernel
theorem d171_598 : decode (mCode 171) 598 = .ok (.iadd, 1) := by decide +kernel
theorem d171_599 : decode (mCode 171) 599 = .ok (.iaload, 1) := by decide +kernel
theorem d171_600 : decode (mCode 171) 600 = .ok (.aload_n 0, 1) := by decide +kernel
theorem d171_601 : decode (mCode 171) 601 = .ok (.iload 4, 2) := by decide +kernel
theorem d171_603 : decode (mCode 171) 603 = .ok (.iconst 2, 1) := by decide +kernel
theorem d171_604 : decode (mCode 171) 604 = .ok (.iadd, 1) := by decide +kernel
theorem d171_605 : decode (mCode 171) 605 = .ok (.iaload, 1) := by decide +kernel
theorem d171_606 : decode (mCode 171) 606 = .ok (.aload_n 0, 1) := by decide +kernel
theorem d171_607 : decode (mCode 171) 607 = .ok (.iload 4, 2) := by decide +kernel
theorem d171_609 : decode (mCode 171) 609 = .ok (.iconst 3, 1) := by decide +kernel
theorem d171_610 : decode (mCode 171) 610 = .ok (.iadd, 1) := by decide +kernel
theorem d171_611 : decode (mCode 171) 611 = .ok (.iaload, 1) := by decide +kernel
theorem d171_612 : decode (mCode 171) 612 = .ok (.invokevirtual 90, 3) := by decide +kernel
theorem d171_615 : decode (mCode 171) 615 = .ok (.istore 6, 2) := by decide +kernel
theorem d171_617 : decode (mCode 171) 617 = .ok (.aload_n 2, 1) := by decide +kernel
theorem d171_618 : decode (mCode 171) 618 = .ok (.invokevirtual 59, 3) := by decide +kernel
theorem d171_621 : decode (mCode 171) 621 = .ok (.iload 5, 2) := by decide +kernel
theorem d171_623 : decode (mCode 171) 623 = .ok (.if_icmp .eq 5, 3) := by decide +kernel
theorem d171_628 : decode (mCode 171) 628 = .ok (.iload 5, 2) := by decide +kernel
theorem d171_630 : decode (mCode 171) 630 = .ok (.ifCond .ne 15, 3) := by decide +kernel
theorem d171_645 : decode (mCode 171) 645 = .ok (.goto 305, 3) := by decide +kernel
theorem d171_648 : decode (mCode 171) 648 = .ok (.aload_n 1, 1) := by decide +kernel
theorem d171_649 : decode (mCode 171) 649 = .ok (.aload_n 0, 1) := by decide +kernel
theorem d171_650 : decode (mCode 171) 650 = .ok (.iload 4, 2) := by decide +kernel
theorem d171_652 : decode (mCode 171) 652 = .ok (.iconst 1, 1) := by decide +kernel
theorem d171_653 : decode (mCode 171) 653 = .ok (.iadd, 1) := by decide +kernel
theorem d171_654 : decode (mCode 171) 654 = .ok (.iaload, 1) := by decide +kernel
theorem d171_655 : decode (mCode 171) 655 = .ok (.aload_n 0, 1) := by decide +kernel
theorem d171_656 : decode (mCode 171) 656 = .ok (.iload 4, 2) := by decide +kernel
theorem d171_658 : decode (mCode 171) 658 = .ok (.iconst 2, 1) := by decide +kernel
theorem d171_659 : decode (mCode 171) 659 = .ok (.iadd, 1) := by decide +kernel
theorem d171_660 : decode (mCode 171) 660 = .ok (.iaload, 1) := by decide +kernel
theorem d171_661 : decode (mCode 171) 661 = .ok (.aload_n 0, 1) := by decide +kernel
theorem d171_662 : decode (mCode 171) 662 = .ok (.iload 4, 2) := by decide +kernel
theorem d171_664 : decode (mCode 171) 664 = .ok (.iconst 3, 1) := by decide +kernel
theorem d171_665 : decode (mCode 171) 665 = .ok (.iadd, 1) := by decide +kernel
theorem d171_666 : decode (mCode 171) 666 = .ok (.iaload, 1) := by decide +kernel
theorem d171_667 : decode (mCode 171) 667 = .ok (.aload_n 0, 1) := by decide +kernel
theorem d171_668 : decode (mCode 171) 668 = .ok (.iload 4, 2) := by decide +kernel
theorem d171_670 : decode (mCode 171) 670 = .ok (.iconst 4, 1) := by decide +kernel
theorem d171_671 : decode (mCode 171) 671 = .ok (.iadd, 1) := by decide +kernel
theorem d171_672 : decode (mCode 171) 672 = .ok (.iaload, 1) := by decide +kernel
theorem d171_673 : decode (mCode 171) 673 = .ok (.aload_n 3, 1) := by decide +kernel
theorem d171_674 : decode (mCode 171) 674 = .ok (.invokestatic 91, 3) := by decide +kernel
theorem d171_677 : decode (mCode 171) 677 = .ok (.istore 5, 2) := by decide +kernel
theorem d171_679 : decode (mCode 171) 679 = .ok (.aload_n 2, 1) := by decide +kernel
theorem d171_680 : decode (mCode 171) 680 = .ok (.aload_n 0, 1) := by decide +kernel
theorem d171_681 : decode (mCode 171) 681 = .ok (.iload 4, 2) := by decide +kernel
theorem d171_683 : decode (mCode 171) 683 = .ok (.iconst 1, 1) := by decide +kernel
theorem d171_684 : decode (mCode 171) 684 = .ok (.iadd, 1) := by decide +kernel
theorem d171_685 : decode (mCode 171) 685 = .ok (.iaload, 1) := by decide +kernel
theorem d171_686 : decode (mCode 171) 686 = .ok (.aload_n 0, 1) := by decide +kernel
theorem d171_687 : decode (mCode 171) 687 = .ok (.iload 4, 2) := by decide +kernel
theorem d171_689 : decode (mCode 171) 689 = .ok (.iconst 2, 1) := by decide +kernel
theorem d171_690 : decode (mCode 171) 690 = .ok (.iadd, 1) := by decide +kernel
theorem d171_691 : decode (mCode 171) 691 = .ok (.iaload, 1) := by decide +kernel
theorem d171_692 : decode (mCode 171) 692 = .ok (.aload_n 0, 1) := by decide +kernel
theorem d171_693 : decode (mCode 171) 693 = .ok (.iload 4, 2) := by decide +kernel
theorem d171_695 : decode (mCode 171) 695 = .ok (.iconst 3, 1) := by decide +kernel
theorem d171_696 : decode (mCode 171) 696 = .ok (.iadd, 1) := by decide +kernel
theorem d171_697 : decode (mCode 171) 697 = .ok (.iaload, 1) := by decide +kernel
theorem d171_698 : decode (mCode 171) 698 = .ok (.aload_n 0, 1) := by decide +kernel
theorem d171_699 : decode (mCode 171) 699 = .ok (.iload 4, 2) := by decide +kernel
theorem d171_701 : decode (mCode 171) 701 = .ok (.iconst 4, 1) := by decide +kernel
theorem d171_702 : decode (mCode 171) 702 = .ok (.iadd, 1) := by decide +kernel
theorem d171_703 : decode (mCode 171) 703 = .ok (.iaload, 1) := by decide +kernel
theorem d171_704 : decode (mCode 171) 704 = .ok (.invokevirtual 94, 3) := by decide +kernel
theorem d171_707 : decode (mCode 171) 707 = .ok (.istore 6, 2) := by decide +kernel
theorem d171_709 : decode (mCode 171) 709 = .ok (.aload_n 2, 1) := by decide +kernel
theorem d171_710 : decode (mCode 171) 710 = .ok (.invokevirtual 59, 3) := by decide +kernel
theorem d171_713 : decode (mCode 171) 713 = .ok (.iload 5, 2) := by decide +kernel
theorem d171_715 : decode (mCode 171) 715 = .ok (.if_icmp .eq 5, 3) := by decide +kernel
theorem d171_720 : decode (mCode 171) 720 = .ok (.iload 5, 2) := by decide +kernel
theorem d171_722 : decode (mCode 171) 722 = .ok (.ifCond .ne 15, 3) := by decide +kernel
theorem d171_737 : decode (mCode 171) 737 = .ok (.goto 213, 3) := by decide +kernel
theorem d171_740 : decode (mCode 171) 740 = .ok (.aload_n 1, 1) := by decide +kernel
theorem d171_741 : decode (mCode 171) 741 = .ok (.aload_n 0, 1) := by decide +kernel
theorem d171_742 : decode (mCode 171) 742 = .ok (.iload 4, 2) := by decide +kernel
theorem d171_744 : decode (mCode 171) 744 = .ok (.iconst 1, 1) := by decide +kernel
theorem d171_745 : decode (mCode 171) 745 = .ok (.iadd, 1) := by decide +kernel
theorem d171_746 : decode (mCode 171) 746 = .ok (.iaload, 1) := by decide +kernel
theorem d171_747 : decode (mCode 171) 747 = .ok (.aload_n 0, 1) := by decide +kernel
theorem d171_748 : decode (mCode 171) 748 = .ok (.iload 4, 2) := by decide +kernel
theorem d171_750 : decode (mCode 171) 750 = .ok (.iconst 2, 1) := by decide +kernel
theorem d171_751 : decode (mCode 171) 751 = .ok (.iadd, 1) := by decide +kernel
theorem d171_752 : decode (mCode 171) 752 = .ok (.iaload, 1) := by decide +kernel
theorem d171_753 : decode (mCode 171) 753 = .ok (.aload_n 3, 1) := by decide +kernel
theorem d171_754 : decode (mCode 171) 754 = .ok (.invokestatic 95, 3) := by decide +kernel
theorem d171_757 : decode (mCode 171) 757 = .ok (.istore 5, 2) := by decide +kernel
theorem d171_759 : decode (mCode 171) 759 = .ok (.aload_n 2, 1) := by decide +kernel
theorem d171_760 : decode (mCode 171) 760 = .ok (.aload_n 0, 1) := by decide +kernel
theorem d171_761 : decode (mCode 171) 761 = .ok (.iload 4, 2) := by decide +kernel
theorem d171_763 : decode (mCode 171) 763 = .ok (.iconst 1, 1) := by decide +kernel
theorem d171_764 : decode (mCode 171) 764 = .ok (.iadd, 1) := by decide +kernel
theorem d171_765 : decode (mCode 171) 765 = .ok (.iaload, 1) := by decide +kernel
theorem d171_766 : decode (mCode 171) 766 = .ok (.aload_n 0, 1) := by decide +kernel
theorem d171_767 : decode (mCode 171) 767 = .ok (.iload 4, 2) := by decide +kernel
theorem d171_769 : decode (mCode 171) 769 = .ok (.iconst 2, 1) := by decide +kernel
theorem d171_770 : decode (mCode 171) 770 = .ok (.iadd, 1) := by decide +kernel
theorem d171_771 : decode (mCode 171) 771 = .ok (.iaload, 1) := by decide +kernel
theorem d171_772 : decode (mCode 171) 772 = .ok (.invokevirtual 97, 3) := by decide +kernel
theorem d171_775 : decode (mCode 171) 775 = .ok (.istore 6, 2) := by decide +kernel
theorem d171_777 : decode (mCode 171) 777 = .ok (.aload_n 2, 1) := by decide +kernel
theorem d171_778 : decode (mCode 171) 778 = .ok (.invokevirtual 59, 3) := by decide +kernel
theorem d171_781 : decode (mCode 171) 781 = .ok (.iload 5, 2) := by decide +kernel
theorem d171_783 : decode (mCode 171) 783 = .ok (.if_icmp .eq 5, 3) := by decide +kernel
theorem d171_788 : decode (mCode 171) 788 = .ok (.iload 5, 2) := by decide +kernel
theorem d171_790 : decode (mCode 171) 790 = .ok (.ifCond .ne 15, 3) := by decide +kernel
theorem d171_793 : decode (mCode 171) 793 = .ok (.aload_n 3, 1) := by decide +kernel
theorem d171_794 : decode (mCode 171) 794 = .ok (.iconst 0, 1) := by decide +kernel
theorem d171_795 : decode (mCode 171) 795 = .ok (.laload, 1) := by decide +kernel
theorem d171_796 : decode (mCode 171) 796 = .ok (.iload 6, 2) := by decide +kernel
theorem d171_798 : decode (mCode 171) 798 = .ok (.i2l, 1) := by decide +kernel
theorem d171_799 : decode (mCode 171) 799 = .ok (.lcmp, 1) := by decide +kernel
theorem d171_800 : decode (mCode 171) 800 = .ok (.ifCond .eq 5, 3) := by decide +kernel
theorem d171_805 : decode (mCode 171) 805 = .ok (.goto 145, 3) := by decide +kernel
theorem d171_808 : decode (mCode 171) 808 = .ok (.aload_n 1, 1) := by decide +kernel
theorem d171_809 : decode (mCode 171) 809 = .ok (.aload_n 0, 1) := by decide +kernel
theorem d171_810 : decode (mCode 171) 810 = .ok (.iload 4, 2) := by decide +kernel
theorem d171_812 : decode (mCode 171) 812 = .ok (.iconst 1, 1) := by decide +kernel
theorem d171_813 : decode (mCode 171) 813 = .ok (.iadd, 1) := by decide +kernel
theorem d171_814 : decode (mCode 171) 814 = .ok (.iaload, 1) := by decide +kernel
theorem d171_815 : decode (mCode 171) 815 = .ok (.aload_n 0, 1) := by decide +kernel
theorem d171_816 : decode (mCode 171) 816 = .ok (.iload 4, 2) := by decide +kernel
theorem d171_818 : decode (mCode 171) 818 = .ok (.iconst 2, 1) := by decide +kernel
theorem d171_819 : decode (mCode 171) 819 = .ok (.iadd, 1) := by decide +kernel
theorem d171_820 : decode (mCode 171) 820 = .ok (.iaload, 1) := by decide +kernel
theorem d171_821 : decode (mCode 171) 821 = .ok (.aload_n 0, 1) := by decide +kernel
theorem d171_822 : decode (mCode 171) 822 = .ok (.iload 4, 2) := by decide +kernel
theorem d171_824 : decode (mCode 171) 824 = .ok (.iconst 3, 1) := by decide +kernel
theorem d171_825 : decode (mCode 171) 825 = .ok (.iadd, 1) := by decide +kernel
theorem d171_826 : decode (mCode 171) 826 = .ok (.iaload, 1) := by decide +kernel
theorem d171_827 : decode (mCode 171) 827 = .ok (.aload_n 0, 1) := by decide +kernel
theorem d171_828 : decode (mCode 171) 828 = .ok (.iload 4, 2) := by decide +kernel
theorem d171_830 : decode (mCode 171) 830 = .ok (.iconst 4, 1) := by decide +kernel
theorem d171_831 : decode (mCode 171) 831 = .ok (.iadd, 1) := by decide +kernel
theorem d171_832 : decode (mCode 171) 832 = .ok (.iaload, 1) := by decide +kernel
theorem d171_833 : decode (mCode 171) 833 = .ok (.aload_n 3, 1) := by decide +kernel
theorem d171_834 : decode (mCode 171) 834 = .ok (.invokestatic 98, 3) := by decide +kernel
theorem d171_837 : decode (mCode 171) 837 = .ok (.istore 5, 2) := by decide +kernel
theorem d171_839 : decode (mCode 171) 839 = .ok (.aload_n 2, 1) := by decide +kernel
theorem d171_840 : decode (mCode 171) 840 = .ok (.aload_n 0, 1) := by decide +kernel
theorem d171_841 : decode (mCode 171) 841 = .ok (.iload 4, 2) := by decide +kernel
theorem d171_843 : decode (mCode 171) 843 = .ok (.iconst 1, 1) := by decide +kernel
theorem d171_844 : decode (mCode 171) 844 = .ok (.iadd, 1) := by decide +kernel
theorem d171_845 : decode (mCode 171) 845 = .ok (.iaload, 1) := by decide +kernel
theorem d171_846 : decode (mCode 171) 846 = .ok (.aload_n 0, 1) := by decide +kernel
theorem d171_847 : decode (mCode 171) 847 = .ok (.iload 4, 2) := by decide +kernel
theorem d171_849 : decode (mCode 171) 849 = .ok (.iconst 2, 1) := by decide +kernel
theorem d171_850 : decode (mCode 171) 850 = .ok (.iadd, 1) := by decide +kernel
theorem d171_851 : decode (mCode 171) 851 = .ok (.iaload, 1) := by decide +kernel
theorem d171_852 : decode (mCode 171) 852 = .ok (.aload_n 0, 1) := by decide +kernel
theorem d171_853 : decode (mCode 171) 853 = .ok (.iload 4, 2) := by decide +kernel
theorem d171_855 : decode (mCode 171) 855 = .ok (.iconst 3, 1) := by decide +kernel
theorem d171_856 : decode (mCode 171) 856 = .ok (.iadd, 1) := by decide +kernel
theorem d171_857 : decode (mCode 171) 857 = .ok (.iaload, 1) := by decide +kernel
theorem d171_858 : decode (mCode 171) 858 = .ok (.aload_n 0, 1) := by decide +kernel
theorem d171_859 : decode (mCode 171) 859 = .ok (.iload 4, 2) := by decide +kernel
theorem d171_861 : decode (mCode 171) 861 = .ok (.iconst 4, 1) := by decide +kernel
theorem d171_862 : decode (mCode 171) 862 = .ok (.iadd, 1) := by decide +kernel
theorem d171_863 : decode (mCode 171) 863 = .ok (.iaload, 1) := by decide +kernel
theorem d171_864 : decode (mCode 171) 864 = .ok (.invokevirtual 100, 3) := by decide +kernel
theorem d171_867 : decode (mCode 171) 867 = .ok (.istore 6, 2) := by decide +kernel
theorem d171_869 : decode (mCode 171) 869 = .ok (.aload_n 2, 1) := by decide +kernel
theorem d171_870 : decode (mCode 171) 870 = .ok (.invokevirtual 59, 3) := by decide +kernel
theorem d171_873 : decode (mCode 171) 873 = .ok (.iload 5, 2) := by decide +kernel
theorem d171_875 : decode (mCode 171) 875 = .ok (.if_icmp .eq 5, 3) := by decide +kernel
theorem d171_880 : decode (mCode 171) 880 = .ok (.iload 5, 2) := by decide +kernel
theorem d171_882 : decode (mCode 171) 882 = .ok (.ifCond .ne 15, 3) := by decide +kernel
theorem d171_885 : decode (mCode 171) 885 = .ok (.aload_n 3, 1) := by decide +kernel
theorem d171_886 : decode (mCode 171) 886 = .ok (.iconst 0, 1) := by decide +kernel
theorem d171_887 : decode (mCode 171) 887 = .ok (.laload, 1) := by decide +kernel
theorem d171_888 : decode (mCode 171) 888 = .ok (.iload 6, 2) := by decide +kernel
theorem d171_890 : decode (mCode 171) 890 = .ok (.i2l, 1) := by decide +kernel
theorem d171_891 : decode (mCode 171) 891 = .ok (.lcmp, 1) := by decide +kernel
theorem d171_892 : decode (mCode 171) 892 = .ok (.ifCond .eq 5, 3) := by decide +kernel
theorem d171_897 : decode (mCode 171) 897 = .ok (.goto 53, 3) := by decide +kernel
theorem d171_900 : decode (mCode 171) 900 = .ok (.aload_n 1, 1) := by decide +kernel
theorem d171_901 : decode (mCode 171) 901 = .ok (.aload_n 0, 1) := by decide +kernel
theorem d171_902 : decode (mCode 171) 902 = .ok (.iload 4, 2) := by decide +kernel
theorem d171_904 : decode (mCode 171) 904 = .ok (.iconst 1, 1) := by decide +kernel
theorem d171_905 : decode (mCode 171) 905 = .ok (.iadd, 1) := by decide +kernel
theorem d171_906 : decode (mCode 171) 906 = .ok (.iaload, 1) := by decide +kernel
theorem d171_907 : decode (mCode 171) 907 = .ok (.invokevirtual 101, 3) := by decide +kernel
theorem d171_910 : decode (mCode 171) 910 = .ok (.aload_n 2, 1) := by decide +kernel
theorem d171_911 : decode (mCode 171) 911 = .ok (.aload_n 0, 1) := by decide +kernel
theorem d171_912 : decode (mCode 171) 912 = .ok (.iload 4, 2) := by decide +kernel
theorem d171_914 : decode (mCode 171) 914 = .ok (.iconst 1, 1) := by decide +kernel
theorem d171_915 : decode (mCode 171) 915 = .ok (.iadd, 1) := by decide +kernel
theorem d171_916 : decode (mCode 171) 916 = .ok (.iaload, 1) := by decide +kernel
theorem d171_917 : decode (mCode 171) 917 = .ok (.invokevirtual 104, 3) := by decide +kernel
theorem d171_920 : decode (mCode 171) 920 = .ok (.if_icmp .eq 30, 3) := by decide +kernel
theorem d171_925 : decode (mCode 171) 925 = .ok (.aload_n 1, 1) := by decide +kernel
theorem d171_926 : decode (mCode 171) 926 = .ok (.aload_n 0, 1) := by decide +kernel
theorem d171_927 : decode (mCode 171) 927 = .ok (.iload 4, 2) := by decide +kernel
theorem d171_929 : decode (mCode 171) 929 = .ok (.iconst 1, 1) := by decide +kernel
theorem d171_930 : decode (mCode 171) 930 = .ok (.iadd, 1) := by decide +kernel
theorem d171_931 : decode (mCode 171) 931 = .ok (.iaload, 1) := by decide +kernel
theorem d171_932 : decode (mCode 171) 932 = .ok (.invokevirtual 105, 3) := by decide +kernel
theorem d171_935 : decode (mCode 171) 935 = .ok (.aload_n 2, 1) := by decide +kernel
theorem d171_936 : decode (mCode 171) 936 = .ok (.aload_n 0, 1) := by decide +kernel
theorem d171_937 : decode (mCode 171) 937 = .ok (.iload 4, 2) := by decide +kernel
theorem d171_939 : decode (mCode 171) 939 = .ok (.iconst 1, 1) := by decide +kernel
theorem d171_940 : decode (mCode 171) 940 = .ok (.iadd, 1) := by decide +kernel
theorem d171_941 : decode (mCode 171) 941 = .ok (.iaload, 1) := by decide +kernel
theorem d171_942 : decode (mCode 171) 942 = .ok (.invokevirtual 108, 3) := by decide +kernel
theorem d171_945 : decode (mCode 171) 945 = .ok (.if_icmp .eq 5, 3) := by decide +kernel

def HJ1 : mHp := [(.inr (8, [.ref 17, .ref 21, .ref 23, .ref 29, .ref 32])), (.inr (5, [.ref 18, .ref 19, .ref 20, .int 0])), (.inl (.int, 42, .inl ((fun _ => 0)))), (.inl (.int, 42, .inl ((fun _ => 0)))), (.inr (7, [.long 0, .long 0, .long 0])), (.inr (3, [.ref 17, .ref 22, .int 0])), (.inl (.long, 40, .inr (.inl ((fun _ => 0))))), (.inr (4, [.ref 17, .ref 21, .ref 24, .ref 25, .ref 26, .int 0, .ref 27, .int 0, .ref 28])), (.inl (.int, 1600, .inl (mfill 1600 (-1) (fun _ => 0)))), (.inl (.int, 1600, .inl ((fun _ => 0)))), (.inl (.int, 225, .inl ((fun _ => 0)))), (.inl (.int, 800, .inl ((fun _ => 0)))), (.inl (.long, 40, .inr (.inl ((fun _ => 0))))), (.inr (2, [.ref 17, .ref 23, .ref 30, .ref 31, .int 0])), (.inl (.int, 75, .inl ((fun _ => 0)))), (.inl (.int, 75, .inl ((fun _ => 0)))), (.inr (6, [.ref 17, .ref 23, .ref 36, .ref 33, .int 0, .ref 34, .ref 35])), (.inl (.int, 75, .inl ((fun _ => 0)))), (.inl (.int, 75, .inl ((fun _ => 0)))), (.inl (.int, 75, .inl ((fun _ => 0)))), (.inr (1, [.ref 17, .ref 37, .ref 39, .int 0, .int 0, .int 0, .ref 41, .int 0])), (.inr (0, [.int 1, .ref 38, .int 0, .int 0])), (.inl (.int, 77, .inl ((fun _ => 0)))), (.inr (0, [.int (-1), .ref 40, .int 0, .int 0])), (.inl (.int, 77, .inl ((fun _ => 0)))), (.inl (.int, 77, .inl ((fun _ => 0)))), (.inr (9, [.int 0, .int 0, .ref 43, .ref 44, .ref 45, .ref 46, .int 0, .int 0, .ref 47, .int 0, .ref 48, .int 0, .ref 49, .ref 50, .ref 51, .ref 52, .long 0, .long 0])), (.inl (.long, 42, .inr (.inl ((fun _ => 0))))), (.inl (.long, 42, .inr (.inl ((fun _ => 0))))), (.inl (.boolean, 1600, .inl ((fun _ => 0)))), (.inl (.boolean, 1600, .inl ((fun _ => 0)))), (.inl (.int, 300, .inl ((fun _ => 0)))), (.inl (.int, 100, .inl ((fun _ => 0)))), (.inl (.int, 100, .inl ((fun _ => 0)))), (.inl (.int, 100, .inl ((fun _ => 0)))), (.inl (.int, 100, .inl ((fun _ => 0)))), (.inl (.int, 100, .inl ((fun _ => 0)))), (.inl (.long, 1, .inr (.inl (fun _ => 0)))), (.inr (10, []))]
def HJ2 : mHp := [(.inr (8, [.ref 17, .ref 21, .ref 23, .ref 29, .ref 32])), (.inr (5, [.ref 18, .ref 19, .ref 20, .int 0])), (.inl (.int, 42, .inl ((fun _ => 0)))), (.inl (.int, 42, .inl ((fun _ => 0)))), (.inr (7, [.long 0, .long 0, .long 0])), (.inr (3, [.ref 17, .ref 22, .int 0])), (.inl (.long, 40, .inr (.inl ((fun _ => 0))))), (.inr (4, [.ref 17, .ref 21, .ref 24, .ref 25, .ref 26, .int 0, .ref 27, .int 0, .ref 28])), (.inl (.int, 1600, .inl (mfill 1600 (-1) (fun _ => 0)))), (.inl (.int, 1600, .inl ((fun _ => 0)))), (.inl (.int, 225, .inl ((fun _ => 0)))), (.inl (.int, 800, .inl ((fun _ => 0)))), (.inl (.long, 40, .inr (.inl ((fun _ => 0))))), (.inr (2, [.ref 17, .ref 23, .ref 30, .ref 31, .int 0])), (.inl (.int, 75, .inl ((fun _ => 0)))), (.inl (.int, 75, .inl ((fun _ => 0)))), (.inr (6, [.ref 17, .ref 23, .ref 36, .ref 33, .int 0, .ref 34, .ref 35])), (.inl (.int, 75, .inl ((fun _ => 0)))), (.inl (.int, 75, .inl ((fun _ => 0)))), (.inl (.int, 75, .inl ((fun _ => 0)))), (.inr (1, [.ref 17, .ref 37, .ref 39, .int 0, .int 0, .int 0, .ref 41, .int 0])), (.inr (0, [.int 1, .ref 38, .int 0, .int 0])), (.inl (.int, 77, .inl ((fun _ => 0)))), (.inr (0, [.int (-1), .ref 40, .int 0, .int 0])), (.inl (.int, 77, .inl ((fun _ => 0)))), (.inl (.int, 77, .inl ((fun _ => 0)))), (.inr (9, [.int 1, .int 0, .ref 43, .ref 44, .ref 45, .ref 46, .int 0, .int 0, .ref 47, .int 0, .ref 48, .int 0, .ref 49, .ref 50, .ref 51, .ref 52, .long 0, .long 0])), (.inl (.long, 42, .inr (.inl ((fun _ => 0))))), (.inl (.long, 42, .inr (.inl ((fun _ => 0))))), (.inl (.boolean, 1600, .inl ((fun _ => 0)))), (.inl (.boolean, 1600, .inl ((fun _ => 0)))), (.inl (.int, 300, .inl ((fun _ => 0)))), (.inl (.int, 100, .inl ((fun _ => 0)))), (.inl (.int, 100, .inl ((fun _ => 0)))), (.inl (.int, 100, .inl ((fun _ => 0)))), (.inl (.int, 100, .inl ((fun _ => 0)))), (.inl (.int, 100, .inl ((fun _ => 0)))), (.inl (.long, 1, .inr (.inl (fun _ => 0)))), (.inr (10, []))]
def HJ3 (f : Nat → Int32) : mHp := [(.inr (8, [.ref 17, .ref 21, .ref 23, .ref 29, .ref 32])), (.inr (5, [.ref 18, .ref 19, .ref 20, .int 0])), (.inl (.int, 42, .inl (upd (fun _ => 0) (Int32.toNatClampNeg 0) (f 1)))), (.inl (.int, 42, .inl (upd (fun _ => 0) (Int32.toNatClampNeg 0) (f 2)))), (.inr (7, [.long 0, .long 0, .long 0])), (.inr (3, [.ref 17, .ref 22, .int 0])), (.inl (.long, 40, .inr (.inl ((fun _ => 0))))), (.inr (4, [.ref 17, .ref 21, .ref 24, .ref 25, .ref 26, .int 0, .ref 27, .int 0, .ref 28])), (.inl (.int, 1600, .inl (mfill 1600 (-1) (fun _ => 0)))), (.inl (.int, 1600, .inl ((fun _ => 0)))), (.inl (.int, 225, .inl ((fun _ => 0)))), (.inl (.int, 800, .inl ((fun _ => 0)))), (.inl (.long, 40, .inr (.inl ((fun _ => 0))))), (.inr (2, [.ref 17, .ref 23, .ref 30, .ref 31, .int 0])), (.inl (.int, 75, .inl ((fun _ => 0)))), (.inl (.int, 75, .inl ((fun _ => 0)))), (.inr (6, [.ref 17, .ref 23, .ref 36, .ref 33, .int 0, .ref 34, .ref 35])), (.inl (.int, 75, .inl ((fun _ => 0)))), (.inl (.int, 75, .inl ((fun _ => 0)))), (.inl (.int, 75, .inl ((fun _ => 0)))), (.inr (1, [.ref 17, .ref 37, .ref 39, .int 0, .int 0, .int 0, .ref 41, .int 0])), (.inr (0, [.int 1, .ref 38, .int 0, .int 0])), (.inl (.int, 77, .inl ((fun _ => 0)))), (.inr (0, [.int (-1), .ref 40, .int 0, .int 0])), (.inl (.int, 77, .inl ((fun _ => 0)))), (.inl (.int, 77, .inl ((fun _ => 0)))), (.inr (9, [.int 0, .int 0, .ref 43, .ref 44, .ref 45, .ref 46, .int 0, .int 0, .ref 47, .int 0, .ref 48, .int 0, .ref 49, .ref 50, .ref 51, .ref 52, .long 0, .long 0])), (.inl (.long, 42, .inr (.inl ((fun _ => 0))))), (.inl (.long, 42, .inr (.inl ((fun _ => 0))))), (.inl (.boolean, 1600, .inl ((fun _ => 0)))), (.inl (.boolean, 1600, .inl ((fun _ => 0)))), (.inl (.int, 300, .inl ((fun _ => 0)))), (.inl (.int, 100, .inl ((fun _ => 0)))), (.inl (.int, 100, .inl ((fun _ => 0)))), (.inl (.int, 100, .inl ((fun _ => 0)))), (.inl (.int, 100, .inl ((fun _ => 0)))), (.inl (.int, 100, .inl ((fun _ => 0)))), (.inl (.long, 1, .inr (.inl (fun _ => 0))))]
def HJ4 (f : Nat → Int32) : mHp := [(.inr (8, [.ref 17, .ref 21, .ref 23, .ref 29, .ref 32])), (.inr (5, [.ref 18, .ref 19, .ref 20, .int 1])), (.inl (.int, 42, .inl (upd (fun _ => 0) (Int32.toNatClampNeg 0) (f 1)))), (.inl (.int, 42, .inl (upd (fun _ => 0) (Int32.toNatClampNeg 0) (f 2)))), (.inr (7, [.long 0, .long 0, .long 0])), (.inr (3, [.ref 17, .ref 22, .int 0])), (.inl (.long, 40, .inr (.inl ((fun _ => 0))))), (.inr (4, [.ref 17, .ref 21, .ref 24, .ref 25, .ref 26, .int 0, .ref 27, .int 0, .ref 28])), (.inl (.int, 1600, .inl (mfill 1600 (-1) (fun _ => 0)))), (.inl (.int, 1600, .inl ((fun _ => 0)))), (.inl (.int, 225, .inl ((fun _ => 0)))), (.inl (.int, 800, .inl ((fun _ => 0)))), (.inl (.long, 40, .inr (.inl ((fun _ => 0))))), (.inr (2, [.ref 17, .ref 23, .ref 30, .ref 31, .int 0])), (.inl (.int, 75, .inl ((fun _ => 0)))), (.inl (.int, 75, .inl ((fun _ => 0)))), (.inr (6, [.ref 17, .ref 23, .ref 36, .ref 33, .int 0, .ref 34, .ref 35])), (.inl (.int, 75, .inl ((fun _ => 0)))), (.inl (.int, 75, .inl ((fun _ => 0)))), (.inl (.int, 75, .inl ((fun _ => 0)))), (.inr (1, [.ref 17, .ref 37, .ref 39, .int 0, .int 0, .int 0, .ref 41, .int 0])), (.inr (0, [.int 1, .ref 38, .int 0, .int 0])), (.inl (.int, 77, .inl ((fun _ => 0)))), (.inr (0, [.int (-1), .ref 40, .int 0, .int 0])), (.inl (.int, 77, .inl ((fun _ => 0)))), (.inl (.int, 77, .inl ((fun _ => 0)))), (.inr (9, [.int 0, .int 0, .ref 43, .ref 44, .ref 45, .ref 46, .int 0, .int 0, .ref 47, .int 0, .ref 48, .int 0, .ref 49, .ref 50, .ref 51, .ref 52, .long 0, .long 0])), (.inl (.long, 42, .inr (.inl ((fun _ => 0))))), (.inl (.long, 42, .inr (.inl ((fun _ => 0))))), (.inl (.boolean, 1600, .inl ((fun _ => 0)))), (.inl (.boolean, 1600, .inl ((fun _ => 0)))), (.inl (.int, 300, .inl ((fun _ => 0)))), (.inl (.int, 100, .inl ((fun _ => 0)))), (.inl (.int, 100, .inl ((fun _ => 0)))), (.inl (.int, 100, .inl ((fun _ => 0)))), (.inl (.int, 100, .inl ((fun _ => 0)))), (.inl (.int, 100, .inl ((fun _ => 0)))), (.inl (.long, 1, .inr (.inl (fun _ => 0))))]
def HJ5 (f : Nat → Int32) : mHp := [(.inr (8, [.ref 17, .ref 21, .ref 23, .ref 29, .ref 32])), (.inr (5, [.ref 18, .ref 19, .ref 20, .int 1])), (.inl (.int, 42, .inl (upd (fun _ => 0) (Int32.toNatClampNeg 0) (f 1)))), (.inl (.int, 42, .inl (upd (fun _ => 0) (Int32.toNatClampNeg 0) (f 2)))), (.inr (7, [.long 0, .long 0, .long 0])), (.inr (3, [.ref 17, .ref 22, .int 0])), (.inl (.long, 40, .inr (.inl ((fun _ => 0))))), (.inr (4, [.ref 17, .ref 21, .ref 24, .ref 25, .ref 26, .int 0, .ref 27, .int 0, .ref 28])), (.inl (.int, 1600, .inl (mfill 1600 (-1) (fun _ => 0)))), (.inl (.int, 1600, .inl ((fun _ => 0)))), (.inl (.int, 225, .inl ((fun _ => 0)))), (.inl (.int, 800, .inl ((fun _ => 0)))), (.inl (.long, 40, .inr (.inl ((fun _ => 0))))), (.inr (2, [.ref 17, .ref 23, .ref 30, .ref 31, .int 0])), (.inl (.int, 75, .inl ((fun _ => 0)))), (.inl (.int, 75, .inl ((fun _ => 0)))), (.inr (6, [.ref 17, .ref 23, .ref 36, .ref 33, .int 0, .ref 34, .ref 35])), (.inl (.int, 75, .inl ((fun _ => 0)))), (.inl (.int, 75, .inl ((fun _ => 0)))), (.inl (.int, 75, .inl ((fun _ => 0)))), (.inr (1, [.ref 17, .ref 37, .ref 39, .int 0, .int 0, .int 0, .ref 41, .int 0])), (.inr (0, [.int 1, .ref 38, .int 0, .int 0])), (.inl (.int, 77, .inl ((fun _ => 0)))), (.inr (0, [.int (-1), .ref 40, .int 0, .int 0])), (.inl (.int, 77, .inl ((fun _ => 0)))), (.inl (.int, 77, .inl ((fun _ => 0)))), (.inr (9, [.int 0, .int 0, .ref 43, .ref 44, .ref 45, .ref 46, .int 0, .int 0, .ref 47, .int 0, .ref 48, .int 0, .ref 49, .ref 50, .ref 51, .ref 52, .long 0, .long 0])), (.inl (.long, 42, .inr (.inl ((fun _ => 0))))), (.inl (.long, 42, .inr (.inl ((fun _ => 0))))), (.inl (.boolean, 1600, .inl ((fun _ => 0)))), (.inl (.boolean, 1600, .inl ((fun _ => 0)))), (.inl (.int, 300, .inl ((fun _ => 0)))), (.inl (.int, 100, .inl ((fun _ => 0)))), (.inl (.int, 100, .inl ((fun _ => 0)))), (.inl (.int, 100, .inl ((fun _ => 0)))), (.inl (.int, 100, .inl ((fun _ => 0)))), (.inl (.int, 100, .inl ((fun _ => 0)))), (.inl (.long, 1, .inr (.inl (vp_updL (fun _ => 0) (Int32.toNatClampNeg 0) 0))))]
def HJ6 (f : Nat → Int32) : mHp := [(.inr (8, [.ref 17, .ref 21, .ref 23, .ref 29, .ref 32])), (.inr (5, [.ref 18, .ref 19, .ref 20, .int 1])), (.inl (.int, 42, .inl (upd (fun _ => 0) (Int32.toNatClampNeg 0) (f 1)))), (.inl (.int, 42, .inl (upd (fun _ => 0) (Int32.toNatClampNeg 0) (f 2)))), (.inr (7, [.long 0, .long 0, .long 0])), (.inr (3, [.ref 17, .ref 22, .int 0])), (.inl (.long, 40, .inr (.inl ((fun _ => 0))))), (.inr (4, [.ref 17, .ref 21, .ref 24, .ref 25, .ref 26, .int 0, .ref 27, .int 0, .ref 28])), (.inl (.int, 1600, .inl (mfill 1600 (-1) (fun _ => 0)))), (.inl (.int, 1600, .inl ((fun _ => 0)))), (.inl (.int, 225, .inl ((fun _ => 0)))), (.inl (.int, 800, .inl ((fun _ => 0)))), (.inl (.long, 40, .inr (.inl ((fun _ => 0))))), (.inr (2, [.ref 17, .ref 23, .ref 30, .ref 31, .int 0])), (.inl (.int, 75, .inl ((fun _ => 0)))), (.inl (.int, 75, .inl ((fun _ => 0)))), (.inr (6, [.ref 17, .ref 23, .ref 36, .ref 33, .int 0, .ref 34, .ref 35])), (.inl (.int, 75, .inl ((fun _ => 0)))), (.inl (.int, 75, .inl ((fun _ => 0)))), (.inl (.int, 75, .inl ((fun _ => 0)))), (.inr (1, [.ref 17, .ref 37, .ref 39, .int 0, .int 0, .int 0, .ref 41, .int 0])), (.inr (0, [.int 1, .ref 38, .int 0, .int 0])), (.inl (.int, 77, .inl ((fun _ => 0)))), (.inr (0, [.int (-1), .ref 40, .int 0, .int 0])), (.inl (.int, 77, .inl ((fun _ => 0)))), (.inl (.int, 77, .inl ((fun _ => 0)))), (.inr (9, [.int 0, .int 0, .ref 43, .ref 44, .ref 45, .ref 46, .int 0, .int 0, .ref 47, .int 0, .ref 48, .int 0, .ref 49, .ref 50, .ref 51, .ref 52, .long 0, .long 0])), (.inl (.long, 42, .inr (.inl (vp_updL (fun _ => 0) (Int32.toNatClampNeg 0) (Int32.toInt64 (f 1)))))), (.inl (.long, 42, .inr (.inl (vp_updL (fun _ => 0) (Int32.toNatClampNeg 0) (Int32.toInt64 (f 2)))))), (.inl (.boolean, 1600, .inl ((fun _ => 0)))), (.inl (.boolean, 1600, .inl ((fun _ => 0)))), (.inl (.int, 300, .inl ((fun _ => 0)))), (.inl (.int, 100, .inl ((fun _ => 0)))), (.inl (.int, 100, .inl ((fun _ => 0)))), (.inl (.int, 100, .inl ((fun _ => 0)))), (.inl (.int, 100, .inl ((fun _ => 0)))), (.inl (.int, 100, .inl ((fun _ => 0)))), (.inl (.long, 1, .inr (.inl (vp_updL (fun _ => 0) (Int32.toNatClampNeg 0) 0))))]
def HJ7 (f : Nat → Int32) : mHp := [(.inr (8, [.ref 17, .ref 21, .ref 23, .ref 29, .ref 32])), (.inr (5, [.ref 18, .ref 19, .ref 20, .int 1])), (.inl (.int, 42, .inl (upd (fun _ => 0) (Int32.toNatClampNeg 0) (f 1)))), (.inl (.int, 42, .inl (upd (fun _ => 0) (Int32.toNatClampNeg 0) (f 2)))), (.inr (7, [.long 0, .long 0, .long 0])), (.inr (3, [.ref 17, .ref 22, .int 0])), (.inl (.long, 40, .inr (.inl ((fun _ => 0))))), (.inr (4, [.ref 17, .ref 21, .ref 24, .ref 25, .ref 26, .int 0, .ref 27, .int 0, .ref 28])), (.inl (.int, 1600, .inl (mfill 1600 (-1) (fun _ => 0)))), (.inl (.int, 1600, .inl ((fun _ => 0)))), (.inl (.int, 225, .inl ((fun _ => 0)))), (.inl (.int, 800, .inl ((fun _ => 0)))), (.inl (.long, 40, .inr (.inl ((fun _ => 0))))), (.inr (2, [.ref 17, .ref 23, .ref 30, .ref 31, .int 0])), (.inl (.int, 75, .inl ((fun _ => 0)))), (.inl (.int, 75, .inl ((fun _ => 0)))), (.inr (6, [.ref 17, .ref 23, .ref 36, .ref 33, .int 0, .ref 34, .ref 35])), (.inl (.int, 75, .inl ((fun _ => 0)))), (.inl (.int, 75, .inl ((fun _ => 0)))), (.inl (.int, 75, .inl ((fun _ => 0)))), (.inr (1, [.ref 17, .ref 37, .ref 39, .int 0, .int 0, .int 0, .ref 41, .int 0])), (.inr (0, [.int 1, .ref 38, .int 0, .int 0])), (.inl (.int, 77, .inl ((fun _ => 0)))), (.inr (0, [.int (-1), .ref 40, .int 0, .int 0])), (.inl (.int, 77, .inl ((fun _ => 0)))), (.inl (.int, 77, .inl ((fun _ => 0)))), (.inr (9, [.int 0, .int 1, .ref 43, .ref 44, .ref 45, .ref 46, .int 0, .int 0, .ref 47, .int 0, .ref 48, .int 0, .ref 49, .ref 50, .ref 51, .ref 52, .long 0, .long 0])), (.inl (.long, 42, .inr (.inl (vp_updL (fun _ => 0) (Int32.toNatClampNeg 0) (Int32.toInt64 (f 1)))))), (.inl (.long, 42, .inr (.inl (vp_updL (fun _ => 0) (Int32.toNatClampNeg 0) (Int32.toInt64 (f 2)))))), (.inl (.boolean, 1600, .inl (mrow 0 40 (fun _ => 0)))), (.inl (.boolean, 1600, .inl ((fun _ => 0)))), (.inl (.int, 300, .inl ((fun _ => 0)))), (.inl (.int, 100, .inl ((fun _ => 0)))), (.inl (.int, 100, .inl ((fun _ => 0)))), (.inl (.int, 100, .inl ((fun _ => 0)))), (.inl (.int, 100, .inl ((fun _ => 0)))), (.inl (.int, 100, .inl ((fun _ => 0)))), (.inl (.long, 1, .inr (.inl (vp_updL (fun _ => 0) (Int32.toNatClampNeg 0) 0))))]
def HJ8 : mHp := [(.inr (8, [.ref 17, .ref 21, .ref 23, .ref 29, .ref 32])), (.inr (5, [.ref 18, .ref 19, .ref 20, .int 0])), (.inl (.int, 42, .inl ((fun _ => 0)))), (.inl (.int, 42, .inl ((fun _ => 0)))), (.inr (7, [.long 0, .long 0, .long 0])), (.inr (3, [.ref 17, .ref 22, .int 0])), (.inl (.long, 40, .inr (.inl (mfill 40 0 (fun _ => 0))))), (.inr (4, [.ref 17, .ref 21, .ref 24, .ref 25, .ref 26, .int 0, .ref 27, .int 0, .ref 28])), (.inl (.int, 1600, .inl (mfill 1600 (-1) (fun _ => 0)))), (.inl (.int, 1600, .inl ((fun _ => 0)))), (.inl (.int, 225, .inl ((fun _ => 0)))), (.inl (.int, 800, .inl ((fun _ => 0)))), (.inl (.long, 40, .inr (.inl ((fun _ => 0))))), (.inr (2, [.ref 17, .ref 23, .ref 30, .ref 31, .int 0])), (.inl (.int, 75, .inl ((fun _ => 0)))), (.inl (.int, 75, .inl ((fun _ => 0)))), (.inr (6, [.ref 17, .ref 23, .ref 36, .ref 33, .int 0, .ref 34, .ref 35])), (.inl (.int, 75, .inl ((fun _ => 0)))), (.inl (.int, 75, .inl ((fun _ => 0)))), (.inl (.int, 75, .inl ((fun _ => 0)))), (.inr (1, [.ref 17, .ref 37, .ref 39, .int 0, .int 0, .int 0, .ref 41, .int 0])), (.inr (0, [.int 1, .ref 38, .int 0, .int 0])), (.inl (.int, 77, .inl ((fun _ => 0)))), (.inr (0, [.int (-1), .ref 40, .int 0, .int 0])), (.inl (.int, 77, .inl ((fun _ => 0)))), (.inl (.int, 77, .inl ((fun _ => 0)))), (.inr (9, [.int 0, .int 0, .ref 43, .ref 44, .ref 45, .ref 46, .int 0, .int 0, .ref 47, .int 0, .ref 48, .int 0, .ref 49, .ref 50, .ref 51, .ref 52, .long 0, .long 0])), (.inl (.long, 42, .inr (.inl ((fun _ => 0))))), (.inl (.long, 42, .inr (.inl ((fun _ => 0))))), (.inl (.boolean, 1600, .inl ((fun _ => 0)))), (.inl (.boolean, 1600, .inl ((fun _ => 0)))), (.inl (.int, 300, .inl ((fun _ => 0)))), (.inl (.int, 100, .inl ((fun _ => 0)))), (.inl (.int, 100, .inl ((fun _ => 0)))), (.inl (.int, 100, .inl ((fun _ => 0)))), (.inl (.int, 100, .inl ((fun _ => 0)))), (.inl (.int, 100, .inl ((fun _ => 0)))), (.inl (.long, 1, .inr (.inl (fun _ => 0))))]
def HJ9 : mHp := [(.inr (8, [.ref 17, .ref 21, .ref 23, .ref 29, .ref 32])), (.inr (5, [.ref 18, .ref 19, .ref 20, .int 0])), (.inl (.int, 42, .inl ((fun _ => 0)))), (.inl (.int, 42, .inl ((fun _ => 0)))), (.inr (7, [.long 0, .long 0, .long 0])), (.inr (3, [.ref 17, .ref 22, .int 0])), (.inl (.long, 40, .inr (.inl (mfill 40 0 (fun _ => 0))))), (.inr (4, [.ref 17, .ref 21, .ref 24, .ref 25, .ref 26, .int 0, .ref 27, .int 0, .ref 28])), (.inl (.int, 1600, .inl (mfill 1600 (-1) (mfill 1600 (-1) (fun _ => 0))))), (.inl (.int, 1600, .inl ((fun _ => 0)))), (.inl (.int, 225, .inl ((fun _ => 0)))), (.inl (.int, 800, .inl ((fun _ => 0)))), (.inl (.long, 40, .inr (.inl ((fun _ => 0))))), (.inr (2, [.ref 17, .ref 23, .ref 30, .ref 31, .int 0])), (.inl (.int, 75, .inl ((fun _ => 0)))), (.inl (.int, 75, .inl ((fun _ => 0)))), (.inr (6, [.ref 17, .ref 23, .ref 36, .ref 33, .int 0, .ref 34, .ref 35])), (.inl (.int, 75, .inl ((fun _ => 0)))), (.inl (.int, 75, .inl ((fun _ => 0)))), (.inl (.int, 75, .inl ((fun _ => 0)))), (.inr (1, [.ref 17, .ref 37, .ref 39, .int 0, .int 0, .int 0, .ref 41, .int 0])), (.inr (0, [.int 1, .ref 38, .int 0, .int 0])), (.inl (.int, 77, .inl ((fun _ => 0)))), (.inr (0, [.int (-1), .ref 40, .int 0, .int 0])), (.inl (.int, 77, .inl ((fun _ => 0)))), (.inl (.int, 77, .inl ((fun _ => 0)))), (.inr (9, [.int 0, .int 0, .ref 43, .ref 44, .ref 45, .ref 46, .int 0, .int 0, .ref 47, .int 0, .ref 48, .int 0, .ref 49, .ref 50, .ref 51, .ref 52, .long 0, .long 0])), (.inl (.long, 42, .inr (.inl ((fun _ => 0))))), (.inl (.long, 42, .inr (.inl ((fun _ => 0))))), (.inl (.boolean, 1600, .inl ((fun _ => 0)))), (.inl (.boolean, 1600, .inl ((fun _ => 0)))), (.inl (.int, 300, .inl ((fun _ => 0)))), (.inl (.int, 100, .inl ((fun _ => 0)))), (.inl (.int, 100, .inl ((fun _ => 0)))), (.inl (.int, 100, .inl ((fun _ => 0)))), (.inl (.int, 100, .inl ((fun _ => 0)))), (.inl (.int, 100, .inl ((fun _ => 0)))), (.inl (.long, 1, .inr (.inl (fun _ => 0))))]
def HJ10 : mHp := [(.inr (8, [.ref 17, .ref 21, .ref 23, .ref 29, .ref 32])), (.inr (5, [.ref 18, .ref 19, .ref 20, .int 0])), (.inl (.int, 42, .inl ((fun _ => 0)))), (.inl (.int, 42, .inl ((fun _ => 0)))), (.inr (7, [.long 0, .long 0, .long 0])), (.inr (3, [.ref 17, .ref 22, .int 0])), (.inl (.long, 40, .inr (.inl (mfill 40 0 (fun _ => 0))))), (.inr (4, [.ref 17, .ref 21, .ref 24, .ref 25, .ref 26, .int 0, .ref 27, .int 0, .ref 28])), (.inl (.int, 1600, .inl (mfill 1600 (-1) (mfill 1600 (-1) (fun _ => 0))))), (.inl (.int, 1600, .inl ((fun _ => 0)))), (.inl (.int, 225, .inl ((fun _ => 0)))), (.inl (.int, 800, .inl ((fun _ => 0)))), (.inl (.long, 40, .inr (.inl ((fun _ => 0))))), (.inr (2, [.ref 17, .ref 23, .ref 30, .ref 31, .int 0])), (.inl (.int, 75, .inl ((fun _ => 0)))), (.inl (.int, 75, .inl ((fun _ => 0)))), (.inr (6, [.ref 17, .ref 23, .ref 36, .ref 33, .int 0, .ref 34, .ref 35])), (.inl (.int, 75, .inl ((fun _ => 0)))), (.inl (.int, 75, .inl ((fun _ => 0)))), (.inl (.int, 75, .inl ((fun _ => 0)))), (.inr (1, [.ref 17, .ref 37, .ref 39, .int 0, .int 0, .int 0, .ref 41, .int 0])), (.inr (0, [.int 1, .ref 38, .int 0, .int 0])), (.inl (.int, 77, .inl ((fun _ => 0)))), (.inr (0, [.int (-1), .ref 40, .int 0, .int 0])), (.inl (.int, 77, .inl ((fun _ => 0)))), (.inl (.int, 77, .inl ((fun _ => 0)))), (.inr (9, [.int 0, .int 0, .ref 43, .ref 44, .ref 45, .ref 46, .int 0, .int 0, .ref 47, .int 0, .ref 48, .int 0, .ref 49, .ref 50, .ref 51, .ref 52, .long 0, .long 0])), (.inl (.long, 42, .inr (.inl ((fun _ => 0))))), (.inl (.long, 42, .inr (.inl ((fun _ => 0))))), (.inl (.boolean, 1600, .inl (mfill 1600 0 (fun _ => 0)))), (.inl (.boolean, 1600, .inl ((fun _ => 0)))), (.inl (.int, 300, .inl ((fun _ => 0)))), (.inl (.int, 100, .inl ((fun _ => 0)))), (.inl (.int, 100, .inl ((fun _ => 0)))), (.inl (.int, 100, .inl ((fun _ => 0)))), (.inl (.int, 100, .inl ((fun _ => 0)))), (.inl (.int, 100, .inl ((fun _ => 0)))), (.inl (.long, 1, .inr (.inl (fun _ => 0))))]
def HJ11 : mHp := [(.inr (8, [.ref 17, .ref 21, .ref 23, .ref 29, .ref 32])), (.inr (5, [.ref 18, .ref 19, .ref 20, .int 0])), (.inl (.int, 42, .inl ((fun _ => 0)))), (.inl (.int, 42, .inl ((fun _ => 0)))), (.inr (7, [.long 0, .long 0, .long 0])), (.inr (3, [.ref 17, .ref 22, .int 0])), (.inl (.long, 40, .inr (.inl ((fun _ => 0))))), (.inr (4, [.ref 17, .ref 21, .ref 24, .ref 25, .ref 26, .int 0, .ref 27, .int 0, .ref 28])), (.inl (.int, 1600, .inl (mfill 1600 (-1) (fun _ => 0)))), (.inl (.int, 1600, .inl ((fun _ => 0)))), (.inl (.int, 225, .inl ((fun _ => 0)))), (.inl (.int, 800, .inl ((fun _ => 0)))), (.inl (.long, 40, .inr (.inl ((fun _ => 0))))), (.inr (2, [.ref 17, .ref 23, .ref 30, .ref 31, .int 0])), (.inl (.int, 75, .inl ((fun _ => 0)))), (.inl (.int, 75, .inl ((fun _ => 0)))), (.inr (6, [.ref 17, .ref 23, .ref 36, .ref 33, .int 0, .ref 34, .ref 35])), (.inl (.int, 75, .inl ((fun _ => 0)))), (.inl (.int, 75, .inl ((fun _ => 0)))), (.inl (.int, 75, .inl ((fun _ => 0)))), (.inr (1, [.ref 17, .ref 37, .ref 39, .int 0, .int 0, .int 0, .ref 41, .int 0])), (.inr (0, [.int 1, .ref 38, .int 0, .int 0])), (.inl (.int, 77, .inl ((fun _ => 0)))), (.inr (0, [.int (-1), .ref 40, .int 0, .int 0])), (.inl (.int, 77, .inl ((fun _ => 0)))), (.inl (.int, 77, .inl ((fun _ => 0)))), (.inr (9, [.int 0, .int 0, .ref 43, .ref 44, .ref 45, .ref 46, .int 1, .int 0, .ref 47, .int 0, .ref 48, .int 0, .ref 49, .ref 50, .ref 51, .ref 52, .long 0, .long 0])), (.inl (.long, 42, .inr (.inl ((fun _ => 0))))), (.inl (.long, 42, .inr (.inl ((fun _ => 0))))), (.inl (.boolean, 1600, .inl ((fun _ => 0)))), (.inl (.boolean, 1600, .inl ((fun _ => 0)))), (.inl (.int, 300, .inl ((fun _ => 0)))), (.inl (.int, 100, .inl ((fun _ => 0)))), (.inl (.int, 100, .inl ((fun _ => 0)))), (.inl (.int, 100, .inl ((fun _ => 0)))), (.inl (.int, 100, .inl ((fun _ => 0)))), (.inl (.int, 100, .inl ((fun _ => 0)))), (.inl (.long, 1, .inr (.inl (fun _ => 0))))]
def HJ12 : mHp := [(.inr (8, [.ref 17, .ref 21, .ref 23, .ref 29, .ref 32])), (.inr (5, [.ref 18, .ref 19, .ref 20, .int 0])), (.inl (.int, 42, .inl ((fun _ => 0)))), (.inl (.int, 42, .inl ((fun _ => 0)))), (.inr (7, [.long 0, .long 0, .long 0])), (.inr (3, [.ref 17, .ref 22, .int 0])), (.inl (.long, 40, .inr (.inl ((fun _ => 0))))), (.inr (4, [.ref 17, .ref 21, .ref 24, .ref 25, .ref 26, .int 0, .ref 27, .int 0, .ref 28])), (.inl (.int, 1600, .inl (mfill 1600 (-1) (fun _ => 0)))), (.inl (.int, 1600, .inl ((fun _ => 0)))), (.inl (.int, 225, .inl ((fun _ => 0)))), (.inl (.int, 800, .inl ((fun _ => 0)))), (.inl (.long, 40, .inr (.inl ((fun _ => 0))))), (.inr (2, [.ref 17, .ref 23, .ref 30, .ref 31, .int 0])), (.inl (.int, 75, .inl ((fun _ => 0)))), (.inl (.int, 75, .inl ((fun _ => 0)))), (.inr (6, [.ref 17, .ref 23, .ref 36, .ref 33, .int 0, .ref 34, .ref 35])), (.inl (.int, 75, .inl ((fun _ => 0)))), (.inl (.int, 75, .inl ((fun _ => 0)))), (.inl (.int, 75, .inl ((fun _ => 0)))), (.inr (1, [.ref 17, .ref 37, .ref 39, .int 0, .int 0, .int 0, .ref 41, .int 0])), (.inr (0, [.int 1, .ref 38, .int 0, .int 0])), (.inl (.int, 77, .inl ((fun _ => 0)))), (.inr (0, [.int (-1), .ref 40, .int 0, .int 0])), (.inl (.int, 77, .inl ((fun _ => 0)))), (.inl (.int, 77, .inl ((fun _ => 0)))), (.inr (9, [.int 0, .int 0, .ref 43, .ref 44, .ref 45, .ref 46, .int 1, .int 0, .ref 47, .int 0, .ref 48, .int 0, .ref 49, .ref 50, .ref 51, .ref 52, .long 0, .long 0])), (.inl (.long, 42, .inr (.inl ((fun _ => 0))))), (.inl (.long, 42, .inr (.inl ((fun _ => 0))))), (.inl (.boolean, 1600, .inl ((fun _ => 0)))), (.inl (.boolean, 1600, .inl (mcpz 1600 (fun _ => 0) (fun _ => 0)))), (.inl (.int, 300, .inl ((fun _ => 0)))), (.inl (.int, 100, .inl ((fun _ => 0)))), (.inl (.int, 100, .inl ((fun _ => 0)))), (.inl (.int, 100, .inl ((fun _ => 0)))), (.inl (.int, 100, .inl ((fun _ => 0)))), (.inl (.int, 100, .inl ((fun _ => 0)))), (.inl (.long, 1, .inr (.inl (fun _ => 0))))]
def HJ13 : mHp := [(.inr (8, [.ref 17, .ref 21, .ref 23, .ref 29, .ref 32])), (.inr (5, [.ref 18, .ref 19, .ref 20, .int 0])), (.inl (.int, 42, .inl ((fun _ => 0)))), (.inl (.int, 42, .inl ((fun _ => 0)))), (.inr (7, [.long 0, .long 0, .long 0])), (.inr (3, [.ref 17, .ref 22, .int 0])), (.inl (.long, 40, .inr (.inl ((fun _ => 0))))), (.inr (4, [.ref 17, .ref 21, .ref 24, .ref 25, .ref 26, .int 0, .ref 27, .int 0, .ref 28])), (.inl (.int, 1600, .inl (mfill 1600 (-1) (fun _ => 0)))), (.inl (.int, 1600, .inl ((fun _ => 0)))), (.inl (.int, 225, .inl ((fun _ => 0)))), (.inl (.int, 800, .inl ((fun _ => 0)))), (.inl (.long, 40, .inr (.inl ((fun _ => 0))))), (.inr (2, [.ref 17, .ref 23, .ref 30, .ref 31, .int 0])), (.inl (.int, 75, .inl ((fun _ => 0)))), (.inl (.int, 75, .inl ((fun _ => 0)))), (.inr (6, [.ref 17, .ref 23, .ref 36, .ref 33, .int 0, .ref 34, .ref 35])), (.inl (.int, 75, .inl ((fun _ => 0)))), (.inl (.int, 75, .inl ((fun _ => 0)))), (.inl (.int, 75, .inl ((fun _ => 0)))), (.inr (1, [.ref 17, .ref 37, .ref 39, .int 0, .int 0, .int 0, .ref 41, .int 0])), (.inr (0, [.int 1, .ref 38, .int 0, .int 0])), (.inl (.int, 77, .inl ((fun _ => 0)))), (.inr (0, [.int (-1), .ref 40, .int 0, .int 0])), (.inl (.int, 77, .inl ((fun _ => 0)))), (.inl (.int, 77, .inl ((fun _ => 0)))), (.inr (9, [.int 0, .int 0, .ref 43, .ref 44, .ref 45, .ref 46, .int 0, .int 0, .ref 47, .int 0, .ref 48, .int 0, .ref 49, .ref 50, .ref 51, .ref 52, .long 0, .long 0])), (.inl (.long, 42, .inr (.inl ((fun _ => 0))))), (.inl (.long, 42, .inr (.inl ((fun _ => 0))))), (.inl (.boolean, 1600, .inl ((fun _ => 0)))), (.inl (.boolean, 1600, .inl ((fun _ => 0)))), (.inl (.int, 300, .inl ((fun _ => 0)))), (.inl (.int, 100, .inl ((fun _ => 0)))), (.inl (.int, 100, .inl ((fun _ => 0)))), (.inl (.int, 100, .inl ((fun _ => 0)))), (.inl (.int, 100, .inl ((fun _ => 0)))), (.inl (.int, 100, .inl ((fun _ => 0)))), (.inl (.long, 1, .inr (.inl (fun _ => 0)))), (.inr (12, []))]
def HJ14 : mHp := [(.inr (8, [.ref 17, .ref 21, .ref 23, .ref 29, .ref 32])), (.inr (5, [.ref 18, .ref 19, .ref 20, .int 0])), (.inl (.int, 42, .inl ((fun _ => 0)))), (.inl (.int, 42, .inl ((fun _ => 0)))), (.inr (7, [.long 0, .long 0, .long 0])), (.inr (3, [.ref 17, .ref 22, .int 0])), (.inl (.long, 40, .inr (.inl ((fun _ => 0))))), (.inr (4, [.ref 17, .ref 21, .ref 24, .ref 25, .ref 26, .int 0, .ref 27, .int 0, .ref 28])), (.inl (.int, 1600, .inl (mfill 1600 (-1) (fun _ => 0)))), (.inl (.int, 1600, .inl ((fun _ => 0)))), (.inl (.int, 225, .inl ((fun _ => 0)))), (.inl (.int, 800, .inl ((fun _ => 0)))), (.inl (.long, 40, .inr (.inl ((fun _ => 0))))), (.inr (2, [.ref 17, .ref 23, .ref 30, .ref 31, .int 0])), (.inl (.int, 75, .inl ((fun _ => 0)))), (.inl (.int, 75, .inl ((fun _ => 0)))), (.inr (6, [.ref 17, .ref 23, .ref 36, .ref 33, .int 0, .ref 34, .ref 35])), (.inl (.int, 75, .inl ((fun _ => 0)))), (.inl (.int, 75, .inl ((fun _ => 0)))), (.inl (.int, 75, .inl ((fun _ => 0)))), (.inr (1, [.ref 17, .ref 37, .ref 39, .int 0, .int 0, .int 0, .ref 41, .int 0])), (.inr (0, [.int 1, .ref 38, .int 0, .int 0])), (.inl (.int, 77, .inl ((fun _ => 0)))), (.inr (0, [.int (-1), .ref 40, .int 0, .int 0])), (.inl (.int, 77, .inl ((fun _ => 0)))), (.inl (.int, 77, .inl ((fun _ => 0)))), (.inr (9, [.int 0, .int 0, .ref 43, .ref 44, .ref 45, .ref 46, .int 1, .int 0, .ref 47, .int 0, .ref 48, .int 0, .ref 49, .ref 50, .ref 51, .ref 52, .long 0, .long 0])), (.inl (.long, 42, .inr (.inl ((fun _ => 0))))), (.inl (.long, 42, .inr (.inl ((fun _ => 0))))), (.inl (.boolean, 1600, .inl ((fun _ => 0)))), (.inl (.boolean, 1600, .inl ((fun _ => 0)))), (.inl (.int, 300, .inl ((fun _ => 0)))), (.inl (.int, 100, .inl ((fun _ => 0)))), (.inl (.int, 100, .inl ((fun _ => 0)))), (.inl (.int, 100, .inl ((fun _ => 0)))), (.inl (.int, 100, .inl ((fun _ => 0)))), (.inl (.int, 100, .inl ((fun _ => 0)))), (.inl (.long, 1, .inr (.inl (fun _ => 0)))), (.inr (12, []))]
def HJ15 : mHp := [(.inr (8, [.ref 17, .ref 21, .ref 23, .ref 29, .ref 32])), (.inr (5, [.ref 18, .ref 19, .ref 20, .int 0])), (.inl (.int, 42, .inl ((fun _ => 0)))), (.inl (.int, 42, .inl ((fun _ => 0)))), (.inr (7, [.long 0, .long 0, .long 0])), (.inr (3, [.ref 17, .ref 22, .int 0])), (.inl (.long, 40, .inr (.inl ((fun _ => 0))))), (.inr (4, [.ref 17, .ref 21, .ref 24, .ref 25, .ref 26, .int 0, .ref 27, .int 0, .ref 28])), (.inl (.int, 1600, .inl (mfill 1600 (-1) (fun _ => 0)))), (.inl (.int, 1600, .inl ((fun _ => 0)))), (.inl (.int, 225, .inl ((fun _ => 0)))), (.inl (.int, 800, .inl ((fun _ => 0)))), (.inl (.long, 40, .inr (.inl ((fun _ => 0))))), (.inr (2, [.ref 17, .ref 23, .ref 30, .ref 31, .int 0])), (.inl (.int, 75, .inl ((fun _ => 0)))), (.inl (.int, 75, .inl ((fun _ => 0)))), (.inr (6, [.ref 17, .ref 23, .ref 36, .ref 33, .int 0, .ref 34, .ref 35])), (.inl (.int, 75, .inl ((fun _ => 0)))), (.inl (.int, 75, .inl ((fun _ => 0)))), (.inl (.int, 75, .inl ((fun _ => 0)))), (.inr (1, [.ref 17, .ref 37, .ref 39, .int 0, .int 0, .int 0, .ref 41, .int 0])), (.inr (0, [.int 1, .ref 38, .int 0, .int 0])), (.inl (.int, 77, .inl ((fun _ => 0)))), (.inr (0, [.int (-1), .ref 40, .int 0, .int 0])), (.inl (.int, 77, .inl ((fun _ => 0)))), (.inl (.int, 77, .inl ((fun _ => 0)))), (.inr (9, [.int 0, .int 0, .ref 43, .ref 44, .ref 45, .ref 46, .int 1, .int 0, .ref 47, .int 0, .ref 48, .int 0, .ref 49, .ref 50, .ref 51, .ref 52, .long 0, .long 0])), (.inl (.long, 42, .inr (.inl ((fun _ => 0))))), (.inl (.long, 42, .inr (.inl ((fun _ => 0))))), (.inl (.boolean, 1600, .inl ((fun _ => 0)))), (.inl (.boolean, 1600, .inl (mcpz 1600 (fun _ => 0) (fun _ => 0)))), (.inl (.int, 300, .inl ((fun _ => 0)))), (.inl (.int, 100, .inl ((fun _ => 0)))), (.inl (.int, 100, .inl ((fun _ => 0)))), (.inl (.int, 100, .inl ((fun _ => 0)))), (.inl (.int, 100, .inl ((fun _ => 0)))), (.inl (.int, 100, .inl ((fun _ => 0)))), (.inl (.long, 1, .inr (.inl (fun _ => 0)))), (.inr (12, []))]
def HJ16 : mHp := [(.inr (8, [.ref 17, .ref 21, .ref 23, .ref 29, .ref 32])), (.inr (5, [.ref 18, .ref 19, .ref 20, .int 0])), (.inl (.int, 42, .inl ((fun _ => 0)))), (.inl (.int, 42, .inl ((fun _ => 0)))), (.inr (7, [.long 0, .long 0, .long 0])), (.inr (3, [.ref 17, .ref 22, .int 0])), (.inl (.long, 40, .inr (.inl ((fun _ => 0))))), (.inr (4, [.ref 17, .ref 21, .ref 24, .ref 25, .ref 26, .int 0, .ref 27, .int 0, .ref 28])), (.inl (.int, 1600, .inl (mfill 1600 (-1) (fun _ => 0)))), (.inl (.int, 1600, .inl ((fun _ => 0)))), (.inl (.int, 225, .inl ((fun _ => 0)))), (.inl (.int, 800, .inl ((fun _ => 0)))), (.inl (.long, 40, .inr (.inl ((fun _ => 0))))), (.inr (2, [.ref 17, .ref 23, .ref 30, .ref 31, .int 0])), (.inl (.int, 75, .inl ((fun _ => 0)))), (.inl (.int, 75, .inl ((fun _ => 0)))), (.inr (6, [.ref 17, .ref 23, .ref 36, .ref 33, .int 0, .ref 34, .ref 35])), (.inl (.int, 75, .inl ((fun _ => 0)))), (.inl (.int, 75, .inl ((fun _ => 0)))), (.inl (.int, 75, .inl ((fun _ => 0)))), (.inr (1, [.ref 17, .ref 37, .ref 39, .int 0, .int 0, .int 0, .ref 41, .int 0])), (.inr (0, [.int 1, .ref 38, .int 0, .int 0])), (.inl (.int, 77, .inl ((fun _ => 0)))), (.inr (0, [.int (-1), .ref 40, .int 0, .int 0])), (.inl (.int, 77, .inl ((fun _ => 0)))), (.inl (.int, 77, .inl ((fun _ => 0)))), (.inr (9, [.int 1, .int 0, .ref 43, .ref 44, .ref 45, .ref 46, .int 1, .int 0, .ref 47, .int 0, .ref 48, .int 0, .ref 49, .ref 50, .ref 51, .ref 52, .long 0, .long 0])), (.inl (.long, 42, .inr (.inl ((fun _ => 0))))), (.inl (.long, 42, .inr (.inl ((fun _ => 0))))), (.inl (.boolean, 1600, .inl ((fun _ => 0)))), (.inl (.boolean, 1600, .inl (mcpz 1600 (fun _ => 0) (fun _ => 0)))), (.inl (.int, 300, .inl ((fun _ => 0)))), (.inl (.int, 100, .inl ((fun _ => 0)))), (.inl (.int, 100, .inl ((fun _ => 0)))), (.inl (.int, 100, .inl ((fun _ => 0)))), (.inl (.int, 100, .inl ((fun _ => 0)))), (.inl (.int, 100, .inl ((fun _ => 0)))), (.inl (.long, 1, .inr (.inl (fun _ => 0)))), (.inr (12, []))]
def HJ17 (f : Nat → Int32) : mHp := [(.inr (8, [.ref 17, .ref 21, .ref 23, .ref 29, .ref 32])), (.inr (5, [.ref 18, .ref 19, .ref 20, .int 0])), (.inl (.int, 42, .inl (upd (fun _ => 0) (Int32.toNatClampNeg 40) (f 1)))), (.inl (.int, 42, .inl (upd (fun _ => 0) (Int32.toNatClampNeg 40) (f 2)))), (.inr (7, [.long 0, .long 0, .long 0])), (.inr (3, [.ref 17, .ref 22, .int 0])), (.inl (.long, 40, .inr (.inl ((fun _ => 0))))), (.inr (4, [.ref 17, .ref 21, .ref 24, .ref 25, .ref 26, .int 0, .ref 27, .int 0, .ref 28])), (.inl (.int, 1600, .inl (mfill 1600 (-1) (fun _ => 0)))), (.inl (.int, 1600, .inl ((fun _ => 0)))), (.inl (.int, 225, .inl ((fun _ => 0)))), (.inl (.int, 800, .inl ((fun _ => 0)))), (.inl (.long, 40, .inr (.inl ((fun _ => 0))))), (.inr (2, [.ref 17, .ref 23, .ref 30, .ref 31, .int 0])), (.inl (.int, 75, .inl ((fun _ => 0)))), (.inl (.int, 75, .inl ((fun _ => 0)))), (.inr (6, [.ref 17, .ref 23, .ref 36, .ref 33, .int 0, .ref 34, .ref 35])), (.inl (.int, 75, .inl ((fun _ => 0)))), (.inl (.int, 75, .inl ((fun _ => 0)))), (.inl (.int, 75, .inl ((fun _ => 0)))), (.inr (1, [.ref 17, .ref 37, .ref 39, .int 0, .int 0, .int 0, .ref 41, .int 0])), (.inr (0, [.int 1, .ref 38, .int 0, .int 0])), (.inl (.int, 77, .inl ((fun _ => 0)))), (.inr (0, [.int (-1), .ref 40, .int 0, .int 0])), (.inl (.int, 77, .inl ((fun _ => 0)))), (.inl (.int, 77, .inl ((fun _ => 0)))), (.inr (9, [.int 0, .int 0, .ref 43, .ref 44, .ref 45, .ref 46, .int 0, .int 0, .ref 47, .int 0, .ref 48, .int 0, .ref 49, .ref 50, .ref 51, .ref 52, .long 0, .long 0])), (.inl (.long, 42, .inr (.inl ((fun _ => 0))))), (.inl (.long, 42, .inr (.inl ((fun _ => 0))))), (.inl (.boolean, 1600, .inl ((fun _ => 0)))), (.inl (.boolean, 1600, .inl ((fun _ => 0)))), (.inl (.int, 300, .inl ((fun _ => 0)))), (.inl (.int, 100, .inl ((fun _ => 0)))), (.inl (.int, 100, .inl ((fun _ => 0)))), (.inl (.int, 100, .inl ((fun _ => 0)))), (.inl (.int, 100, .inl ((fun _ => 0)))), (.inl (.int, 100, .inl ((fun _ => 0)))), (.inl (.long, 1, .inr (.inl (fun _ => 0))))]
def HJ18 (f : Nat → Int32) : mHp := [(.inr (8, [.ref 17, .ref 21, .ref 23, .ref 29, .ref 32])), (.inr (5, [.ref 18, .ref 19, .ref 20, .int 0])), (.inl (.int, 42, .inl (upd (fun _ => 0) (Int32.toNatClampNeg 40) (f 1)))), (.inl (.int, 42, .inl (upd (fun _ => 0) (Int32.toNatClampNeg 40) (f 2)))), (.inr (7, [.long 0, .long 0, .long 0])), (.inr (3, [.ref 17, .ref 22, .int 0])), (.inl (.long, 40, .inr (.inl ((fun _ => 0))))), (.inr (4, [.ref 17, .ref 21, .ref 24, .ref 25, .ref 26, .int 0, .ref 27, .int 0, .ref 28])), (.inl (.int, 1600, .inl (mfill 1600 (-1) (fun _ => 0)))), (.inl (.int, 1600, .inl ((fun _ => 0)))), (.inl (.int, 225, .inl ((fun _ => 0)))), (.inl (.int, 800, .inl ((fun _ => 0)))), (.inl (.long, 40, .inr (.inl ((fun _ => 0))))), (.inr (2, [.ref 17, .ref 23, .ref 30, .ref 31, .int 0])), (.inl (.int, 75, .inl ((fun _ => 0)))), (.inl (.int, 75, .inl ((fun _ => 0)))), (.inr (6, [.ref 17, .ref 23, .ref 36, .ref 33, .int 0, .ref 34, .ref 35])), (.inl (.int, 75, .inl ((fun _ => 0)))), (.inl (.int, 75, .inl ((fun _ => 0)))), (.inl (.int, 75, .inl ((fun _ => 0)))), (.inr (1, [.ref 17, .ref 37, .ref 39, .int 0, .int 0, .int 0, .ref 41, .int 0])), (.inr (0, [.int 1, .ref 38, .int 0, .int 0])), (.inl (.int, 77, .inl ((fun _ => 0)))), (.inr (0, [.int (-1), .ref 40, .int 0, .int 0])), (.inl (.int, 77, .inl ((fun _ => 0)))), (.inl (.int, 77, .inl ((fun _ => 0)))), (.inr (9, [.int 0, .int 0, .ref 43, .ref 44, .ref 45, .ref 46, .int 0, .int 0, .ref 47, .int 0, .ref 48, .int 0, .ref 49, .ref 50, .ref 51, .ref 52, .long 0, .long 0])), (.inl (.long, 42, .inr (.inl ((fun _ => 0))))), (.inl (.long, 42, .inr (.inl ((fun _ => 0))))), (.inl (.boolean, 1600, .inl ((fun _ => 0)))), (.inl (.boolean, 1600, .inl ((fun _ => 0)))), (.inl (.int, 300, .inl ((fun _ => 0)))), (.inl (.int, 100, .inl ((fun _ => 0)))), (.inl (.int, 100, .inl ((fun _ => 0)))), (.inl (.int, 100, .inl ((fun _ => 0)))), (.inl (.int, 100, .inl ((fun _ => 0)))), (.inl (.int, 100, .inl ((fun _ => 0)))), (.inl (.long, 1, .inr (.inl (vp_updL (fun _ => 0) (Int32.toNatClampNeg 0) (-1)))))]
def HJ19 (f : Nat → Int32) : mHp := [(.inr (8, [.ref 17, .ref 21, .ref 23, .ref 29, .ref 32])), (.inr (5, [.ref 18, .ref 19, .ref 20, .int 0])), (.inl (.int, 42, .inl (upd (fun _ => 0) (Int32.toNatClampNeg 40) (f 1)))), (.inl (.int, 42, .inl (upd (fun _ => 0) (Int32.toNatClampNeg 40) (f 2)))), (.inr (7, [.long 0, .long 0, .long 0])), (.inr (3, [.ref 17, .ref 22, .int 0])), (.inl (.long, 40, .inr (.inl ((fun _ => 0))))), (.inr (4, [.ref 17, .ref 21, .ref 24, .ref 25, .ref 26, .int 0, .ref 27, .int 0, .ref 28])), (.inl (.int, 1600, .inl (mfill 1600 (-1) (fun _ => 0)))), (.inl (.int, 1600, .inl ((fun _ => 0)))), (.inl (.int, 225, .inl ((fun _ => 0)))), (.inl (.int, 800, .inl ((fun _ => 0)))), (.inl (.long, 40, .inr (.inl ((fun _ => 0))))), (.inr (2, [.ref 17, .ref 23, .ref 30, .ref 31, .int 0])), (.inl (.int, 75, .inl ((fun _ => 0)))), (.inl (.int, 75, .inl ((fun _ => 0)))), (.inr (6, [.ref 17, .ref 23, .ref 36, .ref 33, .int 0, .ref 34, .ref 35])), (.inl (.int, 75, .inl ((fun _ => 0)))), (.inl (.int, 75, .inl ((fun _ => 0)))), (.inl (.int, 75, .inl ((fun _ => 0)))), (.inr (1, [.ref 17, .ref 37, .ref 39, .int 0, .int 0, .int 0, .ref 41, .int 0])), (.inr (0, [.int 1, .ref 38, .int 0, .int 0])), (.inl (.int, 77, .inl ((fun _ => 0)))), (.inr (0, [.int (-1), .ref 40, .int 0, .int 0])), (.inl (.int, 77, .inl ((fun _ => 0)))), (.inl (.int, 77, .inl ((fun _ => 0)))), (.inr (9, [.int 0, .int 0, .ref 43, .ref 44, .ref 45, .ref 46, .int 1, .int 0, .ref 47, .int 0, .ref 48, .int 0, .ref 49, .ref 50, .ref 51, .ref 52, .long 0, .long 0])), (.inl (.long, 42, .inr (.inl ((fun _ => 0))))), (.inl (.long, 42, .inr (.inl ((fun _ => 0))))), (.inl (.boolean, 1600, .inl ((fun _ => 0)))), (.inl (.boolean, 1600, .inl ((fun _ => 0)))), (.inl (.int, 300, .inl ((fun _ => 0)))), (.inl (.int, 100, .inl ((fun _ => 0)))), (.inl (.int, 100, .inl ((fun _ => 0)))), (.inl (.int, 100, .inl ((fun _ => 0)))), (.inl (.int, 100, .inl ((fun _ => 0)))), (.inl (.int, 100, .inl ((fun _ => 0)))), (.inl (.long, 1, .inr (.inl (vp_updL (fun _ => 0) (Int32.toNatClampNeg 0) (-1)))))]
def HJ20 (f : Nat → Int32) : mHp := [(.inr (8, [.ref 17, .ref 21, .ref 23, .ref 29, .ref 32])), (.inr (5, [.ref 18, .ref 19, .ref 20, .int 0])), (.inl (.int, 42, .inl (upd (fun _ => 0) (Int32.toNatClampNeg 40) (f 1)))), (.inl (.int, 42, .inl (upd (fun _ => 0) (Int32.toNatClampNeg 40) (f 2)))), (.inr (7, [.long 0, .long 0, .long 0])), (.inr (3, [.ref 17, .ref 22, .int 0])), (.inl (.long, 40, .inr (.inl ((fun _ => 0))))), (.inr (4, [.ref 17, .ref 21, .ref 24, .ref 25, .ref 26, .int 0, .ref 27, .int 0, .ref 28])), (.inl (.int, 1600, .inl (mfill 1600 (-1) (fun _ => 0)))), (.inl (.int, 1600, .inl ((fun _ => 0)))), (.inl (.int, 225, .inl ((fun _ => 0)))), (.inl (.int, 800, .inl ((fun _ => 0)))), (.inl (.long, 40, .inr (.inl ((fun _ => 0))))), (.inr (2, [.ref 17, .ref 23, .ref 30, .ref 31, .int 0])), (.inl (.int, 75, .inl ((fun _ => 0)))), (.inl (.int, 75, .inl ((fun _ => 0)))), (.inr (6, [.ref 17, .ref 23, .ref 36, .ref 33, .int 0, .ref 34, .ref 35])), (.inl (.int, 75, .inl ((fun _ => 0)))), (.inl (.int, 75, .inl ((fun _ => 0)))), (.inl (.int, 75, .inl ((fun _ => 0)))), (.inr (1, [.ref 17, .ref 37, .ref 39, .int 0, .int 0, .int 0, .ref 41, .int 0])), (.inr (0, [.int 1, .ref 38, .int 0, .int 0])), (.inl (.int, 77, .inl ((fun _ => 0)))), (.inr (0, [.int (-1), .ref 40, .int 0, .int 0])), (.inl (.int, 77, .inl ((fun _ => 0)))), (.inl (.int, 77, .inl ((fun _ => 0)))), (.inr (9, [.int 0, .int 0, .ref 43, .ref 44, .ref 45, .ref 46, .int 1, .int 0, .ref 47, .int 0, .ref 48, .int 0, .ref 49, .ref 50, .ref 51, .ref 52, .long 0, .long 0])), (.inl (.long, 42, .inr (.inl ((fun _ => 0))))), (.inl (.long, 42, .inr (.inl ((fun _ => 0))))), (.inl (.boolean, 1600, .inl ((fun _ => 0)))), (.inl (.boolean, 1600, .inl (mcpz 1600 (fun _ => 0) (fun _ => 0)))), (.inl (.int, 300, .inl ((fun _ => 0)))), (.inl (.int, 100, .inl ((fun _ => 0)))), (.inl (.int, 100, .inl ((fun _ => 0)))), (.inl (.int, 100, .inl ((fun _ => 0)))), (.inl (.int, 100, .inl ((fun _ => 0)))), (.inl (.int, 100, .inl ((fun _ => 0)))), (.inl (.long, 1, .inr (.inl (vp_updL (fun _ => 0) (Int32.toNatClampNeg 0) (-1)))))]
def HJ21 (f : Nat → Int32) : mHp := [(.inr (8, [.ref 17, .ref 21, .ref 23, .ref 29, .ref 32])), (.inr (5, [.ref 18, .ref 19, .ref 20, .int 0])), (.inl (.int, 42, .inl (upd (fun _ => 0) (Int32.toNatClampNeg 40) (f 1)))), (.inl (.int, 42, .inl (upd (fun _ => 0) (Int32.toNatClampNeg 40) (f 2)))), (.inr (7, [.long 0, .long 0, .long 0])), (.inr (3, [.ref 17, .ref 22, .int 0])), (.inl (.long, 40, .inr (.inl ((fun _ => 0))))), (.inr (4, [.ref 17, .ref 21, .ref 24, .ref 25, .ref 26, .int 0, .ref 27, .int 0, .ref 28])), (.inl (.int, 1600, .inl (mfill 1600 (-1) (fun _ => 0)))), (.inl (.int, 1600, .inl ((fun _ => 0)))), (.inl (.int, 225, .inl ((fun _ => 0)))), (.inl (.int, 800, .inl ((fun _ => 0)))), (.inl (.long, 40, .inr (.inl ((fun _ => 0))))), (.inr (2, [.ref 17, .ref 23, .ref 30, .ref 31, .int 0])), (.inl (.int, 75, .inl ((fun _ => 0)))), (.inl (.int, 75, .inl ((fun _ => 0)))), (.inr (6, [.ref 17, .ref 23, .ref 36, .ref 33, .int 0, .ref 34, .ref 35])), (.inl (.int, 75, .inl ((fun _ => 0)))), (.inl (.int, 75, .inl ((fun _ => 0)))), (.inl (.int, 75, .inl ((fun _ => 0)))), (.inr (1, [.ref 17, .ref 37, .ref 39, .int 0, .int 0, .int 0, .ref 41, .int 0])), (.inr (0, [.int 1, .ref 38, .int 0, .int 0])), (.inl (.int, 77, .inl ((fun _ => 0)))), (.inr (0, [.int (-1), .ref 40, .int 0, .int 0])), (.inl (.int, 77, .inl ((fun _ => 0)))), (.inl (.int, 77, .inl ((fun _ => 0)))), (.inr (9, [.int 0, .int 0, .ref 43, .ref 44, .ref 45, .ref 46, .int 1, .int 0, .ref 47, .int 0, .ref 48, .int 0, .ref 49, .ref 50, .ref 51, .ref 52, .long 0, .long 0])), (.inl (.long, 42, .inr (.inl (vp_updL (fun _ => 0) (Int32.toNatClampNeg 40) (Int32.toInt64 (f 1)))))), (.inl (.long, 42, .inr (.inl (vp_updL (fun _ => 0) (Int32.toNatClampNeg 40) (Int32.toInt64 (f 2)))))), (.inl (.boolean, 1600, .inl ((fun _ => 0)))), (.inl (.boolean, 1600, .inl (mcpz 1600 (fun _ => 0) (fun _ => 0)))), (.inl (.int, 300, .inl ((fun _ => 0)))), (.inl (.int, 100, .inl ((fun _ => 0)))), (.inl (.int, 100, .inl ((fun _ => 0)))), (.inl (.int, 100, .inl ((fun _ => 0)))), (.inl (.int, 100, .inl ((fun _ => 0)))), (.inl (.int, 100, .inl ((fun _ => 0)))), (.inl (.long, 1, .inr (.inl (vp_updL (fun _ => 0) (Int32.toNatClampNeg 0) (-1)))))]
def HJ22 (f : Nat → Int32) : mHp := [(.inr (8, [.ref 17, .ref 21, .ref 23, .ref 29, .ref 32])), (.inr (5, [.ref 18, .ref 19, .ref 20, .int 0])), (.inl (.int, 42, .inl (upd (upd (fun _ => 0) (Int32.toNatClampNeg 40) (f 1)) (Int32.toNatClampNeg 41) (f 3)))), (.inl (.int, 42, .inl (upd (upd (fun _ => 0) (Int32.toNatClampNeg 40) (f 2)) (Int32.toNatClampNeg 41) (f 4)))), (.inr (7, [.long 0, .long 0, .long 0])), (.inr (3, [.ref 17, .ref 22, .int 0])), (.inl (.long, 40, .inr (.inl ((fun _ => 0))))), (.inr (4, [.ref 17, .ref 21, .ref 24, .ref 25, .ref 26, .int 0, .ref 27, .int 0, .ref 28])), (.inl (.int, 1600, .inl (mfill 1600 (-1) (fun _ => 0)))), (.inl (.int, 1600, .inl ((fun _ => 0)))), (.inl (.int, 225, .inl ((fun _ => 0)))), (.inl (.int, 800, .inl ((fun _ => 0)))), (.inl (.long, 40, .inr (.inl ((fun _ => 0))))), (.inr (2, [.ref 17, .ref 23, .ref 30, .ref 31, .int 0])), (.inl (.int, 75, .inl ((fun _ => 0)))), (.inl (.int, 75, .inl ((fun _ => 0)))), (.inr (6, [.ref 17, .ref 23, .ref 36, .ref 33, .int 0, .ref 34, .ref 35])), (.inl (.int, 75, .inl ((fun _ => 0)))), (.inl (.int, 75, .inl ((fun _ => 0)))), (.inl (.int, 75, .inl ((fun _ => 0)))), (.inr (1, [.ref 17, .ref 37, .ref 39, .int 0, .int 0, .int 0, .ref 41, .int 0])), (.inr (0, [.int 1, .ref 38, .int 0, .int 0])), (.inl (.int, 77, .inl ((fun _ => 0)))), (.inr (0, [.int (-1), .ref 40, .int 0, .int 0])), (.inl (.int, 77, .inl ((fun _ => 0)))), (.inl (.int, 77, .inl ((fun _ => 0)))), (.inr (9, [.int 0, .int 0, .ref 43, .ref 44, .ref 45, .ref 46, .int 0, .int 0, .ref 47, .int 0, .ref 48, .int 0, .ref 49, .ref 50, .ref 51, .ref 52, .long 0, .long 0])), (.inl (.long, 42, .inr (.inl ((fun _ => 0))))), (.inl (.long, 42, .inr (.inl ((fun _ => 0))))), (.inl (.boolean, 1600, .inl ((fun _ => 0)))), (.inl (.boolean, 1600, .inl ((fun _ => 0)))), (.inl (.int, 300, .inl ((fun _ => 0)))), (.inl (.int, 100, .inl ((fun _ => 0)))), (.inl (.int, 100, .inl ((fun _ => 0)))), (.inl (.int, 100, .inl ((fun _ => 0)))), (.inl (.int, 100, .inl ((fun _ => 0)))), (.inl (.int, 100, .inl ((fun _ => 0)))), (.inl (.long, 1, .inr (.inl (fun _ => 0))))]
def HJ23 (f : Nat → Int32) : mHp := [(.inr (8, [.ref 17, .ref 21, .ref 23, .ref 29, .ref 32])), (.inr (5, [.ref 18, .ref 19, .ref 20, .int 0])), (.inl (.int, 42, .inl (upd (upd (fun _ => 0) (Int32.toNatClampNeg 40) (f 1)) (Int32.toNatClampNeg 41) (f 3)))), (.inl (.int, 42, .inl (upd (upd (fun _ => 0) (Int32.toNatClampNeg 40) (f 2)) (Int32.toNatClampNeg 41) (f 4)))), (.inr (7, [.long 0, .long 0, .long 0])), (.inr (3, [.ref 17, .ref 22, .int 0])), (.inl (.long, 40, .inr (.inl ((fun _ => 0))))), (.inr (4, [.ref 17, .ref 21, .ref 24, .ref 25, .ref 26, .int 0, .ref 27, .int 0, .ref 28])), (.inl (.int, 1600, .inl (mfill 1600 (-1) (fun _ => 0)))), (.inl (.int, 1600, .inl ((fun _ => 0)))), (.inl (.int, 225, .inl ((fun _ => 0)))), (.inl (.int, 800, .inl ((fun _ => 0)))), (.inl (.long, 40, .inr (.inl ((fun _ => 0))))), (.inr (2, [.ref 17, .ref 23, .ref 30, .ref 31, .int 0])), (.inl (.int, 75, .inl ((fun _ => 0)))), (.inl (.int, 75, .inl ((fun _ => 0)))), (.inr (6, [.ref 17, .ref 23, .ref 36, .ref 33, .int 0, .ref 34, .ref 35])), (.inl (.int, 75, .inl ((fun _ => 0)))), (.inl (.int, 75, .inl ((fun _ => 0)))), (.inl (.int, 75, .inl ((fun _ => 0)))), (.inr (1, [.ref 17, .ref 37, .ref 39, .int 0, .int 0, .int 0, .ref 41, .int 0])), (.inr (0, [.int 1, .ref 38, .int 0, .int 0])), (.inl (.int, 77, .inl ((fun _ => 0)))), (.inr (0, [.int (-1), .ref 40, .int 0, .int 0])), (.inl (.int, 77, .inl ((fun _ => 0)))), (.inl (.int, 77, .inl ((fun _ => 0)))), (.inr (9, [.int 0, .int 0, .ref 43, .ref 44, .ref 45, .ref 46, .int 0, .int 0, .ref 47, .int 0, .ref 48, .int 0, .ref 49, .ref 50, .ref 51, .ref 52, .long 0, .long 0])), (.inl (.long, 42, .inr (.inl ((fun _ => 0))))), (.inl (.long, 42, .inr (.inl ((fun _ => 0))))), (.inl (.boolean, 1600, .inl ((fun _ => 0)))), (.inl (.boolean, 1600, .inl ((fun _ => 0)))), (.inl (.int, 300, .inl ((fun _ => 0)))), (.inl (.int, 100, .inl ((fun _ => 0)))), (.inl (.int, 100, .inl ((fun _ => 0)))), (.inl (.int, 100, .inl ((fun _ => 0)))), (.inl (.int, 100, .inl ((fun _ => 0)))), (.inl (.int, 100, .inl ((fun _ => 0)))), (.inl (.long, 1, .inr (.inl (vp_updL (fun _ => 0) (Int32.toNatClampNeg 0) (-1)))))]
def HJ24 (f : Nat → Int32) : mHp := [(.inr (8, [.ref 17, .ref 21, .ref 23, .ref 29, .ref 32])), (.inr (5, [.ref 18, .ref 19, .ref 20, .int 0])), (.inl (.int, 42, .inl (upd (upd (fun _ => 0) (Int32.toNatClampNeg 40) (f 1)) (Int32.toNatClampNeg 41) (f 3)))), (.inl (.int, 42, .inl (upd (upd (fun _ => 0) (Int32.toNatClampNeg 40) (f 2)) (Int32.toNatClampNeg 41) (f 4)))), (.inr (7, [.long 0, .long 0, .long 0])), (.inr (3, [.ref 17, .ref 22, .int 0])), (.inl (.long, 40, .inr (.inl ((fun _ => 0))))), (.inr (4, [.ref 17, .ref 21, .ref 24, .ref 25, .ref 26, .int 0, .ref 27, .int 0, .ref 28])), (.inl (.int, 1600, .inl (mfill 1600 (-1) (fun _ => 0)))), (.inl (.int, 1600, .inl ((fun _ => 0)))), (.inl (.int, 225, .inl ((fun _ => 0)))), (.inl (.int, 800, .inl ((fun _ => 0)))), (.inl (.long, 40, .inr (.inl ((fun _ => 0))))), (.inr (2, [.ref 17, .ref 23, .ref 30, .ref 31, .int 0])), (.inl (.int, 75, .inl ((fun _ => 0)))), (.inl (.int, 75, .inl ((fun _ => 0)))), (.inr (6, [.ref 17, .ref 23, .ref 36, .ref 33, .int 0, .ref 34, .ref 35])), (.inl (.int, 75, .inl ((fun _ => 0)))), (.inl (.int, 75, .inl ((fun _ => 0)))), (.inl (.int, 75, .inl ((fun _ => 0)))), (.inr (1, [.ref 17, .ref 37, .ref 39, .int 0, .int 0, .int 0, .ref 41, .int 0])), (.inr (0, [.int 1, .ref 38, .int 0, .int 0])), (.inl (.int, 77, .inl ((fun _ => 0)))), (.inr (0, [.int (-1), .ref 40, .int 0, .int 0])), (.inl (.int, 77, .inl ((fun _ => 0)))), (.inl (.int, 77, .inl ((fun _ => 0)))), (.inr (9, [.int 0, .int 0, .ref 43, .ref 44, .ref 45, .ref 46, .int 1, .int 0, .ref 47, .int 0, .ref 48, .int 0, .ref 49, .ref 50, .ref 51, .ref 52, .long 0, .long 0])), (.inl (.long, 42, .inr (.inl ((fun _ => 0))))), (.inl (.long, 42, .inr (.inl ((fun _ => 0))))), (.inl (.boolean, 1600, .inl ((fun _ => 0)))), (.inl (.boolean, 1600, .inl ((fun _ => 0)))), (.inl (.int, 300, .inl ((fun _ => 0)))), (.inl (.int, 100, .inl ((fun _ => 0)))), (.inl (.int, 100, .inl ((fun _ => 0)))), (.inl (.int, 100, .inl ((fun _ => 0)))), (.inl (.int, 100, .inl ((fun _ => 0)))), (.inl (.int, 100, .inl ((fun _ => 0)))), (.inl (.long, 1, .inr (.inl (vp_updL (fun _ => 0) (Int32.toNatClampNeg 0) (-1)))))]
def HJ25 (f : Nat → Int32) : mHp := [(.inr (8, [.ref 17, .ref 21, .ref 23, .ref 29, .ref 32])), (.inr (5, [.ref 18, .ref 19, .ref 20, .int 0])), (.inl (.int, 42, .inl (upd (upd (fun _ => 0) (Int32.toNatClampNeg 40) (f 1)) (Int32.toNatClampNeg 41) (f 3)))), (.inl (.int, 42, .inl (upd (upd (fun _ => 0) (Int32.toNatClampNeg 40) (f 2)) (Int32.toNatClampNeg 41) (f 4)))), (.inr (7, [.long 0, .long 0, .long 0])), (.inr (3, [.ref 17, .ref 22, .int 0])), (.inl (.long, 40, .inr (.inl ((fun _ => 0))))), (.inr (4, [.ref 17, .ref 21, .ref 24, .ref 25, .ref 26, .int 0, .ref 27, .int 0, .ref 28])), (.inl (.int, 1600, .inl (mfill 1600 (-1) (fun _ => 0)))), (.inl (.int, 1600, .inl ((fun _ => 0)))), (.inl (.int, 225, .inl ((fun _ => 0)))), (.inl (.int, 800, .inl ((fun _ => 0)))), (.inl (.long, 40, .inr (.inl ((fun _ => 0))))), (.inr (2, [.ref 17, .ref 23, .ref 30, .ref 31, .int 0])), (.inl (.int, 75, .inl ((fun _ => 0)))), (.inl (.int, 75, .inl ((fun _ => 0)))), (.inr (6, [.ref 17, .ref 23, .ref 36, .ref 33, .int 0, .ref 34, .ref 35])), (.inl (.int, 75, .inl ((fun _ => 0)))), (.inl (.int, 75, .inl ((fun _ => 0)))), (.inl (.int, 75, .inl ((fun _ => 0)))), (.inr (1, [.ref 17, .ref 37, .ref 39, .int 0, .int 0, .int 0, .ref 41, .int 0])), (.inr (0, [.int 1, .ref 38, .int 0, .int 0])), (.inl (.int, 77, .inl ((fun _ => 0)))), (.inr (0, [.int (-1), .ref 40, .int 0, .int 0])), (.inl (.int, 77, .inl ((fun _ => 0)))), (.inl (.int, 77, .inl ((fun _ => 0)))), (.inr (9, [.int 0, .int 0, .ref 43, .ref 44, .ref 45, .ref 46, .int 1, .int 0, .ref 47, .int 0, .ref 48, .int 0, .ref 49, .ref 50, .ref 51, .ref 52, .long 0, .long 0])), (.inl (.long, 42, .inr (.inl ((fun _ => 0))))), (.inl (.long, 42, .inr (.inl ((fun _ => 0))))), (.inl (.boolean, 1600, .inl ((fun _ => 0)))), (.inl (.boolean, 1600, .inl (mcpz 1600 (fun _ => 0) (fun _ => 0)))), (.inl (.int, 300, .inl ((fun _ => 0)))), (.inl (.int, 100, .inl ((fun _ => 0)))), (.inl (.int, 100, .inl ((fun _ => 0)))), (.inl (.int, 100, .inl ((fun _ => 0)))), (.inl (.int, 100, .inl ((fun _ => 0)))), (.inl (.int, 100, .inl ((fun _ => 0)))), (.inl (.long, 1, .inr (.inl (vp_updL (fun _ => 0) (Int32.toNatClampNeg 0) (-1)))))]
def HJ26 (f : Nat → Int32) : mHp := [(.inr (8, [.ref 17, .ref 21, .ref 23, .ref 29, .ref 32])), (.inr (5, [.ref 18, .ref 19, .ref 20, .int 0])), (.inl (.int, 42, .inl (upd (upd (fun _ => 0) (Int32.toNatClampNeg 40) (f 1)) (Int32.toNatClampNeg 41) (f 3)))), (.inl (.int, 42, .inl (upd (upd (fun _ => 0) (Int32.toNatClampNeg 40) (f 2)) (Int32.toNatClampNeg 41) (f 4)))), (.inr (7, [.long 0, .long 0, .long 0])), (.inr (3, [.ref 17, .ref 22, .int 0])), (.inl (.long, 40, .inr (.inl ((fun _ => 0))))), (.inr (4, [.ref 17, .ref 21, .ref 24, .ref 25, .ref 26, .int 0, .ref 27, .int 0, .ref 28])), (.inl (.int, 1600, .inl (mfill 1600 (-1) (fun _ => 0)))), (.inl (.int, 1600, .inl ((fun _ => 0)))), (.inl (.int, 225, .inl ((fun _ => 0)))), (.inl (.int, 800, .inl ((fun _ => 0)))), (.inl (.long, 40, .inr (.inl ((fun _ => 0))))), (.inr (2, [.ref 17, .ref 23, .ref 30, .ref 31, .int 0])), (.inl (.int, 75, .inl ((fun _ => 0)))), (.inl (.int, 75, .inl ((fun _ => 0)))), (.inr (6, [.ref 17, .ref 23, .ref 36, .ref 33, .int 0, .ref 34, .ref 35])), (.inl (.int, 75, .inl ((fun _ => 0)))), (.inl (.int, 75, .inl ((fun _ => 0)))), (.inl (.int, 75, .inl ((fun _ => 0)))), (.inr (1, [.ref 17, .ref 37, .ref 39, .int 0, .int 0, .int 0, .ref 41, .int 0])), (.inr (0, [.int 1, .ref 38, .int 0, .int 0])), (.inl (.int, 77, .inl ((fun _ => 0)))), (.inr (0, [.int (-1), .ref 40, .int 0, .int 0])), (.inl (.int, 77, .inl ((fun _ => 0)))), (.inl (.int, 77, .inl ((fun _ => 0)))), (.inr (9, [.int 0, .int 0, .ref 43, .ref 44, .ref 45, .ref 46, .int 1, .int 0, .ref 47, .int 0, .ref 48, .int 0, .ref 49, .ref 50, .ref 51, .ref 52, .long 0, .long 0])), (.inl (.long, 42, .inr (.inl (vp_updL (vp_updL (fun _ => 0) (Int32.toNatClampNeg 40) (Int32.toInt64 (f 1))) (Int32.toNatClampNeg 41) (Int32.toInt64 (f 3)))))), (.inl (.long, 42, .inr (.inl (vp_updL (vp_updL (fun _ => 0) (Int32.toNatClampNeg 40) (Int32.toInt64 (f 2))) (Int32.toNatClampNeg 41) (Int32.toInt64 (f 4)))))), (.inl (.boolean, 1600, .inl ((fun _ => 0)))), (.inl (.boolean, 1600, .inl (mcpz 1600 (fun _ => 0) (fun _ => 0)))), (.inl (.int, 300, .inl ((fun _ => 0)))), (.inl (.int, 100, .inl ((fun _ => 0)))), (.inl (.int, 100, .inl ((fun _ => 0)))), (.inl (.int, 100, .inl ((fun _ => 0)))), (.inl (.int, 100, .inl ((fun _ => 0)))), (.inl (.int, 100, .inl ((fun _ => 0)))), (.inl (.long, 1, .inr (.inl (vp_updL (fun _ => 0) (Int32.toNatClampNeg 0) (-1)))))]
set_option maxRecDepth 4000 in
theorem w1 {f : Nat → Int32} (h0 : ((f 1) < (-536870911))) : RunsP 97 (0, [(0, .ref 16), (1, .int (f 1)), (2, .int (f 2))], [], HL0) (.inr 54, HJ1) := by
  refine Q_p d97_0 rfl rfl ?_
  refine Q_ci (v := (-536870911)) 369 d97_1 (List.mem_of_getElem? (i := 0) rfl) ?_
  refine Q_br 24 d97_3 (mb_t (b := ((f 1) < (-536870911))) h0) rfl ?_
  exact Q_thr 1 d97_24 d97_27 d97_28 d97_30 d97_33 rfl (List.mem_of_getElem? (i := 2) rfl) rfl (by decide) (by decide)
set_option maxRecDepth 4000 in
theorem w2 {f : Nat → Int32} (h0 : ((f 1) < (-536870911))) : Run (5, f) 96 (0, [(0, .ref 16), (1, .int (f 1)), (2, .int (f 2))], [], HL0) (.inr 54, HJ1) := by
  refine R_p d96_0 rfl rfl ?_
  refine R_p d96_1 rfl rfl ?_
  refine R_p d96_2 rfl rfl ?_
  exact R_tv [.int (f 1), .int (f 2)] d96_3 (List.mem_of_getElem? (i := 30) rfl) ⟨by decide, by decide, Nat.le_of_ble_eq_true rfl, mcd97⟩ rfl rfl (Nat.le_of_ble_eq_true rfl) rfl rfl rfl (Or.inr (w1 (f := f) h0))
set_option maxRecDepth 4000 in
theorem w3 {f : Nat → Int32} (h0 : ((f 1) < (-536870911))) : Run (5, f) 157 (0, [(0, .ref 16), (1, .int (f 1)), (2, .int (f 2)), (3, .ref 53)], [], HL0) (.inl (some (.int 1)), HJ1) := by
  refine R_p d157_0 rfl rfl ?_
  refine R_ic (v := 0) d157_1 (by decide) ?_
  refine R_p d157_2 rfl rfl ?_
  refine R_p d157_3 rfl rfl ?_
  refine R_p d157_4 rfl rfl ?_
  refine R_tc [.int (f 1), .int (f 2)] d157_5 (List.mem_of_getElem? (i := 29) rfl) ⟨by decide, by decide, Nat.le_of_ble_eq_true rfl, mcd96⟩ rfl rfl (Nat.le_of_ble_eq_true rfl) rfl rfl rfl (cx := 10) (hp := 13) rfl (by decide) (by decide) (by decide) (Or.inl (w2 (f := f) h0)) ?_
  refine R_p (ls' := [(0, .ref 16), (1, .int (f 1)), (2, .int (f 2)), (3, .ref 53), (4, .ref 54)]) d157_13 rfl rfl ?_
  refine R_ic (v := 1) d157_15 (by decide) ?_
  exact R_iret d157_16 rfl rfl rfl
set_option maxRecDepth 4000 in
theorem w4 {f : Nat → Int32} (h0 : ((f 1) < (-536870911))) : Run (5, f) 116 (0, [(0, .int (f 1)), (1, .int (-536870911)), (2, .int 536870911)], [], HJ1) (.inl (some (.int 0)), HJ1) := by
  refine R_p d116_0 rfl rfl ?_
  refine R_p d116_1 rfl rfl ?_
  refine R_br 14 d116_2 (mb_t (b := ((f 1) < (-536870911))) h0) rfl ?_
  refine R_ic (v := 0) d116_14 (by decide) ?_
  exact R_iret d116_15 rfl rfl rfl
set_option maxRecDepth 4000 in
theorem w5 {f : Nat → Int32} (h0 : ((f 1) < (-536870911))) : Run (5, f) 115 (0, [(0, .int (f 1)), (1, .int (f 2))], [], HJ1) (.inl (some (.int 0)), HJ1) := by
  refine R_p d115_0 rfl rfl ?_
  refine R_ci (v := (-536870911)) 959 d115_1 (List.mem_of_getElem? (i := 4) rfl) ?_
  refine R_ci (v := 536870911) 960 d115_3 (List.mem_of_getElem? (i := 5) rfl) ?_
  refine R_cs [.int (f 1), .int (-536870911), .int 536870911] d115_5 (List.mem_of_getElem? (i := 163) rfl) rfl ⟨by decide, by decide, Nat.le_of_ble_eq_true rfl, rfl, mcd116⟩ rfl rfl (Nat.le_of_ble_eq_true rfl) (w4 (f := f) h0) ?_
  refine R_br 26 d115_8 (mb_t (b := ((0 : Int32) = (0 : Int32))) (by decide)) rfl ?_
  refine R_ic (v := 0) d115_26 (by decide) ?_
  exact R_iret d115_27 rfl rfl rfl
set_option maxRecDepth 4000 in
theorem w6 {f : Nat → Int32} : Run (5, f) 117 (0, [(0, .ref 42), (1, .int 1)], [], HJ1) (.inl (some (.int 1)), HJ2) := by
  refine R_p d117_0 rfl rfl ?_
  refine R_p d117_1 rfl rfl ?_
  refine R_put d117_2 (List.mem_of_getElem? (i := 48) rfl) rfl (by decide) rfl rfl (Or.inl rfl) ?_
  refine R_p d117_5 rfl rfl ?_
  refine R_nb d117_6 rfl (mb_f (b := ((1 : Int32) ≤ (0 : Int32))) (by decide)) ?_
  refine R_ic (v := 1) d117_9 (by decide) ?_
  refine R_br 14 d117_10 rfl rfl ?_
  exact R_iret d117_14 rfl rfl rfl
set_option maxRecDepth 4000 in
theorem w7 {f : Nat → Int32} (h0 : ((f 1) < (-536870911))) : Run (5, f) 114 (0, [(0, .ref 42), (1, .int (f 1)), (2, .int (f 2))], [], HJ1) (.inl (some (.int 0)), HJ2) := by
  refine R_p d114_0 rfl rfl ?_
  refine R_p d114_1 rfl rfl ?_
  refine R_p d114_2 rfl rfl ?_
  refine R_cs [.int (f 1), .int (f 2)] d114_3 (List.mem_of_getElem? (i := 162) rfl) rfl ⟨by decide, by decide, Nat.le_of_ble_eq_true rfl, rfl, mcd115⟩ rfl rfl (Nat.le_of_ble_eq_true rfl) (w5 (f := f) h0) ?_
  refine R_nb d114_6 rfl (mb_f (b := (¬ (0 : Int32) = (0 : Int32))) (fun q => q (by decide))) ?_
  refine R_ic (v := 1) d114_9 (by decide) ?_
  refine R_br 27 d114_10 rfl rfl ?_
  refine R_cm [.int 1] d114_27 (List.mem_of_getElem? (i := 164) rfl) rfl ⟨by decide, by decide, Nat.le_of_ble_eq_true rfl, rfl, mcd117⟩ rfl rfl (Nat.le_of_ble_eq_true rfl) rfl rfl (w6 (f := f)) ?_
  refine R_nb d114_30 rfl (mb_f (b := ((1 : Int32) = (0 : Int32))) (by decide)) ?_
  refine R_ic (v := 0) d114_33 (by decide) ?_
  exact R_iret d114_34 rfl rfl rfl
set_option maxRecDepth 4000 in
theorem w8 {f : Nat → Int32} : Run (5, f) 113 (0, [(0, .ref 42)], [], HJ2) (.inl (some (.int 1)), HJ2) := by
  refine R_p d113_0 rfl rfl ?_
  refine R_get d113_1 (Or.inl (List.mem_of_getElem? (i := 48) rfl)) rfl rfl ?_
  exact R_iret d113_4 rfl rfl rfl
set_option maxRecDepth 4000 in
theorem law108_9 {f : Nat → Int32} (h0 : ((f 1) < (-536870911))) : Run (5, f) 171 (108, [(0, .ref 0), (1, .ref 16), (2, .ref 42), (3, .ref 53), (4, .int 0)], [], HL0) (.inl (some (.int 1)), HJ2) := by
  refine R_p d171_108 rfl rfl ?_
  refine R_p d171_109 rfl rfl ?_
  refine R_p d171_110 rfl rfl ?_
  refine R_ic (v := 1) d171_112 (by decide) ?_
  refine R_p d171_113 rfl rfl ?_
  refine R_nv (v := _) (v' := 1) (by decide) ?_
  refine R_sldk (n := 1) (x := (f 1)) d171_114 (vp_ok (by decide)) (by decide) rfl ?_
  refine R_p d171_115 rfl rfl ?_
  refine R_p d171_116 rfl rfl ?_
  refine R_ic (v := 2) d171_118 (by decide) ?_
  refine R_p d171_119 rfl rfl ?_
  refine R_nv (v := _) (v' := 2) (by decide) ?_
  refine R_sldk (n := 2) (x := (f 2)) d171_120 (vp_ok (by decide)) (by decide) rfl ?_
  refine R_p d171_121 rfl rfl ?_
  refine R_hs [.ref 16, .int (f 1), .int (f 2), .ref 53] d171_122 (List.mem_of_getElem? (i := 28) rfl) ⟨by decide, by decide, Nat.le_of_ble_eq_true rfl, mcd157⟩ rfl rfl (Nat.le_of_ble_eq_true rfl) (w3 (f := f) h0) ?_
  refine R_p (ls' := [(0, .ref 0), (1, .ref 16), (2, .ref 42), (3, .ref 53), (4, .int 0), (5, .int 1)]) d171_125 rfl rfl ?_
  refine R_p d171_127 rfl rfl ?_
  refine R_p d171_128 rfl rfl ?_
  refine R_p d171_129 rfl rfl ?_
  refine R_ic (v := 1) d171_131 (by decide) ?_
  refine R_p d171_132 rfl rfl ?_
  refine R_nv (v := _) (v' := 1) (by decide) ?_
  refine R_sldk (n := 1) (x := (f 1)) d171_133 (vp_ok (by decide)) (by decide) rfl ?_
  refine R_p d171_134 rfl rfl ?_
  refine R_p d171_135 rfl rfl ?_
  refine R_ic (v := 2) d171_137 (by decide) ?_
  refine R_p d171_138 rfl rfl ?_
  refine R_nv (v := _) (v' := 2) (by decide) ?_
  refine R_sldk (n := 2) (x := (f 2)) d171_139 (vp_ok (by decide)) (by decide) rfl ?_
  refine R_cm [.int (f 1), .int (f 2)] d171_140 (List.mem_of_getElem? (i := 161) rfl) rfl ⟨by decide, by decide, Nat.le_of_ble_eq_true rfl, rfl, mcd114⟩ rfl rfl (Nat.le_of_ble_eq_true rfl) rfl rfl (w7 (f := f) h0) ?_
  refine R_p (ls' := [(0, .ref 0), (1, .ref 16), (2, .ref 42), (3, .ref 53), (4, .int 0), (5, .int 1), (6, .int 0)]) d171_143 rfl rfl ?_
  refine R_p d171_145 rfl rfl ?_
  refine R_cm [] d171_146 (List.mem_of_getElem? (i := 160) rfl) rfl ⟨by decide, by decide, Nat.le_of_ble_eq_true rfl, rfl, mcd113⟩ rfl rfl (Nat.le_of_ble_eq_true rfl) rfl rfl (w8 (f := f)) ?_
  refine R_p d171_149 rfl rfl ?_
  refine R_br 156 d171_151 (mb_t (b := ((1 : Int32) = (1 : Int32))) (by decide)) rfl ?_
  refine R_p d171_156 rfl rfl ?_
  refine R_br 173 d171_158 (mb_t (b := (¬ (1 : Int32) = (0 : Int32))) (by decide)) rfl ?_
  refine R_br 950 d171_173 rfl rfl ?_
  refine R_p (ls' := [(0, .ref 0), (1, .ref 16), (2, .ref 42), (3, .ref 53), (4, .int 5), (5, .int 1), (6, .int 0)]) d171_950 rfl rfl ?_
  refine R_br 23 d171_953 rfl rfl ?_
  refine R_p d171_23 rfl rfl ?_
  refine R_p d171_25 rfl rfl ?_
  refine R_sln d171_26 ?_
  refine R_nv (v := _) (v' := 5) (show Int32.ofNat 5 = 5 from by decide) ?_
  refine R_ic (v := 5) d171_27 (by decide) ?_
  refine R_p d171_28 rfl rfl ?_
  refine R_nv (v := _) (v' := 0) (by decide) ?_
  refine R_br 956 d171_29 (mb_t (b := ((0 : Int32) < (5 : Int32))) (by decide)) rfl ?_
  refine R_ic (v := 1) d171_956 (by decide) ?_
  exact R_iret d171_957 rfl rfl rfl
set_option maxRecDepth 4000 in
theorem w10 {f : Nat → Int32} (h0 : ¬ ((f 1) < (-536870911))) (h1 : (536870911 < (f 1))) : RunsP 97 (0, [(0, .ref 16), (1, .int (f 1)), (2, .int (f 2))], [], HL0) (.inr 54, HJ1) := by
  refine Q_p d97_0 rfl rfl ?_
  refine Q_ci (v := (-536870911)) 369 d97_1 (List.mem_of_getElem? (i := 0) rfl) ?_
  refine Q_nb d97_3 rfl (mb_f (b := ((f 1) < (-536870911))) h0) ?_
  refine Q_p d97_6 rfl rfl ?_
  refine Q_ci (v := 536870911) 370 d97_7 (List.mem_of_getElem? (i := 1) rfl) ?_
  refine Q_br 24 d97_9 (mb_t (b := (536870911 < (f 1))) h1) rfl ?_
  exact Q_thr 1 d97_24 d97_27 d97_28 d97_30 d97_33 rfl (List.mem_of_getElem? (i := 2) rfl) rfl (by decide) (by decide)
set_option maxRecDepth 4000 in
theorem w11 {f : Nat → Int32} (h0 : ¬ ((f 1) < (-536870911))) (h1 : (536870911 < (f 1))) : Run (5, f) 96 (0, [(0, .ref 16), (1, .int (f 1)), (2, .int (f 2))], [], HL0) (.inr 54, HJ1) := by
  refine R_p d96_0 rfl rfl ?_
  refine R_p d96_1 rfl rfl ?_
  refine R_p d96_2 rfl rfl ?_
  exact R_tv [.int (f 1), .int (f 2)] d96_3 (List.mem_of_getElem? (i := 30) rfl) ⟨by decide, by decide, Nat.le_of_ble_eq_true rfl, mcd97⟩ rfl rfl (Nat.le_of_ble_eq_true rfl) rfl rfl rfl (Or.inr (w10 (f := f) h0 h1))
set_option maxRecDepth 4000 in
theorem w12 {f : Nat → Int32} (h0 : ¬ ((f 1) < (-536870911))) (h1 : (536870911 < (f 1))) : Run (5, f) 157 (0, [(0, .ref 16), (1, .int (f 1)), (2, .int (f 2)), (3, .ref 53)], [], HL0) (.inl (some (.int 1)), HJ1) := by
  refine R_p d157_0 rfl rfl ?_
  refine R_ic (v := 0) d157_1 (by decide) ?_
  refine R_p d157_2 rfl rfl ?_
  refine R_p d157_3 rfl rfl ?_
  refine R_p d157_4 rfl rfl ?_
  refine R_tc [.int (f 1), .int (f 2)] d157_5 (List.mem_of_getElem? (i := 29) rfl) ⟨by decide, by decide, Nat.le_of_ble_eq_true rfl, mcd96⟩ rfl rfl (Nat.le_of_ble_eq_true rfl) rfl rfl rfl (cx := 10) (hp := 13) rfl (by decide) (by decide) (by decide) (Or.inl (w11 (f := f) h0 h1)) ?_
  refine R_p (ls' := [(0, .ref 16), (1, .int (f 1)), (2, .int (f 2)), (3, .ref 53), (4, .ref 54)]) d157_13 rfl rfl ?_
  refine R_ic (v := 1) d157_15 (by decide) ?_
  exact R_iret d157_16 rfl rfl rfl
set_option maxRecDepth 4000 in
theorem w13 {f : Nat → Int32} (h0 : ¬ ((f 1) < (-536870911))) (h1 : (536870911 < (f 1))) : Run (5, f) 116 (0, [(0, .int (f 1)), (1, .int (-536870911)), (2, .int 536870911)], [], HJ1) (.inl (some (.int 0)), HJ1) := by
  refine R_p d116_0 rfl rfl ?_
  refine R_p d116_1 rfl rfl ?_
  refine R_nb d116_2 rfl (mb_f (b := ((f 1) < (-536870911))) h0) ?_
  refine R_p d116_5 rfl rfl ?_
  refine R_p d116_6 rfl rfl ?_
  refine R_br 14 d116_7 (mb_t (b := (536870911 < (f 1))) h1) rfl ?_
  refine R_ic (v := 0) d116_14 (by decide) ?_
  exact R_iret d116_15 rfl rfl rfl
set_option maxRecDepth 4000 in
theorem w14 {f : Nat → Int32} (h0 : ¬ ((f 1) < (-536870911))) (h1 : (536870911 < (f 1))) : Run (5, f) 115 (0, [(0, .int (f 1)), (1, .int (f 2))], [], HJ1) (.inl (some (.int 0)), HJ1) := by
  refine R_p d115_0 rfl rfl ?_
  refine R_ci (v := (-536870911)) 959 d115_1 (List.mem_of_getElem? (i := 4) rfl) ?_
  refine R_ci (v := 536870911) 960 d115_3 (List.mem_of_getElem? (i := 5) rfl) ?_
  refine R_cs [.int (f 1), .int (-536870911), .int 536870911] d115_5 (List.mem_of_getElem? (i := 163) rfl) rfl ⟨by decide, by decide, Nat.le_of_ble_eq_true rfl, rfl, mcd116⟩ rfl rfl (Nat.le_of_ble_eq_true rfl) (w13 (f := f) h0 h1) ?_
  refine R_br 26 d115_8 (mb_t (b := ((0 : Int32) = (0 : Int32))) (by decide)) rfl ?_
  refine R_ic (v := 0) d115_26 (by decide) ?_
  exact R_iret d115_27 rfl rfl rfl
set_option maxRecDepth 4000 in
theorem w15 {f : Nat → Int32} (h0 : ¬ ((f 1) < (-536870911))) (h1 : (536870911 < (f 1))) : Run (5, f) 114 (0, [(0, .ref 42), (1, .int (f 1)), (2, .int (f 2))], [], HJ1) (.inl (some (.int 0)), HJ2) := by
  refine R_p d114_0 rfl rfl ?_
  refine R_p d114_1 rfl rfl ?_
  refine R_p d114_2 rfl rfl ?_
  refine R_cs [.int (f 1), .int (f 2)] d114_3 (List.mem_of_getElem? (i := 162) rfl) rfl ⟨by decide, by decide, Nat.le_of_ble_eq_true rfl, rfl, mcd115⟩ rfl rfl (Nat.le_of_ble_eq_true rfl) (w14 (f := f) h0 h1) ?_
  refine R_nb d114_6 rfl (mb_f (b := (¬ (0 : Int32) = (0 : Int32))) (fun q => q (by decide))) ?_
  refine R_ic (v := 1) d114_9 (by decide) ?_
  refine R_br 27 d114_10 rfl rfl ?_
  refine R_cm [.int 1] d114_27 (List.mem_of_getElem? (i := 164) rfl) rfl ⟨by decide, by decide, Nat.le_of_ble_eq_true rfl, rfl, mcd117⟩ rfl rfl (Nat.le_of_ble_eq_true rfl) rfl rfl (w6 (f := f)) ?_
  refine R_nb d114_30 rfl (mb_f (b := ((1 : Int32) = (0 : Int32))) (by decide)) ?_
  refine R_ic (v := 0) d114_33 (by decide) ?_
  exact R_iret d114_34 rfl rfl rfl
set_option maxRecDepth 4000 in
theorem law108_16 {f : Nat → Int32} (h0 : ¬ ((f 1) < (-536870911))) (h1 : (536870911 < (f 1))) : Run (5, f) 171 (108, [(0, .ref 0), (1, .ref 16), (2, .ref 42), (3, .ref 53), (4, .int 0)], [], HL0) (.inl (some (.int 1)), HJ2) := by
  refine R_p d171_108 rfl rfl ?_
  refine R_p d171_109 rfl rfl ?_
  refine R_p d171_110 rfl rfl ?_
  refine R_ic (v := 1) d171_112 (by decide) ?_
  refine R_p d171_113 rfl rfl ?_
  refine R_nv (v := _) (v' := 1) (by decide) ?_
  refine R_sldk (n := 1) (x := (f 1)) d171_114 (vp_ok (by decide)) (by decide) rfl ?_
  refine R_p d171_115 rfl rfl ?_
  refine R_p d171_116 rfl rfl ?_
  refine R_ic (v := 2) d171_118 (by decide) ?_
  refine R_p d171_119 rfl rfl ?_
  refine R_nv (v := _) (v' := 2) (by decide) ?_
  refine R_sldk (n := 2) (x := (f 2)) d171_120 (vp_ok (by decide)) (by decide) rfl ?_
  refine R_p d171_121 rfl rfl ?_
  refine R_hs [.ref 16, .int (f 1), .int (f 2), .ref 53] d171_122 (List.mem_of_getElem? (i := 28) rfl) ⟨by decide, by decide, Nat.le_of_ble_eq_true rfl, mcd157⟩ rfl rfl (Nat.le_of_ble_eq_true rfl) (w12 (f := f) h0 h1) ?_
  refine R_p (ls' := [(0, .ref 0), (1, .ref 16), (2, .ref 42), (3, .ref 53), (4, .int 0), (5, .int 1)]) d171_125 rfl rfl ?_
  refine R_p d171_127 rfl rfl ?_
  refine R_p d171_128 rfl rfl ?_
  refine R_p d171_129 rfl rfl ?_
  refine R_ic (v := 1) d171_131 (by decide) ?_
  refine R_p d171_132 rfl rfl ?_
  refine R_nv (v := _) (v' := 1) (by decide) ?_
  refine R_sldk (n := 1) (x := (f 1)) d171_133 (vp_ok (by decide)) (by decide) rfl ?_
  refine R_p d171_134 rfl rfl ?_
  refine R_p d171_135 rfl rfl ?_
  refine R_ic (v := 2) d171_137 (by decide) ?_
  refine R_p d171_138 rfl rfl ?_
  refine R_nv (v := _) (v' := 2) (by decide) ?_
  refine R_sldk (n := 2) (x := (f 2)) d171_139 (vp_ok (by decide)) (by decide) rfl ?_
  refine R_cm [.int (f 1), .int (f 2)] d171_140 (List.mem_of_getElem? (i := 161) rfl) rfl ⟨by decide, by decide, Nat.le_of_ble_eq_true rfl, rfl, mcd114⟩ rfl rfl (Nat.le_of_ble_eq_true rfl) rfl rfl (w15 (f := f) h0 h1) ?_
  refine R_p (ls' := [(0, .ref 0), (1, .ref 16), (2, .ref 42), (3, .ref 53), (4, .int 0), (5, .int 1), (6, .int 0)]) d171_143 rfl rfl ?_
  refine R_p d171_145 rfl rfl ?_
  refine R_cm [] d171_146 (List.mem_of_getElem? (i := 160) rfl) rfl ⟨by decide, by decide, Nat.le_of_ble_eq_true rfl, rfl, mcd113⟩ rfl rfl (Nat.le_of_ble_eq_true rfl) rfl rfl (w8 (f := f)) ?_
  refine R_p d171_149 rfl rfl ?_
  refine R_br 156 d171_151 (mb_t (b := ((1 : Int32) = (1 : Int32))) (by decide)) rfl ?_
  refine R_p d171_156 rfl rfl ?_
  refine R_br 173 d171_158 (mb_t (b := (¬ (1 : Int32) = (0 : Int32))) (by decide)) rfl ?_
  refine R_br 950 d171_173 rfl rfl ?_
  refine R_p (ls' := [(0, .ref 0), (1, .ref 16), (2, .ref 42), (3, .ref 53), (4, .int 5), (5, .int 1), (6, .int 0)]) d171_950 rfl rfl ?_
  refine R_br 23 d171_953 rfl rfl ?_
  refine R_p d171_23 rfl rfl ?_
  refine R_p d171_25 rfl rfl ?_
  refine R_sln d171_26 ?_
  refine R_nv (v := _) (v' := 5) (show Int32.ofNat 5 = 5 from by decide) ?_
  refine R_ic (v := 5) d171_27 (by decide) ?_
  refine R_p d171_28 rfl rfl ?_
  refine R_nv (v := _) (v' := 0) (by decide) ?_
  refine R_br 956 d171_29 (mb_t (b := ((0 : Int32) < (5 : Int32))) (by decide)) rfl ?_
  refine R_ic (v := 1) d171_956 (by decide) ?_
  exact R_iret d171_957 rfl rfl rfl
set_option maxRecDepth 4000 in
theorem w17 {f : Nat → Int32} (h0 : ¬ ((f 1) < (-536870911))) (h1 : ¬ (536870911 < (f 1))) (h2 : ((f 2) < (-536870911))) : RunsP 97 (0, [(0, .ref 16), (1, .int (f 1)), (2, .int (f 2))], [], HL0) (.inr 54, HJ1) := by
  refine Q_p d97_0 rfl rfl ?_
  refine Q_ci (v := (-536870911)) 369 d97_1 (List.mem_of_getElem? (i := 0) rfl) ?_
  refine Q_nb d97_3 rfl (mb_f (b := ((f 1) < (-536870911))) h0) ?_
  refine Q_p d97_6 rfl rfl ?_
  refine Q_ci (v := 536870911) 370 d97_7 (List.mem_of_getElem? (i := 1) rfl) ?_
  refine Q_nb d97_9 rfl (mb_f (b := (536870911 < (f 1))) h1) ?_
  refine Q_p d97_12 rfl rfl ?_
  refine Q_ci (v := (-536870911)) 369 d97_13 (List.mem_of_getElem? (i := 0) rfl) ?_
  refine Q_br 24 d97_15 (mb_t (b := ((f 2) < (-536870911))) h2) rfl ?_
  exact Q_thr 1 d97_24 d97_27 d97_28 d97_30 d97_33 rfl (List.mem_of_getElem? (i := 2) rfl) rfl (by decide) (by decide)
set_option maxRecDepth 4000 in
theorem w18 {f : Nat → Int32} (h0 : ¬ ((f 1) < (-536870911))) (h1 : ¬ (536870911 < (f 1))) (h2 : ((f 2) < (-536870911))) : Run (5, f) 96 (0, [(0, .ref 16), (1, .int (f 1)), (2, .int (f 2))], [], HL0) (.inr 54, HJ1) := by
  refine R_p d96_0 rfl rfl ?_
  refine R_p d96_1 rfl rfl ?_
  refine R_p d96_2 rfl rfl ?_
  exact R_tv [.int (f 1), .int (f 2)] d96_3 (List.mem_of_getElem? (i := 30) rfl) ⟨by decide, by decide, Nat.le_of_ble_eq_true rfl, mcd97⟩ rfl rfl (Nat.le_of_ble_eq_true rfl) rfl rfl rfl (Or.inr (w17 (f := f) h0 h1 h2))
set_option maxRecDepth 4000 in
theorem w19 {f : Nat → Int32} (h0 : ¬ ((f 1) < (-536870911))) (h1 : ¬ (536870911 < (f 1))) (h2 : ((f 2) < (-536870911))) : Run (5, f) 157 (0, [(0, .ref 16), (1, .int (f 1)), (2, .int (f 2)), (3, .ref 53)], [], HL0) (.inl (some (.int 1)), HJ1) := by
  refine R_p d157_0 rfl rfl ?_
  refine R_ic (v := 0) d157_1 (by decide) ?_
  refine R_p d157_2 rfl rfl ?_
  refine R_p d157_3 rfl rfl ?_
  refine R_p d157_4 rfl rfl ?_
  refine R_tc [.int (f 1), .int (f 2)] d157_5 (List.mem_of_getElem? (i := 29) rfl) ⟨by decide, by decide, Nat.le_of_ble_eq_true rfl, mcd96⟩ rfl rfl (Nat.le_of_ble_eq_true rfl) rfl rfl rfl (cx := 10) (hp := 13) rfl (by decide) (by decide) (by decide) (Or.inl (w18 (f := f) h0 h1 h2)) ?_
  refine R_p (ls' := [(0, .ref 16), (1, .int (f 1)), (2, .int (f 2)), (3, .ref 53), (4, .ref 54)]) d157_13 rfl rfl ?_
  refine R_ic (v := 1) d157_15 (by decide) ?_
  exact R_iret d157_16 rfl rfl rfl
set_option maxRecDepth 4000 in
theorem w20 {f : Nat → Int32} (h0 : ¬ ((f 1) < (-536870911))) (h1 : ¬ (536870911 < (f 1))) : Run (5, f) 116 (0, [(0, .int (f 1)), (1, .int (-536870911)), (2, .int 536870911)], [], HJ1) (.inl (some (.int 1)), HJ1) := by
  refine R_p d116_0 rfl rfl ?_
  refine R_p d116_1 rfl rfl ?_
  refine R_nb d116_2 rfl (mb_f (b := ((f 1) < (-536870911))) h0) ?_
  refine R_p d116_5 rfl rfl ?_
  refine R_p d116_6 rfl rfl ?_
  refine R_nb d116_7 rfl (mb_f (b := (536870911 < (f 1))) h1) ?_
  refine R_ic (v := 1) d116_10 (by decide) ?_
  refine R_br 15 d116_11 rfl rfl ?_
  exact R_iret d116_15 rfl rfl rfl
set_option maxRecDepth 4000 in
theorem w21 {f : Nat → Int32} (h2 : ((f 2) < (-536870911))) : Run (5, f) 116 (0, [(0, .int (f 2)), (1, .int (-536870911)), (2, .int 536870911)], [], HJ1) (.inl (some (.int 0)), HJ1) := by
  refine R_p d116_0 rfl rfl ?_
  refine R_p d116_1 rfl rfl ?_
  refine R_br 14 d116_2 (mb_t (b := ((f 2) < (-536870911))) h2) rfl ?_
  refine R_ic (v := 0) d116_14 (by decide) ?_
  exact R_iret d116_15 rfl rfl rfl
set_option maxRecDepth 4000 in
theorem w22 {f : Nat → Int32} (h0 : ¬ ((f 1) < (-536870911))) (h1 : ¬ (536870911 < (f 1))) (h2 : ((f 2) < (-536870911))) : Run (5, f) 115 (0, [(0, .int (f 1)), (1, .int (f 2))], [], HJ1) (.inl (some (.int 0)), HJ1) := by
  refine R_p d115_0 rfl rfl ?_
  refine R_ci (v := (-536870911)) 959 d115_1 (List.mem_of_getElem? (i := 4) rfl) ?_
  refine R_ci (v := 536870911) 960 d115_3 (List.mem_of_getElem? (i := 5) rfl) ?_
  refine R_cs [.int (f 1), .int (-536870911), .int 536870911] d115_5 (List.mem_of_getElem? (i := 163) rfl) rfl ⟨by decide, by decide, Nat.le_of_ble_eq_true rfl, rfl, mcd116⟩ rfl rfl (Nat.le_of_ble_eq_true rfl) (w20 (f := f) h0 h1) ?_
  refine R_nb d115_8 rfl (mb_f (b := ((1 : Int32) = (0 : Int32))) (by decide)) ?_
  refine R_p d115_11 rfl rfl ?_
  refine R_ci (v := (-536870911)) 959 d115_12 (List.mem_of_getElem? (i := 4) rfl) ?_
  refine R_ci (v := 536870911) 960 d115_14 (List.mem_of_getElem? (i := 5) rfl) ?_
  refine R_cs [.int (f 2), .int (-536870911), .int 536870911] d115_16 (List.mem_of_getElem? (i := 163) rfl) rfl ⟨by decide, by decide, Nat.le_of_ble_eq_true rfl, rfl, mcd116⟩ rfl rfl (Nat.le_of_ble_eq_true rfl) (w21 (f := f) h2) ?_
  refine R_br 26 d115_19 (mb_t (b := ((0 : Int32) = (0 : Int32))) (by decide)) rfl ?_
  refine R_ic (v := 0) d115_26 (by decide) ?_
  exact R_iret d115_27 rfl rfl rfl
set_option maxRecDepth 4000 in
theorem w23 {f : Nat → Int32} (h0 : ¬ ((f 1) < (-536870911))) (h1 : ¬ (536870911 < (f 1))) (h2 : ((f 2) < (-536870911))) : Run (5, f) 114 (0, [(0, .ref 42), (1, .int (f 1)), (2, .int (f 2))], [], HJ1) (.inl (some (.int 0)), HJ2) := by
  refine R_p d114_0 rfl rfl ?_
  refine R_p d114_1 rfl rfl ?_
  refine R_p d114_2 rfl rfl ?_
  refine R_cs [.int (f 1), .int (f 2)] d114_3 (List.mem_of_getElem? (i := 162) rfl) rfl ⟨by decide, by decide, Nat.le_of_ble_eq_true rfl, rfl, mcd115⟩ rfl rfl (Nat.le_of_ble_eq_true rfl) (w22 (f := f) h0 h1 h2) ?_
  refine R_nb d114_6 rfl (mb_f (b := (¬ (0 : Int32) = (0 : Int32))) (fun q => q (by decide))) ?_
  refine R_ic (v := 1) d114_9 (by decide) ?_
  refine R_br 27 d114_10 rfl rfl ?_
  refine R_cm [.int 1] d114_27 (List.mem_of_getElem? (i := 164) rfl) rfl ⟨by decide, by decide, Nat.le_of_ble_eq_true rfl, rfl, mcd117⟩ rfl rfl (Nat.le_of_ble_eq_true rfl) rfl rfl (w6 (f := f)) ?_
  refine R_nb d114_30 rfl (mb_f (b := ((1 : Int32) = (0 : Int32))) (by decide)) ?_
  refine R_ic (v := 0) d114_33 (by decide) ?_
  exact R_iret d114_34 rfl rfl rfl
set_option maxRecDepth 4000 in
theorem law108_24 {f : Nat → Int32} (h0 : ¬ ((f 1) < (-536870911))) (h1 : ¬ (536870911 < (f 1))) (h2 : ((f 2) < (-536870911))) : Run (5, f) 171 (108, [(0, .ref 0), (1, .ref 16), (2, .ref 42), (3, .ref 53), (4, .int 0)], [], HL0) (.inl (some (.int 1)), HJ2) := by
  refine R_p d171_108 rfl rfl ?_
  refine R_p d171_109 rfl rfl ?_
  refine R_p d171_110 rfl rfl ?_
  refine R_ic (v := 1) d171_112 (by decide) ?_
  refine R_p d171_113 rfl rfl ?_
  refine R_nv (v := _) (v' := 1) (by decide) ?_
  refine R_sldk (n := 1) (x := (f 1)) d171_114 (vp_ok (by decide)) (by decide) rfl ?_
  refine R_p d171_115 rfl rfl ?_
  refine R_p d171_116 rfl rfl ?_
  refine R_ic (v := 2) d171_118 (by decide) ?_
  refine R_p d171_119 rfl rfl ?_
  refine R_nv (v := _) (v' := 2) (by decide) ?_
  refine R_sldk (n := 2) (x := (f 2)) d171_120 (vp_ok (by decide)) (by decide) rfl ?_
  refine R_p d171_121 rfl rfl ?_
  refine R_hs [.ref 16, .int (f 1), .int (f 2), .ref 53] d171_122 (List.mem_of_getElem? (i := 28) rfl) ⟨by decide, by decide, Nat.le_of_ble_eq_true rfl, mcd157⟩ rfl rfl (Nat.le_of_ble_eq_true rfl) (w19 (f := f) h0 h1 h2) ?_
  refine R_p (ls' := [(0, .ref 0), (1, .ref 16), (2, .ref 42), (3, .ref 53), (4, .int 0), (5, .int 1)]) d171_125 rfl rfl ?_
  refine R_p d171_127 rfl rfl ?_
  refine R_p d171_128 rfl rfl ?_
  refine R_p d171_129 rfl rfl ?_
  refine R_ic (v := 1) d171_131 (by decide) ?_
  refine R_p d171_132 rfl rfl ?_
  refine R_nv (v := _) (v' := 1) (by decide) ?_
  refine R_sldk (n := 1) (x := (f 1)) d171_133 (vp_ok (by decide)) (by decide) rfl ?_
  refine R_p d171_134 rfl rfl ?_
  refine R_p d171_135 rfl rfl ?_
  refine R_ic (v := 2) d171_137 (by decide) ?_
  refine R_p d171_138 rfl rfl ?_
  refine R_nv (v := _) (v' := 2) (by decide) ?_
  refine R_sldk (n := 2) (x := (f 2)) d171_139 (vp_ok (by decide)) (by decide) rfl ?_
  refine R_cm [.int (f 1), .int (f 2)] d171_140 (List.mem_of_getElem? (i := 161) rfl) rfl ⟨by decide, by decide, Nat.le_of_ble_eq_true rfl, rfl, mcd114⟩ rfl rfl (Nat.le_of_ble_eq_true rfl) rfl rfl (w23 (f := f) h0 h1 h2) ?_
  refine R_p (ls' := [(0, .ref 0), (1, .ref 16), (2, .ref 42), (3, .ref 53), (4, .int 0), (5, .int 1), (6, .int 0)]) d171_143 rfl rfl ?_
  refine R_p d171_145 rfl rfl ?_
  refine R_cm [] d171_146 (List.mem_of_getElem? (i := 160) rfl) rfl ⟨by decide, by decide, Nat.le_of_ble_eq_true rfl, rfl, mcd113⟩ rfl rfl (Nat.le_of_ble_eq_true rfl) rfl rfl (w8 (f := f)) ?_
  refine R_p d171_149 rfl rfl ?_
  refine R_br 156 d171_151 (mb_t (b := ((1 : Int32) = (1 : Int32))) (by decide)) rfl ?_
  refine R_p d171_156 rfl rfl ?_
  refine R_br 173 d171_158 (mb_t (b := (¬ (1 : Int32) = (0 : Int32))) (by decide)) rfl ?_
  refine R_br 950 d171_173 rfl rfl ?_
  refine R_p (ls' := [(0, .ref 0), (1, .ref 16), (2, .ref 42), (3, .ref 53), (4, .int 5), (5, .int 1), (6, .int 0)]) d171_950 rfl rfl ?_
  refine R_br 23 d171_953 rfl rfl ?_
  refine R_p d171_23 rfl rfl ?_
  refine R_p d171_25 rfl rfl ?_
  refine R_sln d171_26 ?_
  refine R_nv (v := _) (v' := 5) (show Int32.ofNat 5 = 5 from by decide) ?_
  refine R_ic (v := 5) d171_27 (by decide) ?_
  refine R_p d171_28 rfl rfl ?_
  refine R_nv (v := _) (v' := 0) (by decide) ?_
  refine R_br 956 d171_29 (mb_t (b := ((0 : Int32) < (5 : Int32))) (by decide)) rfl ?_
  refine R_ic (v := 1) d171_956 (by decide) ?_
  exact R_iret d171_957 rfl rfl rfl
set_option maxRecDepth 4000 in
theorem w25 {f : Nat → Int32} (h0 : ¬ ((f 1) < (-536870911))) (h1 : ¬ (536870911 < (f 1))) (h2 : ¬ ((f 2) < (-536870911))) (h3 : (536870911 < (f 2))) : RunsP 97 (0, [(0, .ref 16), (1, .int (f 1)), (2, .int (f 2))], [], HL0) (.inr 54, HJ1) := by
  refine Q_p d97_0 rfl rfl ?_
  refine Q_ci (v := (-536870911)) 369 d97_1 (List.mem_of_getElem? (i := 0) rfl) ?_
  refine Q_nb d97_3 rfl (mb_f (b := ((f 1) < (-536870911))) h0) ?_
  refine Q_p d97_6 rfl rfl ?_
  refine Q_ci (v := 536870911) 370 d97_7 (List.mem_of_getElem? (i := 1) rfl) ?_
  refine Q_nb d97_9 rfl (mb_f (b := (536870911 < (f 1))) h1) ?_
  refine Q_p d97_12 rfl rfl ?_
  refine Q_ci (v := (-536870911)) 369 d97_13 (List.mem_of_getElem? (i := 0) rfl) ?_
  refine Q_nb d97_15 rfl (mb_f (b := ((f 2) < (-536870911))) h2) ?_
  refine Q_p d97_18 rfl rfl ?_
  refine Q_ci (v := 536870911) 370 d97_19 (List.mem_of_getElem? (i := 1) rfl) ?_
  refine Q_nb d97_21 rfl (mb_f (b := ((f 2) ≤ 536870911)) (fun q => Int32.not_lt.mpr q h3)) ?_
  exact Q_thr 1 d97_24 d97_27 d97_28 d97_30 d97_33 rfl (List.mem_of_getElem? (i := 2) rfl) rfl (by decide) (by decide)
set_option maxRecDepth 4000 in
theorem w26 {f : Nat → Int32} (h0 : ¬ ((f 1) < (-536870911))) (h1 : ¬ (536870911 < (f 1))) (h2 : ¬ ((f 2) < (-536870911))) (h3 : (536870911 < (f 2))) : Run (5, f) 96 (0, [(0, .ref 16), (1, .int (f 1)), (2, .int (f 2))], [], HL0) (.inr 54, HJ1) := by
  refine R_p d96_0 rfl rfl ?_
  refine R_p d96_1 rfl rfl ?_
  refine R_p d96_2 rfl rfl ?_
  exact R_tv [.int (f 1), .int (f 2)] d96_3 (List.mem_of_getElem? (i := 30) rfl) ⟨by decide, by decide, Nat.le_of_ble_eq_true rfl, mcd97⟩ rfl rfl (Nat.le_of_ble_eq_true rfl) rfl rfl rfl (Or.inr (w25 (f := f) h0 h1 h2 h3))
set_option maxRecDepth 4000 in
theorem w27 {f : Nat → Int32} (h0 : ¬ ((f 1) < (-536870911))) (h1 : ¬ (536870911 < (f 1))) (h2 : ¬ ((f 2) < (-536870911))) (h3 : (536870911 < (f 2))) : Run (5, f) 157 (0, [(0, .ref 16), (1, .int (f 1)), (2, .int (f 2)), (3, .ref 53)], [], HL0) (.inl (some (.int 1)), HJ1) := by
  refine R_p d157_0 rfl rfl ?_
  refine R_ic (v := 0) d157_1 (by decide) ?_
  refine R_p d157_2 rfl rfl ?_
  refine R_p d157_3 rfl rfl ?_
  refine R_p d157_4 rfl rfl ?_
  refine R_tc [.int (f 1), .int (f 2)] d157_5 (List.mem_of_getElem? (i := 29) rfl) ⟨by decide, by decide, Nat.le_of_ble_eq_true rfl, mcd96⟩ rfl rfl (Nat.le_of_ble_eq_true rfl) rfl rfl rfl (cx := 10) (hp := 13) rfl (by decide) (by decide) (by decide) (Or.inl (w26 (f := f) h0 h1 h2 h3)) ?_
  refine R_p (ls' := [(0, .ref 16), (1, .int (f 1)), (2, .int (f 2)), (3, .ref 53), (4, .ref 54)]) d157_13 rfl rfl ?_
  refine R_ic (v := 1) d157_15 (by decide) ?_
  exact R_iret d157_16 rfl rfl rfl
set_option maxRecDepth 4000 in
theorem w28 {f : Nat → Int32} (h2 : ¬ ((f 2) < (-536870911))) (h3 : (536870911 < (f 2))) : Run (5, f) 116 (0, [(0, .int (f 2)), (1, .int (-536870911)), (2, .int 536870911)], [], HJ1) (.inl (some (.int 0)), HJ1) := by
  refine R_p d116_0 rfl rfl ?_
  refine R_p d116_1 rfl rfl ?_
  refine R_nb d116_2 rfl (mb_f (b := ((f 2) < (-536870911))) h2) ?_
  refine R_p d116_5 rfl rfl ?_
  refine R_p d116_6 rfl rfl ?_
  refine R_br 14 d116_7 (mb_t (b := (536870911 < (f 2))) h3) rfl ?_
  refine R_ic (v := 0) d116_14 (by decide) ?_
  exact R_iret d116_15 rfl rfl rfl
set_option maxRecDepth 4000 in
theorem w29 {f : Nat → Int32} (h0 : ¬ ((f 1) < (-536870911))) (h1 : ¬ (536870911 < (f 1))) (h2 : ¬ ((f 2) < (-536870911))) (h3 : (536870911 < (f 2))) : Run (5, f) 115 (0, [(0, .int (f 1)), (1, .int (f 2))], [], HJ1) (.inl (some (.int 0)), HJ1) := by
  refine R_p d115_0 rfl rfl ?_
  refine R_ci (v := (-536870911)) 959 d115_1 (List.mem_of_getElem? (i := 4) rfl) ?_
  refine R_ci (v := 536870911) 960 d115_3 (List.mem_of_getElem? (i := 5) rfl) ?_
  refine R_cs [.int (f 1), .int (-536870911), .int 536870911] d115_5 (List.mem_of_getElem? (i := 163) rfl) rfl ⟨by decide, by decide, Nat.le_of_ble_eq_true rfl, rfl, mcd116⟩ rfl rfl (Nat.le_of_ble_eq_true rfl) (w20 (f := f) h0 h1) ?_
  refine R_nb d115_8 rfl (mb_f (b := ((1 : Int32) = (0 : Int32))) (by decide)) ?_
  refine R_p d115_11 rfl rfl ?_
  refine R_ci (v := (-536870911)) 959 d115_12 (List.mem_of_getElem? (i := 4) rfl) ?_
  refine R_ci (v := 536870911) 960 d115_14 (List.mem_of_getElem? (i := 5) rfl) ?_
  refine R_cs [.int (f 2), .int (-536870911), .int 536870911] d115_16 (List.mem_of_getElem? (i := 163) rfl) rfl ⟨by decide, by decide, Nat.le_of_ble_eq_true rfl, rfl, mcd116⟩ rfl rfl (Nat.le_of_ble_eq_true rfl) (w28 (f := f) h2 h3) ?_
  refine R_br 26 d115_19 (mb_t (b := ((0 : Int32) = (0 : Int32))) (by decide)) rfl ?_
  refine R_ic (v := 0) d115_26 (by decide) ?_
  exact R_iret d115_27 rfl rfl rfl
set_option maxRecDepth 4000 in
theorem w30 {f : Nat → Int32} (h0 : ¬ ((f 1) < (-536870911))) (h1 : ¬ (536870911 < (f 1))) (h2 : ¬ ((f 2) < (-536870911))) (h3 : (536870911 < (f 2))) : Run (5, f) 114 (0, [(0, .ref 42), (1, .int (f 1)), (2, .int (f 2))], [], HJ1) (.inl (some (.int 0)), HJ2) := by
  refine R_p d114_0 rfl rfl ?_
  refine R_p d114_1 rfl rfl ?_
  refine R_p d114_2 rfl rfl ?_
  refine R_cs [.int (f 1), .int (f 2)] d114_3 (List.mem_of_getElem? (i := 162) rfl) rfl ⟨by decide, by decide, Nat.le_of_ble_eq_true rfl, rfl, mcd115⟩ rfl rfl (Nat.le_of_ble_eq_true rfl) (w29 (f := f) h0 h1 h2 h3) ?_
  refine R_nb d114_6 rfl (mb_f (b := (¬ (0 : Int32) = (0 : Int32))) (fun q => q (by decide))) ?_
  refine R_ic (v := 1) d114_9 (by decide) ?_
  refine R_br 27 d114_10 rfl rfl ?_
  refine R_cm [.int 1] d114_27 (List.mem_of_getElem? (i := 164) rfl) rfl ⟨by decide, by decide, Nat.le_of_ble_eq_true rfl, rfl, mcd117⟩ rfl rfl (Nat.le_of_ble_eq_true rfl) rfl rfl (w6 (f := f)) ?_
  refine R_nb d114_30 rfl (mb_f (b := ((1 : Int32) = (0 : Int32))) (by decide)) ?_
  refine R_ic (v := 0) d114_33 (by decide) ?_
  exact R_iret d114_34 rfl rfl rfl
set_option maxRecDepth 4000 in
theorem law108_31 {f : Nat → Int32} (h0 : ¬ ((f 1) < (-536870911))) (h1 : ¬ (536870911 < (f 1))) (h2 : ¬ ((f 2) < (-536870911))) (h3 : (536870911 < (f 2))) : Run (5, f) 171 (108, [(0, .ref 0), (1, .ref 16), (2, .ref 42), (3, .ref 53), (4, .int 0)], [], HL0) (.inl (some (.int 1)), HJ2) := by
  refine R_p d171_108 rfl rfl ?_
  refine R_p d171_109 rfl rfl ?_
  refine R_p d171_110 rfl rfl ?_
  refine R_ic (v := 1) d171_112 (by decide) ?_
  refine R_p d171_113 rfl rfl ?_
  refine R_nv (v := _) (v' := 1) (by decide) ?_
  refine R_sldk (n := 1) (x := (f 1)) d171_114 (vp_ok (by decide)) (by decide) rfl ?_
  refine R_p d171_115 rfl rfl ?_
  refine R_p d171_116 rfl rfl ?_
  refine R_ic (v := 2) d171_118 (by decide) ?_
  refine R_p d171_119 rfl rfl ?_
  refine R_nv (v := _) (v' := 2) (by decide) ?_
  refine R_sldk (n := 2) (x := (f 2)) d171_120 (vp_ok (by decide)) (by decide) rfl ?_
  refine R_p d171_121 rfl rfl ?_
  refine R_hs [.ref 16, .int (f 1), .int (f 2), .ref 53] d171_122 (List.mem_of_getElem? (i := 28) rfl) ⟨by decide, by decide, Nat.le_of_ble_eq_true rfl, mcd157⟩ rfl rfl (Nat.le_of_ble_eq_true rfl) (w27 (f := f) h0 h1 h2 h3) ?_
  refine R_p (ls' := [(0, .ref 0), (1, .ref 16), (2, .ref 42), (3, .ref 53), (4, .int 0), (5, .int 1)]) d171_125 rfl rfl ?_
  refine R_p d171_127 rfl rfl ?_
  refine R_p d171_128 rfl rfl ?_
  refine R_p d171_129 rfl rfl ?_
  refine R_ic (v := 1) d171_131 (by decide) ?_
  refine R_p d171_132 rfl rfl ?_
  refine R_nv (v := _) (v' := 1) (by decide) ?_
  refine R_sldk (n := 1) (x := (f 1)) d171_133 (vp_ok (by decide)) (by decide) rfl ?_
  refine R_p d171_134 rfl rfl ?_
  refine R_p d171_135 rfl rfl ?_
  refine R_ic (v := 2) d171_137 (by decide) ?_
  refine R_p d171_138 rfl rfl ?_
  refine R_nv (v := _) (v' := 2) (by decide) ?_
  refine R_sldk (n := 2) (x := (f 2)) d171_139 (vp_ok (by decide)) (by decide) rfl ?_
  refine R_cm [.int (f 1), .int (f 2)] d171_140 (List.mem_of_getElem? (i := 161) rfl) rfl ⟨by decide, by decide, Nat.le_of_ble_eq_true rfl, rfl, mcd114⟩ rfl rfl (Nat.le_of_ble_eq_true rfl) rfl rfl (w30 (f := f) h0 h1 h2 h3) ?_
  refine R_p (ls' := [(0, .ref 0), (1, .ref 16), (2, .ref 42), (3, .ref 53), (4, .int 0), (5, .int 1), (6, .int 0)]) d171_143 rfl rfl ?_
  refine R_p d171_145 rfl rfl ?_
  refine R_cm [] d171_146 (List.mem_of_getElem? (i := 160) rfl) rfl ⟨by decide, by decide, Nat.le_of_ble_eq_true rfl, rfl, mcd113⟩ rfl rfl (Nat.le_of_ble_eq_true rfl) rfl rfl (w8 (f := f)) ?_
  refine R_p d171_149 rfl rfl ?_
  refine R_br 156 d171_151 (mb_t (b := ((1 : Int32) = (1 : Int32))) (by decide)) rfl ?_
  refine R_p d171_156 rfl rfl ?_
  refine R_br 173 d171_158 (mb_t (b := (¬ (1 : Int32) = (0 : Int32))) (by decide)) rfl ?_
  refine R_br 950 d171_173 rfl rfl ?_
  refine R_p (ls' := [(0, .ref 0), (1, .ref 16), (2, .ref 42), (3, .ref 53), (4, .int 5), (5, .int 1), (6, .int 0)]) d171_950 rfl rfl ?_
  refine R_br 23 d171_953 rfl rfl ?_
  refine R_p d171_23 rfl rfl ?_
  refine R_p d171_25 rfl rfl ?_
  refine R_sln d171_26 ?_
  refine R_nv (v := _) (v' := 5) (show Int32.ofNat 5 = 5 from by decide) ?_
  refine R_ic (v := 5) d171_27 (by decide) ?_
  refine R_p d171_28 rfl rfl ?_
  refine R_nv (v := _) (v' := 0) (by decide) ?_
  refine R_br 956 d171_29 (mb_t (b := ((0 : Int32) < (5 : Int32))) (by decide)) rfl ?_
  refine R_ic (v := 1) d171_956 (by decide) ?_
  exact R_iret d171_957 rfl rfl rfl
set_option maxRecDepth 4000 in
theorem w32 {f : Nat → Int32} (h0 : ¬ ((f 1) < (-536870911))) (h1 : ¬ (536870911 < (f 1))) (h2 : ¬ ((f 2) < (-536870911))) (h3 : ¬ (536870911 < (f 2))) : Run (5, f) 97 (0, [(0, .ref 16), (1, .int (f 1)), (2, .int (f 2))], [], HL0) (.inl none, HL0) := by
  refine R_p d97_0 rfl rfl ?_
  refine R_ci (v := (-536870911)) 369 d97_1 (List.mem_of_getElem? (i := 0) rfl) ?_
  refine R_nb d97_3 rfl (mb_f (b := ((f 1) < (-536870911))) h0) ?_
  refine R_p d97_6 rfl rfl ?_
  refine R_ci (v := 536870911) 370 d97_7 (List.mem_of_getElem? (i := 1) rfl) ?_
  refine R_nb d97_9 rfl (mb_f (b := (536870911 < (f 1))) h1) ?_
  refine R_p d97_12 rfl rfl ?_
  refine R_ci (v := (-536870911)) 369 d97_13 (List.mem_of_getElem? (i := 0) rfl) ?_
  refine R_nb d97_15 rfl (mb_f (b := ((f 2) < (-536870911))) h2) ?_
  refine R_p d97_18 rfl rfl ?_
  refine R_ci (v := 536870911) 370 d97_19 (List.mem_of_getElem? (i := 1) rfl) ?_
  refine R_br 34 d97_21 (mb_t (b := ((f 2) ≤ 536870911)) (Int32.not_lt.mp h3)) rfl ?_
  exact R_vret d97_34 rfl rfl
set_option maxRecDepth 4000 in
theorem w33 {f : Nat → Int32} : Run (5, f) 66 (0, [(0, .ref 17)], [], HL0) (.inl (some (.int 0)), HL0) := by
  refine R_p d66_0 rfl rfl ?_
  refine R_get d66_1 (Or.inl (List.mem_of_getElem? (i := 6) rfl)) rfl rfl ?_
  exact R_iret d66_4 rfl rfl rfl
set_option maxRecDepth 4000 in
theorem w34 {f : Nat → Int32} : Run (5, f) 68 (0, [(0, .ref 17), (1, .int 0), (2, .int (f 1)), (3, .int (f 2))], [], HL0) (.inl none, (HJ3 f)) := by
  refine R_p d68_0 rfl rfl ?_
  refine R_get d68_1 (Or.inl (List.mem_of_getElem? (i := 3) rfl)) rfl rfl ?_
  refine R_p d68_4 rfl rfl ?_
  refine R_p d68_5 rfl rfl ?_
  refine R_ist d68_6 rfl (vp_ok (by decide)) ?_
  refine R_p d68_7 rfl rfl ?_
  refine R_get d68_8 (Or.inl (List.mem_of_getElem? (i := 4) rfl)) rfl rfl ?_
  refine R_p d68_11 rfl rfl ?_
  refine R_p d68_12 rfl rfl ?_
  refine R_ist d68_13 rfl (vp_ok (by decide)) ?_
  exact R_vret d68_14 rfl rfl
set_option maxRecDepth 4000 in
theorem w35 {f : Nat → Int32} : Run (5, f) 69 (0, [(0, .ref 17), (1, .int 0)], [], (HJ3 f)) (.inl (some (.int (-1))), (HJ3 f)) := by
  refine R_ic (v := 0) d69_0 (by decide) ?_
  refine R_p (ls' := [(0, .ref 17), (1, .int 0), (2, .int 0)]) d69_1 rfl rfl ?_
  refine R_p d69_2 rfl rfl ?_
  refine R_p d69_3 rfl rfl ?_
  refine R_get d69_4 (Or.inl (List.mem_of_getElem? (i := 6) rfl)) rfl rfl ?_
  refine R_br 48 d69_7 (mb_t (b := ((0 : Int32) ≤ (0 : Int32))) (by decide)) rfl ?_
  refine R_ic (v := (-1)) d69_48 (by decide) ?_
  exact R_iret d69_49 rfl rfl rfl
set_option maxRecDepth 4000 in
theorem w36 {f : Nat → Int32} : Run (5, f) 66 (0, [(0, .ref 17)], [], (HJ3 f)) (.inl (some (.int 0)), (HJ3 f)) := by
  refine R_p d66_0 rfl rfl ?_
  refine R_get d66_1 (Or.inl (List.mem_of_getElem? (i := 6) rfl)) rfl rfl ?_
  exact R_iret d66_4 rfl rfl rfl
set_option maxRecDepth 4000 in
theorem w37 {f : Nat → Int32} : Run (5, f) 38 (0, [(0, .ref 21), (1, .int 0)], [], (HJ3 f)) (.inl (some (.int 0)), (HJ3 f)) := by
  refine R_ic (v := 0) d38_0 (by decide) ?_
  refine R_p (ls' := [(0, .ref 21), (1, .int 0), (2, .int 0)]) d38_1 rfl rfl ?_
  refine R_p d38_2 rfl rfl ?_
  refine R_p d38_3 rfl rfl ?_
  refine R_get d38_4 (Or.inl (List.mem_of_getElem? (i := 7) rfl)) rfl rfl ?_
  refine R_cm [] d38_7 (List.mem_of_getElem? (i := 34) rfl) rfl ⟨by decide, by decide, Nat.le_of_ble_eq_true rfl, rfl, mcd66⟩ rfl rfl (Nat.le_of_ble_eq_true rfl) rfl rfl (w36 (f := f)) ?_
  refine R_br 64 d38_10 (mb_t (b := ((0 : Int32) ≤ (0 : Int32))) (by decide)) rfl ?_
  refine R_ic (v := 0) d38_64 (by decide) ?_
  exact R_iret d38_65 rfl rfl rfl
set_option maxRecDepth 4000 in
theorem w38 {f : Nat → Int32} : Run (5, f) 72 (0, [(0, .ref 17)], [], (HJ3 f)) (.inl none, (HJ4 f)) := by
  refine R_p d72_0 rfl rfl ?_
  refine R_p d72_1 rfl rfl ?_
  refine R_get d72_2 (Or.inl (List.mem_of_getElem? (i := 6) rfl)) rfl rfl ?_
  refine R_ic (v := 1) d72_5 (by decide) ?_
  refine R_p d72_6 rfl rfl ?_
  refine R_nv (v := _) (v' := 1) (by decide) ?_
  refine R_put d72_7 (List.mem_of_getElem? (i := 6) rfl) rfl (by decide) rfl rfl (Or.inl rfl) ?_
  exact R_vret d72_10 rfl rfl
set_option maxRecDepth 4000 in
theorem w39 {f : Nat → Int32} : Run (5, f) 46 (0, [(0, .ref 23)], [], (HJ4 f)) (.inl (some (.int 0)), (HJ4 f)) := by
  refine R_p d46_0 rfl rfl ?_
  refine R_get d46_1 (Or.inl (List.mem_of_getElem? (i := 15) rfl)) rfl rfl ?_
  exact R_iret d46_4 rfl rfl rfl
set_option maxRecDepth 4000 in
theorem w40 {f : Nat → Int32} : Run (5, f) 21 (0, [(0, .ref 29), (1, .int 0)], [], (HJ4 f)) (.inl none, (HJ4 f)) := by
  refine R_p d21_0 rfl rfl ?_
  refine R_ic (v := 2) d21_1 (by decide) ?_
  refine R_br 18 d21_2 (mb_t (b := ((0 : Int32) < (2 : Int32))) (by decide)) rfl ?_
  exact R_vret d21_18 rfl rfl
set_option maxRecDepth 4000 in
theorem w41 {f : Nat → Int32} : Run (5, f) 66 (0, [(0, .ref 17)], [], (HJ4 f)) (.inl (some (.int 1)), (HJ4 f)) := by
  refine R_p d66_0 rfl rfl ?_
  refine R_get d66_1 (Or.inl (List.mem_of_getElem? (i := 6) rfl)) rfl rfl ?_
  exact R_iret d66_4 rfl rfl rfl
set_option maxRecDepth 4000 in
theorem w42 {f : Nat → Int32} : Run (5, f) 60 (0, [(0, .ref 23)], [], (HJ4 f)) (.inl none, (HJ4 f)) := by
  refine R_p d60_0 rfl rfl ?_
  refine R_ic (v := 0) d60_1 (by decide) ?_
  refine R_put d60_2 (List.mem_of_getElem? (i := 15) rfl) rfl (by decide) rfl rfl (Or.inl rfl) ?_
  refine R_ic (v := 0) d60_5 (by decide) ?_
  refine R_p (ls' := [(0, .ref 23), (1, .int 0)]) d60_6 rfl rfl ?_
  refine R_p d60_7 rfl rfl ?_
  refine R_p d60_8 rfl rfl ?_
  refine R_get d60_9 (Or.inl (List.mem_of_getElem? (i := 10) rfl)) rfl rfl ?_
  refine R_cm [] d60_12 (List.mem_of_getElem? (i := 20) rfl) rfl ⟨by decide, by decide, Nat.le_of_ble_eq_true rfl, rfl, mcd66⟩ rfl rfl (Nat.le_of_ble_eq_true rfl) rfl rfl (w41 (f := f)) ?_
  refine R_nb d60_15 rfl (mb_f (b := ((1 : Int32) ≤ (0 : Int32))) (by decide)) ?_
  refine R_p d60_18 rfl rfl ?_
  refine R_ic (v := 1) d60_19 (by decide) ?_
  refine R_p d60_20 rfl rfl ?_
  refine R_nv (v := _) (v' := 1) (by decide) ?_
  refine R_p (ls' := [(0, .ref 23), (1, .int 0), (2, .int 1)]) d60_21 rfl rfl ?_
  refine R_p d60_22 rfl rfl ?_
  refine R_p d60_23 rfl rfl ?_
  refine R_get d60_24 (Or.inl (List.mem_of_getElem? (i := 10) rfl)) rfl rfl ?_
  refine R_cm [] d60_27 (List.mem_of_getElem? (i := 20) rfl) rfl ⟨by decide, by decide, Nat.le_of_ble_eq_true rfl, rfl, mcd66⟩ rfl rfl (Nat.le_of_ble_eq_true rfl) rfl rfl (w41 (f := f)) ?_
  refine R_br 61 d60_30 (mb_t (b := ((1 : Int32) ≤ (1 : Int32))) (by decide)) rfl ?_
  refine R_p (ls' := [(0, .ref 23), (1, .int 1), (2, .int 1)]) d60_61 rfl rfl ?_
  refine R_br 7 d60_64 rfl rfl ?_
  refine R_p d60_7 rfl rfl ?_
  refine R_p d60_8 rfl rfl ?_
  refine R_get d60_9 (Or.inl (List.mem_of_getElem? (i := 10) rfl)) rfl rfl ?_
  refine R_cm [] d60_12 (List.mem_of_getElem? (i := 20) rfl) rfl ⟨by decide, by decide, Nat.le_of_ble_eq_true rfl, rfl, mcd66⟩ rfl rfl (Nat.le_of_ble_eq_true rfl) rfl rfl (w41 (f := f)) ?_
  refine R_br 67 d60_15 (mb_t (b := ((1 : Int32) ≤ (1 : Int32))) (by decide)) rfl ?_
  exact R_vret d60_67 rfl rfl
set_option maxRecDepth 4000 in
theorem w43 {f : Nat → Int32} : Run (5, f) 57 (0, [(0, .ref 23)], [], (HJ4 f)) (.inl none, (HJ4 f)) := by
  refine R_ic (v := 0) d57_0 (by decide) ?_
  refine R_p (ls' := [(0, .ref 23), (1, .int 0)]) d57_1 rfl rfl ?_
  refine R_p d57_2 rfl rfl ?_
  refine R_ci (v := 1000000) 578 d57_3 (List.mem_of_getElem? (i := 2) rfl) ?_
  refine R_nb d57_5 rfl (mb_f (b := ((1000000 : Int32) ≤ (0 : Int32))) (by decide)) ?_
  refine R_p d57_8 rfl rfl ?_
  refine R_get d57_9 (Or.inl (List.mem_of_getElem? (i := 17) rfl)) rfl rfl ?_
  refine R_br 100 d57_12 (mb_t (b := ((0 : Int32) ≤ (0 : Int32))) (by decide)) rfl ?_
  refine R_p d57_100 rfl rfl ?_
  refine R_cm [] d57_101 (List.mem_of_getElem? (i := 81) rfl) rfl ⟨by decide, by decide, Nat.le_of_ble_eq_true rfl, rfl, mcd60⟩ rfl rfl (Nat.le_of_ble_eq_true rfl) rfl rfl (w42 (f := f)) ?_
  exact R_vret d57_104 rfl rfl
set_option maxRecDepth 4000 in
theorem w44 {f : Nat → Int32} : Run (5, f) 20 (0, [(0, .ref 29), (1, .int 0)], [], (HJ4 f)) (.inl none, (HJ4 f)) := by
  refine R_p d20_0 rfl rfl ?_
  refine R_get d20_1 (Or.inl (List.mem_of_getElem? (i := 20) rfl)) rfl rfl ?_
  refine R_cm [] d20_4 (List.mem_of_getElem? (i := 42) rfl) rfl ⟨by decide, by decide, Nat.le_of_ble_eq_true rfl, rfl, mcd46⟩ rfl rfl (Nat.le_of_ble_eq_true rfl) rfl rfl (w39 (f := f)) ?_
  refine R_nb d20_7 rfl (mb_f (b := (¬ (0 : Int32) = (0 : Int32))) (fun q => q (by decide))) ?_
  refine R_p d20_10 rfl rfl ?_
  refine R_p d20_11 rfl rfl ?_
  refine R_cm [.int 0] d20_12 (List.mem_of_getElem? (i := 43) rfl) rfl ⟨by decide, by decide, Nat.le_of_ble_eq_true rfl, rfl, mcd21⟩ rfl rfl (Nat.le_of_ble_eq_true rfl) rfl rfl (w40 (f := f)) ?_
  refine R_br 46 d20_15 rfl rfl ?_
  refine R_p d20_46 rfl rfl ?_
  refine R_get d20_47 (Or.inl (List.mem_of_getElem? (i := 20) rfl)) rfl rfl ?_
  refine R_cm [] d20_50 (List.mem_of_getElem? (i := 67) rfl) rfl ⟨by decide, by decide, Nat.le_of_ble_eq_true rfl, rfl, mcd57⟩ rfl rfl (Nat.le_of_ble_eq_true rfl) rfl rfl (w43 (f := f)) ?_
  exact R_vret d20_53 rfl rfl
set_option maxRecDepth 4000 in
theorem w45 {f : Nat → Int32} (h0 : ¬ ((f 1) < (-536870911))) (h1 : ¬ (536870911 < (f 1))) (h2 : ¬ ((f 2) < (-536870911))) (h3 : ¬ (536870911 < (f 2))) : Run (5, f) 96 (0, [(0, .ref 16), (1, .int (f 1)), (2, .int (f 2))], [], HL0) (.inl (some (.int 0)), (HJ4 f)) := by
  refine R_p d96_0 rfl rfl ?_
  refine R_p d96_1 rfl rfl ?_
  refine R_p d96_2 rfl rfl ?_
  refine R_cm [.int (f 1), .int (f 2)] d96_3 (List.mem_of_getElem? (i := 30) rfl) rfl ⟨by decide, by decide, Nat.le_of_ble_eq_true rfl, rfl, mcd97⟩ rfl rfl (Nat.le_of_ble_eq_true rfl) rfl rfl (w32 (f := f) h0 h1 h2 h3) ?_
  refine R_p d96_6 rfl rfl ?_
  refine R_get d96_7 (Or.inl (List.mem_of_getElem? (i := 43) rfl)) rfl rfl ?_
  refine R_cm [] d96_10 (List.mem_of_getElem? (i := 11) rfl) rfl ⟨by decide, by decide, Nat.le_of_ble_eq_true rfl, rfl, mcd66⟩ rfl rfl (Nat.le_of_ble_eq_true rfl) rfl rfl (w33 (f := f)) ?_
  refine R_p (ls' := [(0, .ref 16), (1, .int (f 1)), (2, .int (f 2)), (3, .int 0)]) d96_13 rfl rfl ?_
  refine R_p d96_14 rfl rfl ?_
  refine R_bi (v := 40) d96_15 (by decide) ?_
  refine R_br 30 d96_17 (mb_t (b := (¬ (0 : Int32) = (40 : Int32))) (by decide)) rfl ?_
  refine R_p d96_30 rfl rfl ?_
  refine R_get d96_31 (Or.inl (List.mem_of_getElem? (i := 43) rfl)) rfl rfl ?_
  refine R_p d96_34 rfl rfl ?_
  refine R_p d96_35 rfl rfl ?_
  refine R_p d96_36 rfl rfl ?_
  refine R_cm [.int 0, .int (f 1), .int (f 2)] d96_37 (List.mem_of_getElem? (i := 31) rfl) rfl ⟨by decide, by decide, Nat.le_of_ble_eq_true rfl, rfl, mcd68⟩ rfl rfl (Nat.le_of_ble_eq_true rfl) rfl rfl (w34 (f := f)) ?_
  refine R_p d96_40 rfl rfl ?_
  refine R_get d96_41 (Or.inl (List.mem_of_getElem? (i := 43) rfl)) rfl rfl ?_
  refine R_p d96_44 rfl rfl ?_
  refine R_cm [.int 0] d96_45 (List.mem_of_getElem? (i := 32) rfl) rfl ⟨by decide, by decide, Nat.le_of_ble_eq_true rfl, rfl, mcd69⟩ rfl rfl (Nat.le_of_ble_eq_true rfl) rfl rfl (w35 (f := f)) ?_
  refine R_ic (v := (-1)) d96_48 (by decide) ?_
  refine R_nb d96_49 rfl (mb_f (b := (¬ ((-1) : Int32) = ((-1) : Int32))) (fun q => q (by decide))) ?_
  refine R_p d96_52 rfl rfl ?_
  refine R_get d96_53 (Or.inl (List.mem_of_getElem? (i := 44) rfl)) rfl rfl ?_
  refine R_p d96_56 rfl rfl ?_
  refine R_cm [.int 0] d96_57 (List.mem_of_getElem? (i := 33) rfl) rfl ⟨by decide, by decide, Nat.le_of_ble_eq_true rfl, rfl, mcd38⟩ rfl rfl (Nat.le_of_ble_eq_true rfl) rfl rfl (w37 (f := f)) ?_
  refine R_br 65 d96_60 (mb_t (b := ((0 : Int32) = (0 : Int32))) (by decide)) rfl ?_
  refine R_p d96_65 rfl rfl ?_
  refine R_get d96_66 (Or.inl (List.mem_of_getElem? (i := 43) rfl)) rfl rfl ?_
  refine R_cm [] d96_69 (List.mem_of_getElem? (i := 40) rfl) rfl ⟨by decide, by decide, Nat.le_of_ble_eq_true rfl, rfl, mcd72⟩ rfl rfl (Nat.le_of_ble_eq_true rfl) rfl rfl (w38 (f := f)) ?_
  refine R_p d96_72 rfl rfl ?_
  refine R_get d96_73 (Or.inl (List.mem_of_getElem? (i := 46) rfl)) rfl rfl ?_
  refine R_p d96_76 rfl rfl ?_
  refine R_cm [.int 0] d96_77 (List.mem_of_getElem? (i := 41) rfl) rfl ⟨by decide, by decide, Nat.le_of_ble_eq_true rfl, rfl, mcd20⟩ rfl rfl (Nat.le_of_ble_eq_true rfl) rfl rfl (w44 (f := f)) ?_
  refine R_p d96_80 rfl rfl ?_
  exact R_iret d96_81 rfl rfl rfl
set_option maxRecDepth 4000 in
theorem w46 {f : Nat → Int32} (h0 : ¬ ((f 1) < (-536870911))) (h1 : ¬ (536870911 < (f 1))) (h2 : ¬ ((f 2) < (-536870911))) (h3 : ¬ (536870911 < (f 2))) : Run (5, f) 157 (0, [(0, .ref 16), (1, .int (f 1)), (2, .int (f 2)), (3, .ref 53)], [], HL0) (.inl (some (.int 0)), (HJ5 f)) := by
  refine R_p d157_0 rfl rfl ?_
  refine R_ic (v := 0) d157_1 (by decide) ?_
  refine R_p d157_2 rfl rfl ?_
  refine R_p d157_3 rfl rfl ?_
  refine R_p d157_4 rfl rfl ?_
  refine R_cm [.int (f 1), .int (f 2)] d157_5 (List.mem_of_getElem? (i := 29) rfl) rfl ⟨by decide, by decide, Nat.le_of_ble_eq_true rfl, rfl, mcd96⟩ rfl rfl (Nat.le_of_ble_eq_true rfl) rfl rfl (w45 (f := f) h0 h1 h2 h3) ?_
  refine R_p d157_8 rfl rfl ?_
  refine R_nw (v := _) (v' := 0) (by decide) ?_
  refine R_lst d157_9 rfl (vp_ok (by decide)) ?_
  refine R_br 21 d157_10 rfl rfl ?_
  refine R_ic (v := 0) d157_21 (by decide) ?_
  exact R_iret d157_22 rfl rfl rfl
set_option maxRecDepth 4000 in
theorem w47 {f : Nat → Int32} (h0 : ¬ ((f 1) < (-536870911))) (h1 : ¬ (536870911 < (f 1))) : Run (5, f) 116 (0, [(0, .int (f 1)), (1, .int (-536870911)), (2, .int 536870911)], [], (HJ5 f)) (.inl (some (.int 1)), (HJ5 f)) := by
  refine R_p d116_0 rfl rfl ?_
  refine R_p d116_1 rfl rfl ?_
  refine R_nb d116_2 rfl (mb_f (b := ((f 1) < (-536870911))) h0) ?_
  refine R_p d116_5 rfl rfl ?_
  refine R_p d116_6 rfl rfl ?_
  refine R_nb d116_7 rfl (mb_f (b := (536870911 < (f 1))) h1) ?_
  refine R_ic (v := 1) d116_10 (by decide) ?_
  refine R_br 15 d116_11 rfl rfl ?_
  exact R_iret d116_15 rfl rfl rfl
set_option maxRecDepth 4000 in
theorem w48 {f : Nat → Int32} (h2 : ¬ ((f 2) < (-536870911))) (h3 : ¬ (536870911 < (f 2))) : Run (5, f) 116 (0, [(0, .int (f 2)), (1, .int (-536870911)), (2, .int 536870911)], [], (HJ5 f)) (.inl (some (.int 1)), (HJ5 f)) := by
  refine R_p d116_0 rfl rfl ?_
  refine R_p d116_1 rfl rfl ?_
  refine R_nb d116_2 rfl (mb_f (b := ((f 2) < (-536870911))) h2) ?_
  refine R_p d116_5 rfl rfl ?_
  refine R_p d116_6 rfl rfl ?_
  refine R_nb d116_7 rfl (mb_f (b := (536870911 < (f 2))) h3) ?_
  refine R_ic (v := 1) d116_10 (by decide) ?_
  refine R_br 15 d116_11 rfl rfl ?_
  exact R_iret d116_15 rfl rfl rfl
set_option maxRecDepth 4000 in
theorem w49 {f : Nat → Int32} (h0 : ¬ ((f 1) < (-536870911))) (h1 : ¬ (536870911 < (f 1))) (h2 : ¬ ((f 2) < (-536870911))) (h3 : ¬ (536870911 < (f 2))) : Run (5, f) 115 (0, [(0, .int (f 1)), (1, .int (f 2))], [], (HJ5 f)) (.inl (some (.int 1)), (HJ5 f)) := by
  refine R_p d115_0 rfl rfl ?_
  refine R_ci (v := (-536870911)) 959 d115_1 (List.mem_of_getElem? (i := 4) rfl) ?_
  refine R_ci (v := 536870911) 960 d115_3 (List.mem_of_getElem? (i := 5) rfl) ?_
  refine R_cs [.int (f 1), .int (-536870911), .int 536870911] d115_5 (List.mem_of_getElem? (i := 163) rfl) rfl ⟨by decide, by decide, Nat.le_of_ble_eq_true rfl, rfl, mcd116⟩ rfl rfl (Nat.le_of_ble_eq_true rfl) (w47 (f := f) h0 h1) ?_
  refine R_nb d115_8 rfl (mb_f (b := ((1 : Int32) = (0 : Int32))) (by decide)) ?_
  refine R_p d115_11 rfl rfl ?_
  refine R_ci (v := (-536870911)) 959 d115_12 (List.mem_of_getElem? (i := 4) rfl) ?_
  refine R_ci (v := 536870911) 960 d115_14 (List.mem_of_getElem? (i := 5) rfl) ?_
  refine R_cs [.int (f 2), .int (-536870911), .int 536870911] d115_16 (List.mem_of_getElem? (i := 163) rfl) rfl ⟨by decide, by decide, Nat.le_of_ble_eq_true rfl, rfl, mcd116⟩ rfl rfl (Nat.le_of_ble_eq_true rfl) (w48 (f := f) h2 h3) ?_
  refine R_nb d115_19 rfl (mb_f (b := ((1 : Int32) = (0 : Int32))) (by decide)) ?_
  refine R_ic (v := 1) d115_22 (by decide) ?_
  refine R_br 27 d115_23 rfl rfl ?_
  exact R_iret d115_27 rfl rfl rfl
set_option maxRecDepth 4000 in
theorem w50 {f : Nat → Int32} : Run (5, f) 117 (0, [(0, .ref 42), (1, .int 0)], [], (HJ5 f)) (.inl (some (.int 0)), (HJ5 f)) := by
  refine R_p d117_0 rfl rfl ?_
  refine R_p d117_1 rfl rfl ?_
  refine R_put d117_2 (List.mem_of_getElem? (i := 48) rfl) rfl (by decide) rfl rfl (Or.inl rfl) ?_
  refine R_p d117_5 rfl rfl ?_
  refine R_br 13 d117_6 (mb_t (b := ((0 : Int32) ≤ (0 : Int32))) (by decide)) rfl ?_
  refine R_ic (v := 0) d117_13 (by decide) ?_
  exact R_iret d117_14 rfl rfl rfl
set_option maxRecDepth 4000 in
theorem w51 {f : Nat → Int32} (h0 : ¬ ((f 1) < (-536870911))) (h1 : ¬ (536870911 < (f 1))) (h2 : ¬ ((f 2) < (-536870911))) (h3 : ¬ (536870911 < (f 2))) : Run (5, f) 114 (0, [(0, .ref 42), (1, .int (f 1)), (2, .int (f 2))], [], (HJ5 f)) (.inl (some (.int 0)), (HJ7 f)) := by
  refine R_p d114_0 rfl rfl ?_
  refine R_p d114_1 rfl rfl ?_
  refine R_p d114_2 rfl rfl ?_
  refine R_cs [.int (f 1), .int (f 2)] d114_3 (List.mem_of_getElem? (i := 162) rfl) rfl ⟨by decide, by decide, Nat.le_of_ble_eq_true rfl, rfl, mcd115⟩ rfl rfl (Nat.le_of_ble_eq_true rfl) (w49 (f := f) h0 h1 h2 h3) ?_
  refine R_br 13 d114_6 (mb_t (b := (¬ (1 : Int32) = (0 : Int32))) (by decide)) rfl ?_
  refine R_p d114_13 rfl rfl ?_
  refine R_get d114_14 (Or.inl (List.mem_of_getElem? (i := 49) rfl)) rfl rfl ?_
  refine R_bi (v := 40) d114_17 (by decide) ?_
  refine R_br 26 d114_19 (mb_t (b := (¬ (0 : Int32) = (40 : Int32))) (by decide)) rfl ?_
  refine R_ic (v := 0) d114_26 (by decide) ?_
  refine R_cm [.int 0] d114_27 (List.mem_of_getElem? (i := 164) rfl) rfl ⟨by decide, by decide, Nat.le_of_ble_eq_true rfl, rfl, mcd117⟩ rfl rfl (Nat.le_of_ble_eq_true rfl) rfl rfl (w50 (f := f)) ?_
  refine R_br 35 d114_30 (mb_t (b := ((0 : Int32) = (0 : Int32))) (by decide)) rfl ?_
  refine R_p d114_35 rfl rfl ?_
  refine R_get d114_36 (Or.inl (List.mem_of_getElem? (i := 50) rfl)) rfl rfl ?_
  refine R_p d114_39 rfl rfl ?_
  refine R_get d114_40 (Or.inl (List.mem_of_getElem? (i := 49) rfl)) rfl rfl ?_
  refine R_p d114_43 rfl rfl ?_
  refine R_p d114_44 rfl rfl ?_
  refine R_lst d114_45 rfl (vp_ok (by decide)) ?_
  refine R_p d114_46 rfl rfl ?_
  refine R_get d114_47 (Or.inl (List.mem_of_getElem? (i := 51) rfl)) rfl rfl ?_
  refine R_p d114_50 rfl rfl ?_
  refine R_get d114_51 (Or.inl (List.mem_of_getElem? (i := 49) rfl)) rfl rfl ?_
  refine R_p d114_54 rfl rfl ?_
  refine R_p d114_55 rfl rfl ?_
  refine R_lst d114_56 rfl (vp_ok (by decide)) ?_
  refine R_ic (v := 1) d114_57 (by decide) ?_
  refine R_p (ls' := [(0, .ref 42), (1, .int (f 1)), (2, .int (f 2)), (3, .int 1)]) d114_58 rfl rfl ?_
  refine R_ic (v := 0) d114_59 (by decide) ?_
  refine R_p (ls' := [(0, .ref 42), (1, .int (f 1)), (2, .int (f 2)), (3, .int 1), (4, .int 0)]) d114_60 rfl rfl ?_
  refine R_p d114_62 rfl rfl ?_
  refine R_p d114_64 rfl rfl ?_
  refine R_get d114_65 (Or.inl (List.mem_of_getElem? (i := 49) rfl)) rfl rfl ?_
  refine R_br 170 d114_68 (mb_t (b := ((0 : Int32) ≤ (0 : Int32))) (by decide)) rfl ?_
  refine R_p d114_170 rfl rfl ?_
  refine R_br 176 d114_171 (mb_t (b := (¬ (1 : Int32) = (0 : Int32))) (by decide)) rfl ?_
  refine R_ic (v := 0) d114_176 (by decide) ?_
  refine R_p (ls' := [(0, .ref 42), (1, .int (f 1)), (2, .int (f 2)), (3, .int 1), (4, .int 0)]) d114_177 rfl rfl ?_
  refine R_h (HJ6 f) rfl ?_
  refine R_addLoop (p := 0) (by decide) rfl rfl rfl rfl ?_
  refine R_p d114_224 rfl rfl ?_
  refine R_p d114_225 rfl rfl ?_
  refine R_get d114_226 (Or.inl (List.mem_of_getElem? (i := 49) rfl)) rfl rfl ?_
  refine R_ic (v := 1) d114_229 (by decide) ?_
  refine R_p d114_230 rfl rfl ?_
  refine R_nv (v := _) (v' := 1) (by decide) ?_
  refine R_put d114_231 (List.mem_of_getElem? (i := 49) rfl) rfl (by decide) rfl rfl (Or.inl rfl) ?_
  refine R_p d114_234 rfl rfl ?_
  refine R_ic (v := 0) d114_235 (by decide) ?_
  refine R_put d114_236 (List.mem_of_getElem? (i := 54) rfl) rfl (by decide) (by decide) (by decide) (Or.inl rfl) ?_
  refine R_p d114_239 rfl rfl ?_
  refine R_get d114_240 (Or.inl (List.mem_of_getElem? (i := 49) rfl)) rfl rfl ?_
  refine R_ic (v := 1) d114_243 (by decide) ?_
  refine R_p d114_244 rfl rfl ?_
  refine R_nv (v := _) (v' := 0) (by decide) ?_
  exact R_iret d114_245 rfl rfl rfl
set_option maxRecDepth 4000 in
theorem w52 {f : Nat → Int32} : Run (5, f) 113 (0, [(0, .ref 42)], [], (HJ7 f)) (.inl (some (.int 0)), (HJ7 f)) := by
  refine R_p d113_0 rfl rfl ?_
  refine R_get d113_1 (Or.inl (List.mem_of_getElem? (i := 48) rfl)) rfl rfl ?_
  exact R_iret d113_4 rfl rfl rfl
set_option maxRecDepth 4000 in
theorem law108_53 {f : Nat → Int32} (h0 : ¬ ((f 1) < (-536870911))) (h1 : ¬ (536870911 < (f 1))) (h2 : ¬ ((f 2) < (-536870911))) (h3 : ¬ (536870911 < (f 2))) : Run (5, f) 171 (108, [(0, .ref 0), (1, .ref 16), (2, .ref 42), (3, .ref 53), (4, .int 0)], [], HL0) (.inl (some (.int 1)), (HJ7 f)) := by
  refine R_p d171_108 rfl rfl ?_
  refine R_p d171_109 rfl rfl ?_
  refine R_p d171_110 rfl rfl ?_
  refine R_ic (v := 1) d171_112 (by decide) ?_
  refine R_p d171_113 rfl rfl ?_
  refine R_nv (v := _) (v' := 1) (by decide) ?_
  refine R_sldk (n := 1) (x := (f 1)) d171_114 (vp_ok (by decide)) (by decide) rfl ?_
  refine R_p d171_115 rfl rfl ?_
  refine R_p d171_116 rfl rfl ?_
  refine R_ic (v := 2) d171_118 (by decide) ?_
  refine R_p d171_119 rfl rfl ?_
  refine R_nv (v := _) (v' := 2) (by decide) ?_
  refine R_sldk (n := 2) (x := (f 2)) d171_120 (vp_ok (by decide)) (by decide) rfl ?_
  refine R_p d171_121 rfl rfl ?_
  refine R_hs [.ref 16, .int (f 1), .int (f 2), .ref 53] d171_122 (List.mem_of_getElem? (i := 28) rfl) ⟨by decide, by decide, Nat.le_of_ble_eq_true rfl, mcd157⟩ rfl rfl (Nat.le_of_ble_eq_true rfl) (w46 (f := f) h0 h1 h2 h3) ?_
  refine R_p (ls' := [(0, .ref 0), (1, .ref 16), (2, .ref 42), (3, .ref 53), (4, .int 0), (5, .int 0)]) d171_125 rfl rfl ?_
  refine R_p d171_127 rfl rfl ?_
  refine R_p d171_128 rfl rfl ?_
  refine R_p d171_129 rfl rfl ?_
  refine R_ic (v := 1) d171_131 (by decide) ?_
  refine R_p d171_132 rfl rfl ?_
  refine R_nv (v := _) (v' := 1) (by decide) ?_
  refine R_sldk (n := 1) (x := (f 1)) d171_133 (vp_ok (by decide)) (by decide) rfl ?_
  refine R_p d171_134 rfl rfl ?_
  refine R_p d171_135 rfl rfl ?_
  refine R_ic (v := 2) d171_137 (by decide) ?_
  refine R_p d171_138 rfl rfl ?_
  refine R_nv (v := _) (v' := 2) (by decide) ?_
  refine R_sldk (n := 2) (x := (f 2)) d171_139 (vp_ok (by decide)) (by decide) rfl ?_
  refine R_cm [.int (f 1), .int (f 2)] d171_140 (List.mem_of_getElem? (i := 161) rfl) rfl ⟨by decide, by decide, Nat.le_of_ble_eq_true rfl, rfl, mcd114⟩ rfl rfl (Nat.le_of_ble_eq_true rfl) rfl rfl (w51 (f := f) h0 h1 h2 h3) ?_
  refine R_p (ls' := [(0, .ref 0), (1, .ref 16), (2, .ref 42), (3, .ref 53), (4, .int 0), (5, .int 0), (6, .int 0)]) d171_143 rfl rfl ?_
  refine R_p d171_145 rfl rfl ?_
  refine R_cm [] d171_146 (List.mem_of_getElem? (i := 160) rfl) rfl ⟨by decide, by decide, Nat.le_of_ble_eq_true rfl, rfl, mcd113⟩ rfl rfl (Nat.le_of_ble_eq_true rfl) rfl rfl (w52 (f := f)) ?_
  refine R_p d171_149 rfl rfl ?_
  refine R_br 156 d171_151 (mb_t (b := ((0 : Int32) = (0 : Int32))) (by decide)) rfl ?_
  refine R_p d171_156 rfl rfl ?_
  refine R_nb d171_158 rfl (mb_f (b := (¬ (0 : Int32) = (0 : Int32))) (fun q => q (by decide))) ?_
  refine R_p d171_161 rfl rfl ?_
  refine R_ic (v := 0) d171_162 (by decide) ?_
  refine R_lld d171_163 rfl (vp_ok (by decide)) ?_
  refine R_nw (v := _) (v' := 0) (by decide) ?_
  refine R_p d171_164 rfl rfl ?_
  refine R_p d171_166 rfl rfl ?_
  refine R_nw (v := _) (v' := 0) (by decide) ?_
  refine R_p d171_167 rfl rfl ?_
  refine R_nv (v := _) (v' := 0) (by decide) ?_
  refine R_br 173 d171_168 (mb_t (b := ((0 : Int32) = (0 : Int32))) (by decide)) rfl ?_
  refine R_br 950 d171_173 rfl rfl ?_
  refine R_p (ls' := [(0, .ref 0), (1, .ref 16), (2, .ref 42), (3, .ref 53), (4, .int 5), (5, .int 0), (6, .int 0)]) d171_950 rfl rfl ?_
  refine R_br 23 d171_953 rfl rfl ?_
  refine R_p d171_23 rfl rfl ?_
  refine R_p d171_25 rfl rfl ?_
  refine R_sln d171_26 ?_
  refine R_nv (v := _) (v' := 5) (show Int32.ofNat 5 = 5 from by decide) ?_
  refine R_ic (v := 5) d171_27 (by decide) ?_
  refine R_p d171_28 rfl rfl ?_
  refine R_nv (v := _) (v' := 0) (by decide) ?_
  refine R_br 956 d171_29 (mb_t (b := ((0 : Int32) < (5 : Int32))) (by decide)) rfl ?_
  refine R_ic (v := 1) d171_956 (by decide) ?_
  exact R_iret d171_957 rfl rfl rfl
set_option maxRecDepth 4000 in
theorem w54 {f : Nat → Int32} (h0 : ((f 1) < 0)) : RunsP 102 (0, [(0, .ref 16), (1, .int (f 1))], [], HL0) (.inr 54, HJ1) := by
  refine Q_p d102_0 rfl rfl ?_
  refine Q_br 15 d102_1 (mb_t (b := ((f 1) < 0)) h0) rfl ?_
  exact Q_thr 3 d102_15 d102_18 d102_19 d102_21 d102_24 rfl (List.mem_of_getElem? (i := 3) rfl) rfl (by decide) (by decide)
set_option maxRecDepth 4000 in
theorem w55 {f : Nat → Int32} (h0 : ((f 1) < 0)) : Run (5, f) 101 (0, [(0, .ref 16), (1, .int (f 1)), (2, .int (f 2))], [], HL0) (.inr 54, HJ1) := by
  refine R_p d101_0 rfl rfl ?_
  refine R_p d101_1 rfl rfl ?_
  exact R_tv [.int (f 1)] d101_2 (List.mem_of_getElem? (i := 86) rfl) ⟨by decide, by decide, Nat.le_of_ble_eq_true rfl, mcd102⟩ rfl rfl (Nat.le_of_ble_eq_true rfl) rfl rfl rfl (Or.inr (w54 (f := f) h0))
set_option maxRecDepth 4000 in
theorem w56 {f : Nat → Int32} (h0 : ((f 1) < 0)) : Run (5, f) 100 (0, [(0, .ref 16), (1, .int (f 1)), (2, .int (f 2))], [], HL0) (.inr 54, HJ1) := by
  refine R_p d100_0 rfl rfl ?_
  refine R_p d100_1 rfl rfl ?_
  refine R_p d100_2 rfl rfl ?_
  exact R_tv [.int (f 1), .int (f 2)] d100_3 (List.mem_of_getElem? (i := 85) rfl) ⟨by decide, by decide, Nat.le_of_ble_eq_true rfl, mcd101⟩ rfl rfl (Nat.le_of_ble_eq_true rfl) rfl rfl rfl (Or.inl (w55 (f := f) h0))
set_option maxRecDepth 4000 in
theorem w57 {f : Nat → Int32} (h0 : ((f 1) < 0)) : Run (5, f) 158 (0, [(0, .ref 16), (1, .int (f 1)), (2, .int (f 2)), (3, .ref 53)], [], HL0) (.inl (some (.int 1)), HJ1) := by
  refine R_p d158_0 rfl rfl ?_
  refine R_ic (v := 0) d158_1 (by decide) ?_
  refine R_p d158_2 rfl rfl ?_
  refine R_p d158_3 rfl rfl ?_
  refine R_p d158_4 rfl rfl ?_
  refine R_tc [.int (f 1), .int (f 2)] d158_5 (List.mem_of_getElem? (i := 84) rfl) ⟨by decide, by decide, Nat.le_of_ble_eq_true rfl, mcd100⟩ rfl rfl (Nat.le_of_ble_eq_true rfl) rfl rfl rfl (cx := 10) (hp := 20) rfl (by decide) (by decide) (by decide) (Or.inl (w56 (f := f) h0)) ?_
  refine R_p (ls' := [(0, .ref 16), (1, .int (f 1)), (2, .int (f 2)), (3, .ref 53), (4, .ref 54)]) d158_20 rfl rfl ?_
  refine R_ic (v := 1) d158_22 (by decide) ?_
  exact R_iret d158_23 rfl rfl rfl
set_option maxRecDepth 4000 in
theorem w58 {f : Nat → Int32} (h0 : ((f 1) < 0)) : Run (5, f) 116 (0, [(0, .int (f 1)), (1, .int 0), (2, .int (-1))], [], HJ1) (.inl (some (.int 0)), HJ1) := by
  refine R_p d116_0 rfl rfl ?_
  refine R_p d116_1 rfl rfl ?_
  refine R_br 14 d116_2 (mb_t (b := ((f 1) < 0)) h0) rfl ?_
  refine R_ic (v := 0) d116_14 (by decide) ?_
  exact R_iret d116_15 rfl rfl rfl
set_option maxRecDepth 4000 in
theorem w59 {f : Nat → Int32} (h0 : ((f 1) < 0)) : Run (5, f) 122 (0, [(0, .ref 42), (1, .int (f 1))], [], HJ1) (.inl (some (.int 0)), HJ1) := by
  refine R_p d122_0 rfl rfl ?_
  refine R_ic (v := 0) d122_1 (by decide) ?_
  refine R_p d122_2 rfl rfl ?_
  refine R_get d122_3 (Or.inl (List.mem_of_getElem? (i := 49) rfl)) rfl rfl ?_
  refine R_ic (v := 1) d122_6 (by decide) ?_
  refine R_p d122_7 rfl rfl ?_
  refine R_nv (v := _) (v' := (-1)) (by decide) ?_
  refine R_cs [.int (f 1), .int 0, .int (-1)] d122_8 (List.mem_of_getElem? (i := 163) rfl) rfl ⟨by decide, by decide, Nat.le_of_ble_eq_true rfl, rfl, mcd116⟩ rfl rfl (Nat.le_of_ble_eq_true rfl) (w58 (f := f) h0) ?_
  exact R_iret d122_11 rfl rfl rfl
set_option maxRecDepth 4000 in
theorem w60 {f : Nat → Int32} (h0 : ((f 1) < 0)) : Run (5, f) 121 (0, [(0, .ref 42), (1, .int (f 1)), (2, .int (f 2))], [], HJ1) (.inl (some (.int 0)), HJ1) := by
  refine R_p d121_0 rfl rfl ?_
  refine R_p d121_1 rfl rfl ?_
  refine R_cm [.int (f 1)] d121_2 (List.mem_of_getElem? (i := 169) rfl) rfl ⟨by decide, by decide, Nat.le_of_ble_eq_true rfl, rfl, mcd122⟩ rfl rfl (Nat.le_of_ble_eq_true rfl) rfl rfl (w59 (f := f) h0) ?_
  refine R_br 25 d121_5 (mb_t (b := ((0 : Int32) = (0 : Int32))) (by decide)) rfl ?_
  refine R_ic (v := 0) d121_25 (by decide) ?_
  exact R_iret d121_26 rfl rfl rfl
set_option maxRecDepth 4000 in
theorem w61 {f : Nat → Int32} (h0 : ((f 1) < 0)) : Run (5, f) 120 (0, [(0, .ref 42), (1, .int (f 1)), (2, .int (f 2))], [], HJ1) (.inl (some (.int 0)), HJ2) := by
  refine R_p d120_0 rfl rfl ?_
  refine R_p d120_1 rfl rfl ?_
  refine R_p d120_2 rfl rfl ?_
  refine R_p d120_3 rfl rfl ?_
  refine R_cm [.int (f 1), .int (f 2)] d120_4 (List.mem_of_getElem? (i := 168) rfl) rfl ⟨by decide, by decide, Nat.le_of_ble_eq_true rfl, rfl, mcd121⟩ rfl rfl (Nat.le_of_ble_eq_true rfl) rfl rfl (w60 (f := f) h0) ?_
  refine R_br 14 d120_7 (mb_t (b := ((0 : Int32) = (0 : Int32))) (by decide)) rfl ?_
  refine R_ic (v := 1) d120_14 (by decide) ?_
  refine R_cm [.int 1] d120_15 (List.mem_of_getElem? (i := 164) rfl) rfl ⟨by decide, by decide, Nat.le_of_ble_eq_true rfl, rfl, mcd117⟩ rfl rfl (Nat.le_of_ble_eq_true rfl) rfl rfl (w6 (f := f)) ?_
  refine R_nb d120_18 rfl (mb_f (b := ((1 : Int32) = (0 : Int32))) (by decide)) ?_
  refine R_ic (v := 0) d120_21 (by decide) ?_
  exact R_iret d120_22 rfl rfl rfl
set_option maxRecDepth 4000 in
theorem law176_62 {f : Nat → Int32} (h0 : ((f 1) < 0)) : Run (5, f) 171 (176, [(0, .ref 0), (1, .ref 16), (2, .ref 42), (3, .ref 53), (4, .int 0)], [], HL0) (.inl (some (.int 1)), HJ2) := by
  refine R_p d171_176 rfl rfl ?_
  refine R_p d171_177 rfl rfl ?_
  refine R_p d171_178 rfl rfl ?_
  refine R_ic (v := 1) d171_180 (by decide) ?_
  refine R_p d171_181 rfl rfl ?_
  refine R_nv (v := _) (v' := 1) (by decide) ?_
  refine R_sldk (n := 1) (x := (f 1)) d171_182 (vp_ok (by decide)) (by decide) rfl ?_
  refine R_p d171_183 rfl rfl ?_
  refine R_p d171_184 rfl rfl ?_
  refine R_ic (v := 2) d171_186 (by decide) ?_
  refine R_p d171_187 rfl rfl ?_
  refine R_nv (v := _) (v' := 2) (by decide) ?_
  refine R_sldk (n := 2) (x := (f 2)) d171_188 (vp_ok (by decide)) (by decide) rfl ?_
  refine R_p d171_189 rfl rfl ?_
  refine R_hs [.ref 16, .int (f 1), .int (f 2), .ref 53] d171_190 (List.mem_of_getElem? (i := 83) rfl) ⟨by decide, by decide, Nat.le_of_ble_eq_true rfl, mcd158⟩ rfl rfl (Nat.le_of_ble_eq_true rfl) (w57 (f := f) h0) ?_
  refine R_p (ls' := [(0, .ref 0), (1, .ref 16), (2, .ref 42), (3, .ref 53), (4, .int 0), (5, .int 1)]) d171_193 rfl rfl ?_
  refine R_p d171_195 rfl rfl ?_
  refine R_p d171_196 rfl rfl ?_
  refine R_p d171_197 rfl rfl ?_
  refine R_ic (v := 1) d171_199 (by decide) ?_
  refine R_p d171_200 rfl rfl ?_
  refine R_nv (v := _) (v' := 1) (by decide) ?_
  refine R_sldk (n := 1) (x := (f 1)) d171_201 (vp_ok (by decide)) (by decide) rfl ?_
  refine R_p d171_202 rfl rfl ?_
  refine R_p d171_203 rfl rfl ?_
  refine R_ic (v := 2) d171_205 (by decide) ?_
  refine R_p d171_206 rfl rfl ?_
  refine R_nv (v := _) (v' := 2) (by decide) ?_
  refine R_sldk (n := 2) (x := (f 2)) d171_207 (vp_ok (by decide)) (by decide) rfl ?_
  refine R_cm [.int (f 1), .int (f 2)] d171_208 (List.mem_of_getElem? (i := 167) rfl) rfl ⟨by decide, by decide, Nat.le_of_ble_eq_true rfl, rfl, mcd120⟩ rfl rfl (Nat.le_of_ble_eq_true rfl) rfl rfl (w61 (f := f) h0) ?_
  refine R_p (ls' := [(0, .ref 0), (1, .ref 16), (2, .ref 42), (3, .ref 53), (4, .int 0), (5, .int 1), (6, .int 0)]) d171_211 rfl rfl ?_
  refine R_p d171_213 rfl rfl ?_
  refine R_cm [] d171_214 (List.mem_of_getElem? (i := 160) rfl) rfl ⟨by decide, by decide, Nat.le_of_ble_eq_true rfl, rfl, mcd113⟩ rfl rfl (Nat.le_of_ble_eq_true rfl) rfl rfl (w8 (f := f)) ?_
  refine R_p d171_217 rfl rfl ?_
  refine R_br 224 d171_219 (mb_t (b := ((1 : Int32) = (1 : Int32))) (by decide)) rfl ?_
  refine R_p d171_224 rfl rfl ?_
  refine R_br 248 d171_226 (mb_t (b := (¬ (1 : Int32) = (0 : Int32))) (by decide)) rfl ?_
  refine R_br 950 d171_248 rfl rfl ?_
  refine R_p (ls' := [(0, .ref 0), (1, .ref 16), (2, .ref 42), (3, .ref 53), (4, .int 5), (5, .int 1), (6, .int 0)]) d171_950 rfl rfl ?_
  refine R_br 23 d171_953 rfl rfl ?_
  refine R_p d171_23 rfl rfl ?_
  refine R_p d171_25 rfl rfl ?_
  refine R_sln d171_26 ?_
  refine R_nv (v := _) (v' := 5) (show Int32.ofNat 5 = 5 from by decide) ?_
  refine R_ic (v := 5) d171_27 (by decide) ?_
  refine R_p d171_28 rfl rfl ?_
  refine R_nv (v := _) (v' := 0) (by decide) ?_
  refine R_br 956 d171_29 (mb_t (b := ((0 : Int32) < (5 : Int32))) (by decide)) rfl ?_
  refine R_ic (v := 1) d171_956 (by decide) ?_
  exact R_iret d171_957 rfl rfl rfl
set_option maxRecDepth 4000 in
theorem w63 {f : Nat → Int32} : RunsP 66 (0, [(0, .ref 17)], [], HL0) (.inl (some (.int 0)), HL0) := by
  refine Q_p d66_0 rfl rfl ?_
  refine Q_get d66_1 (Or.inl (List.mem_of_getElem? (i := 6) rfl)) rfl rfl ?_
  exact Q_iret d66_4 rfl rfl
set_option maxRecDepth 4000 in
theorem w64 {f : Nat → Int32} (h0 : ¬ ((f 1) < 0)) : RunsP 102 (0, [(0, .ref 16), (1, .int (f 1))], [], HL0) (.inr 54, HJ1) := by
  refine Q_p d102_0 rfl rfl ?_
  refine Q_nb d102_1 rfl (mb_f (b := ((f 1) < 0)) h0) ?_
  refine Q_p d102_4 rfl rfl ?_
  refine Q_p d102_5 rfl rfl ?_
  refine Q_get d102_6 (Or.inl (List.mem_of_getElem? (i := 43) rfl)) rfl rfl ?_
  refine Q_cm [] d102_9 (List.mem_of_getElem? (i := 11) rfl) rfl ⟨by decide, by decide, Nat.le_of_ble_eq_true rfl, rfl, mcd66⟩ rfl rfl (Nat.le_of_ble_eq_true rfl) rfl rfl (w63 (f := f)) ?_
  refine Q_nb d102_12 rfl (mb_f (b := ((f 1) < 0)) h0) ?_
  exact Q_thr 3 d102_15 d102_18 d102_19 d102_21 d102_24 rfl (List.mem_of_getElem? (i := 3) rfl) rfl (by decide) (by decide)
set_option maxRecDepth 4000 in
theorem w65 {f : Nat → Int32} (h0 : ¬ ((f 1) < 0)) : Run (5, f) 101 (0, [(0, .ref 16), (1, .int (f 1)), (2, .int (f 2))], [], HL0) (.inr 54, HJ1) := by
  refine R_p d101_0 rfl rfl ?_
  refine R_p d101_1 rfl rfl ?_
  exact R_tv [.int (f 1)] d101_2 (List.mem_of_getElem? (i := 86) rfl) ⟨by decide, by decide, Nat.le_of_ble_eq_true rfl, mcd102⟩ rfl rfl (Nat.le_of_ble_eq_true rfl) rfl rfl rfl (Or.inr (w64 (f := f) h0))
set_option maxRecDepth 4000 in
theorem w66 {f : Nat → Int32} (h0 : ¬ ((f 1) < 0)) : Run (5, f) 100 (0, [(0, .ref 16), (1, .int (f 1)), (2, .int (f 2))], [], HL0) (.inr 54, HJ1) := by
  refine R_p d100_0 rfl rfl ?_
  refine R_p d100_1 rfl rfl ?_
  refine R_p d100_2 rfl rfl ?_
  exact R_tv [.int (f 1), .int (f 2)] d100_3 (List.mem_of_getElem? (i := 85) rfl) ⟨by decide, by decide, Nat.le_of_ble_eq_true rfl, mcd101⟩ rfl rfl (Nat.le_of_ble_eq_true rfl) rfl rfl rfl (Or.inl (w65 (f := f) h0))
set_option maxRecDepth 4000 in
theorem w67 {f : Nat → Int32} (h0 : ¬ ((f 1) < 0)) : Run (5, f) 158 (0, [(0, .ref 16), (1, .int (f 1)), (2, .int (f 2)), (3, .ref 53)], [], HL0) (.inl (some (.int 1)), HJ1) := by
  refine R_p d158_0 rfl rfl ?_
  refine R_ic (v := 0) d158_1 (by decide) ?_
  refine R_p d158_2 rfl rfl ?_
  refine R_p d158_3 rfl rfl ?_
  refine R_p d158_4 rfl rfl ?_
  refine R_tc [.int (f 1), .int (f 2)] d158_5 (List.mem_of_getElem? (i := 84) rfl) ⟨by decide, by decide, Nat.le_of_ble_eq_true rfl, mcd100⟩ rfl rfl (Nat.le_of_ble_eq_true rfl) rfl rfl rfl (cx := 10) (hp := 20) rfl (by decide) (by decide) (by decide) (Or.inl (w66 (f := f) h0)) ?_
  refine R_p (ls' := [(0, .ref 16), (1, .int (f 1)), (2, .int (f 2)), (3, .ref 53), (4, .ref 54)]) d158_20 rfl rfl ?_
  refine R_ic (v := 1) d158_22 (by decide) ?_
  exact R_iret d158_23 rfl rfl rfl
set_option maxRecDepth 4000 in
theorem w68 {f : Nat → Int32} (h0 : ¬ ((f 1) < 0)) : Run (5, f) 116 (0, [(0, .int (f 1)), (1, .int 0), (2, .int (-1))], [], HJ1) (.inl (some (.int 0)), HJ1) := by
  refine R_p d116_0 rfl rfl ?_
  refine R_p d116_1 rfl rfl ?_
  refine R_nb d116_2 rfl (mb_f (b := ((f 1) < 0)) h0) ?_
  refine R_p d116_5 rfl rfl ?_
  refine R_p d116_6 rfl rfl ?_
  refine R_br 14 d116_7 (mb_t (b := ((-1) < (f 1))) (m1_lt h0)) rfl ?_
  refine R_ic (v := 0) d116_14 (by decide) ?_
  exact R_iret d116_15 rfl rfl rfl
set_option maxRecDepth 4000 in
theorem w69 {f : Nat → Int32} (h0 : ¬ ((f 1) < 0)) : Run (5, f) 122 (0, [(0, .ref 42), (1, .int (f 1))], [], HJ1) (.inl (some (.int 0)), HJ1) := by
  refine R_p d122_0 rfl rfl ?_
  refine R_ic (v := 0) d122_1 (by decide) ?_
  refine R_p d122_2 rfl rfl ?_
  refine R_get d122_3 (Or.inl (List.mem_of_getElem? (i := 49) rfl)) rfl rfl ?_
  refine R_ic (v := 1) d122_6 (by decide) ?_
  refine R_p d122_7 rfl rfl ?_
  refine R_nv (v := _) (v' := (-1)) (by decide) ?_
  refine R_cs [.int (f 1), .int 0, .int (-1)] d122_8 (List.mem_of_getElem? (i := 163) rfl) rfl ⟨by decide, by decide, Nat.le_of_ble_eq_true rfl, rfl, mcd116⟩ rfl rfl (Nat.le_of_ble_eq_true rfl) (w68 (f := f) h0) ?_
  exact R_iret d122_11 rfl rfl rfl
set_option maxRecDepth 4000 in
theorem w70 {f : Nat → Int32} (h0 : ¬ ((f 1) < 0)) : Run (5, f) 121 (0, [(0, .ref 42), (1, .int (f 1)), (2, .int (f 2))], [], HJ1) (.inl (some (.int 0)), HJ1) := by
  refine R_p d121_0 rfl rfl ?_
  refine R_p d121_1 rfl rfl ?_
  refine R_cm [.int (f 1)] d121_2 (List.mem_of_getElem? (i := 169) rfl) rfl ⟨by decide, by decide, Nat.le_of_ble_eq_true rfl, rfl, mcd122⟩ rfl rfl (Nat.le_of_ble_eq_true rfl) rfl rfl (w69 (f := f) h0) ?_
  refine R_br 25 d121_5 (mb_t (b := ((0 : Int32) = (0 : Int32))) (by decide)) rfl ?_
  refine R_ic (v := 0) d121_25 (by decide) ?_
  exact R_iret d121_26 rfl rfl rfl
set_option maxRecDepth 4000 in
theorem w71 {f : Nat → Int32} (h0 : ¬ ((f 1) < 0)) : Run (5, f) 120 (0, [(0, .ref 42), (1, .int (f 1)), (2, .int (f 2))], [], HJ1) (.inl (some (.int 0)), HJ2) := by
  refine R_p d120_0 rfl rfl ?_
  refine R_p d120_1 rfl rfl ?_
  refine R_p d120_2 rfl rfl ?_
  refine R_p d120_3 rfl rfl ?_
  refine R_cm [.int (f 1), .int (f 2)] d120_4 (List.mem_of_getElem? (i := 168) rfl) rfl ⟨by decide, by decide, Nat.le_of_ble_eq_true rfl, rfl, mcd121⟩ rfl rfl (Nat.le_of_ble_eq_true rfl) rfl rfl (w70 (f := f) h0) ?_
  refine R_br 14 d120_7 (mb_t (b := ((0 : Int32) = (0 : Int32))) (by decide)) rfl ?_
  refine R_ic (v := 1) d120_14 (by decide) ?_
  refine R_cm [.int 1] d120_15 (List.mem_of_getElem? (i := 164) rfl) rfl ⟨by decide, by decide, Nat.le_of_ble_eq_true rfl, rfl, mcd117⟩ rfl rfl (Nat.le_of_ble_eq_true rfl) rfl rfl (w6 (f := f)) ?_
  refine R_nb d120_18 rfl (mb_f (b := ((1 : Int32) = (0 : Int32))) (by decide)) ?_
  refine R_ic (v := 0) d120_21 (by decide) ?_
  exact R_iret d120_22 rfl rfl rfl
set_option maxRecDepth 4000 in
theorem law176_72 {f : Nat → Int32} (h0 : ¬ ((f 1) < 0)) : Run (5, f) 171 (176, [(0, .ref 0), (1, .ref 16), (2, .ref 42), (3, .ref 53), (4, .int 0)], [], HL0) (.inl (some (.int 1)), HJ2) := by
  refine R_p d171_176 rfl rfl ?_
  refine R_p d171_177 rfl rfl ?_
  refine R_p d171_178 rfl rfl ?_
  refine R_ic (v := 1) d171_180 (by decide) ?_
  refine R_p d171_181 rfl rfl ?_
  refine R_nv (v := _) (v' := 1) (by decide) ?_
  refine R_sldk (n := 1) (x := (f 1)) d171_182 (vp_ok (by decide)) (by decide) rfl ?_
  refine R_p d171_183 rfl rfl ?_
  refine R_p d171_184 rfl rfl ?_
  refine R_ic (v := 2) d171_186 (by decide) ?_
  refine R_p d171_187 rfl rfl ?_
  refine R_nv (v := _) (v' := 2) (by decide) ?_
  refine R_sldk (n := 2) (x := (f 2)) d171_188 (vp_ok (by decide)) (by decide) rfl ?_
  refine R_p d171_189 rfl rfl ?_
  refine R_hs [.ref 16, .int (f 1), .int (f 2), .ref 53] d171_190 (List.mem_of_getElem? (i := 83) rfl) ⟨by decide, by decide, Nat.le_of_ble_eq_true rfl, mcd158⟩ rfl rfl (Nat.le_of_ble_eq_true rfl) (w67 (f := f) h0) ?_
  refine R_p (ls' := [(0, .ref 0), (1, .ref 16), (2, .ref 42), (3, .ref 53), (4, .int 0), (5, .int 1)]) d171_193 rfl rfl ?_
  refine R_p d171_195 rfl rfl ?_
  refine R_p d171_196 rfl rfl ?_
  refine R_p d171_197 rfl rfl ?_
  refine R_ic (v := 1) d171_199 (by decide) ?_
  refine R_p d171_200 rfl rfl ?_
  refine R_nv (v := _) (v' := 1) (by decide) ?_
  refine R_sldk (n := 1) (x := (f 1)) d171_201 (vp_ok (by decide)) (by decide) rfl ?_
  refine R_p d171_202 rfl rfl ?_
  refine R_p d171_203 rfl rfl ?_
  refine R_ic (v := 2) d171_205 (by decide) ?_
  refine R_p d171_206 rfl rfl ?_
  refine R_nv (v := _) (v' := 2) (by decide) ?_
  refine R_sldk (n := 2) (x := (f 2)) d171_207 (vp_ok (by decide)) (by decide) rfl ?_
  refine R_cm [.int (f 1), .int (f 2)] d171_208 (List.mem_of_getElem? (i := 167) rfl) rfl ⟨by decide, by decide, Nat.le_of_ble_eq_true rfl, rfl, mcd120⟩ rfl rfl (Nat.le_of_ble_eq_true rfl) rfl rfl (w71 (f := f) h0) ?_
  refine R_p (ls' := [(0, .ref 0), (1, .ref 16), (2, .ref 42), (3, .ref 53), (4, .int 0), (5, .int 1), (6, .int 0)]) d171_211 rfl rfl ?_
  refine R_p d171_213 rfl rfl ?_
  refine R_cm [] d171_214 (List.mem_of_getElem? (i := 160) rfl) rfl ⟨by decide, by decide, Nat.le_of_ble_eq_true rfl, rfl, mcd113⟩ rfl rfl (Nat.le_of_ble_eq_true rfl) rfl rfl (w8 (f := f)) ?_
  refine R_p d171_217 rfl rfl ?_
  refine R_br 224 d171_219 (mb_t (b := ((1 : Int32) = (1 : Int32))) (by decide)) rfl ?_
  refine R_p d171_224 rfl rfl ?_
  refine R_br 248 d171_226 (mb_t (b := (¬ (1 : Int32) = (0 : Int32))) (by decide)) rfl ?_
  refine R_br 950 d171_248 rfl rfl ?_
  refine R_p (ls' := [(0, .ref 0), (1, .ref 16), (2, .ref 42), (3, .ref 53), (4, .int 5), (5, .int 1), (6, .int 0)]) d171_950 rfl rfl ?_
  refine R_br 23 d171_953 rfl rfl ?_
  refine R_p d171_23 rfl rfl ?_
  refine R_p d171_25 rfl rfl ?_
  refine R_sln d171_26 ?_
  refine R_nv (v := _) (v' := 5) (show Int32.ofNat 5 = 5 from by decide) ?_
  refine R_ic (v := 5) d171_27 (by decide) ?_
  refine R_p d171_28 rfl rfl ?_
  refine R_nv (v := _) (v' := 0) (by decide) ?_
  refine R_br 956 d171_29 (mb_t (b := ((0 : Int32) < (5 : Int32))) (by decide)) rfl ?_
  refine R_ic (v := 1) d171_956 (by decide) ?_
  exact R_iret d171_957 rfl rfl rfl
set_option maxRecDepth 4000 in
theorem w73 {f : Nat → Int32} (h0 : ((f 1) < 0)) : Run (5, f) 103 (0, [(0, .ref 16), (1, .int (f 1)), (2, .int (f 2))], [], HL0) (.inr 54, HJ1) := by
  refine R_p d103_0 rfl rfl ?_
  refine R_p d103_1 rfl rfl ?_
  refine R_p d103_2 rfl rfl ?_
  exact R_tv [.int (f 1), .int (f 2)] d103_3 (List.mem_of_getElem? (i := 85) rfl) ⟨by decide, by decide, Nat.le_of_ble_eq_true rfl, mcd101⟩ rfl rfl (Nat.le_of_ble_eq_true rfl) rfl rfl rfl (Or.inl (w55 (f := f) h0))
set_option maxRecDepth 4000 in
theorem w74 {f : Nat → Int32} (h0 : ((f 1) < 0)) : Run (5, f) 159 (0, [(0, .ref 16), (1, .int (f 1)), (2, .int (f 2)), (3, .ref 53)], [], HL0) (.inl (some (.int 1)), HJ1) := by
  refine R_p d159_0 rfl rfl ?_
  refine R_ic (v := 0) d159_1 (by decide) ?_
  refine R_p d159_2 rfl rfl ?_
  refine R_p d159_3 rfl rfl ?_
  refine R_p d159_4 rfl rfl ?_
  refine R_tc [.int (f 1), .int (f 2)] d159_5 (List.mem_of_getElem? (i := 105) rfl) ⟨by decide, by decide, Nat.le_of_ble_eq_true rfl, mcd103⟩ rfl rfl (Nat.le_of_ble_eq_true rfl) rfl rfl rfl (cx := 10) (hp := 20) rfl (by decide) (by decide) (by decide) (Or.inl (w73 (f := f) h0)) ?_
  refine R_p (ls' := [(0, .ref 16), (1, .int (f 1)), (2, .int (f 2)), (3, .ref 53), (4, .ref 54)]) d159_20 rfl rfl ?_
  refine R_ic (v := 1) d159_22 (by decide) ?_
  exact R_iret d159_23 rfl rfl rfl
set_option maxRecDepth 4000 in
theorem w75 {f : Nat → Int32} (h0 : ((f 1) < 0)) : Run (5, f) 125 (0, [(0, .ref 42), (1, .int (f 1)), (2, .int (f 2))], [], HJ1) (.inl (some (.int 0)), HJ2) := by
  refine R_p d125_0 rfl rfl ?_
  refine R_p d125_1 rfl rfl ?_
  refine R_p d125_2 rfl rfl ?_
  refine R_p d125_3 rfl rfl ?_
  refine R_cm [.int (f 1), .int (f 2)] d125_4 (List.mem_of_getElem? (i := 168) rfl) rfl ⟨by decide, by decide, Nat.le_of_ble_eq_true rfl, rfl, mcd121⟩ rfl rfl (Nat.le_of_ble_eq_true rfl) rfl rfl (w60 (f := f) h0) ?_
  refine R_br 14 d125_7 (mb_t (b := ((0 : Int32) = (0 : Int32))) (by decide)) rfl ?_
  refine R_ic (v := 1) d125_14 (by decide) ?_
  refine R_cm [.int 1] d125_15 (List.mem_of_getElem? (i := 164) rfl) rfl ⟨by decide, by decide, Nat.le_of_ble_eq_true rfl, rfl, mcd117⟩ rfl rfl (Nat.le_of_ble_eq_true rfl) rfl rfl (w6 (f := f)) ?_
  refine R_nb d125_18 rfl (mb_f (b := ((1 : Int32) = (0 : Int32))) (by decide)) ?_
  refine R_ic (v := 0) d125_21 (by decide) ?_
  exact R_iret d125_22 rfl rfl rfl
set_option maxRecDepth 4000 in
theorem law251_76 {f : Nat → Int32} (h0 : ((f 1) < 0)) : Run (5, f) 171 (251, [(0, .ref 0), (1, .ref 16), (2, .ref 42), (3, .ref 53), (4, .int 0)], [], HL0) (.inl (some (.int 1)), HJ2) := by
  refine R_p d171_251 rfl rfl ?_
  refine R_p d171_252 rfl rfl ?_
  refine R_p d171_253 rfl rfl ?_
  refine R_ic (v := 1) d171_255 (by decide) ?_
  refine R_p d171_256 rfl rfl ?_
  refine R_nv (v := _) (v' := 1) (by decide) ?_
  refine R_sldk (n := 1) (x := (f 1)) d171_257 (vp_ok (by decide)) (by decide) rfl ?_
  refine R_p d171_258 rfl rfl ?_
  refine R_p d171_259 rfl rfl ?_
  refine R_ic (v := 2) d171_261 (by decide) ?_
  refine R_p d171_262 rfl rfl ?_
  refine R_nv (v := _) (v' := 2) (by decide) ?_
  refine R_sldk (n := 2) (x := (f 2)) d171_263 (vp_ok (by decide)) (by decide) rfl ?_
  refine R_p d171_264 rfl rfl ?_
  refine R_hs [.ref 16, .int (f 1), .int (f 2), .ref 53] d171_265 (List.mem_of_getElem? (i := 104) rfl) ⟨by decide, by decide, Nat.le_of_ble_eq_true rfl, mcd159⟩ rfl rfl (Nat.le_of_ble_eq_true rfl) (w74 (f := f) h0) ?_
  refine R_p (ls' := [(0, .ref 0), (1, .ref 16), (2, .ref 42), (3, .ref 53), (4, .int 0), (5, .int 1)]) d171_268 rfl rfl ?_
  refine R_p d171_270 rfl rfl ?_
  refine R_p d171_271 rfl rfl ?_
  refine R_p d171_272 rfl rfl ?_
  refine R_ic (v := 1) d171_274 (by decide) ?_
  refine R_p d171_275 rfl rfl ?_
  refine R_nv (v := _) (v' := 1) (by decide) ?_
  refine R_sldk (n := 1) (x := (f 1)) d171_276 (vp_ok (by decide)) (by decide) rfl ?_
  refine R_p d171_277 rfl rfl ?_
  refine R_p d171_278 rfl rfl ?_
  refine R_ic (v := 2) d171_280 (by decide) ?_
  refine R_p d171_281 rfl rfl ?_
  refine R_nv (v := _) (v' := 2) (by decide) ?_
  refine R_sldk (n := 2) (x := (f 2)) d171_282 (vp_ok (by decide)) (by decide) rfl ?_
  refine R_cm [.int (f 1), .int (f 2)] d171_283 (List.mem_of_getElem? (i := 172) rfl) rfl ⟨by decide, by decide, Nat.le_of_ble_eq_true rfl, rfl, mcd125⟩ rfl rfl (Nat.le_of_ble_eq_true rfl) rfl rfl (w75 (f := f) h0) ?_
  refine R_p (ls' := [(0, .ref 0), (1, .ref 16), (2, .ref 42), (3, .ref 53), (4, .int 0), (5, .int 1), (6, .int 0)]) d171_286 rfl rfl ?_
  refine R_p d171_288 rfl rfl ?_
  refine R_cm [] d171_289 (List.mem_of_getElem? (i := 160) rfl) rfl ⟨by decide, by decide, Nat.le_of_ble_eq_true rfl, rfl, mcd113⟩ rfl rfl (Nat.le_of_ble_eq_true rfl) rfl rfl (w8 (f := f)) ?_
  refine R_p d171_292 rfl rfl ?_
  refine R_br 299 d171_294 (mb_t (b := ((1 : Int32) = (1 : Int32))) (by decide)) rfl ?_
  refine R_p d171_299 rfl rfl ?_
  refine R_br 323 d171_301 (mb_t (b := (¬ (1 : Int32) = (0 : Int32))) (by decide)) rfl ?_
  refine R_br 950 d171_323 rfl rfl ?_
  refine R_p (ls' := [(0, .ref 0), (1, .ref 16), (2, .ref 42), (3, .ref 53), (4, .int 5), (5, .int 1), (6, .int 0)]) d171_950 rfl rfl ?_
  refine R_br 23 d171_953 rfl rfl ?_
  refine R_p d171_23 rfl rfl ?_
  refine R_p d171_25 rfl rfl ?_
  refine R_sln d171_26 ?_
  refine R_nv (v := _) (v' := 5) (show Int32.ofNat 5 = 5 from by decide) ?_
  refine R_ic (v := 5) d171_27 (by decide) ?_
  refine R_p d171_28 rfl rfl ?_
  refine R_nv (v := _) (v' := 0) (by decide) ?_
  refine R_br 956 d171_29 (mb_t (b := ((0 : Int32) < (5 : Int32))) (by decide)) rfl ?_
  refine R_ic (v := 1) d171_956 (by decide) ?_
  exact R_iret d171_957 rfl rfl rfl
set_option maxRecDepth 4000 in
theorem w77 {f : Nat → Int32} (h0 : ¬ ((f 1) < 0)) : Run (5, f) 103 (0, [(0, .ref 16), (1, .int (f 1)), (2, .int (f 2))], [], HL0) (.inr 54, HJ1) := by
  refine R_p d103_0 rfl rfl ?_
  refine R_p d103_1 rfl rfl ?_
  refine R_p d103_2 rfl rfl ?_
  exact R_tv [.int (f 1), .int (f 2)] d103_3 (List.mem_of_getElem? (i := 85) rfl) ⟨by decide, by decide, Nat.le_of_ble_eq_true rfl, mcd101⟩ rfl rfl (Nat.le_of_ble_eq_true rfl) rfl rfl rfl (Or.inl (w65 (f := f) h0))
set_option maxRecDepth 4000 in
theorem w78 {f : Nat → Int32} (h0 : ¬ ((f 1) < 0)) : Run (5, f) 159 (0, [(0, .ref 16), (1, .int (f 1)), (2, .int (f 2)), (3, .ref 53)], [], HL0) (.inl (some (.int 1)), HJ1) := by
  refine R_p d159_0 rfl rfl ?_
  refine R_ic (v := 0) d159_1 (by decide) ?_
  refine R_p d159_2 rfl rfl ?_
  refine R_p d159_3 rfl rfl ?_
  refine R_p d159_4 rfl rfl ?_
  refine R_tc [.int (f 1), .int (f 2)] d159_5 (List.mem_of_getElem? (i := 105) rfl) ⟨by decide, by decide, Nat.le_of_ble_eq_true rfl, mcd103⟩ rfl rfl (Nat.le_of_ble_eq_true rfl) rfl rfl rfl (cx := 10) (hp := 20) rfl (by decide) (by decide) (by decide) (Or.inl (w77 (f := f) h0)) ?_
  refine R_p (ls' := [(0, .ref 16), (1, .int (f 1)), (2, .int (f 2)), (3, .ref 53), (4, .ref 54)]) d159_20 rfl rfl ?_
  refine R_ic (v := 1) d159_22 (by decide) ?_
  exact R_iret d159_23 rfl rfl rfl
set_option maxRecDepth 4000 in
theorem w79 {f : Nat → Int32} (h0 : ¬ ((f 1) < 0)) : Run (5, f) 125 (0, [(0, .ref 42), (1, .int (f 1)), (2, .int (f 2))], [], HJ1) (.inl (some (.int 0)), HJ2) := by
  refine R_p d125_0 rfl rfl ?_
  refine R_p d125_1 rfl rfl ?_
  refine R_p d125_2 rfl rfl ?_
  refine R_p d125_3 rfl rfl ?_
  refine R_cm [.int (f 1), .int (f 2)] d125_4 (List.mem_of_getElem? (i := 168) rfl) rfl ⟨by decide, by decide, Nat.le_of_ble_eq_true rfl, rfl, mcd121⟩ rfl rfl (Nat.le_of_ble_eq_true rfl) rfl rfl (w70 (f := f) h0) ?_
  refine R_br 14 d125_7 (mb_t (b := ((0 : Int32) = (0 : Int32))) (by decide)) rfl ?_
  refine R_ic (v := 1) d125_14 (by decide) ?_
  refine R_cm [.int 1] d125_15 (List.mem_of_getElem? (i := 164) rfl) rfl ⟨by decide, by decide, Nat.le_of_ble_eq_true rfl, rfl, mcd117⟩ rfl rfl (Nat.le_of_ble_eq_true rfl) rfl rfl (w6 (f := f)) ?_
  refine R_nb d125_18 rfl (mb_f (b := ((1 : Int32) = (0 : Int32))) (by decide)) ?_
  refine R_ic (v := 0) d125_21 (by decide) ?_
  exact R_iret d125_22 rfl rfl rfl
set_option maxRecDepth 4000 in
theorem law251_80 {f : Nat → Int32} (h0 : ¬ ((f 1) < 0)) : Run (5, f) 171 (251, [(0, .ref 0), (1, .ref 16), (2, .ref 42), (3, .ref 53), (4, .int 0)], [], HL0) (.inl (some (.int 1)), HJ2) := by
  refine R_p d171_251 rfl rfl ?_
  refine R_p d171_252 rfl rfl ?_
  refine R_p d171_253 rfl rfl ?_
  refine R_ic (v := 1) d171_255 (by decide) ?_
  refine R_p d171_256 rfl rfl ?_
  refine R_nv (v := _) (v' := 1) (by decide) ?_
  refine R_sldk (n := 1) (x := (f 1)) d171_257 (vp_ok (by decide)) (by decide) rfl ?_
  refine R_p d171_258 rfl rfl ?_
  refine R_p d171_259 rfl rfl ?_
  refine R_ic (v := 2) d171_261 (by decide) ?_
  refine R_p d171_262 rfl rfl ?_
  refine R_nv (v := _) (v' := 2) (by decide) ?_
  refine R_sldk (n := 2) (x := (f 2)) d171_263 (vp_ok (by decide)) (by decide) rfl ?_
  refine R_p d171_264 rfl rfl ?_
  refine R_hs [.ref 16, .int (f 1), .int (f 2), .ref 53] d171_265 (List.mem_of_getElem? (i := 104) rfl) ⟨by decide, by decide, Nat.le_of_ble_eq_true rfl, mcd159⟩ rfl rfl (Nat.le_of_ble_eq_true rfl) (w78 (f := f) h0) ?_
  refine R_p (ls' := [(0, .ref 0), (1, .ref 16), (2, .ref 42), (3, .ref 53), (4, .int 0), (5, .int 1)]) d171_268 rfl rfl ?_
  refine R_p d171_270 rfl rfl ?_
  refine R_p d171_271 rfl rfl ?_
  refine R_p d171_272 rfl rfl ?_
  refine R_ic (v := 1) d171_274 (by decide) ?_
  refine R_p d171_275 rfl rfl ?_
  refine R_nv (v := _) (v' := 1) (by decide) ?_
  refine R_sldk (n := 1) (x := (f 1)) d171_276 (vp_ok (by decide)) (by decide) rfl ?_
  refine R_p d171_277 rfl rfl ?_
  refine R_p d171_278 rfl rfl ?_
  refine R_ic (v := 2) d171_280 (by decide) ?_
  refine R_p d171_281 rfl rfl ?_
  refine R_nv (v := _) (v' := 2) (by decide) ?_
  refine R_sldk (n := 2) (x := (f 2)) d171_282 (vp_ok (by decide)) (by decide) rfl ?_
  refine R_cm [.int (f 1), .int (f 2)] d171_283 (List.mem_of_getElem? (i := 172) rfl) rfl ⟨by decide, by decide, Nat.le_of_ble_eq_true rfl, rfl, mcd125⟩ rfl rfl (Nat.le_of_ble_eq_true rfl) rfl rfl (w79 (f := f) h0) ?_
  refine R_p (ls' := [(0, .ref 0), (1, .ref 16), (2, .ref 42), (3, .ref 53), (4, .int 0), (5, .int 1), (6, .int 0)]) d171_286 rfl rfl ?_
  refine R_p d171_288 rfl rfl ?_
  refine R_cm [] d171_289 (List.mem_of_getElem? (i := 160) rfl) rfl ⟨by decide, by decide, Nat.le_of_ble_eq_true rfl, rfl, mcd113⟩ rfl rfl (Nat.le_of_ble_eq_true rfl) rfl rfl (w8 (f := f)) ?_
  refine R_p d171_292 rfl rfl ?_
  refine R_br 299 d171_294 (mb_t (b := ((1 : Int32) = (1 : Int32))) (by decide)) rfl ?_
  refine R_p d171_299 rfl rfl ?_
  refine R_br 323 d171_301 (mb_t (b := (¬ (1 : Int32) = (0 : Int32))) (by decide)) rfl ?_
  refine R_br 950 d171_323 rfl rfl ?_
  refine R_p (ls' := [(0, .ref 0), (1, .ref 16), (2, .ref 42), (3, .ref 53), (4, .int 5), (5, .int 1), (6, .int 0)]) d171_950 rfl rfl ?_
  refine R_br 23 d171_953 rfl rfl ?_
  refine R_p d171_23 rfl rfl ?_
  refine R_p d171_25 rfl rfl ?_
  refine R_sln d171_26 ?_
  refine R_nv (v := _) (v' := 5) (show Int32.ofNat 5 = 5 from by decide) ?_
  refine R_ic (v := 5) d171_27 (by decide) ?_
  refine R_p d171_28 rfl rfl ?_
  refine R_nv (v := _) (v' := 0) (by decide) ?_
  refine R_br 956 d171_29 (mb_t (b := ((0 : Int32) < (5 : Int32))) (by decide)) rfl ?_
  refine R_ic (v := 1) d171_956 (by decide) ?_
  exact R_iret d171_957 rfl rfl rfl
set_option maxRecDepth 4000 in
theorem w81 {f : Nat → Int32} : Run (5, f) 67 (0, [(0, .ref 17)], [], HL0) (.inl none, HL0) := by
  refine R_p d67_0 rfl rfl ?_
  refine R_ic (v := 0) d67_1 (by decide) ?_
  refine R_put d67_2 (List.mem_of_getElem? (i := 6) rfl) rfl (by decide) rfl rfl (Or.inl rfl) ?_
  exact R_vret d67_5 rfl rfl
set_option maxRecDepth 4000 in
theorem w82 {f : Nat → Int32} : Run (5, f) 36 (0, [(0, .ref 21)], [], HL0) (.inl none, HJ8) := by
  refine R_p d36_0 rfl rfl ?_
  refine R_get d36_1 (Or.inl (List.mem_of_getElem? (i := 8) rfl)) rfl rfl ?_
  refine R_lc (v := 0) d36_4 (by decide) ?_
  refine R_cs [.ref 22, .long 0] d36_5 (List.mem_of_getElem? (i := 14) rfl) rfl ⟨by decide, by decide, Nat.le_of_ble_eq_true rfl, rfl, mcd168⟩ rfl rfl (Nat.le_of_ble_eq_true rfl) (t_fillL (by decide) rfl) ?_
  refine R_p d36_8 rfl rfl ?_
  refine R_ic (v := 0) d36_9 (by decide) ?_
  refine R_put d36_10 (List.mem_of_getElem? (i := 9) rfl) rfl (by decide) rfl rfl (Or.inl rfl) ?_
  exact R_vret d36_13 rfl rfl
set_option maxRecDepth 4000 in
theorem w83 {f : Nat → Int32} : Run (5, f) 45 (0, [(0, .ref 23)], [], HJ8) (.inl none, HJ9) := by
  refine R_p d45_0 rfl rfl ?_
  refine R_get d45_1 (Or.inl (List.mem_of_getElem? (i := 12) rfl)) rfl rfl ?_
  refine R_ic (v := (-1)) d45_4 (by decide) ?_
  refine R_cs [.ref 24, .int (-1)] d45_5 (List.mem_of_getElem? (i := 5) rfl) rfl ⟨by decide, by decide, Nat.le_of_ble_eq_true rfl, rfl, mcd167⟩ rfl rfl (Nat.le_of_ble_eq_true rfl) (t_fillI (by decide) rfl) ?_
  refine R_p d45_8 rfl rfl ?_
  refine R_ic (v := 0) d45_9 (by decide) ?_
  refine R_put d45_10 (List.mem_of_getElem? (i := 15) rfl) rfl (by decide) rfl rfl (Or.inl rfl) ?_
  exact R_vret d45_13 rfl rfl
set_option maxRecDepth 4000 in
theorem w84 {f : Nat → Int32} : Run (5, f) 92 (0, [(0, .ref 16)], [], HL0) (.inl (some (.int 0)), HJ9) := by
  refine R_p d92_0 rfl rfl ?_
  refine R_get d92_1 (Or.inl (List.mem_of_getElem? (i := 43) rfl)) rfl rfl ?_
  refine R_cm [] d92_4 (List.mem_of_getElem? (i := 11) rfl) rfl ⟨by decide, by decide, Nat.le_of_ble_eq_true rfl, rfl, mcd66⟩ rfl rfl (Nat.le_of_ble_eq_true rfl) rfl rfl (w33 (f := f)) ?_
  refine R_p (ls' := [(0, .ref 16), (1, .int 0)]) d92_7 rfl rfl ?_
  refine R_p d92_8 rfl rfl ?_
  refine R_get d92_9 (Or.inl (List.mem_of_getElem? (i := 43) rfl)) rfl rfl ?_
  refine R_cm [] d92_12 (List.mem_of_getElem? (i := 12) rfl) rfl ⟨by decide, by decide, Nat.le_of_ble_eq_true rfl, rfl, mcd67⟩ rfl rfl (Nat.le_of_ble_eq_true rfl) rfl rfl (w81 (f := f)) ?_
  refine R_p d92_15 rfl rfl ?_
  refine R_get d92_16 (Or.inl (List.mem_of_getElem? (i := 44) rfl)) rfl rfl ?_
  refine R_cm [] d92_19 (List.mem_of_getElem? (i := 13) rfl) rfl ⟨by decide, by decide, Nat.le_of_ble_eq_true rfl, rfl, mcd36⟩ rfl rfl (Nat.le_of_ble_eq_true rfl) rfl rfl (w82 (f := f)) ?_
  refine R_p d92_22 rfl rfl ?_
  refine R_get d92_23 (Or.inl (List.mem_of_getElem? (i := 45) rfl)) rfl rfl ?_
  refine R_cm [] d92_26 (List.mem_of_getElem? (i := 15) rfl) rfl ⟨by decide, by decide, Nat.le_of_ble_eq_true rfl, rfl, mcd45⟩ rfl rfl (Nat.le_of_ble_eq_true rfl) rfl rfl (w83 (f := f)) ?_
  refine R_p d92_29 rfl rfl ?_
  exact R_iret d92_30 rfl rfl rfl
set_option maxRecDepth 4000 in
theorem w85 {f : Nat → Int32} : Run (5, f) 126 (0, [(0, .ref 42)], [], HJ9) (.inl (some (.int 0)), HJ10) := by
  refine R_p d126_0 rfl rfl ?_
  refine R_ic (v := 0) d126_1 (by decide) ?_
  refine R_put d126_2 (List.mem_of_getElem? (i := 48) rfl) rfl (by decide) rfl rfl (Or.inl rfl) ?_
  refine R_p d126_5 rfl rfl ?_
  refine R_get d126_6 (Or.inl (List.mem_of_getElem? (i := 49) rfl)) rfl rfl ?_
  refine R_p (ls' := [(0, .ref 42), (1, .int 0)]) d126_9 rfl rfl ?_
  refine R_p d126_10 rfl rfl ?_
  refine R_ic (v := 0) d126_11 (by decide) ?_
  refine R_put d126_12 (List.mem_of_getElem? (i := 49) rfl) rfl (by decide) rfl rfl (Or.inl rfl) ?_
  refine R_ic (v := 0) d126_15 (by decide) ?_
  refine R_p (ls' := [(0, .ref 42), (1, .int 0), (2, .int 0)]) d126_16 rfl rfl ?_
  refine R_h HJ9 rfl ?_
  refine R_clearLoop rfl rfl rfl ?_
  refine R_p d126_37 rfl rfl ?_
  refine R_ic (v := 0) d126_38 (by decide) ?_
  refine R_put d126_39 (List.mem_of_getElem? (i := 54) rfl) rfl (by decide) (by decide) (by decide) (Or.inl rfl) ?_
  refine R_p d126_42 rfl rfl ?_
  exact R_iret d126_43 rfl rfl rfl
set_option maxRecDepth 4000 in
theorem law326_86 {f : Nat → Int32} : Run (5, f) 171 (326, [(0, .ref 0), (1, .ref 16), (2, .ref 42), (3, .ref 53), (4, .int 0)], [], HL0) (.inl (some (.int 1)), HJ10) := by
  refine R_p d171_326 rfl rfl ?_
  refine R_cm [] d171_327 (List.mem_of_getElem? (i := 10) rfl) rfl ⟨by decide, by decide, Nat.le_of_ble_eq_true rfl, rfl, mcd92⟩ rfl rfl (Nat.le_of_ble_eq_true rfl) rfl rfl (w84 (f := f)) ?_
  refine R_p d171_330 rfl rfl ?_
  refine R_cm [] d171_331 (List.mem_of_getElem? (i := 173) rfl) rfl ⟨by decide, by decide, Nat.le_of_ble_eq_true rfl, rfl, mcd126⟩ rfl rfl (Nat.le_of_ble_eq_true rfl) rfl rfl (w85 (f := f)) ?_
  refine R_br 950 d171_334 (mb_t (b := ((0 : Int32) = (0 : Int32))) (by decide)) rfl ?_
  refine R_p (ls' := [(0, .ref 0), (1, .ref 16), (2, .ref 42), (3, .ref 53), (4, .int 5)]) d171_950 rfl rfl ?_
  refine R_br 23 d171_953 rfl rfl ?_
  refine R_p d171_23 rfl rfl ?_
  refine R_p d171_25 rfl rfl ?_
  refine R_sln d171_26 ?_
  refine R_nv (v := _) (v' := 5) (show Int32.ofNat 5 = 5 from by decide) ?_
  refine R_ic (v := 5) d171_27 (by decide) ?_
  refine R_p d171_28 rfl rfl ?_
  refine R_nv (v := _) (v' := 0) (by decide) ?_
  refine R_br 956 d171_29 (mb_t (b := ((0 : Int32) < (5 : Int32))) (by decide)) rfl ?_
  refine R_ic (v := 1) d171_956 (by decide) ?_
  exact R_iret d171_957 rfl rfl rfl
set_option maxRecDepth 4000 in
theorem w87 {f : Nat → Int32} : Run (5, f) 93 (0, [(0, .ref 16), (1, .int 0)], [], HL0) (.inl (some (.int 0)), HL0) := by
  refine R_p d93_0 rfl rfl ?_
  refine R_swi 36 d93_1 (by decide) (by decide) rfl rfl ?_
  refine R_p d93_36 rfl rfl ?_
  refine R_get d93_37 (Or.inl (List.mem_of_getElem? (i := 43) rfl)) rfl rfl ?_
  refine R_cm [] d93_40 (List.mem_of_getElem? (i := 11) rfl) rfl ⟨by decide, by decide, Nat.le_of_ble_eq_true rfl, rfl, mcd66⟩ rfl rfl (Nat.le_of_ble_eq_true rfl) rfl rfl (w33 (f := f)) ?_
  exact R_iret d93_43 rfl rfl rfl
set_option maxRecDepth 4000 in
theorem w88 {f : Nat → Int32} : Run (5, f) 129 (0, [(0, .ref 42)], [], HJ12) (.inl (some (.int 1)), HJ12) := by
  refine R_ic (v := 1) d129_0 (by decide) ?_
  refine R_p (ls' := [(0, .ref 42), (1, .int 1)]) d129_1 rfl rfl ?_
  refine R_ic (v := 2) d129_2 (by decide) ?_
  refine R_p (ls' := [(0, .ref 42), (1, .int 1), (2, .int 2)]) d129_3 rfl rfl ?_
  refine R_p d129_4 rfl rfl ?_
  refine R_p d129_5 rfl rfl ?_
  refine R_get d129_6 (Or.inl (List.mem_of_getElem? (i := 49) rfl)) rfl rfl ?_
  refine R_br 38 d129_9 (mb_t (b := ((0 : Int32) ≤ (2 : Int32))) (by decide)) rfl ?_
  refine R_p d129_38 rfl rfl ?_
  exact R_iret d129_39 rfl rfl rfl
set_option maxRecDepth 4000 in
theorem w89 {f : Nat → Int32} : Run (5, f) 128 (0, [(0, .ref 42)], [], HL0) (.inl none, HJ12) := by
  refine R_p d128_0 rfl rfl ?_
  refine R_get d128_1 (Or.inl (List.mem_of_getElem? (i := 54) rfl)) rfl rfl ?_
  refine R_br 8 d128_4 (mb_t (b := ((0 : Int32) = (0 : Int32))) (by decide)) rfl ?_
  refine R_p d128_8 rfl rfl ?_
  refine R_ic (v := 1) d128_9 (by decide) ?_
  refine R_put d128_10 (List.mem_of_getElem? (i := 54) rfl) rfl (by decide) (by decide) (by decide) (Or.inl rfl) ?_
  refine R_p d128_13 rfl rfl ?_
  refine R_ic (v := 0) d128_14 (by decide) ?_
  refine R_put d128_15 (List.mem_of_getElem? (i := 55) rfl) rfl (by decide) rfl rfl (Or.inl rfl) ?_
  refine R_ic (v := 0) d128_18 (by decide) ?_
  refine R_p (ls' := [(0, .ref 42), (1, .int 0)]) d128_19 rfl rfl ?_
  refine R_h HJ11 rfl ?_
  refine R_meshCopy rfl rfl rfl rfl rfl ?_
  refine R_p d128_45 rfl rfl ?_
  refine R_cm [] d128_46 (List.mem_of_getElem? (i := 176) rfl) rfl ⟨by decide, by decide, Nat.le_of_ble_eq_true rfl, rfl, mcd129⟩ rfl rfl (Nat.le_of_ble_eq_true rfl) rfl rfl (w88 (f := f)) ?_
  refine R_nb d128_49 rfl (mb_f (b := ((1 : Int32) = (0 : Int32))) (by decide)) ?_
  exact R_vret d128_52 rfl rfl
set_option maxRecDepth 4000 in
theorem w90 {f : Nat → Int32} : Run (5, f) 127 (0, [(0, .ref 42), (1, .int 0)], [], HL0) (.inl (some (.int 0)), HJ12) := by
  refine R_p d127_0 rfl rfl ?_
  refine R_ic (v := 0) d127_1 (by decide) ?_
  refine R_put d127_2 (List.mem_of_getElem? (i := 48) rfl) rfl (by decide) rfl rfl (Or.inl rfl) ?_
  refine R_p d127_5 rfl rfl ?_
  refine R_cm [] d127_6 (List.mem_of_getElem? (i := 175) rfl) rfl ⟨by decide, by decide, Nat.le_of_ble_eq_true rfl, rfl, mcd128⟩ rfl rfl (Nat.le_of_ble_eq_true rfl) rfl rfl (w89 (f := f)) ?_
  refine R_p d127_9 rfl rfl ?_
  refine R_br 18 d127_10 (mb_t (b := ((0 : Int32) = (0 : Int32))) (by decide)) rfl ?_
  refine R_p d127_18 rfl rfl ?_
  refine R_nb d127_19 rfl (mb_f (b := (¬ (0 : Int32) = (0 : Int32))) (fun q => q (by decide))) ?_
  refine R_p d127_22 rfl rfl ?_
  refine R_get d127_23 (Or.inl (List.mem_of_getElem? (i := 49) rfl)) rfl rfl ?_
  refine R_br 33 d127_26 rfl rfl ?_
  exact R_iret d127_33 rfl rfl rfl
set_option maxRecDepth 4000 in
theorem law339_91 {f : Nat → Int32} (h0 : ((f 1) = 0)) : Run (5, f) 171 (339, [(0, .ref 0), (1, .ref 16), (2, .ref 42), (3, .ref 53), (4, .int 0)], [], HL0) (.inl (some (.int 1)), HJ12) := by
  refine R_p d171_339 rfl rfl ?_
  refine R_p d171_340 rfl rfl ?_
  refine R_p d171_341 rfl rfl ?_
  refine R_ic (v := 1) d171_343 (by decide) ?_
  refine R_p d171_344 rfl rfl ?_
  refine R_nv (v := _) (v' := 1) (by decide) ?_
  refine R_sldk (n := 1) (x := 0) d171_345 (vp_ok (by decide)) (by decide) h0 ?_
  refine R_cm [.int 0] d171_346 (List.mem_of_getElem? (i := 16) rfl) rfl ⟨by decide, by decide, Nat.le_of_ble_eq_true rfl, rfl, mcd93⟩ rfl rfl (Nat.le_of_ble_eq_true rfl) rfl rfl (w87 (f := f)) ?_
  refine R_p d171_349 rfl rfl ?_
  refine R_p d171_350 rfl rfl ?_
  refine R_p d171_351 rfl rfl ?_
  refine R_ic (v := 1) d171_353 (by decide) ?_
  refine R_p d171_354 rfl rfl ?_
  refine R_nv (v := _) (v' := 1) (by decide) ?_
  refine R_sldk (n := 1) (x := 0) d171_355 (vp_ok (by decide)) (by decide) h0 ?_
  refine R_cm [.int 0] d171_356 (List.mem_of_getElem? (i := 174) rfl) rfl ⟨by decide, by decide, Nat.le_of_ble_eq_true rfl, rfl, mcd127⟩ rfl rfl (Nat.le_of_ble_eq_true rfl) rfl rfl (w90 (f := f)) ?_
  refine R_br 950 d171_359 (mb_t (b := ((0 : Int32) = (0 : Int32))) (by decide)) rfl ?_
  refine R_p (ls' := [(0, .ref 0), (1, .ref 16), (2, .ref 42), (3, .ref 53), (4, .int 5)]) d171_950 rfl rfl ?_
  refine R_br 23 d171_953 rfl rfl ?_
  refine R_p d171_23 rfl rfl ?_
  refine R_p d171_25 rfl rfl ?_
  refine R_sln d171_26 ?_
  refine R_nv (v := _) (v' := 5) (show Int32.ofNat 5 = 5 from by decide) ?_
  refine R_ic (v := 5) d171_27 (by decide) ?_
  refine R_p d171_28 rfl rfl ?_
  refine R_nv (v := _) (v' := 0) (by decide) ?_
  refine R_br 956 d171_29 (mb_t (b := ((0 : Int32) < (5 : Int32))) (by decide)) rfl ?_
  refine R_ic (v := 1) d171_956 (by decide) ?_
  exact R_iret d171_957 rfl rfl rfl
set_option maxRecDepth 4000 in
theorem w92 {f : Nat → Int32} : Run (5, f) 37 (0, [(0, .ref 21)], [], HL0) (.inl (some (.int 0)), HL0) := by
  refine R_p d37_0 rfl rfl ?_
  refine R_get d37_1 (Or.inl (List.mem_of_getElem? (i := 9) rfl)) rfl rfl ?_
  exact R_iret d37_4 rfl rfl rfl
set_option maxRecDepth 4000 in
theorem w93 {f : Nat → Int32} : Run (5, f) 93 (0, [(0, .ref 16), (1, .int 1)], [], HL0) (.inl (some (.int 0)), HL0) := by
  refine R_p d93_0 rfl rfl ?_
  refine R_swi 44 d93_1 (by decide) (by decide) rfl rfl ?_
  refine R_p d93_44 rfl rfl ?_
  refine R_get d93_45 (Or.inl (List.mem_of_getElem? (i := 44) rfl)) rfl rfl ?_
  refine R_cm [] d93_48 (List.mem_of_getElem? (i := 17) rfl) rfl ⟨by decide, by decide, Nat.le_of_ble_eq_true rfl, rfl, mcd37⟩ rfl rfl (Nat.le_of_ble_eq_true rfl) rfl rfl (w92 (f := f)) ?_
  exact R_iret d93_51 rfl rfl rfl
set_option maxRecDepth 4000 in
theorem w94 {f : Nat → Int32} : Run (5, f) 127 (0, [(0, .ref 42), (1, .int 1)], [], HL0) (.inl (some (.int 0)), HJ12) := by
  refine R_p d127_0 rfl rfl ?_
  refine R_ic (v := 0) d127_1 (by decide) ?_
  refine R_put d127_2 (List.mem_of_getElem? (i := 48) rfl) rfl (by decide) rfl rfl (Or.inl rfl) ?_
  refine R_p d127_5 rfl rfl ?_
  refine R_cm [] d127_6 (List.mem_of_getElem? (i := 175) rfl) rfl ⟨by decide, by decide, Nat.le_of_ble_eq_true rfl, rfl, mcd128⟩ rfl rfl (Nat.le_of_ble_eq_true rfl) rfl rfl (w89 (f := f)) ?_
  refine R_p d127_9 rfl rfl ?_
  refine R_nb d127_10 rfl (mb_f (b := ((1 : Int32) = (0 : Int32))) (by decide)) ?_
  refine R_p d127_13 rfl rfl ?_
  refine R_ic (v := 2) d127_14 (by decide) ?_
  refine R_br 34 d127_15 (mb_t (b := (¬ (1 : Int32) = (2 : Int32))) (by decide)) rfl ?_
  refine R_ic (v := 0) d127_34 (by decide) ?_
  refine R_p (ls' := [(0, .ref 42), (1, .int 1), (2, .int 0)]) d127_35 rfl rfl ?_
  refine R_ic (v := 0) d127_36 (by decide) ?_
  refine R_p (ls' := [(0, .ref 42), (1, .int 1), (2, .int 0), (3, .int 0)]) d127_37 rfl rfl ?_
  refine R_p d127_38 rfl rfl ?_
  refine R_p d127_39 rfl rfl ?_
  refine R_get d127_40 (Or.inl (List.mem_of_getElem? (i := 49) rfl)) rfl rfl ?_
  refine R_br 171 d127_43 (mb_t (b := ((0 : Int32) ≤ (0 : Int32))) (by decide)) rfl ?_
  refine R_p d127_171 rfl rfl ?_
  refine R_ic (v := 1) d127_172 (by decide) ?_
  refine R_br 186 d127_173 (mb_t (b := ((1 : Int32) = (1 : Int32))) (by decide)) rfl ?_
  refine R_p d127_186 rfl rfl ?_
  refine R_br 191 d127_187 rfl rfl ?_
  exact R_iret d127_191 rfl rfl rfl
set_option maxRecDepth 4000 in
theorem law339_95 {f : Nat → Int32} (h0 : ¬ ((f 1) = 0)) (h1 : ((f 1) = 1)) : Run (5, f) 171 (339, [(0, .ref 0), (1, .ref 16), (2, .ref 42), (3, .ref 53), (4, .int 0)], [], HL0) (.inl (some (.int 1)), HJ12) := by
  refine R_p d171_339 rfl rfl ?_
  refine R_p d171_340 rfl rfl ?_
  refine R_p d171_341 rfl rfl ?_
  refine R_ic (v := 1) d171_343 (by decide) ?_
  refine R_p d171_344 rfl rfl ?_
  refine R_nv (v := _) (v' := 1) (by decide) ?_
  refine R_sldk (n := 1) (x := 1) d171_345 (vp_ok (by decide)) (by decide) h1 ?_
  refine R_cm [.int 1] d171_346 (List.mem_of_getElem? (i := 16) rfl) rfl ⟨by decide, by decide, Nat.le_of_ble_eq_true rfl, rfl, mcd93⟩ rfl rfl (Nat.le_of_ble_eq_true rfl) rfl rfl (w93 (f := f)) ?_
  refine R_p d171_349 rfl rfl ?_
  refine R_p d171_350 rfl rfl ?_
  refine R_p d171_351 rfl rfl ?_
  refine R_ic (v := 1) d171_353 (by decide) ?_
  refine R_p d171_354 rfl rfl ?_
  refine R_nv (v := _) (v' := 1) (by decide) ?_
  refine R_sldk (n := 1) (x := 1) d171_355 (vp_ok (by decide)) (by decide) h1 ?_
  refine R_cm [.int 1] d171_356 (List.mem_of_getElem? (i := 174) rfl) rfl ⟨by decide, by decide, Nat.le_of_ble_eq_true rfl, rfl, mcd127⟩ rfl rfl (Nat.le_of_ble_eq_true rfl) rfl rfl (w94 (f := f)) ?_
  refine R_br 950 d171_359 (mb_t (b := ((0 : Int32) = (0 : Int32))) (by decide)) rfl ?_
  refine R_p (ls' := [(0, .ref 0), (1, .ref 16), (2, .ref 42), (3, .ref 53), (4, .int 5)]) d171_950 rfl rfl ?_
  refine R_br 23 d171_953 rfl rfl ?_
  refine R_p d171_23 rfl rfl ?_
  refine R_p d171_25 rfl rfl ?_
  refine R_sln d171_26 ?_
  refine R_nv (v := _) (v' := 5) (show Int32.ofNat 5 = 5 from by decide) ?_
  refine R_ic (v := 5) d171_27 (by decide) ?_
  refine R_p d171_28 rfl rfl ?_
  refine R_nv (v := _) (v' := 0) (by decide) ?_
  refine R_br 956 d171_29 (mb_t (b := ((0 : Int32) < (5 : Int32))) (by decide)) rfl ?_
  refine R_ic (v := 1) d171_956 (by decide) ?_
  exact R_iret d171_957 rfl rfl rfl
set_option maxRecDepth 4000 in
theorem w96 {f : Nat → Int32} : Run (5, f) 46 (0, [(0, .ref 23)], [], HL0) (.inl (some (.int 0)), HL0) := by
  refine R_p d46_0 rfl rfl ?_
  refine R_get d46_1 (Or.inl (List.mem_of_getElem? (i := 15) rfl)) rfl rfl ?_
  exact R_iret d46_4 rfl rfl rfl
set_option maxRecDepth 4000 in
theorem w97 {f : Nat → Int32} : Run (5, f) 93 (0, [(0, .ref 16), (1, .int 2)], [], HL0) (.inl (some (.int 0)), HL0) := by
  refine R_p d93_0 rfl rfl ?_
  refine R_swi 52 d93_1 (by decide) (by decide) rfl rfl ?_
  refine R_p d93_52 rfl rfl ?_
  refine R_get d93_53 (Or.inl (List.mem_of_getElem? (i := 45) rfl)) rfl rfl ?_
  refine R_cm [] d93_56 (List.mem_of_getElem? (i := 18) rfl) rfl ⟨by decide, by decide, Nat.le_of_ble_eq_true rfl, rfl, mcd46⟩ rfl rfl (Nat.le_of_ble_eq_true rfl) rfl rfl (w96 (f := f)) ?_
  exact R_iret d93_59 rfl rfl rfl
set_option maxRecDepth 4000 in
theorem w98 {f : Nat → Int32} : Run (5, f) 127 (0, [(0, .ref 42), (1, .int 2)], [], HL0) (.inl (some (.int 0)), HJ12) := by
  refine R_p d127_0 rfl rfl ?_
  refine R_ic (v := 0) d127_1 (by decide) ?_
  refine R_put d127_2 (List.mem_of_getElem? (i := 48) rfl) rfl (by decide) rfl rfl (Or.inl rfl) ?_
  refine R_p d127_5 rfl rfl ?_
  refine R_cm [] d127_6 (List.mem_of_getElem? (i := 175) rfl) rfl ⟨by decide, by decide, Nat.le_of_ble_eq_true rfl, rfl, mcd128⟩ rfl rfl (Nat.le_of_ble_eq_true rfl) rfl rfl (w89 (f := f)) ?_
  refine R_p d127_9 rfl rfl ?_
  refine R_nb d127_10 rfl (mb_f (b := ((2 : Int32) = (0 : Int32))) (by decide)) ?_
  refine R_p d127_13 rfl rfl ?_
  refine R_ic (v := 2) d127_14 (by decide) ?_
  refine R_nb d127_15 rfl (mb_f (b := (¬ (2 : Int32) = (2 : Int32))) (fun q => q (by decide))) ?_
  refine R_p d127_18 rfl rfl ?_
  refine R_br 29 d127_19 (mb_t (b := (¬ (2 : Int32) = (0 : Int32))) (by decide)) rfl ?_
  refine R_p d127_29 rfl rfl ?_
  refine R_get d127_30 (Or.inl (List.mem_of_getElem? (i := 55) rfl)) rfl rfl ?_
  exact R_iret d127_33 rfl rfl rfl
set_option maxRecDepth 4000 in
theorem law339_99 {f : Nat → Int32} (h0 : ¬ ((f 1) = 0)) (h1 : ¬ ((f 1) = 1)) (h2 : ((f 1) = 2)) : Run (5, f) 171 (339, [(0, .ref 0), (1, .ref 16), (2, .ref 42), (3, .ref 53), (4, .int 0)], [], HL0) (.inl (some (.int 1)), HJ12) := by
  refine R_p d171_339 rfl rfl ?_
  refine R_p d171_340 rfl rfl ?_
  refine R_p d171_341 rfl rfl ?_
  refine R_ic (v := 1) d171_343 (by decide) ?_
  refine R_p d171_344 rfl rfl ?_
  refine R_nv (v := _) (v' := 1) (by decide) ?_
  refine R_sldk (n := 1) (x := 2) d171_345 (vp_ok (by decide)) (by decide) h2 ?_
  refine R_cm [.int 2] d171_346 (List.mem_of_getElem? (i := 16) rfl) rfl ⟨by decide, by decide, Nat.le_of_ble_eq_true rfl, rfl, mcd93⟩ rfl rfl (Nat.le_of_ble_eq_true rfl) rfl rfl (w97 (f := f)) ?_
  refine R_p d171_349 rfl rfl ?_
  refine R_p d171_350 rfl rfl ?_
  refine R_p d171_351 rfl rfl ?_
  refine R_ic (v := 1) d171_353 (by decide) ?_
  refine R_p d171_354 rfl rfl ?_
  refine R_nv (v := _) (v' := 1) (by decide) ?_
  refine R_sldk (n := 1) (x := 2) d171_355 (vp_ok (by decide)) (by decide) h2 ?_
  refine R_cm [.int 2] d171_356 (List.mem_of_getElem? (i := 174) rfl) rfl ⟨by decide, by decide, Nat.le_of_ble_eq_true rfl, rfl, mcd127⟩ rfl rfl (Nat.le_of_ble_eq_true rfl) rfl rfl (w98 (f := f)) ?_
  refine R_br 950 d171_359 (mb_t (b := ((0 : Int32) = (0 : Int32))) (by decide)) rfl ?_
  refine R_p (ls' := [(0, .ref 0), (1, .ref 16), (2, .ref 42), (3, .ref 53), (4, .int 5)]) d171_950 rfl rfl ?_
  refine R_br 23 d171_953 rfl rfl ?_
  refine R_p d171_23 rfl rfl ?_
  refine R_p d171_25 rfl rfl ?_
  refine R_sln d171_26 ?_
  refine R_nv (v := _) (v' := 5) (show Int32.ofNat 5 = 5 from by decide) ?_
  refine R_ic (v := 5) d171_27 (by decide) ?_
  refine R_p d171_28 rfl rfl ?_
  refine R_nv (v := _) (v' := 0) (by decide) ?_
  refine R_br 956 d171_29 (mb_t (b := ((0 : Int32) < (5 : Int32))) (by decide)) rfl ?_
  refine R_ic (v := 1) d171_956 (by decide) ?_
  exact R_iret d171_957 rfl rfl rfl
set_option maxRecDepth 4000 in
theorem w100 {f : Nat → Int32} : Run (5, f) 47 (0, [(0, .ref 23)], [], HL0) (.inl (some (.int 0)), HL0) := by
  refine R_p d47_0 rfl rfl ?_
  refine R_get d47_1 (Or.inl (List.mem_of_getElem? (i := 15) rfl)) rfl rfl ?_
  refine R_nb d47_4 rfl (mb_f (b := (¬ (0 : Int32) = (0 : Int32))) (fun q => q (by decide))) ?_
  refine R_ic (v := 0) d47_7 (by decide) ?_
  refine R_br 25 d47_8 rfl rfl ?_
  exact R_iret d47_25 rfl rfl rfl
set_option maxRecDepth 4000 in
theorem w101 {f : Nat → Int32} : Run (5, f) 93 (0, [(0, .ref 16), (1, .int 3)], [], HL0) (.inl (some (.int 0)), HL0) := by
  refine R_p d93_0 rfl rfl ?_
  refine R_swi 60 d93_1 (by decide) (by decide) rfl rfl ?_
  refine R_p d93_60 rfl rfl ?_
  refine R_get d93_61 (Or.inl (List.mem_of_getElem? (i := 45) rfl)) rfl rfl ?_
  refine R_cm [] d93_64 (List.mem_of_getElem? (i := 19) rfl) rfl ⟨by decide, by decide, Nat.le_of_ble_eq_true rfl, rfl, mcd47⟩ rfl rfl (Nat.le_of_ble_eq_true rfl) rfl rfl (w100 (f := f)) ?_
  exact R_iret d93_67 rfl rfl rfl
set_option maxRecDepth 4000 in
theorem w102 {f : Nat → Int32} : Run (5, f) 127 (0, [(0, .ref 42), (1, .int 3)], [], HL0) (.inl (some (.int 0)), HJ12) := by
  refine R_p d127_0 rfl rfl ?_
  refine R_ic (v := 0) d127_1 (by decide) ?_
  refine R_put d127_2 (List.mem_of_getElem? (i := 48) rfl) rfl (by decide) rfl rfl (Or.inl rfl) ?_
  refine R_p d127_5 rfl rfl ?_
  refine R_cm [] d127_6 (List.mem_of_getElem? (i := 175) rfl) rfl ⟨by decide, by decide, Nat.le_of_ble_eq_true rfl, rfl, mcd128⟩ rfl rfl (Nat.le_of_ble_eq_true rfl) rfl rfl (w89 (f := f)) ?_
  refine R_p d127_9 rfl rfl ?_
  refine R_nb d127_10 rfl (mb_f (b := ((3 : Int32) = (0 : Int32))) (by decide)) ?_
  refine R_p d127_13 rfl rfl ?_
  refine R_ic (v := 2) d127_14 (by decide) ?_
  refine R_br 34 d127_15 (mb_t (b := (¬ (3 : Int32) = (2 : Int32))) (by decide)) rfl ?_
  refine R_ic (v := 0) d127_34 (by decide) ?_
  refine R_p (ls' := [(0, .ref 42), (1, .int 3), (2, .int 0)]) d127_35 rfl rfl ?_
  refine R_ic (v := 0) d127_36 (by decide) ?_
  refine R_p (ls' := [(0, .ref 42), (1, .int 3), (2, .int 0), (3, .int 0)]) d127_37 rfl rfl ?_
  refine R_p d127_38 rfl rfl ?_
  refine R_p d127_39 rfl rfl ?_
  refine R_get d127_40 (Or.inl (List.mem_of_getElem? (i := 49) rfl)) rfl rfl ?_
  refine R_br 171 d127_43 (mb_t (b := ((0 : Int32) ≤ (0 : Int32))) (by decide)) rfl ?_
  refine R_p d127_171 rfl rfl ?_
  refine R_ic (v := 1) d127_172 (by decide) ?_
  refine R_nb d127_173 rfl (mb_f (b := ((3 : Int32) = (1 : Int32))) (by decide)) ?_
  refine R_p d127_176 rfl rfl ?_
  refine R_ic (v := 3) d127_177 (by decide) ?_
  refine R_br 186 d127_178 (mb_t (b := ((3 : Int32) = (3 : Int32))) (by decide)) rfl ?_
  refine R_p d127_186 rfl rfl ?_
  refine R_br 191 d127_187 rfl rfl ?_
  exact R_iret d127_191 rfl rfl rfl
set_option maxRecDepth 4000 in
theorem law339_103 {f : Nat → Int32} (h0 : ¬ ((f 1) = 0)) (h1 : ¬ ((f 1) = 1)) (h2 : ¬ ((f 1) = 2)) (h3 : ((f 1) = 3)) : Run (5, f) 171 (339, [(0, .ref 0), (1, .ref 16), (2, .ref 42), (3, .ref 53), (4, .int 0)], [], HL0) (.inl (some (.int 1)), HJ12) := by
  refine R_p d171_339 rfl rfl ?_
  refine R_p d171_340 rfl rfl ?_
  refine R_p d171_341 rfl rfl ?_
  refine R_ic (v := 1) d171_343 (by decide) ?_
  refine R_p d171_344 rfl rfl ?_
  refine R_nv (v := _) (v' := 1) (by decide) ?_
  refine R_sldk (n := 1) (x := 3) d171_345 (vp_ok (by decide)) (by decide) h3 ?_
  refine R_cm [.int 3] d171_346 (List.mem_of_getElem? (i := 16) rfl) rfl ⟨by decide, by decide, Nat.le_of_ble_eq_true rfl, rfl, mcd93⟩ rfl rfl (Nat.le_of_ble_eq_true rfl) rfl rfl (w101 (f := f)) ?_
  refine R_p d171_349 rfl rfl ?_
  refine R_p d171_350 rfl rfl ?_
  refine R_p d171_351 rfl rfl ?_
  refine R_ic (v := 1) d171_353 (by decide) ?_
  refine R_p d171_354 rfl rfl ?_
  refine R_nv (v := _) (v' := 1) (by decide) ?_
  refine R_sldk (n := 1) (x := 3) d171_355 (vp_ok (by decide)) (by decide) h3 ?_
  refine R_cm [.int 3] d171_356 (List.mem_of_getElem? (i := 174) rfl) rfl ⟨by decide, by decide, Nat.le_of_ble_eq_true rfl, rfl, mcd127⟩ rfl rfl (Nat.le_of_ble_eq_true rfl) rfl rfl (w102 (f := f)) ?_
  refine R_br 950 d171_359 (mb_t (b := ((0 : Int32) = (0 : Int32))) (by decide)) rfl ?_
  refine R_p (ls' := [(0, .ref 0), (1, .ref 16), (2, .ref 42), (3, .ref 53), (4, .int 5)]) d171_950 rfl rfl ?_
  refine R_br 23 d171_953 rfl rfl ?_
  refine R_p d171_23 rfl rfl ?_
  refine R_p d171_25 rfl rfl ?_
  refine R_sln d171_26 ?_
  refine R_nv (v := _) (v' := 5) (show Int32.ofNat 5 = 5 from by decide) ?_
  refine R_ic (v := 5) d171_27 (by decide) ?_
  refine R_p d171_28 rfl rfl ?_
  refine R_nv (v := _) (v' := 0) (by decide) ?_
  refine R_br 956 d171_29 (mb_t (b := ((0 : Int32) < (5 : Int32))) (by decide)) rfl ?_
  refine R_ic (v := 1) d171_956 (by decide) ?_
  exact R_iret d171_957 rfl rfl rfl
set_option maxRecDepth 4000 in
theorem w104 {f : Nat → Int32} : Run (5, f) 48 (0, [(0, .ref 23)], [], HL0) (.inl (some (.int 0)), HL0) := by
  refine R_ic (v := 2) d48_0 (by decide) ?_
  refine R_p d48_1 rfl rfl ?_
  refine R_cm [] d48_2 (List.mem_of_getElem? (i := 22) rfl) rfl ⟨by decide, by decide, Nat.le_of_ble_eq_true rfl, rfl, mcd47⟩ rfl rfl (Nat.le_of_ble_eq_true rfl) rfl rfl (w100 (f := f)) ?_
  refine R_p d48_5 rfl rfl ?_
  refine R_nv (v := _) (v' := 0) (by decide) ?_
  refine R_ic (v := 3) d48_6 (by decide) ?_
  refine R_p d48_7 rfl rfl ?_
  refine R_get d48_8 (Or.inl (List.mem_of_getElem? (i := 15) rfl)) rfl rfl ?_
  refine R_p d48_11 rfl rfl ?_
  refine R_nv (v := _) (v' := 0) (by decide) ?_
  refine R_p d48_12 rfl rfl ?_
  refine R_nv (v := _) (v' := 0) (by decide) ?_
  exact R_iret d48_13 rfl rfl rfl
set_option maxRecDepth 4000 in
theorem w105 {f : Nat → Int32} : Run (5, f) 93 (0, [(0, .ref 16), (1, .int 4)], [], HL0) (.inl (some (.int 0)), HL0) := by
  refine R_p d93_0 rfl rfl ?_
  refine R_swi 68 d93_1 (by decide) (by decide) rfl rfl ?_
  refine R_p d93_68 rfl rfl ?_
  refine R_get d93_69 (Or.inl (List.mem_of_getElem? (i := 45) rfl)) rfl rfl ?_
  refine R_cm [] d93_72 (List.mem_of_getElem? (i := 21) rfl) rfl ⟨by decide, by decide, Nat.le_of_ble_eq_true rfl, rfl, mcd48⟩ rfl rfl (Nat.le_of_ble_eq_true rfl) rfl rfl (w104 (f := f)) ?_
  exact R_iret d93_75 rfl rfl rfl
set_option maxRecDepth 4000 in
theorem w106 {f : Nat → Int32} : Run (5, f) 127 (0, [(0, .ref 42), (1, .int 4)], [], HL0) (.inl (some (.int 0)), HJ12) := by
  refine R_p d127_0 rfl rfl ?_
  refine R_ic (v := 0) d127_1 (by decide) ?_
  refine R_put d127_2 (List.mem_of_getElem? (i := 48) rfl) rfl (by decide) rfl rfl (Or.inl rfl) ?_
  refine R_p d127_5 rfl rfl ?_
  refine R_cm [] d127_6 (List.mem_of_getElem? (i := 175) rfl) rfl ⟨by decide, by decide, Nat.le_of_ble_eq_true rfl, rfl, mcd128⟩ rfl rfl (Nat.le_of_ble_eq_true rfl) rfl rfl (w89 (f := f)) ?_
  refine R_p d127_9 rfl rfl ?_
  refine R_nb d127_10 rfl (mb_f (b := ((4 : Int32) = (0 : Int32))) (by decide)) ?_
  refine R_p d127_13 rfl rfl ?_
  refine R_ic (v := 2) d127_14 (by decide) ?_
  refine R_br 34 d127_15 (mb_t (b := (¬ (4 : Int32) = (2 : Int32))) (by decide)) rfl ?_
  refine R_ic (v := 0) d127_34 (by decide) ?_
  refine R_p (ls' := [(0, .ref 42), (1, .int 4), (2, .int 0)]) d127_35 rfl rfl ?_
  refine R_ic (v := 0) d127_36 (by decide) ?_
  refine R_p (ls' := [(0, .ref 42), (1, .int 4), (2, .int 0), (3, .int 0)]) d127_37 rfl rfl ?_
  refine R_p d127_38 rfl rfl ?_
  refine R_p d127_39 rfl rfl ?_
  refine R_get d127_40 (Or.inl (List.mem_of_getElem? (i := 49) rfl)) rfl rfl ?_
  refine R_br 171 d127_43 (mb_t (b := ((0 : Int32) ≤ (0 : Int32))) (by decide)) rfl ?_
  refine R_p d127_171 rfl rfl ?_
  refine R_ic (v := 1) d127_172 (by decide) ?_
  refine R_nb d127_173 rfl (mb_f (b := ((4 : Int32) = (1 : Int32))) (by decide)) ?_
  refine R_p d127_176 rfl rfl ?_
  refine R_ic (v := 3) d127_177 (by decide) ?_
  refine R_nb d127_178 rfl (mb_f (b := ((4 : Int32) = (3 : Int32))) (by decide)) ?_
  refine R_p d127_181 rfl rfl ?_
  refine R_ic (v := 4) d127_182 (by decide) ?_
  refine R_nb d127_183 rfl (mb_f (b := (¬ (4 : Int32) = (4 : Int32))) (fun q => q (by decide))) ?_
  refine R_p d127_186 rfl rfl ?_
  refine R_br 191 d127_187 rfl rfl ?_
  exact R_iret d127_191 rfl rfl rfl
set_option maxRecDepth 4000 in
theorem law339_107 {f : Nat → Int32} (h0 : ¬ ((f 1) = 0)) (h1 : ¬ ((f 1) = 1)) (h2 : ¬ ((f 1) = 2)) (h3 : ¬ ((f 1) = 3)) (h4 : ((f 1) = 4)) : Run (5, f) 171 (339, [(0, .ref 0), (1, .ref 16), (2, .ref 42), (3, .ref 53), (4, .int 0)], [], HL0) (.inl (some (.int 1)), HJ12) := by
  refine R_p d171_339 rfl rfl ?_
  refine R_p d171_340 rfl rfl ?_
  refine R_p d171_341 rfl rfl ?_
  refine R_ic (v := 1) d171_343 (by decide) ?_
  refine R_p d171_344 rfl rfl ?_
  refine R_nv (v := _) (v' := 1) (by decide) ?_
  refine R_sldk (n := 1) (x := 4) d171_345 (vp_ok (by decide)) (by decide) h4 ?_
  refine R_cm [.int 4] d171_346 (List.mem_of_getElem? (i := 16) rfl) rfl ⟨by decide, by decide, Nat.le_of_ble_eq_true rfl, rfl, mcd93⟩ rfl rfl (Nat.le_of_ble_eq_true rfl) rfl rfl (w105 (f := f)) ?_
  refine R_p d171_349 rfl rfl ?_
  refine R_p d171_350 rfl rfl ?_
  refine R_p d171_351 rfl rfl ?_
  refine R_ic (v := 1) d171_353 (by decide) ?_
  refine R_p d171_354 rfl rfl ?_
  refine R_nv (v := _) (v' := 1) (by decide) ?_
  refine R_sldk (n := 1) (x := 4) d171_355 (vp_ok (by decide)) (by decide) h4 ?_
  refine R_cm [.int 4] d171_356 (List.mem_of_getElem? (i := 174) rfl) rfl ⟨by decide, by decide, Nat.le_of_ble_eq_true rfl, rfl, mcd127⟩ rfl rfl (Nat.le_of_ble_eq_true rfl) rfl rfl (w106 (f := f)) ?_
  refine R_br 950 d171_359 (mb_t (b := ((0 : Int32) = (0 : Int32))) (by decide)) rfl ?_
  refine R_p (ls' := [(0, .ref 0), (1, .ref 16), (2, .ref 42), (3, .ref 53), (4, .int 5)]) d171_950 rfl rfl ?_
  refine R_br 23 d171_953 rfl rfl ?_
  refine R_p d171_23 rfl rfl ?_
  refine R_p d171_25 rfl rfl ?_
  refine R_sln d171_26 ?_
  refine R_nv (v := _) (v' := 5) (show Int32.ofNat 5 = 5 from by decide) ?_
  refine R_ic (v := 5) d171_27 (by decide) ?_
  refine R_p d171_28 rfl rfl ?_
  refine R_nv (v := _) (v' := 0) (by decide) ?_
  refine R_br 956 d171_29 (mb_t (b := ((0 : Int32) < (5 : Int32))) (by decide)) rfl ?_
  refine R_ic (v := 1) d171_956 (by decide) ?_
  exact R_iret d171_957 rfl rfl rfl
set_option maxRecDepth 4000 in
theorem w108 {f : Nat → Int32} (h0 : ¬ ((f 1) = 0)) (h1 : ¬ ((f 1) = 1)) (h2 : ¬ ((f 1) = 2)) (h3 : ¬ ((f 1) = 3)) (h4 : ¬ ((f 1) = 4)) : Run (5, f) 93 (0, [(0, .ref 16), (1, .int (f 1))], [], HL0) (.inl (some (.int (-1))), HL0) := by
  refine R_p d93_0 rfl rfl ?_
  refine R_swo 76 d93_1 (sw_out5 h0 h1 h2 h3 h4) rfl ?_
  refine R_ic (v := (-1)) d93_76 (by decide) ?_
  exact R_iret d93_77 rfl rfl rfl
set_option maxRecDepth 4000 in
theorem w109 {f : Nat → Int32} (h0 : ¬ ((f 1) = 0)) (h1 : ¬ ((f 1) = 1)) (h2 : ¬ ((f 1) = 2)) (h3 : ¬ ((f 1) = 3)) (h4 : ¬ ((f 1) = 4)) : Run (5, f) 127 (0, [(0, .ref 42), (1, .int (f 1))], [], HL0) (.inl (some (.int (-1))), HJ12) := by
  refine R_p d127_0 rfl rfl ?_
  refine R_ic (v := 0) d127_1 (by decide) ?_
  refine R_put d127_2 (List.mem_of_getElem? (i := 48) rfl) rfl (by decide) rfl rfl (Or.inl rfl) ?_
  refine R_p d127_5 rfl rfl ?_
  refine R_cm [] d127_6 (List.mem_of_getElem? (i := 175) rfl) rfl ⟨by decide, by decide, Nat.le_of_ble_eq_true rfl, rfl, mcd128⟩ rfl rfl (Nat.le_of_ble_eq_true rfl) rfl rfl (w89 (f := f)) ?_
  refine R_p d127_9 rfl rfl ?_
  refine R_nb d127_10 rfl (mb_f (b := ((f 1) = 0)) h0) ?_
  refine R_p d127_13 rfl rfl ?_
  refine R_ic (v := 2) d127_14 (by decide) ?_
  refine R_br 34 d127_15 (mb_t (b := (¬ (f 1) = 2)) h2) rfl ?_
  refine R_ic (v := 0) d127_34 (by decide) ?_
  refine R_p (ls' := [(0, .ref 42), (1, .int (f 1)), (2, .int 0)]) d127_35 rfl rfl ?_
  refine R_ic (v := 0) d127_36 (by decide) ?_
  refine R_p (ls' := [(0, .ref 42), (1, .int (f 1)), (2, .int 0), (3, .int 0)]) d127_37 rfl rfl ?_
  refine R_p d127_38 rfl rfl ?_
  refine R_p d127_39 rfl rfl ?_
  refine R_get d127_40 (Or.inl (List.mem_of_getElem? (i := 49) rfl)) rfl rfl ?_
  refine R_br 171 d127_43 (mb_t (b := ((0 : Int32) ≤ (0 : Int32))) (by decide)) rfl ?_
  refine R_p d127_171 rfl rfl ?_
  refine R_ic (v := 1) d127_172 (by decide) ?_
  refine R_nb d127_173 rfl (mb_f (b := ((f 1) = 1)) h1) ?_
  refine R_p d127_176 rfl rfl ?_
  refine R_ic (v := 3) d127_177 (by decide) ?_
  refine R_nb d127_178 rfl (mb_f (b := ((f 1) = 3)) h3) ?_
  refine R_p d127_181 rfl rfl ?_
  refine R_ic (v := 4) d127_182 (by decide) ?_
  refine R_br 190 d127_183 (mb_t (b := (¬ (f 1) = 4)) h4) rfl ?_
  refine R_ic (v := (-1)) d127_190 (by decide) ?_
  exact R_iret d127_191 rfl rfl rfl
set_option maxRecDepth 4000 in
theorem law339_110 {f : Nat → Int32} (h0 : ¬ ((f 1) = 0)) (h1 : ¬ ((f 1) = 1)) (h2 : ¬ ((f 1) = 2)) (h3 : ¬ ((f 1) = 3)) (h4 : ¬ ((f 1) = 4)) : Run (5, f) 171 (339, [(0, .ref 0), (1, .ref 16), (2, .ref 42), (3, .ref 53), (4, .int 0)], [], HL0) (.inl (some (.int 1)), HJ12) := by
  refine R_p d171_339 rfl rfl ?_
  refine R_p d171_340 rfl rfl ?_
  refine R_p d171_341 rfl rfl ?_
  refine R_ic (v := 1) d171_343 (by decide) ?_
  refine R_p d171_344 rfl rfl ?_
  refine R_nv (v := _) (v' := 1) (by decide) ?_
  refine R_sldk (n := 1) (x := (f 1)) d171_345 (vp_ok (by decide)) (by decide) rfl ?_
  refine R_cm [.int (f 1)] d171_346 (List.mem_of_getElem? (i := 16) rfl) rfl ⟨by decide, by decide, Nat.le_of_ble_eq_true rfl, rfl, mcd93⟩ rfl rfl (Nat.le_of_ble_eq_true rfl) rfl rfl (w108 (f := f) h0 h1 h2 h3 h4) ?_
  refine R_p d171_349 rfl rfl ?_
  refine R_p d171_350 rfl rfl ?_
  refine R_p d171_351 rfl rfl ?_
  refine R_ic (v := 1) d171_353 (by decide) ?_
  refine R_p d171_354 rfl rfl ?_
  refine R_nv (v := _) (v' := 1) (by decide) ?_
  refine R_sldk (n := 1) (x := (f 1)) d171_355 (vp_ok (by decide)) (by decide) rfl ?_
  refine R_cm [.int (f 1)] d171_356 (List.mem_of_getElem? (i := 174) rfl) rfl ⟨by decide, by decide, Nat.le_of_ble_eq_true rfl, rfl, mcd127⟩ rfl rfl (Nat.le_of_ble_eq_true rfl) rfl rfl (w109 (f := f) h0 h1 h2 h3 h4) ?_
  refine R_br 950 d171_359 (mb_t (b := (((-1) : Int32) = ((-1) : Int32))) (by decide)) rfl ?_
  refine R_p (ls' := [(0, .ref 0), (1, .ref 16), (2, .ref 42), (3, .ref 53), (4, .int 5)]) d171_950 rfl rfl ?_
  refine R_br 23 d171_953 rfl rfl ?_
  refine R_p d171_23 rfl rfl ?_
  refine R_p d171_25 rfl rfl ?_
  refine R_sln d171_26 ?_
  refine R_nv (v := _) (v' := 5) (show Int32.ofNat 5 = 5 from by decide) ?_
  refine R_ic (v := 5) d171_27 (by decide) ?_
  refine R_p d171_28 rfl rfl ?_
  refine R_nv (v := _) (v' := 0) (by decide) ?_
  refine R_br 956 d171_29 (mb_t (b := ((0 : Int32) < (5 : Int32))) (by decide)) rfl ?_
  refine R_ic (v := 1) d171_956 (by decide) ?_
  exact R_iret d171_957 rfl rfl rfl
set_option maxRecDepth 4000 in
theorem w111 {f : Nat → Int32} (h0 : ((f 1) < 0)) : RunsP 105 (0, [(0, .ref 16), (1, .int (f 1)), (2, .int (f 2))], [], HL0) (.inr 54, HJ13) := by
  refine Q_p d105_0 rfl rfl ?_
  refine Q_br 24 d105_1 (mb_t (b := ((f 1) < 0)) h0) rfl ?_
  exact Q_thr 5 d105_24 d105_27 d105_28 d105_30 d105_33 rfl (List.mem_of_getElem? (i := 5) rfl) rfl (by decide) (by decide)
set_option maxRecDepth 4000 in
theorem w112 {f : Nat → Int32} (h0 : ((f 1) < 0)) : Run (5, f) 104 (0, [(0, .ref 16), (1, .int (f 1)), (2, .int (f 2))], [], HL0) (.inr 54, HJ13) := by
  refine R_p d104_0 rfl rfl ?_
  refine R_p d104_1 rfl rfl ?_
  refine R_p d104_2 rfl rfl ?_
  exact R_tv [.int (f 1), .int (f 2)] d104_3 (List.mem_of_getElem? (i := 110) rfl) ⟨by decide, by decide, Nat.le_of_ble_eq_true rfl, mcd105⟩ rfl rfl (Nat.le_of_ble_eq_true rfl) rfl rfl rfl (Or.inr (w111 (f := f) h0))
set_option maxRecDepth 4000 in
theorem w113 {f : Nat → Int32} (h0 : ((f 1) < 0)) : Run (5, f) 160 (0, [(0, .ref 16), (1, .int (f 1)), (2, .int (f 2)), (3, .ref 53)], [], HL0) (.inl (some (.int 1)), HJ13) := by
  refine R_p d160_0 rfl rfl ?_
  refine R_ic (v := 0) d160_1 (by decide) ?_
  refine R_p d160_2 rfl rfl ?_
  refine R_p d160_3 rfl rfl ?_
  refine R_p d160_4 rfl rfl ?_
  refine R_tc [.int (f 1), .int (f 2)] d160_5 (List.mem_of_getElem? (i := 109) rfl) ⟨by decide, by decide, Nat.le_of_ble_eq_true rfl, mcd104⟩ rfl rfl (Nat.le_of_ble_eq_true rfl) rfl rfl rfl (cx := 12) (hp := 13) rfl (by decide) (by decide) (by decide) (Or.inl (w112 (f := f) h0)) ?_
  refine R_p (ls' := [(0, .ref 16), (1, .int (f 1)), (2, .int (f 2)), (3, .ref 53), (4, .ref 54)]) d160_13 rfl rfl ?_
  refine R_ic (v := 1) d160_15 (by decide) ?_
  exact R_iret d160_16 rfl rfl rfl
set_option maxRecDepth 4000 in
theorem w114 {f : Nat → Int32} : Run (5, f) 129 (0, [(0, .ref 42)], [], HJ15) (.inl (some (.int 1)), HJ15) := by
  refine R_ic (v := 1) d129_0 (by decide) ?_
  refine R_p (ls' := [(0, .ref 42), (1, .int 1)]) d129_1 rfl rfl ?_
  refine R_ic (v := 2) d129_2 (by decide) ?_
  refine R_p (ls' := [(0, .ref 42), (1, .int 1), (2, .int 2)]) d129_3 rfl rfl ?_
  refine R_p d129_4 rfl rfl ?_
  refine R_p d129_5 rfl rfl ?_
  refine R_get d129_6 (Or.inl (List.mem_of_getElem? (i := 49) rfl)) rfl rfl ?_
  refine R_br 38 d129_9 (mb_t (b := ((0 : Int32) ≤ (2 : Int32))) (by decide)) rfl ?_
  refine R_p d129_38 rfl rfl ?_
  exact R_iret d129_39 rfl rfl rfl
set_option maxRecDepth 4000 in
theorem w115 {f : Nat → Int32} : Run (5, f) 128 (0, [(0, .ref 42)], [], HJ13) (.inl none, HJ15) := by
  refine R_p d128_0 rfl rfl ?_
  refine R_get d128_1 (Or.inl (List.mem_of_getElem? (i := 54) rfl)) rfl rfl ?_
  refine R_br 8 d128_4 (mb_t (b := ((0 : Int32) = (0 : Int32))) (by decide)) rfl ?_
  refine R_p d128_8 rfl rfl ?_
  refine R_ic (v := 1) d128_9 (by decide) ?_
  refine R_put d128_10 (List.mem_of_getElem? (i := 54) rfl) rfl (by decide) (by decide) (by decide) (Or.inl rfl) ?_
  refine R_p d128_13 rfl rfl ?_
  refine R_ic (v := 0) d128_14 (by decide) ?_
  refine R_put d128_15 (List.mem_of_getElem? (i := 55) rfl) rfl (by decide) rfl rfl (Or.inl rfl) ?_
  refine R_ic (v := 0) d128_18 (by decide) ?_
  refine R_p (ls' := [(0, .ref 42), (1, .int 0)]) d128_19 rfl rfl ?_
  refine R_h HJ14 rfl ?_
  refine R_meshCopy rfl rfl rfl rfl rfl ?_
  refine R_p d128_45 rfl rfl ?_
  refine R_cm [] d128_46 (List.mem_of_getElem? (i := 176) rfl) rfl ⟨by decide, by decide, Nat.le_of_ble_eq_true rfl, rfl, mcd129⟩ rfl rfl (Nat.le_of_ble_eq_true rfl) rfl rfl (w114 (f := f)) ?_
  refine R_nb d128_49 rfl (mb_f (b := ((1 : Int32) = (0 : Int32))) (by decide)) ?_
  exact R_vret d128_52 rfl rfl
set_option maxRecDepth 4000 in
theorem w116 {f : Nat → Int32} (h0 : ((f 1) < 0)) : Run (5, f) 116 (0, [(0, .int (f 1)), (1, .int 0), (2, .int (-1))], [], HJ15) (.inl (some (.int 0)), HJ15) := by
  refine R_p d116_0 rfl rfl ?_
  refine R_p d116_1 rfl rfl ?_
  refine R_br 14 d116_2 (mb_t (b := ((f 1) < 0)) h0) rfl ?_
  refine R_ic (v := 0) d116_14 (by decide) ?_
  exact R_iret d116_15 rfl rfl rfl
set_option maxRecDepth 4000 in
theorem w117 {f : Nat → Int32} (h0 : ((f 1) < 0)) : Run (5, f) 140 (0, [(0, .ref 42), (1, .int (f 1)), (2, .int (f 2))], [], HJ13) (.inl (some (.int 0)), HJ15) := by
  refine R_p d140_0 rfl rfl ?_
  refine R_cm [] d140_1 (List.mem_of_getElem? (i := 175) rfl) rfl ⟨by decide, by decide, Nat.le_of_ble_eq_true rfl, rfl, mcd128⟩ rfl rfl (Nat.le_of_ble_eq_true rfl) rfl rfl (w115 (f := f)) ?_
  refine R_p d140_4 rfl rfl ?_
  refine R_ic (v := 0) d140_5 (by decide) ?_
  refine R_p d140_6 rfl rfl ?_
  refine R_get d140_7 (Or.inl (List.mem_of_getElem? (i := 55) rfl)) rfl rfl ?_
  refine R_ic (v := 1) d140_10 (by decide) ?_
  refine R_p d140_11 rfl rfl ?_
  refine R_nv (v := _) (v' := (-1)) (by decide) ?_
  refine R_cs [.int (f 1), .int 0, .int (-1)] d140_12 (List.mem_of_getElem? (i := 163) rfl) rfl ⟨by decide, by decide, Nat.le_of_ble_eq_true rfl, rfl, mcd116⟩ rfl rfl (Nat.le_of_ble_eq_true rfl) (w116 (f := f) h0) ?_
  refine R_br 31 d140_15 (mb_t (b := ((0 : Int32) = (0 : Int32))) (by decide)) rfl ?_
  refine R_ic (v := 0) d140_31 (by decide) ?_
  exact R_iret d140_32 rfl rfl rfl
set_option maxRecDepth 4000 in
theorem w118 {f : Nat → Int32} : Run (5, f) 117 (0, [(0, .ref 42), (1, .int 1)], [], HJ15) (.inl (some (.int 1)), HJ16) := by
  refine R_p d117_0 rfl rfl ?_
  refine R_p d117_1 rfl rfl ?_
  refine R_put d117_2 (List.mem_of_getElem? (i := 48) rfl) rfl (by decide) rfl rfl (Or.inl rfl) ?_
  refine R_p d117_5 rfl rfl ?_
  refine R_nb d117_6 rfl (mb_f (b := ((1 : Int32) ≤ (0 : Int32))) (by decide)) ?_
  refine R_ic (v := 1) d117_9 (by decide) ?_
  refine R_br 14 d117_10 rfl rfl ?_
  exact R_iret d117_14 rfl rfl rfl
set_option maxRecDepth 4000 in
theorem w119 {f : Nat → Int32} (h0 : ((f 1) < 0)) : Run (5, f) 139 (0, [(0, .ref 42), (1, .int (f 1)), (2, .int (f 2))], [], HJ13) (.inl (some (.int 0)), HJ16) := by
  refine R_p d139_0 rfl rfl ?_
  refine R_p d139_1 rfl rfl ?_
  refine R_p d139_2 rfl rfl ?_
  refine R_p d139_3 rfl rfl ?_
  refine R_cm [.int (f 1), .int (f 2)] d139_4 (List.mem_of_getElem? (i := 187) rfl) rfl ⟨by decide, by decide, Nat.le_of_ble_eq_true rfl, rfl, mcd140⟩ rfl rfl (Nat.le_of_ble_eq_true rfl) rfl rfl (w117 (f := f) h0) ?_
  refine R_br 14 d139_7 (mb_t (b := ((0 : Int32) = (0 : Int32))) (by decide)) rfl ?_
  refine R_ic (v := 1) d139_14 (by decide) ?_
  refine R_cm [.int 1] d139_15 (List.mem_of_getElem? (i := 164) rfl) rfl ⟨by decide, by decide, Nat.le_of_ble_eq_true rfl, rfl, mcd117⟩ rfl rfl (Nat.le_of_ble_eq_true rfl) rfl rfl (w118 (f := f)) ?_
  refine R_nb d139_18 rfl (mb_f (b := ((1 : Int32) = (0 : Int32))) (by decide)) ?_
  refine R_ic (v := 0) d139_21 (by decide) ?_
  refine R_br 35 d139_22 rfl rfl ?_
  exact R_iret d139_35 rfl rfl rfl
set_option maxRecDepth 4000 in
theorem w120 {f : Nat → Int32} : Run (5, f) 113 (0, [(0, .ref 42)], [], HJ16) (.inl (some (.int 1)), HJ16) := by
  refine R_p d113_0 rfl rfl ?_
  refine R_get d113_1 (Or.inl (List.mem_of_getElem? (i := 48) rfl)) rfl rfl ?_
  exact R_iret d113_4 rfl rfl rfl
set_option maxRecDepth 4000 in
theorem law364_121 {f : Nat → Int32} (h0 : ((f 1) < 0)) : Run (5, f) 171 (364, [(0, .ref 0), (1, .ref 16), (2, .ref 42), (3, .ref 53), (4, .int 0)], [], HL0) (.inl (some (.int 1)), HJ16) := by
  refine R_p d171_364 rfl rfl ?_
  refine R_p d171_365 rfl rfl ?_
  refine R_p d171_366 rfl rfl ?_
  refine R_ic (v := 1) d171_368 (by decide) ?_
  refine R_p d171_369 rfl rfl ?_
  refine R_nv (v := _) (v' := 1) (by decide) ?_
  refine R_sldk (n := 1) (x := (f 1)) d171_370 (vp_ok (by decide)) (by decide) rfl ?_
  refine R_p d171_371 rfl rfl ?_
  refine R_p d171_372 rfl rfl ?_
  refine R_ic (v := 2) d171_374 (by decide) ?_
  refine R_p d171_375 rfl rfl ?_
  refine R_nv (v := _) (v' := 2) (by decide) ?_
  refine R_sldk (n := 2) (x := (f 2)) d171_376 (vp_ok (by decide)) (by decide) rfl ?_
  refine R_p d171_377 rfl rfl ?_
  refine R_hs [.ref 16, .int (f 1), .int (f 2), .ref 53] d171_378 (List.mem_of_getElem? (i := 108) rfl) ⟨by decide, by decide, Nat.le_of_ble_eq_true rfl, mcd160⟩ rfl rfl (Nat.le_of_ble_eq_true rfl) (w113 (f := f) h0) ?_
  refine R_p (ls' := [(0, .ref 0), (1, .ref 16), (2, .ref 42), (3, .ref 53), (4, .int 0), (5, .int 1)]) d171_381 rfl rfl ?_
  refine R_p d171_383 rfl rfl ?_
  refine R_p d171_384 rfl rfl ?_
  refine R_p d171_385 rfl rfl ?_
  refine R_ic (v := 1) d171_387 (by decide) ?_
  refine R_p d171_388 rfl rfl ?_
  refine R_nv (v := _) (v' := 1) (by decide) ?_
  refine R_sldk (n := 1) (x := (f 1)) d171_389 (vp_ok (by decide)) (by decide) rfl ?_
  refine R_p d171_390 rfl rfl ?_
  refine R_p d171_391 rfl rfl ?_
  refine R_ic (v := 2) d171_393 (by decide) ?_
  refine R_p d171_394 rfl rfl ?_
  refine R_nv (v := _) (v' := 2) (by decide) ?_
  refine R_sldk (n := 2) (x := (f 2)) d171_395 (vp_ok (by decide)) (by decide) rfl ?_
  refine R_cm [.int (f 1), .int (f 2)] d171_396 (List.mem_of_getElem? (i := 186) rfl) rfl ⟨by decide, by decide, Nat.le_of_ble_eq_true rfl, rfl, mcd139⟩ rfl rfl (Nat.le_of_ble_eq_true rfl) rfl rfl (w119 (f := f) h0) ?_
  refine R_p (ls' := [(0, .ref 0), (1, .ref 16), (2, .ref 42), (3, .ref 53), (4, .int 0), (5, .int 1), (6, .int 0)]) d171_399 rfl rfl ?_
  refine R_p d171_401 rfl rfl ?_
  refine R_cm [] d171_402 (List.mem_of_getElem? (i := 160) rfl) rfl ⟨by decide, by decide, Nat.le_of_ble_eq_true rfl, rfl, mcd113⟩ rfl rfl (Nat.le_of_ble_eq_true rfl) rfl rfl (w120 (f := f)) ?_
  refine R_p d171_405 rfl rfl ?_
  refine R_br 412 d171_407 (mb_t (b := ((1 : Int32) = (1 : Int32))) (by decide)) rfl ?_
  refine R_p d171_412 rfl rfl ?_
  refine R_br 429 d171_414 (mb_t (b := (¬ (1 : Int32) = (0 : Int32))) (by decide)) rfl ?_
  refine R_br 950 d171_429 rfl rfl ?_
  refine R_p (ls' := [(0, .ref 0), (1, .ref 16), (2, .ref 42), (3, .ref 53), (4, .int 5), (5, .int 1), (6, .int 0)]) d171_950 rfl rfl ?_
  refine R_br 23 d171_953 rfl rfl ?_
  refine R_p d171_23 rfl rfl ?_
  refine R_p d171_25 rfl rfl ?_
  refine R_sln d171_26 ?_
  refine R_nv (v := _) (v' := 5) (show Int32.ofNat 5 = 5 from by decide) ?_
  refine R_ic (v := 5) d171_27 (by decide) ?_
  refine R_p d171_28 rfl rfl ?_
  refine R_nv (v := _) (v' := 0) (by decide) ?_
  refine R_br 956 d171_29 (mb_t (b := ((0 : Int32) < (5 : Int32))) (by decide)) rfl ?_
  refine R_ic (v := 1) d171_956 (by decide) ?_
  exact R_iret d171_957 rfl rfl rfl
set_option maxRecDepth 4000 in
theorem w122 {f : Nat → Int32} : RunsP 46 (0, [(0, .ref 23)], [], HL0) (.inl (some (.int 0)), HL0) := by
  refine Q_p d46_0 rfl rfl ?_
  refine Q_get d46_1 (Or.inl (List.mem_of_getElem? (i := 15) rfl)) rfl rfl ?_
  exact Q_iret d46_4 rfl rfl
set_option maxRecDepth 4000 in
theorem w123 {f : Nat → Int32} (h0 : ¬ ((f 1) < 0)) : RunsP 105 (0, [(0, .ref 16), (1, .int (f 1)), (2, .int (f 2))], [], HL0) (.inr 54, HJ13) := by
  refine Q_p d105_0 rfl rfl ?_
  refine Q_nb d105_1 rfl (mb_f (b := ((f 1) < 0)) h0) ?_
  refine Q_p d105_4 rfl rfl ?_
  refine Q_p d105_5 rfl rfl ?_
  refine Q_get d105_6 (Or.inl (List.mem_of_getElem? (i := 45) rfl)) rfl rfl ?_
  refine Q_cm [] d105_9 (List.mem_of_getElem? (i := 18) rfl) rfl ⟨by decide, by decide, Nat.le_of_ble_eq_true rfl, rfl, mcd46⟩ rfl rfl (Nat.le_of_ble_eq_true rfl) rfl rfl (w122 (f := f)) ?_
  refine Q_br 24 d105_12 (mb_t (b := (0 ≤ (f 1))) (Int32.not_lt.mp h0)) rfl ?_
  exact Q_thr 5 d105_24 d105_27 d105_28 d105_30 d105_33 rfl (List.mem_of_getElem? (i := 5) rfl) rfl (by decide) (by decide)
set_option maxRecDepth 4000 in
theorem w124 {f : Nat → Int32} (h0 : ¬ ((f 1) < 0)) : Run (5, f) 104 (0, [(0, .ref 16), (1, .int (f 1)), (2, .int (f 2))], [], HL0) (.inr 54, HJ13) := by
  refine R_p d104_0 rfl rfl ?_
  refine R_p d104_1 rfl rfl ?_
  refine R_p d104_2 rfl rfl ?_
  exact R_tv [.int (f 1), .int (f 2)] d104_3 (List.mem_of_getElem? (i := 110) rfl) ⟨by decide, by decide, Nat.le_of_ble_eq_true rfl, mcd105⟩ rfl rfl (Nat.le_of_ble_eq_true rfl) rfl rfl rfl (Or.inr (w123 (f := f) h0))
set_option maxRecDepth 4000 in
theorem w125 {f : Nat → Int32} (h0 : ¬ ((f 1) < 0)) : Run (5, f) 160 (0, [(0, .ref 16), (1, .int (f 1)), (2, .int (f 2)), (3, .ref 53)], [], HL0) (.inl (some (.int 1)), HJ13) := by
  refine R_p d160_0 rfl rfl ?_
  refine R_ic (v := 0) d160_1 (by decide) ?_
  refine R_p d160_2 rfl rfl ?_
  refine R_p d160_3 rfl rfl ?_
  refine R_p d160_4 rfl rfl ?_
  refine R_tc [.int (f 1), .int (f 2)] d160_5 (List.mem_of_getElem? (i := 109) rfl) ⟨by decide, by decide, Nat.le_of_ble_eq_true rfl, mcd104⟩ rfl rfl (Nat.le_of_ble_eq_true rfl) rfl rfl rfl (cx := 12) (hp := 13) rfl (by decide) (by decide) (by decide) (Or.inl (w124 (f := f) h0)) ?_
  refine R_p (ls' := [(0, .ref 16), (1, .int (f 1)), (2, .int (f 2)), (3, .ref 53), (4, .ref 54)]) d160_13 rfl rfl ?_
  refine R_ic (v := 1) d160_15 (by decide) ?_
  exact R_iret d160_16 rfl rfl rfl
set_option maxRecDepth 4000 in
theorem w126 {f : Nat → Int32} (h0 : ¬ ((f 1) < 0)) : Run (5, f) 116 (0, [(0, .int (f 1)), (1, .int 0), (2, .int (-1))], [], HJ15) (.inl (some (.int 0)), HJ15) := by
  refine R_p d116_0 rfl rfl ?_
  refine R_p d116_1 rfl rfl ?_
  refine R_nb d116_2 rfl (mb_f (b := ((f 1) < 0)) h0) ?_
  refine R_p d116_5 rfl rfl ?_
  refine R_p d116_6 rfl rfl ?_
  refine R_br 14 d116_7 (mb_t (b := ((-1) < (f 1))) (m1_lt h0)) rfl ?_
  refine R_ic (v := 0) d116_14 (by decide) ?_
  exact R_iret d116_15 rfl rfl rfl
set_option maxRecDepth 4000 in
theorem w127 {f : Nat → Int32} (h0 : ¬ ((f 1) < 0)) : Run (5, f) 140 (0, [(0, .ref 42), (1, .int (f 1)), (2, .int (f 2))], [], HJ13) (.inl (some (.int 0)), HJ15) := by
  refine R_p d140_0 rfl rfl ?_
  refine R_cm [] d140_1 (List.mem_of_getElem? (i := 175) rfl) rfl ⟨by decide, by decide, Nat.le_of_ble_eq_true rfl, rfl, mcd128⟩ rfl rfl (Nat.le_of_ble_eq_true rfl) rfl rfl (w115 (f := f)) ?_
  refine R_p d140_4 rfl rfl ?_
  refine R_ic (v := 0) d140_5 (by decide) ?_
  refine R_p d140_6 rfl rfl ?_
  refine R_get d140_7 (Or.inl (List.mem_of_getElem? (i := 55) rfl)) rfl rfl ?_
  refine R_ic (v := 1) d140_10 (by decide) ?_
  refine R_p d140_11 rfl rfl ?_
  refine R_nv (v := _) (v' := (-1)) (by decide) ?_
  refine R_cs [.int (f 1), .int 0, .int (-1)] d140_12 (List.mem_of_getElem? (i := 163) rfl) rfl ⟨by decide, by decide, Nat.le_of_ble_eq_true rfl, rfl, mcd116⟩ rfl rfl (Nat.le_of_ble_eq_true rfl) (w126 (f := f) h0) ?_
  refine R_br 31 d140_15 (mb_t (b := ((0 : Int32) = (0 : Int32))) (by decide)) rfl ?_
  refine R_ic (v := 0) d140_31 (by decide) ?_
  exact R_iret d140_32 rfl rfl rfl
set_option maxRecDepth 4000 in
theorem w128 {f : Nat → Int32} (h0 : ¬ ((f 1) < 0)) : Run (5, f) 139 (0, [(0, .ref 42), (1, .int (f 1)), (2, .int (f 2))], [], HJ13) (.inl (some (.int 0)), HJ16) := by
  refine R_p d139_0 rfl rfl ?_
  refine R_p d139_1 rfl rfl ?_
  refine R_p d139_2 rfl rfl ?_
  refine R_p d139_3 rfl rfl ?_
  refine R_cm [.int (f 1), .int (f 2)] d139_4 (List.mem_of_getElem? (i := 187) rfl) rfl ⟨by decide, by decide, Nat.le_of_ble_eq_true rfl, rfl, mcd140⟩ rfl rfl (Nat.le_of_ble_eq_true rfl) rfl rfl (w127 (f := f) h0) ?_
  refine R_br 14 d139_7 (mb_t (b := ((0 : Int32) = (0 : Int32))) (by decide)) rfl ?_
  refine R_ic (v := 1) d139_14 (by decide) ?_
  refine R_cm [.int 1] d139_15 (List.mem_of_getElem? (i := 164) rfl) rfl ⟨by decide, by decide, Nat.le_of_ble_eq_true rfl, rfl, mcd117⟩ rfl rfl (Nat.le_of_ble_eq_true rfl) rfl rfl (w118 (f := f)) ?_
  refine R_nb d139_18 rfl (mb_f (b := ((1 : Int32) = (0 : Int32))) (by decide)) ?_
  refine R_ic (v := 0) d139_21 (by decide) ?_
  refine R_br 35 d139_22 rfl rfl ?_
  exact R_iret d139_35 rfl rfl rfl
set_option maxRecDepth 4000 in
theorem law364_129 {f : Nat → Int32} (h0 : ¬ ((f 1) < 0)) : Run (5, f) 171 (364, [(0, .ref 0), (1, .ref 16), (2, .ref 42), (3, .ref 53), (4, .int 0)], [], HL0) (.inl (some (.int 1)), HJ16) := by
  refine R_p d171_364 rfl rfl ?_
  refine R_p d171_365 rfl rfl ?_
  refine R_p d171_366 rfl rfl ?_
  refine R_ic (v := 1) d171_368 (by decide) ?_
  refine R_p d171_369 rfl rfl ?_
  refine R_nv (v := _) (v' := 1) (by decide) ?_
  refine R_sldk (n := 1) (x := (f 1)) d171_370 (vp_ok (by decide)) (by decide) rfl ?_
  refine R_p d171_371 rfl rfl ?_
  refine R_p d171_372 rfl rfl ?_
  refine R_ic (v := 2) d171_374 (by decide) ?_
  refine R_p d171_375 rfl rfl ?_
  refine R_nv (v := _) (v' := 2) (by decide) ?_
  refine R_sldk (n := 2) (x := (f 2)) d171_376 (vp_ok (by decide)) (by decide) rfl ?_
  refine R_p d171_377 rfl rfl ?_
  refine R_hs [.ref 16, .int (f 1), .int (f 2), .ref 53] d171_378 (List.mem_of_getElem? (i := 108) rfl) ⟨by decide, by decide, Nat.le_of_ble_eq_true rfl, mcd160⟩ rfl rfl (Nat.le_of_ble_eq_true rfl) (w125 (f := f) h0) ?_
  refine R_p (ls' := [(0, .ref 0), (1, .ref 16), (2, .ref 42), (3, .ref 53), (4, .int 0), (5, .int 1)]) d171_381 rfl rfl ?_
  refine R_p d171_383 rfl rfl ?_
  refine R_p d171_384 rfl rfl ?_
  refine R_p d171_385 rfl rfl ?_
  refine R_ic (v := 1) d171_387 (by decide) ?_
  refine R_p d171_388 rfl rfl ?_
  refine R_nv (v := _) (v' := 1) (by decide) ?_
  refine R_sldk (n := 1) (x := (f 1)) d171_389 (vp_ok (by decide)) (by decide) rfl ?_
  refine R_p d171_390 rfl rfl ?_
  refine R_p d171_391 rfl rfl ?_
  refine R_ic (v := 2) d171_393 (by decide) ?_
  refine R_p d171_394 rfl rfl ?_
  refine R_nv (v := _) (v' := 2) (by decide) ?_
  refine R_sldk (n := 2) (x := (f 2)) d171_395 (vp_ok (by decide)) (by decide) rfl ?_
  refine R_cm [.int (f 1), .int (f 2)] d171_396 (List.mem_of_getElem? (i := 186) rfl) rfl ⟨by decide, by decide, Nat.le_of_ble_eq_true rfl, rfl, mcd139⟩ rfl rfl (Nat.le_of_ble_eq_true rfl) rfl rfl (w128 (f := f) h0) ?_
  refine R_p (ls' := [(0, .ref 0), (1, .ref 16), (2, .ref 42), (3, .ref 53), (4, .int 0), (5, .int 1), (6, .int 0)]) d171_399 rfl rfl ?_
  refine R_p d171_401 rfl rfl ?_
  refine R_cm [] d171_402 (List.mem_of_getElem? (i := 160) rfl) rfl ⟨by decide, by decide, Nat.le_of_ble_eq_true rfl, rfl, mcd113⟩ rfl rfl (Nat.le_of_ble_eq_true rfl) rfl rfl (w120 (f := f)) ?_
  refine R_p d171_405 rfl rfl ?_
  refine R_br 412 d171_407 (mb_t (b := ((1 : Int32) = (1 : Int32))) (by decide)) rfl ?_
  refine R_p d171_412 rfl rfl ?_
  refine R_br 429 d171_414 (mb_t (b := (¬ (1 : Int32) = (0 : Int32))) (by decide)) rfl ?_
  refine R_br 950 d171_429 rfl rfl ?_
  refine R_p (ls' := [(0, .ref 0), (1, .ref 16), (2, .ref 42), (3, .ref 53), (4, .int 5), (5, .int 1), (6, .int 0)]) d171_950 rfl rfl ?_
  refine R_br 23 d171_953 rfl rfl ?_
  refine R_p d171_23 rfl rfl ?_
  refine R_p d171_25 rfl rfl ?_
  refine R_sln d171_26 ?_
  refine R_nv (v := _) (v' := 5) (show Int32.ofNat 5 = 5 from by decide) ?_
  refine R_ic (v := 5) d171_27 (by decide) ?_
  refine R_p d171_28 rfl rfl ?_
  refine R_nv (v := _) (v' := 0) (by decide) ?_
  refine R_br 956 d171_29 (mb_t (b := ((0 : Int32) < (5 : Int32))) (by decide)) rfl ?_
  refine R_ic (v := 1) d171_956 (by decide) ?_
  exact R_iret d171_957 rfl rfl rfl
set_option maxRecDepth 4000 in
theorem w130 {f : Nat → Int32} (h0 : ((f 1) < 0)) : Run (5, f) 106 (0, [(0, .ref 16), (1, .int (f 1)), (2, .int (f 2))], [], HL0) (.inr 54, HJ13) := by
  refine R_p d106_0 rfl rfl ?_
  refine R_p d106_1 rfl rfl ?_
  refine R_p d106_2 rfl rfl ?_
  exact R_tv [.int (f 1), .int (f 2)] d106_3 (List.mem_of_getElem? (i := 110) rfl) ⟨by decide, by decide, Nat.le_of_ble_eq_true rfl, mcd105⟩ rfl rfl (Nat.le_of_ble_eq_true rfl) rfl rfl rfl (Or.inr (w111 (f := f) h0))
set_option maxRecDepth 4000 in
theorem w131 {f : Nat → Int32} (h0 : ((f 1) < 0)) : Run (5, f) 161 (0, [(0, .ref 16), (1, .int (f 1)), (2, .int (f 2)), (3, .ref 53)], [], HL0) (.inl (some (.int 1)), HJ13) := by
  refine R_p d161_0 rfl rfl ?_
  refine R_ic (v := 0) d161_1 (by decide) ?_
  refine R_p d161_2 rfl rfl ?_
  refine R_p d161_3 rfl rfl ?_
  refine R_p d161_4 rfl rfl ?_
  refine R_tc [.int (f 1), .int (f 2)] d161_5 (List.mem_of_getElem? (i := 113) rfl) ⟨by decide, by decide, Nat.le_of_ble_eq_true rfl, mcd106⟩ rfl rfl (Nat.le_of_ble_eq_true rfl) rfl rfl rfl (cx := 12) (hp := 13) rfl (by decide) (by decide) (by decide) (Or.inl (w130 (f := f) h0)) ?_
  refine R_p (ls' := [(0, .ref 16), (1, .int (f 1)), (2, .int (f 2)), (3, .ref 53), (4, .ref 54)]) d161_13 rfl rfl ?_
  refine R_ic (v := 1) d161_15 (by decide) ?_
  exact R_iret d161_16 rfl rfl rfl
set_option maxRecDepth 4000 in
theorem w132 {f : Nat → Int32} (h0 : ((f 1) < 0)) : Run (5, f) 141 (0, [(0, .ref 42), (1, .int (f 1)), (2, .int (f 2))], [], HJ13) (.inl (some (.int 0)), HJ16) := by
  refine R_p d141_0 rfl rfl ?_
  refine R_p d141_1 rfl rfl ?_
  refine R_p d141_2 rfl rfl ?_
  refine R_p d141_3 rfl rfl ?_
  refine R_cm [.int (f 1), .int (f 2)] d141_4 (List.mem_of_getElem? (i := 187) rfl) rfl ⟨by decide, by decide, Nat.le_of_ble_eq_true rfl, rfl, mcd140⟩ rfl rfl (Nat.le_of_ble_eq_true rfl) rfl rfl (w117 (f := f) h0) ?_
  refine R_br 14 d141_7 (mb_t (b := ((0 : Int32) = (0 : Int32))) (by decide)) rfl ?_
  refine R_ic (v := 1) d141_14 (by decide) ?_
  refine R_cm [.int 1] d141_15 (List.mem_of_getElem? (i := 164) rfl) rfl ⟨by decide, by decide, Nat.le_of_ble_eq_true rfl, rfl, mcd117⟩ rfl rfl (Nat.le_of_ble_eq_true rfl) rfl rfl (w118 (f := f)) ?_
  refine R_nb d141_18 rfl (mb_f (b := ((1 : Int32) = (0 : Int32))) (by decide)) ?_
  refine R_ic (v := 0) d141_21 (by decide) ?_
  refine R_br 53 d141_22 rfl rfl ?_
  exact R_iret d141_53 rfl rfl rfl
set_option maxRecDepth 4000 in
theorem law432_133 {f : Nat → Int32} (h0 : ((f 1) < 0)) : Run (5, f) 171 (432, [(0, .ref 0), (1, .ref 16), (2, .ref 42), (3, .ref 53), (4, .int 0)], [], HL0) (.inl (some (.int 1)), HJ16) := by
  refine R_p d171_432 rfl rfl ?_
  refine R_p d171_433 rfl rfl ?_
  refine R_p d171_434 rfl rfl ?_
  refine R_ic (v := 1) d171_436 (by decide) ?_
  refine R_p d171_437 rfl rfl ?_
  refine R_nv (v := _) (v' := 1) (by decide) ?_
  refine R_sldk (n := 1) (x := (f 1)) d171_438 (vp_ok (by decide)) (by decide) rfl ?_
  refine R_p d171_439 rfl rfl ?_
  refine R_p d171_440 rfl rfl ?_
  refine R_ic (v := 2) d171_442 (by decide) ?_
  refine R_p d171_443 rfl rfl ?_
  refine R_nv (v := _) (v' := 2) (by decide) ?_
  refine R_sldk (n := 2) (x := (f 2)) d171_444 (vp_ok (by decide)) (by decide) rfl ?_
  refine R_p d171_445 rfl rfl ?_
  refine R_hs [.ref 16, .int (f 1), .int (f 2), .ref 53] d171_446 (List.mem_of_getElem? (i := 112) rfl) ⟨by decide, by decide, Nat.le_of_ble_eq_true rfl, mcd161⟩ rfl rfl (Nat.le_of_ble_eq_true rfl) (w131 (f := f) h0) ?_
  refine R_p (ls' := [(0, .ref 0), (1, .ref 16), (2, .ref 42), (3, .ref 53), (4, .int 0), (5, .int 1)]) d171_449 rfl rfl ?_
  refine R_p d171_451 rfl rfl ?_
  refine R_p d171_452 rfl rfl ?_
  refine R_p d171_453 rfl rfl ?_
  refine R_ic (v := 1) d171_455 (by decide) ?_
  refine R_p d171_456 rfl rfl ?_
  refine R_nv (v := _) (v' := 1) (by decide) ?_
  refine R_sldk (n := 1) (x := (f 1)) d171_457 (vp_ok (by decide)) (by decide) rfl ?_
  refine R_p d171_458 rfl rfl ?_
  refine R_p d171_459 rfl rfl ?_
  refine R_ic (v := 2) d171_461 (by decide) ?_
  refine R_p d171_462 rfl rfl ?_
  refine R_nv (v := _) (v' := 2) (by decide) ?_
  refine R_sldk (n := 2) (x := (f 2)) d171_463 (vp_ok (by decide)) (by decide) rfl ?_
  refine R_cm [.int (f 1), .int (f 2)] d171_464 (List.mem_of_getElem? (i := 188) rfl) rfl ⟨by decide, by decide, Nat.le_of_ble_eq_true rfl, rfl, mcd141⟩ rfl rfl (Nat.le_of_ble_eq_true rfl) rfl rfl (w132 (f := f) h0) ?_
  refine R_p (ls' := [(0, .ref 0), (1, .ref 16), (2, .ref 42), (3, .ref 53), (4, .int 0), (5, .int 1), (6, .int 0)]) d171_467 rfl rfl ?_
  refine R_p d171_469 rfl rfl ?_
  refine R_cm [] d171_470 (List.mem_of_getElem? (i := 160) rfl) rfl ⟨by decide, by decide, Nat.le_of_ble_eq_true rfl, rfl, mcd113⟩ rfl rfl (Nat.le_of_ble_eq_true rfl) rfl rfl (w120 (f := f)) ?_
  refine R_p d171_473 rfl rfl ?_
  refine R_br 480 d171_475 (mb_t (b := ((1 : Int32) = (1 : Int32))) (by decide)) rfl ?_
  refine R_p d171_480 rfl rfl ?_
  refine R_br 497 d171_482 (mb_t (b := (¬ (1 : Int32) = (0 : Int32))) (by decide)) rfl ?_
  refine R_br 950 d171_497 rfl rfl ?_
  refine R_p (ls' := [(0, .ref 0), (1, .ref 16), (2, .ref 42), (3, .ref 53), (4, .int 5), (5, .int 1), (6, .int 0)]) d171_950 rfl rfl ?_
  refine R_br 23 d171_953 rfl rfl ?_
  refine R_p d171_23 rfl rfl ?_
  refine R_p d171_25 rfl rfl ?_
  refine R_sln d171_26 ?_
  refine R_nv (v := _) (v' := 5) (show Int32.ofNat 5 = 5 from by decide) ?_
  refine R_ic (v := 5) d171_27 (by decide) ?_
  refine R_p d171_28 rfl rfl ?_
  refine R_nv (v := _) (v' := 0) (by decide) ?_
  refine R_br 956 d171_29 (mb_t (b := ((0 : Int32) < (5 : Int32))) (by decide)) rfl ?_
  refine R_ic (v := 1) d171_956 (by decide) ?_
  exact R_iret d171_957 rfl rfl rfl
set_option maxRecDepth 4000 in
theorem w134 {f : Nat → Int32} (h0 : ¬ ((f 1) < 0)) : Run (5, f) 106 (0, [(0, .ref 16), (1, .int (f 1)), (2, .int (f 2))], [], HL0) (.inr 54, HJ13) := by
  refine R_p d106_0 rfl rfl ?_
  refine R_p d106_1 rfl rfl ?_
  refine R_p d106_2 rfl rfl ?_
  exact R_tv [.int (f 1), .int (f 2)] d106_3 (List.mem_of_getElem? (i := 110) rfl) ⟨by decide, by decide, Nat.le_of_ble_eq_true rfl, mcd105⟩ rfl rfl (Nat.le_of_ble_eq_true rfl) rfl rfl rfl (Or.inr (w123 (f := f) h0))
set_option maxRecDepth 4000 in
theorem w135 {f : Nat → Int32} (h0 : ¬ ((f 1) < 0)) : Run (5, f) 161 (0, [(0, .ref 16), (1, .int (f 1)), (2, .int (f 2)), (3, .ref 53)], [], HL0) (.inl (some (.int 1)), HJ13) := by
  refine R_p d161_0 rfl rfl ?_
  refine R_ic (v := 0) d161_1 (by decide) ?_
  refine R_p d161_2 rfl rfl ?_
  refine R_p d161_3 rfl rfl ?_
  refine R_p d161_4 rfl rfl ?_
  refine R_tc [.int (f 1), .int (f 2)] d161_5 (List.mem_of_getElem? (i := 113) rfl) ⟨by decide, by decide, Nat.le_of_ble_eq_true rfl, mcd106⟩ rfl rfl (Nat.le_of_ble_eq_true rfl) rfl rfl rfl (cx := 12) (hp := 13) rfl (by decide) (by decide) (by decide) (Or.inl (w134 (f := f) h0)) ?_
  refine R_p (ls' := [(0, .ref 16), (1, .int (f 1)), (2, .int (f 2)), (3, .ref 53), (4, .ref 54)]) d161_13 rfl rfl ?_
  refine R_ic (v := 1) d161_15 (by decide) ?_
  exact R_iret d161_16 rfl rfl rfl
set_option maxRecDepth 4000 in
theorem w136 {f : Nat → Int32} (h0 : ¬ ((f 1) < 0)) : Run (5, f) 141 (0, [(0, .ref 42), (1, .int (f 1)), (2, .int (f 2))], [], HJ13) (.inl (some (.int 0)), HJ16) := by
  refine R_p d141_0 rfl rfl ?_
  refine R_p d141_1 rfl rfl ?_
  refine R_p d141_2 rfl rfl ?_
  refine R_p d141_3 rfl rfl ?_
  refine R_cm [.int (f 1), .int (f 2)] d141_4 (List.mem_of_getElem? (i := 187) rfl) rfl ⟨by decide, by decide, Nat.le_of_ble_eq_true rfl, rfl, mcd140⟩ rfl rfl (Nat.le_of_ble_eq_true rfl) rfl rfl (w127 (f := f) h0) ?_
  refine R_br 14 d141_7 (mb_t (b := ((0 : Int32) = (0 : Int32))) (by decide)) rfl ?_
  refine R_ic (v := 1) d141_14 (by decide) ?_
  refine R_cm [.int 1] d141_15 (List.mem_of_getElem? (i := 164) rfl) rfl ⟨by decide, by decide, Nat.le_of_ble_eq_true rfl, rfl, mcd117⟩ rfl rfl (Nat.le_of_ble_eq_true rfl) rfl rfl (w118 (f := f)) ?_
  refine R_nb d141_18 rfl (mb_f (b := ((1 : Int32) = (0 : Int32))) (by decide)) ?_
  refine R_ic (v := 0) d141_21 (by decide) ?_
  refine R_br 53 d141_22 rfl rfl ?_
  exact R_iret d141_53 rfl rfl rfl
set_option maxRecDepth 4000 in
theorem law432_137 {f : Nat → Int32} (h0 : ¬ ((f 1) < 0)) : Run (5, f) 171 (432, [(0, .ref 0), (1, .ref 16), (2, .ref 42), (3, .ref 53), (4, .int 0)], [], HL0) (.inl (some (.int 1)), HJ16) := by
  refine R_p d171_432 rfl rfl ?_
  refine R_p d171_433 rfl rfl ?_
  refine R_p d171_434 rfl rfl ?_
  refine R_ic (v := 1) d171_436 (by decide) ?_
  refine R_p d171_437 rfl rfl ?_
  refine R_nv (v := _) (v' := 1) (by decide) ?_
  refine R_sldk (n := 1) (x := (f 1)) d171_438 (vp_ok (by decide)) (by decide) rfl ?_
  refine R_p d171_439 rfl rfl ?_
  refine R_p d171_440 rfl rfl ?_
  refine R_ic (v := 2) d171_442 (by decide) ?_
  refine R_p d171_443 rfl rfl ?_
  refine R_nv (v := _) (v' := 2) (by decide) ?_
  refine R_sldk (n := 2) (x := (f 2)) d171_444 (vp_ok (by decide)) (by decide) rfl ?_
  refine R_p d171_445 rfl rfl ?_
  refine R_hs [.ref 16, .int (f 1), .int (f 2), .ref 53] d171_446 (List.mem_of_getElem? (i := 112) rfl) ⟨by decide, by decide, Nat.le_of_ble_eq_true rfl, mcd161⟩ rfl rfl (Nat.le_of_ble_eq_true rfl) (w135 (f := f) h0) ?_
  refine R_p (ls' := [(0, .ref 0), (1, .ref 16), (2, .ref 42), (3, .ref 53), (4, .int 0), (5, .int 1)]) d171_449 rfl rfl ?_
  refine R_p d171_451 rfl rfl ?_
  refine R_p d171_452 rfl rfl ?_
  refine R_p d171_453 rfl rfl ?_
  refine R_ic (v := 1) d171_455 (by decide) ?_
  refine R_p d171_456 rfl rfl ?_
  refine R_nv (v := _) (v' := 1) (by decide) ?_
  refine R_sldk (n := 1) (x := (f 1)) d171_457 (vp_ok (by decide)) (by decide) rfl ?_
  refine R_p d171_458 rfl rfl ?_
  refine R_p d171_459 rfl rfl ?_
  refine R_ic (v := 2) d171_461 (by decide) ?_
  refine R_p d171_462 rfl rfl ?_
  refine R_nv (v := _) (v' := 2) (by decide) ?_
  refine R_sldk (n := 2) (x := (f 2)) d171_463 (vp_ok (by decide)) (by decide) rfl ?_
  refine R_cm [.int (f 1), .int (f 2)] d171_464 (List.mem_of_getElem? (i := 188) rfl) rfl ⟨by decide, by decide, Nat.le_of_ble_eq_true rfl, rfl, mcd141⟩ rfl rfl (Nat.le_of_ble_eq_true rfl) rfl rfl (w136 (f := f) h0) ?_
  refine R_p (ls' := [(0, .ref 0), (1, .ref 16), (2, .ref 42), (3, .ref 53), (4, .int 0), (5, .int 1), (6, .int 0)]) d171_467 rfl rfl ?_
  refine R_p d171_469 rfl rfl ?_
  refine R_cm [] d171_470 (List.mem_of_getElem? (i := 160) rfl) rfl ⟨by decide, by decide, Nat.le_of_ble_eq_true rfl, rfl, mcd113⟩ rfl rfl (Nat.le_of_ble_eq_true rfl) rfl rfl (w120 (f := f)) ?_
  refine R_p d171_473 rfl rfl ?_
  refine R_br 480 d171_475 (mb_t (b := ((1 : Int32) = (1 : Int32))) (by decide)) rfl ?_
  refine R_p d171_480 rfl rfl ?_
  refine R_br 497 d171_482 (mb_t (b := (¬ (1 : Int32) = (0 : Int32))) (by decide)) rfl ?_
  refine R_br 950 d171_497 rfl rfl ?_
  refine R_p (ls' := [(0, .ref 0), (1, .ref 16), (2, .ref 42), (3, .ref 53), (4, .int 5), (5, .int 1), (6, .int 0)]) d171_950 rfl rfl ?_
  refine R_br 23 d171_953 rfl rfl ?_
  refine R_p d171_23 rfl rfl ?_
  refine R_p d171_25 rfl rfl ?_
  refine R_sln d171_26 ?_
  refine R_nv (v := _) (v' := 5) (show Int32.ofNat 5 = 5 from by decide) ?_
  refine R_ic (v := 5) d171_27 (by decide) ?_
  refine R_p d171_28 rfl rfl ?_
  refine R_nv (v := _) (v' := 0) (by decide) ?_
  refine R_br 956 d171_29 (mb_t (b := ((0 : Int32) < (5 : Int32))) (by decide)) rfl ?_
  refine R_ic (v := 1) d171_956 (by decide) ?_
  exact R_iret d171_957 rfl rfl rfl
set_option maxRecDepth 4000 in
theorem w138 {f : Nat → Int32} (h0 : ((f 1) < 0)) : Run (5, f) 107 (0, [(0, .ref 16), (1, .int (f 1)), (2, .int (f 2))], [], HL0) (.inr 54, HJ1) := by
  refine R_p d107_0 rfl rfl ?_
  refine R_p d107_1 rfl rfl ?_
  refine R_p d107_2 rfl rfl ?_
  exact R_tv [.int (f 1), .int (f 2)] d107_3 (List.mem_of_getElem? (i := 85) rfl) ⟨by decide, by decide, Nat.le_of_ble_eq_true rfl, mcd101⟩ rfl rfl (Nat.le_of_ble_eq_true rfl) rfl rfl rfl (Or.inl (w55 (f := f) h0))
set_option maxRecDepth 4000 in
theorem w139 {f : Nat → Int32} (h0 : ((f 1) < 0)) : Run (5, f) 162 (0, [(0, .ref 16), (1, .int (f 1)), (2, .int (f 2)), (3, .ref 53)], [], HL0) (.inl (some (.int 1)), HJ1) := by
  refine R_p d162_0 rfl rfl ?_
  refine R_ic (v := 0) d162_1 (by decide) ?_
  refine R_p d162_2 rfl rfl ?_
  refine R_p d162_3 rfl rfl ?_
  refine R_p d162_4 rfl rfl ?_
  refine R_tc [.int (f 1), .int (f 2)] d162_5 (List.mem_of_getElem? (i := 116) rfl) ⟨by decide, by decide, Nat.le_of_ble_eq_true rfl, mcd107⟩ rfl rfl (Nat.le_of_ble_eq_true rfl) rfl rfl rfl (cx := 10) (hp := 13) rfl (by decide) (by decide) (by decide) (Or.inl (w138 (f := f) h0)) ?_
  refine R_p (ls' := [(0, .ref 16), (1, .int (f 1)), (2, .int (f 2)), (3, .ref 53), (4, .ref 54)]) d162_13 rfl rfl ?_
  refine R_ic (v := 1) d162_15 (by decide) ?_
  exact R_iret d162_16 rfl rfl rfl
set_option maxRecDepth 4000 in
theorem w140 {f : Nat → Int32} (h0 : ((f 1) < 0)) : Run (5, f) 142 (0, [(0, .ref 42), (1, .int (f 1)), (2, .int (f 2))], [], HJ1) (.inl (some (.int 0)), HJ2) := by
  refine R_p d142_0 rfl rfl ?_
  refine R_p d142_1 rfl rfl ?_
  refine R_p d142_2 rfl rfl ?_
  refine R_p d142_3 rfl rfl ?_
  refine R_cm [.int (f 1), .int (f 2)] d142_4 (List.mem_of_getElem? (i := 168) rfl) rfl ⟨by decide, by decide, Nat.le_of_ble_eq_true rfl, rfl, mcd121⟩ rfl rfl (Nat.le_of_ble_eq_true rfl) rfl rfl (w60 (f := f) h0) ?_
  refine R_br 14 d142_7 (mb_t (b := ((0 : Int32) = (0 : Int32))) (by decide)) rfl ?_
  refine R_ic (v := 1) d142_14 (by decide) ?_
  refine R_cm [.int 1] d142_15 (List.mem_of_getElem? (i := 164) rfl) rfl ⟨by decide, by decide, Nat.le_of_ble_eq_true rfl, rfl, mcd117⟩ rfl rfl (Nat.le_of_ble_eq_true rfl) rfl rfl (w6 (f := f)) ?_
  refine R_nb d142_18 rfl (mb_f (b := ((1 : Int32) = (0 : Int32))) (by decide)) ?_
  refine R_ic (v := 0) d142_21 (by decide) ?_
  exact R_iret d142_22 rfl rfl rfl
set_option maxRecDepth 4000 in
theorem law500_141 {f : Nat → Int32} (h0 : ((f 1) < 0)) : Run (5, f) 171 (500, [(0, .ref 0), (1, .ref 16), (2, .ref 42), (3, .ref 53), (4, .int 0)], [], HL0) (.inl (some (.int 1)), HJ2) := by
  refine R_p d171_500 rfl rfl ?_
  refine R_p d171_501 rfl rfl ?_
  refine R_p d171_502 rfl rfl ?_
  refine R_ic (v := 1) d171_504 (by decide) ?_
  refine R_p d171_505 rfl rfl ?_
  refine R_nv (v := _) (v' := 1) (by decide) ?_
  refine R_sldk (n := 1) (x := (f 1)) d171_506 (vp_ok (by decide)) (by decide) rfl ?_
  refine R_p d171_507 rfl rfl ?_
  refine R_p d171_508 rfl rfl ?_
  refine R_ic (v := 2) d171_510 (by decide) ?_
  refine R_p d171_511 rfl rfl ?_
  refine R_nv (v := _) (v' := 2) (by decide) ?_
  refine R_sldk (n := 2) (x := (f 2)) d171_512 (vp_ok (by decide)) (by decide) rfl ?_
  refine R_p d171_513 rfl rfl ?_
  refine R_hs [.ref 16, .int (f 1), .int (f 2), .ref 53] d171_514 (List.mem_of_getElem? (i := 115) rfl) ⟨by decide, by decide, Nat.le_of_ble_eq_true rfl, mcd162⟩ rfl rfl (Nat.le_of_ble_eq_true rfl) (w139 (f := f) h0) ?_
  refine R_p (ls' := [(0, .ref 0), (1, .ref 16), (2, .ref 42), (3, .ref 53), (4, .int 0), (5, .int 1)]) d171_517 rfl rfl ?_
  refine R_p d171_519 rfl rfl ?_
  refine R_p d171_520 rfl rfl ?_
  refine R_p d171_521 rfl rfl ?_
  refine R_ic (v := 1) d171_523 (by decide) ?_
  refine R_p d171_524 rfl rfl ?_
  refine R_nv (v := _) (v' := 1) (by decide) ?_
  refine R_sldk (n := 1) (x := (f 1)) d171_525 (vp_ok (by decide)) (by decide) rfl ?_
  refine R_p d171_526 rfl rfl ?_
  refine R_p d171_527 rfl rfl ?_
  refine R_ic (v := 2) d171_529 (by decide) ?_
  refine R_p d171_530 rfl rfl ?_
  refine R_nv (v := _) (v' := 2) (by decide) ?_
  refine R_sldk (n := 2) (x := (f 2)) d171_531 (vp_ok (by decide)) (by decide) rfl ?_
  refine R_cm [.int (f 1), .int (f 2)] d171_532 (List.mem_of_getElem? (i := 189) rfl) rfl ⟨by decide, by decide, Nat.le_of_ble_eq_true rfl, rfl, mcd142⟩ rfl rfl (Nat.le_of_ble_eq_true rfl) rfl rfl (w140 (f := f) h0) ?_
  refine R_p (ls' := [(0, .ref 0), (1, .ref 16), (2, .ref 42), (3, .ref 53), (4, .int 0), (5, .int 1), (6, .int 0)]) d171_535 rfl rfl ?_
  refine R_p d171_537 rfl rfl ?_
  refine R_cm [] d171_538 (List.mem_of_getElem? (i := 160) rfl) rfl ⟨by decide, by decide, Nat.le_of_ble_eq_true rfl, rfl, mcd113⟩ rfl rfl (Nat.le_of_ble_eq_true rfl) rfl rfl (w8 (f := f)) ?_
  refine R_p d171_541 rfl rfl ?_
  refine R_br 548 d171_543 (mb_t (b := ((1 : Int32) = (1 : Int32))) (by decide)) rfl ?_
  refine R_p d171_548 rfl rfl ?_
  refine R_br 565 d171_550 (mb_t (b := (¬ (1 : Int32) = (0 : Int32))) (by decide)) rfl ?_
  refine R_br 950 d171_565 rfl rfl ?_
  refine R_p (ls' := [(0, .ref 0), (1, .ref 16), (2, .ref 42), (3, .ref 53), (4, .int 5), (5, .int 1), (6, .int 0)]) d171_950 rfl rfl ?_
  refine R_br 23 d171_953 rfl rfl ?_
  refine R_p d171_23 rfl rfl ?_
  refine R_p d171_25 rfl rfl ?_
  refine R_sln d171_26 ?_
  refine R_nv (v := _) (v' := 5) (show Int32.ofNat 5 = 5 from by decide) ?_
  refine R_ic (v := 5) d171_27 (by decide) ?_
  refine R_p d171_28 rfl rfl ?_
  refine R_nv (v := _) (v' := 0) (by decide) ?_
  refine R_br 956 d171_29 (mb_t (b := ((0 : Int32) < (5 : Int32))) (by decide)) rfl ?_
  refine R_ic (v := 1) d171_956 (by decide) ?_
  exact R_iret d171_957 rfl rfl rfl
set_option maxRecDepth 4000 in
theorem w142 {f : Nat → Int32} (h0 : ¬ ((f 1) < 0)) : Run (5, f) 107 (0, [(0, .ref 16), (1, .int (f 1)), (2, .int (f 2))], [], HL0) (.inr 54, HJ1) := by
  refine R_p d107_0 rfl rfl ?_
  refine R_p d107_1 rfl rfl ?_
  refine R_p d107_2 rfl rfl ?_
  exact R_tv [.int (f 1), .int (f 2)] d107_3 (List.mem_of_getElem? (i := 85) rfl) ⟨by decide, by decide, Nat.le_of_ble_eq_true rfl, mcd101⟩ rfl rfl (Nat.le_of_ble_eq_true rfl) rfl rfl rfl (Or.inl (w65 (f := f) h0))
set_option maxRecDepth 4000 in
theorem w143 {f : Nat → Int32} (h0 : ¬ ((f 1) < 0)) : Run (5, f) 162 (0, [(0, .ref 16), (1, .int (f 1)), (2, .int (f 2)), (3, .ref 53)], [], HL0) (.inl (some (.int 1)), HJ1) := by
  refine R_p d162_0 rfl rfl ?_
  refine R_ic (v := 0) d162_1 (by decide) ?_
  refine R_p d162_2 rfl rfl ?_
  refine R_p d162_3 rfl rfl ?_
  refine R_p d162_4 rfl rfl ?_
  refine R_tc [.int (f 1), .int (f 2)] d162_5 (List.mem_of_getElem? (i := 116) rfl) ⟨by decide, by decide, Nat.le_of_ble_eq_true rfl, mcd107⟩ rfl rfl (Nat.le_of_ble_eq_true rfl) rfl rfl rfl (cx := 10) (hp := 13) rfl (by decide) (by decide) (by decide) (Or.inl (w142 (f := f) h0)) ?_
  refine R_p (ls' := [(0, .ref 16), (1, .int (f 1)), (2, .int (f 2)), (3, .ref 53), (4, .ref 54)]) d162_13 rfl rfl ?_
  refine R_ic (v := 1) d162_15 (by decide) ?_
  exact R_iret d162_16 rfl rfl rfl
set_option maxRecDepth 4000 in
theorem w144 {f : Nat → Int32} (h0 : ¬ ((f 1) < 0)) : Run (5, f) 142 (0, [(0, .ref 42), (1, .int (f 1)), (2, .int (f 2))], [], HJ1) (.inl (some (.int 0)), HJ2) := by
  refine R_p d142_0 rfl rfl ?_
  refine R_p d142_1 rfl rfl ?_
  refine R_p d142_2 rfl rfl ?_
  refine R_p d142_3 rfl rfl ?_
  refine R_cm [.int (f 1), .int (f 2)] d142_4 (List.mem_of_getElem? (i := 168) rfl) rfl ⟨by decide, by decide, Nat.le_of_ble_eq_true rfl, rfl, mcd121⟩ rfl rfl (Nat.le_of_ble_eq_true rfl) rfl rfl (w70 (f := f) h0) ?_
  refine R_br 14 d142_7 (mb_t (b := ((0 : Int32) = (0 : Int32))) (by decide)) rfl ?_
  refine R_ic (v := 1) d142_14 (by decide) ?_
  refine R_cm [.int 1] d142_15 (List.mem_of_getElem? (i := 164) rfl) rfl ⟨by decide, by decide, Nat.le_of_ble_eq_true rfl, rfl, mcd117⟩ rfl rfl (Nat.le_of_ble_eq_true rfl) rfl rfl (w6 (f := f)) ?_
  refine R_nb d142_18 rfl (mb_f (b := ((1 : Int32) = (0 : Int32))) (by decide)) ?_
  refine R_ic (v := 0) d142_21 (by decide) ?_
  exact R_iret d142_22 rfl rfl rfl
set_option maxRecDepth 4000 in
theorem law500_145 {f : Nat → Int32} (h0 : ¬ ((f 1) < 0)) : Run (5, f) 171 (500, [(0, .ref 0), (1, .ref 16), (2, .ref 42), (3, .ref 53), (4, .int 0)], [], HL0) (.inl (some (.int 1)), HJ2) := by
  refine R_p d171_500 rfl rfl ?_
  refine R_p d171_501 rfl rfl ?_
  refine R_p d171_502 rfl rfl ?_
  refine R_ic (v := 1) d171_504 (by decide) ?_
  refine R_p d171_505 rfl rfl ?_
  refine R_nv (v := _) (v' := 1) (by decide) ?_
  refine R_sldk (n := 1) (x := (f 1)) d171_506 (vp_ok (by decide)) (by decide) rfl ?_
  refine R_p d171_507 rfl rfl ?_
  refine R_p d171_508 rfl rfl ?_
  refine R_ic (v := 2) d171_510 (by decide) ?_
  refine R_p d171_511 rfl rfl ?_
  refine R_nv (v := _) (v' := 2) (by decide) ?_
  refine R_sldk (n := 2) (x := (f 2)) d171_512 (vp_ok (by decide)) (by decide) rfl ?_
  refine R_p d171_513 rfl rfl ?_
  refine R_hs [.ref 16, .int (f 1), .int (f 2), .ref 53] d171_514 (List.mem_of_getElem? (i := 115) rfl) ⟨by decide, by decide, Nat.le_of_ble_eq_true rfl, mcd162⟩ rfl rfl (Nat.le_of_ble_eq_true rfl) (w143 (f := f) h0) ?_
  refine R_p (ls' := [(0, .ref 0), (1, .ref 16), (2, .ref 42), (3, .ref 53), (4, .int 0), (5, .int 1)]) d171_517 rfl rfl ?_
  refine R_p d171_519 rfl rfl ?_
  refine R_p d171_520 rfl rfl ?_
  refine R_p d171_521 rfl rfl ?_
  refine R_ic (v := 1) d171_523 (by decide) ?_
  refine R_p d171_524 rfl rfl ?_
  refine R_nv (v := _) (v' := 1) (by decide) ?_
  refine R_sldk (n := 1) (x := (f 1)) d171_525 (vp_ok (by decide)) (by decide) rfl ?_
  refine R_p d171_526 rfl rfl ?_
  refine R_p d171_527 rfl rfl ?_
  refine R_ic (v := 2) d171_529 (by decide) ?_
  refine R_p d171_530 rfl rfl ?_
  refine R_nv (v := _) (v' := 2) (by decide) ?_
  refine R_sldk (n := 2) (x := (f 2)) d171_531 (vp_ok (by decide)) (by decide) rfl ?_
  refine R_cm [.int (f 1), .int (f 2)] d171_532 (List.mem_of_getElem? (i := 189) rfl) rfl ⟨by decide, by decide, Nat.le_of_ble_eq_true rfl, rfl, mcd142⟩ rfl rfl (Nat.le_of_ble_eq_true rfl) rfl rfl (w144 (f := f) h0) ?_
  refine R_p (ls' := [(0, .ref 0), (1, .ref 16), (2, .ref 42), (3, .ref 53), (4, .int 0), (5, .int 1), (6, .int 0)]) d171_535 rfl rfl ?_
  refine R_p d171_537 rfl rfl ?_
  refine R_cm [] d171_538 (List.mem_of_getElem? (i := 160) rfl) rfl ⟨by decide, by decide, Nat.le_of_ble_eq_true rfl, rfl, mcd113⟩ rfl rfl (Nat.le_of_ble_eq_true rfl) rfl rfl (w8 (f := f)) ?_
  refine R_p d171_541 rfl rfl ?_
  refine R_br 548 d171_543 (mb_t (b := ((1 : Int32) = (1 : Int32))) (by decide)) rfl ?_
  refine R_p d171_548 rfl rfl ?_
  refine R_br 565 d171_550 (mb_t (b := (¬ (1 : Int32) = (0 : Int32))) (by decide)) rfl ?_
  refine R_br 950 d171_565 rfl rfl ?_
  refine R_p (ls' := [(0, .ref 0), (1, .ref 16), (2, .ref 42), (3, .ref 53), (4, .int 5), (5, .int 1), (6, .int 0)]) d171_950 rfl rfl ?_
  refine R_br 23 d171_953 rfl rfl ?_
  refine R_p d171_23 rfl rfl ?_
  refine R_p d171_25 rfl rfl ?_
  refine R_sln d171_26 ?_
  refine R_nv (v := _) (v' := 5) (show Int32.ofNat 5 = 5 from by decide) ?_
  refine R_ic (v := 5) d171_27 (by decide) ?_
  refine R_p d171_28 rfl rfl ?_
  refine R_nv (v := _) (v' := 0) (by decide) ?_
  refine R_br 956 d171_29 (mb_t (b := ((0 : Int32) < (5 : Int32))) (by decide)) rfl ?_
  refine R_ic (v := 1) d171_956 (by decide) ?_
  exact R_iret d171_957 rfl rfl rfl
set_option maxRecDepth 4000 in
theorem w146 {f : Nat → Int32} (h0 : ((f 1) < 0)) : Run (5, f) 108 (0, [(0, .ref 16), (1, .int (f 1)), (2, .int (f 2)), (3, .int (f 3))], [], HL0) (.inr 54, HJ1) := by
  refine R_p d108_0 rfl rfl ?_
  refine R_p d108_1 rfl rfl ?_
  exact R_tv [.int (f 1)] d108_2 (List.mem_of_getElem? (i := 86) rfl) ⟨by decide, by decide, Nat.le_of_ble_eq_true rfl, mcd102⟩ rfl rfl (Nat.le_of_ble_eq_true rfl) rfl rfl rfl (Or.inr (w54 (f := f) h0))
set_option maxRecDepth 4000 in
theorem w147 {f : Nat → Int32} (h0 : ((f 1) < 0)) : Run (5, f) 163 (0, [(0, .ref 16), (1, .int (f 1)), (2, .int (f 2)), (3, .int (f 3)), (4, .ref 53)], [], HL0) (.inl (some (.int 1)), HJ1) := by
  refine R_p d163_0 rfl rfl ?_
  refine R_ic (v := 0) d163_2 (by decide) ?_
  refine R_p d163_3 rfl rfl ?_
  refine R_p d163_4 rfl rfl ?_
  refine R_p d163_5 rfl rfl ?_
  refine R_p d163_6 rfl rfl ?_
  refine R_tc [.int (f 1), .int (f 2), .int (f 3)] d163_7 (List.mem_of_getElem? (i := 119) rfl) ⟨by decide, by decide, Nat.le_of_ble_eq_true rfl, mcd108⟩ rfl rfl (Nat.le_of_ble_eq_true rfl) rfl rfl rfl (cx := 10) (hp := 15) rfl (by decide) (by decide) (by decide) (Or.inl (w146 (f := f) h0)) ?_
  refine R_p (ls' := [(0, .ref 16), (1, .int (f 1)), (2, .int (f 2)), (3, .int (f 3)), (4, .ref 53), (5, .ref 54)]) d163_15 rfl rfl ?_
  refine R_ic (v := 1) d163_17 (by decide) ?_
  exact R_iret d163_18 rfl rfl rfl
set_option maxRecDepth 4000 in
theorem w148 {f : Nat → Int32} (h0 : ((f 1) < 0)) : Run (5, f) 143 (0, [(0, .ref 42), (1, .int (f 1)), (2, .int (f 2)), (3, .int (f 3))], [], HJ1) (.inl (some (.int 0)), HJ2) := by
  refine R_p d143_0 rfl rfl ?_
  refine R_p d143_1 rfl rfl ?_
  refine R_p d143_2 rfl rfl ?_
  refine R_cm [.int (f 1)] d143_3 (List.mem_of_getElem? (i := 169) rfl) rfl ⟨by decide, by decide, Nat.le_of_ble_eq_true rfl, rfl, mcd122⟩ rfl rfl (Nat.le_of_ble_eq_true rfl) rfl rfl (w59 (f := f) h0) ?_
  refine R_br 29 d143_6 (mb_t (b := ((0 : Int32) = (0 : Int32))) (by decide)) rfl ?_
  refine R_ic (v := 1) d143_29 (by decide) ?_
  refine R_cm [.int 1] d143_30 (List.mem_of_getElem? (i := 164) rfl) rfl ⟨by decide, by decide, Nat.le_of_ble_eq_true rfl, rfl, mcd117⟩ rfl rfl (Nat.le_of_ble_eq_true rfl) rfl rfl (w6 (f := f)) ?_
  refine R_nb d143_33 rfl (mb_f (b := ((1 : Int32) = (0 : Int32))) (by decide)) ?_
  refine R_ic (v := 0) d143_36 (by decide) ?_
  refine R_br 47 d143_37 rfl rfl ?_
  exact R_iret d143_47 rfl rfl rfl
set_option maxRecDepth 4000 in
theorem law568_149 {f : Nat → Int32} (h0 : ((f 1) < 0)) : Run (5, f) 171 (568, [(0, .ref 0), (1, .ref 16), (2, .ref 42), (3, .ref 53), (4, .int 0)], [], HL0) (.inl (some (.int 1)), HJ2) := by
  refine R_p d171_568 rfl rfl ?_
  refine R_p d171_569 rfl rfl ?_
  refine R_p d171_570 rfl rfl ?_
  refine R_ic (v := 1) d171_572 (by decide) ?_
  refine R_p d171_573 rfl rfl ?_
  refine R_nv (v := _) (v' := 1) (by decide) ?_
  refine R_sldk (n := 1) (x := (f 1)) d171_574 (vp_ok (by decide)) (by decide) rfl ?_
  refine R_p d171_575 rfl rfl ?_
  refine R_p d171_576 rfl rfl ?_
  refine R_ic (v := 2) d171_578 (by decide) ?_
  refine R_p d171_579 rfl rfl ?_
  refine R_nv (v := _) (v' := 2) (by decide) ?_
  refine R_sldk (n := 2) (x := (f 2)) d171_580 (vp_ok (by decide)) (by decide) rfl ?_
  refine R_p d171_581 rfl rfl ?_
  refine R_p d171_582 rfl rfl ?_
  refine R_ic (v := 3) d171_584 (by decide) ?_
  refine R_p d171_585 rfl rfl ?_
  refine R_nv (v := _) (v' := 3) (by decide) ?_
  refine R_sldk (n := 3) (x := (f 3)) d171_586 (vp_ok (by decide)) (by decide) rfl ?_
  refine R_p d171_587 rfl rfl ?_
  refine R_hs [.ref 16, .int (f 1), .int (f 2), .int (f 3), .ref 53] d171_588 (List.mem_of_getElem? (i := 118) rfl) ⟨by decide, by decide, Nat.le_of_ble_eq_true rfl, mcd163⟩ rfl rfl (Nat.le_of_ble_eq_true rfl) (w147 (f := f) h0) ?_
  refine R_p (ls' := [(0, .ref 0), (1, .ref 16), (2, .ref 42), (3, .ref 53), (4, .int 0), (5, .int 1)]) d171_591 rfl rfl ?_
  refine R_p d171_593 rfl rfl ?_
  refine R_p d171_594 rfl rfl ?_
  refine R_p d171_595 rfl rfl ?_
  refine R_ic (v := 1) d171_597 (by decide) ?_
  refine R_p d171_598 rfl rfl ?_
  refine R_nv (v := _) (v' := 1) (by decide) ?_
  refine R_sldk (n := 1) (x := (f 1)) d171_599 (vp_ok (by decide)) (by decide) rfl ?_
  refine R_p d171_600 rfl rfl ?_
  refine R_p d171_601 rfl rfl ?_
  refine R_ic (v := 2) d171_603 (by decide) ?_
  refine R_p d171_604 rfl rfl ?_
  refine R_nv (v := _) (v' := 2) (by decide) ?_
  refine R_sldk (n := 2) (x := (f 2)) d171_605 (vp_ok (by decide)) (by decide) rfl ?_
  refine R_p d171_606 rfl rfl ?_
  refine R_p d171_607 rfl rfl ?_
  refine R_ic (v := 3) d171_609 (by decide) ?_
  refine R_p d171_610 rfl rfl ?_
  refine R_nv (v := _) (v' := 3) (by decide) ?_
  refine R_sldk (n := 3) (x := (f 3)) d171_611 (vp_ok (by decide)) (by decide) rfl ?_
  refine R_cm [.int (f 1), .int (f 2), .int (f 3)] d171_612 (List.mem_of_getElem? (i := 190) rfl) rfl ⟨by decide, by decide, Nat.le_of_ble_eq_true rfl, rfl, mcd143⟩ rfl rfl (Nat.le_of_ble_eq_true rfl) rfl rfl (w148 (f := f) h0) ?_
  refine R_p (ls' := [(0, .ref 0), (1, .ref 16), (2, .ref 42), (3, .ref 53), (4, .int 0), (5, .int 1), (6, .int 0)]) d171_615 rfl rfl ?_
  refine R_p d171_617 rfl rfl ?_
  refine R_cm [] d171_618 (List.mem_of_getElem? (i := 160) rfl) rfl ⟨by decide, by decide, Nat.le_of_ble_eq_true rfl, rfl, mcd113⟩ rfl rfl (Nat.le_of_ble_eq_true rfl) rfl rfl (w8 (f := f)) ?_
  refine R_p d171_621 rfl rfl ?_
  refine R_br 628 d171_623 (mb_t (b := ((1 : Int32) = (1 : Int32))) (by decide)) rfl ?_
  refine R_p d171_628 rfl rfl ?_
  refine R_br 645 d171_630 (mb_t (b := (¬ (1 : Int32) = (0 : Int32))) (by decide)) rfl ?_
  refine R_br 950 d171_645 rfl rfl ?_
  refine R_p (ls' := [(0, .ref 0), (1, .ref 16), (2, .ref 42), (3, .ref 53), (4, .int 5), (5, .int 1), (6, .int 0)]) d171_950 rfl rfl ?_
  refine R_br 23 d171_953 rfl rfl ?_
  refine R_p d171_23 rfl rfl ?_
  refine R_p d171_25 rfl rfl ?_
  refine R_sln d171_26 ?_
  refine R_nv (v := _) (v' := 5) (show Int32.ofNat 5 = 5 from by decide) ?_
  refine R_ic (v := 5) d171_27 (by decide) ?_
  refine R_p d171_28 rfl rfl ?_
  refine R_nv (v := _) (v' := 0) (by decide) ?_
  refine R_br 956 d171_29 (mb_t (b := ((0 : Int32) < (5 : Int32))) (by decide)) rfl ?_
  refine R_ic (v := 1) d171_956 (by decide) ?_
  exact R_iret d171_957 rfl rfl rfl
set_option maxRecDepth 4000 in
theorem w150 {f : Nat → Int32} (h0 : ¬ ((f 1) < 0)) : Run (5, f) 108 (0, [(0, .ref 16), (1, .int (f 1)), (2, .int (f 2)), (3, .int (f 3))], [], HL0) (.inr 54, HJ1) := by
  refine R_p d108_0 rfl rfl ?_
  refine R_p d108_1 rfl rfl ?_
  exact R_tv [.int (f 1)] d108_2 (List.mem_of_getElem? (i := 86) rfl) ⟨by decide, by decide, Nat.le_of_ble_eq_true rfl, mcd102⟩ rfl rfl (Nat.le_of_ble_eq_true rfl) rfl rfl rfl (Or.inr (w64 (f := f) h0))
set_option maxRecDepth 4000 in
theorem w151 {f : Nat → Int32} (h0 : ¬ ((f 1) < 0)) : Run (5, f) 163 (0, [(0, .ref 16), (1, .int (f 1)), (2, .int (f 2)), (3, .int (f 3)), (4, .ref 53)], [], HL0) (.inl (some (.int 1)), HJ1) := by
  refine R_p d163_0 rfl rfl ?_
  refine R_ic (v := 0) d163_2 (by decide) ?_
  refine R_p d163_3 rfl rfl ?_
  refine R_p d163_4 rfl rfl ?_
  refine R_p d163_5 rfl rfl ?_
  refine R_p d163_6 rfl rfl ?_
  refine R_tc [.int (f 1), .int (f 2), .int (f 3)] d163_7 (List.mem_of_getElem? (i := 119) rfl) ⟨by decide, by decide, Nat.le_of_ble_eq_true rfl, mcd108⟩ rfl rfl (Nat.le_of_ble_eq_true rfl) rfl rfl rfl (cx := 10) (hp := 15) rfl (by decide) (by decide) (by decide) (Or.inl (w150 (f := f) h0)) ?_
  refine R_p (ls' := [(0, .ref 16), (1, .int (f 1)), (2, .int (f 2)), (3, .int (f 3)), (4, .ref 53), (5, .ref 54)]) d163_15 rfl rfl ?_
  refine R_ic (v := 1) d163_17 (by decide) ?_
  exact R_iret d163_18 rfl rfl rfl
set_option maxRecDepth 4000 in
theorem w152 {f : Nat → Int32} (h0 : ¬ ((f 1) < 0)) : Run (5, f) 143 (0, [(0, .ref 42), (1, .int (f 1)), (2, .int (f 2)), (3, .int (f 3))], [], HJ1) (.inl (some (.int 0)), HJ2) := by
  refine R_p d143_0 rfl rfl ?_
  refine R_p d143_1 rfl rfl ?_
  refine R_p d143_2 rfl rfl ?_
  refine R_cm [.int (f 1)] d143_3 (List.mem_of_getElem? (i := 169) rfl) rfl ⟨by decide, by decide, Nat.le_of_ble_eq_true rfl, rfl, mcd122⟩ rfl rfl (Nat.le_of_ble_eq_true rfl) rfl rfl (w69 (f := f) h0) ?_
  refine R_br 29 d143_6 (mb_t (b := ((0 : Int32) = (0 : Int32))) (by decide)) rfl ?_
  refine R_ic (v := 1) d143_29 (by decide) ?_
  refine R_cm [.int 1] d143_30 (List.mem_of_getElem? (i := 164) rfl) rfl ⟨by decide, by decide, Nat.le_of_ble_eq_true rfl, rfl, mcd117⟩ rfl rfl (Nat.le_of_ble_eq_true rfl) rfl rfl (w6 (f := f)) ?_
  refine R_nb d143_33 rfl (mb_f (b := ((1 : Int32) = (0 : Int32))) (by decide)) ?_
  refine R_ic (v := 0) d143_36 (by decide) ?_
  refine R_br 47 d143_37 rfl rfl ?_
  exact R_iret d143_47 rfl rfl rfl
set_option maxRecDepth 4000 in
theorem law568_153 {f : Nat → Int32} (h0 : ¬ ((f 1) < 0)) : Run (5, f) 171 (568, [(0, .ref 0), (1, .ref 16), (2, .ref 42), (3, .ref 53), (4, .int 0)], [], HL0) (.inl (some (.int 1)), HJ2) := by
  refine R_p d171_568 rfl rfl ?_
  refine R_p d171_569 rfl rfl ?_
  refine R_p d171_570 rfl rfl ?_
  refine R_ic (v := 1) d171_572 (by decide) ?_
  refine R_p d171_573 rfl rfl ?_
  refine R_nv (v := _) (v' := 1) (by decide) ?_
  refine R_sldk (n := 1) (x := (f 1)) d171_574 (vp_ok (by decide)) (by decide) rfl ?_
  refine R_p d171_575 rfl rfl ?_
  refine R_p d171_576 rfl rfl ?_
  refine R_ic (v := 2) d171_578 (by decide) ?_
  refine R_p d171_579 rfl rfl ?_
  refine R_nv (v := _) (v' := 2) (by decide) ?_
  refine R_sldk (n := 2) (x := (f 2)) d171_580 (vp_ok (by decide)) (by decide) rfl ?_
  refine R_p d171_581 rfl rfl ?_
  refine R_p d171_582 rfl rfl ?_
  refine R_ic (v := 3) d171_584 (by decide) ?_
  refine R_p d171_585 rfl rfl ?_
  refine R_nv (v := _) (v' := 3) (by decide) ?_
  refine R_sldk (n := 3) (x := (f 3)) d171_586 (vp_ok (by decide)) (by decide) rfl ?_
  refine R_p d171_587 rfl rfl ?_
  refine R_hs [.ref 16, .int (f 1), .int (f 2), .int (f 3), .ref 53] d171_588 (List.mem_of_getElem? (i := 118) rfl) ⟨by decide, by decide, Nat.le_of_ble_eq_true rfl, mcd163⟩ rfl rfl (Nat.le_of_ble_eq_true rfl) (w151 (f := f) h0) ?_
  refine R_p (ls' := [(0, .ref 0), (1, .ref 16), (2, .ref 42), (3, .ref 53), (4, .int 0), (5, .int 1)]) d171_591 rfl rfl ?_
  refine R_p d171_593 rfl rfl ?_
  refine R_p d171_594 rfl rfl ?_
  refine R_p d171_595 rfl rfl ?_
  refine R_ic (v := 1) d171_597 (by decide) ?_
  refine R_p d171_598 rfl rfl ?_
  refine R_nv (v := _) (v' := 1) (by decide) ?_
  refine R_sldk (n := 1) (x := (f 1)) d171_599 (vp_ok (by decide)) (by decide) rfl ?_
  refine R_p d171_600 rfl rfl ?_
  refine R_p d171_601 rfl rfl ?_
  refine R_ic (v := 2) d171_603 (by decide) ?_
  refine R_p d171_604 rfl rfl ?_
  refine R_nv (v := _) (v' := 2) (by decide) ?_
  refine R_sldk (n := 2) (x := (f 2)) d171_605 (vp_ok (by decide)) (by decide) rfl ?_
  refine R_p d171_606 rfl rfl ?_
  refine R_p d171_607 rfl rfl ?_
  refine R_ic (v := 3) d171_609 (by decide) ?_
  refine R_p d171_610 rfl rfl ?_
  refine R_nv (v := _) (v' := 3) (by decide) ?_
  refine R_sldk (n := 3) (x := (f 3)) d171_611 (vp_ok (by decide)) (by decide) rfl ?_
  refine R_cm [.int (f 1), .int (f 2), .int (f 3)] d171_612 (List.mem_of_getElem? (i := 190) rfl) rfl ⟨by decide, by decide, Nat.le_of_ble_eq_true rfl, rfl, mcd143⟩ rfl rfl (Nat.le_of_ble_eq_true rfl) rfl rfl (w152 (f := f) h0) ?_
  refine R_p (ls' := [(0, .ref 0), (1, .ref 16), (2, .ref 42), (3, .ref 53), (4, .int 0), (5, .int 1), (6, .int 0)]) d171_615 rfl rfl ?_
  refine R_p d171_617 rfl rfl ?_
  refine R_cm [] d171_618 (List.mem_of_getElem? (i := 160) rfl) rfl ⟨by decide, by decide, Nat.le_of_ble_eq_true rfl, rfl, mcd113⟩ rfl rfl (Nat.le_of_ble_eq_true rfl) rfl rfl (w8 (f := f)) ?_
  refine R_p d171_621 rfl rfl ?_
  refine R_br 628 d171_623 (mb_t (b := ((1 : Int32) = (1 : Int32))) (by decide)) rfl ?_
  refine R_p d171_628 rfl rfl ?_
  refine R_br 645 d171_630 (mb_t (b := (¬ (1 : Int32) = (0 : Int32))) (by decide)) rfl ?_
  refine R_br 950 d171_645 rfl rfl ?_
  refine R_p (ls' := [(0, .ref 0), (1, .ref 16), (2, .ref 42), (3, .ref 53), (4, .int 5), (5, .int 1), (6, .int 0)]) d171_950 rfl rfl ?_
  refine R_br 23 d171_953 rfl rfl ?_
  refine R_p d171_23 rfl rfl ?_
  refine R_p d171_25 rfl rfl ?_
  refine R_sln d171_26 ?_
  refine R_nv (v := _) (v' := 5) (show Int32.ofNat 5 = 5 from by decide) ?_
  refine R_ic (v := 5) d171_27 (by decide) ?_
  refine R_p d171_28 rfl rfl ?_
  refine R_nv (v := _) (v' := 0) (by decide) ?_
  refine R_br 956 d171_29 (mb_t (b := ((0 : Int32) < (5 : Int32))) (by decide)) rfl ?_
  refine R_ic (v := 1) d171_956 (by decide) ?_
  exact R_iret d171_957 rfl rfl rfl
set_option maxRecDepth 4000 in
theorem w154 {f : Nat → Int32} (h0 : ((f 1) < 0)) : Run (5, f) 109 (0, [(0, .ref 16), (1, .int (f 1)), (2, .int (f 2)), (3, .int (f 3)), (4, .int (f 4))], [], HL0) (.inr 54, HJ1) := by
  refine R_p d109_0 rfl rfl ?_
  refine R_p d109_1 rfl rfl ?_
  exact R_tv [.int (f 1)] d109_2 (List.mem_of_getElem? (i := 86) rfl) ⟨by decide, by decide, Nat.le_of_ble_eq_true rfl, mcd102⟩ rfl rfl (Nat.le_of_ble_eq_true rfl) rfl rfl rfl (Or.inr (w54 (f := f) h0))
set_option maxRecDepth 4000 in
theorem w155 {f : Nat → Int32} (h0 : ((f 1) < 0)) : Run (5, f) 164 (0, [(0, .ref 16), (1, .int (f 1)), (2, .int (f 2)), (3, .int (f 3)), (4, .int (f 4)), (5, .ref 53)], [], HL0) (.inl (some (.int 1)), HJ1) := by
  refine R_p d164_0 rfl rfl ?_
  refine R_ic (v := 0) d164_2 (by decide) ?_
  refine R_p d164_3 rfl rfl ?_
  refine R_p d164_4 rfl rfl ?_
  refine R_p d164_5 rfl rfl ?_
  refine R_p d164_6 rfl rfl ?_
  refine R_p d164_7 rfl rfl ?_
  refine R_tc [.int (f 1), .int (f 2), .int (f 3), .int (f 4)] d164_9 (List.mem_of_getElem? (i := 122) rfl) ⟨by decide, by decide, Nat.le_of_ble_eq_true rfl, mcd109⟩ rfl rfl (Nat.le_of_ble_eq_true rfl) rfl rfl rfl (cx := 10) (hp := 17) rfl (by decide) (by decide) (by decide) (Or.inl (w154 (f := f) h0)) ?_
  refine R_p (ls' := [(0, .ref 16), (1, .int (f 1)), (2, .int (f 2)), (3, .int (f 3)), (4, .int (f 4)), (5, .ref 53), (6, .ref 54)]) d164_17 rfl rfl ?_
  refine R_ic (v := 1) d164_19 (by decide) ?_
  exact R_iret d164_20 rfl rfl rfl
set_option maxRecDepth 4000 in
theorem w156 {f : Nat → Int32} (h0 : ((f 1) < 0)) : Run (5, f) 144 (0, [(0, .ref 42), (1, .int (f 1)), (2, .int (f 2)), (3, .int (f 3)), (4, .int (f 4))], [], HJ1) (.inl (some (.int 0)), HJ2) := by
  refine R_p d144_0 rfl rfl ?_
  refine R_p d144_1 rfl rfl ?_
  refine R_cm [.int (f 1)] d144_2 (List.mem_of_getElem? (i := 169) rfl) rfl ⟨by decide, by decide, Nat.le_of_ble_eq_true rfl, rfl, mcd122⟩ rfl rfl (Nat.le_of_ble_eq_true rfl) rfl rfl (w59 (f := f) h0) ?_
  refine R_br 37 d144_5 (mb_t (b := ((0 : Int32) = (0 : Int32))) (by decide)) rfl ?_
  refine R_ic (v := 0) d144_37 (by decide) ?_
  refine R_p (ls' := [(0, .ref 42), (1, .int (f 1)), (2, .int (f 2)), (3, .int (f 3)), (4, .int (f 4)), (5, .int 0)]) d144_38 rfl rfl ?_
  refine R_p d144_40 rfl rfl ?_
  refine R_p d144_41 rfl rfl ?_
  refine R_br 60 d144_43 (mb_t (b := ((0 : Int32) = (0 : Int32))) (by decide)) rfl ?_
  refine R_ic (v := 1) d144_60 (by decide) ?_
  refine R_cm [.int 1] d144_61 (List.mem_of_getElem? (i := 164) rfl) rfl ⟨by decide, by decide, Nat.le_of_ble_eq_true rfl, rfl, mcd117⟩ rfl rfl (Nat.le_of_ble_eq_true rfl) rfl rfl (w6 (f := f)) ?_
  refine R_nb d144_64 rfl (mb_f (b := ((1 : Int32) = (0 : Int32))) (by decide)) ?_
  refine R_ic (v := 0) d144_67 (by decide) ?_
  exact R_iret d144_68 rfl rfl rfl
set_option maxRecDepth 4000 in
theorem law648_157 {f : Nat → Int32} (h0 : ((f 1) < 0)) : Run (5, f) 171 (648, [(0, .ref 0), (1, .ref 16), (2, .ref 42), (3, .ref 53), (4, .int 0)], [], HL0) (.inl (some (.int 1)), HJ2) := by
  refine R_p d171_648 rfl rfl ?_
  refine R_p d171_649 rfl rfl ?_
  refine R_p d171_650 rfl rfl ?_
  refine R_ic (v := 1) d171_652 (by decide) ?_
  refine R_p d171_653 rfl rfl ?_
  refine R_nv (v := _) (v' := 1) (by decide) ?_
  refine R_sldk (n := 1) (x := (f 1)) d171_654 (vp_ok (by decide)) (by decide) rfl ?_
  refine R_p d171_655 rfl rfl ?_
  refine R_p d171_656 rfl rfl ?_
  refine R_ic (v := 2) d171_658 (by decide) ?_
  refine R_p d171_659 rfl rfl ?_
  refine R_nv (v := _) (v' := 2) (by decide) ?_
  refine R_sldk (n := 2) (x := (f 2)) d171_660 (vp_ok (by decide)) (by decide) rfl ?_
  refine R_p d171_661 rfl rfl ?_
  refine R_p d171_662 rfl rfl ?_
  refine R_ic (v := 3) d171_664 (by decide) ?_
  refine R_p d171_665 rfl rfl ?_
  refine R_nv (v := _) (v' := 3) (by decide) ?_
  refine R_sldk (n := 3) (x := (f 3)) d171_666 (vp_ok (by decide)) (by decide) rfl ?_
  refine R_p d171_667 rfl rfl ?_
  refine R_p d171_668 rfl rfl ?_
  refine R_ic (v := 4) d171_670 (by decide) ?_
  refine R_p d171_671 rfl rfl ?_
  refine R_nv (v := _) (v' := 4) (by decide) ?_
  refine R_sldk (n := 4) (x := (f 4)) d171_672 (vp_ok (by decide)) (by decide) rfl ?_
  refine R_p d171_673 rfl rfl ?_
  refine R_hs [.ref 16, .int (f 1), .int (f 2), .int (f 3), .int (f 4), .ref 53] d171_674 (List.mem_of_getElem? (i := 121) rfl) ⟨by decide, by decide, Nat.le_of_ble_eq_true rfl, mcd164⟩ rfl rfl (Nat.le_of_ble_eq_true rfl) (w155 (f := f) h0) ?_
  refine R_p (ls' := [(0, .ref 0), (1, .ref 16), (2, .ref 42), (3, .ref 53), (4, .int 0), (5, .int 1)]) d171_677 rfl rfl ?_
  refine R_p d171_679 rfl rfl ?_
  refine R_p d171_680 rfl rfl ?_
  refine R_p d171_681 rfl rfl ?_
  refine R_ic (v := 1) d171_683 (by decide) ?_
  refine R_p d171_684 rfl rfl ?_
  refine R_nv (v := _) (v' := 1) (by decide) ?_
  refine R_sldk (n := 1) (x := (f 1)) d171_685 (vp_ok (by decide)) (by decide) rfl ?_
  refine R_p d171_686 rfl rfl ?_
  refine R_p d171_687 rfl rfl ?_
  refine R_ic (v := 2) d171_689 (by decide) ?_
  refine R_p d171_690 rfl rfl ?_
  refine R_nv (v := _) (v' := 2) (by decide) ?_
  refine R_sldk (n := 2) (x := (f 2)) d171_691 (vp_ok (by decide)) (by decide) rfl ?_
  refine R_p d171_692 rfl rfl ?_
  refine R_p d171_693 rfl rfl ?_
  refine R_ic (v := 3) d171_695 (by decide) ?_
  refine R_p d171_696 rfl rfl ?_
  refine R_nv (v := _) (v' := 3) (by decide) ?_
  refine R_sldk (n := 3) (x := (f 3)) d171_697 (vp_ok (by decide)) (by decide) rfl ?_
  refine R_p d171_698 rfl rfl ?_
  refine R_p d171_699 rfl rfl ?_
  refine R_ic (v := 4) d171_701 (by decide) ?_
  refine R_p d171_702 rfl rfl ?_
  refine R_nv (v := _) (v' := 4) (by decide) ?_
  refine R_sldk (n := 4) (x := (f 4)) d171_703 (vp_ok (by decide)) (by decide) rfl ?_
  refine R_cm [.int (f 1), .int (f 2), .int (f 3), .int (f 4)] d171_704 (List.mem_of_getElem? (i := 191) rfl) rfl ⟨by decide, by decide, Nat.le_of_ble_eq_true rfl, rfl, mcd144⟩ rfl rfl (Nat.le_of_ble_eq_true rfl) rfl rfl (w156 (f := f) h0) ?_
  refine R_p (ls' := [(0, .ref 0), (1, .ref 16), (2, .ref 42), (3, .ref 53), (4, .int 0), (5, .int 1), (6, .int 0)]) d171_707 rfl rfl ?_
  refine R_p d171_709 rfl rfl ?_
  refine R_cm [] d171_710 (List.mem_of_getElem? (i := 160) rfl) rfl ⟨by decide, by decide, Nat.le_of_ble_eq_true rfl, rfl, mcd113⟩ rfl rfl (Nat.le_of_ble_eq_true rfl) rfl rfl (w8 (f := f)) ?_
  refine R_p d171_713 rfl rfl ?_
  refine R_br 720 d171_715 (mb_t (b := ((1 : Int32) = (1 : Int32))) (by decide)) rfl ?_
  refine R_p d171_720 rfl rfl ?_
  refine R_br 737 d171_722 (mb_t (b := (¬ (1 : Int32) = (0 : Int32))) (by decide)) rfl ?_
  refine R_br 950 d171_737 rfl rfl ?_
  refine R_p (ls' := [(0, .ref 0), (1, .ref 16), (2, .ref 42), (3, .ref 53), (4, .int 5), (5, .int 1), (6, .int 0)]) d171_950 rfl rfl ?_
  refine R_br 23 d171_953 rfl rfl ?_
  refine R_p d171_23 rfl rfl ?_
  refine R_p d171_25 rfl rfl ?_
  refine R_sln d171_26 ?_
  refine R_nv (v := _) (v' := 5) (show Int32.ofNat 5 = 5 from by decide) ?_
  refine R_ic (v := 5) d171_27 (by decide) ?_
  refine R_p d171_28 rfl rfl ?_
  refine R_nv (v := _) (v' := 0) (by decide) ?_
  refine R_br 956 d171_29 (mb_t (b := ((0 : Int32) < (5 : Int32))) (by decide)) rfl ?_
  refine R_ic (v := 1) d171_956 (by decide) ?_
  exact R_iret d171_957 rfl rfl rfl
set_option maxRecDepth 4000 in
theorem w158 {f : Nat → Int32} (h0 : ¬ ((f 1) < 0)) : Run (5, f) 109 (0, [(0, .ref 16), (1, .int (f 1)), (2, .int (f 2)), (3, .int (f 3)), (4, .int (f 4))], [], HL0) (.inr 54, HJ1) := by
  refine R_p d109_0 rfl rfl ?_
  refine R_p d109_1 rfl rfl ?_
  exact R_tv [.int (f 1)] d109_2 (List.mem_of_getElem? (i := 86) rfl) ⟨by decide, by decide, Nat.le_of_ble_eq_true rfl, mcd102⟩ rfl rfl (Nat.le_of_ble_eq_true rfl) rfl rfl rfl (Or.inr (w64 (f := f) h0))
set_option maxRecDepth 4000 in
theorem w159 {f : Nat → Int32} (h0 : ¬ ((f 1) < 0)) : Run (5, f) 164 (0, [(0, .ref 16), (1, .int (f 1)), (2, .int (f 2)), (3, .int (f 3)), (4, .int (f 4)), (5, .ref 53)], [], HL0) (.inl (some (.int 1)), HJ1) := by
  refine R_p d164_0 rfl rfl ?_
  refine R_ic (v := 0) d164_2 (by decide) ?_
  refine R_p d164_3 rfl rfl ?_
  refine R_p d164_4 rfl rfl ?_
  refine R_p d164_5 rfl rfl ?_
  refine R_p d164_6 rfl rfl ?_
  refine R_p d164_7 rfl rfl ?_
  refine R_tc [.int (f 1), .int (f 2), .int (f 3), .int (f 4)] d164_9 (List.mem_of_getElem? (i := 122) rfl) ⟨by decide, by decide, Nat.le_of_ble_eq_true rfl, mcd109⟩ rfl rfl (Nat.le_of_ble_eq_true rfl) rfl rfl rfl (cx := 10) (hp := 17) rfl (by decide) (by decide) (by decide) (Or.inl (w158 (f := f) h0)) ?_
  refine R_p (ls' := [(0, .ref 16), (1, .int (f 1)), (2, .int (f 2)), (3, .int (f 3)), (4, .int (f 4)), (5, .ref 53), (6, .ref 54)]) d164_17 rfl rfl ?_
  refine R_ic (v := 1) d164_19 (by decide) ?_
  exact R_iret d164_20 rfl rfl rfl
set_option maxRecDepth 4000 in
theorem w160 {f : Nat → Int32} (h0 : ¬ ((f 1) < 0)) : Run (5, f) 144 (0, [(0, .ref 42), (1, .int (f 1)), (2, .int (f 2)), (3, .int (f 3)), (4, .int (f 4))], [], HJ1) (.inl (some (.int 0)), HJ2) := by
  refine R_p d144_0 rfl rfl ?_
  refine R_p d144_1 rfl rfl ?_
  refine R_cm [.int (f 1)] d144_2 (List.mem_of_getElem? (i := 169) rfl) rfl ⟨by decide, by decide, Nat.le_of_ble_eq_true rfl, rfl, mcd122⟩ rfl rfl (Nat.le_of_ble_eq_true rfl) rfl rfl (w69 (f := f) h0) ?_
  refine R_br 37 d144_5 (mb_t (b := ((0 : Int32) = (0 : Int32))) (by decide)) rfl ?_
  refine R_ic (v := 0) d144_37 (by decide) ?_
  refine R_p (ls' := [(0, .ref 42), (1, .int (f 1)), (2, .int (f 2)), (3, .int (f 3)), (4, .int (f 4)), (5, .int 0)]) d144_38 rfl rfl ?_
  refine R_p d144_40 rfl rfl ?_
  refine R_p d144_41 rfl rfl ?_
  refine R_br 60 d144_43 (mb_t (b := ((0 : Int32) = (0 : Int32))) (by decide)) rfl ?_
  refine R_ic (v := 1) d144_60 (by decide) ?_
  refine R_cm [.int 1] d144_61 (List.mem_of_getElem? (i := 164) rfl) rfl ⟨by decide, by decide, Nat.le_of_ble_eq_true rfl, rfl, mcd117⟩ rfl rfl (Nat.le_of_ble_eq_true rfl) rfl rfl (w6 (f := f)) ?_
  refine R_nb d144_64 rfl (mb_f (b := ((1 : Int32) = (0 : Int32))) (by decide)) ?_
  refine R_ic (v := 0) d144_67 (by decide) ?_
  exact R_iret d144_68 rfl rfl rfl
set_option maxRecDepth 4000 in
theorem law648_161 {f : Nat → Int32} (h0 : ¬ ((f 1) < 0)) : Run (5, f) 171 (648, [(0, .ref 0), (1, .ref 16), (2, .ref 42), (3, .ref 53), (4, .int 0)], [], HL0) (.inl (some (.int 1)), HJ2) := by
  refine R_p d171_648 rfl rfl ?_
  refine R_p d171_649 rfl rfl ?_
  refine R_p d171_650 rfl rfl ?_
  refine R_ic (v := 1) d171_652 (by decide) ?_
  refine R_p d171_653 rfl rfl ?_
  refine R_nv (v := _) (v' := 1) (by decide) ?_
  refine R_sldk (n := 1) (x := (f 1)) d171_654 (vp_ok (by decide)) (by decide) rfl ?_
  refine R_p d171_655 rfl rfl ?_
  refine R_p d171_656 rfl rfl ?_
  refine R_ic (v := 2) d171_658 (by decide) ?_
  refine R_p d171_659 rfl rfl ?_
  refine R_nv (v := _) (v' := 2) (by decide) ?_
  refine R_sldk (n := 2) (x := (f 2)) d171_660 (vp_ok (by decide)) (by decide) rfl ?_
  refine R_p d171_661 rfl rfl ?_
  refine R_p d171_662 rfl rfl ?_
  refine R_ic (v := 3) d171_664 (by decide) ?_
  refine R_p d171_665 rfl rfl ?_
  refine R_nv (v := _) (v' := 3) (by decide) ?_
  refine R_sldk (n := 3) (x := (f 3)) d171_666 (vp_ok (by decide)) (by decide) rfl ?_
  refine R_p d171_667 rfl rfl ?_
  refine R_p d171_668 rfl rfl ?_
  refine R_ic (v := 4) d171_670 (by decide) ?_
  refine R_p d171_671 rfl rfl ?_
  refine R_nv (v := _) (v' := 4) (by decide) ?_
  refine R_sldk (n := 4) (x := (f 4)) d171_672 (vp_ok (by decide)) (by decide) rfl ?_
  refine R_p d171_673 rfl rfl ?_
  refine R_hs [.ref 16, .int (f 1), .int (f 2), .int (f 3), .int (f 4), .ref 53] d171_674 (List.mem_of_getElem? (i := 121) rfl) ⟨by decide, by decide, Nat.le_of_ble_eq_true rfl, mcd164⟩ rfl rfl (Nat.le_of_ble_eq_true rfl) (w159 (f := f) h0) ?_
  refine R_p (ls' := [(0, .ref 0), (1, .ref 16), (2, .ref 42), (3, .ref 53), (4, .int 0), (5, .int 1)]) d171_677 rfl rfl ?_
  refine R_p d171_679 rfl rfl ?_
  refine R_p d171_680 rfl rfl ?_
  refine R_p d171_681 rfl rfl ?_
  refine R_ic (v := 1) d171_683 (by decide) ?_
  refine R_p d171_684 rfl rfl ?_
  refine R_nv (v := _) (v' := 1) (by decide) ?_
  refine R_sldk (n := 1) (x := (f 1)) d171_685 (vp_ok (by decide)) (by decide) rfl ?_
  refine R_p d171_686 rfl rfl ?_
  refine R_p d171_687 rfl rfl ?_
  refine R_ic (v := 2) d171_689 (by decide) ?_
  refine R_p d171_690 rfl rfl ?_
  refine R_nv (v := _) (v' := 2) (by decide) ?_
  refine R_sldk (n := 2) (x := (f 2)) d171_691 (vp_ok (by decide)) (by decide) rfl ?_
  refine R_p d171_692 rfl rfl ?_
  refine R_p d171_693 rfl rfl ?_
  refine R_ic (v := 3) d171_695 (by decide) ?_
  refine R_p d171_696 rfl rfl ?_
  refine R_nv (v := _) (v' := 3) (by decide) ?_
  refine R_sldk (n := 3) (x := (f 3)) d171_697 (vp_ok (by decide)) (by decide) rfl ?_
  refine R_p d171_698 rfl rfl ?_
  refine R_p d171_699 rfl rfl ?_
  refine R_ic (v := 4) d171_701 (by decide) ?_
  refine R_p d171_702 rfl rfl ?_
  refine R_nv (v := _) (v' := 4) (by decide) ?_
  refine R_sldk (n := 4) (x := (f 4)) d171_703 (vp_ok (by decide)) (by decide) rfl ?_
  refine R_cm [.int (f 1), .int (f 2), .int (f 3), .int (f 4)] d171_704 (List.mem_of_getElem? (i := 191) rfl) rfl ⟨by decide, by decide, Nat.le_of_ble_eq_true rfl, rfl, mcd144⟩ rfl rfl (Nat.le_of_ble_eq_true rfl) rfl rfl (w160 (f := f) h0) ?_
  refine R_p (ls' := [(0, .ref 0), (1, .ref 16), (2, .ref 42), (3, .ref 53), (4, .int 0), (5, .int 1), (6, .int 0)]) d171_707 rfl rfl ?_
  refine R_p d171_709 rfl rfl ?_
  refine R_cm [] d171_710 (List.mem_of_getElem? (i := 160) rfl) rfl ⟨by decide, by decide, Nat.le_of_ble_eq_true rfl, rfl, mcd113⟩ rfl rfl (Nat.le_of_ble_eq_true rfl) rfl rfl (w8 (f := f)) ?_
  refine R_p d171_713 rfl rfl ?_
  refine R_br 720 d171_715 (mb_t (b := ((1 : Int32) = (1 : Int32))) (by decide)) rfl ?_
  refine R_p d171_720 rfl rfl ?_
  refine R_br 737 d171_722 (mb_t (b := (¬ (1 : Int32) = (0 : Int32))) (by decide)) rfl ?_
  refine R_br 950 d171_737 rfl rfl ?_
  refine R_p (ls' := [(0, .ref 0), (1, .ref 16), (2, .ref 42), (3, .ref 53), (4, .int 5), (5, .int 1), (6, .int 0)]) d171_950 rfl rfl ?_
  refine R_br 23 d171_953 rfl rfl ?_
  refine R_p d171_23 rfl rfl ?_
  refine R_p d171_25 rfl rfl ?_
  refine R_sln d171_26 ?_
  refine R_nv (v := _) (v' := 5) (show Int32.ofNat 5 = 5 from by decide) ?_
  refine R_ic (v := 5) d171_27 (by decide) ?_
  refine R_p d171_28 rfl rfl ?_
  refine R_nv (v := _) (v' := 0) (by decide) ?_
  refine R_br 956 d171_29 (mb_t (b := ((0 : Int32) < (5 : Int32))) (by decide)) rfl ?_
  refine R_ic (v := 1) d171_956 (by decide) ?_
  exact R_iret d171_957 rfl rfl rfl
set_option maxRecDepth 4000 in
theorem w162 {f : Nat → Int32} (h0 : ((f 1) < (-536870911))) : Run (5, f) 110 (0, [(0, .ref 16), (1, .int (f 1)), (2, .int (f 2))], [], HL0) (.inr 54, HJ1) := by
  refine R_p d110_0 rfl rfl ?_
  refine R_p d110_1 rfl rfl ?_
  refine R_p d110_2 rfl rfl ?_
  exact R_tv [.int (f 1), .int (f 2)] d110_3 (List.mem_of_getElem? (i := 30) rfl) ⟨by decide, by decide, Nat.le_of_ble_eq_true rfl, mcd97⟩ rfl rfl (Nat.le_of_ble_eq_true rfl) rfl rfl rfl (Or.inr (w1 (f := f) h0))
set_option maxRecDepth 4000 in
theorem w163 {f : Nat → Int32} (h0 : ((f 1) < (-536870911))) : Run (5, f) 165 (0, [(0, .ref 16), (1, .int (f 1)), (2, .int (f 2)), (3, .ref 53)], [], HL0) (.inl (some (.int 1)), HJ1) := by
  refine R_p d165_0 rfl rfl ?_
  refine R_ic (v := 0) d165_1 (by decide) ?_
  refine R_p d165_2 rfl rfl ?_
  refine R_p d165_3 rfl rfl ?_
  refine R_p d165_4 rfl rfl ?_
  refine R_tc [.int (f 1), .int (f 2)] d165_5 (List.mem_of_getElem? (i := 125) rfl) ⟨by decide, by decide, Nat.le_of_ble_eq_true rfl, mcd110⟩ rfl rfl (Nat.le_of_ble_eq_true rfl) rfl rfl rfl (cx := 10) (hp := 13) rfl (by decide) (by decide) (by decide) (Or.inl (w162 (f := f) h0)) ?_
  refine R_p (ls' := [(0, .ref 16), (1, .int (f 1)), (2, .int (f 2)), (3, .ref 53), (4, .ref 54)]) d165_13 rfl rfl ?_
  refine R_ic (v := 1) d165_15 (by decide) ?_
  exact R_iret d165_16 rfl rfl rfl
set_option maxRecDepth 4000 in
theorem w164 {f : Nat → Int32} (h0 : ((f 1) < (-536870911))) : Run (5, f) 145 (0, [(0, .ref 42), (1, .int (f 1)), (2, .int (f 2))], [], HJ1) (.inl (some (.int 0)), HJ2) := by
  refine R_p d145_0 rfl rfl ?_
  refine R_p d145_1 rfl rfl ?_
  refine R_p d145_2 rfl rfl ?_
  refine R_cs [.int (f 1), .int (f 2)] d145_3 (List.mem_of_getElem? (i := 162) rfl) rfl ⟨by decide, by decide, Nat.le_of_ble_eq_true rfl, rfl, mcd115⟩ rfl rfl (Nat.le_of_ble_eq_true rfl) (w5 (f := f) h0) ?_
  refine R_br 13 d145_6 (mb_t (b := ((0 : Int32) = (0 : Int32))) (by decide)) rfl ?_
  refine R_ic (v := 1) d145_13 (by decide) ?_
  refine R_cm [.int 1] d145_14 (List.mem_of_getElem? (i := 164) rfl) rfl ⟨by decide, by decide, Nat.le_of_ble_eq_true rfl, rfl, mcd117⟩ rfl rfl (Nat.le_of_ble_eq_true rfl) rfl rfl (w6 (f := f)) ?_
  refine R_nb d145_17 rfl (mb_f (b := ((1 : Int32) = (0 : Int32))) (by decide)) ?_
  refine R_ic (v := 0) d145_20 (by decide) ?_
  exact R_iret d145_21 rfl rfl rfl
set_option maxRecDepth 4000 in
theorem law740_165 {f : Nat → Int32} (h0 : ((f 1) < (-536870911))) : Run (5, f) 171 (740, [(0, .ref 0), (1, .ref 16), (2, .ref 42), (3, .ref 53), (4, .int 0)], [], HL0) (.inl (some (.int 1)), HJ2) := by
  refine R_p d171_740 rfl rfl ?_
  refine R_p d171_741 rfl rfl ?_
  refine R_p d171_742 rfl rfl ?_
  refine R_ic (v := 1) d171_744 (by decide) ?_
  refine R_p d171_745 rfl rfl ?_
  refine R_nv (v := _) (v' := 1) (by decide) ?_
  refine R_sldk (n := 1) (x := (f 1)) d171_746 (vp_ok (by decide)) (by decide) rfl ?_
  refine R_p d171_747 rfl rfl ?_
  refine R_p d171_748 rfl rfl ?_
  refine R_ic (v := 2) d171_750 (by decide) ?_
  refine R_p d171_751 rfl rfl ?_
  refine R_nv (v := _) (v' := 2) (by decide) ?_
  refine R_sldk (n := 2) (x := (f 2)) d171_752 (vp_ok (by decide)) (by decide) rfl ?_
  refine R_p d171_753 rfl rfl ?_
  refine R_hs [.ref 16, .int (f 1), .int (f 2), .ref 53] d171_754 (List.mem_of_getElem? (i := 124) rfl) ⟨by decide, by decide, Nat.le_of_ble_eq_true rfl, mcd165⟩ rfl rfl (Nat.le_of_ble_eq_true rfl) (w163 (f := f) h0) ?_
  refine R_p (ls' := [(0, .ref 0), (1, .ref 16), (2, .ref 42), (3, .ref 53), (4, .int 0), (5, .int 1)]) d171_757 rfl rfl ?_
  refine R_p d171_759 rfl rfl ?_
  refine R_p d171_760 rfl rfl ?_
  refine R_p d171_761 rfl rfl ?_
  refine R_ic (v := 1) d171_763 (by decide) ?_
  refine R_p d171_764 rfl rfl ?_
  refine R_nv (v := _) (v' := 1) (by decide) ?_
  refine R_sldk (n := 1) (x := (f 1)) d171_765 (vp_ok (by decide)) (by decide) rfl ?_
  refine R_p d171_766 rfl rfl ?_
  refine R_p d171_767 rfl rfl ?_
  refine R_ic (v := 2) d171_769 (by decide) ?_
  refine R_p d171_770 rfl rfl ?_
  refine R_nv (v := _) (v' := 2) (by decide) ?_
  refine R_sldk (n := 2) (x := (f 2)) d171_771 (vp_ok (by decide)) (by decide) rfl ?_
  refine R_cm [.int (f 1), .int (f 2)] d171_772 (List.mem_of_getElem? (i := 192) rfl) rfl ⟨by decide, by decide, Nat.le_of_ble_eq_true rfl, rfl, mcd145⟩ rfl rfl (Nat.le_of_ble_eq_true rfl) rfl rfl (w164 (f := f) h0) ?_
  refine R_p (ls' := [(0, .ref 0), (1, .ref 16), (2, .ref 42), (3, .ref 53), (4, .int 0), (5, .int 1), (6, .int 0)]) d171_775 rfl rfl ?_
  refine R_p d171_777 rfl rfl ?_
  refine R_cm [] d171_778 (List.mem_of_getElem? (i := 160) rfl) rfl ⟨by decide, by decide, Nat.le_of_ble_eq_true rfl, rfl, mcd113⟩ rfl rfl (Nat.le_of_ble_eq_true rfl) rfl rfl (w8 (f := f)) ?_
  refine R_p d171_781 rfl rfl ?_
  refine R_br 788 d171_783 (mb_t (b := ((1 : Int32) = (1 : Int32))) (by decide)) rfl ?_
  refine R_p d171_788 rfl rfl ?_
  refine R_br 805 d171_790 (mb_t (b := (¬ (1 : Int32) = (0 : Int32))) (by decide)) rfl ?_
  refine R_br 950 d171_805 rfl rfl ?_
  refine R_p (ls' := [(0, .ref 0), (1, .ref 16), (2, .ref 42), (3, .ref 53), (4, .int 5), (5, .int 1), (6, .int 0)]) d171_950 rfl rfl ?_
  refine R_br 23 d171_953 rfl rfl ?_
  refine R_p d171_23 rfl rfl ?_
  refine R_p d171_25 rfl rfl ?_
  refine R_sln d171_26 ?_
  refine R_nv (v := _) (v' := 5) (show Int32.ofNat 5 = 5 from by decide) ?_
  refine R_ic (v := 5) d171_27 (by decide) ?_
  refine R_p d171_28 rfl rfl ?_
  refine R_nv (v := _) (v' := 0) (by decide) ?_
  refine R_br 956 d171_29 (mb_t (b := ((0 : Int32) < (5 : Int32))) (by decide)) rfl ?_
  refine R_ic (v := 1) d171_956 (by decide) ?_
  exact R_iret d171_957 rfl rfl rfl
set_option maxRecDepth 4000 in
theorem w166 {f : Nat → Int32} (h0 : ¬ ((f 1) < (-536870911))) (h1 : (536870911 < (f 1))) : Run (5, f) 110 (0, [(0, .ref 16), (1, .int (f 1)), (2, .int (f 2))], [], HL0) (.inr 54, HJ1) := by
  refine R_p d110_0 rfl rfl ?_
  refine R_p d110_1 rfl rfl ?_
  refine R_p d110_2 rfl rfl ?_
  exact R_tv [.int (f 1), .int (f 2)] d110_3 (List.mem_of_getElem? (i := 30) rfl) ⟨by decide, by decide, Nat.le_of_ble_eq_true rfl, mcd97⟩ rfl rfl (Nat.le_of_ble_eq_true rfl) rfl rfl rfl (Or.inr (w10 (f := f) h0 h1))
set_option maxRecDepth 4000 in
theorem w167 {f : Nat → Int32} (h0 : ¬ ((f 1) < (-536870911))) (h1 : (536870911 < (f 1))) : Run (5, f) 165 (0, [(0, .ref 16), (1, .int (f 1)), (2, .int (f 2)), (3, .ref 53)], [], HL0) (.inl (some (.int 1)), HJ1) := by
  refine R_p d165_0 rfl rfl ?_
  refine R_ic (v := 0) d165_1 (by decide) ?_
  refine R_p d165_2 rfl rfl ?_
  refine R_p d165_3 rfl rfl ?_
  refine R_p d165_4 rfl rfl ?_
  refine R_tc [.int (f 1), .int (f 2)] d165_5 (List.mem_of_getElem? (i := 125) rfl) ⟨by decide, by decide, Nat.le_of_ble_eq_true rfl, mcd110⟩ rfl rfl (Nat.le_of_ble_eq_true rfl) rfl rfl rfl (cx := 10) (hp := 13) rfl (by decide) (by decide) (by decide) (Or.inl (w166 (f := f) h0 h1)) ?_
  refine R_p (ls' := [(0, .ref 16), (1, .int (f 1)), (2, .int (f 2)), (3, .ref 53), (4, .ref 54)]) d165_13 rfl rfl ?_
  refine R_ic (v := 1) d165_15 (by decide) ?_
  exact R_iret d165_16 rfl rfl rfl
set_option maxRecDepth 4000 in
theorem w168 {f : Nat → Int32} (h0 : ¬ ((f 1) < (-536870911))) (h1 : (536870911 < (f 1))) : Run (5, f) 145 (0, [(0, .ref 42), (1, .int (f 1)), (2, .int (f 2))], [], HJ1) (.inl (some (.int 0)), HJ2) := by
  refine R_p d145_0 rfl rfl ?_
  refine R_p d145_1 rfl rfl ?_
  refine R_p d145_2 rfl rfl ?_
  refine R_cs [.int (f 1), .int (f 2)] d145_3 (List.mem_of_getElem? (i := 162) rfl) rfl ⟨by decide, by decide, Nat.le_of_ble_eq_true rfl, rfl, mcd115⟩ rfl rfl (Nat.le_of_ble_eq_true rfl) (w14 (f := f) h0 h1) ?_
  refine R_br 13 d145_6 (mb_t (b := ((0 : Int32) = (0 : Int32))) (by decide)) rfl ?_
  refine R_ic (v := 1) d145_13 (by decide) ?_
  refine R_cm [.int 1] d145_14 (List.mem_of_getElem? (i := 164) rfl) rfl ⟨by decide, by decide, Nat.le_of_ble_eq_true rfl, rfl, mcd117⟩ rfl rfl (Nat.le_of_ble_eq_true rfl) rfl rfl (w6 (f := f)) ?_
  refine R_nb d145_17 rfl (mb_f (b := ((1 : Int32) = (0 : Int32))) (by decide)) ?_
  refine R_ic (v := 0) d145_20 (by decide) ?_
  exact R_iret d145_21 rfl rfl rfl
set_option maxRecDepth 4000 in
theorem law740_169 {f : Nat → Int32} (h0 : ¬ ((f 1) < (-536870911))) (h1 : (536870911 < (f 1))) : Run (5, f) 171 (740, [(0, .ref 0), (1, .ref 16), (2, .ref 42), (3, .ref 53), (4, .int 0)], [], HL0) (.inl (some (.int 1)), HJ2) := by
  refine R_p d171_740 rfl rfl ?_
  refine R_p d171_741 rfl rfl ?_
  refine R_p d171_742 rfl rfl ?_
  refine R_ic (v := 1) d171_744 (by decide) ?_
  refine R_p d171_745 rfl rfl ?_
  refine R_nv (v := _) (v' := 1) (by decide) ?_
  refine R_sldk (n := 1) (x := (f 1)) d171_746 (vp_ok (by decide)) (by decide) rfl ?_
  refine R_p d171_747 rfl rfl ?_
  refine R_p d171_748 rfl rfl ?_
  refine R_ic (v := 2) d171_750 (by decide) ?_
  refine R_p d171_751 rfl rfl ?_
  refine R_nv (v := _) (v' := 2) (by decide) ?_
  refine R_sldk (n := 2) (x := (f 2)) d171_752 (vp_ok (by decide)) (by decide) rfl ?_
  refine R_p d171_753 rfl rfl ?_
  refine R_hs [.ref 16, .int (f 1), .int (f 2), .ref 53] d171_754 (List.mem_of_getElem? (i := 124) rfl) ⟨by decide, by decide, Nat.le_of_ble_eq_true rfl, mcd165⟩ rfl rfl (Nat.le_of_ble_eq_true rfl) (w167 (f := f) h0 h1) ?_
  refine R_p (ls' := [(0, .ref 0), (1, .ref 16), (2, .ref 42), (3, .ref 53), (4, .int 0), (5, .int 1)]) d171_757 rfl rfl ?_
  refine R_p d171_759 rfl rfl ?_
  refine R_p d171_760 rfl rfl ?_
  refine R_p d171_761 rfl rfl ?_
  refine R_ic (v := 1) d171_763 (by decide) ?_
  refine R_p d171_764 rfl rfl ?_
  refine R_nv (v := _) (v' := 1) (by decide) ?_
  refine R_sldk (n := 1) (x := (f 1)) d171_765 (vp_ok (by decide)) (by decide) rfl ?_
  refine R_p d171_766 rfl rfl ?_
  refine R_p d171_767 rfl rfl ?_
  refine R_ic (v := 2) d171_769 (by decide) ?_
  refine R_p d171_770 rfl rfl ?_
  refine R_nv (v := _) (v' := 2) (by decide) ?_
  refine R_sldk (n := 2) (x := (f 2)) d171_771 (vp_ok (by decide)) (by decide) rfl ?_
  refine R_cm [.int (f 1), .int (f 2)] d171_772 (List.mem_of_getElem? (i := 192) rfl) rfl ⟨by decide, by decide, Nat.le_of_ble_eq_true rfl, rfl, mcd145⟩ rfl rfl (Nat.le_of_ble_eq_true rfl) rfl rfl (w168 (f := f) h0 h1) ?_
  refine R_p (ls' := [(0, .ref 0), (1, .ref 16), (2, .ref 42), (3, .ref 53), (4, .int 0), (5, .int 1), (6, .int 0)]) d171_775 rfl rfl ?_
  refine R_p d171_777 rfl rfl ?_
  refine R_cm [] d171_778 (List.mem_of_getElem? (i := 160) rfl) rfl ⟨by decide, by decide, Nat.le_of_ble_eq_true rfl, rfl, mcd113⟩ rfl rfl (Nat.le_of_ble_eq_true rfl) rfl rfl (w8 (f := f)) ?_
  refine R_p d171_781 rfl rfl ?_
  refine R_br 788 d171_783 (mb_t (b := ((1 : Int32) = (1 : Int32))) (by decide)) rfl ?_
  refine R_p d171_788 rfl rfl ?_
  refine R_br 805 d171_790 (mb_t (b := (¬ (1 : Int32) = (0 : Int32))) (by decide)) rfl ?_
  refine R_br 950 d171_805 rfl rfl ?_
  refine R_p (ls' := [(0, .ref 0), (1, .ref 16), (2, .ref 42), (3, .ref 53), (4, .int 5), (5, .int 1), (6, .int 0)]) d171_950 rfl rfl ?_
  refine R_br 23 d171_953 rfl rfl ?_
  refine R_p d171_23 rfl rfl ?_
  refine R_p d171_25 rfl rfl ?_
  refine R_sln d171_26 ?_
  refine R_nv (v := _) (v' := 5) (show Int32.ofNat 5 = 5 from by decide) ?_
  refine R_ic (v := 5) d171_27 (by decide) ?_
  refine R_p d171_28 rfl rfl ?_
  refine R_nv (v := _) (v' := 0) (by decide) ?_
  refine R_br 956 d171_29 (mb_t (b := ((0 : Int32) < (5 : Int32))) (by decide)) rfl ?_
  refine R_ic (v := 1) d171_956 (by decide) ?_
  exact R_iret d171_957 rfl rfl rfl
set_option maxRecDepth 4000 in
theorem w170 {f : Nat → Int32} (h0 : ¬ ((f 1) < (-536870911))) (h1 : ¬ (536870911 < (f 1))) (h2 : ((f 2) < (-536870911))) : Run (5, f) 110 (0, [(0, .ref 16), (1, .int (f 1)), (2, .int (f 2))], [], HL0) (.inr 54, HJ1) := by
  refine R_p d110_0 rfl rfl ?_
  refine R_p d110_1 rfl rfl ?_
  refine R_p d110_2 rfl rfl ?_
  exact R_tv [.int (f 1), .int (f 2)] d110_3 (List.mem_of_getElem? (i := 30) rfl) ⟨by decide, by decide, Nat.le_of_ble_eq_true rfl, mcd97⟩ rfl rfl (Nat.le_of_ble_eq_true rfl) rfl rfl rfl (Or.inr (w17 (f := f) h0 h1 h2))
set_option maxRecDepth 4000 in
theorem w171 {f : Nat → Int32} (h0 : ¬ ((f 1) < (-536870911))) (h1 : ¬ (536870911 < (f 1))) (h2 : ((f 2) < (-536870911))) : Run (5, f) 165 (0, [(0, .ref 16), (1, .int (f 1)), (2, .int (f 2)), (3, .ref 53)], [], HL0) (.inl (some (.int 1)), HJ1) := by
  refine R_p d165_0 rfl rfl ?_
  refine R_ic (v := 0) d165_1 (by decide) ?_
  refine R_p d165_2 rfl rfl ?_
  refine R_p d165_3 rfl rfl ?_
  refine R_p d165_4 rfl rfl ?_
  refine R_tc [.int (f 1), .int (f 2)] d165_5 (List.mem_of_getElem? (i := 125) rfl) ⟨by decide, by decide, Nat.le_of_ble_eq_true rfl, mcd110⟩ rfl rfl (Nat.le_of_ble_eq_true rfl) rfl rfl rfl (cx := 10) (hp := 13) rfl (by decide) (by decide) (by decide) (Or.inl (w170 (f := f) h0 h1 h2)) ?_
  refine R_p (ls' := [(0, .ref 16), (1, .int (f 1)), (2, .int (f 2)), (3, .ref 53), (4, .ref 54)]) d165_13 rfl rfl ?_
  refine R_ic (v := 1) d165_15 (by decide) ?_
  exact R_iret d165_16 rfl rfl rfl
set_option maxRecDepth 4000 in
theorem w172 {f : Nat → Int32} (h0 : ¬ ((f 1) < (-536870911))) (h1 : ¬ (536870911 < (f 1))) (h2 : ((f 2) < (-536870911))) : Run (5, f) 145 (0, [(0, .ref 42), (1, .int (f 1)), (2, .int (f 2))], [], HJ1) (.inl (some (.int 0)), HJ2) := by
  refine R_p d145_0 rfl rfl ?_
  refine R_p d145_1 rfl rfl ?_
  refine R_p d145_2 rfl rfl ?_
  refine R_cs [.int (f 1), .int (f 2)] d145_3 (List.mem_of_getElem? (i := 162) rfl) rfl ⟨by decide, by decide, Nat.le_of_ble_eq_true rfl, rfl, mcd115⟩ rfl rfl (Nat.le_of_ble_eq_true rfl) (w22 (f := f) h0 h1 h2) ?_
  refine R_br 13 d145_6 (mb_t (b := ((0 : Int32) = (0 : Int32))) (by decide)) rfl ?_
  refine R_ic (v := 1) d145_13 (by decide) ?_
  refine R_cm [.int 1] d145_14 (List.mem_of_getElem? (i := 164) rfl) rfl ⟨by decide, by decide, Nat.le_of_ble_eq_true rfl, rfl, mcd117⟩ rfl rfl (Nat.le_of_ble_eq_true rfl) rfl rfl (w6 (f := f)) ?_
  refine R_nb d145_17 rfl (mb_f (b := ((1 : Int32) = (0 : Int32))) (by decide)) ?_
  refine R_ic (v := 0) d145_20 (by decide) ?_
  exact R_iret d145_21 rfl rfl rfl
set_option maxRecDepth 4000 in
theorem law740_173 {f : Nat → Int32} (h0 : ¬ ((f 1) < (-536870911))) (h1 : ¬ (536870911 < (f 1))) (h2 : ((f 2) < (-536870911))) : Run (5, f) 171 (740, [(0, .ref 0), (1, .ref 16), (2, .ref 42), (3, .ref 53), (4, .int 0)], [], HL0) (.inl (some (.int 1)), HJ2) := by
  refine R_p d171_740 rfl rfl ?_
  refine R_p d171_741 rfl rfl ?_
  refine R_p d171_742 rfl rfl ?_
  refine R_ic (v := 1) d171_744 (by decide) ?_
  refine R_p d171_745 rfl rfl ?_
  refine R_nv (v := _) (v' := 1) (by decide) ?_
  refine R_sldk (n := 1) (x := (f 1)) d171_746 (vp_ok (by decide)) (by decide) rfl ?_
  refine R_p d171_747 rfl rfl ?_
  refine R_p d171_748 rfl rfl ?_
  refine R_ic (v := 2) d171_750 (by decide) ?_
  refine R_p d171_751 rfl rfl ?_
  refine R_nv (v := _) (v' := 2) (by decide) ?_
  refine R_sldk (n := 2) (x := (f 2)) d171_752 (vp_ok (by decide)) (by decide) rfl ?_
  refine R_p d171_753 rfl rfl ?_
  refine R_hs [.ref 16, .int (f 1), .int (f 2), .ref 53] d171_754 (List.mem_of_getElem? (i := 124) rfl) ⟨by decide, by decide, Nat.le_of_ble_eq_true rfl, mcd165⟩ rfl rfl (Nat.le_of_ble_eq_true rfl) (w171 (f := f) h0 h1 h2) ?_
  refine R_p (ls' := [(0, .ref 0), (1, .ref 16), (2, .ref 42), (3, .ref 53), (4, .int 0), (5, .int 1)]) d171_757 rfl rfl ?_
  refine R_p d171_759 rfl rfl ?_
  refine R_p d171_760 rfl rfl ?_
  refine R_p d171_761 rfl rfl ?_
  refine R_ic (v := 1) d171_763 (by decide) ?_
  refine R_p d171_764 rfl rfl ?_
  refine R_nv (v := _) (v' := 1) (by decide) ?_
  refine R_sldk (n := 1) (x := (f 1)) d171_765 (vp_ok (by decide)) (by decide) rfl ?_
  refine R_p d171_766 rfl rfl ?_
  refine R_p d171_767 rfl rfl ?_
  refine R_ic (v := 2) d171_769 (by decide) ?_
  refine R_p d171_770 rfl rfl ?_
  refine R_nv (v := _) (v' := 2) (by decide) ?_
  refine R_sldk (n := 2) (x := (f 2)) d171_771 (vp_ok (by decide)) (by decide) rfl ?_
  refine R_cm [.int (f 1), .int (f 2)] d171_772 (List.mem_of_getElem? (i := 192) rfl) rfl ⟨by decide, by decide, Nat.le_of_ble_eq_true rfl, rfl, mcd145⟩ rfl rfl (Nat.le_of_ble_eq_true rfl) rfl rfl (w172 (f := f) h0 h1 h2) ?_
  refine R_p (ls' := [(0, .ref 0), (1, .ref 16), (2, .ref 42), (3, .ref 53), (4, .int 0), (5, .int 1), (6, .int 0)]) d171_775 rfl rfl ?_
  refine R_p d171_777 rfl rfl ?_
  refine R_cm [] d171_778 (List.mem_of_getElem? (i := 160) rfl) rfl ⟨by decide, by decide, Nat.le_of_ble_eq_true rfl, rfl, mcd113⟩ rfl rfl (Nat.le_of_ble_eq_true rfl) rfl rfl (w8 (f := f)) ?_
  refine R_p d171_781 rfl rfl ?_
  refine R_br 788 d171_783 (mb_t (b := ((1 : Int32) = (1 : Int32))) (by decide)) rfl ?_
  refine R_p d171_788 rfl rfl ?_
  refine R_br 805 d171_790 (mb_t (b := (¬ (1 : Int32) = (0 : Int32))) (by decide)) rfl ?_
  refine R_br 950 d171_805 rfl rfl ?_
  refine R_p (ls' := [(0, .ref 0), (1, .ref 16), (2, .ref 42), (3, .ref 53), (4, .int 5), (5, .int 1), (6, .int 0)]) d171_950 rfl rfl ?_
  refine R_br 23 d171_953 rfl rfl ?_
  refine R_p d171_23 rfl rfl ?_
  refine R_p d171_25 rfl rfl ?_
  refine R_sln d171_26 ?_
  refine R_nv (v := _) (v' := 5) (show Int32.ofNat 5 = 5 from by decide) ?_
  refine R_ic (v := 5) d171_27 (by decide) ?_
  refine R_p d171_28 rfl rfl ?_
  refine R_nv (v := _) (v' := 0) (by decide) ?_
  refine R_br 956 d171_29 (mb_t (b := ((0 : Int32) < (5 : Int32))) (by decide)) rfl ?_
  refine R_ic (v := 1) d171_956 (by decide) ?_
  exact R_iret d171_957 rfl rfl rfl
set_option maxRecDepth 4000 in
theorem w174 {f : Nat → Int32} (h0 : ¬ ((f 1) < (-536870911))) (h1 : ¬ (536870911 < (f 1))) (h2 : ¬ ((f 2) < (-536870911))) (h3 : (536870911 < (f 2))) : Run (5, f) 110 (0, [(0, .ref 16), (1, .int (f 1)), (2, .int (f 2))], [], HL0) (.inr 54, HJ1) := by
  refine R_p d110_0 rfl rfl ?_
  refine R_p d110_1 rfl rfl ?_
  refine R_p d110_2 rfl rfl ?_
  exact R_tv [.int (f 1), .int (f 2)] d110_3 (List.mem_of_getElem? (i := 30) rfl) ⟨by decide, by decide, Nat.le_of_ble_eq_true rfl, mcd97⟩ rfl rfl (Nat.le_of_ble_eq_true rfl) rfl rfl rfl (Or.inr (w25 (f := f) h0 h1 h2 h3))
set_option maxRecDepth 4000 in
theorem w175 {f : Nat → Int32} (h0 : ¬ ((f 1) < (-536870911))) (h1 : ¬ (536870911 < (f 1))) (h2 : ¬ ((f 2) < (-536870911))) (h3 : (536870911 < (f 2))) : Run (5, f) 165 (0, [(0, .ref 16), (1, .int (f 1)), (2, .int (f 2)), (3, .ref 53)], [], HL0) (.inl (some (.int 1)), HJ1) := by
  refine R_p d165_0 rfl rfl ?_
  refine R_ic (v := 0) d165_1 (by decide) ?_
  refine R_p d165_2 rfl rfl ?_
  refine R_p d165_3 rfl rfl ?_
  refine R_p d165_4 rfl rfl ?_
  refine R_tc [.int (f 1), .int (f 2)] d165_5 (List.mem_of_getElem? (i := 125) rfl) ⟨by decide, by decide, Nat.le_of_ble_eq_true rfl, mcd110⟩ rfl rfl (Nat.le_of_ble_eq_true rfl) rfl rfl rfl (cx := 10) (hp := 13) rfl (by decide) (by decide) (by decide) (Or.inl (w174 (f := f) h0 h1 h2 h3)) ?_
  refine R_p (ls' := [(0, .ref 16), (1, .int (f 1)), (2, .int (f 2)), (3, .ref 53), (4, .ref 54)]) d165_13 rfl rfl ?_
  refine R_ic (v := 1) d165_15 (by decide) ?_
  exact R_iret d165_16 rfl rfl rfl
set_option maxRecDepth 4000 in
theorem w176 {f : Nat → Int32} (h0 : ¬ ((f 1) < (-536870911))) (h1 : ¬ (536870911 < (f 1))) (h2 : ¬ ((f 2) < (-536870911))) (h3 : (536870911 < (f 2))) : Run (5, f) 145 (0, [(0, .ref 42), (1, .int (f 1)), (2, .int (f 2))], [], HJ1) (.inl (some (.int 0)), HJ2) := by
  refine R_p d145_0 rfl rfl ?_
  refine R_p d145_1 rfl rfl ?_
  refine R_p d145_2 rfl rfl ?_
  refine R_cs [.int (f 1), .int (f 2)] d145_3 (List.mem_of_getElem? (i := 162) rfl) rfl ⟨by decide, by decide, Nat.le_of_ble_eq_true rfl, rfl, mcd115⟩ rfl rfl (Nat.le_of_ble_eq_true rfl) (w29 (f := f) h0 h1 h2 h3) ?_
  refine R_br 13 d145_6 (mb_t (b := ((0 : Int32) = (0 : Int32))) (by decide)) rfl ?_
  refine R_ic (v := 1) d145_13 (by decide) ?_
  refine R_cm [.int 1] d145_14 (List.mem_of_getElem? (i := 164) rfl) rfl ⟨by decide, by decide, Nat.le_of_ble_eq_true rfl, rfl, mcd117⟩ rfl rfl (Nat.le_of_ble_eq_true rfl) rfl rfl (w6 (f := f)) ?_
  refine R_nb d145_17 rfl (mb_f (b := ((1 : Int32) = (0 : Int32))) (by decide)) ?_
  refine R_ic (v := 0) d145_20 (by decide) ?_
  exact R_iret d145_21 rfl rfl rfl
set_option maxRecDepth 4000 in
theorem law740_177 {f : Nat → Int32} (h0 : ¬ ((f 1) < (-536870911))) (h1 : ¬ (536870911 < (f 1))) (h2 : ¬ ((f 2) < (-536870911))) (h3 : (536870911 < (f 2))) : Run (5, f) 171 (740, [(0, .ref 0), (1, .ref 16), (2, .ref 42), (3, .ref 53), (4, .int 0)], [], HL0) (.inl (some (.int 1)), HJ2) := by
  refine R_p d171_740 rfl rfl ?_
  refine R_p d171_741 rfl rfl ?_
  refine R_p d171_742 rfl rfl ?_
  refine R_ic (v := 1) d171_744 (by decide) ?_
  refine R_p d171_745 rfl rfl ?_
  refine R_nv (v := _) (v' := 1) (by decide) ?_
  refine R_sldk (n := 1) (x := (f 1)) d171_746 (vp_ok (by decide)) (by decide) rfl ?_
  refine R_p d171_747 rfl rfl ?_
  refine R_p d171_748 rfl rfl ?_
  refine R_ic (v := 2) d171_750 (by decide) ?_
  refine R_p d171_751 rfl rfl ?_
  refine R_nv (v := _) (v' := 2) (by decide) ?_
  refine R_sldk (n := 2) (x := (f 2)) d171_752 (vp_ok (by decide)) (by decide) rfl ?_
  refine R_p d171_753 rfl rfl ?_
  refine R_hs [.ref 16, .int (f 1), .int (f 2), .ref 53] d171_754 (List.mem_of_getElem? (i := 124) rfl) ⟨by decide, by decide, Nat.le_of_ble_eq_true rfl, mcd165⟩ rfl rfl (Nat.le_of_ble_eq_true rfl) (w175 (f := f) h0 h1 h2 h3) ?_
  refine R_p (ls' := [(0, .ref 0), (1, .ref 16), (2, .ref 42), (3, .ref 53), (4, .int 0), (5, .int 1)]) d171_757 rfl rfl ?_
  refine R_p d171_759 rfl rfl ?_
  refine R_p d171_760 rfl rfl ?_
  refine R_p d171_761 rfl rfl ?_
  refine R_ic (v := 1) d171_763 (by decide) ?_
  refine R_p d171_764 rfl rfl ?_
  refine R_nv (v := _) (v' := 1) (by decide) ?_
  refine R_sldk (n := 1) (x := (f 1)) d171_765 (vp_ok (by decide)) (by decide) rfl ?_
  refine R_p d171_766 rfl rfl ?_
  refine R_p d171_767 rfl rfl ?_
  refine R_ic (v := 2) d171_769 (by decide) ?_
  refine R_p d171_770 rfl rfl ?_
  refine R_nv (v := _) (v' := 2) (by decide) ?_
  refine R_sldk (n := 2) (x := (f 2)) d171_771 (vp_ok (by decide)) (by decide) rfl ?_
  refine R_cm [.int (f 1), .int (f 2)] d171_772 (List.mem_of_getElem? (i := 192) rfl) rfl ⟨by decide, by decide, Nat.le_of_ble_eq_true rfl, rfl, mcd145⟩ rfl rfl (Nat.le_of_ble_eq_true rfl) rfl rfl (w176 (f := f) h0 h1 h2 h3) ?_
  refine R_p (ls' := [(0, .ref 0), (1, .ref 16), (2, .ref 42), (3, .ref 53), (4, .int 0), (5, .int 1), (6, .int 0)]) d171_775 rfl rfl ?_
  refine R_p d171_777 rfl rfl ?_
  refine R_cm [] d171_778 (List.mem_of_getElem? (i := 160) rfl) rfl ⟨by decide, by decide, Nat.le_of_ble_eq_true rfl, rfl, mcd113⟩ rfl rfl (Nat.le_of_ble_eq_true rfl) rfl rfl (w8 (f := f)) ?_
  refine R_p d171_781 rfl rfl ?_
  refine R_br 788 d171_783 (mb_t (b := ((1 : Int32) = (1 : Int32))) (by decide)) rfl ?_
  refine R_p d171_788 rfl rfl ?_
  refine R_br 805 d171_790 (mb_t (b := (¬ (1 : Int32) = (0 : Int32))) (by decide)) rfl ?_
  refine R_br 950 d171_805 rfl rfl ?_
  refine R_p (ls' := [(0, .ref 0), (1, .ref 16), (2, .ref 42), (3, .ref 53), (4, .int 5), (5, .int 1), (6, .int 0)]) d171_950 rfl rfl ?_
  refine R_br 23 d171_953 rfl rfl ?_
  refine R_p d171_23 rfl rfl ?_
  refine R_p d171_25 rfl rfl ?_
  refine R_sln d171_26 ?_
  refine R_nv (v := _) (v' := 5) (show Int32.ofNat 5 = 5 from by decide) ?_
  refine R_ic (v := 5) d171_27 (by decide) ?_
  refine R_p d171_28 rfl rfl ?_
  refine R_nv (v := _) (v' := 0) (by decide) ?_
  refine R_br 956 d171_29 (mb_t (b := ((0 : Int32) < (5 : Int32))) (by decide)) rfl ?_
  refine R_ic (v := 1) d171_956 (by decide) ?_
  exact R_iret d171_957 rfl rfl rfl
set_option maxRecDepth 4000 in
theorem w178 {f : Nat → Int32} : Run (5, f) 68 (0, [(0, .ref 17), (1, .int 40), (2, .int (f 1)), (3, .int (f 2))], [], HL0) (.inl none, (HJ17 f)) := by
  refine R_p d68_0 rfl rfl ?_
  refine R_get d68_1 (Or.inl (List.mem_of_getElem? (i := 3) rfl)) rfl rfl ?_
  refine R_p d68_4 rfl rfl ?_
  refine R_p d68_5 rfl rfl ?_
  refine R_ist d68_6 rfl (vp_ok (by decide)) ?_
  refine R_p d68_7 rfl rfl ?_
  refine R_get d68_8 (Or.inl (List.mem_of_getElem? (i := 4) rfl)) rfl rfl ?_
  refine R_p d68_11 rfl rfl ?_
  refine R_p d68_12 rfl rfl ?_
  refine R_ist d68_13 rfl (vp_ok (by decide)) ?_
  exact R_vret d68_14 rfl rfl
set_option maxRecDepth 4000 in
theorem w179 {f : Nat → Int32} : Run (5, f) 50 (0, [(0, .ref 23), (1, .int 40)], [], (HJ17 f)) (.inl (some (.int (-1))), (HJ17 f)) := by
  refine R_ic (v := 0) d50_0 (by decide) ?_
  refine R_p (ls' := [(0, .ref 23), (1, .int 40), (2, .int 0)]) d50_1 rfl rfl ?_
  refine R_p d50_2 rfl rfl ?_
  refine R_p d50_3 rfl rfl ?_
  refine R_get d50_4 (Or.inl (List.mem_of_getElem? (i := 15) rfl)) rfl rfl ?_
  refine R_br 27 d50_7 (mb_t (b := ((0 : Int32) ≤ (0 : Int32))) (by decide)) rfl ?_
  refine R_ic (v := (-1)) d50_27 (by decide) ?_
  exact R_iret d50_28 rfl rfl rfl
set_option maxRecDepth 4000 in
theorem w180 {f : Nat → Int32} (h0 : ¬ ((f 1) < (-536870911))) (h1 : ¬ (536870911 < (f 1))) (h2 : ¬ ((f 2) < (-536870911))) (h3 : ¬ (536870911 < (f 2))) : Run (5, f) 110 (0, [(0, .ref 16), (1, .int (f 1)), (2, .int (f 2))], [], HL0) (.inl (some (.int (-1))), (HJ17 f)) := by
  refine R_p d110_0 rfl rfl ?_
  refine R_p d110_1 rfl rfl ?_
  refine R_p d110_2 rfl rfl ?_
  refine R_cm [.int (f 1), .int (f 2)] d110_3 (List.mem_of_getElem? (i := 30) rfl) rfl ⟨by decide, by decide, Nat.le_of_ble_eq_true rfl, rfl, mcd97⟩ rfl rfl (Nat.le_of_ble_eq_true rfl) rfl rfl (w32 (f := f) h0 h1 h2 h3) ?_
  refine R_p d110_6 rfl rfl ?_
  refine R_get d110_7 (Or.inl (List.mem_of_getElem? (i := 43) rfl)) rfl rfl ?_
  refine R_bi (v := 40) d110_10 (by decide) ?_
  refine R_p d110_12 rfl rfl ?_
  refine R_p d110_13 rfl rfl ?_
  refine R_cm [.int 40, .int (f 1), .int (f 2)] d110_14 (List.mem_of_getElem? (i := 31) rfl) rfl ⟨by decide, by decide, Nat.le_of_ble_eq_true rfl, rfl, mcd68⟩ rfl rfl (Nat.le_of_ble_eq_true rfl) rfl rfl (w178 (f := f)) ?_
  refine R_p d110_17 rfl rfl ?_
  refine R_get d110_18 (Or.inl (List.mem_of_getElem? (i := 45) rfl)) rfl rfl ?_
  refine R_bi (v := 40) d110_21 (by decide) ?_
  refine R_cm [.int 40] d110_23 (List.mem_of_getElem? (i := 126) rfl) rfl ⟨by decide, by decide, Nat.le_of_ble_eq_true rfl, rfl, mcd50⟩ rfl rfl (Nat.le_of_ble_eq_true rfl) rfl rfl (w179 (f := f)) ?_
  exact R_iret d110_26 rfl rfl rfl
set_option maxRecDepth 4000 in
theorem w181 {f : Nat → Int32} (h0 : ¬ ((f 1) < (-536870911))) (h1 : ¬ (536870911 < (f 1))) (h2 : ¬ ((f 2) < (-536870911))) (h3 : ¬ (536870911 < (f 2))) : Run (5, f) 165 (0, [(0, .ref 16), (1, .int (f 1)), (2, .int (f 2)), (3, .ref 53)], [], HL0) (.inl (some (.int 0)), (HJ18 f)) := by
  refine R_p d165_0 rfl rfl ?_
  refine R_ic (v := 0) d165_1 (by decide) ?_
  refine R_p d165_2 rfl rfl ?_
  refine R_p d165_3 rfl rfl ?_
  refine R_p d165_4 rfl rfl ?_
  refine R_cm [.int (f 1), .int (f 2)] d165_5 (List.mem_of_getElem? (i := 125) rfl) rfl ⟨by decide, by decide, Nat.le_of_ble_eq_true rfl, rfl, mcd110⟩ rfl rfl (Nat.le_of_ble_eq_true rfl) rfl rfl (w180 (f := f) h0 h1 h2 h3) ?_
  refine R_p d165_8 rfl rfl ?_
  refine R_nw (v := _) (v' := (-1)) (by decide) ?_
  refine R_lst d165_9 rfl (vp_ok (by decide)) ?_
  refine R_br 17 d165_10 rfl rfl ?_
  refine R_ic (v := 0) d165_17 (by decide) ?_
  exact R_iret d165_18 rfl rfl rfl
set_option maxRecDepth 4000 in
theorem w182 {f : Nat → Int32} (h0 : ¬ ((f 1) < (-536870911))) (h1 : ¬ (536870911 < (f 1))) : Run (5, f) 116 (0, [(0, .int (f 1)), (1, .int (-536870911)), (2, .int 536870911)], [], (HJ18 f)) (.inl (some (.int 1)), (HJ18 f)) := by
  refine R_p d116_0 rfl rfl ?_
  refine R_p d116_1 rfl rfl ?_
  refine R_nb d116_2 rfl (mb_f (b := ((f 1) < (-536870911))) h0) ?_
  refine R_p d116_5 rfl rfl ?_
  refine R_p d116_6 rfl rfl ?_
  refine R_nb d116_7 rfl (mb_f (b := (536870911 < (f 1))) h1) ?_
  refine R_ic (v := 1) d116_10 (by decide) ?_
  refine R_br 15 d116_11 rfl rfl ?_
  exact R_iret d116_15 rfl rfl rfl
set_option maxRecDepth 4000 in
theorem w183 {f : Nat → Int32} (h2 : ¬ ((f 2) < (-536870911))) (h3 : ¬ (536870911 < (f 2))) : Run (5, f) 116 (0, [(0, .int (f 2)), (1, .int (-536870911)), (2, .int 536870911)], [], (HJ18 f)) (.inl (some (.int 1)), (HJ18 f)) := by
  refine R_p d116_0 rfl rfl ?_
  refine R_p d116_1 rfl rfl ?_
  refine R_nb d116_2 rfl (mb_f (b := ((f 2) < (-536870911))) h2) ?_
  refine R_p d116_5 rfl rfl ?_
  refine R_p d116_6 rfl rfl ?_
  refine R_nb d116_7 rfl (mb_f (b := (536870911 < (f 2))) h3) ?_
  refine R_ic (v := 1) d116_10 (by decide) ?_
  refine R_br 15 d116_11 rfl rfl ?_
  exact R_iret d116_15 rfl rfl rfl
set_option maxRecDepth 4000 in
theorem w184 {f : Nat → Int32} (h0 : ¬ ((f 1) < (-536870911))) (h1 : ¬ (536870911 < (f 1))) (h2 : ¬ ((f 2) < (-536870911))) (h3 : ¬ (536870911 < (f 2))) : Run (5, f) 115 (0, [(0, .int (f 1)), (1, .int (f 2))], [], (HJ18 f)) (.inl (some (.int 1)), (HJ18 f)) := by
  refine R_p d115_0 rfl rfl ?_
  refine R_ci (v := (-536870911)) 959 d115_1 (List.mem_of_getElem? (i := 4) rfl) ?_
  refine R_ci (v := 536870911) 960 d115_3 (List.mem_of_getElem? (i := 5) rfl) ?_
  refine R_cs [.int (f 1), .int (-536870911), .int 536870911] d115_5 (List.mem_of_getElem? (i := 163) rfl) rfl ⟨by decide, by decide, Nat.le_of_ble_eq_true rfl, rfl, mcd116⟩ rfl rfl (Nat.le_of_ble_eq_true rfl) (w182 (f := f) h0 h1) ?_
  refine R_nb d115_8 rfl (mb_f (b := ((1 : Int32) = (0 : Int32))) (by decide)) ?_
  refine R_p d115_11 rfl rfl ?_
  refine R_ci (v := (-536870911)) 959 d115_12 (List.mem_of_getElem? (i := 4) rfl) ?_
  refine R_ci (v := 536870911) 960 d115_14 (List.mem_of_getElem? (i := 5) rfl) ?_
  refine R_cs [.int (f 2), .int (-536870911), .int 536870911] d115_16 (List.mem_of_getElem? (i := 163) rfl) rfl ⟨by decide, by decide, Nat.le_of_ble_eq_true rfl, rfl, mcd116⟩ rfl rfl (Nat.le_of_ble_eq_true rfl) (w183 (f := f) h2 h3) ?_
  refine R_nb d115_19 rfl (mb_f (b := ((1 : Int32) = (0 : Int32))) (by decide)) ?_
  refine R_ic (v := 1) d115_22 (by decide) ?_
  refine R_br 27 d115_23 rfl rfl ?_
  exact R_iret d115_27 rfl rfl rfl
set_option maxRecDepth 4000 in
theorem w185 {f : Nat → Int32} : Run (5, f) 117 (0, [(0, .ref 42), (1, .int 0)], [], (HJ18 f)) (.inl (some (.int 0)), (HJ18 f)) := by
  refine R_p d117_0 rfl rfl ?_
  refine R_p d117_1 rfl rfl ?_
  refine R_put d117_2 (List.mem_of_getElem? (i := 48) rfl) rfl (by decide) rfl rfl (Or.inl rfl) ?_
  refine R_p d117_5 rfl rfl ?_
  refine R_br 13 d117_6 (mb_t (b := ((0 : Int32) ≤ (0 : Int32))) (by decide)) rfl ?_
  refine R_ic (v := 0) d117_13 (by decide) ?_
  exact R_iret d117_14 rfl rfl rfl
set_option maxRecDepth 4000 in
theorem w186 {f : Nat → Int32} : Run (5, f) 129 (0, [(0, .ref 42)], [], (HJ20 f)) (.inl (some (.int 1)), (HJ20 f)) := by
  refine R_ic (v := 1) d129_0 (by decide) ?_
  refine R_p (ls' := [(0, .ref 42), (1, .int 1)]) d129_1 rfl rfl ?_
  refine R_ic (v := 2) d129_2 (by decide) ?_
  refine R_p (ls' := [(0, .ref 42), (1, .int 1), (2, .int 2)]) d129_3 rfl rfl ?_
  refine R_p d129_4 rfl rfl ?_
  refine R_p d129_5 rfl rfl ?_
  refine R_get d129_6 (Or.inl (List.mem_of_getElem? (i := 49) rfl)) rfl rfl ?_
  refine R_br 38 d129_9 (mb_t (b := ((0 : Int32) ≤ (2 : Int32))) (by decide)) rfl ?_
  refine R_p d129_38 rfl rfl ?_
  exact R_iret d129_39 rfl rfl rfl
set_option maxRecDepth 4000 in
theorem w187 {f : Nat → Int32} : Run (5, f) 128 (0, [(0, .ref 42)], [], (HJ18 f)) (.inl none, (HJ20 f)) := by
  refine R_p d128_0 rfl rfl ?_
  refine R_get d128_1 (Or.inl (List.mem_of_getElem? (i := 54) rfl)) rfl rfl ?_
  refine R_br 8 d128_4 (mb_t (b := ((0 : Int32) = (0 : Int32))) (by decide)) rfl ?_
  refine R_p d128_8 rfl rfl ?_
  refine R_ic (v := 1) d128_9 (by decide) ?_
  refine R_put d128_10 (List.mem_of_getElem? (i := 54) rfl) rfl (by decide) (by decide) (by decide) (Or.inl rfl) ?_
  refine R_p d128_13 rfl rfl ?_
  refine R_ic (v := 0) d128_14 (by decide) ?_
  refine R_put d128_15 (List.mem_of_getElem? (i := 55) rfl) rfl (by decide) rfl rfl (Or.inl rfl) ?_
  refine R_ic (v := 0) d128_18 (by decide) ?_
  refine R_p (ls' := [(0, .ref 42), (1, .int 0)]) d128_19 rfl rfl ?_
  refine R_h (HJ19 f) rfl ?_
  refine R_meshCopy rfl rfl rfl rfl rfl ?_
  refine R_p d128_45 rfl rfl ?_
  refine R_cm [] d128_46 (List.mem_of_getElem? (i := 176) rfl) rfl ⟨by decide, by decide, Nat.le_of_ble_eq_true rfl, rfl, mcd129⟩ rfl rfl (Nat.le_of_ble_eq_true rfl) rfl rfl (w186 (f := f)) ?_
  refine R_nb d128_49 rfl (mb_f (b := ((1 : Int32) = (0 : Int32))) (by decide)) ?_
  exact R_vret d128_52 rfl rfl
set_option maxRecDepth 4000 in
theorem w188 {f : Nat → Int32} : Run (5, f) 146 (0, [(0, .ref 42), (1, .int 40)], [], (HJ21 f)) (.inl (some (.int (-1))), (HJ21 f)) := by
  refine R_ic (v := 0) d146_0 (by decide) ?_
  refine R_p (ls' := [(0, .ref 42), (1, .int 40), (2, .int 0)]) d146_1 rfl rfl ?_
  refine R_p d146_2 rfl rfl ?_
  refine R_p d146_3 rfl rfl ?_
  refine R_get d146_4 (Or.inl (List.mem_of_getElem? (i := 55) rfl)) rfl rfl ?_
  refine R_br 85 d146_7 (mb_t (b := ((0 : Int32) ≤ (0 : Int32))) (by decide)) rfl ?_
  refine R_ic (v := (-1)) d146_85 (by decide) ?_
  exact R_iret d146_86 rfl rfl rfl
set_option maxRecDepth 4000 in
theorem w189 {f : Nat → Int32} (h0 : ¬ ((f 1) < (-536870911))) (h1 : ¬ (536870911 < (f 1))) (h2 : ¬ ((f 2) < (-536870911))) (h3 : ¬ (536870911 < (f 2))) : Run (5, f) 145 (0, [(0, .ref 42), (1, .int (f 1)), (2, .int (f 2))], [], (HJ18 f)) (.inl (some (.int (-1))), (HJ21 f)) := by
  refine R_p d145_0 rfl rfl ?_
  refine R_p d145_1 rfl rfl ?_
  refine R_p d145_2 rfl rfl ?_
  refine R_cs [.int (f 1), .int (f 2)] d145_3 (List.mem_of_getElem? (i := 162) rfl) rfl ⟨by decide, by decide, Nat.le_of_ble_eq_true rfl, rfl, mcd115⟩ rfl rfl (Nat.le_of_ble_eq_true rfl) (w184 (f := f) h0 h1 h2 h3) ?_
  refine R_nb d145_6 rfl (mb_f (b := ((1 : Int32) = (0 : Int32))) (by decide)) ?_
  refine R_ic (v := 0) d145_9 (by decide) ?_
  refine R_br 14 d145_10 rfl rfl ?_
  refine R_cm [.int 0] d145_14 (List.mem_of_getElem? (i := 164) rfl) rfl ⟨by decide, by decide, Nat.le_of_ble_eq_true rfl, rfl, mcd117⟩ rfl rfl (Nat.le_of_ble_eq_true rfl) rfl rfl (w185 (f := f)) ?_
  refine R_br 22 d145_17 (mb_t (b := ((0 : Int32) = (0 : Int32))) (by decide)) rfl ?_
  refine R_p d145_22 rfl rfl ?_
  refine R_cm [] d145_23 (List.mem_of_getElem? (i := 175) rfl) rfl ⟨by decide, by decide, Nat.le_of_ble_eq_true rfl, rfl, mcd128⟩ rfl rfl (Nat.le_of_ble_eq_true rfl) rfl rfl (w187 (f := f)) ?_
  refine R_p d145_26 rfl rfl ?_
  refine R_get d145_27 (Or.inl (List.mem_of_getElem? (i := 50) rfl)) rfl rfl ?_
  refine R_bi (v := 40) d145_30 (by decide) ?_
  refine R_p d145_32 rfl rfl ?_
  refine R_p d145_33 rfl rfl ?_
  refine R_lst d145_34 rfl (vp_ok (by decide)) ?_
  refine R_p d145_35 rfl rfl ?_
  refine R_get d145_36 (Or.inl (List.mem_of_getElem? (i := 51) rfl)) rfl rfl ?_
  refine R_bi (v := 40) d145_39 (by decide) ?_
  refine R_p d145_41 rfl rfl ?_
  refine R_p d145_42 rfl rfl ?_
  refine R_lst d145_43 rfl (vp_ok (by decide)) ?_
  refine R_p d145_44 rfl rfl ?_
  refine R_bi (v := 40) d145_45 (by decide) ?_
  refine R_cm [.int 40] d145_47 (List.mem_of_getElem? (i := 193) rfl) rfl ⟨by decide, by decide, Nat.le_of_ble_eq_true rfl, rfl, mcd146⟩ rfl rfl (Nat.le_of_ble_eq_true rfl) rfl rfl (w188 (f := f)) ?_
  exact R_iret d145_50 rfl rfl rfl
set_option maxRecDepth 4000 in
theorem w190 {f : Nat → Int32} : Run (5, f) 113 (0, [(0, .ref 42)], [], (HJ21 f)) (.inl (some (.int 0)), (HJ21 f)) := by
  refine R_p d113_0 rfl rfl ?_
  refine R_get d113_1 (Or.inl (List.mem_of_getElem? (i := 48) rfl)) rfl rfl ?_
  exact R_iret d113_4 rfl rfl rfl
set_option maxRecDepth 4000 in
theorem law740_191 {f : Nat → Int32} (h0 : ¬ ((f 1) < (-536870911))) (h1 : ¬ (536870911 < (f 1))) (h2 : ¬ ((f 2) < (-536870911))) (h3 : ¬ (536870911 < (f 2))) : Run (5, f) 171 (740, [(0, .ref 0), (1, .ref 16), (2, .ref 42), (3, .ref 53), (4, .int 0)], [], HL0) (.inl (some (.int 1)), (HJ21 f)) := by
  refine R_p d171_740 rfl rfl ?_
  refine R_p d171_741 rfl rfl ?_
  refine R_p d171_742 rfl rfl ?_
  refine R_ic (v := 1) d171_744 (by decide) ?_
  refine R_p d171_745 rfl rfl ?_
  refine R_nv (v := _) (v' := 1) (by decide) ?_
  refine R_sldk (n := 1) (x := (f 1)) d171_746 (vp_ok (by decide)) (by decide) rfl ?_
  refine R_p d171_747 rfl rfl ?_
  refine R_p d171_748 rfl rfl ?_
  refine R_ic (v := 2) d171_750 (by decide) ?_
  refine R_p d171_751 rfl rfl ?_
  refine R_nv (v := _) (v' := 2) (by decide) ?_
  refine R_sldk (n := 2) (x := (f 2)) d171_752 (vp_ok (by decide)) (by decide) rfl ?_
  refine R_p d171_753 rfl rfl ?_
  refine R_hs [.ref 16, .int (f 1), .int (f 2), .ref 53] d171_754 (List.mem_of_getElem? (i := 124) rfl) ⟨by decide, by decide, Nat.le_of_ble_eq_true rfl, mcd165⟩ rfl rfl (Nat.le_of_ble_eq_true rfl) (w181 (f := f) h0 h1 h2 h3) ?_
  refine R_p (ls' := [(0, .ref 0), (1, .ref 16), (2, .ref 42), (3, .ref 53), (4, .int 0), (5, .int 0)]) d171_757 rfl rfl ?_
  refine R_p d171_759 rfl rfl ?_
  refine R_p d171_760 rfl rfl ?_
  refine R_p d171_761 rfl rfl ?_
  refine R_ic (v := 1) d171_763 (by decide) ?_
  refine R_p d171_764 rfl rfl ?_
  refine R_nv (v := _) (v' := 1) (by decide) ?_
  refine R_sldk (n := 1) (x := (f 1)) d171_765 (vp_ok (by decide)) (by decide) rfl ?_
  refine R_p d171_766 rfl rfl ?_
  refine R_p d171_767 rfl rfl ?_
  refine R_ic (v := 2) d171_769 (by decide) ?_
  refine R_p d171_770 rfl rfl ?_
  refine R_nv (v := _) (v' := 2) (by decide) ?_
  refine R_sldk (n := 2) (x := (f 2)) d171_771 (vp_ok (by decide)) (by decide) rfl ?_
  refine R_cm [.int (f 1), .int (f 2)] d171_772 (List.mem_of_getElem? (i := 192) rfl) rfl ⟨by decide, by decide, Nat.le_of_ble_eq_true rfl, rfl, mcd145⟩ rfl rfl (Nat.le_of_ble_eq_true rfl) rfl rfl (w189 (f := f) h0 h1 h2 h3) ?_
  refine R_p (ls' := [(0, .ref 0), (1, .ref 16), (2, .ref 42), (3, .ref 53), (4, .int 0), (5, .int 0), (6, .int (-1))]) d171_775 rfl rfl ?_
  refine R_p d171_777 rfl rfl ?_
  refine R_cm [] d171_778 (List.mem_of_getElem? (i := 160) rfl) rfl ⟨by decide, by decide, Nat.le_of_ble_eq_true rfl, rfl, mcd113⟩ rfl rfl (Nat.le_of_ble_eq_true rfl) rfl rfl (w190 (f := f)) ?_
  refine R_p d171_781 rfl rfl ?_
  refine R_br 788 d171_783 (mb_t (b := ((0 : Int32) = (0 : Int32))) (by decide)) rfl ?_
  refine R_p d171_788 rfl rfl ?_
  refine R_nb d171_790 rfl (mb_f (b := (¬ (0 : Int32) = (0 : Int32))) (fun q => q (by decide))) ?_
  refine R_p d171_793 rfl rfl ?_
  refine R_ic (v := 0) d171_794 (by decide) ?_
  refine R_lld d171_795 rfl (vp_ok (by decide)) ?_
  refine R_nw (v := _) (v' := (-1)) (by decide) ?_
  refine R_p d171_796 rfl rfl ?_
  refine R_p d171_798 rfl rfl ?_
  refine R_nw (v := _) (v' := (-1)) (by decide) ?_
  refine R_p d171_799 rfl rfl ?_
  refine R_nv (v := _) (v' := 0) (by decide) ?_
  refine R_br 805 d171_800 (mb_t (b := ((0 : Int32) = (0 : Int32))) (by decide)) rfl ?_
  refine R_br 950 d171_805 rfl rfl ?_
  refine R_p (ls' := [(0, .ref 0), (1, .ref 16), (2, .ref 42), (3, .ref 53), (4, .int 5), (5, .int 0), (6, .int (-1))]) d171_950 rfl rfl ?_
  refine R_br 23 d171_953 rfl rfl ?_
  refine R_p d171_23 rfl rfl ?_
  refine R_p d171_25 rfl rfl ?_
  refine R_sln d171_26 ?_
  refine R_nv (v := _) (v' := 5) (show Int32.ofNat 5 = 5 from by decide) ?_
  refine R_ic (v := 5) d171_27 (by decide) ?_
  refine R_p d171_28 rfl rfl ?_
  refine R_nv (v := _) (v' := 0) (by decide) ?_
  refine R_br 956 d171_29 (mb_t (b := ((0 : Int32) < (5 : Int32))) (by decide)) rfl ?_
  refine R_ic (v := 1) d171_956 (by decide) ?_
  exact R_iret d171_957 rfl rfl rfl
set_option maxRecDepth 4000 in
theorem w192 {f : Nat → Int32} (h0 : ((f 1) < (-536870911))) : Run (5, f) 111 (0, [(0, .ref 16), (1, .int (f 1)), (2, .int (f 2)), (3, .int (f 3)), (4, .int (f 4))], [], HL0) (.inr 54, HJ1) := by
  refine R_p d111_0 rfl rfl ?_
  refine R_p d111_1 rfl rfl ?_
  refine R_p d111_2 rfl rfl ?_
  exact R_tv [.int (f 1), .int (f 2)] d111_3 (List.mem_of_getElem? (i := 30) rfl) ⟨by decide, by decide, Nat.le_of_ble_eq_true rfl, mcd97⟩ rfl rfl (Nat.le_of_ble_eq_true rfl) rfl rfl rfl (Or.inr (w1 (f := f) h0))
set_option maxRecDepth 4000 in
theorem w193 {f : Nat → Int32} (h0 : ((f 1) < (-536870911))) : Run (5, f) 166 (0, [(0, .ref 16), (1, .int (f 1)), (2, .int (f 2)), (3, .int (f 3)), (4, .int (f 4)), (5, .ref 53)], [], HL0) (.inl (some (.int 1)), HJ1) := by
  refine R_p d166_0 rfl rfl ?_
  refine R_ic (v := 0) d166_2 (by decide) ?_
  refine R_p d166_3 rfl rfl ?_
  refine R_p d166_4 rfl rfl ?_
  refine R_p d166_5 rfl rfl ?_
  refine R_p d166_6 rfl rfl ?_
  refine R_p d166_7 rfl rfl ?_
  refine R_tc [.int (f 1), .int (f 2), .int (f 3), .int (f 4)] d166_9 (List.mem_of_getElem? (i := 128) rfl) ⟨by decide, by decide, Nat.le_of_ble_eq_true rfl, mcd111⟩ rfl rfl (Nat.le_of_ble_eq_true rfl) rfl rfl rfl (cx := 10) (hp := 17) rfl (by decide) (by decide) (by decide) (Or.inl (w192 (f := f) h0)) ?_
  refine R_p (ls' := [(0, .ref 16), (1, .int (f 1)), (2, .int (f 2)), (3, .int (f 3)), (4, .int (f 4)), (5, .ref 53), (6, .ref 54)]) d166_17 rfl rfl ?_
  refine R_ic (v := 1) d166_19 (by decide) ?_
  exact R_iret d166_20 rfl rfl rfl
set_option maxRecDepth 4000 in
theorem w194 {f : Nat → Int32} (h0 : ((f 1) < (-536870911))) : Run (5, f) 147 (0, [(0, .ref 42), (1, .int (f 1)), (2, .int (f 2)), (3, .int (f 3)), (4, .int (f 4))], [], HJ1) (.inl (some (.int 0)), HJ2) := by
  refine R_p d147_0 rfl rfl ?_
  refine R_p d147_1 rfl rfl ?_
  refine R_p d147_2 rfl rfl ?_
  refine R_cs [.int (f 1), .int (f 2)] d147_3 (List.mem_of_getElem? (i := 162) rfl) rfl ⟨by decide, by decide, Nat.le_of_ble_eq_true rfl, rfl, mcd115⟩ rfl rfl (Nat.le_of_ble_eq_true rfl) (w5 (f := f) h0) ?_
  refine R_br 22 d147_6 (mb_t (b := ((0 : Int32) = (0 : Int32))) (by decide)) rfl ?_
  refine R_ic (v := 1) d147_22 (by decide) ?_
  refine R_cm [.int 1] d147_23 (List.mem_of_getElem? (i := 164) rfl) rfl ⟨by decide, by decide, Nat.le_of_ble_eq_true rfl, rfl, mcd117⟩ rfl rfl (Nat.le_of_ble_eq_true rfl) rfl rfl (w6 (f := f)) ?_
  refine R_nb d147_26 rfl (mb_f (b := ((1 : Int32) = (0 : Int32))) (by decide)) ?_
  refine R_ic (v := 0) d147_29 (by decide) ?_
  exact R_iret d147_30 rfl rfl rfl
set_option maxRecDepth 4000 in
theorem law808_195 {f : Nat → Int32} (h0 : ((f 1) < (-536870911))) : Run (5, f) 171 (808, [(0, .ref 0), (1, .ref 16), (2, .ref 42), (3, .ref 53), (4, .int 0)], [], HL0) (.inl (some (.int 1)), HJ2) := by
  refine R_p d171_808 rfl rfl ?_
  refine R_p d171_809 rfl rfl ?_
  refine R_p d171_810 rfl rfl ?_
  refine R_ic (v := 1) d171_812 (by decide) ?_
  refine R_p d171_813 rfl rfl ?_
  refine R_nv (v := _) (v' := 1) (by decide) ?_
  refine R_sldk (n := 1) (x := (f 1)) d171_814 (vp_ok (by decide)) (by decide) rfl ?_
  refine R_p d171_815 rfl rfl ?_
  refine R_p d171_816 rfl rfl ?_
  refine R_ic (v := 2) d171_818 (by decide) ?_
  refine R_p d171_819 rfl rfl ?_
  refine R_nv (v := _) (v' := 2) (by decide) ?_
  refine R_sldk (n := 2) (x := (f 2)) d171_820 (vp_ok (by decide)) (by decide) rfl ?_
  refine R_p d171_821 rfl rfl ?_
  refine R_p d171_822 rfl rfl ?_
  refine R_ic (v := 3) d171_824 (by decide) ?_
  refine R_p d171_825 rfl rfl ?_
  refine R_nv (v := _) (v' := 3) (by decide) ?_
  refine R_sldk (n := 3) (x := (f 3)) d171_826 (vp_ok (by decide)) (by decide) rfl ?_
  refine R_p d171_827 rfl rfl ?_
  refine R_p d171_828 rfl rfl ?_
  refine R_ic (v := 4) d171_830 (by decide) ?_
  refine R_p d171_831 rfl rfl ?_
  refine R_nv (v := _) (v' := 4) (by decide) ?_
  refine R_sldk (n := 4) (x := (f 4)) d171_832 (vp_ok (by decide)) (by decide) rfl ?_
  refine R_p d171_833 rfl rfl ?_
  refine R_hs [.ref 16, .int (f 1), .int (f 2), .int (f 3), .int (f 4), .ref 53] d171_834 (List.mem_of_getElem? (i := 127) rfl) ⟨by decide, by decide, Nat.le_of_ble_eq_true rfl, mcd166⟩ rfl rfl (Nat.le_of_ble_eq_true rfl) (w193 (f := f) h0) ?_
  refine R_p (ls' := [(0, .ref 0), (1, .ref 16), (2, .ref 42), (3, .ref 53), (4, .int 0), (5, .int 1)]) d171_837 rfl rfl ?_
  refine R_p d171_839 rfl rfl ?_
  refine R_p d171_840 rfl rfl ?_
  refine R_p d171_841 rfl rfl ?_
  refine R_ic (v := 1) d171_843 (by decide) ?_
  refine R_p d171_844 rfl rfl ?_
  refine R_nv (v := _) (v' := 1) (by decide) ?_
  refine R_sldk (n := 1) (x := (f 1)) d171_845 (vp_ok (by decide)) (by decide) rfl ?_
  refine R_p d171_846 rfl rfl ?_
  refine R_p d171_847 rfl rfl ?_
  refine R_ic (v := 2) d171_849 (by decide) ?_
  refine R_p d171_850 rfl rfl ?_
  refine R_nv (v := _) (v' := 2) (by decide) ?_
  refine R_sldk (n := 2) (x := (f 2)) d171_851 (vp_ok (by decide)) (by decide) rfl ?_
  refine R_p d171_852 rfl rfl ?_
  refine R_p d171_853 rfl rfl ?_
  refine R_ic (v := 3) d171_855 (by decide) ?_
  refine R_p d171_856 rfl rfl ?_
  refine R_nv (v := _) (v' := 3) (by decide) ?_
  refine R_sldk (n := 3) (x := (f 3)) d171_857 (vp_ok (by decide)) (by decide) rfl ?_
  refine R_p d171_858 rfl rfl ?_
  refine R_p d171_859 rfl rfl ?_
  refine R_ic (v := 4) d171_861 (by decide) ?_
  refine R_p d171_862 rfl rfl ?_
  refine R_nv (v := _) (v' := 4) (by decide) ?_
  refine R_sldk (n := 4) (x := (f 4)) d171_863 (vp_ok (by decide)) (by decide) rfl ?_
  refine R_cm [.int (f 1), .int (f 2), .int (f 3), .int (f 4)] d171_864 (List.mem_of_getElem? (i := 194) rfl) rfl ⟨by decide, by decide, Nat.le_of_ble_eq_true rfl, rfl, mcd147⟩ rfl rfl (Nat.le_of_ble_eq_true rfl) rfl rfl (w194 (f := f) h0) ?_
  refine R_p (ls' := [(0, .ref 0), (1, .ref 16), (2, .ref 42), (3, .ref 53), (4, .int 0), (5, .int 1), (6, .int 0)]) d171_867 rfl rfl ?_
  refine R_p d171_869 rfl rfl ?_
  refine R_cm [] d171_870 (List.mem_of_getElem? (i := 160) rfl) rfl ⟨by decide, by decide, Nat.le_of_ble_eq_true rfl, rfl, mcd113⟩ rfl rfl (Nat.le_of_ble_eq_true rfl) rfl rfl (w8 (f := f)) ?_
  refine R_p d171_873 rfl rfl ?_
  refine R_br 880 d171_875 (mb_t (b := ((1 : Int32) = (1 : Int32))) (by decide)) rfl ?_
  refine R_p d171_880 rfl rfl ?_
  refine R_br 897 d171_882 (mb_t (b := (¬ (1 : Int32) = (0 : Int32))) (by decide)) rfl ?_
  refine R_br 950 d171_897 rfl rfl ?_
  refine R_p (ls' := [(0, .ref 0), (1, .ref 16), (2, .ref 42), (3, .ref 53), (4, .int 5), (5, .int 1), (6, .int 0)]) d171_950 rfl rfl ?_
  refine R_br 23 d171_953 rfl rfl ?_
  refine R_p d171_23 rfl rfl ?_
  refine R_p d171_25 rfl rfl ?_
  refine R_sln d171_26 ?_
  refine R_nv (v := _) (v' := 5) (show Int32.ofNat 5 = 5 from by decide) ?_
  refine R_ic (v := 5) d171_27 (by decide) ?_
  refine R_p d171_28 rfl rfl ?_
  refine R_nv (v := _) (v' := 0) (by decide) ?_
  refine R_br 956 d171_29 (mb_t (b := ((0 : Int32) < (5 : Int32))) (by decide)) rfl ?_
  refine R_ic (v := 1) d171_956 (by decide) ?_
  exact R_iret d171_957 rfl rfl rfl
set_option maxRecDepth 4000 in
theorem w196 {f : Nat → Int32} (h0 : ¬ ((f 1) < (-536870911))) (h1 : (536870911 < (f 1))) : Run (5, f) 111 (0, [(0, .ref 16), (1, .int (f 1)), (2, .int (f 2)), (3, .int (f 3)), (4, .int (f 4))], [], HL0) (.inr 54, HJ1) := by
  refine R_p d111_0 rfl rfl ?_
  refine R_p d111_1 rfl rfl ?_
  refine R_p d111_2 rfl rfl ?_
  exact R_tv [.int (f 1), .int (f 2)] d111_3 (List.mem_of_getElem? (i := 30) rfl) ⟨by decide, by decide, Nat.le_of_ble_eq_true rfl, mcd97⟩ rfl rfl (Nat.le_of_ble_eq_true rfl) rfl rfl rfl (Or.inr (w10 (f := f) h0 h1))
set_option maxRecDepth 4000 in
theorem w197 {f : Nat → Int32} (h0 : ¬ ((f 1) < (-536870911))) (h1 : (536870911 < (f 1))) : Run (5, f) 166 (0, [(0, .ref 16), (1, .int (f 1)), (2, .int (f 2)), (3, .int (f 3)), (4, .int (f 4)), (5, .ref 53)], [], HL0) (.inl (some (.int 1)), HJ1) := by
  refine R_p d166_0 rfl rfl ?_
  refine R_ic (v := 0) d166_2 (by decide) ?_
  refine R_p d166_3 rfl rfl ?_
  refine R_p d166_4 rfl rfl ?_
  refine R_p d166_5 rfl rfl ?_
  refine R_p d166_6 rfl rfl ?_
  refine R_p d166_7 rfl rfl ?_
  refine R_tc [.int (f 1), .int (f 2), .int (f 3), .int (f 4)] d166_9 (List.mem_of_getElem? (i := 128) rfl) ⟨by decide, by decide, Nat.le_of_ble_eq_true rfl, mcd111⟩ rfl rfl (Nat.le_of_ble_eq_true rfl) rfl rfl rfl (cx := 10) (hp := 17) rfl (by decide) (by decide) (by decide) (Or.inl (w196 (f := f) h0 h1)) ?_
  refine R_p (ls' := [(0, .ref 16), (1, .int (f 1)), (2, .int (f 2)), (3, .int (f 3)), (4, .int (f 4)), (5, .ref 53), (6, .ref 54)]) d166_17 rfl rfl ?_
  refine R_ic (v := 1) d166_19 (by decide) ?_
  exact R_iret d166_20 rfl rfl rfl
set_option maxRecDepth 4000 in
theorem w198 {f : Nat → Int32} (h0 : ¬ ((f 1) < (-536870911))) (h1 : (536870911 < (f 1))) : Run (5, f) 147 (0, [(0, .ref 42), (1, .int (f 1)), (2, .int (f 2)), (3, .int (f 3)), (4, .int (f 4))], [], HJ1) (.inl (some (.int 0)), HJ2) := by
  refine R_p d147_0 rfl rfl ?_
  refine R_p d147_1 rfl rfl ?_
  refine R_p d147_2 rfl rfl ?_
  refine R_cs [.int (f 1), .int (f 2)] d147_3 (List.mem_of_getElem? (i := 162) rfl) rfl ⟨by decide, by decide, Nat.le_of_ble_eq_true rfl, rfl, mcd115⟩ rfl rfl (Nat.le_of_ble_eq_true rfl) (w14 (f := f) h0 h1) ?_
  refine R_br 22 d147_6 (mb_t (b := ((0 : Int32) = (0 : Int32))) (by decide)) rfl ?_
  refine R_ic (v := 1) d147_22 (by decide) ?_
  refine R_cm [.int 1] d147_23 (List.mem_of_getElem? (i := 164) rfl) rfl ⟨by decide, by decide, Nat.le_of_ble_eq_true rfl, rfl, mcd117⟩ rfl rfl (Nat.le_of_ble_eq_true rfl) rfl rfl (w6 (f := f)) ?_
  refine R_nb d147_26 rfl (mb_f (b := ((1 : Int32) = (0 : Int32))) (by decide)) ?_
  refine R_ic (v := 0) d147_29 (by decide) ?_
  exact R_iret d147_30 rfl rfl rfl
set_option maxRecDepth 4000 in
theorem law808_199 {f : Nat → Int32} (h0 : ¬ ((f 1) < (-536870911))) (h1 : (536870911 < (f 1))) : Run (5, f) 171 (808, [(0, .ref 0), (1, .ref 16), (2, .ref 42), (3, .ref 53), (4, .int 0)], [], HL0) (.inl (some (.int 1)), HJ2) := by
  refine R_p d171_808 rfl rfl ?_
  refine R_p d171_809 rfl rfl ?_
  refine R_p d171_810 rfl rfl ?_
  refine R_ic (v := 1) d171_812 (by decide) ?_
  refine R_p d171_813 rfl rfl ?_
  refine R_nv (v := _) (v' := 1) (by decide) ?_
  refine R_sldk (n := 1) (x := (f 1)) d171_814 (vp_ok (by decide)) (by decide) rfl ?_
  refine R_p d171_815 rfl rfl ?_
  refine R_p d171_816 rfl rfl ?_
  refine R_ic (v := 2) d171_818 (by decide) ?_
  refine R_p d171_819 rfl rfl ?_
  refine R_nv (v := _) (v' := 2) (by decide) ?_
  refine R_sldk (n := 2) (x := (f 2)) d171_820 (vp_ok (by decide)) (by decide) rfl ?_
  refine R_p d171_821 rfl rfl ?_
  refine R_p d171_822 rfl rfl ?_
  refine R_ic (v := 3) d171_824 (by decide) ?_
  refine R_p d171_825 rfl rfl ?_
  refine R_nv (v := _) (v' := 3) (by decide) ?_
  refine R_sldk (n := 3) (x := (f 3)) d171_826 (vp_ok (by decide)) (by decide) rfl ?_
  refine R_p d171_827 rfl rfl ?_
  refine R_p d171_828 rfl rfl ?_
  refine R_ic (v := 4) d171_830 (by decide) ?_
  refine R_p d171_831 rfl rfl ?_
  refine R_nv (v := _) (v' := 4) (by decide) ?_
  refine R_sldk (n := 4) (x := (f 4)) d171_832 (vp_ok (by decide)) (by decide) rfl ?_
  refine R_p d171_833 rfl rfl ?_
  refine R_hs [.ref 16, .int (f 1), .int (f 2), .int (f 3), .int (f 4), .ref 53] d171_834 (List.mem_of_getElem? (i := 127) rfl) ⟨by decide, by decide, Nat.le_of_ble_eq_true rfl, mcd166⟩ rfl rfl (Nat.le_of_ble_eq_true rfl) (w197 (f := f) h0 h1) ?_
  refine R_p (ls' := [(0, .ref 0), (1, .ref 16), (2, .ref 42), (3, .ref 53), (4, .int 0), (5, .int 1)]) d171_837 rfl rfl ?_
  refine R_p d171_839 rfl rfl ?_
  refine R_p d171_840 rfl rfl ?_
  refine R_p d171_841 rfl rfl ?_
  refine R_ic (v := 1) d171_843 (by decide) ?_
  refine R_p d171_844 rfl rfl ?_
  refine R_nv (v := _) (v' := 1) (by decide) ?_
  refine R_sldk (n := 1) (x := (f 1)) d171_845 (vp_ok (by decide)) (by decide) rfl ?_
  refine R_p d171_846 rfl rfl ?_
  refine R_p d171_847 rfl rfl ?_
  refine R_ic (v := 2) d171_849 (by decide) ?_
  refine R_p d171_850 rfl rfl ?_
  refine R_nv (v := _) (v' := 2) (by decide) ?_
  refine R_sldk (n := 2) (x := (f 2)) d171_851 (vp_ok (by decide)) (by decide) rfl ?_
  refine R_p d171_852 rfl rfl ?_
  refine R_p d171_853 rfl rfl ?_
  refine R_ic (v := 3) d171_855 (by decide) ?_
  refine R_p d171_856 rfl rfl ?_
  refine R_nv (v := _) (v' := 3) (by decide) ?_
  refine R_sldk (n := 3) (x := (f 3)) d171_857 (vp_ok (by decide)) (by decide) rfl ?_
  refine R_p d171_858 rfl rfl ?_
  refine R_p d171_859 rfl rfl ?_
  refine R_ic (v := 4) d171_861 (by decide) ?_
  refine R_p d171_862 rfl rfl ?_
  refine R_nv (v := _) (v' := 4) (by decide) ?_
  refine R_sldk (n := 4) (x := (f 4)) d171_863 (vp_ok (by decide)) (by decide) rfl ?_
  refine R_cm [.int (f 1), .int (f 2), .int (f 3), .int (f 4)] d171_864 (List.mem_of_getElem? (i := 194) rfl) rfl ⟨by decide, by decide, Nat.le_of_ble_eq_true rfl, rfl, mcd147⟩ rfl rfl (Nat.le_of_ble_eq_true rfl) rfl rfl (w198 (f := f) h0 h1) ?_
  refine R_p (ls' := [(0, .ref 0), (1, .ref 16), (2, .ref 42), (3, .ref 53), (4, .int 0), (5, .int 1), (6, .int 0)]) d171_867 rfl rfl ?_
  refine R_p d171_869 rfl rfl ?_
  refine R_cm [] d171_870 (List.mem_of_getElem? (i := 160) rfl) rfl ⟨by decide, by decide, Nat.le_of_ble_eq_true rfl, rfl, mcd113⟩ rfl rfl (Nat.le_of_ble_eq_true rfl) rfl rfl (w8 (f := f)) ?_
  refine R_p d171_873 rfl rfl ?_
  refine R_br 880 d171_875 (mb_t (b := ((1 : Int32) = (1 : Int32))) (by decide)) rfl ?_
  refine R_p d171_880 rfl rfl ?_
  refine R_br 897 d171_882 (mb_t (b := (¬ (1 : Int32) = (0 : Int32))) (by decide)) rfl ?_
  refine R_br 950 d171_897 rfl rfl ?_
  refine R_p (ls' := [(0, .ref 0), (1, .ref 16), (2, .ref 42), (3, .ref 53), (4, .int 5), (5, .int 1), (6, .int 0)]) d171_950 rfl rfl ?_
  refine R_br 23 d171_953 rfl rfl ?_
  refine R_p d171_23 rfl rfl ?_
  refine R_p d171_25 rfl rfl ?_
  refine R_sln d171_26 ?_
  refine R_nv (v := _) (v' := 5) (show Int32.ofNat 5 = 5 from by decide) ?_
  refine R_ic (v := 5) d171_27 (by decide) ?_
  refine R_p d171_28 rfl rfl ?_
  refine R_nv (v := _) (v' := 0) (by decide) ?_
  refine R_br 956 d171_29 (mb_t (b := ((0 : Int32) < (5 : Int32))) (by decide)) rfl ?_
  refine R_ic (v := 1) d171_956 (by decide) ?_
  exact R_iret d171_957 rfl rfl rfl
set_option maxRecDepth 4000 in
theorem w200 {f : Nat → Int32} (h0 : ¬ ((f 1) < (-536870911))) (h1 : ¬ (536870911 < (f 1))) (h2 : ((f 2) < (-536870911))) : Run (5, f) 111 (0, [(0, .ref 16), (1, .int (f 1)), (2, .int (f 2)), (3, .int (f 3)), (4, .int (f 4))], [], HL0) (.inr 54, HJ1) := by
  refine R_p d111_0 rfl rfl ?_
  refine R_p d111_1 rfl rfl ?_
  refine R_p d111_2 rfl rfl ?_
  exact R_tv [.int (f 1), .int (f 2)] d111_3 (List.mem_of_getElem? (i := 30) rfl) ⟨by decide, by decide, Nat.le_of_ble_eq_true rfl, mcd97⟩ rfl rfl (Nat.le_of_ble_eq_true rfl) rfl rfl rfl (Or.inr (w17 (f := f) h0 h1 h2))
set_option maxRecDepth 4000 in
theorem w201 {f : Nat → Int32} (h0 : ¬ ((f 1) < (-536870911))) (h1 : ¬ (536870911 < (f 1))) (h2 : ((f 2) < (-536870911))) : Run (5, f) 166 (0, [(0, .ref 16), (1, .int (f 1)), (2, .int (f 2)), (3, .int (f 3)), (4, .int (f 4)), (5, .ref 53)], [], HL0) (.inl (some (.int 1)), HJ1) := by
  refine R_p d166_0 rfl rfl ?_
  refine R_ic (v := 0) d166_2 (by decide) ?_
  refine R_p d166_3 rfl rfl ?_
  refine R_p d166_4 rfl rfl ?_
  refine R_p d166_5 rfl rfl ?_
  refine R_p d166_6 rfl rfl ?_
  refine R_p d166_7 rfl rfl ?_
  refine R_tc [.int (f 1), .int (f 2), .int (f 3), .int (f 4)] d166_9 (List.mem_of_getElem? (i := 128) rfl) ⟨by decide, by decide, Nat.le_of_ble_eq_true rfl, mcd111⟩ rfl rfl (Nat.le_of_ble_eq_true rfl) rfl rfl rfl (cx := 10) (hp := 17) rfl (by decide) (by decide) (by decide) (Or.inl (w200 (f := f) h0 h1 h2)) ?_
  refine R_p (ls' := [(0, .ref 16), (1, .int (f 1)), (2, .int (f 2)), (3, .int (f 3)), (4, .int (f 4)), (5, .ref 53), (6, .ref 54)]) d166_17 rfl rfl ?_
  refine R_ic (v := 1) d166_19 (by decide) ?_
  exact R_iret d166_20 rfl rfl rfl
set_option maxRecDepth 4000 in
theorem w202 {f : Nat → Int32} (h0 : ¬ ((f 1) < (-536870911))) (h1 : ¬ (536870911 < (f 1))) (h2 : ((f 2) < (-536870911))) : Run (5, f) 147 (0, [(0, .ref 42), (1, .int (f 1)), (2, .int (f 2)), (3, .int (f 3)), (4, .int (f 4))], [], HJ1) (.inl (some (.int 0)), HJ2) := by
  refine R_p d147_0 rfl rfl ?_
  refine R_p d147_1 rfl rfl ?_
  refine R_p d147_2 rfl rfl ?_
  refine R_cs [.int (f 1), .int (f 2)] d147_3 (List.mem_of_getElem? (i := 162) rfl) rfl ⟨by decide, by decide, Nat.le_of_ble_eq_true rfl, rfl, mcd115⟩ rfl rfl (Nat.le_of_ble_eq_true rfl) (w22 (f := f) h0 h1 h2) ?_
  refine R_br 22 d147_6 (mb_t (b := ((0 : Int32) = (0 : Int32))) (by decide)) rfl ?_
  refine R_ic (v := 1) d147_22 (by decide) ?_
  refine R_cm [.int 1] d147_23 (List.mem_of_getElem? (i := 164) rfl) rfl ⟨by decide, by decide, Nat.le_of_ble_eq_true rfl, rfl, mcd117⟩ rfl rfl (Nat.le_of_ble_eq_true rfl) rfl rfl (w6 (f := f)) ?_
  refine R_nb d147_26 rfl (mb_f (b := ((1 : Int32) = (0 : Int32))) (by decide)) ?_
  refine R_ic (v := 0) d147_29 (by decide) ?_
  exact R_iret d147_30 rfl rfl rfl
set_option maxRecDepth 4000 in
theorem law808_203 {f : Nat → Int32} (h0 : ¬ ((f 1) < (-536870911))) (h1 : ¬ (536870911 < (f 1))) (h2 : ((f 2) < (-536870911))) : Run (5, f) 171 (808, [(0, .ref 0), (1, .ref 16), (2, .ref 42), (3, .ref 53), (4, .int 0)], [], HL0) (.inl (some (.int 1)), HJ2) := by
  refine R_p d171_808 rfl rfl ?_
  refine R_p d171_809 rfl rfl ?_
  refine R_p d171_810 rfl rfl ?_
  refine R_ic (v := 1) d171_812 (by decide) ?_
  refine R_p d171_813 rfl rfl ?_
  refine R_nv (v := _) (v' := 1) (by decide) ?_
  refine R_sldk (n := 1) (x := (f 1)) d171_814 (vp_ok (by decide)) (by decide) rfl ?_
  refine R_p d171_815 rfl rfl ?_
  refine R_p d171_816 rfl rfl ?_
  refine R_ic (v := 2) d171_818 (by decide) ?_
  refine R_p d171_819 rfl rfl ?_
  refine R_nv (v := _) (v' := 2) (by decide) ?_
  refine R_sldk (n := 2) (x := (f 2)) d171_820 (vp_ok (by decide)) (by decide) rfl ?_
  refine R_p d171_821 rfl rfl ?_
  refine R_p d171_822 rfl rfl ?_
  refine R_ic (v := 3) d171_824 (by decide) ?_
  refine R_p d171_825 rfl rfl ?_
  refine R_nv (v := _) (v' := 3) (by decide) ?_
  refine R_sldk (n := 3) (x := (f 3)) d171_826 (vp_ok (by decide)) (by decide) rfl ?_
  refine R_p d171_827 rfl rfl ?_
  refine R_p d171_828 rfl rfl ?_
  refine R_ic (v := 4) d171_830 (by decide) ?_
  refine R_p d171_831 rfl rfl ?_
  refine R_nv (v := _) (v' := 4) (by decide) ?_
  refine R_sldk (n := 4) (x := (f 4)) d171_832 (vp_ok (by decide)) (by decide) rfl ?_
  refine R_p d171_833 rfl rfl ?_
  refine R_hs [.ref 16, .int (f 1), .int (f 2), .int (f 3), .int (f 4), .ref 53] d171_834 (List.mem_of_getElem? (i := 127) rfl) ⟨by decide, by decide, Nat.le_of_ble_eq_true rfl, mcd166⟩ rfl rfl (Nat.le_of_ble_eq_true rfl) (w201 (f := f) h0 h1 h2) ?_
  refine R_p (ls' := [(0, .ref 0), (1, .ref 16), (2, .ref 42), (3, .ref 53), (4, .int 0), (5, .int 1)]) d171_837 rfl rfl ?_
  refine R_p d171_839 rfl rfl ?_
  refine R_p d171_840 rfl rfl ?_
  refine R_p d171_841 rfl rfl ?_
  refine R_ic (v := 1) d171_843 (by decide) ?_
  refine R_p d171_844 rfl rfl ?_
  refine R_nv (v := _) (v' := 1) (by decide) ?_
  refine R_sldk (n := 1) (x := (f 1)) d171_845 (vp_ok (by decide)) (by decide) rfl ?_
  refine R_p d171_846 rfl rfl ?_
  refine R_p d171_847 rfl rfl ?_
  refine R_ic (v := 2) d171_849 (by decide) ?_
  refine R_p d171_850 rfl rfl ?_
  refine R_nv (v := _) (v' := 2) (by decide) ?_
  refine R_sldk (n := 2) (x := (f 2)) d171_851 (vp_ok (by decide)) (by decide) rfl ?_
  refine R_p d171_852 rfl rfl ?_
  refine R_p d171_853 rfl rfl ?_
  refine R_ic (v := 3) d171_855 (by decide) ?_
  refine R_p d171_856 rfl rfl ?_
  refine R_nv (v := _) (v' := 3) (by decide) ?_
  refine R_sldk (n := 3) (x := (f 3)) d171_857 (vp_ok (by decide)) (by decide) rfl ?_
  refine R_p d171_858 rfl rfl ?_
  refine R_p d171_859 rfl rfl ?_
  refine R_ic (v := 4) d171_861 (by decide) ?_
  refine R_p d171_862 rfl rfl ?_
  refine R_nv (v := _) (v' := 4) (by decide) ?_
  refine R_sldk (n := 4) (x := (f 4)) d171_863 (vp_ok (by decide)) (by decide) rfl ?_
  refine R_cm [.int (f 1), .int (f 2), .int (f 3), .int (f 4)] d171_864 (List.mem_of_getElem? (i := 194) rfl) rfl ⟨by decide, by decide, Nat.le_of_ble_eq_true rfl, rfl, mcd147⟩ rfl rfl (Nat.le_of_ble_eq_true rfl) rfl rfl (w202 (f := f) h0 h1 h2) ?_
  refine R_p (ls' := [(0, .ref 0), (1, .ref 16), (2, .ref 42), (3, .ref 53), (4, .int 0), (5, .int 1), (6, .int 0)]) d171_867 rfl rfl ?_
  refine R_p d171_869 rfl rfl ?_
  refine R_cm [] d171_870 (List.mem_of_getElem? (i := 160) rfl) rfl ⟨by decide, by decide, Nat.le_of_ble_eq_true rfl, rfl, mcd113⟩ rfl rfl (Nat.le_of_ble_eq_true rfl) rfl rfl (w8 (f := f)) ?_
  refine R_p d171_873 rfl rfl ?_
  refine R_br 880 d171_875 (mb_t (b := ((1 : Int32) = (1 : Int32))) (by decide)) rfl ?_
  refine R_p d171_880 rfl rfl ?_
  refine R_br 897 d171_882 (mb_t (b := (¬ (1 : Int32) = (0 : Int32))) (by decide)) rfl ?_
  refine R_br 950 d171_897 rfl rfl ?_
  refine R_p (ls' := [(0, .ref 0), (1, .ref 16), (2, .ref 42), (3, .ref 53), (4, .int 5), (5, .int 1), (6, .int 0)]) d171_950 rfl rfl ?_
  refine R_br 23 d171_953 rfl rfl ?_
  refine R_p d171_23 rfl rfl ?_
  refine R_p d171_25 rfl rfl ?_
  refine R_sln d171_26 ?_
  refine R_nv (v := _) (v' := 5) (show Int32.ofNat 5 = 5 from by decide) ?_
  refine R_ic (v := 5) d171_27 (by decide) ?_
  refine R_p d171_28 rfl rfl ?_
  refine R_nv (v := _) (v' := 0) (by decide) ?_
  refine R_br 956 d171_29 (mb_t (b := ((0 : Int32) < (5 : Int32))) (by decide)) rfl ?_
  refine R_ic (v := 1) d171_956 (by decide) ?_
  exact R_iret d171_957 rfl rfl rfl
set_option maxRecDepth 4000 in
theorem w204 {f : Nat → Int32} (h0 : ¬ ((f 1) < (-536870911))) (h1 : ¬ (536870911 < (f 1))) (h2 : ¬ ((f 2) < (-536870911))) (h3 : (536870911 < (f 2))) : Run (5, f) 111 (0, [(0, .ref 16), (1, .int (f 1)), (2, .int (f 2)), (3, .int (f 3)), (4, .int (f 4))], [], HL0) (.inr 54, HJ1) := by
  refine R_p d111_0 rfl rfl ?_
  refine R_p d111_1 rfl rfl ?_
  refine R_p d111_2 rfl rfl ?_
  exact R_tv [.int (f 1), .int (f 2)] d111_3 (List.mem_of_getElem? (i := 30) rfl) ⟨by decide, by decide, Nat.le_of_ble_eq_true rfl, mcd97⟩ rfl rfl (Nat.le_of_ble_eq_true rfl) rfl rfl rfl (Or.inr (w25 (f := f) h0 h1 h2 h3))
set_option maxRecDepth 4000 in
theorem w205 {f : Nat → Int32} (h0 : ¬ ((f 1) < (-536870911))) (h1 : ¬ (536870911 < (f 1))) (h2 : ¬ ((f 2) < (-536870911))) (h3 : (536870911 < (f 2))) : Run (5, f) 166 (0, [(0, .ref 16), (1, .int (f 1)), (2, .int (f 2)), (3, .int (f 3)), (4, .int (f 4)), (5, .ref 53)], [], HL0) (.inl (some (.int 1)), HJ1) := by
  refine R_p d166_0 rfl rfl ?_
  refine R_ic (v := 0) d166_2 (by decide) ?_
  refine R_p d166_3 rfl rfl ?_
  refine R_p d166_4 rfl rfl ?_
  refine R_p d166_5 rfl rfl ?_
  refine R_p d166_6 rfl rfl ?_
  refine R_p d166_7 rfl rfl ?_
  refine R_tc [.int (f 1), .int (f 2), .int (f 3), .int (f 4)] d166_9 (List.mem_of_getElem? (i := 128) rfl) ⟨by decide, by decide, Nat.le_of_ble_eq_true rfl, mcd111⟩ rfl rfl (Nat.le_of_ble_eq_true rfl) rfl rfl rfl (cx := 10) (hp := 17) rfl (by decide) (by decide) (by decide) (Or.inl (w204 (f := f) h0 h1 h2 h3)) ?_
  refine R_p (ls' := [(0, .ref 16), (1, .int (f 1)), (2, .int (f 2)), (3, .int (f 3)), (4, .int (f 4)), (5, .ref 53), (6, .ref 54)]) d166_17 rfl rfl ?_
  refine R_ic (v := 1) d166_19 (by decide) ?_
  exact R_iret d166_20 rfl rfl rfl
set_option maxRecDepth 4000 in
theorem w206 {f : Nat → Int32} (h0 : ¬ ((f 1) < (-536870911))) (h1 : ¬ (536870911 < (f 1))) (h2 : ¬ ((f 2) < (-536870911))) (h3 : (536870911 < (f 2))) : Run (5, f) 147 (0, [(0, .ref 42), (1, .int (f 1)), (2, .int (f 2)), (3, .int (f 3)), (4, .int (f 4))], [], HJ1) (.inl (some (.int 0)), HJ2) := by
  refine R_p d147_0 rfl rfl ?_
  refine R_p d147_1 rfl rfl ?_
  refine R_p d147_2 rfl rfl ?_
  refine R_cs [.int (f 1), .int (f 2)] d147_3 (List.mem_of_getElem? (i := 162) rfl) rfl ⟨by decide, by decide, Nat.le_of_ble_eq_true rfl, rfl, mcd115⟩ rfl rfl (Nat.le_of_ble_eq_true rfl) (w29 (f := f) h0 h1 h2 h3) ?_
  refine R_br 22 d147_6 (mb_t (b := ((0 : Int32) = (0 : Int32))) (by decide)) rfl ?_
  refine R_ic (v := 1) d147_22 (by decide) ?_
  refine R_cm [.int 1] d147_23 (List.mem_of_getElem? (i := 164) rfl) rfl ⟨by decide, by decide, Nat.le_of_ble_eq_true rfl, rfl, mcd117⟩ rfl rfl (Nat.le_of_ble_eq_true rfl) rfl rfl (w6 (f := f)) ?_
  refine R_nb d147_26 rfl (mb_f (b := ((1 : Int32) = (0 : Int32))) (by decide)) ?_
  refine R_ic (v := 0) d147_29 (by decide) ?_
  exact R_iret d147_30 rfl rfl rfl
set_option maxRecDepth 4000 in
theorem law808_207 {f : Nat → Int32} (h0 : ¬ ((f 1) < (-536870911))) (h1 : ¬ (536870911 < (f 1))) (h2 : ¬ ((f 2) < (-536870911))) (h3 : (536870911 < (f 2))) : Run (5, f) 171 (808, [(0, .ref 0), (1, .ref 16), (2, .ref 42), (3, .ref 53), (4, .int 0)], [], HL0) (.inl (some (.int 1)), HJ2) := by
  refine R_p d171_808 rfl rfl ?_
  refine R_p d171_809 rfl rfl ?_
  refine R_p d171_810 rfl rfl ?_
  refine R_ic (v := 1) d171_812 (by decide) ?_
  refine R_p d171_813 rfl rfl ?_
  refine R_nv (v := _) (v' := 1) (by decide) ?_
  refine R_sldk (n := 1) (x := (f 1)) d171_814 (vp_ok (by decide)) (by decide) rfl ?_
  refine R_p d171_815 rfl rfl ?_
  refine R_p d171_816 rfl rfl ?_
  refine R_ic (v := 2) d171_818 (by decide) ?_
  refine R_p d171_819 rfl rfl ?_
  refine R_nv (v := _) (v' := 2) (by decide) ?_
  refine R_sldk (n := 2) (x := (f 2)) d171_820 (vp_ok (by decide)) (by decide) rfl ?_
  refine R_p d171_821 rfl rfl ?_
  refine R_p d171_822 rfl rfl ?_
  refine R_ic (v := 3) d171_824 (by decide) ?_
  refine R_p d171_825 rfl rfl ?_
  refine R_nv (v := _) (v' := 3) (by decide) ?_
  refine R_sldk (n := 3) (x := (f 3)) d171_826 (vp_ok (by decide)) (by decide) rfl ?_
  refine R_p d171_827 rfl rfl ?_
  refine R_p d171_828 rfl rfl ?_
  refine R_ic (v := 4) d171_830 (by decide) ?_
  refine R_p d171_831 rfl rfl ?_
  refine R_nv (v := _) (v' := 4) (by decide) ?_
  refine R_sldk (n := 4) (x := (f 4)) d171_832 (vp_ok (by decide)) (by decide) rfl ?_
  refine R_p d171_833 rfl rfl ?_
  refine R_hs [.ref 16, .int (f 1), .int (f 2), .int (f 3), .int (f 4), .ref 53] d171_834 (List.mem_of_getElem? (i := 127) rfl) ⟨by decide, by decide, Nat.le_of_ble_eq_true rfl, mcd166⟩ rfl rfl (Nat.le_of_ble_eq_true rfl) (w205 (f := f) h0 h1 h2 h3) ?_
  refine R_p (ls' := [(0, .ref 0), (1, .ref 16), (2, .ref 42), (3, .ref 53), (4, .int 0), (5, .int 1)]) d171_837 rfl rfl ?_
  refine R_p d171_839 rfl rfl ?_
  refine R_p d171_840 rfl rfl ?_
  refine R_p d171_841 rfl rfl ?_
  refine R_ic (v := 1) d171_843 (by decide) ?_
  refine R_p d171_844 rfl rfl ?_
  refine R_nv (v := _) (v' := 1) (by decide) ?_
  refine R_sldk (n := 1) (x := (f 1)) d171_845 (vp_ok (by decide)) (by decide) rfl ?_
  refine R_p d171_846 rfl rfl ?_
  refine R_p d171_847 rfl rfl ?_
  refine R_ic (v := 2) d171_849 (by decide) ?_
  refine R_p d171_850 rfl rfl ?_
  refine R_nv (v := _) (v' := 2) (by decide) ?_
  refine R_sldk (n := 2) (x := (f 2)) d171_851 (vp_ok (by decide)) (by decide) rfl ?_
  refine R_p d171_852 rfl rfl ?_
  refine R_p d171_853 rfl rfl ?_
  refine R_ic (v := 3) d171_855 (by decide) ?_
  refine R_p d171_856 rfl rfl ?_
  refine R_nv (v := _) (v' := 3) (by decide) ?_
  refine R_sldk (n := 3) (x := (f 3)) d171_857 (vp_ok (by decide)) (by decide) rfl ?_
  refine R_p d171_858 rfl rfl ?_
  refine R_p d171_859 rfl rfl ?_
  refine R_ic (v := 4) d171_861 (by decide) ?_
  refine R_p d171_862 rfl rfl ?_
  refine R_nv (v := _) (v' := 4) (by decide) ?_
  refine R_sldk (n := 4) (x := (f 4)) d171_863 (vp_ok (by decide)) (by decide) rfl ?_
  refine R_cm [.int (f 1), .int (f 2), .int (f 3), .int (f 4)] d171_864 (List.mem_of_getElem? (i := 194) rfl) rfl ⟨by decide, by decide, Nat.le_of_ble_eq_true rfl, rfl, mcd147⟩ rfl rfl (Nat.le_of_ble_eq_true rfl) rfl rfl (w206 (f := f) h0 h1 h2 h3) ?_
  refine R_p (ls' := [(0, .ref 0), (1, .ref 16), (2, .ref 42), (3, .ref 53), (4, .int 0), (5, .int 1), (6, .int 0)]) d171_867 rfl rfl ?_
  refine R_p d171_869 rfl rfl ?_
  refine R_cm [] d171_870 (List.mem_of_getElem? (i := 160) rfl) rfl ⟨by decide, by decide, Nat.le_of_ble_eq_true rfl, rfl, mcd113⟩ rfl rfl (Nat.le_of_ble_eq_true rfl) rfl rfl (w8 (f := f)) ?_
  refine R_p d171_873 rfl rfl ?_
  refine R_br 880 d171_875 (mb_t (b := ((1 : Int32) = (1 : Int32))) (by decide)) rfl ?_
  refine R_p d171_880 rfl rfl ?_
  refine R_br 897 d171_882 (mb_t (b := (¬ (1 : Int32) = (0 : Int32))) (by decide)) rfl ?_
  refine R_br 950 d171_897 rfl rfl ?_
  refine R_p (ls' := [(0, .ref 0), (1, .ref 16), (2, .ref 42), (3, .ref 53), (4, .int 5), (5, .int 1), (6, .int 0)]) d171_950 rfl rfl ?_
  refine R_br 23 d171_953 rfl rfl ?_
  refine R_p d171_23 rfl rfl ?_
  refine R_p d171_25 rfl rfl ?_
  refine R_sln d171_26 ?_
  refine R_nv (v := _) (v' := 5) (show Int32.ofNat 5 = 5 from by decide) ?_
  refine R_ic (v := 5) d171_27 (by decide) ?_
  refine R_p d171_28 rfl rfl ?_
  refine R_nv (v := _) (v' := 0) (by decide) ?_
  refine R_br 956 d171_29 (mb_t (b := ((0 : Int32) < (5 : Int32))) (by decide)) rfl ?_
  refine R_ic (v := 1) d171_956 (by decide) ?_
  exact R_iret d171_957 rfl rfl rfl
set_option maxRecDepth 4000 in
theorem w208 {f : Nat → Int32} (h4 : ((f 3) < (-536870911))) : RunsP 97 (0, [(0, .ref 16), (1, .int (f 3)), (2, .int (f 4))], [], HL0) (.inr 54, HJ1) := by
  refine Q_p d97_0 rfl rfl ?_
  refine Q_ci (v := (-536870911)) 369 d97_1 (List.mem_of_getElem? (i := 0) rfl) ?_
  refine Q_br 24 d97_3 (mb_t (b := ((f 3) < (-536870911))) h4) rfl ?_
  exact Q_thr 1 d97_24 d97_27 d97_28 d97_30 d97_33 rfl (List.mem_of_getElem? (i := 2) rfl) rfl (by decide) (by decide)
set_option maxRecDepth 4000 in
theorem w209 {f : Nat → Int32} (h0 : ¬ ((f 1) < (-536870911))) (h1 : ¬ (536870911 < (f 1))) (h2 : ¬ ((f 2) < (-536870911))) (h3 : ¬ (536870911 < (f 2))) (h4 : ((f 3) < (-536870911))) : Run (5, f) 111 (0, [(0, .ref 16), (1, .int (f 1)), (2, .int (f 2)), (3, .int (f 3)), (4, .int (f 4))], [], HL0) (.inr 54, HJ1) := by
  refine R_p d111_0 rfl rfl ?_
  refine R_p d111_1 rfl rfl ?_
  refine R_p d111_2 rfl rfl ?_
  refine R_cm [.int (f 1), .int (f 2)] d111_3 (List.mem_of_getElem? (i := 30) rfl) rfl ⟨by decide, by decide, Nat.le_of_ble_eq_true rfl, rfl, mcd97⟩ rfl rfl (Nat.le_of_ble_eq_true rfl) rfl rfl (w32 (f := f) h0 h1 h2 h3) ?_
  refine R_p d111_6 rfl rfl ?_
  refine R_p d111_7 rfl rfl ?_
  refine R_p d111_8 rfl rfl ?_
  exact R_tv [.int (f 3), .int (f 4)] d111_10 (List.mem_of_getElem? (i := 30) rfl) ⟨by decide, by decide, Nat.le_of_ble_eq_true rfl, mcd97⟩ rfl rfl (Nat.le_of_ble_eq_true rfl) rfl rfl rfl (Or.inr (w208 (f := f) h4))
set_option maxRecDepth 4000 in
theorem w210 {f : Nat → Int32} (h0 : ¬ ((f 1) < (-536870911))) (h1 : ¬ (536870911 < (f 1))) (h2 : ¬ ((f 2) < (-536870911))) (h3 : ¬ (536870911 < (f 2))) (h4 : ((f 3) < (-536870911))) : Run (5, f) 166 (0, [(0, .ref 16), (1, .int (f 1)), (2, .int (f 2)), (3, .int (f 3)), (4, .int (f 4)), (5, .ref 53)], [], HL0) (.inl (some (.int 1)), HJ1) := by
  refine R_p d166_0 rfl rfl ?_
  refine R_ic (v := 0) d166_2 (by decide) ?_
  refine R_p d166_3 rfl rfl ?_
  refine R_p d166_4 rfl rfl ?_
  refine R_p d166_5 rfl rfl ?_
  refine R_p d166_6 rfl rfl ?_
  refine R_p d166_7 rfl rfl ?_
  refine R_tc [.int (f 1), .int (f 2), .int (f 3), .int (f 4)] d166_9 (List.mem_of_getElem? (i := 128) rfl) ⟨by decide, by decide, Nat.le_of_ble_eq_true rfl, mcd111⟩ rfl rfl (Nat.le_of_ble_eq_true rfl) rfl rfl rfl (cx := 10) (hp := 17) rfl (by decide) (by decide) (by decide) (Or.inl (w209 (f := f) h0 h1 h2 h3 h4)) ?_
  refine R_p (ls' := [(0, .ref 16), (1, .int (f 1)), (2, .int (f 2)), (3, .int (f 3)), (4, .int (f 4)), (5, .ref 53), (6, .ref 54)]) d166_17 rfl rfl ?_
  refine R_ic (v := 1) d166_19 (by decide) ?_
  exact R_iret d166_20 rfl rfl rfl
set_option maxRecDepth 4000 in
theorem w211 {f : Nat → Int32} (h2 : ¬ ((f 2) < (-536870911))) (h3 : ¬ (536870911 < (f 2))) : Run (5, f) 116 (0, [(0, .int (f 2)), (1, .int (-536870911)), (2, .int 536870911)], [], HJ1) (.inl (some (.int 1)), HJ1) := by
  refine R_p d116_0 rfl rfl ?_
  refine R_p d116_1 rfl rfl ?_
  refine R_nb d116_2 rfl (mb_f (b := ((f 2) < (-536870911))) h2) ?_
  refine R_p d116_5 rfl rfl ?_
  refine R_p d116_6 rfl rfl ?_
  refine R_nb d116_7 rfl (mb_f (b := (536870911 < (f 2))) h3) ?_
  refine R_ic (v := 1) d116_10 (by decide) ?_
  refine R_br 15 d116_11 rfl rfl ?_
  exact R_iret d116_15 rfl rfl rfl
set_option maxRecDepth 4000 in
theorem w212 {f : Nat → Int32} (h0 : ¬ ((f 1) < (-536870911))) (h1 : ¬ (536870911 < (f 1))) (h2 : ¬ ((f 2) < (-536870911))) (h3 : ¬ (536870911 < (f 2))) : Run (5, f) 115 (0, [(0, .int (f 1)), (1, .int (f 2))], [], HJ1) (.inl (some (.int 1)), HJ1) := by
  refine R_p d115_0 rfl rfl ?_
  refine R_ci (v := (-536870911)) 959 d115_1 (List.mem_of_getElem? (i := 4) rfl) ?_
  refine R_ci (v := 536870911) 960 d115_3 (List.mem_of_getElem? (i := 5) rfl) ?_
  refine R_cs [.int (f 1), .int (-536870911), .int 536870911] d115_5 (List.mem_of_getElem? (i := 163) rfl) rfl ⟨by decide, by decide, Nat.le_of_ble_eq_true rfl, rfl, mcd116⟩ rfl rfl (Nat.le_of_ble_eq_true rfl) (w20 (f := f) h0 h1) ?_
  refine R_nb d115_8 rfl (mb_f (b := ((1 : Int32) = (0 : Int32))) (by decide)) ?_
  refine R_p d115_11 rfl rfl ?_
  refine R_ci (v := (-536870911)) 959 d115_12 (List.mem_of_getElem? (i := 4) rfl) ?_
  refine R_ci (v := 536870911) 960 d115_14 (List.mem_of_getElem? (i := 5) rfl) ?_
  refine R_cs [.int (f 2), .int (-536870911), .int 536870911] d115_16 (List.mem_of_getElem? (i := 163) rfl) rfl ⟨by decide, by decide, Nat.le_of_ble_eq_true rfl, rfl, mcd116⟩ rfl rfl (Nat.le_of_ble_eq_true rfl) (w211 (f := f) h2 h3) ?_
  refine R_nb d115_19 rfl (mb_f (b := ((1 : Int32) = (0 : Int32))) (by decide)) ?_
  refine R_ic (v := 1) d115_22 (by decide) ?_
  refine R_br 27 d115_23 rfl rfl ?_
  exact R_iret d115_27 rfl rfl rfl
set_option maxRecDepth 4000 in
theorem w213 {f : Nat → Int32} (h4 : ((f 3) < (-536870911))) : Run (5, f) 116 (0, [(0, .int (f 3)), (1, .int (-536870911)), (2, .int 536870911)], [], HJ1) (.inl (some (.int 0)), HJ1) := by
  refine R_p d116_0 rfl rfl ?_
  refine R_p d116_1 rfl rfl ?_
  refine R_br 14 d116_2 (mb_t (b := ((f 3) < (-536870911))) h4) rfl ?_
  refine R_ic (v := 0) d116_14 (by decide) ?_
  exact R_iret d116_15 rfl rfl rfl
set_option maxRecDepth 4000 in
theorem w214 {f : Nat → Int32} (h4 : ((f 3) < (-536870911))) : Run (5, f) 115 (0, [(0, .int (f 3)), (1, .int (f 4))], [], HJ1) (.inl (some (.int 0)), HJ1) := by
  refine R_p d115_0 rfl rfl ?_
  refine R_ci (v := (-536870911)) 959 d115_1 (List.mem_of_getElem? (i := 4) rfl) ?_
  refine R_ci (v := 536870911) 960 d115_3 (List.mem_of_getElem? (i := 5) rfl) ?_
  refine R_cs [.int (f 3), .int (-536870911), .int 536870911] d115_5 (List.mem_of_getElem? (i := 163) rfl) rfl ⟨by decide, by decide, Nat.le_of_ble_eq_true rfl, rfl, mcd116⟩ rfl rfl (Nat.le_of_ble_eq_true rfl) (w213 (f := f) h4) ?_
  refine R_br 26 d115_8 (mb_t (b := ((0 : Int32) = (0 : Int32))) (by decide)) rfl ?_
  refine R_ic (v := 0) d115_26 (by decide) ?_
  exact R_iret d115_27 rfl rfl rfl
set_option maxRecDepth 4000 in
theorem w215 {f : Nat → Int32} (h0 : ¬ ((f 1) < (-536870911))) (h1 : ¬ (536870911 < (f 1))) (h2 : ¬ ((f 2) < (-536870911))) (h3 : ¬ (536870911 < (f 2))) (h4 : ((f 3) < (-536870911))) : Run (5, f) 147 (0, [(0, .ref 42), (1, .int (f 1)), (2, .int (f 2)), (3, .int (f 3)), (4, .int (f 4))], [], HJ1) (.inl (some (.int 0)), HJ2) := by
  refine R_p d147_0 rfl rfl ?_
  refine R_p d147_1 rfl rfl ?_
  refine R_p d147_2 rfl rfl ?_
  refine R_cs [.int (f 1), .int (f 2)] d147_3 (List.mem_of_getElem? (i := 162) rfl) rfl ⟨by decide, by decide, Nat.le_of_ble_eq_true rfl, rfl, mcd115⟩ rfl rfl (Nat.le_of_ble_eq_true rfl) (w212 (f := f) h0 h1 h2 h3) ?_
  refine R_nb d147_6 rfl (mb_f (b := ((1 : Int32) = (0 : Int32))) (by decide)) ?_
  refine R_p d147_9 rfl rfl ?_
  refine R_p d147_10 rfl rfl ?_
  refine R_cs [.int (f 3), .int (f 4)] d147_12 (List.mem_of_getElem? (i := 162) rfl) rfl ⟨by decide, by decide, Nat.le_of_ble_eq_true rfl, rfl, mcd115⟩ rfl rfl (Nat.le_of_ble_eq_true rfl) (w214 (f := f) h4) ?_
  refine R_br 22 d147_15 (mb_t (b := ((0 : Int32) = (0 : Int32))) (by decide)) rfl ?_
  refine R_ic (v := 1) d147_22 (by decide) ?_
  refine R_cm [.int 1] d147_23 (List.mem_of_getElem? (i := 164) rfl) rfl ⟨by decide, by decide, Nat.le_of_ble_eq_true rfl, rfl, mcd117⟩ rfl rfl (Nat.le_of_ble_eq_true rfl) rfl rfl (w6 (f := f)) ?_
  refine R_nb d147_26 rfl (mb_f (b := ((1 : Int32) = (0 : Int32))) (by decide)) ?_
  refine R_ic (v := 0) d147_29 (by decide) ?_
  exact R_iret d147_30 rfl rfl rfl
set_option maxRecDepth 4000 in
theorem law808_216 {f : Nat → Int32} (h0 : ¬ ((f 1) < (-536870911))) (h1 : ¬ (536870911 < (f 1))) (h2 : ¬ ((f 2) < (-536870911))) (h3 : ¬ (536870911 < (f 2))) (h4 : ((f 3) < (-536870911))) : Run (5, f) 171 (808, [(0, .ref 0), (1, .ref 16), (2, .ref 42), (3, .ref 53), (4, .int 0)], [], HL0) (.inl (some (.int 1)), HJ2) := by
  refine R_p d171_808 rfl rfl ?_
  refine R_p d171_809 rfl rfl ?_
  refine R_p d171_810 rfl rfl ?_
  refine R_ic (v := 1) d171_812 (by decide) ?_
  refine R_p d171_813 rfl rfl ?_
  refine R_nv (v := _) (v' := 1) (by decide) ?_
  refine R_sldk (n := 1) (x := (f 1)) d171_814 (vp_ok (by decide)) (by decide) rfl ?_
  refine R_p d171_815 rfl rfl ?_
  refine R_p d171_816 rfl rfl ?_
  refine R_ic (v := 2) d171_818 (by decide) ?_
  refine R_p d171_819 rfl rfl ?_
  refine R_nv (v := _) (v' := 2) (by decide) ?_
  refine R_sldk (n := 2) (x := (f 2)) d171_820 (vp_ok (by decide)) (by decide) rfl ?_
  refine R_p d171_821 rfl rfl ?_
  refine R_p d171_822 rfl rfl ?_
  refine R_ic (v := 3) d171_824 (by decide) ?_
  refine R_p d171_825 rfl rfl ?_
  refine R_nv (v := _) (v' := 3) (by decide) ?_
  refine R_sldk (n := 3) (x := (f 3)) d171_826 (vp_ok (by decide)) (by decide) rfl ?_
  refine R_p d171_827 rfl rfl ?_
  refine R_p d171_828 rfl rfl ?_
  refine R_ic (v := 4) d171_830 (by decide) ?_
  refine R_p d171_831 rfl rfl ?_
  refine R_nv (v := _) (v' := 4) (by decide) ?_
  refine R_sldk (n := 4) (x := (f 4)) d171_832 (vp_ok (by decide)) (by decide) rfl ?_
  refine R_p d171_833 rfl rfl ?_
  refine R_hs [.ref 16, .int (f 1), .int (f 2), .int (f 3), .int (f 4), .ref 53] d171_834 (List.mem_of_getElem? (i := 127) rfl) ⟨by decide, by decide, Nat.le_of_ble_eq_true rfl, mcd166⟩ rfl rfl (Nat.le_of_ble_eq_true rfl) (w210 (f := f) h0 h1 h2 h3 h4) ?_
  refine R_p (ls' := [(0, .ref 0), (1, .ref 16), (2, .ref 42), (3, .ref 53), (4, .int 0), (5, .int 1)]) d171_837 rfl rfl ?_
  refine R_p d171_839 rfl rfl ?_
  refine R_p d171_840 rfl rfl ?_
  refine R_p d171_841 rfl rfl ?_
  refine R_ic (v := 1) d171_843 (by decide) ?_
  refine R_p d171_844 rfl rfl ?_
  refine R_nv (v := _) (v' := 1) (by decide) ?_
  refine R_sldk (n := 1) (x := (f 1)) d171_845 (vp_ok (by decide)) (by decide) rfl ?_
  refine R_p d171_846 rfl rfl ?_
  refine R_p d171_847 rfl rfl ?_
  refine R_ic (v := 2) d171_849 (by decide) ?_
  refine R_p d171_850 rfl rfl ?_
  refine R_nv (v := _) (v' := 2) (by decide) ?_
  refine R_sldk (n := 2) (x := (f 2)) d171_851 (vp_ok (by decide)) (by decide) rfl ?_
  refine R_p d171_852 rfl rfl ?_
  refine R_p d171_853 rfl rfl ?_
  refine R_ic (v := 3) d171_855 (by decide) ?_
  refine R_p d171_856 rfl rfl ?_
  refine R_nv (v := _) (v' := 3) (by decide) ?_
  refine R_sldk (n := 3) (x := (f 3)) d171_857 (vp_ok (by decide)) (by decide) rfl ?_
  refine R_p d171_858 rfl rfl ?_
  refine R_p d171_859 rfl rfl ?_
  refine R_ic (v := 4) d171_861 (by decide) ?_
  refine R_p d171_862 rfl rfl ?_
  refine R_nv (v := _) (v' := 4) (by decide) ?_
  refine R_sldk (n := 4) (x := (f 4)) d171_863 (vp_ok (by decide)) (by decide) rfl ?_
  refine R_cm [.int (f 1), .int (f 2), .int (f 3), .int (f 4)] d171_864 (List.mem_of_getElem? (i := 194) rfl) rfl ⟨by decide, by decide, Nat.le_of_ble_eq_true rfl, rfl, mcd147⟩ rfl rfl (Nat.le_of_ble_eq_true rfl) rfl rfl (w215 (f := f) h0 h1 h2 h3 h4) ?_
  refine R_p (ls' := [(0, .ref 0), (1, .ref 16), (2, .ref 42), (3, .ref 53), (4, .int 0), (5, .int 1), (6, .int 0)]) d171_867 rfl rfl ?_
  refine R_p d171_869 rfl rfl ?_
  refine R_cm [] d171_870 (List.mem_of_getElem? (i := 160) rfl) rfl ⟨by decide, by decide, Nat.le_of_ble_eq_true rfl, rfl, mcd113⟩ rfl rfl (Nat.le_of_ble_eq_true rfl) rfl rfl (w8 (f := f)) ?_
  refine R_p d171_873 rfl rfl ?_
  refine R_br 880 d171_875 (mb_t (b := ((1 : Int32) = (1 : Int32))) (by decide)) rfl ?_
  refine R_p d171_880 rfl rfl ?_
  refine R_br 897 d171_882 (mb_t (b := (¬ (1 : Int32) = (0 : Int32))) (by decide)) rfl ?_
  refine R_br 950 d171_897 rfl rfl ?_
  refine R_p (ls' := [(0, .ref 0), (1, .ref 16), (2, .ref 42), (3, .ref 53), (4, .int 5), (5, .int 1), (6, .int 0)]) d171_950 rfl rfl ?_
  refine R_br 23 d171_953 rfl rfl ?_
  refine R_p d171_23 rfl rfl ?_
  refine R_p d171_25 rfl rfl ?_
  refine R_sln d171_26 ?_
  refine R_nv (v := _) (v' := 5) (show Int32.ofNat 5 = 5 from by decide) ?_
  refine R_ic (v := 5) d171_27 (by decide) ?_
  refine R_p d171_28 rfl rfl ?_
  refine R_nv (v := _) (v' := 0) (by decide) ?_
  refine R_br 956 d171_29 (mb_t (b := ((0 : Int32) < (5 : Int32))) (by decide)) rfl ?_
  refine R_ic (v := 1) d171_956 (by decide) ?_
  exact R_iret d171_957 rfl rfl rfl
set_option maxRecDepth 4000 in
theorem w217 {f : Nat → Int32} (h4 : ¬ ((f 3) < (-536870911))) (h5 : (536870911 < (f 3))) : RunsP 97 (0, [(0, .ref 16), (1, .int (f 3)), (2, .int (f 4))], [], HL0) (.inr 54, HJ1) := by
  refine Q_p d97_0 rfl rfl ?_
  refine Q_ci (v := (-536870911)) 369 d97_1 (List.mem_of_getElem? (i := 0) rfl) ?_
  refine Q_nb d97_3 rfl (mb_f (b := ((f 3) < (-536870911))) h4) ?_
  refine Q_p d97_6 rfl rfl ?_
  refine Q_ci (v := 536870911) 370 d97_7 (List.mem_of_getElem? (i := 1) rfl) ?_
  refine Q_br 24 d97_9 (mb_t (b := (536870911 < (f 3))) h5) rfl ?_
  exact Q_thr 1 d97_24 d97_27 d97_28 d97_30 d97_33 rfl (List.mem_of_getElem? (i := 2) rfl) rfl (by decide) (by decide)
set_option maxRecDepth 4000 in
theorem w218 {f : Nat → Int32} (h0 : ¬ ((f 1) < (-536870911))) (h1 : ¬ (536870911 < (f 1))) (h2 : ¬ ((f 2) < (-536870911))) (h3 : ¬ (536870911 < (f 2))) (h4 : ¬ ((f 3) < (-536870911))) (h5 : (536870911 < (f 3))) : Run (5, f) 111 (0, [(0, .ref 16), (1, .int (f 1)), (2, .int (f 2)), (3, .int (f 3)), (4, .int (f 4))], [], HL0) (.inr 54, HJ1) := by
  refine R_p d111_0 rfl rfl ?_
  refine R_p d111_1 rfl rfl ?_
  refine R_p d111_2 rfl rfl ?_
  refine R_cm [.int (f 1), .int (f 2)] d111_3 (List.mem_of_getElem? (i := 30) rfl) rfl ⟨by decide, by decide, Nat.le_of_ble_eq_true rfl, rfl, mcd97⟩ rfl rfl (Nat.le_of_ble_eq_true rfl) rfl rfl (w32 (f := f) h0 h1 h2 h3) ?_
  refine R_p d111_6 rfl rfl ?_
  refine R_p d111_7 rfl rfl ?_
  refine R_p d111_8 rfl rfl ?_
  exact R_tv [.int (f 3), .int (f 4)] d111_10 (List.mem_of_getElem? (i := 30) rfl) ⟨by decide, by decide, Nat.le_of_ble_eq_true rfl, mcd97⟩ rfl rfl (Nat.le_of_ble_eq_true rfl) rfl rfl rfl (Or.inr (w217 (f := f) h4 h5))
set_option maxRecDepth 4000 in
theorem w219 {f : Nat → Int32} (h0 : ¬ ((f 1) < (-536870911))) (h1 : ¬ (536870911 < (f 1))) (h2 : ¬ ((f 2) < (-536870911))) (h3 : ¬ (536870911 < (f 2))) (h4 : ¬ ((f 3) < (-536870911))) (h5 : (536870911 < (f 3))) : Run (5, f) 166 (0, [(0, .ref 16), (1, .int (f 1)), (2, .int (f 2)), (3, .int (f 3)), (4, .int (f 4)), (5, .ref 53)], [], HL0) (.inl (some (.int 1)), HJ1) := by
  refine R_p d166_0 rfl rfl ?_
  refine R_ic (v := 0) d166_2 (by decide) ?_
  refine R_p d166_3 rfl rfl ?_
  refine R_p d166_4 rfl rfl ?_
  refine R_p d166_5 rfl rfl ?_
  refine R_p d166_6 rfl rfl ?_
  refine R_p d166_7 rfl rfl ?_
  refine R_tc [.int (f 1), .int (f 2), .int (f 3), .int (f 4)] d166_9 (List.mem_of_getElem? (i := 128) rfl) ⟨by decide, by decide, Nat.le_of_ble_eq_true rfl, mcd111⟩ rfl rfl (Nat.le_of_ble_eq_true rfl) rfl rfl rfl (cx := 10) (hp := 17) rfl (by decide) (by decide) (by decide) (Or.inl (w218 (f := f) h0 h1 h2 h3 h4 h5)) ?_
  refine R_p (ls' := [(0, .ref 16), (1, .int (f 1)), (2, .int (f 2)), (3, .int (f 3)), (4, .int (f 4)), (5, .ref 53), (6, .ref 54)]) d166_17 rfl rfl ?_
  refine R_ic (v := 1) d166_19 (by decide) ?_
  exact R_iret d166_20 rfl rfl rfl
set_option maxRecDepth 4000 in
theorem w220 {f : Nat → Int32} (h4 : ¬ ((f 3) < (-536870911))) (h5 : (536870911 < (f 3))) : Run (5, f) 116 (0, [(0, .int (f 3)), (1, .int (-536870911)), (2, .int 536870911)], [], HJ1) (.inl (some (.int 0)), HJ1) := by
  refine R_p d116_0 rfl rfl ?_
  refine R_p d116_1 rfl rfl ?_
  refine R_nb d116_2 rfl (mb_f (b := ((f 3) < (-536870911))) h4) ?_
  refine R_p d116_5 rfl rfl ?_
  refine R_p d116_6 rfl rfl ?_
  refine R_br 14 d116_7 (mb_t (b := (536870911 < (f 3))) h5) rfl ?_
  refine R_ic (v := 0) d116_14 (by decide) ?_
  exact R_iret d116_15 rfl rfl rfl
set_option maxRecDepth 4000 in
theorem w221 {f : Nat → Int32} (h4 : ¬ ((f 3) < (-536870911))) (h5 : (536870911 < (f 3))) : Run (5, f) 115 (0, [(0, .int (f 3)), (1, .int (f 4))], [], HJ1) (.inl (some (.int 0)), HJ1) := by
  refine R_p d115_0 rfl rfl ?_
  refine R_ci (v := (-536870911)) 959 d115_1 (List.mem_of_getElem? (i := 4) rfl) ?_
  refine R_ci (v := 536870911) 960 d115_3 (List.mem_of_getElem? (i := 5) rfl) ?_
  refine R_cs [.int (f 3), .int (-536870911), .int 536870911] d115_5 (List.mem_of_getElem? (i := 163) rfl) rfl ⟨by decide, by decide, Nat.le_of_ble_eq_true rfl, rfl, mcd116⟩ rfl rfl (Nat.le_of_ble_eq_true rfl) (w220 (f := f) h4 h5) ?_
  refine R_br 26 d115_8 (mb_t (b := ((0 : Int32) = (0 : Int32))) (by decide)) rfl ?_
  refine R_ic (v := 0) d115_26 (by decide) ?_
  exact R_iret d115_27 rfl rfl rfl
set_option maxRecDepth 4000 in
theorem w222 {f : Nat → Int32} (h0 : ¬ ((f 1) < (-536870911))) (h1 : ¬ (536870911 < (f 1))) (h2 : ¬ ((f 2) < (-536870911))) (h3 : ¬ (536870911 < (f 2))) (h4 : ¬ ((f 3) < (-536870911))) (h5 : (536870911 < (f 3))) : Run (5, f) 147 (0, [(0, .ref 42), (1, .int (f 1)), (2, .int (f 2)), (3, .int (f 3)), (4, .int (f 4))], [], HJ1) (.inl (some (.int 0)), HJ2) := by
  refine R_p d147_0 rfl rfl ?_
  refine R_p d147_1 rfl rfl ?_
  refine R_p d147_2 rfl rfl ?_
  refine R_cs [.int (f 1), .int (f 2)] d147_3 (List.mem_of_getElem? (i := 162) rfl) rfl ⟨by decide, by decide, Nat.le_of_ble_eq_true rfl, rfl, mcd115⟩ rfl rfl (Nat.le_of_ble_eq_true rfl) (w212 (f := f) h0 h1 h2 h3) ?_
  refine R_nb d147_6 rfl (mb_f (b := ((1 : Int32) = (0 : Int32))) (by decide)) ?_
  refine R_p d147_9 rfl rfl ?_
  refine R_p d147_10 rfl rfl ?_
  refine R_cs [.int (f 3), .int (f 4)] d147_12 (List.mem_of_getElem? (i := 162) rfl) rfl ⟨by decide, by decide, Nat.le_of_ble_eq_true rfl, rfl, mcd115⟩ rfl rfl (Nat.le_of_ble_eq_true rfl) (w221 (f := f) h4 h5) ?_
  refine R_br 22 d147_15 (mb_t (b := ((0 : Int32) = (0 : Int32))) (by decide)) rfl ?_
  refine R_ic (v := 1) d147_22 (by decide) ?_
  refine R_cm [.int 1] d147_23 (List.mem_of_getElem? (i := 164) rfl) rfl ⟨by decide, by decide, Nat.le_of_ble_eq_true rfl, rfl, mcd117⟩ rfl rfl (Nat.le_of_ble_eq_true rfl) rfl rfl (w6 (f := f)) ?_
  refine R_nb d147_26 rfl (mb_f (b := ((1 : Int32) = (0 : Int32))) (by decide)) ?_
  refine R_ic (v := 0) d147_29 (by decide) ?_
  exact R_iret d147_30 rfl rfl rfl
set_option maxRecDepth 4000 in
theorem law808_223 {f : Nat → Int32} (h0 : ¬ ((f 1) < (-536870911))) (h1 : ¬ (536870911 < (f 1))) (h2 : ¬ ((f 2) < (-536870911))) (h3 : ¬ (536870911 < (f 2))) (h4 : ¬ ((f 3) < (-536870911))) (h5 : (536870911 < (f 3))) : Run (5, f) 171 (808, [(0, .ref 0), (1, .ref 16), (2, .ref 42), (3, .ref 53), (4, .int 0)], [], HL0) (.inl (some (.int 1)), HJ2) := by
  refine R_p d171_808 rfl rfl ?_
  refine R_p d171_809 rfl rfl ?_
  refine R_p d171_810 rfl rfl ?_
  refine R_ic (v := 1) d171_812 (by decide) ?_
  refine R_p d171_813 rfl rfl ?_
  refine R_nv (v := _) (v' := 1) (by decide) ?_
  refine R_sldk (n := 1) (x := (f 1)) d171_814 (vp_ok (by decide)) (by decide) rfl ?_
  refine R_p d171_815 rfl rfl ?_
  refine R_p d171_816 rfl rfl ?_
  refine R_ic (v := 2) d171_818 (by decide) ?_
  refine R_p d171_819 rfl rfl ?_
  refine R_nv (v := _) (v' := 2) (by decide) ?_
  refine R_sldk (n := 2) (x := (f 2)) d171_820 (vp_ok (by decide)) (by decide) rfl ?_
  refine R_p d171_821 rfl rfl ?_
  refine R_p d171_822 rfl rfl ?_
  refine R_ic (v := 3) d171_824 (by decide) ?_
  refine R_p d171_825 rfl rfl ?_
  refine R_nv (v := _) (v' := 3) (by decide) ?_
  refine R_sldk (n := 3) (x := (f 3)) d171_826 (vp_ok (by decide)) (by decide) rfl ?_
  refine R_p d171_827 rfl rfl ?_
  refine R_p d171_828 rfl rfl ?_
  refine R_ic (v := 4) d171_830 (by decide) ?_
  refine R_p d171_831 rfl rfl ?_
  refine R_nv (v := _) (v' := 4) (by decide) ?_
  refine R_sldk (n := 4) (x := (f 4)) d171_832 (vp_ok (by decide)) (by decide) rfl ?_
  refine R_p d171_833 rfl rfl ?_
  refine R_hs [.ref 16, .int (f 1), .int (f 2), .int (f 3), .int (f 4), .ref 53] d171_834 (List.mem_of_getElem? (i := 127) rfl) ⟨by decide, by decide, Nat.le_of_ble_eq_true rfl, mcd166⟩ rfl rfl (Nat.le_of_ble_eq_true rfl) (w219 (f := f) h0 h1 h2 h3 h4 h5) ?_
  refine R_p (ls' := [(0, .ref 0), (1, .ref 16), (2, .ref 42), (3, .ref 53), (4, .int 0), (5, .int 1)]) d171_837 rfl rfl ?_
  refine R_p d171_839 rfl rfl ?_
  refine R_p d171_840 rfl rfl ?_
  refine R_p d171_841 rfl rfl ?_
  refine R_ic (v := 1) d171_843 (by decide) ?_
  refine R_p d171_844 rfl rfl ?_
  refine R_nv (v := _) (v' := 1) (by decide) ?_
  refine R_sldk (n := 1) (x := (f 1)) d171_845 (vp_ok (by decide)) (by decide) rfl ?_
  refine R_p d171_846 rfl rfl ?_
  refine R_p d171_847 rfl rfl ?_
  refine R_ic (v := 2) d171_849 (by decide) ?_
  refine R_p d171_850 rfl rfl ?_
  refine R_nv (v := _) (v' := 2) (by decide) ?_
  refine R_sldk (n := 2) (x := (f 2)) d171_851 (vp_ok (by decide)) (by decide) rfl ?_
  refine R_p d171_852 rfl rfl ?_
  refine R_p d171_853 rfl rfl ?_
  refine R_ic (v := 3) d171_855 (by decide) ?_
  refine R_p d171_856 rfl rfl ?_
  refine R_nv (v := _) (v' := 3) (by decide) ?_
  refine R_sldk (n := 3) (x := (f 3)) d171_857 (vp_ok (by decide)) (by decide) rfl ?_
  refine R_p d171_858 rfl rfl ?_
  refine R_p d171_859 rfl rfl ?_
  refine R_ic (v := 4) d171_861 (by decide) ?_
  refine R_p d171_862 rfl rfl ?_
  refine R_nv (v := _) (v' := 4) (by decide) ?_
  refine R_sldk (n := 4) (x := (f 4)) d171_863 (vp_ok (by decide)) (by decide) rfl ?_
  refine R_cm [.int (f 1), .int (f 2), .int (f 3), .int (f 4)] d171_864 (List.mem_of_getElem? (i := 194) rfl) rfl ⟨by decide, by decide, Nat.le_of_ble_eq_true rfl, rfl, mcd147⟩ rfl rfl (Nat.le_of_ble_eq_true rfl) rfl rfl (w222 (f := f) h0 h1 h2 h3 h4 h5) ?_
  refine R_p (ls' := [(0, .ref 0), (1, .ref 16), (2, .ref 42), (3, .ref 53), (4, .int 0), (5, .int 1), (6, .int 0)]) d171_867 rfl rfl ?_
  refine R_p d171_869 rfl rfl ?_
  refine R_cm [] d171_870 (List.mem_of_getElem? (i := 160) rfl) rfl ⟨by decide, by decide, Nat.le_of_ble_eq_true rfl, rfl, mcd113⟩ rfl rfl (Nat.le_of_ble_eq_true rfl) rfl rfl (w8 (f := f)) ?_
  refine R_p d171_873 rfl rfl ?_
  refine R_br 880 d171_875 (mb_t (b := ((1 : Int32) = (1 : Int32))) (by decide)) rfl ?_
  refine R_p d171_880 rfl rfl ?_
  refine R_br 897 d171_882 (mb_t (b := (¬ (1 : Int32) = (0 : Int32))) (by decide)) rfl ?_
  refine R_br 950 d171_897 rfl rfl ?_
  refine R_p (ls' := [(0, .ref 0), (1, .ref 16), (2, .ref 42), (3, .ref 53), (4, .int 5), (5, .int 1), (6, .int 0)]) d171_950 rfl rfl ?_
  refine R_br 23 d171_953 rfl rfl ?_
  refine R_p d171_23 rfl rfl ?_
  refine R_p d171_25 rfl rfl ?_
  refine R_sln d171_26 ?_
  refine R_nv (v := _) (v' := 5) (show Int32.ofNat 5 = 5 from by decide) ?_
  refine R_ic (v := 5) d171_27 (by decide) ?_
  refine R_p d171_28 rfl rfl ?_
  refine R_nv (v := _) (v' := 0) (by decide) ?_
  refine R_br 956 d171_29 (mb_t (b := ((0 : Int32) < (5 : Int32))) (by decide)) rfl ?_
  refine R_ic (v := 1) d171_956 (by decide) ?_
  exact R_iret d171_957 rfl rfl rfl
set_option maxRecDepth 4000 in
theorem w224 {f : Nat → Int32} (h4 : ¬ ((f 3) < (-536870911))) (h5 : ¬ (536870911 < (f 3))) (h6 : ((f 4) < (-536870911))) : RunsP 97 (0, [(0, .ref 16), (1, .int (f 3)), (2, .int (f 4))], [], HL0) (.inr 54, HJ1) := by
  refine Q_p d97_0 rfl rfl ?_
  refine Q_ci (v := (-536870911)) 369 d97_1 (List.mem_of_getElem? (i := 0) rfl) ?_
  refine Q_nb d97_3 rfl (mb_f (b := ((f 3) < (-536870911))) h4) ?_
  refine Q_p d97_6 rfl rfl ?_
  refine Q_ci (v := 536870911) 370 d97_7 (List.mem_of_getElem? (i := 1) rfl) ?_
  refine Q_nb d97_9 rfl (mb_f (b := (536870911 < (f 3))) h5) ?_
  refine Q_p d97_12 rfl rfl ?_
  refine Q_ci (v := (-536870911)) 369 d97_13 (List.mem_of_getElem? (i := 0) rfl) ?_
  refine Q_br 24 d97_15 (mb_t (b := ((f 4) < (-536870911))) h6) rfl ?_
  exact Q_thr 1 d97_24 d97_27 d97_28 d97_30 d97_33 rfl (List.mem_of_getElem? (i := 2) rfl) rfl (by decide) (by decide)
set_option maxRecDepth 4000 in
theorem w225 {f : Nat → Int32} (h0 : ¬ ((f 1) < (-536870911))) (h1 : ¬ (536870911 < (f 1))) (h2 : ¬ ((f 2) < (-536870911))) (h3 : ¬ (536870911 < (f 2))) (h4 : ¬ ((f 3) < (-536870911))) (h5 : ¬ (536870911 < (f 3))) (h6 : ((f 4) < (-536870911))) : Run (5, f) 111 (0, [(0, .ref 16), (1, .int (f 1)), (2, .int (f 2)), (3, .int (f 3)), (4, .int (f 4))], [], HL0) (.inr 54, HJ1) := by
  refine R_p d111_0 rfl rfl ?_
  refine R_p d111_1 rfl rfl ?_
  refine R_p d111_2 rfl rfl ?_
  refine R_cm [.int (f 1), .int (f 2)] d111_3 (List.mem_of_getElem? (i := 30) rfl) rfl ⟨by decide, by decide, Nat.le_of_ble_eq_true rfl, rfl, mcd97⟩ rfl rfl (Nat.le_of_ble_eq_true rfl) rfl rfl (w32 (f := f) h0 h1 h2 h3) ?_
  refine R_p d111_6 rfl rfl ?_
  refine R_p d111_7 rfl rfl ?_
  refine R_p d111_8 rfl rfl ?_
  exact R_tv [.int (f 3), .int (f 4)] d111_10 (List.mem_of_getElem? (i := 30) rfl) ⟨by decide, by decide, Nat.le_of_ble_eq_true rfl, mcd97⟩ rfl rfl (Nat.le_of_ble_eq_true rfl) rfl rfl rfl (Or.inr (w224 (f := f) h4 h5 h6))
set_option maxRecDepth 4000 in
theorem w226 {f : Nat → Int32} (h0 : ¬ ((f 1) < (-536870911))) (h1 : ¬ (536870911 < (f 1))) (h2 : ¬ ((f 2) < (-536870911))) (h3 : ¬ (536870911 < (f 2))) (h4 : ¬ ((f 3) < (-536870911))) (h5 : ¬ (536870911 < (f 3))) (h6 : ((f 4) < (-536870911))) : Run (5, f) 166 (0, [(0, .ref 16), (1, .int (f 1)), (2, .int (f 2)), (3, .int (f 3)), (4, .int (f 4)), (5, .ref 53)], [], HL0) (.inl (some (.int 1)), HJ1) := by
  refine R_p d166_0 rfl rfl ?_
  refine R_ic (v := 0) d166_2 (by decide) ?_
  refine R_p d166_3 rfl rfl ?_
  refine R_p d166_4 rfl rfl ?_
  refine R_p d166_5 rfl rfl ?_
  refine R_p d166_6 rfl rfl ?_
  refine R_p d166_7 rfl rfl ?_
  refine R_tc [.int (f 1), .int (f 2), .int (f 3), .int (f 4)] d166_9 (List.mem_of_getElem? (i := 128) rfl) ⟨by decide, by decide, Nat.le_of_ble_eq_true rfl, mcd111⟩ rfl rfl (Nat.le_of_ble_eq_true rfl) rfl rfl rfl (cx := 10) (hp := 17) rfl (by decide) (by decide) (by decide) (Or.inl (w225 (f := f) h0 h1 h2 h3 h4 h5 h6)) ?_
  refine R_p (ls' := [(0, .ref 16), (1, .int (f 1)), (2, .int (f 2)), (3, .int (f 3)), (4, .int (f 4)), (5, .ref 53), (6, .ref 54)]) d166_17 rfl rfl ?_
  refine R_ic (v := 1) d166_19 (by decide) ?_
  exact R_iret d166_20 rfl rfl rfl
set_option maxRecDepth 4000 in
theorem w227 {f : Nat → Int32} (h4 : ¬ ((f 3) < (-536870911))) (h5 : ¬ (536870911 < (f 3))) : Run (5, f) 116 (0, [(0, .int (f 3)), (1, .int (-536870911)), (2, .int 536870911)], [], HJ1) (.inl (some (.int 1)), HJ1) := by
  refine R_p d116_0 rfl rfl ?_
  refine R_p d116_1 rfl rfl ?_
  refine R_nb d116_2 rfl (mb_f (b := ((f 3) < (-536870911))) h4) ?_
  refine R_p d116_5 rfl rfl ?_
  refine R_p d116_6 rfl rfl ?_
  refine R_nb d116_7 rfl (mb_f (b := (536870911 < (f 3))) h5) ?_
  refine R_ic (v := 1) d116_10 (by decide) ?_
  refine R_br 15 d116_11 rfl rfl ?_
  exact R_iret d116_15 rfl rfl rfl
set_option maxRecDepth 4000 in
theorem w228 {f : Nat → Int32} (h6 : ((f 4) < (-536870911))) : Run (5, f) 116 (0, [(0, .int (f 4)), (1, .int (-536870911)), (2, .int 536870911)], [], HJ1) (.inl (some (.int 0)), HJ1) := by
  refine R_p d116_0 rfl rfl ?_
  refine R_p d116_1 rfl rfl ?_
  refine R_br 14 d116_2 (mb_t (b := ((f 4) < (-536870911))) h6) rfl ?_
  refine R_ic (v := 0) d116_14 (by decide) ?_
  exact R_iret d116_15 rfl rfl rfl
set_option maxRecDepth 4000 in
theorem w229 {f : Nat → Int32} (h4 : ¬ ((f 3) < (-536870911))) (h5 : ¬ (536870911 < (f 3))) (h6 : ((f 4) < (-536870911))) : Run (5, f) 115 (0, [(0, .int (f 3)), (1, .int (f 4))], [], HJ1) (.inl (some (.int 0)), HJ1) := by
  refine R_p d115_0 rfl rfl ?_
  refine R_ci (v := (-536870911)) 959 d115_1 (List.mem_of_getElem? (i := 4) rfl) ?_
  refine R_ci (v := 536870911) 960 d115_3 (List.mem_of_getElem? (i := 5) rfl) ?_
  refine R_cs [.int (f 3), .int (-536870911), .int 536870911] d115_5 (List.mem_of_getElem? (i := 163) rfl) rfl ⟨by decide, by decide, Nat.le_of_ble_eq_true rfl, rfl, mcd116⟩ rfl rfl (Nat.le_of_ble_eq_true rfl) (w227 (f := f) h4 h5) ?_
  refine R_nb d115_8 rfl (mb_f (b := ((1 : Int32) = (0 : Int32))) (by decide)) ?_
  refine R_p d115_11 rfl rfl ?_
  refine R_ci (v := (-536870911)) 959 d115_12 (List.mem_of_getElem? (i := 4) rfl) ?_
  refine R_ci (v := 536870911) 960 d115_14 (List.mem_of_getElem? (i := 5) rfl) ?_
  refine R_cs [.int (f 4), .int (-536870911), .int 536870911] d115_16 (List.mem_of_getElem? (i := 163) rfl) rfl ⟨by decide, by decide, Nat.le_of_ble_eq_true rfl, rfl, mcd116⟩ rfl rfl (Nat.le_of_ble_eq_true rfl) (w228 (f := f) h6) ?_
  refine R_br 26 d115_19 (mb_t (b := ((0 : Int32) = (0 : Int32))) (by decide)) rfl ?_
  refine R_ic (v := 0) d115_26 (by decide) ?_
  exact R_iret d115_27 rfl rfl rfl
set_option maxRecDepth 4000 in
theorem w230 {f : Nat → Int32} (h0 : ¬ ((f 1) < (-536870911))) (h1 : ¬ (536870911 < (f 1))) (h2 : ¬ ((f 2) < (-536870911))) (h3 : ¬ (536870911 < (f 2))) (h4 : ¬ ((f 3) < (-536870911))) (h5 : ¬ (536870911 < (f 3))) (h6 : ((f 4) < (-536870911))) : Run (5, f) 147 (0, [(0, .ref 42), (1, .int (f 1)), (2, .int (f 2)), (3, .int (f 3)), (4, .int (f 4))], [], HJ1) (.inl (some (.int 0)), HJ2) := by
  refine R_p d147_0 rfl rfl ?_
  refine R_p d147_1 rfl rfl ?_
  refine R_p d147_2 rfl rfl ?_
  refine R_cs [.int (f 1), .int (f 2)] d147_3 (List.mem_of_getElem? (i := 162) rfl) rfl ⟨by decide, by decide, Nat.le_of_ble_eq_true rfl, rfl, mcd115⟩ rfl rfl (Nat.le_of_ble_eq_true rfl) (w212 (f := f) h0 h1 h2 h3) ?_
  refine R_nb d147_6 rfl (mb_f (b := ((1 : Int32) = (0 : Int32))) (by decide)) ?_
  refine R_p d147_9 rfl rfl ?_
  refine R_p d147_10 rfl rfl ?_
  refine R_cs [.int (f 3), .int (f 4)] d147_12 (List.mem_of_getElem? (i := 162) rfl) rfl ⟨by decide, by decide, Nat.le_of_ble_eq_true rfl, rfl, mcd115⟩ rfl rfl (Nat.le_of_ble_eq_true rfl) (w229 (f := f) h4 h5 h6) ?_
  refine R_br 22 d147_15 (mb_t (b := ((0 : Int32) = (0 : Int32))) (by decide)) rfl ?_
  refine R_ic (v := 1) d147_22 (by decide) ?_
  refine R_cm [.int 1] d147_23 (List.mem_of_getElem? (i := 164) rfl) rfl ⟨by decide, by decide, Nat.le_of_ble_eq_true rfl, rfl, mcd117⟩ rfl rfl (Nat.le_of_ble_eq_true rfl) rfl rfl (w6 (f := f)) ?_
  refine R_nb d147_26 rfl (mb_f (b := ((1 : Int32) = (0 : Int32))) (by decide)) ?_
  refine R_ic (v := 0) d147_29 (by decide) ?_
  exact R_iret d147_30 rfl rfl rfl
set_option maxRecDepth 4000 in
theorem law808_231 {f : Nat → Int32} (h0 : ¬ ((f 1) < (-536870911))) (h1 : ¬ (536870911 < (f 1))) (h2 : ¬ ((f 2) < (-536870911))) (h3 : ¬ (536870911 < (f 2))) (h4 : ¬ ((f 3) < (-536870911))) (h5 : ¬ (536870911 < (f 3))) (h6 : ((f 4) < (-536870911))) : Run (5, f) 171 (808, [(0, .ref 0), (1, .ref 16), (2, .ref 42), (3, .ref 53), (4, .int 0)], [], HL0) (.inl (some (.int 1)), HJ2) := by
  refine R_p d171_808 rfl rfl ?_
  refine R_p d171_809 rfl rfl ?_
  refine R_p d171_810 rfl rfl ?_
  refine R_ic (v := 1) d171_812 (by decide) ?_
  refine R_p d171_813 rfl rfl ?_
  refine R_nv (v := _) (v' := 1) (by decide) ?_
  refine R_sldk (n := 1) (x := (f 1)) d171_814 (vp_ok (by decide)) (by decide) rfl ?_
  refine R_p d171_815 rfl rfl ?_
  refine R_p d171_816 rfl rfl ?_
  refine R_ic (v := 2) d171_818 (by decide) ?_
  refine R_p d171_819 rfl rfl ?_
  refine R_nv (v := _) (v' := 2) (by decide) ?_
  refine R_sldk (n := 2) (x := (f 2)) d171_820 (vp_ok (by decide)) (by decide) rfl ?_
  refine R_p d171_821 rfl rfl ?_
  refine R_p d171_822 rfl rfl ?_
  refine R_ic (v := 3) d171_824 (by decide) ?_
  refine R_p d171_825 rfl rfl ?_
  refine R_nv (v := _) (v' := 3) (by decide) ?_
  refine R_sldk (n := 3) (x := (f 3)) d171_826 (vp_ok (by decide)) (by decide) rfl ?_
  refine R_p d171_827 rfl rfl ?_
  refine R_p d171_828 rfl rfl ?_
  refine R_ic (v := 4) d171_830 (by decide) ?_
  refine R_p d171_831 rfl rfl ?_
  refine R_nv (v := _) (v' := 4) (by decide) ?_
  refine R_sldk (n := 4) (x := (f 4)) d171_832 (vp_ok (by decide)) (by decide) rfl ?_
  refine R_p d171_833 rfl rfl ?_
  refine R_hs [.ref 16, .int (f 1), .int (f 2), .int (f 3), .int (f 4), .ref 53] d171_834 (List.mem_of_getElem? (i := 127) rfl) ⟨by decide, by decide, Nat.le_of_ble_eq_true rfl, mcd166⟩ rfl rfl (Nat.le_of_ble_eq_true rfl) (w226 (f := f) h0 h1 h2 h3 h4 h5 h6) ?_
  refine R_p (ls' := [(0, .ref 0), (1, .ref 16), (2, .ref 42), (3, .ref 53), (4, .int 0), (5, .int 1)]) d171_837 rfl rfl ?_
  refine R_p d171_839 rfl rfl ?_
  refine R_p d171_840 rfl rfl ?_
  refine R_p d171_841 rfl rfl ?_
  refine R_ic (v := 1) d171_843 (by decide) ?_
  refine R_p d171_844 rfl rfl ?_
  refine R_nv (v := _) (v' := 1) (by decide) ?_
  refine R_sldk (n := 1) (x := (f 1)) d171_845 (vp_ok (by decide)) (by decide) rfl ?_
  refine R_p d171_846 rfl rfl ?_
  refine R_p d171_847 rfl rfl ?_
  refine R_ic (v := 2) d171_849 (by decide) ?_
  refine R_p d171_850 rfl rfl ?_
  refine R_nv (v := _) (v' := 2) (by decide) ?_
  refine R_sldk (n := 2) (x := (f 2)) d171_851 (vp_ok (by decide)) (by decide) rfl ?_
  refine R_p d171_852 rfl rfl ?_
  refine R_p d171_853 rfl rfl ?_
  refine R_ic (v := 3) d171_855 (by decide) ?_
  refine R_p d171_856 rfl rfl ?_
  refine R_nv (v := _) (v' := 3) (by decide) ?_
  refine R_sldk (n := 3) (x := (f 3)) d171_857 (vp_ok (by decide)) (by decide) rfl ?_
  refine R_p d171_858 rfl rfl ?_
  refine R_p d171_859 rfl rfl ?_
  refine R_ic (v := 4) d171_861 (by decide) ?_
  refine R_p d171_862 rfl rfl ?_
  refine R_nv (v := _) (v' := 4) (by decide) ?_
  refine R_sldk (n := 4) (x := (f 4)) d171_863 (vp_ok (by decide)) (by decide) rfl ?_
  refine R_cm [.int (f 1), .int (f 2), .int (f 3), .int (f 4)] d171_864 (List.mem_of_getElem? (i := 194) rfl) rfl ⟨by decide, by decide, Nat.le_of_ble_eq_true rfl, rfl, mcd147⟩ rfl rfl (Nat.le_of_ble_eq_true rfl) rfl rfl (w230 (f := f) h0 h1 h2 h3 h4 h5 h6) ?_
  refine R_p (ls' := [(0, .ref 0), (1, .ref 16), (2, .ref 42), (3, .ref 53), (4, .int 0), (5, .int 1), (6, .int 0)]) d171_867 rfl rfl ?_
  refine R_p d171_869 rfl rfl ?_
  refine R_cm [] d171_870 (List.mem_of_getElem? (i := 160) rfl) rfl ⟨by decide, by decide, Nat.le_of_ble_eq_true rfl, rfl, mcd113⟩ rfl rfl (Nat.le_of_ble_eq_true rfl) rfl rfl (w8 (f := f)) ?_
  refine R_p d171_873 rfl rfl ?_
  refine R_br 880 d171_875 (mb_t (b := ((1 : Int32) = (1 : Int32))) (by decide)) rfl ?_
  refine R_p d171_880 rfl rfl ?_
  refine R_br 897 d171_882 (mb_t (b := (¬ (1 : Int32) = (0 : Int32))) (by decide)) rfl ?_
  refine R_br 950 d171_897 rfl rfl ?_
  refine R_p (ls' := [(0, .ref 0), (1, .ref 16), (2, .ref 42), (3, .ref 53), (4, .int 5), (5, .int 1), (6, .int 0)]) d171_950 rfl rfl ?_
  refine R_br 23 d171_953 rfl rfl ?_
  refine R_p d171_23 rfl rfl ?_
  refine R_p d171_25 rfl rfl ?_
  refine R_sln d171_26 ?_
  refine R_nv (v := _) (v' := 5) (show Int32.ofNat 5 = 5 from by decide) ?_
  refine R_ic (v := 5) d171_27 (by decide) ?_
  refine R_p d171_28 rfl rfl ?_
  refine R_nv (v := _) (v' := 0) (by decide) ?_
  refine R_br 956 d171_29 (mb_t (b := ((0 : Int32) < (5 : Int32))) (by decide)) rfl ?_
  refine R_ic (v := 1) d171_956 (by decide) ?_
  exact R_iret d171_957 rfl rfl rfl
set_option maxRecDepth 4000 in
theorem w232 {f : Nat → Int32} (h4 : ¬ ((f 3) < (-536870911))) (h5 : ¬ (536870911 < (f 3))) (h6 : ¬ ((f 4) < (-536870911))) (h7 : (536870911 < (f 4))) : RunsP 97 (0, [(0, .ref 16), (1, .int (f 3)), (2, .int (f 4))], [], HL0) (.inr 54, HJ1) := by
  refine Q_p d97_0 rfl rfl ?_
  refine Q_ci (v := (-536870911)) 369 d97_1 (List.mem_of_getElem? (i := 0) rfl) ?_
  refine Q_nb d97_3 rfl (mb_f (b := ((f 3) < (-536870911))) h4) ?_
  refine Q_p d97_6 rfl rfl ?_
  refine Q_ci (v := 536870911) 370 d97_7 (List.mem_of_getElem? (i := 1) rfl) ?_
  refine Q_nb d97_9 rfl (mb_f (b := (536870911 < (f 3))) h5) ?_
  refine Q_p d97_12 rfl rfl ?_
  refine Q_ci (v := (-536870911)) 369 d97_13 (List.mem_of_getElem? (i := 0) rfl) ?_
  refine Q_nb d97_15 rfl (mb_f (b := ((f 4) < (-536870911))) h6) ?_
  refine Q_p d97_18 rfl rfl ?_
  refine Q_ci (v := 536870911) 370 d97_19 (List.mem_of_getElem? (i := 1) rfl) ?_
  refine Q_nb d97_21 rfl (mb_f (b := ((f 4) ≤ 536870911)) (fun q => Int32.not_lt.mpr q h7)) ?_
  exact Q_thr 1 d97_24 d97_27 d97_28 d97_30 d97_33 rfl (List.mem_of_getElem? (i := 2) rfl) rfl (by decide) (by decide)
set_option maxRecDepth 4000 in
theorem w233 {f : Nat → Int32} (h0 : ¬ ((f 1) < (-536870911))) (h1 : ¬ (536870911 < (f 1))) (h2 : ¬ ((f 2) < (-536870911))) (h3 : ¬ (536870911 < (f 2))) (h4 : ¬ ((f 3) < (-536870911))) (h5 : ¬ (536870911 < (f 3))) (h6 : ¬ ((f 4) < (-536870911))) (h7 : (536870911 < (f 4))) : Run (5, f) 111 (0, [(0, .ref 16), (1, .int (f 1)), (2, .int (f 2)), (3, .int (f 3)), (4, .int (f 4))], [], HL0) (.inr 54, HJ1) := by
  refine R_p d111_0 rfl rfl ?_
  refine R_p d111_1 rfl rfl ?_
  refine R_p d111_2 rfl rfl ?_
  refine R_cm [.int (f 1), .int (f 2)] d111_3 (List.mem_of_getElem? (i := 30) rfl) rfl ⟨by decide, by decide, Nat.le_of_ble_eq_true rfl, rfl, mcd97⟩ rfl rfl (Nat.le_of_ble_eq_true rfl) rfl rfl (w32 (f := f) h0 h1 h2 h3) ?_
  refine R_p d111_6 rfl rfl ?_
  refine R_p d111_7 rfl rfl ?_
  refine R_p d111_8 rfl rfl ?_
  exact R_tv [.int (f 3), .int (f 4)] d111_10 (List.mem_of_getElem? (i := 30) rfl) ⟨by decide, by decide, Nat.le_of_ble_eq_true rfl, mcd97⟩ rfl rfl (Nat.le_of_ble_eq_true rfl) rfl rfl rfl (Or.inr (w232 (f := f) h4 h5 h6 h7))
set_option maxRecDepth 4000 in
theorem w234 {f : Nat → Int32} (h0 : ¬ ((f 1) < (-536870911))) (h1 : ¬ (536870911 < (f 1))) (h2 : ¬ ((f 2) < (-536870911))) (h3 : ¬ (536870911 < (f 2))) (h4 : ¬ ((f 3) < (-536870911))) (h5 : ¬ (536870911 < (f 3))) (h6 : ¬ ((f 4) < (-536870911))) (h7 : (536870911 < (f 4))) : Run (5, f) 166 (0, [(0, .ref 16), (1, .int (f 1)), (2, .int (f 2)), (3, .int (f 3)), (4, .int (f 4)), (5, .ref 53)], [], HL0) (.inl (some (.int 1)), HJ1) := by
  refine R_p d166_0 rfl rfl ?_
  refine R_ic (v := 0) d166_2 (by decide) ?_
  refine R_p d166_3 rfl rfl ?_
  refine R_p d166_4 rfl rfl ?_
  refine R_p d166_5 rfl rfl ?_
  refine R_p d166_6 rfl rfl ?_
  refine R_p d166_7 rfl rfl ?_
  refine R_tc [.int (f 1), .int (f 2), .int (f 3), .int (f 4)] d166_9 (List.mem_of_getElem? (i := 128) rfl) ⟨by decide, by decide, Nat.le_of_ble_eq_true rfl, mcd111⟩ rfl rfl (Nat.le_of_ble_eq_true rfl) rfl rfl rfl (cx := 10) (hp := 17) rfl (by decide) (by decide) (by decide) (Or.inl (w233 (f := f) h0 h1 h2 h3 h4 h5 h6 h7)) ?_
  refine R_p (ls' := [(0, .ref 16), (1, .int (f 1)), (2, .int (f 2)), (3, .int (f 3)), (4, .int (f 4)), (5, .ref 53), (6, .ref 54)]) d166_17 rfl rfl ?_
  refine R_ic (v := 1) d166_19 (by decide) ?_
  exact R_iret d166_20 rfl rfl rfl
set_option maxRecDepth 4000 in
theorem w235 {f : Nat → Int32} (h6 : ¬ ((f 4) < (-536870911))) (h7 : (536870911 < (f 4))) : Run (5, f) 116 (0, [(0, .int (f 4)), (1, .int (-536870911)), (2, .int 536870911)], [], HJ1) (.inl (some (.int 0)), HJ1) := by
  refine R_p d116_0 rfl rfl ?_
  refine R_p d116_1 rfl rfl ?_
  refine R_nb d116_2 rfl (mb_f (b := ((f 4) < (-536870911))) h6) ?_
  refine R_p d116_5 rfl rfl ?_
  refine R_p d116_6 rfl rfl ?_
  refine R_br 14 d116_7 (mb_t (b := (536870911 < (f 4))) h7) rfl ?_
  refine R_ic (v := 0) d116_14 (by decide) ?_
  exact R_iret d116_15 rfl rfl rfl
set_option maxRecDepth 4000 in
theorem w236 {f : Nat → Int32} (h4 : ¬ ((f 3) < (-536870911))) (h5 : ¬ (536870911 < (f 3))) (h6 : ¬ ((f 4) < (-536870911))) (h7 : (536870911 < (f 4))) : Run (5, f) 115 (0, [(0, .int (f 3)), (1, .int (f 4))], [], HJ1) (.inl (some (.int 0)), HJ1) := by
  refine R_p d115_0 rfl rfl ?_
  refine R_ci (v := (-536870911)) 959 d115_1 (List.mem_of_getElem? (i := 4) rfl) ?_
  refine R_ci (v := 536870911) 960 d115_3 (List.mem_of_getElem? (i := 5) rfl) ?_
  refine R_cs [.int (f 3), .int (-536870911), .int 536870911] d115_5 (List.mem_of_getElem? (i := 163) rfl) rfl ⟨by decide, by decide, Nat.le_of_ble_eq_true rfl, rfl, mcd116⟩ rfl rfl (Nat.le_of_ble_eq_true rfl) (w227 (f := f) h4 h5) ?_
  refine R_nb d115_8 rfl (mb_f (b := ((1 : Int32) = (0 : Int32))) (by decide)) ?_
  refine R_p d115_11 rfl rfl ?_
  refine R_ci (v := (-536870911)) 959 d115_12 (List.mem_of_getElem? (i := 4) rfl) ?_
  refine R_ci (v := 536870911) 960 d115_14 (List.mem_of_getElem? (i := 5) rfl) ?_
  refine R_cs [.int (f 4), .int (-536870911), .int 536870911] d115_16 (List.mem_of_getElem? (i := 163) rfl) rfl ⟨by decide, by decide, Nat.le_of_ble_eq_true rfl, rfl, mcd116⟩ rfl rfl (Nat.le_of_ble_eq_true rfl) (w235 (f := f) h6 h7) ?_
  refine R_br 26 d115_19 (mb_t (b := ((0 : Int32) = (0 : Int32))) (by decide)) rfl ?_
  refine R_ic (v := 0) d115_26 (by decide) ?_
  exact R_iret d115_27 rfl rfl rfl
set_option maxRecDepth 4000 in
theorem w237 {f : Nat → Int32} (h0 : ¬ ((f 1) < (-536870911))) (h1 : ¬ (536870911 < (f 1))) (h2 : ¬ ((f 2) < (-536870911))) (h3 : ¬ (536870911 < (f 2))) (h4 : ¬ ((f 3) < (-536870911))) (h5 : ¬ (536870911 < (f 3))) (h6 : ¬ ((f 4) < (-536870911))) (h7 : (536870911 < (f 4))) : Run (5, f) 147 (0, [(0, .ref 42), (1, .int (f 1)), (2, .int (f 2)), (3, .int (f 3)), (4, .int (f 4))], [], HJ1) (.inl (some (.int 0)), HJ2) := by
  refine R_p d147_0 rfl rfl ?_
  refine R_p d147_1 rfl rfl ?_
  refine R_p d147_2 rfl rfl ?_
  refine R_cs [.int (f 1), .int (f 2)] d147_3 (List.mem_of_getElem? (i := 162) rfl) rfl ⟨by decide, by decide, Nat.le_of_ble_eq_true rfl, rfl, mcd115⟩ rfl rfl (Nat.le_of_ble_eq_true rfl) (w212 (f := f) h0 h1 h2 h3) ?_
  refine R_nb d147_6 rfl (mb_f (b := ((1 : Int32) = (0 : Int32))) (by decide)) ?_
  refine R_p d147_9 rfl rfl ?_
  refine R_p d147_10 rfl rfl ?_
  refine R_cs [.int (f 3), .int (f 4)] d147_12 (List.mem_of_getElem? (i := 162) rfl) rfl ⟨by decide, by decide, Nat.le_of_ble_eq_true rfl, rfl, mcd115⟩ rfl rfl (Nat.le_of_ble_eq_true rfl) (w236 (f := f) h4 h5 h6 h7) ?_
  refine R_br 22 d147_15 (mb_t (b := ((0 : Int32) = (0 : Int32))) (by decide)) rfl ?_
  refine R_ic (v := 1) d147_22 (by decide) ?_
  refine R_cm [.int 1] d147_23 (List.mem_of_getElem? (i := 164) rfl) rfl ⟨by decide, by decide, Nat.le_of_ble_eq_true rfl, rfl, mcd117⟩ rfl rfl (Nat.le_of_ble_eq_true rfl) rfl rfl (w6 (f := f)) ?_
  refine R_nb d147_26 rfl (mb_f (b := ((1 : Int32) = (0 : Int32))) (by decide)) ?_
  refine R_ic (v := 0) d147_29 (by decide) ?_
  exact R_iret d147_30 rfl rfl rfl
set_option maxRecDepth 4000 in
theorem law808_238 {f : Nat → Int32} (h0 : ¬ ((f 1) < (-536870911))) (h1 : ¬ (536870911 < (f 1))) (h2 : ¬ ((f 2) < (-536870911))) (h3 : ¬ (536870911 < (f 2))) (h4 : ¬ ((f 3) < (-536870911))) (h5 : ¬ (536870911 < (f 3))) (h6 : ¬ ((f 4) < (-536870911))) (h7 : (536870911 < (f 4))) : Run (5, f) 171 (808, [(0, .ref 0), (1, .ref 16), (2, .ref 42), (3, .ref 53), (4, .int 0)], [], HL0) (.inl (some (.int 1)), HJ2) := by
  refine R_p d171_808 rfl rfl ?_
  refine R_p d171_809 rfl rfl ?_
  refine R_p d171_810 rfl rfl ?_
  refine R_ic (v := 1) d171_812 (by decide) ?_
  refine R_p d171_813 rfl rfl ?_
  refine R_nv (v := _) (v' := 1) (by decide) ?_
  refine R_sldk (n := 1) (x := (f 1)) d171_814 (vp_ok (by decide)) (by decide) rfl ?_
  refine R_p d171_815 rfl rfl ?_
  refine R_p d171_816 rfl rfl ?_
  refine R_ic (v := 2) d171_818 (by decide) ?_
  refine R_p d171_819 rfl rfl ?_
  refine R_nv (v := _) (v' := 2) (by decide) ?_
  refine R_sldk (n := 2) (x := (f 2)) d171_820 (vp_ok (by decide)) (by decide) rfl ?_
  refine R_p d171_821 rfl rfl ?_
  refine R_p d171_822 rfl rfl ?_
  refine R_ic (v := 3) d171_824 (by decide) ?_
  refine R_p d171_825 rfl rfl ?_
  refine R_nv (v := _) (v' := 3) (by decide) ?_
  refine R_sldk (n := 3) (x := (f 3)) d171_826 (vp_ok (by decide)) (by decide) rfl ?_
  refine R_p d171_827 rfl rfl ?_
  refine R_p d171_828 rfl rfl ?_
  refine R_ic (v := 4) d171_830 (by decide) ?_
  refine R_p d171_831 rfl rfl ?_
  refine R_nv (v := _) (v' := 4) (by decide) ?_
  refine R_sldk (n := 4) (x := (f 4)) d171_832 (vp_ok (by decide)) (by decide) rfl ?_
  refine R_p d171_833 rfl rfl ?_
  refine R_hs [.ref 16, .int (f 1), .int (f 2), .int (f 3), .int (f 4), .ref 53] d171_834 (List.mem_of_getElem? (i := 127) rfl) ⟨by decide, by decide, Nat.le_of_ble_eq_true rfl, mcd166⟩ rfl rfl (Nat.le_of_ble_eq_true rfl) (w234 (f := f) h0 h1 h2 h3 h4 h5 h6 h7) ?_
  refine R_p (ls' := [(0, .ref 0), (1, .ref 16), (2, .ref 42), (3, .ref 53), (4, .int 0), (5, .int 1)]) d171_837 rfl rfl ?_
  refine R_p d171_839 rfl rfl ?_
  refine R_p d171_840 rfl rfl ?_
  refine R_p d171_841 rfl rfl ?_
  refine R_ic (v := 1) d171_843 (by decide) ?_
  refine R_p d171_844 rfl rfl ?_
  refine R_nv (v := _) (v' := 1) (by decide) ?_
  refine R_sldk (n := 1) (x := (f 1)) d171_845 (vp_ok (by decide)) (by decide) rfl ?_
  refine R_p d171_846 rfl rfl ?_
  refine R_p d171_847 rfl rfl ?_
  refine R_ic (v := 2) d171_849 (by decide) ?_
  refine R_p d171_850 rfl rfl ?_
  refine R_nv (v := _) (v' := 2) (by decide) ?_
  refine R_sldk (n := 2) (x := (f 2)) d171_851 (vp_ok (by decide)) (by decide) rfl ?_
  refine R_p d171_852 rfl rfl ?_
  refine R_p d171_853 rfl rfl ?_
  refine R_ic (v := 3) d171_855 (by decide) ?_
  refine R_p d171_856 rfl rfl ?_
  refine R_nv (v := _) (v' := 3) (by decide) ?_
  refine R_sldk (n := 3) (x := (f 3)) d171_857 (vp_ok (by decide)) (by decide) rfl ?_
  refine R_p d171_858 rfl rfl ?_
  refine R_p d171_859 rfl rfl ?_
  refine R_ic (v := 4) d171_861 (by decide) ?_
  refine R_p d171_862 rfl rfl ?_
  refine R_nv (v := _) (v' := 4) (by decide) ?_
  refine R_sldk (n := 4) (x := (f 4)) d171_863 (vp_ok (by decide)) (by decide) rfl ?_
  refine R_cm [.int (f 1), .int (f 2), .int (f 3), .int (f 4)] d171_864 (List.mem_of_getElem? (i := 194) rfl) rfl ⟨by decide, by decide, Nat.le_of_ble_eq_true rfl, rfl, mcd147⟩ rfl rfl (Nat.le_of_ble_eq_true rfl) rfl rfl (w237 (f := f) h0 h1 h2 h3 h4 h5 h6 h7) ?_
  refine R_p (ls' := [(0, .ref 0), (1, .ref 16), (2, .ref 42), (3, .ref 53), (4, .int 0), (5, .int 1), (6, .int 0)]) d171_867 rfl rfl ?_
  refine R_p d171_869 rfl rfl ?_
  refine R_cm [] d171_870 (List.mem_of_getElem? (i := 160) rfl) rfl ⟨by decide, by decide, Nat.le_of_ble_eq_true rfl, rfl, mcd113⟩ rfl rfl (Nat.le_of_ble_eq_true rfl) rfl rfl (w8 (f := f)) ?_
  refine R_p d171_873 rfl rfl ?_
  refine R_br 880 d171_875 (mb_t (b := ((1 : Int32) = (1 : Int32))) (by decide)) rfl ?_
  refine R_p d171_880 rfl rfl ?_
  refine R_br 897 d171_882 (mb_t (b := (¬ (1 : Int32) = (0 : Int32))) (by decide)) rfl ?_
  refine R_br 950 d171_897 rfl rfl ?_
  refine R_p (ls' := [(0, .ref 0), (1, .ref 16), (2, .ref 42), (3, .ref 53), (4, .int 5), (5, .int 1), (6, .int 0)]) d171_950 rfl rfl ?_
  refine R_br 23 d171_953 rfl rfl ?_
  refine R_p d171_23 rfl rfl ?_
  refine R_p d171_25 rfl rfl ?_
  refine R_sln d171_26 ?_
  refine R_nv (v := _) (v' := 5) (show Int32.ofNat 5 = 5 from by decide) ?_
  refine R_ic (v := 5) d171_27 (by decide) ?_
  refine R_p d171_28 rfl rfl ?_
  refine R_nv (v := _) (v' := 0) (by decide) ?_
  refine R_br 956 d171_29 (mb_t (b := ((0 : Int32) < (5 : Int32))) (by decide)) rfl ?_
  refine R_ic (v := 1) d171_956 (by decide) ?_
  exact R_iret d171_957 rfl rfl rfl
set_option maxRecDepth 4000 in
theorem w239 {f : Nat → Int32} (h4 : ¬ ((f 3) < (-536870911))) (h5 : ¬ (536870911 < (f 3))) (h6 : ¬ ((f 4) < (-536870911))) (h7 : ¬ (536870911 < (f 4))) : Run (5, f) 97 (0, [(0, .ref 16), (1, .int (f 3)), (2, .int (f 4))], [], HL0) (.inl none, HL0) := by
  refine R_p d97_0 rfl rfl ?_
  refine R_ci (v := (-536870911)) 369 d97_1 (List.mem_of_getElem? (i := 0) rfl) ?_
  refine R_nb d97_3 rfl (mb_f (b := ((f 3) < (-536870911))) h4) ?_
  refine R_p d97_6 rfl rfl ?_
  refine R_ci (v := 536870911) 370 d97_7 (List.mem_of_getElem? (i := 1) rfl) ?_
  refine R_nb d97_9 rfl (mb_f (b := (536870911 < (f 3))) h5) ?_
  refine R_p d97_12 rfl rfl ?_
  refine R_ci (v := (-536870911)) 369 d97_13 (List.mem_of_getElem? (i := 0) rfl) ?_
  refine R_nb d97_15 rfl (mb_f (b := ((f 4) < (-536870911))) h6) ?_
  refine R_p d97_18 rfl rfl ?_
  refine R_ci (v := 536870911) 370 d97_19 (List.mem_of_getElem? (i := 1) rfl) ?_
  refine R_br 34 d97_21 (mb_t (b := ((f 4) ≤ 536870911)) (Int32.not_lt.mp h7)) rfl ?_
  exact R_vret d97_34 rfl rfl
set_option maxRecDepth 4000 in
theorem w240 {f : Nat → Int32} : Run (5, f) 68 (0, [(0, .ref 17), (1, .int 41), (2, .int (f 3)), (3, .int (f 4))], [], (HJ17 f)) (.inl none, (HJ22 f)) := by
  refine R_p d68_0 rfl rfl ?_
  refine R_get d68_1 (Or.inl (List.mem_of_getElem? (i := 3) rfl)) rfl rfl ?_
  refine R_p d68_4 rfl rfl ?_
  refine R_p d68_5 rfl rfl ?_
  refine R_ist d68_6 rfl (vp_ok (by decide)) ?_
  refine R_p d68_7 rfl rfl ?_
  refine R_get d68_8 (Or.inl (List.mem_of_getElem? (i := 4) rfl)) rfl rfl ?_
  refine R_p d68_11 rfl rfl ?_
  refine R_p d68_12 rfl rfl ?_
  refine R_ist d68_13 rfl (vp_ok (by decide)) ?_
  exact R_vret d68_14 rfl rfl
set_option maxRecDepth 4000 in
theorem w241 {f : Nat → Int32} : Run (5, f) 50 (0, [(0, .ref 23), (1, .int 40)], [], (HJ22 f)) (.inl (some (.int (-1))), (HJ22 f)) := by
  refine R_ic (v := 0) d50_0 (by decide) ?_
  refine R_p (ls' := [(0, .ref 23), (1, .int 40), (2, .int 0)]) d50_1 rfl rfl ?_
  refine R_p d50_2 rfl rfl ?_
  refine R_p d50_3 rfl rfl ?_
  refine R_get d50_4 (Or.inl (List.mem_of_getElem? (i := 15) rfl)) rfl rfl ?_
  refine R_br 27 d50_7 (mb_t (b := ((0 : Int32) ≤ (0 : Int32))) (by decide)) rfl ?_
  refine R_ic (v := (-1)) d50_27 (by decide) ?_
  exact R_iret d50_28 rfl rfl rfl
set_option maxRecDepth 4000 in
theorem w242 {f : Nat → Int32} : Run (5, f) 50 (0, [(0, .ref 23), (1, .int 41)], [], (HJ22 f)) (.inl (some (.int (-1))), (HJ22 f)) := by
  refine R_ic (v := 0) d50_0 (by decide) ?_
  refine R_p (ls' := [(0, .ref 23), (1, .int 41), (2, .int 0)]) d50_1 rfl rfl ?_
  refine R_p d50_2 rfl rfl ?_
  refine R_p d50_3 rfl rfl ?_
  refine R_get d50_4 (Or.inl (List.mem_of_getElem? (i := 15) rfl)) rfl rfl ?_
  refine R_br 27 d50_7 (mb_t (b := ((0 : Int32) ≤ (0 : Int32))) (by decide)) rfl ?_
  refine R_ic (v := (-1)) d50_27 (by decide) ?_
  exact R_iret d50_28 rfl rfl rfl
set_option maxRecDepth 4000 in
theorem w243 {f : Nat → Int32} (h0 : ¬ ((f 1) < (-536870911))) (h1 : ¬ (536870911 < (f 1))) (h2 : ¬ ((f 2) < (-536870911))) (h3 : ¬ (536870911 < (f 2))) (h4 : ¬ ((f 3) < (-536870911))) (h5 : ¬ (536870911 < (f 3))) (h6 : ¬ ((f 4) < (-536870911))) (h7 : ¬ (536870911 < (f 4))) : Run (5, f) 111 (0, [(0, .ref 16), (1, .int (f 1)), (2, .int (f 2)), (3, .int (f 3)), (4, .int (f 4))], [], HL0) (.inl (some (.int (-1))), (HJ22 f)) := by
  refine R_p d111_0 rfl rfl ?_
  refine R_p d111_1 rfl rfl ?_
  refine R_p d111_2 rfl rfl ?_
  refine R_cm [.int (f 1), .int (f 2)] d111_3 (List.mem_of_getElem? (i := 30) rfl) rfl ⟨by decide, by decide, Nat.le_of_ble_eq_true rfl, rfl, mcd97⟩ rfl rfl (Nat.le_of_ble_eq_true rfl) rfl rfl (w32 (f := f) h0 h1 h2 h3) ?_
  refine R_p d111_6 rfl rfl ?_
  refine R_p d111_7 rfl rfl ?_
  refine R_p d111_8 rfl rfl ?_
  refine R_cm [.int (f 3), .int (f 4)] d111_10 (List.mem_of_getElem? (i := 30) rfl) rfl ⟨by decide, by decide, Nat.le_of_ble_eq_true rfl, rfl, mcd97⟩ rfl rfl (Nat.le_of_ble_eq_true rfl) rfl rfl (w239 (f := f) h4 h5 h6 h7) ?_
  refine R_p d111_13 rfl rfl ?_
  refine R_get d111_14 (Or.inl (List.mem_of_getElem? (i := 43) rfl)) rfl rfl ?_
  refine R_bi (v := 40) d111_17 (by decide) ?_
  refine R_p d111_19 rfl rfl ?_
  refine R_p d111_20 rfl rfl ?_
  refine R_cm [.int 40, .int (f 1), .int (f 2)] d111_21 (List.mem_of_getElem? (i := 31) rfl) rfl ⟨by decide, by decide, Nat.le_of_ble_eq_true rfl, rfl, mcd68⟩ rfl rfl (Nat.le_of_ble_eq_true rfl) rfl rfl (w178 (f := f)) ?_
  refine R_p d111_24 rfl rfl ?_
  refine R_get d111_25 (Or.inl (List.mem_of_getElem? (i := 43) rfl)) rfl rfl ?_
  refine R_bi (v := 41) d111_28 (by decide) ?_
  refine R_p d111_30 rfl rfl ?_
  refine R_p d111_31 rfl rfl ?_
  refine R_cm [.int 41, .int (f 3), .int (f 4)] d111_33 (List.mem_of_getElem? (i := 31) rfl) rfl ⟨by decide, by decide, Nat.le_of_ble_eq_true rfl, rfl, mcd68⟩ rfl rfl (Nat.le_of_ble_eq_true rfl) rfl rfl (w240 (f := f)) ?_
  refine R_p d111_36 rfl rfl ?_
  refine R_get d111_37 (Or.inl (List.mem_of_getElem? (i := 45) rfl)) rfl rfl ?_
  refine R_bi (v := 40) d111_40 (by decide) ?_
  refine R_cm [.int 40] d111_42 (List.mem_of_getElem? (i := 126) rfl) rfl ⟨by decide, by decide, Nat.le_of_ble_eq_true rfl, rfl, mcd50⟩ rfl rfl (Nat.le_of_ble_eq_true rfl) rfl rfl (w241 (f := f)) ?_
  refine R_p (ls' := [(0, .ref 16), (1, .int (f 1)), (2, .int (f 2)), (3, .int (f 3)), (4, .int (f 4)), (5, .int (-1))]) d111_45 rfl rfl ?_
  refine R_p d111_47 rfl rfl ?_
  refine R_get d111_48 (Or.inl (List.mem_of_getElem? (i := 45) rfl)) rfl rfl ?_
  refine R_bi (v := 41) d111_51 (by decide) ?_
  refine R_cm [.int 41] d111_53 (List.mem_of_getElem? (i := 126) rfl) rfl ⟨by decide, by decide, Nat.le_of_ble_eq_true rfl, rfl, mcd50⟩ rfl rfl (Nat.le_of_ble_eq_true rfl) rfl rfl (w242 (f := f)) ?_
  refine R_p (ls' := [(0, .ref 16), (1, .int (f 1)), (2, .int (f 2)), (3, .int (f 3)), (4, .int (f 4)), (5, .int (-1)), (6, .int (-1))]) d111_56 rfl rfl ?_
  refine R_p d111_58 rfl rfl ?_
  refine R_ic (v := (-1)) d111_60 (by decide) ?_
  refine R_br 84 d111_61 (mb_t (b := (((-1) : Int32) = ((-1) : Int32))) (by decide)) rfl ?_
  refine R_ic (v := (-1)) d111_84 (by decide) ?_
  exact R_iret d111_85 rfl rfl rfl
set_option maxRecDepth 4000 in
theorem w244 {f : Nat → Int32} (h0 : ¬ ((f 1) < (-536870911))) (h1 : ¬ (536870911 < (f 1))) (h2 : ¬ ((f 2) < (-536870911))) (h3 : ¬ (536870911 < (f 2))) (h4 : ¬ ((f 3) < (-536870911))) (h5 : ¬ (536870911 < (f 3))) (h6 : ¬ ((f 4) < (-536870911))) (h7 : ¬ (536870911 < (f 4))) : Run (5, f) 166 (0, [(0, .ref 16), (1, .int (f 1)), (2, .int (f 2)), (3, .int (f 3)), (4, .int (f 4)), (5, .ref 53)], [], HL0) (.inl (some (.int 0)), (HJ23 f)) := by
  refine R_p d166_0 rfl rfl ?_
  refine R_ic (v := 0) d166_2 (by decide) ?_
  refine R_p d166_3 rfl rfl ?_
  refine R_p d166_4 rfl rfl ?_
  refine R_p d166_5 rfl rfl ?_
  refine R_p d166_6 rfl rfl ?_
  refine R_p d166_7 rfl rfl ?_
  refine R_cm [.int (f 1), .int (f 2), .int (f 3), .int (f 4)] d166_9 (List.mem_of_getElem? (i := 128) rfl) rfl ⟨by decide, by decide, Nat.le_of_ble_eq_true rfl, rfl, mcd111⟩ rfl rfl (Nat.le_of_ble_eq_true rfl) rfl rfl (w243 (f := f) h0 h1 h2 h3 h4 h5 h6 h7) ?_
  refine R_p d166_12 rfl rfl ?_
  refine R_nw (v := _) (v' := (-1)) (by decide) ?_
  refine R_lst d166_13 rfl (vp_ok (by decide)) ?_
  refine R_br 21 d166_14 rfl rfl ?_
  refine R_ic (v := 0) d166_21 (by decide) ?_
  exact R_iret d166_22 rfl rfl rfl
set_option maxRecDepth 4000 in
theorem w245 {f : Nat → Int32} (h0 : ¬ ((f 1) < (-536870911))) (h1 : ¬ (536870911 < (f 1))) : Run (5, f) 116 (0, [(0, .int (f 1)), (1, .int (-536870911)), (2, .int 536870911)], [], (HJ23 f)) (.inl (some (.int 1)), (HJ23 f)) := by
  refine R_p d116_0 rfl rfl ?_
  refine R_p d116_1 rfl rfl ?_
  refine R_nb d116_2 rfl (mb_f (b := ((f 1) < (-536870911))) h0) ?_
  refine R_p d116_5 rfl rfl ?_
  refine R_p d116_6 rfl rfl ?_
  refine R_nb d116_7 rfl (mb_f (b := (536870911 < (f 1))) h1) ?_
  refine R_ic (v := 1) d116_10 (by decide) ?_
  refine R_br 15 d116_11 rfl rfl ?_
  exact R_iret d116_15 rfl rfl rfl
set_option maxRecDepth 4000 in
theorem w246 {f : Nat → Int32} (h2 : ¬ ((f 2) < (-536870911))) (h3 : ¬ (536870911 < (f 2))) : Run (5, f) 116 (0, [(0, .int (f 2)), (1, .int (-536870911)), (2, .int 536870911)], [], (HJ23 f)) (.inl (some (.int 1)), (HJ23 f)) := by
  refine R_p d116_0 rfl rfl ?_
  refine R_p d116_1 rfl rfl ?_
  refine R_nb d116_2 rfl (mb_f (b := ((f 2) < (-536870911))) h2) ?_
  refine R_p d116_5 rfl rfl ?_
  refine R_p d116_6 rfl rfl ?_
  refine R_nb d116_7 rfl (mb_f (b := (536870911 < (f 2))) h3) ?_
  refine R_ic (v := 1) d116_10 (by decide) ?_
  refine R_br 15 d116_11 rfl rfl ?_
  exact R_iret d116_15 rfl rfl rfl
set_option maxRecDepth 4000 in
theorem w247 {f : Nat → Int32} (h0 : ¬ ((f 1) < (-536870911))) (h1 : ¬ (536870911 < (f 1))) (h2 : ¬ ((f 2) < (-536870911))) (h3 : ¬ (536870911 < (f 2))) : Run (5, f) 115 (0, [(0, .int (f 1)), (1, .int (f 2))], [], (HJ23 f)) (.inl (some (.int 1)), (HJ23 f)) := by
  refine R_p d115_0 rfl rfl ?_
  refine R_ci (v := (-536870911)) 959 d115_1 (List.mem_of_getElem? (i := 4) rfl) ?_
  refine R_ci (v := 536870911) 960 d115_3 (List.mem_of_getElem? (i := 5) rfl) ?_
  refine R_cs [.int (f 1), .int (-536870911), .int 536870911] d115_5 (List.mem_of_getElem? (i := 163) rfl) rfl ⟨by decide, by decide, Nat.le_of_ble_eq_true rfl, rfl, mcd116⟩ rfl rfl (Nat.le_of_ble_eq_true rfl) (w245 (f := f) h0 h1) ?_
  refine R_nb d115_8 rfl (mb_f (b := ((1 : Int32) = (0 : Int32))) (by decide)) ?_
  refine R_p d115_11 rfl rfl ?_
  refine R_ci (v := (-536870911)) 959 d115_12 (List.mem_of_getElem? (i := 4) rfl) ?_
  refine R_ci (v := 536870911) 960 d115_14 (List.mem_of_getElem? (i := 5) rfl) ?_
  refine R_cs [.int (f 2), .int (-536870911), .int 536870911] d115_16 (List.mem_of_getElem? (i := 163) rfl) rfl ⟨by decide, by decide, Nat.le_of_ble_eq_true rfl, rfl, mcd116⟩ rfl rfl (Nat.le_of_ble_eq_true rfl) (w246 (f := f) h2 h3) ?_
  refine R_nb d115_19 rfl (mb_f (b := ((1 : Int32) = (0 : Int32))) (by decide)) ?_
  refine R_ic (v := 1) d115_22 (by decide) ?_
  refine R_br 27 d115_23 rfl rfl ?_
  exact R_iret d115_27 rfl rfl rfl
set_option maxRecDepth 4000 in
theorem w248 {f : Nat → Int32} (h4 : ¬ ((f 3) < (-536870911))) (h5 : ¬ (536870911 < (f 3))) : Run (5, f) 116 (0, [(0, .int (f 3)), (1, .int (-536870911)), (2, .int 536870911)], [], (HJ23 f)) (.inl (some (.int 1)), (HJ23 f)) := by
  refine R_p d116_0 rfl rfl ?_
  refine R_p d116_1 rfl rfl ?_
  refine R_nb d116_2 rfl (mb_f (b := ((f 3) < (-536870911))) h4) ?_
  refine R_p d116_5 rfl rfl ?_
  refine R_p d116_6 rfl rfl ?_
  refine R_nb d116_7 rfl (mb_f (b := (536870911 < (f 3))) h5) ?_
  refine R_ic (v := 1) d116_10 (by decide) ?_
  refine R_br 15 d116_11 rfl rfl ?_
  exact R_iret d116_15 rfl rfl rfl
set_option maxRecDepth 4000 in
theorem w249 {f : Nat → Int32} (h6 : ¬ ((f 4) < (-536870911))) (h7 : ¬ (536870911 < (f 4))) : Run (5, f) 116 (0, [(0, .int (f 4)), (1, .int (-536870911)), (2, .int 536870911)], [], (HJ23 f)) (.inl (some (.int 1)), (HJ23 f)) := by
  refine R_p d116_0 rfl rfl ?_
  refine R_p d116_1 rfl rfl ?_
  refine R_nb d116_2 rfl (mb_f (b := ((f 4) < (-536870911))) h6) ?_
  refine R_p d116_5 rfl rfl ?_
  refine R_p d116_6 rfl rfl ?_
  refine R_nb d116_7 rfl (mb_f (b := (536870911 < (f 4))) h7) ?_
  refine R_ic (v := 1) d116_10 (by decide) ?_
  refine R_br 15 d116_11 rfl rfl ?_
  exact R_iret d116_15 rfl rfl rfl
set_option maxRecDepth 4000 in
theorem w250 {f : Nat → Int32} (h4 : ¬ ((f 3) < (-536870911))) (h5 : ¬ (536870911 < (f 3))) (h6 : ¬ ((f 4) < (-536870911))) (h7 : ¬ (536870911 < (f 4))) : Run (5, f) 115 (0, [(0, .int (f 3)), (1, .int (f 4))], [], (HJ23 f)) (.inl (some (.int 1)), (HJ23 f)) := by
  refine R_p d115_0 rfl rfl ?_
  refine R_ci (v := (-536870911)) 959 d115_1 (List.mem_of_getElem? (i := 4) rfl) ?_
  refine R_ci (v := 536870911) 960 d115_3 (List.mem_of_getElem? (i := 5) rfl) ?_
  refine R_cs [.int (f 3), .int (-536870911), .int 536870911] d115_5 (List.mem_of_getElem? (i := 163) rfl) rfl ⟨by decide, by decide, Nat.le_of_ble_eq_true rfl, rfl, mcd116⟩ rfl rfl (Nat.le_of_ble_eq_true rfl) (w248 (f := f) h4 h5) ?_
  refine R_nb d115_8 rfl (mb_f (b := ((1 : Int32) = (0 : Int32))) (by decide)) ?_
  refine R_p d115_11 rfl rfl ?_
  refine R_ci (v := (-536870911)) 959 d115_12 (List.mem_of_getElem? (i := 4) rfl) ?_
  refine R_ci (v := 536870911) 960 d115_14 (List.mem_of_getElem? (i := 5) rfl) ?_
  refine R_cs [.int (f 4), .int (-536870911), .int 536870911] d115_16 (List.mem_of_getElem? (i := 163) rfl) rfl ⟨by decide, by decide, Nat.le_of_ble_eq_true rfl, rfl, mcd116⟩ rfl rfl (Nat.le_of_ble_eq_true rfl) (w249 (f := f) h6 h7) ?_
  refine R_nb d115_19 rfl (mb_f (b := ((1 : Int32) = (0 : Int32))) (by decide)) ?_
  refine R_ic (v := 1) d115_22 (by decide) ?_
  refine R_br 27 d115_23 rfl rfl ?_
  exact R_iret d115_27 rfl rfl rfl
set_option maxRecDepth 4000 in
theorem w251 {f : Nat → Int32} : Run (5, f) 117 (0, [(0, .ref 42), (1, .int 0)], [], (HJ23 f)) (.inl (some (.int 0)), (HJ23 f)) := by
  refine R_p d117_0 rfl rfl ?_
  refine R_p d117_1 rfl rfl ?_
  refine R_put d117_2 (List.mem_of_getElem? (i := 48) rfl) rfl (by decide) rfl rfl (Or.inl rfl) ?_
  refine R_p d117_5 rfl rfl ?_
  refine R_br 13 d117_6 (mb_t (b := ((0 : Int32) ≤ (0 : Int32))) (by decide)) rfl ?_
  refine R_ic (v := 0) d117_13 (by decide) ?_
  exact R_iret d117_14 rfl rfl rfl
set_option maxRecDepth 4000 in
theorem w252 {f : Nat → Int32} : Run (5, f) 129 (0, [(0, .ref 42)], [], (HJ25 f)) (.inl (some (.int 1)), (HJ25 f)) := by
  refine R_ic (v := 1) d129_0 (by decide) ?_
  refine R_p (ls' := [(0, .ref 42), (1, .int 1)]) d129_1 rfl rfl ?_
  refine R_ic (v := 2) d129_2 (by decide) ?_
  refine R_p (ls' := [(0, .ref 42), (1, .int 1), (2, .int 2)]) d129_3 rfl rfl ?_
  refine R_p d129_4 rfl rfl ?_
  refine R_p d129_5 rfl rfl ?_
  refine R_get d129_6 (Or.inl (List.mem_of_getElem? (i := 49) rfl)) rfl rfl ?_
  refine R_br 38 d129_9 (mb_t (b := ((0 : Int32) ≤ (2 : Int32))) (by decide)) rfl ?_
  refine R_p d129_38 rfl rfl ?_
  exact R_iret d129_39 rfl rfl rfl
set_option maxRecDepth 4000 in
theorem w253 {f : Nat → Int32} : Run (5, f) 128 (0, [(0, .ref 42)], [], (HJ23 f)) (.inl none, (HJ25 f)) := by
  refine R_p d128_0 rfl rfl ?_
  refine R_get d128_1 (Or.inl (List.mem_of_getElem? (i := 54) rfl)) rfl rfl ?_
  refine R_br 8 d128_4 (mb_t (b := ((0 : Int32) = (0 : Int32))) (by decide)) rfl ?_
  refine R_p d128_8 rfl rfl ?_
  refine R_ic (v := 1) d128_9 (by decide) ?_
  refine R_put d128_10 (List.mem_of_getElem? (i := 54) rfl) rfl (by decide) (by decide) (by decide) (Or.inl rfl) ?_
  refine R_p d128_13 rfl rfl ?_
  refine R_ic (v := 0) d128_14 (by decide) ?_
  refine R_put d128_15 (List.mem_of_getElem? (i := 55) rfl) rfl (by decide) rfl rfl (Or.inl rfl) ?_
  refine R_ic (v := 0) d128_18 (by decide) ?_
  refine R_p (ls' := [(0, .ref 42), (1, .int 0)]) d128_19 rfl rfl ?_
  refine R_h (HJ24 f) rfl ?_
  refine R_meshCopy rfl rfl rfl rfl rfl ?_
  refine R_p d128_45 rfl rfl ?_
  refine R_cm [] d128_46 (List.mem_of_getElem? (i := 176) rfl) rfl ⟨by decide, by decide, Nat.le_of_ble_eq_true rfl, rfl, mcd129⟩ rfl rfl (Nat.le_of_ble_eq_true rfl) rfl rfl (w252 (f := f)) ?_
  refine R_nb d128_49 rfl (mb_f (b := ((1 : Int32) = (0 : Int32))) (by decide)) ?_
  exact R_vret d128_52 rfl rfl
set_option maxRecDepth 4000 in
theorem w254 {f : Nat → Int32} : Run (5, f) 146 (0, [(0, .ref 42), (1, .int 40)], [], (HJ26 f)) (.inl (some (.int (-1))), (HJ26 f)) := by
  refine R_ic (v := 0) d146_0 (by decide) ?_
  refine R_p (ls' := [(0, .ref 42), (1, .int 40), (2, .int 0)]) d146_1 rfl rfl ?_
  refine R_p d146_2 rfl rfl ?_
  refine R_p d146_3 rfl rfl ?_
  refine R_get d146_4 (Or.inl (List.mem_of_getElem? (i := 55) rfl)) rfl rfl ?_
  refine R_br 85 d146_7 (mb_t (b := ((0 : Int32) ≤ (0 : Int32))) (by decide)) rfl ?_
  refine R_ic (v := (-1)) d146_85 (by decide) ?_
  exact R_iret d146_86 rfl rfl rfl
set_option maxRecDepth 4000 in
theorem w255 {f : Nat → Int32} : Run (5, f) 146 (0, [(0, .ref 42), (1, .int 41)], [], (HJ26 f)) (.inl (some (.int (-1))), (HJ26 f)) := by
  refine R_ic (v := 0) d146_0 (by decide) ?_
  refine R_p (ls' := [(0, .ref 42), (1, .int 41), (2, .int 0)]) d146_1 rfl rfl ?_
  refine R_p d146_2 rfl rfl ?_
  refine R_p d146_3 rfl rfl ?_
  refine R_get d146_4 (Or.inl (List.mem_of_getElem? (i := 55) rfl)) rfl rfl ?_
  refine R_br 85 d146_7 (mb_t (b := ((0 : Int32) ≤ (0 : Int32))) (by decide)) rfl ?_
  refine R_ic (v := (-1)) d146_85 (by decide) ?_
  exact R_iret d146_86 rfl rfl rfl
set_option maxRecDepth 4000 in
theorem w256 {f : Nat → Int32} (h0 : ¬ ((f 1) < (-536870911))) (h1 : ¬ (536870911 < (f 1))) (h2 : ¬ ((f 2) < (-536870911))) (h3 : ¬ (536870911 < (f 2))) (h4 : ¬ ((f 3) < (-536870911))) (h5 : ¬ (536870911 < (f 3))) (h6 : ¬ ((f 4) < (-536870911))) (h7 : ¬ (536870911 < (f 4))) : Run (5, f) 147 (0, [(0, .ref 42), (1, .int (f 1)), (2, .int (f 2)), (3, .int (f 3)), (4, .int (f 4))], [], (HJ23 f)) (.inl (some (.int (-1))), (HJ26 f)) := by
  refine R_p d147_0 rfl rfl ?_
  refine R_p d147_1 rfl rfl ?_
  refine R_p d147_2 rfl rfl ?_
  refine R_cs [.int (f 1), .int (f 2)] d147_3 (List.mem_of_getElem? (i := 162) rfl) rfl ⟨by decide, by decide, Nat.le_of_ble_eq_true rfl, rfl, mcd115⟩ rfl rfl (Nat.le_of_ble_eq_true rfl) (w247 (f := f) h0 h1 h2 h3) ?_
  refine R_nb d147_6 rfl (mb_f (b := ((1 : Int32) = (0 : Int32))) (by decide)) ?_
  refine R_p d147_9 rfl rfl ?_
  refine R_p d147_10 rfl rfl ?_
  refine R_cs [.int (f 3), .int (f 4)] d147_12 (List.mem_of_getElem? (i := 162) rfl) rfl ⟨by decide, by decide, Nat.le_of_ble_eq_true rfl, rfl, mcd115⟩ rfl rfl (Nat.le_of_ble_eq_true rfl) (w250 (f := f) h4 h5 h6 h7) ?_
  refine R_nb d147_15 rfl (mb_f (b := ((1 : Int32) = (0 : Int32))) (by decide)) ?_
  refine R_ic (v := 0) d147_18 (by decide) ?_
  refine R_br 23 d147_19 rfl rfl ?_
  refine R_cm [.int 0] d147_23 (List.mem_of_getElem? (i := 164) rfl) rfl ⟨by decide, by decide, Nat.le_of_ble_eq_true rfl, rfl, mcd117⟩ rfl rfl (Nat.le_of_ble_eq_true rfl) rfl rfl (w251 (f := f)) ?_
  refine R_br 31 d147_26 (mb_t (b := ((0 : Int32) = (0 : Int32))) (by decide)) rfl ?_
  refine R_p d147_31 rfl rfl ?_
  refine R_cm [] d147_32 (List.mem_of_getElem? (i := 175) rfl) rfl ⟨by decide, by decide, Nat.le_of_ble_eq_true rfl, rfl, mcd128⟩ rfl rfl (Nat.le_of_ble_eq_true rfl) rfl rfl (w253 (f := f)) ?_
  refine R_p d147_35 rfl rfl ?_
  refine R_get d147_36 (Or.inl (List.mem_of_getElem? (i := 50) rfl)) rfl rfl ?_
  refine R_bi (v := 40) d147_39 (by decide) ?_
  refine R_p d147_41 rfl rfl ?_
  refine R_p d147_42 rfl rfl ?_
  refine R_lst d147_43 rfl (vp_ok (by decide)) ?_
  refine R_p d147_44 rfl rfl ?_
  refine R_get d147_45 (Or.inl (List.mem_of_getElem? (i := 51) rfl)) rfl rfl ?_
  refine R_bi (v := 40) d147_48 (by decide) ?_
  refine R_p d147_50 rfl rfl ?_
  refine R_p d147_51 rfl rfl ?_
  refine R_lst d147_52 rfl (vp_ok (by decide)) ?_
  refine R_p d147_53 rfl rfl ?_
  refine R_get d147_54 (Or.inl (List.mem_of_getElem? (i := 50) rfl)) rfl rfl ?_
  refine R_bi (v := 41) d147_57 (by decide) ?_
  refine R_p d147_59 rfl rfl ?_
  refine R_p d147_60 rfl rfl ?_
  refine R_lst d147_61 rfl (vp_ok (by decide)) ?_
  refine R_p d147_62 rfl rfl ?_
  refine R_get d147_63 (Or.inl (List.mem_of_getElem? (i := 51) rfl)) rfl rfl ?_
  refine R_bi (v := 41) d147_66 (by decide) ?_
  refine R_p d147_68 rfl rfl ?_
  refine R_p d147_70 rfl rfl ?_
  refine R_lst d147_71 rfl (vp_ok (by decide)) ?_
  refine R_p d147_72 rfl rfl ?_
  refine R_bi (v := 40) d147_73 (by decide) ?_
  refine R_cm [.int 40] d147_75 (List.mem_of_getElem? (i := 193) rfl) rfl ⟨by decide, by decide, Nat.le_of_ble_eq_true rfl, rfl, mcd146⟩ rfl rfl (Nat.le_of_ble_eq_true rfl) rfl rfl (w254 (f := f)) ?_
  refine R_p (ls' := [(0, .ref 42), (1, .int (f 1)), (2, .int (f 2)), (3, .int (f 3)), (4, .int (f 4)), (5, .int (-1))]) d147_78 rfl rfl ?_
  refine R_p d147_80 rfl rfl ?_
  refine R_bi (v := 41) d147_81 (by decide) ?_
  refine R_cm [.int 41] d147_83 (List.mem_of_getElem? (i := 193) rfl) rfl ⟨by decide, by decide, Nat.le_of_ble_eq_true rfl, rfl, mcd146⟩ rfl rfl (Nat.le_of_ble_eq_true rfl) rfl rfl (w255 (f := f)) ?_
  refine R_p (ls' := [(0, .ref 42), (1, .int (f 1)), (2, .int (f 2)), (3, .int (f 3)), (4, .int (f 4)), (5, .int (-1)), (6, .int (-1))]) d147_86 rfl rfl ?_
  refine R_p d147_88 rfl rfl ?_
  refine R_br 98 d147_90 (mb_t (b := (((-1) : Int32) < (0 : Int32))) (by decide)) rfl ?_
  refine R_ic (v := (-1)) d147_98 (by decide) ?_
  exact R_iret d147_99 rfl rfl rfl
set_option maxRecDepth 4000 in
theorem w257 {f : Nat → Int32} : Run (5, f) 113 (0, [(0, .ref 42)], [], (HJ26 f)) (.inl (some (.int 0)), (HJ26 f)) := by
  refine R_p d113_0 rfl rfl ?_
  refine R_get d113_1 (Or.inl (List.mem_of_getElem? (i := 48) rfl)) rfl rfl ?_
  exact R_iret d113_4 rfl rfl rfl
set_option maxRecDepth 4000 in
theorem law808_258 {f : Nat → Int32} (h0 : ¬ ((f 1) < (-536870911))) (h1 : ¬ (536870911 < (f 1))) (h2 : ¬ ((f 2) < (-536870911))) (h3 : ¬ (536870911 < (f 2))) (h4 : ¬ ((f 3) < (-536870911))) (h5 : ¬ (536870911 < (f 3))) (h6 : ¬ ((f 4) < (-536870911))) (h7 : ¬ (536870911 < (f 4))) : Run (5, f) 171 (808, [(0, .ref 0), (1, .ref 16), (2, .ref 42), (3, .ref 53), (4, .int 0)], [], HL0) (.inl (some (.int 1)), (HJ26 f)) := by
  refine R_p d171_808 rfl rfl ?_
  refine R_p d171_809 rfl rfl ?_
  refine R_p d171_810 rfl rfl ?_
  refine R_ic (v := 1) d171_812 (by decide) ?_
  refine R_p d171_813 rfl rfl ?_
  refine R_nv (v := _) (v' := 1) (by decide) ?_
  refine R_sldk (n := 1) (x := (f 1)) d171_814 (vp_ok (by decide)) (by decide) rfl ?_
  refine R_p d171_815 rfl rfl ?_
  refine R_p d171_816 rfl rfl ?_
  refine R_ic (v := 2) d171_818 (by decide) ?_
  refine R_p d171_819 rfl rfl ?_
  refine R_nv (v := _) (v' := 2) (by decide) ?_
  refine R_sldk (n := 2) (x := (f 2)) d171_820 (vp_ok (by decide)) (by decide) rfl ?_
  refine R_p d171_821 rfl rfl ?_
  refine R_p d171_822 rfl rfl ?_
  refine R_ic (v := 3) d171_824 (by decide) ?_
  refine R_p d171_825 rfl rfl ?_
  refine R_nv (v := _) (v' := 3) (by decide) ?_
  refine R_sldk (n := 3) (x := (f 3)) d171_826 (vp_ok (by decide)) (by decide) rfl ?_
  refine R_p d171_827 rfl rfl ?_
  refine R_p d171_828 rfl rfl ?_
  refine R_ic (v := 4) d171_830 (by decide) ?_
  refine R_p d171_831 rfl rfl ?_
  refine R_nv (v := _) (v' := 4) (by decide) ?_
  refine R_sldk (n := 4) (x := (f 4)) d171_832 (vp_ok (by decide)) (by decide) rfl ?_
  refine R_p d171_833 rfl rfl ?_
  refine R_hs [.ref 16, .int (f 1), .int (f 2), .int (f 3), .int (f 4), .ref 53] d171_834 (List.mem_of_getElem? (i := 127) rfl) ⟨by decide, by decide, Nat.le_of_ble_eq_true rfl, mcd166⟩ rfl rfl (Nat.le_of_ble_eq_true rfl) (w244 (f := f) h0 h1 h2 h3 h4 h5 h6 h7) ?_
  refine R_p (ls' := [(0, .ref 0), (1, .ref 16), (2, .ref 42), (3, .ref 53), (4, .int 0), (5, .int 0)]) d171_837 rfl rfl ?_
  refine R_p d171_839 rfl rfl ?_
  refine R_p d171_840 rfl rfl ?_
  refine R_p d171_841 rfl rfl ?_
  refine R_ic (v := 1) d171_843 (by decide) ?_
  refine R_p d171_844 rfl rfl ?_
  refine R_nv (v := _) (v' := 1) (by decide) ?_
  refine R_sldk (n := 1) (x := (f 1)) d171_845 (vp_ok (by decide)) (by decide) rfl ?_
  refine R_p d171_846 rfl rfl ?_
  refine R_p d171_847 rfl rfl ?_
  refine R_ic (v := 2) d171_849 (by decide) ?_
  refine R_p d171_850 rfl rfl ?_
  refine R_nv (v := _) (v' := 2) (by decide) ?_
  refine R_sldk (n := 2) (x := (f 2)) d171_851 (vp_ok (by decide)) (by decide) rfl ?_
  refine R_p d171_852 rfl rfl ?_
  refine R_p d171_853 rfl rfl ?_
  refine R_ic (v := 3) d171_855 (by decide) ?_
  refine R_p d171_856 rfl rfl ?_
  refine R_nv (v := _) (v' := 3) (by decide) ?_
  refine R_sldk (n := 3) (x := (f 3)) d171_857 (vp_ok (by decide)) (by decide) rfl ?_
  refine R_p d171_858 rfl rfl ?_
  refine R_p d171_859 rfl rfl ?_
  refine R_ic (v := 4) d171_861 (by decide) ?_
  refine R_p d171_862 rfl rfl ?_
  refine R_nv (v := _) (v' := 4) (by decide) ?_
  refine R_sldk (n := 4) (x := (f 4)) d171_863 (vp_ok (by decide)) (by decide) rfl ?_
  refine R_cm [.int (f 1), .int (f 2), .int (f 3), .int (f 4)] d171_864 (List.mem_of_getElem? (i := 194) rfl) rfl ⟨by decide, by decide, Nat.le_of_ble_eq_true rfl, rfl, mcd147⟩ rfl rfl (Nat.le_of_ble_eq_true rfl) rfl rfl (w256 (f := f) h0 h1 h2 h3 h4 h5 h6 h7) ?_
  refine R_p (ls' := [(0, .ref 0), (1, .ref 16), (2, .ref 42), (3, .ref 53), (4, .int 0), (5, .int 0), (6, .int (-1))]) d171_867 rfl rfl ?_
  refine R_p d171_869 rfl rfl ?_
  refine R_cm [] d171_870 (List.mem_of_getElem? (i := 160) rfl) rfl ⟨by decide, by decide, Nat.le_of_ble_eq_true rfl, rfl, mcd113⟩ rfl rfl (Nat.le_of_ble_eq_true rfl) rfl rfl (w257 (f := f)) ?_
  refine R_p d171_873 rfl rfl ?_
  refine R_br 880 d171_875 (mb_t (b := ((0 : Int32) = (0 : Int32))) (by decide)) rfl ?_
  refine R_p d171_880 rfl rfl ?_
  refine R_nb d171_882 rfl (mb_f (b := (¬ (0 : Int32) = (0 : Int32))) (fun q => q (by decide))) ?_
  refine R_p d171_885 rfl rfl ?_
  refine R_ic (v := 0) d171_886 (by decide) ?_
  refine R_lld d171_887 rfl (vp_ok (by decide)) ?_
  refine R_nw (v := _) (v' := (-1)) (by decide) ?_
  refine R_p d171_888 rfl rfl ?_
  refine R_p d171_890 rfl rfl ?_
  refine R_nw (v := _) (v' := (-1)) (by decide) ?_
  refine R_p d171_891 rfl rfl ?_
  refine R_nv (v := _) (v' := 0) (by decide) ?_
  refine R_br 897 d171_892 (mb_t (b := ((0 : Int32) = (0 : Int32))) (by decide)) rfl ?_
  refine R_br 950 d171_897 rfl rfl ?_
  refine R_p (ls' := [(0, .ref 0), (1, .ref 16), (2, .ref 42), (3, .ref 53), (4, .int 5), (5, .int 0), (6, .int (-1))]) d171_950 rfl rfl ?_
  refine R_br 23 d171_953 rfl rfl ?_
  refine R_p d171_23 rfl rfl ?_
  refine R_p d171_25 rfl rfl ?_
  refine R_sln d171_26 ?_
  refine R_nv (v := _) (v' := 5) (show Int32.ofNat 5 = 5 from by decide) ?_
  refine R_ic (v := 5) d171_27 (by decide) ?_
  refine R_p d171_28 rfl rfl ?_
  refine R_nv (v := _) (v' := 0) (by decide) ?_
  refine R_br 956 d171_29 (mb_t (b := ((0 : Int32) < (5 : Int32))) (by decide)) rfl ?_
  refine R_ic (v := 1) d171_956 (by decide) ?_
  exact R_iret d171_957 rfl rfl rfl
set_option maxRecDepth 4000 in
theorem w259 {f : Nat → Int32} (h0 : ((f 1) < 0)) : Run (5, f) 10 (0, [(0, .ref 36), (1, .int (f 1))], [], HL0) (.inl (some (.int (-1))), HL0) := by
  refine R_p d10_0 rfl rfl ?_
  refine R_br 12 d10_1 (mb_t (b := ((f 1) < 0)) h0) rfl ?_
  refine R_ic (v := (-1)) d10_12 (by decide) ?_
  refine R_br 22 d10_13 rfl rfl ?_
  exact R_iret d10_22 rfl rfl rfl
set_option maxRecDepth 4000 in
theorem w260 {f : Nat → Int32} (h0 : ((f 1) < 0)) : Run (5, f) 79 (0, [(0, .ref 32), (1, .int (f 1))], [], HL0) (.inl (some (.int (-1))), HL0) := by
  refine R_p d79_0 rfl rfl ?_
  refine R_get d79_1 (Or.inl (List.mem_of_getElem? (i := 38) rfl)) rfl rfl ?_
  refine R_p d79_4 rfl rfl ?_
  refine R_cm [.int (f 1)] d79_5 (List.mem_of_getElem? (i := 25) rfl) rfl ⟨by decide, by decide, Nat.le_of_ble_eq_true rfl, rfl, mcd10⟩ rfl rfl (Nat.le_of_ble_eq_true rfl) rfl rfl (w259 (f := f) h0) ?_
  exact R_iret d79_8 rfl rfl rfl
set_option maxRecDepth 4000 in
theorem w261 {f : Nat → Int32} (h0 : ((f 1) < 0)) : Run (5, f) 94 (0, [(0, .ref 16), (1, .int (f 1))], [], HL0) (.inl (some (.int (-1))), HL0) := by
  refine R_p d94_0 rfl rfl ?_
  refine R_get d94_1 (Or.inl (List.mem_of_getElem? (i := 47) rfl)) rfl rfl ?_
  refine R_p d94_4 rfl rfl ?_
  refine R_cm [.int (f 1)] d94_5 (List.mem_of_getElem? (i := 24) rfl) rfl ⟨by decide, by decide, Nat.le_of_ble_eq_true rfl, rfl, mcd79⟩ rfl rfl (Nat.le_of_ble_eq_true rfl) rfl rfl (w260 (f := f) h0) ?_
  exact R_iret d94_8 rfl rfl rfl
set_option maxRecDepth 4000 in
theorem w262 {f : Nat → Int32} (h0 : ((f 1) < 0)) : Run (5, f) 116 (0, [(0, .int (f 1)), (1, .int 0), (2, .int (-1))], [], HL0) (.inl (some (.int 0)), HL0) := by
  refine R_p d116_0 rfl rfl ?_
  refine R_p d116_1 rfl rfl ?_
  refine R_br 14 d116_2 (mb_t (b := ((f 1) < 0)) h0) rfl ?_
  refine R_ic (v := 0) d116_14 (by decide) ?_
  exact R_iret d116_15 rfl rfl rfl
set_option maxRecDepth 4000 in
theorem w263 {f : Nat → Int32} (h0 : ((f 1) < 0)) : Run (5, f) 155 (0, [(0, .ref 42), (1, .int (f 1))], [], HL0) (.inl (some (.int (-1))), HL0) := by
  refine R_p d155_0 rfl rfl ?_
  refine R_ic (v := 0) d155_1 (by decide) ?_
  refine R_put d155_2 (List.mem_of_getElem? (i := 48) rfl) rfl (by decide) rfl rfl (Or.inl rfl) ?_
  refine R_p d155_5 rfl rfl ?_
  refine R_ic (v := 0) d155_6 (by decide) ?_
  refine R_p d155_7 rfl rfl ?_
  refine R_get d155_8 (Or.inl (List.mem_of_getElem? (i := 59) rfl)) rfl rfl ?_
  refine R_ic (v := 1) d155_11 (by decide) ?_
  refine R_p d155_12 rfl rfl ?_
  refine R_nv (v := _) (v' := (-1)) (by decide) ?_
  refine R_cs [.int (f 1), .int 0, .int (-1)] d155_13 (List.mem_of_getElem? (i := 163) rfl) rfl ⟨by decide, by decide, Nat.le_of_ble_eq_true rfl, rfl, mcd116⟩ rfl rfl (Nat.le_of_ble_eq_true rfl) (w262 (f := f) h0) ?_
  refine R_br 28 d155_16 (mb_t (b := ((0 : Int32) = (0 : Int32))) (by decide)) rfl ?_
  refine R_ic (v := (-1)) d155_28 (by decide) ?_
  exact R_iret d155_29 rfl rfl rfl
set_option maxRecDepth 4000 in
theorem law900_264 {f : Nat → Int32} (h0 : ((f 1) < 0)) : Run (5, f) 171 (900, [(0, .ref 0), (1, .ref 16), (2, .ref 42), (3, .ref 53), (4, .int 0)], [], HL0) (.inl (some (.int 1)), HL0) := by
  refine R_p d171_900 rfl rfl ?_
  refine R_p d171_901 rfl rfl ?_
  refine R_p d171_902 rfl rfl ?_
  refine R_ic (v := 1) d171_904 (by decide) ?_
  refine R_p d171_905 rfl rfl ?_
  refine R_nv (v := _) (v' := 1) (by decide) ?_
  refine R_sldk (n := 1) (x := (f 1)) d171_906 (vp_ok (by decide)) (by decide) rfl ?_
  refine R_cm [.int (f 1)] d171_907 (List.mem_of_getElem? (i := 23) rfl) rfl ⟨by decide, by decide, Nat.le_of_ble_eq_true rfl, rfl, mcd94⟩ rfl rfl (Nat.le_of_ble_eq_true rfl) rfl rfl (w261 (f := f) h0) ?_
  refine R_p d171_910 rfl rfl ?_
  refine R_p d171_911 rfl rfl ?_
  refine R_p d171_912 rfl rfl ?_
  refine R_ic (v := 1) d171_914 (by decide) ?_
  refine R_p d171_915 rfl rfl ?_
  refine R_nv (v := _) (v' := 1) (by decide) ?_
  refine R_sldk (n := 1) (x := (f 1)) d171_916 (vp_ok (by decide)) (by decide) rfl ?_
  refine R_cm [.int (f 1)] d171_917 (List.mem_of_getElem? (i := 202) rfl) rfl ⟨by decide, by decide, Nat.le_of_ble_eq_true rfl, rfl, mcd155⟩ rfl rfl (Nat.le_of_ble_eq_true rfl) rfl rfl (w263 (f := f) h0) ?_
  refine R_br 950 d171_920 (mb_t (b := (((-1) : Int32) = ((-1) : Int32))) (by decide)) rfl ?_
  refine R_p (ls' := [(0, .ref 0), (1, .ref 16), (2, .ref 42), (3, .ref 53), (4, .int 5)]) d171_950 rfl rfl ?_
  refine R_br 23 d171_953 rfl rfl ?_
  refine R_p d171_23 rfl rfl ?_
  refine R_p d171_25 rfl rfl ?_
  refine R_sln d171_26 ?_
  refine R_nv (v := _) (v' := 5) (show Int32.ofNat 5 = 5 from by decide) ?_
  refine R_ic (v := 5) d171_27 (by decide) ?_
  refine R_p d171_28 rfl rfl ?_
  refine R_nv (v := _) (v' := 0) (by decide) ?_
  refine R_br 956 d171_29 (mb_t (b := ((0 : Int32) < (5 : Int32))) (by decide)) rfl ?_
  refine R_ic (v := 1) d171_956 (by decide) ?_
  exact R_iret d171_957 rfl rfl rfl
set_option maxRecDepth 4000 in
theorem w265 {f : Nat → Int32} (h0 : ¬ ((f 1) < 0)) : Run (5, f) 10 (0, [(0, .ref 36), (1, .int (f 1))], [], HL0) (.inl (some (.int (-1))), HL0) := by
  refine R_p d10_0 rfl rfl ?_
  refine R_nb d10_1 rfl (mb_f (b := ((f 1) < 0)) h0) ?_
  refine R_p d10_4 rfl rfl ?_
  refine R_p d10_5 rfl rfl ?_
  refine R_get d10_6 (Or.inl (List.mem_of_getElem? (i := 35) rfl)) rfl rfl ?_
  refine R_nb d10_9 rfl (mb_f (b := ((f 1) < 0)) h0) ?_
  refine R_ic (v := (-1)) d10_12 (by decide) ?_
  refine R_br 22 d10_13 rfl rfl ?_
  exact R_iret d10_22 rfl rfl rfl
set_option maxRecDepth 4000 in
theorem w266 {f : Nat → Int32} (h0 : ¬ ((f 1) < 0)) : Run (5, f) 79 (0, [(0, .ref 32), (1, .int (f 1))], [], HL0) (.inl (some (.int (-1))), HL0) := by
  refine R_p d79_0 rfl rfl ?_
  refine R_get d79_1 (Or.inl (List.mem_of_getElem? (i := 38) rfl)) rfl rfl ?_
  refine R_p d79_4 rfl rfl ?_
  refine R_cm [.int (f 1)] d79_5 (List.mem_of_getElem? (i := 25) rfl) rfl ⟨by decide, by decide, Nat.le_of_ble_eq_true rfl, rfl, mcd10⟩ rfl rfl (Nat.le_of_ble_eq_true rfl) rfl rfl (w265 (f := f) h0) ?_
  exact R_iret d79_8 rfl rfl rfl
set_option maxRecDepth 4000 in
theorem w267 {f : Nat → Int32} (h0 : ¬ ((f 1) < 0)) : Run (5, f) 94 (0, [(0, .ref 16), (1, .int (f 1))], [], HL0) (.inl (some (.int (-1))), HL0) := by
  refine R_p d94_0 rfl rfl ?_
  refine R_get d94_1 (Or.inl (List.mem_of_getElem? (i := 47) rfl)) rfl rfl ?_
  refine R_p d94_4 rfl rfl ?_
  refine R_cm [.int (f 1)] d94_5 (List.mem_of_getElem? (i := 24) rfl) rfl ⟨by decide, by decide, Nat.le_of_ble_eq_true rfl, rfl, mcd79⟩ rfl rfl (Nat.le_of_ble_eq_true rfl) rfl rfl (w266 (f := f) h0) ?_
  exact R_iret d94_8 rfl rfl rfl
set_option maxRecDepth 4000 in
theorem w268 {f : Nat → Int32} (h0 : ¬ ((f 1) < 0)) : Run (5, f) 116 (0, [(0, .int (f 1)), (1, .int 0), (2, .int (-1))], [], HL0) (.inl (some (.int 0)), HL0) := by
  refine R_p d116_0 rfl rfl ?_
  refine R_p d116_1 rfl rfl ?_
  refine R_nb d116_2 rfl (mb_f (b := ((f 1) < 0)) h0) ?_
  refine R_p d116_5 rfl rfl ?_
  refine R_p d116_6 rfl rfl ?_
  refine R_br 14 d116_7 (mb_t (b := ((-1) < (f 1))) (m1_lt h0)) rfl ?_
  refine R_ic (v := 0) d116_14 (by decide) ?_
  exact R_iret d116_15 rfl rfl rfl
set_option maxRecDepth 4000 in
theorem w269 {f : Nat → Int32} (h0 : ¬ ((f 1) < 0)) : Run (5, f) 155 (0, [(0, .ref 42), (1, .int (f 1))], [], HL0) (.inl (some (.int (-1))), HL0) := by
  refine R_p d155_0 rfl rfl ?_
  refine R_ic (v := 0) d155_1 (by decide) ?_
  refine R_put d155_2 (List.mem_of_getElem? (i := 48) rfl) rfl (by decide) rfl rfl (Or.inl rfl) ?_
  refine R_p d155_5 rfl rfl ?_
  refine R_ic (v := 0) d155_6 (by decide) ?_
  refine R_p d155_7 rfl rfl ?_
  refine R_get d155_8 (Or.inl (List.mem_of_getElem? (i := 59) rfl)) rfl rfl ?_
  refine R_ic (v := 1) d155_11 (by decide) ?_
  refine R_p d155_12 rfl rfl ?_
  refine R_nv (v := _) (v' := (-1)) (by decide) ?_
  refine R_cs [.int (f 1), .int 0, .int (-1)] d155_13 (List.mem_of_getElem? (i := 163) rfl) rfl ⟨by decide, by decide, Nat.le_of_ble_eq_true rfl, rfl, mcd116⟩ rfl rfl (Nat.le_of_ble_eq_true rfl) (w268 (f := f) h0) ?_
  refine R_br 28 d155_16 (mb_t (b := ((0 : Int32) = (0 : Int32))) (by decide)) rfl ?_
  refine R_ic (v := (-1)) d155_28 (by decide) ?_
  exact R_iret d155_29 rfl rfl rfl
set_option maxRecDepth 4000 in
theorem law900_270 {f : Nat → Int32} (h0 : ¬ ((f 1) < 0)) : Run (5, f) 171 (900, [(0, .ref 0), (1, .ref 16), (2, .ref 42), (3, .ref 53), (4, .int 0)], [], HL0) (.inl (some (.int 1)), HL0) := by
  refine R_p d171_900 rfl rfl ?_
  refine R_p d171_901 rfl rfl ?_
  refine R_p d171_902 rfl rfl ?_
  refine R_ic (v := 1) d171_904 (by decide) ?_
  refine R_p d171_905 rfl rfl ?_
  refine R_nv (v := _) (v' := 1) (by decide) ?_
  refine R_sldk (n := 1) (x := (f 1)) d171_906 (vp_ok (by decide)) (by decide) rfl ?_
  refine R_cm [.int (f 1)] d171_907 (List.mem_of_getElem? (i := 23) rfl) rfl ⟨by decide, by decide, Nat.le_of_ble_eq_true rfl, rfl, mcd94⟩ rfl rfl (Nat.le_of_ble_eq_true rfl) rfl rfl (w267 (f := f) h0) ?_
  refine R_p d171_910 rfl rfl ?_
  refine R_p d171_911 rfl rfl ?_
  refine R_p d171_912 rfl rfl ?_
  refine R_ic (v := 1) d171_914 (by decide) ?_
  refine R_p d171_915 rfl rfl ?_
  refine R_nv (v := _) (v' := 1) (by decide) ?_
  refine R_sldk (n := 1) (x := (f 1)) d171_916 (vp_ok (by decide)) (by decide) rfl ?_
  refine R_cm [.int (f 1)] d171_917 (List.mem_of_getElem? (i := 202) rfl) rfl ⟨by decide, by decide, Nat.le_of_ble_eq_true rfl, rfl, mcd155⟩ rfl rfl (Nat.le_of_ble_eq_true rfl) rfl rfl (w269 (f := f) h0) ?_
  refine R_br 950 d171_920 (mb_t (b := (((-1) : Int32) = ((-1) : Int32))) (by decide)) rfl ?_
  refine R_p (ls' := [(0, .ref 0), (1, .ref 16), (2, .ref 42), (3, .ref 53), (4, .int 5)]) d171_950 rfl rfl ?_
  refine R_br 23 d171_953 rfl rfl ?_
  refine R_p d171_23 rfl rfl ?_
  refine R_p d171_25 rfl rfl ?_
  refine R_sln d171_26 ?_
  refine R_nv (v := _) (v' := 5) (show Int32.ofNat 5 = 5 from by decide) ?_
  refine R_ic (v := 5) d171_27 (by decide) ?_
  refine R_p d171_28 rfl rfl ?_
  refine R_nv (v := _) (v' := 0) (by decide) ?_
  refine R_br 956 d171_29 (mb_t (b := ((0 : Int32) < (5 : Int32))) (by decide)) rfl ?_
  refine R_ic (v := 1) d171_956 (by decide) ?_
  exact R_iret d171_957 rfl rfl rfl
set_option maxRecDepth 4000 in
theorem w271 {f : Nat → Int32} (h0 : ((f 1) < 0)) : Run (5, f) 80 (0, [(0, .ref 32), (1, .int (f 1))], [], HL0) (.inl (some (.int (-1))), HL0) := by
  refine R_p d80_0 rfl rfl ?_
  refine R_br 12 d80_1 (mb_t (b := ((f 1) < 0)) h0) rfl ?_
  refine R_ic (v := (-1)) d80_12 (by decide) ?_
  refine R_br 22 d80_13 rfl rfl ?_
  exact R_iret d80_22 rfl rfl rfl
set_option maxRecDepth 4000 in
theorem w272 {f : Nat → Int32} (h0 : ((f 1) < 0)) : Run (5, f) 95 (0, [(0, .ref 16), (1, .int (f 1))], [], HL0) (.inl (some (.int (-1))), HL0) := by
  refine R_p d95_0 rfl rfl ?_
  refine R_get d95_1 (Or.inl (List.mem_of_getElem? (i := 47) rfl)) rfl rfl ?_
  refine R_p d95_4 rfl rfl ?_
  refine R_cm [.int (f 1)] d95_5 (List.mem_of_getElem? (i := 27) rfl) rfl ⟨by decide, by decide, Nat.le_of_ble_eq_true rfl, rfl, mcd80⟩ rfl rfl (Nat.le_of_ble_eq_true rfl) rfl rfl (w271 (f := f) h0) ?_
  exact R_iret d95_8 rfl rfl rfl
set_option maxRecDepth 4000 in
theorem w273 {f : Nat → Int32} (h0 : ((f 1) < 0)) : Run (5, f) 156 (0, [(0, .ref 42), (1, .int (f 1))], [], HL0) (.inl (some (.int (-1))), HL0) := by
  refine R_p d156_0 rfl rfl ?_
  refine R_ic (v := 0) d156_1 (by decide) ?_
  refine R_put d156_2 (List.mem_of_getElem? (i := 48) rfl) rfl (by decide) rfl rfl (Or.inl rfl) ?_
  refine R_p d156_5 rfl rfl ?_
  refine R_ic (v := 0) d156_6 (by decide) ?_
  refine R_p d156_7 rfl rfl ?_
  refine R_get d156_8 (Or.inl (List.mem_of_getElem? (i := 57) rfl)) rfl rfl ?_
  refine R_ic (v := 1) d156_11 (by decide) ?_
  refine R_p d156_12 rfl rfl ?_
  refine R_nv (v := _) (v' := (-1)) (by decide) ?_
  refine R_cs [.int (f 1), .int 0, .int (-1)] d156_13 (List.mem_of_getElem? (i := 163) rfl) rfl ⟨by decide, by decide, Nat.le_of_ble_eq_true rfl, rfl, mcd116⟩ rfl rfl (Nat.le_of_ble_eq_true rfl) (w262 (f := f) h0) ?_
  refine R_br 28 d156_16 (mb_t (b := ((0 : Int32) = (0 : Int32))) (by decide)) rfl ?_
  refine R_ic (v := (-1)) d156_28 (by decide) ?_
  exact R_iret d156_29 rfl rfl rfl
set_option maxRecDepth 4000 in
theorem law925_274 {f : Nat → Int32} (h0 : ((f 1) < 0)) : Run (5, f) 171 (925, [(0, .ref 0), (1, .ref 16), (2, .ref 42), (3, .ref 53), (4, .int 0)], [], HL0) (.inl (some (.int 1)), HL0) := by
  refine R_p d171_925 rfl rfl ?_
  refine R_p d171_926 rfl rfl ?_
  refine R_p d171_927 rfl rfl ?_
  refine R_ic (v := 1) d171_929 (by decide) ?_
  refine R_p d171_930 rfl rfl ?_
  refine R_nv (v := _) (v' := 1) (by decide) ?_
  refine R_sldk (n := 1) (x := (f 1)) d171_931 (vp_ok (by decide)) (by decide) rfl ?_
  refine R_cm [.int (f 1)] d171_932 (List.mem_of_getElem? (i := 26) rfl) rfl ⟨by decide, by decide, Nat.le_of_ble_eq_true rfl, rfl, mcd95⟩ rfl rfl (Nat.le_of_ble_eq_true rfl) rfl rfl (w272 (f := f) h0) ?_
  refine R_p d171_935 rfl rfl ?_
  refine R_p d171_936 rfl rfl ?_
  refine R_p d171_937 rfl rfl ?_
  refine R_ic (v := 1) d171_939 (by decide) ?_
  refine R_p d171_940 rfl rfl ?_
  refine R_nv (v := _) (v' := 1) (by decide) ?_
  refine R_sldk (n := 1) (x := (f 1)) d171_941 (vp_ok (by decide)) (by decide) rfl ?_
  refine R_cm [.int (f 1)] d171_942 (List.mem_of_getElem? (i := 203) rfl) rfl ⟨by decide, by decide, Nat.le_of_ble_eq_true rfl, rfl, mcd156⟩ rfl rfl (Nat.le_of_ble_eq_true rfl) rfl rfl (w273 (f := f) h0) ?_
  refine R_br 950 d171_945 (mb_t (b := (((-1) : Int32) = ((-1) : Int32))) (by decide)) rfl ?_
  refine R_p (ls' := [(0, .ref 0), (1, .ref 16), (2, .ref 42), (3, .ref 53), (4, .int 5)]) d171_950 rfl rfl ?_
  refine R_br 23 d171_953 rfl rfl ?_
  refine R_p d171_23 rfl rfl ?_
  refine R_p d171_25 rfl rfl ?_
  refine R_sln d171_26 ?_
  refine R_nv (v := _) (v' := 5) (show Int32.ofNat 5 = 5 from by decide) ?_
  refine R_ic (v := 5) d171_27 (by decide) ?_
  refine R_p d171_28 rfl rfl ?_
  refine R_nv (v := _) (v' := 0) (by decide) ?_
  refine R_br 956 d171_29 (mb_t (b := ((0 : Int32) < (5 : Int32))) (by decide)) rfl ?_
  refine R_ic (v := 1) d171_956 (by decide) ?_
  exact R_iret d171_957 rfl rfl rfl
set_option maxRecDepth 4000 in
theorem w275 {f : Nat → Int32} (h0 : ¬ ((f 1) < 0)) : Run (5, f) 80 (0, [(0, .ref 32), (1, .int (f 1))], [], HL0) (.inl (some (.int (-1))), HL0) := by
  refine R_p d80_0 rfl rfl ?_
  refine R_nb d80_1 rfl (mb_f (b := ((f 1) < 0)) h0) ?_
  refine R_p d80_4 rfl rfl ?_
  refine R_p d80_5 rfl rfl ?_
  refine R_get d80_6 (Or.inl (List.mem_of_getElem? (i := 40) rfl)) rfl rfl ?_
  refine R_nb d80_9 rfl (mb_f (b := ((f 1) < 0)) h0) ?_
  refine R_ic (v := (-1)) d80_12 (by decide) ?_
  refine R_br 22 d80_13 rfl rfl ?_
  exact R_iret d80_22 rfl rfl rfl
set_option maxRecDepth 4000 in
theorem w276 {f : Nat → Int32} (h0 : ¬ ((f 1) < 0)) : Run (5, f) 95 (0, [(0, .ref 16), (1, .int (f 1))], [], HL0) (.inl (some (.int (-1))), HL0) := by
  refine R_p d95_0 rfl rfl ?_
  refine R_get d95_1 (Or.inl (List.mem_of_getElem? (i := 47) rfl)) rfl rfl ?_
  refine R_p d95_4 rfl rfl ?_
  refine R_cm [.int (f 1)] d95_5 (List.mem_of_getElem? (i := 27) rfl) rfl ⟨by decide, by decide, Nat.le_of_ble_eq_true rfl, rfl, mcd80⟩ rfl rfl (Nat.le_of_ble_eq_true rfl) rfl rfl (w275 (f := f) h0) ?_
  exact R_iret d95_8 rfl rfl rfl
set_option maxRecDepth 4000 in
theorem w277 {f : Nat → Int32} (h0 : ¬ ((f 1) < 0)) : Run (5, f) 156 (0, [(0, .ref 42), (1, .int (f 1))], [], HL0) (.inl (some (.int (-1))), HL0) := by
  refine R_p d156_0 rfl rfl ?_
  refine R_ic (v := 0) d156_1 (by decide) ?_
  refine R_put d156_2 (List.mem_of_getElem? (i := 48) rfl) rfl (by decide) rfl rfl (Or.inl rfl) ?_
  refine R_p d156_5 rfl rfl ?_
  refine R_ic (v := 0) d156_6 (by decide) ?_
  refine R_p d156_7 rfl rfl ?_
  refine R_get d156_8 (Or.inl (List.mem_of_getElem? (i := 57) rfl)) rfl rfl ?_
  refine R_ic (v := 1) d156_11 (by decide) ?_
  refine R_p d156_12 rfl rfl ?_
  refine R_nv (v := _) (v' := (-1)) (by decide) ?_
  refine R_cs [.int (f 1), .int 0, .int (-1)] d156_13 (List.mem_of_getElem? (i := 163) rfl) rfl ⟨by decide, by decide, Nat.le_of_ble_eq_true rfl, rfl, mcd116⟩ rfl rfl (Nat.le_of_ble_eq_true rfl) (w268 (f := f) h0) ?_
  refine R_br 28 d156_16 (mb_t (b := ((0 : Int32) = (0 : Int32))) (by decide)) rfl ?_
  refine R_ic (v := (-1)) d156_28 (by decide) ?_
  exact R_iret d156_29 rfl rfl rfl
set_option maxRecDepth 4000 in
theorem law925_278 {f : Nat → Int32} (h0 : ¬ ((f 1) < 0)) : Run (5, f) 171 (925, [(0, .ref 0), (1, .ref 16), (2, .ref 42), (3, .ref 53), (4, .int 0)], [], HL0) (.inl (some (.int 1)), HL0) := by
  refine R_p d171_925 rfl rfl ?_
  refine R_p d171_926 rfl rfl ?_
  refine R_p d171_927 rfl rfl ?_
  refine R_ic (v := 1) d171_929 (by decide) ?_
  refine R_p d171_930 rfl rfl ?_
  refine R_nv (v := _) (v' := 1) (by decide) ?_
  refine R_sldk (n := 1) (x := (f 1)) d171_931 (vp_ok (by decide)) (by decide) rfl ?_
  refine R_cm [.int (f 1)] d171_932 (List.mem_of_getElem? (i := 26) rfl) rfl ⟨by decide, by decide, Nat.le_of_ble_eq_true rfl, rfl, mcd95⟩ rfl rfl (Nat.le_of_ble_eq_true rfl) rfl rfl (w276 (f := f) h0) ?_
  refine R_p d171_935 rfl rfl ?_
  refine R_p d171_936 rfl rfl ?_
  refine R_p d171_937 rfl rfl ?_
  refine R_ic (v := 1) d171_939 (by decide) ?_
  refine R_p d171_940 rfl rfl ?_
  refine R_nv (v := _) (v' := 1) (by decide) ?_
  refine R_sldk (n := 1) (x := (f 1)) d171_941 (vp_ok (by decide)) (by decide) rfl ?_
  refine R_cm [.int (f 1)] d171_942 (List.mem_of_getElem? (i := 203) rfl) rfl ⟨by decide, by decide, Nat.le_of_ble_eq_true rfl, rfl, mcd156⟩ rfl rfl (Nat.le_of_ble_eq_true rfl) rfl rfl (w277 (f := f) h0) ?_
  refine R_br 950 d171_945 (mb_t (b := (((-1) : Int32) = ((-1) : Int32))) (by decide)) rfl ?_
  refine R_p (ls' := [(0, .ref 0), (1, .ref 16), (2, .ref 42), (3, .ref 53), (4, .int 5)]) d171_950 rfl rfl ?_
  refine R_br 23 d171_953 rfl rfl ?_
  refine R_p d171_23 rfl rfl ?_
  refine R_p d171_25 rfl rfl ?_
  refine R_sln d171_26 ?_
  refine R_nv (v := _) (v' := 5) (show Int32.ofNat 5 = 5 from by decide) ?_
  refine R_ic (v := 5) d171_27 (by decide) ?_
  refine R_p d171_28 rfl rfl ?_
  refine R_nv (v := _) (v' := 0) (by decide) ?_
  refine R_br 956 d171_29 (mb_t (b := ((0 : Int32) < (5 : Int32))) (by decide)) rfl ?_
  refine R_ic (v := 1) d171_956 (by decide) ?_
  exact R_iret d171_957 rfl rfl rfl
end
section
theorem HJ21_z (f : Nat → Int32) : (HJ21 f).length ≤ 46 ∧ msl (HJ21 f) ≤ 9202 := by
  refine ⟨by simp [HJ21], ?_⟩
  simp only [HJ21, msl, List.map, mslot, List.length]
  decide
theorem HJ26_z (f : Nat → Int32) : (HJ26 f).length ≤ 46 ∧ msl (HJ26 f) ≤ 9202 := by
  refine ⟨by simp [HJ26], ?_⟩
  simp only [HJ26, msl, List.map, mslot, List.length]
  decide
theorem HJ7_z (f : Nat → Int32) : (HJ7 f).length ≤ 46 ∧ msl (HJ7 f) ≤ 9202 := by
  refine ⟨by simp [HJ7], ?_⟩
  simp only [HJ7, msl, List.map, mslot, List.length]
  decide
theorem HJ10_z : HJ10.length ≤ 46 ∧ msl HJ10 ≤ 9202 := by decide +kernel
theorem HJ12_z : HJ12.length ≤ 46 ∧ msl HJ12 ≤ 9202 := by decide +kernel
theorem HJ16_z : HJ16.length ≤ 46 ∧ msl HJ16 ≤ 9202 := by decide +kernel
theorem HJ2_z : HJ2.length ≤ 46 ∧ msl HJ2 ≤ 9202 := by decide +kernel
theorem HL0_z : HL0.length ≤ 46 ∧ msl HL0 ≤ 9202 := by decide +kernel
theorem case108 {f : Nat → Int32} : ∃ h', Run (5, f) 171 (108, [(0, .ref 0), (1, .ref 16), (2, .ref 42), (3, .ref 53), (4, .int 0)], [], HL0) (.inl (some (.int 1)), h') ∧ h'.length ≤ 46 ∧ msl h' ≤ 9202 := by
  by_cases g0 : ((f 1) < (-536870911))
  · skip
    exact ⟨HJ2, law108_9 (f := f) g0, HJ2_z⟩
  · skip
    by_cases g1 : (536870911 < (f 1))
    · skip
      exact ⟨HJ2, law108_16 (f := f) g0 g1, HJ2_z⟩
    · skip
      by_cases g2 : ((f 2) < (-536870911))
      · skip
        exact ⟨HJ2, law108_24 (f := f) g0 g1 g2, HJ2_z⟩
      · skip
        by_cases g3 : (536870911 < (f 2))
        · skip
          exact ⟨HJ2, law108_31 (f := f) g0 g1 g2 g3, HJ2_z⟩
        · skip
          exact ⟨(HJ7 f), law108_53 (f := f) g0 g1 g2 g3, HJ7_z f⟩
theorem case176 {f : Nat → Int32} : ∃ h', Run (5, f) 171 (176, [(0, .ref 0), (1, .ref 16), (2, .ref 42), (3, .ref 53), (4, .int 0)], [], HL0) (.inl (some (.int 1)), h') ∧ h'.length ≤ 46 ∧ msl h' ≤ 9202 := by
  by_cases g0 : ((f 1) < 0)
  · skip
    exact ⟨HJ2, law176_62 (f := f) g0, HJ2_z⟩
  · skip
    exact ⟨HJ2, law176_72 (f := f) g0, HJ2_z⟩
theorem case251 {f : Nat → Int32} : ∃ h', Run (5, f) 171 (251, [(0, .ref 0), (1, .ref 16), (2, .ref 42), (3, .ref 53), (4, .int 0)], [], HL0) (.inl (some (.int 1)), h') ∧ h'.length ≤ 46 ∧ msl h' ≤ 9202 := by
  by_cases g0 : ((f 1) < 0)
  · skip
    exact ⟨HJ2, law251_76 (f := f) g0, HJ2_z⟩
  · skip
    exact ⟨HJ2, law251_80 (f := f) g0, HJ2_z⟩
theorem case326 {f : Nat → Int32} : ∃ h', Run (5, f) 171 (326, [(0, .ref 0), (1, .ref 16), (2, .ref 42), (3, .ref 53), (4, .int 0)], [], HL0) (.inl (some (.int 1)), h') ∧ h'.length ≤ 46 ∧ msl h' ≤ 9202 := by
  exact ⟨HJ10, law326_86 (f := f), HJ10_z⟩
theorem case339 {f : Nat → Int32} : ∃ h', Run (5, f) 171 (339, [(0, .ref 0), (1, .ref 16), (2, .ref 42), (3, .ref 53), (4, .int 0)], [], HL0) (.inl (some (.int 1)), h') ∧ h'.length ≤ 46 ∧ msl h' ≤ 9202 := by
  by_cases g0 : ((f 1) = 0)
  · skip
    exact ⟨HJ12, law339_91 (f := f) g0, HJ12_z⟩
  · skip
    by_cases g1 : ((f 1) = 1)
    · skip
      exact ⟨HJ12, law339_95 (f := f) g0 g1, HJ12_z⟩
    · skip
      by_cases g2 : ((f 1) = 2)
      · skip
        exact ⟨HJ12, law339_99 (f := f) g0 g1 g2, HJ12_z⟩
      · skip
        by_cases g3 : ((f 1) = 3)
        · skip
          exact ⟨HJ12, law339_103 (f := f) g0 g1 g2 g3, HJ12_z⟩
        · skip
          by_cases g4 : ((f 1) = 4)
          · skip
            exact ⟨HJ12, law339_107 (f := f) g0 g1 g2 g3 g4, HJ12_z⟩
          · skip
            exact ⟨HJ12, law339_110 (f := f) g0 g1 g2 g3 g4, HJ12_z⟩
theorem case364 {f : Nat → Int32} : ∃ h', Run (5, f) 171 (364, [(0, .ref 0), (1, .ref 16), (2, .ref 42), (3, .ref 53), (4, .int 0)], [], HL0) (.inl (some (.int 1)), h') ∧ h'.length ≤ 46 ∧ msl h' ≤ 9202 := by
  by_cases g0 : ((f 1) < 0)
  · skip
    exact ⟨HJ16, law364_121 (f := f) g0, HJ16_z⟩
  · skip
    exact ⟨HJ16, law364_129 (f := f) g0, HJ16_z⟩
theorem case432 {f : Nat → Int32} : ∃ h', Run (5, f) 171 (432, [(0, .ref 0), (1, .ref 16), (2, .ref 42), (3, .ref 53), (4, .int 0)], [], HL0) (.inl (some (.int 1)), h') ∧ h'.length ≤ 46 ∧ msl h' ≤ 9202 := by
  by_cases g0 : ((f 1) < 0)
  · skip
    exact ⟨HJ16, law432_133 (f := f) g0, HJ16_z⟩
  · skip
    exact ⟨HJ16, law432_137 (f := f) g0, HJ16_z⟩
theorem case500 {f : Nat → Int32} : ∃ h', Run (5, f) 171 (500, [(0, .ref 0), (1, .ref 16), (2, .ref 42), (3, .ref 53), (4, .int 0)], [], HL0) (.inl (some (.int 1)), h') ∧ h'.length ≤ 46 ∧ msl h' ≤ 9202 := by
  by_cases g0 : ((f 1) < 0)
  · skip
    exact ⟨HJ2, law500_141 (f := f) g0, HJ2_z⟩
  · skip
    exact ⟨HJ2, law500_145 (f := f) g0, HJ2_z⟩
theorem case568 {f : Nat → Int32} : ∃ h', Run (5, f) 171 (568, [(0, .ref 0), (1, .ref 16), (2, .ref 42), (3, .ref 53), (4, .int 0)], [], HL0) (.inl (some (.int 1)), h') ∧ h'.length ≤ 46 ∧ msl h' ≤ 9202 := by
  by_cases g0 : ((f 1) < 0)
  · skip
    exact ⟨HJ2, law568_149 (f := f) g0, HJ2_z⟩
  · skip
    exact ⟨HJ2, law568_153 (f := f) g0, HJ2_z⟩
theorem case648 {f : Nat → Int32} : ∃ h', Run (5, f) 171 (648, [(0, .ref 0), (1, .ref 16), (2, .ref 42), (3, .ref 53), (4, .int 0)], [], HL0) (.inl (some (.int 1)), h') ∧ h'.length ≤ 46 ∧ msl h' ≤ 9202 := by
  by_cases g0 : ((f 1) < 0)
  · skip
    exact ⟨HJ2, law648_157 (f := f) g0, HJ2_z⟩
  · skip
    exact ⟨HJ2, law648_161 (f := f) g0, HJ2_z⟩
theorem case740 {f : Nat → Int32} : ∃ h', Run (5, f) 171 (740, [(0, .ref 0), (1, .ref 16), (2, .ref 42), (3, .ref 53), (4, .int 0)], [], HL0) (.inl (some (.int 1)), h') ∧ h'.length ≤ 46 ∧ msl h' ≤ 9202 := by
  by_cases g0 : ((f 1) < (-536870911))
  · skip
    exact ⟨HJ2, law740_165 (f := f) g0, HJ2_z⟩
  · skip
    by_cases g1 : (536870911 < (f 1))
    · skip
      exact ⟨HJ2, law740_169 (f := f) g0 g1, HJ2_z⟩
    · skip
      by_cases g2 : ((f 2) < (-536870911))
      · skip
        exact ⟨HJ2, law740_173 (f := f) g0 g1 g2, HJ2_z⟩
      · skip
        by_cases g3 : (536870911 < (f 2))
        · skip
          exact ⟨HJ2, law740_177 (f := f) g0 g1 g2 g3, HJ2_z⟩
        · skip
          exact ⟨(HJ21 f), law740_191 (f := f) g0 g1 g2 g3, HJ21_z f⟩
theorem case808 {f : Nat → Int32} : ∃ h', Run (5, f) 171 (808, [(0, .ref 0), (1, .ref 16), (2, .ref 42), (3, .ref 53), (4, .int 0)], [], HL0) (.inl (some (.int 1)), h') ∧ h'.length ≤ 46 ∧ msl h' ≤ 9202 := by
  by_cases g0 : ((f 1) < (-536870911))
  · skip
    exact ⟨HJ2, law808_195 (f := f) g0, HJ2_z⟩
  · skip
    by_cases g1 : (536870911 < (f 1))
    · skip
      exact ⟨HJ2, law808_199 (f := f) g0 g1, HJ2_z⟩
    · skip
      by_cases g2 : ((f 2) < (-536870911))
      · skip
        exact ⟨HJ2, law808_203 (f := f) g0 g1 g2, HJ2_z⟩
      · skip
        by_cases g3 : (536870911 < (f 2))
        · skip
          exact ⟨HJ2, law808_207 (f := f) g0 g1 g2 g3, HJ2_z⟩
        · skip
          by_cases g4 : ((f 3) < (-536870911))
          · skip
            exact ⟨HJ2, law808_216 (f := f) g0 g1 g2 g3 g4, HJ2_z⟩
          · skip
            by_cases g5 : (536870911 < (f 3))
            · skip
              exact ⟨HJ2, law808_223 (f := f) g0 g1 g2 g3 g4 g5, HJ2_z⟩
            · skip
              by_cases g6 : ((f 4) < (-536870911))
              · skip
                exact ⟨HJ2, law808_231 (f := f) g0 g1 g2 g3 g4 g5 g6, HJ2_z⟩
              · skip
                by_cases g7 : (536870911 < (f 4))
                · skip
                  exact ⟨HJ2, law808_238 (f := f) g0 g1 g2 g3 g4 g5 g6 g7, HJ2_z⟩
                · skip
                  exact ⟨(HJ26 f), law808_258 (f := f) g0 g1 g2 g3 g4 g5 g6 g7, HJ26_z f⟩
theorem case900 {f : Nat → Int32} : ∃ h', Run (5, f) 171 (900, [(0, .ref 0), (1, .ref 16), (2, .ref 42), (3, .ref 53), (4, .int 0)], [], HL0) (.inl (some (.int 1)), h') ∧ h'.length ≤ 46 ∧ msl h' ≤ 9202 := by
  by_cases g0 : ((f 1) < 0)
  · skip
    exact ⟨HL0, law900_264 (f := f) g0, HL0_z⟩
  · skip
    exact ⟨HL0, law900_270 (f := f) g0, HL0_z⟩
theorem case925 {f : Nat → Int32} : ∃ h', Run (5, f) 171 (925, [(0, .ref 0), (1, .ref 16), (2, .ref 42), (3, .ref 53), (4, .int 0)], [], HL0) (.inl (some (.int 1)), h') ∧ h'.length ≤ 46 ∧ msl h' ≤ 9202 := by
  by_cases g0 : ((f 1) < 0)
  · skip
    exact ⟨HL0, law925_274 (f := f) g0, HL0_z⟩
  · skip
    exact ⟨HL0, law925_278 (f := f) g0, HL0_z⟩
theorem sw_out14 {x : Int32} (h0 : ¬ x = 0) (h1 : ¬ x = 1) (h2 : ¬ x = 2) (h3 : ¬ x = 3) (h4 : ¬ x = 4) (h5 : ¬ x = 5) (h6 : ¬ x = 6) (h7 : ¬ x = 7) (h8 : ¬ x = 8) (h9 : ¬ x = 9) (h10 : ¬ x = 10) (h11 : ¬ x = 11) (h12 : ¬ x = 12) (h13 : ¬ x = 13) : x.toInt < 0 ∨ 13 < x.toInt := by
  have a0 := sw_ne h0; rw [show (0 : Int32).toInt = 0 from by decide] at a0
  have a1 := sw_ne h1; rw [show (1 : Int32).toInt = 1 from by decide] at a1
  have a2 := sw_ne h2; rw [show (2 : Int32).toInt = 2 from by decide] at a2
  have a3 := sw_ne h3; rw [show (3 : Int32).toInt = 3 from by decide] at a3
  have a4 := sw_ne h4; rw [show (4 : Int32).toInt = 4 from by decide] at a4
  have a5 := sw_ne h5; rw [show (5 : Int32).toInt = 5 from by decide] at a5
  have a6 := sw_ne h6; rw [show (6 : Int32).toInt = 6 from by decide] at a6
  have a7 := sw_ne h7; rw [show (7 : Int32).toInt = 7 from by decide] at a7
  have a8 := sw_ne h8; rw [show (8 : Int32).toInt = 8 from by decide] at a8
  have a9 := sw_ne h9; rw [show (9 : Int32).toInt = 9 from by decide] at a9
  have a10 := sw_ne h10; rw [show (10 : Int32).toInt = 10 from by decide] at a10
  have a11 := sw_ne h11; rw [show (11 : Int32).toInt = 11 from by decide] at a11
  have a12 := sw_ne h12; rw [show (12 : Int32).toInt = 12 from by decide] at a12
  have a13 := sw_ne h13; rw [show (13 : Int32).toInt = 13 from by decide] at a13
  omega
theorem case_none {f : Nat → Int32} : ∃ h', Run (5, f) 171 (950, [(0, .ref 0), (1, .ref 16), (2, .ref 42), (3, .ref 53), (4, .int 0)], [], HL0) (.inl (some (.int 1)), h') ∧ h'.length ≤ 46 ∧ msl h' ≤ 9202 := by
  refine ⟨HL0, ?_, by decide +kernel, by decide +kernel⟩
  refine R_p (ls' := [(0, .ref 0), (1, .ref 16), (2, .ref 42), (3, .ref 53), (4, .int 5)]) d171_950 rfl rfl ?_
  refine R_br 23 d171_953 rfl rfl ?_
  exact law_out (S := (5, f)) (tl := []) (show Int32.ofNat 5 - 5 < 5 by decide)
theorem law_sw {f : Nat → Int32} : ∃ h', Run (5, f) 171 (39, [(0, .ref 0), (1, .ref 16), (2, .ref 42), (3, .ref 53), (4, .int 0)], [.int (f 0 &&& 15)], HL0) (.inl (some (.int 1)), h') ∧ h'.length ≤ 46 ∧ msl h' ≤ 9202 := by
  by_cases c0 : f 0 &&& 15 = 0
  · obtain ⟨h', k, a, b⟩ := case108 (f := f)
    exact ⟨h', R_nv (v' := 0) c0 (R_swi 108 d171_39 (by decide) (by decide) rfl rfl k), a, b⟩
  by_cases c1 : f 0 &&& 15 = 1
  · obtain ⟨h', k, a, b⟩ := case176 (f := f)
    exact ⟨h', R_nv (v' := 1) c1 (R_swi 176 d171_39 (by decide) (by decide) rfl rfl k), a, b⟩
  by_cases c2 : f 0 &&& 15 = 2
  · obtain ⟨h', k, a, b⟩ := case251 (f := f)
    exact ⟨h', R_nv (v' := 2) c2 (R_swi 251 d171_39 (by decide) (by decide) rfl rfl k), a, b⟩
  by_cases c3 : f 0 &&& 15 = 3
  · obtain ⟨h', k, a, b⟩ := case326 (f := f)
    exact ⟨h', R_nv (v' := 3) c3 (R_swi 326 d171_39 (by decide) (by decide) rfl rfl k), a, b⟩
  by_cases c4 : f 0 &&& 15 = 4
  · obtain ⟨h', k, a, b⟩ := case339 (f := f)
    exact ⟨h', R_nv (v' := 4) c4 (R_swi 339 d171_39 (by decide) (by decide) rfl rfl k), a, b⟩
  by_cases c5 : f 0 &&& 15 = 5
  · obtain ⟨h', k, a, b⟩ := case364 (f := f)
    exact ⟨h', R_nv (v' := 5) c5 (R_swi 364 d171_39 (by decide) (by decide) rfl rfl k), a, b⟩
  by_cases c6 : f 0 &&& 15 = 6
  · obtain ⟨h', k, a, b⟩ := case432 (f := f)
    exact ⟨h', R_nv (v' := 6) c6 (R_swi 432 d171_39 (by decide) (by decide) rfl rfl k), a, b⟩
  by_cases c7 : f 0 &&& 15 = 7
  · obtain ⟨h', k, a, b⟩ := case500 (f := f)
    exact ⟨h', R_nv (v' := 7) c7 (R_swi 500 d171_39 (by decide) (by decide) rfl rfl k), a, b⟩
  by_cases c8 : f 0 &&& 15 = 8
  · obtain ⟨h', k, a, b⟩ := case568 (f := f)
    exact ⟨h', R_nv (v' := 8) c8 (R_swi 568 d171_39 (by decide) (by decide) rfl rfl k), a, b⟩
  by_cases c9 : f 0 &&& 15 = 9
  · obtain ⟨h', k, a, b⟩ := case648 (f := f)
    exact ⟨h', R_nv (v' := 9) c9 (R_swi 648 d171_39 (by decide) (by decide) rfl rfl k), a, b⟩
  by_cases c10 : f 0 &&& 15 = 10
  · obtain ⟨h', k, a, b⟩ := case740 (f := f)
    exact ⟨h', R_nv (v' := 10) c10 (R_swi 740 d171_39 (by decide) (by decide) rfl rfl k), a, b⟩
  by_cases c11 : f 0 &&& 15 = 11
  · obtain ⟨h', k, a, b⟩ := case808 (f := f)
    exact ⟨h', R_nv (v' := 11) c11 (R_swi 808 d171_39 (by decide) (by decide) rfl rfl k), a, b⟩
  by_cases c12 : f 0 &&& 15 = 12
  · obtain ⟨h', k, a, b⟩ := case900 (f := f)
    exact ⟨h', R_nv (v' := 12) c12 (R_swi 900 d171_39 (by decide) (by decide) rfl rfl k), a, b⟩
  by_cases c13 : f 0 &&& 15 = 13
  · obtain ⟨h', k, a, b⟩ := case925 (f := f)
    exact ⟨h', R_nv (v' := 13) c13 (R_swi 925 d171_39 (by decide) (by decide) rfl rfl k), a, b⟩
  obtain ⟨h', k, a, b⟩ := case_none (f := f)
  exact ⟨h', R_swo 950 d171_39 (sw_out14 c0 c1 c2 c3 c4 c5 c6 c7 c8 c9 c10 c11 c12 c13) rfl k, a, b⟩
theorem law_p1 {L : Nat} (f : Nat → Int32) (hL : L ≤ 5) : ∃ h', Run (L, f) 171 (0, [(0, .ref 0)], [], []) (.inl (some (.int 1)), h') ∧ h'.length ≤ 46 ∧ msl h' ≤ 9202 := by
  by_cases h5 : L = 5
  · subst h5
    obtain ⟨h', k, a, b⟩ := law_sw (f := f)
    exact ⟨h', law_entry (law_in (N := 5) (n := 0) (tl := []) (by decide) (vp_ok (by decide)) (by decide) k), a, b⟩
  · exact ⟨HL0, law_entry (law_out (S := (L, f)) (tl := []) ((by decide : ∀ L, L < 5 → Int32.ofNat L - 5 < 0) L (by omega))), by decide +kernel, by decide +kernel⟩
end
section
/-! THE CLAIM OUT OF ONE WALK OF THE LAW'S BODY. Your part is whole_start (and what it stands on); all else here is the same for every law, but numbers. -/
def R_law : String := "MeshWalkLaw"
def lw_P (b : Addr) (xs : List Int32) (args : Array Value) (s : State) : Prop := args = #[.ref b] ∧ s.IntsAt b xs ∧ xs.length ≤ 5 ∧ (Jvm.Cond.and given_1 narrow_1).before args s = true
def lw_Q (_ : Array Value) (s : State) (o : Outcome) (t : State) : Prop := o = .returned (some (.int 1)) ∧ Framed s o t [] 46 9202
def lw_Z (below : List Frame) (a : Array Value) (s : State) : State → Prop := fun t => ∃ o, t.status = .running ∧ Ended t below o ∧ lw_Q a s o t
/-- the law's own end, with 1 on the stack, nothing written that was there before, its room as the claim has it -/
theorem lw_ret {p : Program} {l : Launch} {e : Env} {s : State} {m : MethodId} {below : List Frame} {meth : Method} {c : Code} {b : Nat} (hx : p.tables.exec = Jvm.exec) (hb : c.code = code) (hr : meth.sig.returnType = ret) (hlocks : meth.locks = false) {pc : Nat} {H : Heap} {ls : Array Slot} (hdg : decode code pc = .ok (.ireturn, 1)) : W p l e room_1 s m #[Value.ref b] below meth c H [] 46 9202 (lw_Z below #[Value.ref b] s) (F0 m pc ls [.int 1]) := by
  intro T hT X
  obtain ⟨fs, hret, hrun, hended, hW, hframe⟩ := X.leave (v := some (.int 1)) (hlocks := hlocks) (fun h => by rw [hr] at h; cases h)
  have hmeth' : T.vm.method? m = some meth := X.method'
  refine ⟨T.setFrames fs, ?_, .returned (some (.int 1)), hrun, hended, rfl, ⟨_, rfl⟩, hW, hframe⟩
  jvm_step X.here [X.here.top, hx, hb, hdg, hmeth', hr, ret, narrow_b1]
  (try refine ⟨rfl, ?_⟩); (try refine ⟨rfl, ?_⟩)
  first | (intro acts; rw [hret _ acts rfl rfl rfl]) | rw [hret _ _ rfl rfl rfl]
  exact Steps.refl _
/-- what holds at the law's entry: the machine, the code, the tables' words (any of lw_tbl by 'hts w (by decide +kernel)'), the script of L ints xs at the cell b, what the Statement gives of the start (any of its parts by flat_of_before) -/
def lw_At (p : Program) (s : State) (m : MethodId) (meth : Method) (c : Code) (b L : Nat) (xs : Nat → Int32) : Prop :=
  p.tables.exec = Jvm.exec ∧ c.code = code ∧ meth.sig.returnType = ret ∧ c.maxLocals = 7 ∧ s.vm.findClass R_law = some m.cls ∧ (∀ w ∈ lw_tbl, w.before #[Value.ref b] s = true) ∧ va_X b L xs s s.heap ∧ b < s.heap.size ∧ meth.locks = false ∧ (Jvm.Cond.and given_1 narrow_1).before #[Value.ref b] s = true
/-! from a Run of the law to the law's walk -/
theorem m_tb {s : State} {A : Array Value} (hts : ∀ w ∈ lw_tbl, w.before A s = true) : mTb s := by
  intro w hw
  have g : mGood w = true := (List.mem_filter.mp hw).2
  have hb := hts w (List.mem_filter.mp hw).1
  unfold mGood at g
  by_cases hg : goodWord w = true
  · exact word_at (State.WarmedH.refl s) (good_of_word hg) hb
  · cases w with
    | fieldLinkNest a i b n d h => exact va_Nw.of rfl hb
    | methodLinkNest a i x h => exact va_Nw.of rfl hb
    | castable a b => exact va_Nw.of rfl hb
    | declares x => exact va_Nw.of rfl hb
    | _ => simp [hg] at g
theorem m_inst {ci : Nat} {C : String} {T : u_T} {N : Nat} (h : mcl[ci]? = some (C, T, N)) : ∃ n, Cond.instantiable C n ∈ mTbl := by
  match ci, h with
  | 0, h => cases h; exact ⟨4, mIs.mem (i := 209) (by decide +kernel)⟩
  | 1, h => cases h; exact ⟨8, mIs.mem (i := 203) (by decide +kernel)⟩
  | 2, h => cases h; exact ⟨5, mIs.mem (i := 175) (by decide +kernel)⟩
  | 3, h => cases h; exact ⟨3, mIs.mem (i := 121) (by decide +kernel)⟩
  | 4, h => cases h; exact ⟨9, mIs.mem (i := 138) (by decide +kernel)⟩
  | 5, h => cases h; exact ⟨4, mIs.mem (i := 85) (by decide +kernel)⟩
  | 6, h => cases h; exact ⟨7, mIs.mem (i := 197) (by decide +kernel)⟩
  | 7, h => cases h; exact ⟨3, mIs.mem (i := 91) (by decide +kernel)⟩
  | 8, h => cases h; exact ⟨5, mIs.mem (i := 77) (by decide +kernel)⟩
  | 9, h => cases h; exact ⟨18, mIs.mem (i := 887) (by decide +kernel)⟩
  | 10, h => cases h; exact ⟨6, mIs.mem (i := 372) (by decide +kernel)⟩
  | 11, h => cases h; exact ⟨6, mIs.mem (i := 440) (by decide +kernel)⟩
  | 12, h => cases h; exact ⟨6, mIs.mem (i := 720) (by decide +kernel)⟩
  | n + 13, h => simp [mcl] at h
theorem m_cls {s : State} (hT : mTb s) : ∃ D : va_G, ∀ (c : Nat) (q : vw_C), mcl[c]? = some q → u_Kn s q.1 q.2.1 q.2.2 (D.1 c) (D.2 c) := by
  have key : ∀ c : Nat, ∃ z : ClassId × (Nat → Nat), ∀ q : vw_C, mcl[c]? = some q → u_Kn s q.1 q.2.1 q.2.2 z.1 z.2 := by
    intro c
    cases hq : mcl[c]? with
    | none => exact ⟨((0 : Nat), fun _ => 0), fun q h => by cases h⟩
    | some q =>
      obtain ⟨C, T, N⟩ := q
      obtain ⟨n, hi⟩ := m_inst hq
      obtain ⟨cC, iS, h⟩ := u_known (args := #[]) hT (m_lay hq) (mTb_use hT hi)
      exact ⟨(cC, iS), fun q' h' => by cases h'; exact h⟩
  exact ⟨(fun c => (Classical.choose (key c)).1, fun c => (Classical.choose (key c)).2), fun c q h => Classical.choose_spec (key c) q h⟩
theorem m_arrI {s : State} (hT : mTb s) : ∃ cA : ClassId, ArrOfT s cA .int ∧ va_RA s cA .int := by
  obtain ⟨cA, kA, comp, h1, h2, h3⟩ := Cond.arrayClass_spec (mTb_use (a := #[]) hT marr1)
  exact ⟨cA, fun n z => ⟨fun k h => (by cases h), kA, h2, comp, h3⟩, h1⟩
theorem m_arrJ {s : State} (hT : mTb s) : ∃ cA : ClassId, ArrOfT s cA .long ∧ va_RA s cA .long := by
  obtain ⟨cA, kA, comp, h1, h2, h3⟩ := Cond.arrayClass_spec (mTb_use (a := #[]) hT marr2)
  exact ⟨cA, fun n z => ⟨fun k h => (by cases h), kA, h2, comp, h3⟩, h1⟩
theorem m_arrZ {s : State} (hT : mTb s) : ∃ cA : ClassId, ArrOfT s cA .boolean ∧ va_RA s cA .boolean := by
  obtain ⟨cA, kA, comp, h1, h2, h3⟩ := Cond.arrayClass_spec (mTb_use (a := #[]) hT marr3)
  exact ⟨cA, fun n z => ⟨fun k h => (by cases h), kA, h2, comp, h3⟩, h1⟩
theorem m_st1 {A : Array Value} {s : State} {n d : String} (h1 : (Cond.laysStatic "java/lang/Throwable" n d).before A s = true) (h2 : (Cond.isRef (.static "java/lang/Throwable" n d)).before A s = true) : ∃ c k i f a cell v, s.vm.findClass "java/lang/Throwable" = some c ∧ s.fieldFound? "java/lang/Throwable" n d = some (c, k, i, f) ∧ f.isStatic = true ∧ k.statics = some a ∧ a < s.heap.size ∧ s.heap[a]? = some cell ∧ cell.vm.isStatics = true ∧ cell.cls = c ∧ f.slot < cell.slots.size ∧ k.staticTypes[f.slot]? = some f.type ∧ cell.slots[f.slot]? = some v ∧ v.isRef = true := by
  simp only [Cond.before, Cond.holds, Cond.value] at h1 h2
  cases hc : s.vm.findClass "java/lang/Throwable" with
  | none => simp [hc] at h1
  | some c =>
    cases hf : s.fieldFound? "java/lang/Throwable" n d with
    | none => simp [hc, hf] at h1
    | some x =>
      obtain ⟨c', k, i, f⟩ := x
      cases hs : k.statics with
      | none => simp [hc, hf, hs] at h1
      | some a =>
        cases hh : s.heap[a]? with
        | none => simp [hc, hf, hs, hh] at h1
        | some cell =>
          simp [hc, hf, hs, hh] at h1
          obtain ⟨⟨⟨⟨⟨p1, p2⟩, p3⟩, p4⟩, p5⟩, p6⟩ := h1
          subst p2
          have hv : cell.slots[f.slot]? = some cell.slots[f.slot] := Array.getElem?_eq_getElem p5
          refine ⟨c, k, i, f, a, cell, cell.slots[f.slot], rfl, rfl, p1, hs, (Array.getElem?_eq_some_iff.mp hh).1, hh, p3, p4, p5, p6, hv, ?_⟩
          simp [Term.eval, State.fieldNamed?, hf, p1, hs, hh, p3, hv] at h2
          generalize cell.slots[f.slot] = v at h2
          cases v <;> simp [Value.isRef] at h2 ⊢
theorem m_str1 {A : Array Value} {s : State} {k : Nat} (h2 : (Cond.exactly (.string "MeshWalk" k) "java/lang/String").before A s = true) : ∃ a, (Term.string "MeshWalk" k).eval A s none [] s = some (.ref a) := by
  simp only [Cond.before, Cond.holds, Cond.value] at h2
  cases ht : (Term.string "MeshWalk" k).eval A s none [] s with
  | none => simp [ht] at h2
  | some v =>
    cases v with
    | ref a => exact ⟨a, rfl⟩
    | _ => cases hc : s.vm.findClass "java/lang/String" <;> simp [ht, hc] at h2
theorem m_cast {A : Array Value} {s : State} {X Y : String} (h : (Cond.not (.castable X Y)).before A s = true) : (Cond.castable X Y).before #[] s = false := by
  cases hz : (Cond.castable X Y).before #[] s with
  | false => rfl
  | true =>
    have h3 : (Cond.castable X Y).before A s = true := va_tabs rfl rfl hz
    simp only [Cond.before, Cond.holds] at h3
    simp only [Cond.before, Cond.holds] at h
    rw [show (Cond.not (.castable X Y)).value A s none s [] = ((Cond.castable X Y).value A s none s []).map (!·) from by simp only [Cond.value]] at h
    generalize (Cond.castable X Y).value A s none s [] = z at h h3
    cases z with
    | none => simp at h
    | some b => cases b <;> simp at h h3
theorem m_start {p : Program} {e : Env} {s : State} {m : MethodId} {below : List Frame} {meth : Method} {c : Code} (l : Launch) (hfl : l.flags = pinnedFlags ++ [noTraceFlag]) {b L : Nat} {xs : Nat → Int32} (C0 : lw_At p s m meth c b L xs) (hnm : meth.name = "law") (hxt : c.exceptionTable.toList.map (fun h => (h.startPc, h.endPc, h.handlerPc, h.catchType)) = []) {h' : mHp} (k : Run (L, xs) 171 (0, [(0, .ref 0)], [], []) (.inl (some (.int 1)), h')) (hc : h'.length ≤ 46) (hs : msl h' ≤ 9202) : W p l e room_1 s m #[Value.ref b] below meth c s.heap [] 0 0 (lw_Z below #[Value.ref b] s) (entryFrame m ([Value.ref b] : List Value).toArray 7) := by
  obtain ⟨hx, hb, hr, hml, hown, hts, hX, hbl, hlk, hgv⟩ := C0
  have hT : mTb s := m_tb hts
  have hfl0 := flat_of_before _ hgv
  obtain ⟨D, hD⟩ := m_cls hT
  obtain ⟨cI, i1, i2⟩ := m_arrI hT
  obtain ⟨cJ, j1, j2⟩ := m_arrJ hT
  obtain ⟨cZ, z1, z2⟩ := m_arrZ hT
  have hSt : mSt s.heap.size s := by
    intro q hq
    simp only [mStatT, List.mem_cons, List.not_mem_nil, or_false] at hq
    rcases hq with rfl | rfl
    · exact m_st1 (hts (.laysStatic "java/lang/Throwable" "UNASSIGNED_STACK" "[Ljava/lang/StackTraceElement;") (by decide +kernel)) (hfl0 _ (by decide +kernel))
    · exact m_st1 (hts (.laysStatic "java/lang/Throwable" "SUPPRESSED_SENTINEL" "Ljava/util/List;") (by decide +kernel)) (hfl0 _ (by decide +kernel))
  obtain ⟨a1, t1⟩ := m_str1 (hfl0 (.exactly (.string "MeshWalk" 168) "java/lang/String") (by decide +kernel))
  obtain ⟨a2, t2⟩ := m_str1 (hfl0 (.exactly (.string "MeshWalk" 60) "java/lang/String") (by decide +kernel))
  obtain ⟨a3, t3⟩ := m_str1 (hfl0 (.exactly (.string "MeshWalk" 170) "java/lang/String") (by decide +kernel))
  obtain ⟨a4, t4⟩ := m_str1 (hfl0 (.exactly (.string "MeshWalk" 172) "java/lang/String") (by decide +kernel))
  obtain ⟨a5, t5⟩ := m_str1 (hfl0 (.exactly (.string "MeshWalk" 176) "java/lang/String") (by decide +kernel))
  obtain ⟨a6, t6⟩ := m_str1 (hfl0 (.exactly (.string "MeshWalk" 144) "java/lang/String") (by decide +kernel))
  have X : mCx D s.heap.size (fun j => [b, a1, a2, a3, a4, a5, a6].getD j 0) (fun ty => match ty with | .int => cI | .long => cJ | _ => cZ) (L, xs) s := by
    refine ⟨⟨hD, ?_⟩, hX, hbl, Nat.le_refl _, hT, hSt, ?_, m_cast (hfl0 (.not (.castable "java/lang/IllegalStateException" "java/lang/IllegalArgumentException")) (by decide +kernel))⟩
    · intro k q hq
      match k, hq with
      | 0, h => cases h; exact ⟨i1, i2⟩
      | 1, h => cases h; exact ⟨j1, j2⟩
      | 2, h => cases h; exact ⟨z1, z2⟩
      | n + 3, h => simp [mtys] at h
    · intro q hq
      simp only [mStrT, List.mem_cons, List.not_mem_nil, or_false] at hq
      rcases hq with rfl | rfl | rfl | rfl | rfl | rfl
      · exact vk_R.of (hts _ (by decide +kernel)) t1
      · exact vk_R.of (hts _ (by decide +kernel)) t2
      · exact vk_R.of (hts _ (by decide +kernel)) t3
      · exact vk_R.of (hts _ (by decide +kernel)) t4
      · exact vk_R.of (hts _ (by decide +kernel)) t5
      · exact vk_R.of (hts _ (by decide +kernel)) t6
  have F : mFix 171 p s m meth c := ⟨hx, hb, hr, hml, hlk, hnm, hown, hxt⟩
  have hl := lv_entry ([Value.ref b]) (n := 7) (Nat.le_of_ble_eq_true rfl)
  have K := (Run.sem (l := l) (D := D) (n0 := s.heap.size) (ex := fun j => [b, a1, a2, a3, a4, a5, a6].getD j 0) (dA := fun ty => match ty with | .int => cI | .long => cJ | _ => cZ) hfl k).2.2 p e room_1 s m #[Value.ref b] below meth c s.heap [] _ 0 0 h'.length (msl h') 0 F X (fun k q hq => by simp [mws] at hq) va_S.rf hl (by decide) (by decide) hc hs rfl rfl rfl (by simp)
  rw [lg_entry_eq]
  refine W.mono (fun t ht => ?_) K
  obtain ⟨q1, q2, q3, ⟨Lc, q4, q5⟩, q6, q7⟩ := ht
  exact ⟨_, q1, q2, rfl, ⟨_, rfl⟩, q3, (State.sameButNew.drop_fresh (L := []) (J := Lc) q4 q5).mono hc hs⟩
end
section
theorem whole_start {p : Program} {e : Env} {s : State} {m : MethodId} {below : List Frame} {meth : Method} {c : Code} (l : Launch) (hfl : l.flags = pinnedFlags ++ [noTraceFlag]) (hnm : meth.name = "law") (hxt : c.exceptionTable.toList.map (fun h => (h.startPc, h.endPc, h.handlerPc, h.catchType)) = []) {b L : Nat} {xs : Nat → Int32} (hL : L ≤ 5) (C0 : lw_At p s m meth c b L xs) : W p l e room_1 s m #[Value.ref b] below meth c s.heap [] 0 0 (lw_Z below #[Value.ref b] s) (entryFrame m ([Value.ref b] : List Value).toArray 7) := by
  obtain ⟨h', k, a, b⟩ := law_p1 xs hL
  exact m_start l hfl C0 hnm hxt k a b
end
section
set_option maxHeartbeats 4000000 in
theorem lw_walk (l : Launch) (hfl : l.flags = pinnedFlags ++ [noTraceFlag]) (b : Addr) (xs : List Int32) : MetFree l x (headSpec (Jvm.Cond.code x code maxLocals ret :: tables_1) room_1) (lw_P b xs) (fun _ _ _ _ _ => True) lw_Q := by
  refine MetFree.of_bodyS (code := code) (maxLocals := maxLocals) (ret := ret) (by decide) ?_ ?_
  · intro args s m h hn
    obtain ⟨meth, c, h1, h2, h3, h4, h5, h6, -, -⟩ := Cond.code_spec hn (atoms_spec (ws := Jvm.Cond.code x code maxLocals ret :: tables_1) h _ List.mem_cons_self)
    exact ⟨meth, c, h1, h2, h3, h4, h5, h6⟩
  · intro p e s m args below meth c s₁ B hml0 hP _
    obtain ⟨rfl, hx, hbd, hgv⟩ := hP
    obtain ⟨scr, harrAt, hlist, hof, hsmall⟩ := hx
    obtain ⟨hcb, hkn, -, -⟩ := State.arrayAt?_spec harrAt
    have hown : s.vm.findClass R_law = some m.cls := findClass_of_methodNamed B.named
    have hts0 : ∀ c ∈ (Jvm.Cond.code x code maxLocals ret :: tables_1), c.before #[Value.ref b] s = true := atoms_spec (ws := Jvm.Cond.code x code maxLocals ret :: tables_1) B.pre
    have hts : ∀ w ∈ lw_tbl, w.before #[Value.ref b] s = true := k2_hts_sels lw_privs (fun w hw => hts0 w (List.mem_cons_of_mem _ hw)) lw_privs_ok
    have hml : c.maxLocals = 7 := B.maxLocals_eq (hts0 _ List.mem_cons_self)
    have X₀ : Stand p l e room_1 s m #[Value.ref b] below meth c s₁ [] 0 0 := Stand.of_body B
    obtain ⟨meth', c', q1, q2, q3, q4, q5, q6, q7, q8⟩ := Cond.code_spec B.named (hts0 _ List.mem_cons_self)
    have hnm : meth.name = "law" := (name_of_methodNamed B.named X₀.method).1
    have e1 : meth' = meth := Option.some.inj (q1.symm.trans X₀.method)
    rw [e1] at q2
    have e2 : c' = c := Option.some.inj (q2.symm.trans X₀.code)
    rw [e2] at q7
    have hxt : c.exceptionTable.toList.map (fun h => (h.startPc, h.endPc, h.handlerPc, h.catchType)) = [] := by
      have h0 : c.exceptionTable.size = 0 := by simpa [Array.isEmpty] using q7
      have h9 : c.exceptionTable.toList = [] := List.eq_nil_of_length_eq_zero (by simpa using h0)
      rw [h9]; rfl
    have hh0 : s₁.heap = s.heap := by rw [B.state]; rfl
    have hsz : scr.slots.size = xs.length := by rw [← Array.length_toList, hlist, List.length_map]
    have hval : ∀ j : Nat, j < xs.length → scr.slots[j]? = some (.int (xs.getD j 0)) := fun j hj => by
      rw [← Array.getElem?_toList, hlist]
      simp [hj]
    have hbl : b < s.heap.size := (Array.getElem?_eq_some_iff.mp hcb).1
    have hX : va_X b xs.length (fun j => xs.getD j 0) s s.heap := ⟨scr, hcb, hof, hkn, hsz, hval⟩
    have K : W p l e room_1 s m #[Value.ref b] below meth c s₁.heap [] 0 0 (lw_Z below #[Value.ref b] s) (entryFrame m ([Value.ref b] : List Value).toArray 7) := by
      rw [hh0]
      exact whole_start l hfl hnm hxt hbd ⟨B.exec, B.bytes, B.returns, hml, hown, hts, hX, hbl, B.notSynchronized, hgv⟩
    obtain ⟨t, a1, o, b1, b2, b3⟩ := K s₁ rfl X₀
    exact ⟨t, o, a1, b1, b2, b3⟩
theorem lw_pre_spec {args : Array Value} {s : State} (h : (Jvm.Cond.and given_1 narrow_1).before args s = true) (hr : rest_1_c.before args s = true) : ∃ (b : Addr) (xs : List Int32), lw_P b xs args s := by
  have hs := flat_of_before _ h
  have hq := flat_of_before _ hr
  have hc : (Cond.count 1).before args s = true := hs _ (by decide +kernel)
  have harr : (Cond.arrayOf (.arg 0) .int).before args s = true := hs _ (by decide +kernel)
  have hle : (Cond.le (.length (.arg 0)) (.int 5)).before args s = true := hs _ (by decide +kernel)
  have hlen : (Cond.isInt (.length (.arg 0))).before args s = true := hq _ (by decide +kernel)
  have hall : (Cond.all (.arg 0) (.isInt (.elem (.arg 0) (.index 0)))).before args s = true := hq _ (by decide +kernel)
  obtain ⟨b, xs, hb, hx⟩ := State.ints_of_pre rfl harr hlen hall
  have hsm : xs.length < 2 ^ 31 := hx.choose_spec.2.2.2
  have hev : (Term.length (.arg 0)).eval args s none [] s = some (.int xs.length.toInt32) := hx.length_eval hb
  have hv := Cond.le_ints hev (show (Term.int 5).eval args s none [] s = some (.int 5) from rfl)
  have hd : xs.length.toInt32 ≤ 5 := by
    simpa [Cond.before, Cond.holds, hv] using hle
  have hN : xs.length ≤ 5 := (Int32.ofNat_le_ofNat hsm (by decide)).mp (show Int32.ofNat xs.length ≤ Int32.ofNat 5 from hd)
  exact ⟨b, xs, Cond.one_arg hc (show args[0]? = some (.ref b) from hb), hx, hN, h⟩
theorem lw_comes (l : Launch) (hfl : l.flags = pinnedFlags ++ [noTraceFlag]) : Comes l x (Jvm.Cond.code x code maxLocals ret :: tables_1) room_1 (fun tb e args s => Calls_1 tb e args s ∧ rest_1 tb e args s ∧ Pre_1 tb e args s)
    (fun _ _ args s o t => lw_Q args s o t) := by
  intro p e ha hc hk s m args below hf hfit hheap happ hpre
  obtain ⟨b, xs, hP⟩ := lw_pre_spec hpre.2.2 hpre.2.1
  obtain ⟨k, o, h1, h2, h3, hQ⟩ := lw_walk l hfl b xs p e ha hc hk s m args below hf ((Spec.applies_iff_loose hf).mp happ).1 hP trivial
  exact ⟨k, o, h1, h2, h3, hQ⟩
theorem lw_frame {s t : State} {o : Outcome} {args : Array Value} (h : Framed s o t [] 46 9202) :
    Framed s o t (fieldLocs frame_1_writes args s ++ arrayLocs frame_1_arrays args s ++ staticLocs frame_1_statics s) 46 9202 := h
theorem lw_limb (L : Cond) (hL : ∀ (args : Array Value) (s t : State), L.after args s (.returned (some (.int 1))) t = true) :
    ArmFor flags0 classFile x code maxLocals ret World_1 tables_1 room_1 Calls_1 rest_1 Pre_1
      (fun tb e a s o t => postC L tb e a s o t ∧ Framed s o t (fieldLocs frame_1_writes a s ++ arrayLocs frame_1_arrays a s ++ staticLocs frame_1_statics s) 46 9202) := by
  intro l hfl _ _ p e ha hc hk s m args below hf hfit hheap happ hpre
  obtain ⟨k, o, h1, h2, h3, rfl, hF⟩ := lw_comes l hfl p e ha hc hk s m args below hf hfit hheap happ hpre
  exact ⟨k, _, h1, h2, h3, hL args s _, lw_frame hF⟩
theorem i_vc : Claimed_1_1 ∧ Claimed_1_2 := ⟨lw_limb limb_1_1 (fun args s t => by simp [limb_1_1, Cond.after, Cond.holds, Cond.value]), lw_limb limb_1_2 (fun args s t => Cond.after_iff.mpr (by
  first | (rw [show limb_1_2 = Cond.eq .result (.int 1) from rfl, Cond.eq_ints (x := 1) (y := 1) rfl rfl]; simp; done) | (simp [limb_1_2, Cond.value, Term.eval]; done)))⟩
end
