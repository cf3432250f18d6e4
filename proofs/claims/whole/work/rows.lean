section
/-- a private method of a class that the tables say can be made, by its rows of tables_1 -/
def lw_okq (q : MethodName × Nat) : Prop := (q.1.cls ≠ "java/lang/invoke/MethodHandle" ∧ q.1.cls ≠ "java/lang/invoke/VarHandle") ∧ Cond.instantiable q.1.cls q.2 ∈ tables_1 ∧ Cond.privateMethod q.1 ∈ tables_1 ∧ Cond.instanceMethod q.1 ∈ tables_1
theorem lw_p0 : lw_okq (⟨"MeshWalk", "needPlace", "(II)V"⟩, 5) := ⟨⟨by decide +kernel, by decide +kernel⟩, List.mem_of_getElem? (i := 20) (by decide +kernel), List.mem_of_getElem? (i := 309) (by decide +kernel), List.mem_of_getElem? (i := 310) (by decide +kernel)⟩
theorem lw_p1 : lw_okq (⟨"java/lang/Throwable", "fillInStackTrace", "(I)Ljava/lang/Throwable;"⟩, 6) := ⟨⟨by decide +kernel, by decide +kernel⟩, List.mem_of_getElem? (i := 353) (by decide +kernel), List.mem_of_getElem? (i := 351) (by decide +kernel), List.mem_of_getElem? (i := 352) (by decide +kernel)⟩
theorem lw_p2 : lw_okq (⟨"MeshWalk$Grower", "begin", "(I)V"⟩, 5) := ⟨⟨by decide +kernel, by decide +kernel⟩, List.mem_of_getElem? (i := 118) (by decide +kernel), List.mem_of_getElem? (i := 439) (by decide +kernel), List.mem_of_getElem? (i := 440) (by decide +kernel)⟩
theorem lw_p3 : lw_okq (⟨"MeshWalk$Grower", "nextOnLine", "(II)I"⟩, 5) := ⟨⟨by decide +kernel, by decide +kernel⟩, List.mem_of_getElem? (i := 118) (by decide +kernel), List.mem_of_getElem? (i := 450) (by decide +kernel), List.mem_of_getElem? (i := 451) (by decide +kernel)⟩
theorem lw_p4 : lw_okq (⟨"MeshWalk$Grower", "putLeftRound", "(III)V"⟩, 5) := ⟨⟨by decide +kernel, by decide +kernel⟩, List.mem_of_getElem? (i := 118) (by decide +kernel), List.mem_of_getElem? (i := 458) (by decide +kernel), List.mem_of_getElem? (i := 459) (by decide +kernel)⟩
theorem lw_p5 : lw_okq (⟨"MeshWalk$Mesh", "holds", "(II)Z"⟩, 9) := ⟨⟨by decide +kernel, by decide +kernel⟩, List.mem_of_getElem? (i := 81) (by decide +kernel), List.mem_of_getElem? (i := 473) (by decide +kernel), List.mem_of_getElem? (i := 474) (by decide +kernel)⟩
theorem lw_p6 : lw_okq (⟨"MeshWalk$Grower", "reachOut", "(I)V"⟩, 5) := ⟨⟨by decide +kernel, by decide +kernel⟩, List.mem_of_getElem? (i := 118) (by decide +kernel), List.mem_of_getElem? (i := 486) (by decide +kernel), List.mem_of_getElem? (i := 487) (by decide +kernel)⟩
theorem lw_p7 : lw_okq (⟨"MeshWalk$Grower", "split", "(II)V"⟩, 5) := ⟨⟨by decide +kernel, by decide +kernel⟩, List.mem_of_getElem? (i := 118) (by decide +kernel), List.mem_of_getElem? (i := 502) (by decide +kernel), List.mem_of_getElem? (i := 503) (by decide +kernel)⟩
theorem lw_p8 : lw_okq (⟨"MeshWalk$Grower", "join", "(III)V"⟩, 5) := ⟨⟨by decide +kernel, by decide +kernel⟩, List.mem_of_getElem? (i := 118) (by decide +kernel), List.mem_of_getElem? (i := 510) (by decide +kernel), List.mem_of_getElem? (i := 511) (by decide +kernel)⟩
theorem lw_p9 : lw_okq (⟨"MeshWalk$Grower", "splitBeyond", "(III)V"⟩, 5) := ⟨⟨by decide +kernel, by decide +kernel⟩, List.mem_of_getElem? (i := 118) (by decide +kernel), List.mem_of_getElem? (i := 514) (by decide +kernel), List.mem_of_getElem? (i := 515) (by decide +kernel)⟩
theorem lw_p10 : lw_okq (⟨"MeshWalk$Mesh", "isGood", "(II)Z"⟩, 9) := ⟨⟨by decide +kernel, by decide +kernel⟩, List.mem_of_getElem? (i := 81) (by decide +kernel), List.mem_of_getElem? (i := 525) (by decide +kernel), List.mem_of_getElem? (i := 526) (by decide +kernel)⟩
theorem lw_p11 : lw_okq (⟨"MeshWalk$Plane", "squareOf", "(II)J"⟩, 4) := ⟨⟨by decide +kernel, by decide +kernel⟩, List.mem_of_getElem? (i := 28) (by decide +kernel), List.mem_of_getElem? (i := 538) (by decide +kernel), List.mem_of_getElem? (i := 539) (by decide +kernel)⟩
theorem lw_p12 : lw_okq (⟨"MeshWalk$Mesh", "giveNumbers", "()V"⟩, 9) := ⟨⟨by decide +kernel, by decide +kernel⟩, List.mem_of_getElem? (i := 81) (by decide +kernel), List.mem_of_getElem? (i := 559) (by decide +kernel), List.mem_of_getElem? (i := 560) (by decide +kernel)⟩
theorem lw_p13 : lw_okq (⟨"MeshWalk$Mesh", "giveNextNumber", "(III)V"⟩, 9) := ⟨⟨by decide +kernel, by decide +kernel⟩, List.mem_of_getElem? (i := 81) (by decide +kernel), List.mem_of_getElem? (i := 563) (by decide +kernel), List.mem_of_getElem? (i := 564) (by decide +kernel)⟩
theorem lw_p14 : lw_okq (⟨"MeshWalk", "needPair", "(II)V"⟩, 5) := ⟨⟨by decide +kernel, by decide +kernel⟩, List.mem_of_getElem? (i := 20) (by decide +kernel), List.mem_of_getElem? (i := 574) (by decide +kernel), List.mem_of_getElem? (i := 575) (by decide +kernel)⟩
theorem lw_p15 : lw_okq (⟨"MeshWalk", "needPoint", "(I)V"⟩, 5) := ⟨⟨by decide +kernel, by decide +kernel⟩, List.mem_of_getElem? (i := 20) (by decide +kernel), List.mem_of_getElem? (i := 578) (by decide +kernel), List.mem_of_getElem? (i := 579) (by decide +kernel)⟩
def lw_privs_1 : List (MethodName × Nat) := [(⟨"MeshWalk", "needPlace", "(II)V"⟩, 5), (⟨"java/lang/Throwable", "fillInStackTrace", "(I)Ljava/lang/Throwable;"⟩, 6), (⟨"MeshWalk$Grower", "begin", "(I)V"⟩, 5), (⟨"MeshWalk$Grower", "nextOnLine", "(II)I"⟩, 5), (⟨"MeshWalk$Grower", "putLeftRound", "(III)V"⟩, 5), (⟨"MeshWalk$Mesh", "holds", "(II)Z"⟩, 9), (⟨"MeshWalk$Grower", "reachOut", "(I)V"⟩, 5), (⟨"MeshWalk$Grower", "split", "(II)V"⟩, 5), (⟨"MeshWalk$Grower", "join", "(III)V"⟩, 5), (⟨"MeshWalk$Grower", "splitBeyond", "(III)V"⟩, 5), (⟨"MeshWalk$Mesh", "isGood", "(II)Z"⟩, 9), (⟨"MeshWalk$Plane", "squareOf", "(II)J"⟩, 4), (⟨"MeshWalk$Mesh", "giveNumbers", "()V"⟩, 9), (⟨"MeshWalk$Mesh", "giveNextNumber", "(III)V"⟩, 9), (⟨"MeshWalk", "needPair", "(II)V"⟩, 5), (⟨"MeshWalk", "needPoint", "(I)V"⟩, 5)]
theorem lw_r1 : ∀ q ∈ lw_privs_1, lw_okq q := List.forall_mem_cons.mpr ⟨lw_p0, List.forall_mem_cons.mpr ⟨lw_p1, List.forall_mem_cons.mpr ⟨lw_p2, List.forall_mem_cons.mpr ⟨lw_p3, List.forall_mem_cons.mpr ⟨lw_p4, List.forall_mem_cons.mpr ⟨lw_p5, List.forall_mem_cons.mpr ⟨lw_p6, List.forall_mem_cons.mpr ⟨lw_p7, List.forall_mem_cons.mpr ⟨lw_p8, List.forall_mem_cons.mpr ⟨lw_p9, List.forall_mem_cons.mpr ⟨lw_p10, List.forall_mem_cons.mpr ⟨lw_p11, List.forall_mem_cons.mpr ⟨lw_p12, List.forall_mem_cons.mpr ⟨lw_p13, List.forall_mem_cons.mpr ⟨lw_p14, List.forall_mem_cons.mpr ⟨lw_p15, fun _ h => absurd h List.not_mem_nil⟩⟩⟩⟩⟩⟩⟩⟩⟩⟩⟩⟩⟩⟩⟩⟩
theorem lw_p16 : lw_okq (⟨"MeshWalk$Links", "doCross", "(IIII)Z"⟩, 3) := ⟨⟨by decide +kernel, by decide +kernel⟩, List.mem_of_getElem? (i := 64) (by decide +kernel), List.mem_of_getElem? (i := 594) (by decide +kernel), List.mem_of_getElem? (i := 595) (by decide +kernel)⟩
theorem lw_p17 : lw_okq (⟨"MeshWalk$Grower", "listCrossing", "(II)V"⟩, 5) := ⟨⟨by decide +kernel, by decide +kernel⟩, List.mem_of_getElem? (i := 118) (by decide +kernel), List.mem_of_getElem? (i := 612) (by decide +kernel), List.mem_of_getElem? (i := 613) (by decide +kernel)⟩
theorem lw_p18 : lw_okq (⟨"MeshWalk$Grower", "firstRight", "(II)I"⟩, 5) := ⟨⟨by decide +kernel, by decide +kernel⟩, List.mem_of_getElem? (i := 118) (by decide +kernel), List.mem_of_getElem? (i := 616) (by decide +kernel), List.mem_of_getElem? (i := 617) (by decide +kernel)⟩
theorem lw_p19 : lw_okq (⟨"MeshWalk$Grower", "flipAtPeak", "(II)V"⟩, 5) := ⟨⟨by decide +kernel, by decide +kernel⟩, List.mem_of_getElem? (i := 118) (by decide +kernel), List.mem_of_getElem? (i := 621) (by decide +kernel), List.mem_of_getElem? (i := 622) (by decide +kernel)⟩
theorem lw_p20 : lw_okq (⟨"MeshWalk$Grower", "peakOf", "(II)I"⟩, 5) := ⟨⟨by decide +kernel, by decide +kernel⟩, List.mem_of_getElem? (i := 118) (by decide +kernel), List.mem_of_getElem? (i := 625) (by decide +kernel), List.mem_of_getElem? (i := 626) (by decide +kernel)⟩
theorem lw_p21 : lw_okq (⟨"MeshWalk$Grower", "canFlip", "(II)Z"⟩, 5) := ⟨⟨by decide +kernel, by decide +kernel⟩, List.mem_of_getElem? (i := 118) (by decide +kernel), List.mem_of_getElem? (i := 630) (by decide +kernel), List.mem_of_getElem? (i := 631) (by decide +kernel)⟩
theorem lw_p22 : lw_okq (⟨"MeshWalk", "needCorner", "(II)V"⟩, 5) := ⟨⟨by decide +kernel, by decide +kernel⟩, List.mem_of_getElem? (i := 20) (by decide +kernel), List.mem_of_getElem? (i := 659) (by decide +kernel), List.mem_of_getElem? (i := 660) (by decide +kernel)⟩
theorem lw_p23 : lw_okq (⟨"MeshWalk$Walk", "countSteps", "(I)V"⟩, 7) := ⟨⟨by decide +kernel, by decide +kernel⟩, List.mem_of_getElem? (i := 140) (by decide +kernel), List.mem_of_getElem? (i := 735) (by decide +kernel), List.mem_of_getElem? (i := 736) (by decide +kernel)⟩
theorem lw_p24 : lw_okq (⟨"MeshWalk$Walk", "nextAfter", "(I)I"⟩, 7) := ⟨⟨by decide +kernel, by decide +kernel⟩, List.mem_of_getElem? (i := 140) (by decide +kernel), List.mem_of_getElem? (i := 746) (by decide +kernel), List.mem_of_getElem? (i := 747) (by decide +kernel)⟩
theorem lw_p25 : lw_okq (⟨"MeshWalk$Walk", "pointOr", "(I)I"⟩, 7) := ⟨⟨by decide +kernel, by decide +kernel⟩, List.mem_of_getElem? (i := 140) (by decide +kernel), List.mem_of_getElem? (i := 754) (by decide +kernel), List.mem_of_getElem? (i := 755) (by decide +kernel)⟩
theorem lw_p26 : lw_okq (⟨"MeshWalk$Walk", "passGate", "(II)V"⟩, 7) := ⟨⟨by decide +kernel, by decide +kernel⟩, List.mem_of_getElem? (i := 140) (by decide +kernel), List.mem_of_getElem? (i := 767) (by decide +kernel), List.mem_of_getElem? (i := 768) (by decide +kernel)⟩
theorem lw_p27 : lw_okq (⟨"MeshWalk$Funnel", "extend", "(LMeshWalk$Chain;LMeshWalk$Chain;I)V"⟩, 8) := ⟨⟨by decide +kernel, by decide +kernel⟩, List.mem_of_getElem? (i := 146) (by decide +kernel), List.mem_of_getElem? (i := 777) (by decide +kernel), List.mem_of_getElem? (i := 778) (by decide +kernel)⟩
theorem lw_p28 : lw_okq (⟨"MeshWalk$Funnel", "bendsOutward", "(LMeshWalk$Chain;I)Z"⟩, 8) := ⟨⟨by decide +kernel, by decide +kernel⟩, List.mem_of_getElem? (i := 146) (by decide +kernel), List.mem_of_getElem? (i := 785) (by decide +kernel), List.mem_of_getElem? (i := 786) (by decide +kernel)⟩
theorem lw_p29 : lw_okq (⟨"MeshWalk$Funnel", "isBeyond", "(LMeshWalk$Chain;I)Z"⟩, 8) := ⟨⟨by decide +kernel, by decide +kernel⟩, List.mem_of_getElem? (i := 146) (by decide +kernel), List.mem_of_getElem? (i := 802) (by decide +kernel), List.mem_of_getElem? (i := 803) (by decide +kernel)⟩
theorem lw_p30 : lw_okq (⟨"MeshWalk$Funnel", "keepTurn", "(I)V"⟩, 8) := ⟨⟨by decide +kernel, by decide +kernel⟩, List.mem_of_getElem? (i := 146) (by decide +kernel), List.mem_of_getElem? (i := 810) (by decide +kernel), List.mem_of_getElem? (i := 811) (by decide +kernel)⟩
theorem lw_p31 : lw_okq (⟨"MeshWalkModel", "refused", "(I)Z"⟩, 18) := ⟨⟨by decide +kernel, by decide +kernel⟩, List.mem_of_getElem? (i := 830) (by decide +kernel), List.mem_of_getElem? (i := 908) (by decide +kernel), List.mem_of_getElem? (i := 909) (by decide +kernel)⟩
def lw_privs_2 : List (MethodName × Nat) := [(⟨"MeshWalk$Links", "doCross", "(IIII)Z"⟩, 3), (⟨"MeshWalk$Grower", "listCrossing", "(II)V"⟩, 5), (⟨"MeshWalk$Grower", "firstRight", "(II)I"⟩, 5), (⟨"MeshWalk$Grower", "flipAtPeak", "(II)V"⟩, 5), (⟨"MeshWalk$Grower", "peakOf", "(II)I"⟩, 5), (⟨"MeshWalk$Grower", "canFlip", "(II)Z"⟩, 5), (⟨"MeshWalk", "needCorner", "(II)V"⟩, 5), (⟨"MeshWalk$Walk", "countSteps", "(I)V"⟩, 7), (⟨"MeshWalk$Walk", "nextAfter", "(I)I"⟩, 7), (⟨"MeshWalk$Walk", "pointOr", "(I)I"⟩, 7), (⟨"MeshWalk$Walk", "passGate", "(II)V"⟩, 7), (⟨"MeshWalk$Funnel", "extend", "(LMeshWalk$Chain;LMeshWalk$Chain;I)V"⟩, 8), (⟨"MeshWalk$Funnel", "bendsOutward", "(LMeshWalk$Chain;I)Z"⟩, 8), (⟨"MeshWalk$Funnel", "isBeyond", "(LMeshWalk$Chain;I)Z"⟩, 8), (⟨"MeshWalk$Funnel", "keepTurn", "(I)V"⟩, 8), (⟨"MeshWalkModel", "refused", "(I)Z"⟩, 18)]
theorem lw_r2 : ∀ q ∈ lw_privs_2, lw_okq q := List.forall_mem_cons.mpr ⟨lw_p16, List.forall_mem_cons.mpr ⟨lw_p17, List.forall_mem_cons.mpr ⟨lw_p18, List.forall_mem_cons.mpr ⟨lw_p19, List.forall_mem_cons.mpr ⟨lw_p20, List.forall_mem_cons.mpr ⟨lw_p21, List.forall_mem_cons.mpr ⟨lw_p22, List.forall_mem_cons.mpr ⟨lw_p23, List.forall_mem_cons.mpr ⟨lw_p24, List.forall_mem_cons.mpr ⟨lw_p25, List.forall_mem_cons.mpr ⟨lw_p26, List.forall_mem_cons.mpr ⟨lw_p27, List.forall_mem_cons.mpr ⟨lw_p28, List.forall_mem_cons.mpr ⟨lw_p29, List.forall_mem_cons.mpr ⟨lw_p30, List.forall_mem_cons.mpr ⟨lw_p31, fun _ h => absurd h List.not_mem_nil⟩⟩⟩⟩⟩⟩⟩⟩⟩⟩⟩⟩⟩⟩⟩⟩
theorem lw_p32 : lw_okq (⟨"MeshWalkModel", "isOn", "(III)Z"⟩, 18) := ⟨⟨by decide +kernel, by decide +kernel⟩, List.mem_of_getElem? (i := 830) (by decide +kernel), List.mem_of_getElem? (i := 912) (by decide +kernel), List.mem_of_getElem? (i := 913) (by decide +kernel)⟩
theorem lw_p33 : lw_okq (⟨"MeshWalkModel", "sideOf", "(III)I"⟩, 18) := ⟨⟨by decide +kernel, by decide +kernel⟩, List.mem_of_getElem? (i := 830) (by decide +kernel), List.mem_of_getElem? (i := 916) (by decide +kernel), List.mem_of_getElem? (i := 917) (by decide +kernel)⟩
theorem lw_p34 : lw_okq (⟨"MeshWalkModel", "isPair", "(II)Z"⟩, 18) := ⟨⟨by decide +kernel, by decide +kernel⟩, List.mem_of_getElem? (i := 830) (by decide +kernel), List.mem_of_getElem? (i := 924) (by decide +kernel), List.mem_of_getElem? (i := 925) (by decide +kernel)⟩
theorem lw_p35 : lw_okq (⟨"MeshWalkModel", "isPoint", "(I)Z"⟩, 18) := ⟨⟨by decide +kernel, by decide +kernel⟩, List.mem_of_getElem? (i := 830) (by decide +kernel), List.mem_of_getElem? (i := 928) (by decide +kernel), List.mem_of_getElem? (i := 929) (by decide +kernel)⟩
theorem lw_p36 : lw_okq (⟨"MeshWalkModel", "fits", "(II[Z)Z"⟩, 18) := ⟨⟨by decide +kernel, by decide +kernel⟩, List.mem_of_getElem? (i := 830) (by decide +kernel), List.mem_of_getElem? (i := 932) (by decide +kernel), List.mem_of_getElem? (i := 933) (by decide +kernel)⟩
theorem lw_p37 : lw_okq (⟨"MeshWalkModel", "cross", "(IIII)Z"⟩, 18) := ⟨⟨by decide +kernel, by decide +kernel⟩, List.mem_of_getElem? (i := 830) (by decide +kernel), List.mem_of_getElem? (i := 936) (by decide +kernel), List.mem_of_getElem? (i := 937) (by decide +kernel)⟩
theorem lw_p38 : lw_okq (⟨"MeshWalkModel", "mesh", "()V"⟩, 18) := ⟨⟨by decide +kernel, by decide +kernel⟩, List.mem_of_getElem? (i := 830) (by decide +kernel), List.mem_of_getElem? (i := 952) (by decide +kernel), List.mem_of_getElem? (i := 953) (by decide +kernel)⟩
theorem lw_p39 : lw_okq (⟨"MeshWalkModel", "isFlat", "()Z"⟩, 18) := ⟨⟨by decide +kernel, by decide +kernel⟩, List.mem_of_getElem? (i := 830) (by decide +kernel), List.mem_of_getElem? (i := 956) (by decide +kernel), List.mem_of_getElem? (i := 957) (by decide +kernel)⟩
theorem lw_p40 : lw_okq (⟨"MeshWalkModel", "mark", "(IIZ)V"⟩, 18) := ⟨⟨by decide +kernel, by decide +kernel⟩, List.mem_of_getElem? (i := 830) (by decide +kernel), List.mem_of_getElem? (i := 960) (by decide +kernel), List.mem_of_getElem? (i := 961) (by decide +kernel)⟩
theorem lw_p41 : lw_okq (⟨"MeshWalkModel", "turn", "(II)Z"⟩, 18) := ⟨⟨by decide +kernel, by decide +kernel⟩, List.mem_of_getElem? (i := 830) (by decide +kernel), List.mem_of_getElem? (i := 964) (by decide +kernel), List.mem_of_getElem? (i := 965) (by decide +kernel)⟩
theorem lw_p42 : lw_okq (⟨"MeshWalkModel", "apex", "(II)I"⟩, 18) := ⟨⟨by decide +kernel, by decide +kernel⟩, List.mem_of_getElem? (i := 830) (by decide +kernel), List.mem_of_getElem? (i := 968) (by decide +kernel), List.mem_of_getElem? (i := 969) (by decide +kernel)⟩
theorem lw_p43 : lw_okq (⟨"MeshWalkModel", "isTriangle", "(III)Z"⟩, 18) := ⟨⟨by decide +kernel, by decide +kernel⟩, List.mem_of_getElem? (i := 830) (by decide +kernel), List.mem_of_getElem? (i := 972) (by decide +kernel), List.mem_of_getElem? (i := 973) (by decide +kernel)⟩
theorem lw_p44 : lw_okq (⟨"MeshWalkModel", "isEmpty", "(III)Z"⟩, 18) := ⟨⟨by decide +kernel, by decide +kernel⟩, List.mem_of_getElem? (i := 830) (by decide +kernel), List.mem_of_getElem? (i := 976) (by decide +kernel), List.mem_of_getElem? (i := 977) (by decide +kernel)⟩
theorem lw_p45 : lw_okq (⟨"MeshWalkModel", "inCircle", "(IIII)I"⟩, 18) := ⟨⟨by decide +kernel, by decide +kernel⟩, List.mem_of_getElem? (i := 830) (by decide +kernel), List.mem_of_getElem? (i := 980) (by decide +kernel), List.mem_of_getElem? (i := 981) (by decide +kernel)⟩
theorem lw_p46 : lw_okq (⟨"MeshWalkModel", "addProduct", "(JJ)V"⟩, 18) := ⟨⟨by decide +kernel, by decide +kernel⟩, List.mem_of_getElem? (i := 830) (by decide +kernel), List.mem_of_getElem? (i := 984) (by decide +kernel), List.mem_of_getElem? (i := 985) (by decide +kernel)⟩
theorem lw_p47 : lw_okq (⟨"MeshWalkModel", "with", "(II)I"⟩, 18) := ⟨⟨by decide +kernel, by decide +kernel⟩, List.mem_of_getElem? (i := 830) (by decide +kernel), List.mem_of_getElem? (i := 993) (by decide +kernel), List.mem_of_getElem? (i := 994) (by decide +kernel)⟩
def lw_privs_3 : List (MethodName × Nat) := [(⟨"MeshWalkModel", "isOn", "(III)Z"⟩, 18), (⟨"MeshWalkModel", "sideOf", "(III)I"⟩, 18), (⟨"MeshWalkModel", "isPair", "(II)Z"⟩, 18), (⟨"MeshWalkModel", "isPoint", "(I)Z"⟩, 18), (⟨"MeshWalkModel", "fits", "(II[Z)Z"⟩, 18), (⟨"MeshWalkModel", "cross", "(IIII)Z"⟩, 18), (⟨"MeshWalkModel", "mesh", "()V"⟩, 18), (⟨"MeshWalkModel", "isFlat", "()Z"⟩, 18), (⟨"MeshWalkModel", "mark", "(IIZ)V"⟩, 18), (⟨"MeshWalkModel", "turn", "(II)Z"⟩, 18), (⟨"MeshWalkModel", "apex", "(II)I"⟩, 18), (⟨"MeshWalkModel", "isTriangle", "(III)Z"⟩, 18), (⟨"MeshWalkModel", "isEmpty", "(III)Z"⟩, 18), (⟨"MeshWalkModel", "inCircle", "(IIII)I"⟩, 18), (⟨"MeshWalkModel", "addProduct", "(JJ)V"⟩, 18), (⟨"MeshWalkModel", "with", "(II)I"⟩, 18)]
theorem lw_r3 : ∀ q ∈ lw_privs_3, lw_okq q := List.forall_mem_cons.mpr ⟨lw_p32, List.forall_mem_cons.mpr ⟨lw_p33, List.forall_mem_cons.mpr ⟨lw_p34, List.forall_mem_cons.mpr ⟨lw_p35, List.forall_mem_cons.mpr ⟨lw_p36, List.forall_mem_cons.mpr ⟨lw_p37, List.forall_mem_cons.mpr ⟨lw_p38, List.forall_mem_cons.mpr ⟨lw_p39, List.forall_mem_cons.mpr ⟨lw_p40, List.forall_mem_cons.mpr ⟨lw_p41, List.forall_mem_cons.mpr ⟨lw_p42, List.forall_mem_cons.mpr ⟨lw_p43, List.forall_mem_cons.mpr ⟨lw_p44, List.forall_mem_cons.mpr ⟨lw_p45, List.forall_mem_cons.mpr ⟨lw_p46, List.forall_mem_cons.mpr ⟨lw_p47, fun _ h => absurd h List.not_mem_nil⟩⟩⟩⟩⟩⟩⟩⟩⟩⟩⟩⟩⟩⟩⟩⟩
theorem lw_p48 : lw_okq (⟨"MeshWalkModel", "isCorner", "(II)Z"⟩, 18) := ⟨⟨by decide +kernel, by decide +kernel⟩, List.mem_of_getElem? (i := 830) (by decide +kernel), List.mem_of_getElem? (i := 1001) (by decide +kernel), List.mem_of_getElem? (i := 1002) (by decide +kernel)⟩
theorem lw_p49 : lw_okq (⟨"MeshWalkModel", "find", "(I)I"⟩, 18) := ⟨⟨by decide +kernel, by decide +kernel⟩, List.mem_of_getElem? (i := 830) (by decide +kernel), List.mem_of_getElem? (i := 1025) (by decide +kernel), List.mem_of_getElem? (i := 1026) (by decide +kernel)⟩
theorem lw_p50 : lw_okq (⟨"MeshWalkModel", "measure", "(I)V"⟩, 18) := ⟨⟨by decide +kernel, by decide +kernel⟩, List.mem_of_getElem? (i := 830) (by decide +kernel), List.mem_of_getElem? (i := 1033) (by decide +kernel), List.mem_of_getElem? (i := 1034) (by decide +kernel)⟩
theorem lw_p51 : lw_okq (⟨"MeshWalkModel", "behind", "(II)I"⟩, 18) := ⟨⟨by decide +kernel, by decide +kernel⟩, List.mem_of_getElem? (i := 830) (by decide +kernel), List.mem_of_getElem? (i := 1037) (by decide +kernel), List.mem_of_getElem? (i := 1038) (by decide +kernel)⟩
theorem lw_p52 : lw_okq (⟨"MeshWalkModel", "step", "(I)V"⟩, 18) := ⟨⟨by decide +kernel, by decide +kernel⟩, List.mem_of_getElem? (i := 830) (by decide +kernel), List.mem_of_getElem? (i := 1041) (by decide +kernel), List.mem_of_getElem? (i := 1042) (by decide +kernel)⟩
theorem lw_p53 : lw_okq (⟨"MeshWalkModel", "pull", "()V"⟩, 18) := ⟨⟨by decide +kernel, by decide +kernel⟩, List.mem_of_getElem? (i := 830) (by decide +kernel), List.mem_of_getElem? (i := 1045) (by decide +kernel), List.mem_of_getElem? (i := 1046) (by decide +kernel)⟩
theorem lw_p54 : lw_okq (⟨"MeshWalkModel", "straighten", "()V"⟩, 18) := ⟨⟨by decide +kernel, by decide +kernel⟩, List.mem_of_getElem? (i := 830) (by decide +kernel), List.mem_of_getElem? (i := 1049) (by decide +kernel), List.mem_of_getElem? (i := 1050) (by decide +kernel)⟩
theorem lw_p55 : lw_okq (⟨"MeshWalkModel", "isTurn", "(I)Z"⟩, 18) := ⟨⟨by decide +kernel, by decide +kernel⟩, List.mem_of_getElem? (i := 830) (by decide +kernel), List.mem_of_getElem? (i := 1053) (by decide +kernel), List.mem_of_getElem? (i := 1054) (by decide +kernel)⟩
theorem lw_p56 : lw_okq (⟨"MeshWalkModel", "pointAt", "(I)I"⟩, 18) := ⟨⟨by decide +kernel, by decide +kernel⟩, List.mem_of_getElem? (i := 830) (by decide +kernel), List.mem_of_getElem? (i := 1057) (by decide +kernel), List.mem_of_getElem? (i := 1058) (by decide +kernel)⟩
def lw_privs_4 : List (MethodName × Nat) := [(⟨"MeshWalkModel", "isCorner", "(II)Z"⟩, 18), (⟨"MeshWalkModel", "find", "(I)I"⟩, 18), (⟨"MeshWalkModel", "measure", "(I)V"⟩, 18), (⟨"MeshWalkModel", "behind", "(II)I"⟩, 18), (⟨"MeshWalkModel", "step", "(I)V"⟩, 18), (⟨"MeshWalkModel", "pull", "()V"⟩, 18), (⟨"MeshWalkModel", "straighten", "()V"⟩, 18), (⟨"MeshWalkModel", "isTurn", "(I)Z"⟩, 18), (⟨"MeshWalkModel", "pointAt", "(I)I"⟩, 18)]
theorem lw_r4 : ∀ q ∈ lw_privs_4, lw_okq q := List.forall_mem_cons.mpr ⟨lw_p48, List.forall_mem_cons.mpr ⟨lw_p49, List.forall_mem_cons.mpr ⟨lw_p50, List.forall_mem_cons.mpr ⟨lw_p51, List.forall_mem_cons.mpr ⟨lw_p52, List.forall_mem_cons.mpr ⟨lw_p53, List.forall_mem_cons.mpr ⟨lw_p54, List.forall_mem_cons.mpr ⟨lw_p55, List.forall_mem_cons.mpr ⟨lw_p56, fun _ h => absurd h List.not_mem_nil⟩⟩⟩⟩⟩⟩⟩⟩⟩
def lw_privs : List (MethodName × Nat) := lw_privs_1 ++ (lw_privs_2 ++ (lw_privs_3 ++ (lw_privs_4)))
def lw_tbl : List Cond := k2_sels lw_privs ++ tables_1
theorem lw_privs_ok : ∀ q ∈ lw_privs, lw_okq q := by
  show ∀ q ∈ lw_privs_1 ++ (lw_privs_2 ++ (lw_privs_3 ++ (lw_privs_4))), lw_okq q
  exact List.forall_mem_append.mpr ⟨lw_r1, List.forall_mem_append.mpr ⟨lw_r2, List.forall_mem_append.mpr ⟨lw_r3, lw_r4⟩⟩⟩
end
section
/-! the small machine: its tables, by program (wip/gen/names.py) out of the words of tables_1 -/
def mGood (w : Cond) : Bool := goodWord w || (match w with | .fieldLinkNest .. => true | .methodLinkNest .. => true | .castable .. => true | .declares .. => true | _ => false)
def mTbl : List Cond := lw_tbl.filter mGood
theorem mTbl_of {i : Nat} {w : Cond} (h : lw_tbl[i]? = some w) (g : mGood w = true) : w ∈ mTbl := List.mem_filter.mpr ⟨List.mem_of_getElem? h, g⟩
def mNm : List String := ["MeshWalk$Chain", "MeshWalk$Funnel", "MeshWalk$Grower", "MeshWalk$Links", "MeshWalk$Mesh", "MeshWalk$Plane", "MeshWalk$Walk", "MeshWalk$WideSum", "MeshWalk", "MeshWalkModel", "java/lang/IllegalArgumentException", "java/lang/IllegalStateException", "java/lang/IndexOutOfBoundsException", "MeshWalkLaw", "java/util/Arrays", "java/lang/Math"]
def mNmOf (c : Nat) : String := mNm.getD c ""
def mT0 : u_T := fun k => match k with
  | 0 => ("MeshWalk$Chain", "hand", "I", true)
  | 1 => ("MeshWalk$Chain", "row", "[I", true)
  | 2 => ("MeshWalk$Chain", "head", "I", false)
  | _ => ("MeshWalk$Chain", "tail", "I", false)
def mty0 : Nat → FieldType := fun k => match k with
  | 0 => .int
  | 1 => .array .int
  | 2 => .int
  | _ => .int
def mT1 : u_T := fun k => match k with
  | 0 => ("MeshWalk$Funnel", "plane", "LMeshWalk$Plane;", true)
  | 1 => ("MeshWalk$Funnel", "left", "LMeshWalk$Chain;", true)
  | 2 => ("MeshWalk$Funnel", "right", "LMeshWalk$Chain;", true)
  | 3 => ("MeshWalk$Funnel", "tip", "I", false)
  | 4 => ("MeshWalk$Funnel", "leftEnd", "I", false)
  | 5 => ("MeshWalk$Funnel", "rightEnd", "I", false)
  | 6 => ("MeshWalk$Funnel", "turns", "[I", true)
  | _ => ("MeshWalk$Funnel", "size", "I", false)
def mty1 : Nat → FieldType := fun k => match k with
  | 0 => .object "MeshWalk$Plane"
  | 1 => .object "MeshWalk$Chain"
  | 2 => .object "MeshWalk$Chain"
  | 3 => .int
  | 4 => .int
  | 5 => .int
  | 6 => .array .int
  | _ => .int
def mT2 : u_T := fun k => match k with
  | 0 => ("MeshWalk$Grower", "plane", "LMeshWalk$Plane;", true)
  | 1 => ("MeshWalk$Grower", "mesh", "LMeshWalk$Mesh;", true)
  | 2 => ("MeshWalk$Grower", "lefts", "[I", true)
  | 3 => ("MeshWalk$Grower", "rights", "[I", true)
  | _ => ("MeshWalk$Grower", "crossing", "I", false)
def mty2 : Nat → FieldType := fun k => match k with
  | 0 => .object "MeshWalk$Plane"
  | 1 => .object "MeshWalk$Mesh"
  | 2 => .array .int
  | 3 => .array .int
  | _ => .int
def mT3 : u_T := fun k => match k with
  | 0 => ("MeshWalk$Links", "plane", "LMeshWalk$Plane;", true)
  | 1 => ("MeshWalk$Links", "linked", "[J", true)
  | _ => ("MeshWalk$Links", "size", "I", false)
def mty3 : Nat → FieldType := fun k => match k with
  | 0 => .object "MeshWalk$Plane"
  | 1 => .array .long
  | _ => .int
def mT4 : u_T := fun k => match k with
  | 0 => ("MeshWalk$Mesh", "plane", "LMeshWalk$Plane;", true)
  | 1 => ("MeshWalk$Mesh", "links", "LMeshWalk$Links;", true)
  | 2 => ("MeshWalk$Mesh", "thirds", "[I", true)
  | 3 => ("MeshWalk$Mesh", "numbers", "[I", true)
  | 4 => ("MeshWalk$Mesh", "corners", "[I", true)
  | 5 => ("MeshWalk$Mesh", "size", "I", false)
  | 6 => ("MeshWalk$Mesh", "suspects", "[I", true)
  | 7 => ("MeshWalk$Mesh", "pending", "I", false)
  | _ => ("MeshWalk$Mesh", "suspected", "[J", true)
def mty4 : Nat → FieldType := fun k => match k with
  | 0 => .object "MeshWalk$Plane"
  | 1 => .object "MeshWalk$Links"
  | 2 => .array .int
  | 3 => .array .int
  | 4 => .array .int
  | 5 => .int
  | 6 => .array .int
  | 7 => .int
  | _ => .array .long
def mT5 : u_T := fun k => match k with
  | 0 => ("MeshWalk$Plane", "xs", "[I", true)
  | 1 => ("MeshWalk$Plane", "ys", "[I", true)
  | 2 => ("MeshWalk$Plane", "sum", "LMeshWalk$WideSum;", true)
  | _ => ("MeshWalk$Plane", "size", "I", false)
def mty5 : Nat → FieldType := fun k => match k with
  | 0 => .array .int
  | 1 => .array .int
  | 2 => .object "MeshWalk$WideSum"
  | _ => .int
def mT6 : u_T := fun k => match k with
  | 0 => ("MeshWalk$Walk", "plane", "LMeshWalk$Plane;", true)
  | 1 => ("MeshWalk$Walk", "mesh", "LMeshWalk$Mesh;", true)
  | 2 => ("MeshWalk$Walk", "funnel", "LMeshWalk$Funnel;", true)
  | 3 => ("MeshWalk$Walk", "row", "[I", true)
  | 4 => ("MeshWalk$Walk", "length", "I", false)
  | 5 => ("MeshWalk$Walk", "steps", "[I", true)
  | _ => ("MeshWalk$Walk", "queue", "[I", true)
def mty6 : Nat → FieldType := fun k => match k with
  | 0 => .object "MeshWalk$Plane"
  | 1 => .object "MeshWalk$Mesh"
  | 2 => .object "MeshWalk$Funnel"
  | 3 => .array .int
  | 4 => .int
  | 5 => .array .int
  | _ => .array .int
def mT7 : u_T := fun k => match k with
  | 0 => ("MeshWalk$WideSum", "high", "J", false)
  | 1 => ("MeshWalk$WideSum", "middle", "J", false)
  | _ => ("MeshWalk$WideSum", "low", "J", false)
def mty7 : Nat → FieldType := fun k => match k with
  | 0 => .long
  | 1 => .long
  | _ => .long
def mT8 : u_T := fun k => match k with
  | 0 => ("MeshWalk", "plane", "LMeshWalk$Plane;", true)
  | 1 => ("MeshWalk", "links", "LMeshWalk$Links;", true)
  | 2 => ("MeshWalk", "mesh", "LMeshWalk$Mesh;", true)
  | 3 => ("MeshWalk", "grower", "LMeshWalk$Grower;", true)
  | _ => ("MeshWalk", "walk", "LMeshWalk$Walk;", true)
def mty8 : Nat → FieldType := fun k => match k with
  | 0 => .object "MeshWalk$Plane"
  | 1 => .object "MeshWalk$Links"
  | 2 => .object "MeshWalk$Mesh"
  | 3 => .object "MeshWalk$Grower"
  | _ => .object "MeshWalk$Walk"
def mT9 : u_T := fun k => match k with
  | 0 => ("MeshWalkModel", "refusal", "I", false)
  | 1 => ("MeshWalkModel", "points", "I", false)
  | 2 => ("MeshWalkModel", "xs", "[J", true)
  | 3 => ("MeshWalkModel", "ys", "[J", true)
  | 4 => ("MeshWalkModel", "links", "[Z", true)
  | 5 => ("MeshWalkModel", "edges", "[Z", true)
  | 6 => ("MeshWalkModel", "isCurrent", "Z", false)
  | 7 => ("MeshWalkModel", "triangles", "I", false)
  | 8 => ("MeshWalkModel", "corners", "[I", true)
  | 9 => ("MeshWalkModel", "rowSize", "I", false)
  | 10 => ("MeshWalkModel", "row", "[I", true)
  | 11 => ("MeshWalkModel", "turns", "I", false)
  | 12 => ("MeshWalkModel", "turned", "[I", true)
  | 13 => ("MeshWalkModel", "distances", "[I", true)
  | 14 => ("MeshWalkModel", "lefts", "[I", true)
  | 15 => ("MeshWalkModel", "rights", "[I", true)
  | 16 => ("MeshWalkModel", "high", "J", false)
  | _ => ("MeshWalkModel", "low", "J", false)
def mty9 : Nat → FieldType := fun k => match k with
  | 0 => .int
  | 1 => .int
  | 2 => .array .long
  | 3 => .array .long
  | 4 => .array .boolean
  | 5 => .array .boolean
  | 6 => .boolean
  | 7 => .int
  | 8 => .array .int
  | 9 => .int
  | 10 => .array .int
  | 11 => .int
  | 12 => .array .int
  | 13 => .array .int
  | 14 => .array .int
  | 15 => .array .int
  | 16 => .long
  | _ => .long
def mT10 : u_T := fun _ => ("", "", "", false)
def mty10 : Nat → FieldType := fun _ => .int
def mcl : List vw_C := [("MeshWalk$Chain", mT0, 4), ("MeshWalk$Funnel", mT1, 8), ("MeshWalk$Grower", mT2, 5), ("MeshWalk$Links", mT3, 3), ("MeshWalk$Mesh", mT4, 9), ("MeshWalk$Plane", mT5, 4), ("MeshWalk$Walk", mT6, 7), ("MeshWalk$WideSum", mT7, 3), ("MeshWalk", mT8, 5), ("MeshWalkModel", mT9, 18), ("java/lang/IllegalArgumentException", mT10, 0), ("java/lang/IllegalStateException", mT10, 0), ("java/lang/IndexOutOfBoundsException", mT10, 0)]
def mty (c : Nat) : Nat → FieldType := match c with
  | 0 => mty0
  | 1 => mty1
  | 2 => mty2
  | 3 => mty3
  | 4 => mty4
  | 5 => mty5
  | 6 => mty6
  | 7 => mty7
  | 8 => mty8
  | 9 => mty9
  | _ => mty10
set_option maxRecDepth 20000 in
theorem mlay0 : ∀ w ∈ u_ws "MeshWalk$Chain" mT0 4, w ∈ mTbl := by
  have h : (u_ws "MeshWalk$Chain" mT0 4) = [219, 221, 223, 225].filterMap (fun i => lw_tbl[i]?) := by decide +kernel
  have g : (u_ws "MeshWalk$Chain" mT0 4).all mGood = true := by decide +kernel
  intro w hw
  refine List.mem_filter.mpr ⟨?_, List.all_eq_true.mp g w hw⟩
  rw [h] at hw
  obtain ⟨i, -, hi⟩ := List.mem_filterMap.mp hw
  exact List.mem_of_getElem? hi
theorem mnm0 : ∀ a, a < 4 → ∀ b, b < 4 → a ≠ b → (mT0 a).2.1 ≠ (mT0 b).2.1 := by decide +kernel
theorem mtyok0 : ∀ k, k < 4 → parseFieldDescriptor (mT0 k).2.2.1 = some (mty0 k) := by decide +kernel
set_option maxRecDepth 20000 in
theorem mlay1 : ∀ w ∈ u_ws "MeshWalk$Funnel" mT1 8, w ∈ mTbl := by
  have h : (u_ws "MeshWalk$Funnel" mT1 8) = [236, 238, 240, 242, 244, 246, 248, 250].filterMap (fun i => lw_tbl[i]?) := by decide +kernel
  have g : (u_ws "MeshWalk$Funnel" mT1 8).all mGood = true := by decide +kernel
  intro w hw
  refine List.mem_filter.mpr ⟨?_, List.all_eq_true.mp g w hw⟩
  rw [h] at hw
  obtain ⟨i, -, hi⟩ := List.mem_filterMap.mp hw
  exact List.mem_of_getElem? hi
theorem mnm1 : ∀ a, a < 8 → ∀ b, b < 8 → a ≠ b → (mT1 a).2.1 ≠ (mT1 b).2.1 := by decide +kernel
theorem mtyok1 : ∀ k, k < 8 → parseFieldDescriptor (mT1 k).2.2.1 = some (mty1 k) := by decide +kernel
set_option maxRecDepth 20000 in
theorem mlay2 : ∀ w ∈ u_ws "MeshWalk$Grower" mT2 5, w ∈ mTbl := by
  have h : (u_ws "MeshWalk$Grower" mT2 5) = [185, 187, 189, 191, 193].filterMap (fun i => lw_tbl[i]?) := by decide +kernel
  have g : (u_ws "MeshWalk$Grower" mT2 5).all mGood = true := by decide +kernel
  intro w hw
  refine List.mem_filter.mpr ⟨?_, List.all_eq_true.mp g w hw⟩
  rw [h] at hw
  obtain ⟨i, -, hi⟩ := List.mem_filterMap.mp hw
  exact List.mem_of_getElem? hi
theorem mnm2 : ∀ a, a < 5 → ∀ b, b < 5 → a ≠ b → (mT2 a).2.1 ≠ (mT2 b).2.1 := by decide +kernel
theorem mtyok2 : ∀ k, k < 5 → parseFieldDescriptor (mT2 k).2.2.1 = some (mty2 k) := by decide +kernel
set_option maxRecDepth 20000 in
theorem mlay3 : ∀ w ∈ u_ws "MeshWalk$Links" mT3 3, w ∈ mTbl := by
  have h : (u_ws "MeshWalk$Links" mT3 3) = [129, 131, 133].filterMap (fun i => lw_tbl[i]?) := by decide +kernel
  have g : (u_ws "MeshWalk$Links" mT3 3).all mGood = true := by decide +kernel
  intro w hw
  refine List.mem_filter.mpr ⟨?_, List.all_eq_true.mp g w hw⟩
  rw [h] at hw
  obtain ⟨i, -, hi⟩ := List.mem_filterMap.mp hw
  exact List.mem_of_getElem? hi
theorem mnm3 : ∀ a, a < 3 → ∀ b, b < 3 → a ≠ b → (mT3 a).2.1 ≠ (mT3 b).2.1 := by decide +kernel
theorem mtyok3 : ∀ k, k < 3 → parseFieldDescriptor (mT3 k).2.2.1 = some (mty3 k) := by decide +kernel
set_option maxRecDepth 20000 in
theorem mlay4 : ∀ w ∈ u_ws "MeshWalk$Mesh" mT4 9, w ∈ mTbl := by
  have h : (u_ws "MeshWalk$Mesh" mT4 9) = [155, 157, 159, 161, 163, 165, 167, 169, 171].filterMap (fun i => lw_tbl[i]?) := by decide +kernel
  have g : (u_ws "MeshWalk$Mesh" mT4 9).all mGood = true := by decide +kernel
  intro w hw
  refine List.mem_filter.mpr ⟨?_, List.all_eq_true.mp g w hw⟩
  rw [h] at hw
  obtain ⟨i, -, hi⟩ := List.mem_filterMap.mp hw
  exact List.mem_of_getElem? hi
theorem mnm4 : ∀ a, a < 9 → ∀ b, b < 9 → a ≠ b → (mT4 a).2.1 ≠ (mT4 b).2.1 := by decide +kernel
theorem mtyok4 : ∀ k, k < 9 → parseFieldDescriptor (mT4 k).2.2.1 = some (mty4 k) := by decide +kernel
set_option maxRecDepth 20000 in
theorem mlay5 : ∀ w ∈ u_ws "MeshWalk$Plane" mT5 4, w ∈ mTbl := by
  have h : (u_ws "MeshWalk$Plane" mT5 4) = [111, 113, 115, 117].filterMap (fun i => lw_tbl[i]?) := by decide +kernel
  have g : (u_ws "MeshWalk$Plane" mT5 4).all mGood = true := by decide +kernel
  intro w hw
  refine List.mem_filter.mpr ⟨?_, List.all_eq_true.mp g w hw⟩
  rw [h] at hw
  obtain ⟨i, -, hi⟩ := List.mem_filterMap.mp hw
  exact List.mem_of_getElem? hi
theorem mnm5 : ∀ a, a < 4 → ∀ b, b < 4 → a ≠ b → (mT5 a).2.1 ≠ (mT5 b).2.1 := by decide +kernel
theorem mtyok5 : ∀ k, k < 4 → parseFieldDescriptor (mT5 k).2.2.1 = some (mty5 k) := by decide +kernel
set_option maxRecDepth 20000 in
theorem mlay6 : ∀ w ∈ u_ws "MeshWalk$Walk" mT6 7, w ∈ mTbl := by
  have h : (u_ws "MeshWalk$Walk" mT6 7) = [260, 262, 264, 266, 268, 270, 272].filterMap (fun i => lw_tbl[i]?) := by decide +kernel
  have g : (u_ws "MeshWalk$Walk" mT6 7).all mGood = true := by decide +kernel
  intro w hw
  refine List.mem_filter.mpr ⟨?_, List.all_eq_true.mp g w hw⟩
  rw [h] at hw
  obtain ⟨i, -, hi⟩ := List.mem_filterMap.mp hw
  exact List.mem_of_getElem? hi
theorem mnm6 : ∀ a, a < 7 → ∀ b, b < 7 → a ≠ b → (mT6 a).2.1 ≠ (mT6 b).2.1 := by decide +kernel
theorem mtyok6 : ∀ k, k < 7 → parseFieldDescriptor (mT6 k).2.2.1 = some (mty6 k) := by decide +kernel
set_option maxRecDepth 20000 in
theorem mlay7 : ∀ w ∈ u_ws "MeshWalk$WideSum" mT7 3, w ∈ mTbl := by
  have h : (u_ws "MeshWalk$WideSum" mT7 3) = [99, 101, 103].filterMap (fun i => lw_tbl[i]?) := by decide +kernel
  have g : (u_ws "MeshWalk$WideSum" mT7 3).all mGood = true := by decide +kernel
  intro w hw
  refine List.mem_filter.mpr ⟨?_, List.all_eq_true.mp g w hw⟩
  rw [h] at hw
  obtain ⟨i, -, hi⟩ := List.mem_filterMap.mp hw
  exact List.mem_of_getElem? hi
theorem mnm7 : ∀ a, a < 3 → ∀ b, b < 3 → a ≠ b → (mT7 a).2.1 ≠ (mT7 b).2.1 := by decide +kernel
theorem mtyok7 : ∀ k, k < 3 → parseFieldDescriptor (mT7 k).2.2.1 = some (mty7 k) := by decide +kernel
set_option maxRecDepth 20000 in
theorem mlay8 : ∀ w ∈ u_ws "MeshWalk" mT8 5, w ∈ mTbl := by
  have h : (u_ws "MeshWalk" mT8 5) = [280, 282, 284, 286, 288].filterMap (fun i => lw_tbl[i]?) := by decide +kernel
  have g : (u_ws "MeshWalk" mT8 5).all mGood = true := by decide +kernel
  intro w hw
  refine List.mem_filter.mpr ⟨?_, List.all_eq_true.mp g w hw⟩
  rw [h] at hw
  obtain ⟨i, -, hi⟩ := List.mem_filterMap.mp hw
  exact List.mem_of_getElem? hi
theorem mnm8 : ∀ a, a < 5 → ∀ b, b < 5 → a ≠ b → (mT8 a).2.1 ≠ (mT8 b).2.1 := by decide +kernel
theorem mtyok8 : ∀ k, k < 5 → parseFieldDescriptor (mT8 k).2.2.1 = some (mty8 k) := by decide +kernel
set_option maxRecDepth 20000 in
theorem mlay9 : ∀ w ∈ u_ws "MeshWalkModel" mT9 18, w ∈ mTbl := by
  have h : (u_ws "MeshWalkModel" mT9 18) = [910, 912, 914, 916, 918, 920, 922, 924, 926, 928, 930, 932, 934, 936, 938, 940, 942, 944].filterMap (fun i => lw_tbl[i]?) := by decide +kernel
  have g : (u_ws "MeshWalkModel" mT9 18).all mGood = true := by decide +kernel
  intro w hw
  refine List.mem_filter.mpr ⟨?_, List.all_eq_true.mp g w hw⟩
  rw [h] at hw
  obtain ⟨i, -, hi⟩ := List.mem_filterMap.mp hw
  exact List.mem_of_getElem? hi
theorem mnm9 : ∀ a, a < 18 → ∀ b, b < 18 → a ≠ b → (mT9 a).2.1 ≠ (mT9 b).2.1 := by decide +kernel
theorem mtyok9 : ∀ k, k < 18 → parseFieldDescriptor (mT9 k).2.2.1 = some (mty9 k) := by decide +kernel
def mTab : List (MethodName × ByteArray × Nat × Option FieldType × Nat × Nat × Nat × Nat) := [
  (⟨"MeshWalk$Chain", "<init>", "(I)V"⟩, prog_2_method_1_code, 2, none, 0, 1, 1, 20),
  (⟨"MeshWalk$Chain", "reset", "()V"⟩, prog_2_method_2_code, 1, none, 0, 0, 0, 0),
  (⟨"MeshWalk$Chain", "size", "()I"⟩, prog_2_method_3_code, 1, (some .int), 0, 0, 0, 0),
  (⟨"MeshWalk$Chain", "lastButOne", "(I)I"⟩, prog_2_method_6_code, 2, (some .int), 0, 1, 0, 0),
  (⟨"MeshWalk$Chain", "last", "()I"⟩, prog_2_method_5_code, 1, (some .int), 0, 0, 0, 0),
  (⟨"MeshWalk$Chain", "dropLast", "()V"⟩, prog_2_method_9_code, 1, none, 0, 0, 0, 0),
  (⟨"MeshWalk$Chain", "first", "()I"⟩, prog_2_method_4_code, 1, (some .int), 0, 0, 0, 0),
  (⟨"MeshWalk$Chain", "dropFirst", "()V"⟩, prog_2_method_8_code, 1, none, 0, 0, 0, 0),
  (⟨"MeshWalk$Chain", "push", "(I)V"⟩, prog_2_method_7_code, 2, none, 0, 1, 0, 0),
  (⟨"MeshWalk$Funnel", "<init>", "(LMeshWalk$Plane;)V"⟩, prog_3_method_1_code, 2, none, 1, 1, 2, 41),
  (⟨"MeshWalk$Funnel", "turnAt", "(I)I"⟩, prog_3_method_3_code, 2, (some .int), 1, 1, 0, 0),
  (⟨"MeshWalk$Funnel", "open", "(I)V"⟩, prog_3_method_4_code, 2, none, 1, 1, 1, 20),
  (⟨"MeshWalk$Funnel", "pass", "(II)V"⟩, prog_3_method_5_code, 3, none, 1, 2, 3, 77),
  (⟨"MeshWalk$Funnel", "extend", "(LMeshWalk$Chain;LMeshWalk$Chain;I)V"⟩, prog_3_method_7_code, 5, none, 1, 3, 2, 53),
  (⟨"MeshWalk$Funnel", "bendsOutward", "(LMeshWalk$Chain;I)Z"⟩, prog_3_method_8_code, 3, (some .boolean), 1, 2, 1, 31),
  (⟨"MeshWalk$Funnel", "isBeyond", "(LMeshWalk$Chain;I)Z"⟩, prog_3_method_9_code, 3, (some .boolean), 1, 2, 1, 31),
  (⟨"MeshWalk$Funnel", "keepTurn", "(I)V"⟩, prog_3_method_10_code, 2, none, 1, 1, 0, 0),
  (⟨"MeshWalk$Funnel", "close", "(I)V"⟩, prog_3_method_6_code, 3, none, 1, 1, 3, 77),
  (⟨"MeshWalk$Funnel", "size", "()I"⟩, prog_3_method_2_code, 1, (some .int), 1, 0, 0, 0),
  (⟨"MeshWalk$Grower", "<init>", "(LMeshWalk$Plane;LMeshWalk$Mesh;)V"⟩, prog_4_method_1_code, 3, none, 2, 2, 1, 20),
  (⟨"MeshWalk$Grower", "takeIn", "(I)V"⟩, prog_4_method_2_code, 3, none, 2, 1, 5, 117),
  (⟨"MeshWalk$Grower", "begin", "(I)V"⟩, prog_4_method_3_code, 4, none, 2, 1, 3, 77),
  (⟨"MeshWalk$Grower", "nextOnLine", "(II)I"⟩, prog_4_method_4_code, 5, (some .int), 2, 2, 1, 22),
  (⟨"MeshWalk$Grower", "putLeftRound", "(III)V"⟩, prog_4_method_5_code, 4, none, 2, 3, 2, 54),
  (⟨"MeshWalk$Grower", "reachOut", "(I)V"⟩, prog_4_method_6_code, 6, none, 2, 1, 2, 54),
  (⟨"MeshWalk$Grower", "split", "(II)V"⟩, prog_4_method_7_code, 6, none, 2, 2, 4, 92),
  (⟨"MeshWalk$Grower", "join", "(III)V"⟩, prog_4_method_8_code, 4, none, 2, 3, 3, 69),
  (⟨"MeshWalk$Grower", "splitBeyond", "(III)V"⟩, prog_4_method_9_code, 5, none, 2, 3, 2, 45),
  (⟨"MeshWalk$Grower", "force", "(II)V"⟩, prog_4_method_10_code, 4, none, 2, 2, 5, 117),
  (⟨"MeshWalk$Grower", "listCrossing", "(II)V"⟩, prog_4_method_11_code, 6, none, 2, 2, 3, 78),
  (⟨"MeshWalk$Grower", "firstRight", "(II)I"⟩, prog_4_method_12_code, 5, (some .int), 2, 2, 2, 54),
  (⟨"MeshWalk$Grower", "flipAtPeak", "(II)V"⟩, prog_4_method_13_code, 7, none, 2, 2, 3, 78),
  (⟨"MeshWalk$Grower", "peakOf", "(II)I"⟩, prog_4_method_14_code, 9, (some .int), 2, 2, 1, 31),
  (⟨"MeshWalk$Grower", "canFlip", "(II)Z"⟩, prog_4_method_15_code, 5, (some .boolean), 2, 2, 2, 54),
  (⟨"MeshWalk$Grower", "free", "(II)V"⟩, prog_4_method_16_code, 3, none, 2, 2, 5, 117),
  (⟨"MeshWalk$Links", "<init>", "(LMeshWalk$Plane;)V"⟩, prog_5_method_1_code, 2, none, 3, 1, 1, 20),
  (⟨"MeshWalk$Links", "reset", "()V"⟩, prog_5_method_6_code, 1, none, 3, 0, 1, 24),
  (⟨"MeshWalk$Links", "size", "()I"⟩, prog_5_method_2_code, 1, (some .int), 3, 0, 0, 0),
  (⟨"MeshWalk$Links", "reach", "(I)Z"⟩, prog_5_method_7_code, 4, (some .boolean), 3, 1, 2, 54),
  (⟨"MeshWalk$Links", "has", "(II)Z"⟩, prog_5_method_3_code, 3, (some .boolean), 3, 2, 0, 0),
  (⟨"MeshWalk$Links", "cross", "(II)Z"⟩, prog_5_method_8_code, 5, (some .boolean), 3, 2, 3, 78),
  (⟨"MeshWalk$Links", "doCross", "(IIII)Z"⟩, prog_5_method_9_code, 5, (some .boolean), 3, 4, 2, 54),
  (⟨"MeshWalk$Links", "set", "(II)V"⟩, prog_5_method_4_code, 3, none, 3, 2, 0, 0),
  (⟨"MeshWalk$Links", "drop", "(II)V"⟩, prog_5_method_5_code, 3, none, 3, 2, 0, 0),
  (⟨"MeshWalk$Mesh", "<init>", "(LMeshWalk$Plane;LMeshWalk$Links;)V"⟩, prog_6_method_1_code, 3, none, 4, 2, 1, 23),
  (⟨"MeshWalk$Mesh", "reset", "()V"⟩, prog_6_method_2_code, 1, none, 4, 0, 1, 23),
  (⟨"MeshWalk$Mesh", "size", "()I"⟩, prog_6_method_3_code, 1, (some .int), 4, 0, 0, 0),
  (⟨"MeshWalk$Mesh", "edges", "()I"⟩, prog_6_method_4_code, 1, (some .int), 4, 0, 1, 20),
  (⟨"MeshWalk$Mesh", "hullEdges", "()I"⟩, prog_6_method_5_code, 1, (some .int), 4, 0, 2, 40),
  (⟨"MeshWalk$Mesh", "put", "(III)V"⟩, prog_6_method_14_code, 4, none, 4, 3, 1, 21),
  (⟨"MeshWalk$Mesh", "holding", "(I)I"⟩, prog_6_method_12_code, 3, (some .int), 4, 1, 2, 54),
  (⟨"MeshWalk$Mesh", "holds", "(II)Z"⟩, prog_6_method_13_code, 4, (some .boolean), 4, 2, 1, 31),
  (⟨"MeshWalk$Mesh", "cornerOf", "(II)I"⟩, prog_6_method_6_code, 3, (some .int), 4, 2, 0, 0),
  (⟨"MeshWalk$Mesh", "nextCorner", "(II)I"⟩, prog_6_method_7_code, 3, (some .int), 4, 2, 0, 0),
  (⟨"MeshWalk$Mesh", "thirdOf", "(II)I"⟩, prog_6_method_8_code, 3, (some .int), 4, 2, 1, 21),
  (⟨"MeshWalk$Mesh", "suspect", "(II)V"⟩, prog_6_method_17_code, 5, none, 4, 2, 1, 21),
  (⟨"MeshWalk$Mesh", "take", "(III)V"⟩, prog_6_method_15_code, 4, none, 4, 3, 1, 21),
  (⟨"MeshWalk$Mesh", "settle", "()V"⟩, prog_6_method_18_code, 4, none, 4, 0, 4, 94),
  (⟨"MeshWalk$Mesh", "isGood", "(II)Z"⟩, prog_6_method_19_code, 6, (some .boolean), 4, 2, 3, 69),
  (⟨"MeshWalk$Mesh", "flip", "(II)V"⟩, prog_6_method_16_code, 5, none, 4, 2, 2, 45),
  (⟨"MeshWalk$Mesh", "giveNumbers", "()V"⟩, prog_6_method_20_code, 3, none, 4, 0, 2, 44),
  (⟨"MeshWalk$Mesh", "giveNextNumber", "(III)V"⟩, prog_6_method_21_code, 4, none, 4, 3, 1, 21),
  (⟨"MeshWalk$Mesh", "hasEdge", "(II)Z"⟩, prog_6_method_9_code, 3, (some .boolean), 4, 2, 2, 43),
  (⟨"MeshWalk$Mesh", "beyond", "(II)I"⟩, prog_6_method_10_code, 5, (some .int), 4, 2, 2, 43),
  (⟨"MeshWalk$Mesh", "openBeyond", "(II)I"⟩, prog_6_method_11_code, 4, (some .int), 4, 2, 3, 67),
  (⟨"MeshWalk$Plane", "<init>", "()V"⟩, prog_7_method_1_code, 1, none, 5, 0, 2, 40),
  (⟨"MeshWalk$Plane", "size", "()I"⟩, prog_7_method_2_code, 1, (some .int), 5, 0, 0, 0),
  (⟨"MeshWalk$Plane", "reset", "()V"⟩, prog_7_method_3_code, 1, none, 5, 0, 0, 0),
  (⟨"MeshWalk$Plane", "put", "(III)V"⟩, prog_7_method_4_code, 4, none, 5, 3, 0, 0),
  (⟨"MeshWalk$Plane", "pointAt", "(I)I"⟩, prog_7_method_6_code, 3, (some .int), 5, 1, 0, 0),
  (⟨"MeshWalk$Plane", "isOn", "(III)Z"⟩, prog_7_method_11_code, 4, (some .boolean), 5, 3, 1, 31),
  (⟨"MeshWalk$Plane", "areaOf", "(III)J"⟩, prog_7_method_7_code, 12, (some .long), 5, 3, 0, 0),
  (⟨"MeshWalk$Plane", "keep", "()V"⟩, prog_7_method_5_code, 1, none, 5, 0, 0, 0),
  (⟨"MeshWalk$Plane", "sideOf", "(III)I"⟩, prog_7_method_8_code, 4, (some .int), 5, 3, 1, 31),
  (⟨"MeshWalk$Plane", "isBefore", "(II)Z"⟩, prog_7_method_13_code, 3, (some .boolean), 5, 2, 0, 0),
  (⟨"MeshWalk$Plane", "insideOf", "(IIII)I"⟩, prog_7_method_9_code, 5, (some .int), 5, 4, 2, 45),
  (⟨"MeshWalk$Plane", "squareOf", "(II)J"⟩, prog_7_method_10_code, 7, (some .long), 5, 2, 0, 0),
  (⟨"MeshWalk$Plane", "isCovered", "(II)Z"⟩, prog_7_method_12_code, 4, (some .boolean), 5, 2, 2, 54),
  (⟨"MeshWalk$Walk", "<init>", "(LMeshWalk$Plane;LMeshWalk$Mesh;)V"⟩, prog_8_method_1_code, 3, none, 6, 2, 3, 62),
  (⟨"MeshWalk$Walk", "turnAt", "(I)I"⟩, prog_8_method_3_code, 2, (some .int), 6, 1, 1, 21),
  (⟨"MeshWalk$Walk", "triangleAt", "(I)I"⟩, prog_8_method_2_code, 2, (some .int), 6, 1, 0, 0),
  (⟨"MeshWalk$Walk", "findRow", "(II)Z"⟩, prog_8_method_4_code, 4, (some .boolean), 6, 2, 5, 116),
  (⟨"MeshWalk$Walk", "countSteps", "(I)V"⟩, prog_8_method_5_code, 7, none, 6, 1, 4, 90),
  (⟨"MeshWalk$Walk", "nextAfter", "(I)I"⟩, prog_8_method_6_code, 6, (some .int), 6, 1, 4, 90),
  (⟨"MeshWalk$Walk", "pullTight", "()I"⟩, prog_8_method_7_code, 2, (some .int), 6, 0, 5, 122),
  (⟨"MeshWalk$Walk", "pointOr", "(I)I"⟩, prog_8_method_8_code, 3, (some .int), 6, 1, 1, 22),
  (⟨"MeshWalk$Walk", "passGate", "(II)V"⟩, prog_8_method_9_code, 4, none, 6, 2, 4, 99),
  (⟨"MeshWalk$WideSum", "<init>", "()V"⟩, prog_9_method_1_code, 1, none, 7, 0, 1, 20),
  (⟨"MeshWalk$WideSum", "reset", "()V"⟩, prog_9_method_2_code, 1, none, 7, 0, 0, 0),
  (⟨"MeshWalk$WideSum", "plusProduct", "(JJ)V"⟩, prog_9_method_3_code, 17, none, 7, 2, 0, 0),
  (⟨"MeshWalk$WideSum", "sign", "()I"⟩, prog_9_method_4_code, 5, (some .int), 7, 0, 1, 21),
  (⟨"MeshWalk", "<init>", "()V"⟩, prog_1_method_1_code, 4, none, 8, 0, 4, 84),
  (⟨"MeshWalk", "clear", "()I"⟩, prog_1_method_5_code, 2, (some .int), 8, 0, 2, 44),
  (⟨"MeshWalk", "count", "(I)I"⟩, prog_1_method_6_code, 2, (some .int), 8, 1, 3, 60),
  (⟨"MeshWalk", "turn", "(I)I"⟩, prog_1_method_14_code, 2, (some .int), 8, 1, 2, 42),
  (⟨"MeshWalk", "sleeve", "(I)I"⟩, prog_1_method_15_code, 2, (some .int), 8, 1, 1, 21),
  (⟨"MeshWalk", "add", "(II)I"⟩, prog_1_method_2_code, 4, (some .int), 8, 2, 9, 182),
  (⟨"MeshWalk", "needPlace", "(II)V"⟩, prog_1_method_16_code, 3, none, 8, 2, 8, 160),
  (⟨"MeshWalk", "signOf", "(J)I"⟩, prog_1_method_21_code, 2, (some .int), 8, 1, 0, 0),
  (⟨"MeshWalk", "pair", "(II)I"⟩, prog_1_method_20_code, 2, (some .int), 8, 2, 0, 0),
  (⟨"MeshWalk", "link", "(II)Z"⟩, prog_1_method_3_code, 3, (some .boolean), 8, 2, 10, 203),
  (⟨"MeshWalk", "needPair", "(II)V"⟩, prog_1_method_18_code, 3, none, 8, 2, 9, 181),
  (⟨"MeshWalk", "needPoint", "(I)V"⟩, prog_1_method_17_code, 2, none, 8, 1, 8, 160),
  (⟨"MeshWalk", "unlink", "(II)Z"⟩, prog_1_method_4_code, 3, (some .boolean), 8, 2, 10, 203),
  (⟨"MeshWalk", "corner", "(II)I"⟩, prog_1_method_7_code, 3, (some .int), 8, 2, 9, 182),
  (⟨"MeshWalk", "needCorner", "(II)V"⟩, prog_1_method_19_code, 3, none, 8, 2, 8, 160),
  (⟨"MeshWalk", "across", "(II)I"⟩, prog_1_method_8_code, 3, (some .int), 8, 2, 9, 182),
  (⟨"MeshWalk", "edge", "(II)I"⟩, prog_1_method_9_code, 3, (some .int), 8, 2, 10, 203),
  (⟨"MeshWalk", "side", "(III)I"⟩, prog_1_method_10_code, 4, (some .int), 8, 3, 9, 181),
  (⟨"MeshWalk", "circle", "(IIII)I"⟩, prog_1_method_11_code, 6, (some .int), 8, 4, 9, 181),
  (⟨"MeshWalk", "locate", "(II)I"⟩, prog_1_method_12_code, 3, (some .int), 8, 2, 9, 182),
  (⟨"MeshWalk", "way", "(IIII)I"⟩, prog_1_method_13_code, 7, (some .int), 8, 4, 9, 182),
  (⟨"MeshWalkModel", "<init>", "()V"⟩, prog_11_method_1_code, 1, none, 9, 0, 1, 20),
  (⟨"MeshWalkModel", "thrown", "()I"⟩, prog_11_method_2_code, 1, (some .int), 9, 0, 0, 0),
  (⟨"MeshWalkModel", "add", "(II)I"⟩, prog_11_method_12_code, 6, (some .int), 9, 2, 2, 50),
  (⟨"MeshWalkModel", "isPlace", "(II)Z"⟩, prog_11_method_5_code, 2, (some .boolean), 9, 2, 1, 22),
  (⟨"MeshWalkModel", "isIn", "(III)Z"⟩, prog_11_method_4_code, 3, (some .boolean), 9, 3, 0, 0),
  (⟨"MeshWalkModel", "refused", "(I)Z"⟩, prog_11_method_3_code, 2, (some .boolean), 9, 1, 0, 0),
  (⟨"MeshWalkModel", "isOn", "(III)Z"⟩, prog_11_method_10_code, 6, (some .boolean), 9, 3, 1, 25),
  (⟨"MeshWalkModel", "sideOf", "(III)I"⟩, prog_11_method_7_code, 6, (some .int), 9, 3, 0, 0),
  (⟨"MeshWalkModel", "link", "(II)Z"⟩, prog_11_method_15_code, 3, (some .boolean), 9, 2, 3, 75),
  (⟨"MeshWalkModel", "isPair", "(II)Z"⟩, prog_11_method_13_code, 3, (some .boolean), 9, 2, 2, 43),
  (⟨"MeshWalkModel", "isPoint", "(I)Z"⟩, prog_11_method_6_code, 2, (some .boolean), 9, 1, 1, 22),
  (⟨"MeshWalkModel", "fits", "(II[Z)Z"⟩, prog_11_method_14_code, 6, (some .boolean), 9, 3, 2, 50),
  (⟨"MeshWalkModel", "cross", "(IIII)Z"⟩, prog_11_method_11_code, 5, (some .boolean), 9, 4, 1, 25),
  (⟨"MeshWalkModel", "unlink", "(II)Z"⟩, prog_11_method_16_code, 4, (some .boolean), 9, 2, 3, 65),
  (⟨"MeshWalkModel", "clear", "()I"⟩, prog_11_method_17_code, 3, (some .int), 9, 0, 0, 0),
  (⟨"MeshWalkModel", "count", "(I)I"⟩, prog_11_method_27_code, 7, (some .int), 9, 1, 6, 147),
  (⟨"MeshWalkModel", "mesh", "()V"⟩, prog_11_method_25_code, 5, none, 9, 0, 5, 123),
  (⟨"MeshWalkModel", "isFlat", "()Z"⟩, prog_11_method_22_code, 3, (some .boolean), 9, 0, 1, 25),
  (⟨"MeshWalkModel", "mark", "(IIZ)V"⟩, prog_11_method_18_code, 4, none, 9, 3, 0, 0),
  (⟨"MeshWalkModel", "turn", "(II)Z"⟩, prog_11_method_24_code, 7, (some .boolean), 9, 2, 4, 97),
  (⟨"MeshWalkModel", "apex", "(II)I"⟩, prog_11_method_21_code, 5, (some .int), 9, 2, 3, 73),
  (⟨"MeshWalkModel", "isTriangle", "(III)Z"⟩, prog_11_method_20_code, 4, (some .boolean), 9, 3, 2, 50),
  (⟨"MeshWalkModel", "isEmpty", "(III)Z"⟩, prog_11_method_19_code, 6, (some .boolean), 9, 3, 1, 25),
  (⟨"MeshWalkModel", "inCircle", "(IIII)I"⟩, prog_11_method_9_code, 17, (some .int), 9, 4, 1, 34),
  (⟨"MeshWalkModel", "addProduct", "(JJ)V"⟩, prog_11_method_8_code, 15, none, 9, 2, 0, 0),
  (⟨"MeshWalkModel", "least", "(II)I"⟩, prog_11_method_23_code, 2, (some .int), 9, 2, 0, 0),
  (⟨"MeshWalkModel", "with", "(II)I"⟩, prog_11_method_26_code, 6, (some .int), 9, 2, 0, 0),
  (⟨"MeshWalkModel", "corner", "(II)I"⟩, prog_11_method_29_code, 3, (some .int), 9, 2, 7, 169),
  (⟨"MeshWalkModel", "isCorner", "(II)Z"⟩, prog_11_method_28_code, 3, (some .boolean), 9, 2, 6, 147),
  (⟨"MeshWalkModel", "across", "(II)I"⟩, prog_11_method_30_code, 3, (some .int), 9, 2, 7, 169),
  (⟨"MeshWalkModel", "edge", "(II)I"⟩, prog_11_method_31_code, 3, (some .int), 9, 2, 6, 147),
  (⟨"MeshWalkModel", "side", "(III)I"⟩, prog_11_method_32_code, 4, (some .int), 9, 3, 2, 43),
  (⟨"MeshWalkModel", "circle", "(IIII)I"⟩, prog_11_method_33_code, 6, (some .int), 9, 4, 2, 70),
  (⟨"MeshWalkModel", "locate", "(II)I"⟩, prog_11_method_35_code, 3, (some .int), 9, 2, 6, 147),
  (⟨"MeshWalkModel", "find", "(I)I"⟩, prog_11_method_34_code, 6, (some .int), 9, 1, 1, 25),
  (⟨"MeshWalkModel", "way", "(IIII)I"⟩, prog_11_method_38_code, 7, (some .int), 9, 4, 6, 147),
  (⟨"MeshWalkModel", "measure", "(I)V"⟩, prog_11_method_37_code, 6, none, 9, 1, 2, 49),
  (⟨"MeshWalkModel", "behind", "(II)I"⟩, prog_11_method_36_code, 5, (some .int), 9, 2, 1, 25),
  (⟨"MeshWalkModel", "step", "(I)V"⟩, prog_11_method_39_code, 5, none, 9, 1, 2, 49),
  (⟨"MeshWalkModel", "pull", "()V"⟩, prog_11_method_40_code, 13, none, 9, 0, 2, 50),
  (⟨"MeshWalkModel", "straighten", "()V"⟩, prog_11_method_43_code, 3, none, 9, 0, 2, 58),
  (⟨"MeshWalkModel", "isTurn", "(I)Z"⟩, prog_11_method_42_code, 14, (some .boolean), 9, 1, 1, 25),
  (⟨"MeshWalkModel", "pointAt", "(I)I"⟩, prog_11_method_41_code, 2, (some .int), 9, 1, 0, 0),
  (⟨"MeshWalkModel", "turn", "(I)I"⟩, prog_11_method_44_code, 2, (some .int), 9, 1, 1, 22),
  (⟨"MeshWalkModel", "sleeve", "(I)I"⟩, prog_11_method_45_code, 2, (some .int), 9, 1, 1, 22),
  (⟨"MeshWalkLaw", "add", "(LMeshWalk;II[J)I"⟩, method_3_code, 5, (some .int), 13, 4, 10, 205),
  (⟨"MeshWalkLaw", "link", "(LMeshWalk;II[J)I"⟩, method_4_code, 5, (some .int), 13, 4, 11, 225),
  (⟨"MeshWalkLaw", "unlink", "(LMeshWalk;II[J)I"⟩, method_5_code, 5, (some .int), 13, 4, 11, 225),
  (⟨"MeshWalkLaw", "corner", "(LMeshWalk;II[J)I"⟩, method_6_code, 5, (some .int), 13, 4, 10, 204),
  (⟨"MeshWalkLaw", "across", "(LMeshWalk;II[J)I"⟩, method_7_code, 5, (some .int), 13, 4, 10, 204),
  (⟨"MeshWalkLaw", "edge", "(LMeshWalk;II[J)I"⟩, method_8_code, 5, (some .int), 13, 4, 11, 225),
  (⟨"MeshWalkLaw", "side", "(LMeshWalk;III[J)I"⟩, method_9_code, 6, (some .int), 13, 5, 10, 204),
  (⟨"MeshWalkLaw", "circle", "(LMeshWalk;IIII[J)I"⟩, method_10_code, 7, (some .int), 13, 6, 10, 206),
  (⟨"MeshWalkLaw", "locate", "(LMeshWalk;II[J)I"⟩, method_11_code, 5, (some .int), 13, 4, 10, 204),
  (⟨"MeshWalkLaw", "way", "(LMeshWalk;IIII[J)I"⟩, method_12_code, 7, (some .int), 13, 6, 10, 208),
  (⟨"java/util/Arrays", "fill", "([II)V"⟩, prog_20_method_103_code, 4, none, 14, 2, 0, 0),
  (⟨"java/util/Arrays", "fill", "([JJ)V"⟩, prog_20_method_101_code, 5, none, 14, 2, 0, 0),
  (⟨"java/lang/Math", "min", "(II)I"⟩, prog_16_method_69_code, 2, (some .int), 15, 2, 0, 0),
  (⟨"java/lang/Math", "max", "(II)I"⟩, prog_16_method_65_code, 2, (some .int), 15, 2, 0, 0),
  (⟨"MeshWalkLaw", "law", "([I)Z"⟩, code, 7, (some .boolean), 13, 1, 12, 249)]
def mRow (M : Nat) : MethodName × ByteArray × Nat × Option FieldType × Nat × Nat × Nat × Nat := mTab.getD M (⟨"", "", ""⟩, ⟨#[]⟩, 0, none, 0, 0, 0, 0)
def mName (M : Nat) : MethodName := (mRow M).1
def mCode (M : Nat) : ByteArray := (mRow M).2.1
def mMaxL (M : Nat) : Nat := (mRow M).2.2.1
def mRet (M : Nat) : Option FieldType := (mRow M).2.2.2.1
def mOwn (M : Nat) : Nat := (mRow M).2.2.2.2.1
def mAr (M : Nat) : Nat := (mRow M).2.2.2.2.2.1
def mFr (M : Nat) : Nat := (mRow M).2.2.2.2.2.2.1
def mLo (M : Nat) : Nat := (mRow M).2.2.2.2.2.2.2
def mHand (M : Nat) : List (Nat × Nat × Nat × Nat) := match M with
  | 157 => [(0, 10, 13, 13), (0, 10, 17, 15)]
  | 158 => [(0, 17, 20, 13)]
  | 159 => [(0, 17, 20, 13)]
  | 160 => [(0, 10, 13, 27)]
  | 161 => [(0, 10, 13, 27)]
  | 162 => [(0, 10, 13, 13)]
  | 163 => [(0, 12, 15, 13)]
  | 164 => [(0, 14, 17, 13)]
  | 165 => [(0, 10, 13, 13)]
  | 166 => [(0, 14, 17, 13)]
  | _ => []
def mFldT : List (Nat × Nat × Nat × Nat × Nat) := [(7, 9, 7, 0, 96), (7, 13, 7, 1, 97), (7, 16, 7, 2, 98), (5, 9, 5, 0, 107), (5, 15, 5, 1, 108), (5, 21, 5, 2, 109), (5, 25, 5, 3, 110), (3, 15, 3, 0, 126), (3, 9, 3, 1, 127), (3, 19, 3, 2, 128), (4, 28, 4, 0, 146), (4, 32, 4, 1, 147), (4, 9, 4, 2, 148), (4, 15, 4, 3, 149), (4, 18, 4, 4, 150), (4, 42, 4, 5, 151), (4, 21, 4, 6, 152), (4, 102, 4, 7, 153), (4, 24, 4, 8, 154), (2, 18, 2, 0, 180), (2, 22, 2, 1, 181), (2, 9, 2, 2, 182), (2, 15, 2, 3, 183), (2, 105, 2, 4, 184), (0, 15, 0, 0, 214), (0, 9, 0, 1, 216), (0, 19, 0, 2, 217), (0, 22, 0, 3, 218), (1, 27, 1, 0, 228), (1, 14, 1, 1, 229), (1, 20, 1, 2, 230), (1, 38, 1, 3, 231), (1, 41, 1, 4, 232), (1, 44, 1, 5, 233), (1, 23, 1, 6, 234), (1, 31, 1, 7, 235), (6, 21, 6, 0, 253), (6, 25, 6, 1, 254), (6, 34, 6, 2, 255), (6, 9, 6, 3, 256), (6, 38, 6, 4, 257), (6, 15, 6, 5, 258), (6, 18, 6, 6, 259), (8, 22, 8, 0, 275), (8, 26, 8, 1, 276), (8, 30, 8, 2, 277), (8, 39, 8, 3, 278), (8, 46, 8, 4, 279), (9, 42, 9, 0, 892), (9, 52, 9, 1, 893), (9, 7, 9, 2, 894), (9, 13, 9, 3, 895), (9, 16, 9, 4, 896), (9, 20, 9, 5, 897), (9, 85, 9, 6, 898), (9, 124, 9, 7, 899), (9, 23, 9, 8, 900), (9, 154, 9, 9, 901), (9, 27, 9, 10, 902), (9, 166, 9, 11, 903), (9, 30, 9, 12, 904), (9, 33, 9, 13, 905), (9, 36, 9, 14, 906), (9, 39, 9, 15, 907), (9, 57, 9, 16, 908), (9, 61, 9, 17, 909)]
def mFldNT : List (Nat × Nat × Nat × Nat × Nat) := [(1, 76, 0, 0, 215)]
def mLnkT : List (Nat × Nat × Nat × Nat × Nat × Nat × Nat × Nat × Nat) := [
  (13, 49, 91, 2, 78, 79, 0, 58, 80),
  (8, 11, 65, 5, 86, 87, 0, 59, 88),
  (5, 20, 87, 5, 92, 93, 0, 60, 94),
  (8, 14, 35, 2, 122, 123, 0, 61, 124),
  (8, 19, 44, 2, 139, 140, 0, 62, 141),
  (4, 36, 167, 1, 143, 144, 0, 63, 145),
  (8, 36, 19, 2, 176, 177, 0, 64, 178),
  (8, 45, 78, 2, 198, 199, 0, 65, 200),
  (6, 31, 9, 2, 204, 205, 0, 66, 206),
  (1, 11, 0, 2, 210, 211, 0, 67, 212),
  (13, 69, 92, 0, 291, 292, 293, 58, 294),
  (8, 54, 66, 0, 295, 296, 297, 59, 298),
  (8, 109, 67, 0, 299, 300, 301, 59, 302),
  (8, 112, 36, 0, 303, 304, 305, 61, 306),
  (3, 25, 168, 1, 307, 308, 0, 63, 309),
  (8, 113, 45, 0, 310, 311, 312, 62, 313),
  (13, 73, 93, 0, 314, 315, 316, 58, 317),
  (8, 114, 37, 0, 318, 319, 320, 61, 321),
  (8, 115, 46, 0, 322, 323, 324, 62, 325),
  (8, 116, 47, 0, 326, 327, 328, 62, 329),
  (4, 46, 66, 0, 330, 296, 297, 59, 298),
  (8, 119, 48, 0, 331, 332, 333, 62, 334),
  (4, 51, 47, 0, 335, 327, 328, 62, 329),
  (13, 101, 94, 0, 336, 337, 338, 58, 339),
  (8, 160, 79, 0, 340, 341, 342, 65, 343),
  (6, 42, 10, 0, 344, 345, 346, 66, 347),
  (13, 105, 95, 0, 348, 349, 350, 58, 351),
  (8, 163, 80, 0, 352, 353, 354, 65, 355),
  (13, 53, 157, 1, 356, 357, 0, 57, 358),
  (13, 7, 96, 0, 361, 362, 363, 58, 364),
  (8, 50, 97, 0, 365, 367, 0, 58, 368),
  (8, 65, 68, 0, 455, 456, 457, 59, 458),
  (8, 69, 69, 0, 459, 460, 461, 59, 462),
  (8, 73, 38, 0, 463, 464, 465, 61, 466),
  (3, 31, 66, 0, 467, 296, 297, 59, 298),
  (3, 36, 39, 0, 468, 469, 470, 61, 471),
  (3, 40, 70, 0, 472, 473, 474, 59, 475),
  (5, 29, 71, 0, 476, 477, 478, 59, 479),
  (5, 52, 169, 1, 480, 481, 0, 74, 482),
  (5, 58, 170, 1, 483, 484, 0, 74, 485),
  (8, 77, 72, 0, 486, 487, 488, 59, 489),
  (8, 80, 20, 0, 490, 491, 492, 64, 493),
  (2, 26, 46, 0, 494, 323, 324, 62, 325),
  (2, 32, 21, 0, 495, 497, 2, 64, 498),
  (2, 50, 73, 0, 499, 500, 501, 59, 502),
  (5, 33, 98, 4, 503, 504, 0, 58, 505),
  (2, 56, 22, 0, 506, 508, 3, 64, 509),
  (2, 64, 74, 0, 510, 511, 512, 59, 513),
  (2, 60, 23, 0, 514, 516, 4, 64, 517),
  (2, 68, 49, 0, 518, 519, 520, 62, 521),
  (4, 54, 99, 4, 522, 523, 0, 58, 524),
  (2, 36, 50, 0, 525, 526, 527, 62, 528),
  (4, 76, 51, 0, 529, 531, 5, 62, 532),
  (4, 61, 52, 0, 533, 534, 535, 62, 536),
  (4, 64, 53, 0, 537, 538, 539, 62, 540),
  (4, 79, 71, 0, 541, 477, 478, 59, 479),
  (2, 40, 24, 0, 542, 544, 6, 64, 545),
  (2, 71, 52, 0, 546, 534, 535, 62, 536),
  (2, 74, 53, 0, 547, 538, 539, 62, 540),
  (2, 77, 54, 0, 548, 549, 550, 62, 551),
  (2, 80, 55, 0, 552, 553, 554, 62, 555),
  (4, 94, 169, 1, 556, 481, 0, 74, 482),
  (4, 99, 170, 1, 557, 484, 0, 74, 485),
  (2, 43, 25, 0, 558, 560, 7, 64, 561),
  (2, 83, 56, 0, 562, 563, 564, 62, 565),
  (2, 86, 26, 0, 566, 568, 8, 64, 569),
  (2, 89, 27, 0, 570, 572, 9, 64, 573),
  (2, 47, 57, 0, 574, 575, 576, 62, 577),
  (4, 67, 39, 0, 580, 469, 470, 61, 471),
  (4, 108, 58, 0, 581, 583, 10, 62, 584),
  (4, 58, 54, 0, 585, 549, 550, 62, 551),
  (4, 117, 75, 0, 586, 587, 588, 59, 589),
  (5, 37, 88, 0, 590, 591, 592, 60, 593),
  (5, 40, 76, 0, 594, 596, 11, 59, 597),
  (5, 44, 89, 0, 598, 599, 600, 60, 601),
  (5, 48, 90, 0, 603, 604, 605, 60, 606),
  (7, 21, 98, 4, 607, 504, 0, 58, 505),
  (4, 111, 59, 0, 608, 609, 610, 62, 611),
  (4, 83, 56, 0, 612, 563, 564, 62, 565),
  (4, 87, 49, 0, 613, 519, 520, 62, 521),
  (4, 90, 55, 0, 614, 553, 554, 62, 555),
  (4, 114, 60, 0, 615, 617, 12, 62, 618),
  (4, 121, 61, 0, 619, 621, 13, 62, 622),
  (13, 63, 158, 1, 623, 624, 0, 57, 625),
  (13, 17, 100, 0, 626, 627, 628, 58, 629),
  (8, 84, 101, 0, 630, 632, 14, 58, 633),
  (8, 135, 102, 0, 634, 636, 15, 58, 637),
  (8, 87, 39, 0, 640, 469, 470, 61, 471),
  (8, 91, 77, 0, 641, 642, 643, 59, 644),
  (5, 61, 70, 0, 645, 473, 474, 59, 475),
  (8, 94, 40, 0, 646, 647, 648, 61, 649),
  (3, 44, 41, 0, 650, 652, 16, 61, 653),
  (3, 48, 73, 0, 654, 500, 501, 59, 502),
  (8, 97, 42, 0, 655, 656, 657, 61, 658),
  (8, 100, 28, 0, 659, 660, 661, 64, 662),
  (2, 93, 62, 0, 664, 665, 666, 62, 667),
  (2, 96, 29, 0, 668, 670, 17, 64, 671),
  (2, 102, 30, 0, 672, 674, 18, 64, 675),
  (2, 109, 66, 0, 676, 296, 297, 59, 298),
  (2, 99, 31, 0, 677, 679, 19, 64, 680),
  (2, 110, 32, 0, 681, 683, 20, 64, 684),
  (2, 119, 71, 0, 685, 477, 478, 59, 479),
  (2, 113, 33, 0, 686, 688, 21, 64, 689),
  (2, 116, 59, 0, 690, 609, 610, 62, 611),
  (13, 66, 159, 1, 691, 692, 0, 57, 693),
  (13, 21, 103, 0, 694, 695, 696, 58, 697),
  (8, 103, 43, 0, 698, 699, 700, 61, 701),
  (8, 106, 34, 0, 703, 704, 705, 64, 706),
  (13, 78, 160, 1, 707, 708, 0, 57, 709),
  (13, 24, 104, 0, 711, 712, 713, 58, 714),
  (8, 122, 105, 0, 715, 717, 22, 58, 718),
  (8, 125, 52, 0, 735, 534, 535, 62, 536),
  (13, 81, 161, 1, 736, 737, 0, 57, 738),
  (13, 29, 106, 0, 739, 740, 741, 58, 742),
  (8, 129, 63, 0, 743, 744, 745, 62, 746),
  (13, 84, 162, 1, 747, 748, 0, 57, 749),
  (13, 32, 107, 0, 750, 751, 752, 58, 753),
  (8, 132, 62, 0, 754, 665, 666, 62, 667),
  (13, 87, 163, 1, 755, 756, 0, 57, 757),
  (13, 35, 108, 0, 758, 759, 760, 58, 761),
  (8, 138, 73, 0, 762, 500, 501, 59, 502),
  (13, 91, 164, 1, 763, 764, 0, 57, 765),
  (13, 39, 109, 0, 766, 767, 768, 58, 769),
  (8, 147, 75, 0, 771, 587, 588, 59, 589),
  (13, 95, 165, 1, 772, 773, 0, 57, 774),
  (13, 43, 110, 0, 775, 776, 777, 58, 778),
  (8, 151, 50, 0, 779, 526, 527, 62, 528),
  (13, 98, 166, 1, 780, 781, 0, 57, 782),
  (13, 46, 111, 0, 783, 784, 785, 58, 786),
  (8, 154, 81, 0, 787, 788, 789, 65, 790),
  (6, 46, 82, 0, 791, 793, 23, 65, 794),
  (6, 53, 167, 1, 795, 144, 0, 63, 145),
  (6, 59, 46, 0, 796, 323, 324, 62, 325),
  (6, 65, 64, 0, 797, 798, 799, 62, 800),
  (4, 73, 63, 0, 801, 744, 745, 62, 746),
  (6, 50, 83, 0, 802, 804, 24, 65, 805),
  (8, 157, 84, 0, 806, 807, 808, 65, 809),
  (6, 69, 85, 0, 810, 812, 25, 65, 813),
  (6, 83, 69, 0, 814, 460, 461, 59, 462),
  (6, 72, 11, 0, 815, 816, 817, 66, 818),
  (1, 35, 1, 0, 819, 820, 821, 67, 822),
  (6, 75, 86, 0, 823, 825, 26, 65, 826),
  (6, 88, 53, 0, 827, 538, 539, 62, 540),
  (6, 91, 52, 0, 828, 534, 535, 62, 536),
  (6, 94, 12, 0, 829, 830, 831, 66, 832),
  (1, 47, 13, 0, 833, 835, 27, 66, 836),
  (1, 51, 2, 0, 837, 838, 839, 67, 840),
  (1, 63, 14, 0, 841, 843, 28, 66, 844),
  (1, 79, 3, 0, 845, 846, 847, 67, 848),
  (1, 83, 4, 0, 849, 850, 851, 67, 852),
  (1, 86, 71, 0, 853, 477, 478, 59, 479),
  (1, 67, 5, 0, 854, 855, 856, 67, 857),
  (1, 70, 15, 0, 858, 860, 29, 66, 861),
  (1, 54, 6, 0, 862, 863, 864, 67, 865),
  (1, 57, 16, 0, 866, 868, 30, 66, 869),
  (1, 60, 7, 0, 870, 871, 872, 67, 873),
  (1, 73, 8, 0, 874, 875, 876, 67, 877),
  (6, 79, 17, 0, 878, 879, 880, 66, 881),
  (6, 82, 18, 0, 882, 883, 884, 66, 885),
  (13, 52, 112, 2, 888, 889, 0, 68, 890),
  (13, 59, 113, 0, 948, 949, 950, 68, 951),
  (13, 58, 114, 0, 952, 953, 954, 68, 955),
  (9, 74, 115, 1, 956, 957, 0, 68, 958),
  (9, 48, 116, 1, 961, 962, 0, 68, 963),
  (9, 78, 117, 0, 964, 966, 31, 68, 967),
  (9, 82, 118, 0, 968, 970, 32, 68, 971),
  (9, 70, 119, 0, 972, 974, 33, 68, 975),
  (13, 65, 120, 0, 976, 977, 978, 68, 979),
  (9, 96, 121, 0, 980, 982, 34, 68, 983),
  (9, 89, 122, 0, 984, 986, 35, 68, 987),
  (9, 99, 123, 0, 988, 990, 36, 68, 991),
  (9, 92, 124, 0, 992, 994, 37, 68, 995),
  (13, 68, 125, 0, 996, 997, 998, 68, 999),
  (13, 72, 126, 0, 1000, 1001, 1002, 68, 1003),
  (13, 77, 127, 0, 1004, 1005, 1006, 68, 1007),
  (9, 134, 128, 0, 1008, 1010, 38, 68, 1011),
  (9, 127, 129, 0, 1012, 1014, 39, 68, 1015),
  (9, 120, 130, 0, 1016, 1018, 40, 68, 1019),
  (9, 131, 131, 0, 1020, 1022, 41, 68, 1023),
  (9, 109, 132, 0, 1024, 1026, 42, 68, 1027),
  (9, 106, 133, 0, 1028, 1030, 43, 68, 1031),
  (9, 103, 134, 0, 1032, 1034, 44, 68, 1035),
  (9, 113, 135, 0, 1036, 1038, 45, 68, 1039),
  (9, 66, 136, 0, 1040, 1042, 46, 68, 1043),
  (9, 117, 137, 1, 1046, 1047, 0, 68, 1048),
  (9, 137, 138, 0, 1049, 1051, 47, 68, 1052),
  (13, 80, 139, 0, 1053, 1054, 1055, 68, 1056),
  (9, 140, 140, 0, 1057, 1059, 48, 68, 1060),
  (13, 83, 141, 0, 1061, 1062, 1063, 68, 1064),
  (13, 86, 142, 0, 1065, 1066, 1067, 68, 1068),
  (13, 90, 143, 0, 1069, 1070, 1071, 68, 1072),
  (13, 94, 144, 0, 1073, 1074, 1075, 68, 1076),
  (13, 97, 145, 0, 1077, 1078, 1079, 68, 1080),
  (9, 143, 146, 0, 1081, 1083, 49, 68, 1084),
  (13, 100, 147, 0, 1085, 1086, 1087, 68, 1088),
  (9, 150, 148, 0, 1089, 1091, 50, 68, 1092),
  (9, 147, 149, 0, 1093, 1095, 51, 68, 1096),
  (9, 157, 150, 0, 1097, 1099, 52, 68, 1100),
  (9, 160, 151, 0, 1101, 1103, 53, 68, 1104),
  (9, 163, 152, 0, 1105, 1107, 54, 68, 1108),
  (9, 172, 153, 0, 1109, 1111, 55, 68, 1112),
  (9, 169, 154, 0, 1113, 1115, 56, 68, 1116),
  (13, 104, 155, 0, 1117, 1118, 1119, 68, 1120),
  (13, 108, 156, 0, 1121, 1122, 1123, 68, 1124)]
def mObjT : List (Nat × Nat × Nat) := [(8, 3, 81), (5, 3, 89), (7, 3, 95), (3, 3, 125), (4, 3, 142), (2, 3, 179), (6, 3, 201), (1, 3, 207), (0, 3, 213), (9, 1, 891)]
def mNewT : List (Nat × Nat × Nat × Nat × Nat × Nat) := [(13, 8, 8, 76, 77, 58), (8, 9, 5, 84, 85, 59), (5, 18, 7, 90, 91, 60), (8, 12, 3, 120, 121, 61), (8, 17, 4, 137, 138, 62), (8, 34, 2, 174, 175, 64), (8, 43, 6, 196, 197, 65), (6, 29, 1, 202, 203, 66), (1, 9, 0, 208, 209, 67), (13, 50, 9, 886, 887, 68)]
def mCiT : List (Nat × Nat × Int32 × Nat) := [(8, 166, (-536870911), 369), (8, 167, 536870911, 370), (4, 105, 1000000, 578), (2, 92, 1000000, 663), (9, 46, (-536870911), 959), (9, 47, 536870911, 960)]
def mClT : List (Nat × Nat × Int64 × Nat) := [(4, 106, (-1), 579), (7, 19, 2147483647, 602), (3, 23, (-1), 702), (9, 55, 4294967295, 1044), (9, 64, (-9223372036854775808), 1045)]
def mIs (i : Nat) (w : Cond) : Bool := decide (lw_tbl[i]? = some w) && mGood w
theorem mIs.mem {i : Nat} {w : Cond} (h : mIs i w = true) : w ∈ mTbl := by
  simp only [mIs, Bool.and_eq_true, decide_eq_true_eq] at h
  exact mTbl_of h.1 h.2
def mFldOK (q : Nat × Nat × Nat × Nat × Nat) : Bool := match mcl[q.2.2.1]? with
  | some (C, T, N) => decide (q.2.2.2.1 < N) && (decide ((T q.2.2.2.1).1 = C) && mIs q.2.2.2.2 (.fieldLink (mNmOf q.1) q.2.1 C (T q.2.2.2.1).2.1 (T q.2.2.2.1).2.2.1))
  | none => false
set_option maxRecDepth 20000 in
theorem mFldT_ok : mFldT.all mFldOK = true := by decide +kernel
def mFldNOK (q : Nat × Nat × Nat × Nat × Nat) : Bool := match mcl[q.2.2.1]? with
  | some (C, T, N) => decide (q.2.2.2.1 < N) && (decide ((T q.2.2.2.1).1 = C) && mIs q.2.2.2.2 (.fieldLinkNest (mNmOf q.1) q.2.1 C (T q.2.2.2.1).2.1 (T q.2.2.2.1).2.2.1 "MeshWalk"))
  | none => false
set_option maxRecDepth 20000 in
theorem mFldNT_ok : mFldNT.all mFldNOK = true := by decide +kernel
def mLnkOK (q : Nat × Nat × Nat × Nat × Nat × Nat × Nat × Nat × Nat) : Bool := match q with
  | (own, idx, N, kind, i1, i2, i3, i4, _) =>
    mIs i1 (if kind < 3 then .methodLink (mNmOf own) idx (mName N) else .methodLinkNest (mNmOf own) idx (mName N) "MeshWalk") &&
    (mIs i2 (if kind % 3 = 1 then .static (mName N) else .instanceMethod (mName N)) &&
    ((if kind % 3 = 0 then mIs i3 (.selects (mName N).cls (mName N) (mName N)) else true) &&
    (mIs i4 (.initialized (mName N).cls) &&
    (decide ((mName N).cls ≠ "java/lang/invoke/MethodHandle" ∧ (mName N).cls ≠ "java/lang/invoke/VarHandle") &&
    (decide ((parseMethodDescriptor (mName N).desc).map (fun d => d.parameters.length) = some (mAr N)) &&
    (decide (mNmOf (mOwn N) = (mName N).cls) && (plainFor (mName N) && (if kind % 3 = 2 then decide ((mName N).name = "<init>" ∧ mRet N = none) else true))))))))
set_option maxRecDepth 20000 in
theorem mLnkT_ok : mLnkT.all mLnkOK = true := by decide +kernel
def mObjOK (q : Nat × Nat × Nat) : Bool := mIs q.2.2 (.methodLink (mNmOf q.1) q.2.1 objectInit)
set_option maxRecDepth 20000 in
theorem mObjT_ok : mObjT.all mObjOK = true := by decide +kernel
def mNewOK (q : Nat × Nat × Nat × Nat × Nat × Nat) : Bool := match mcl[q.2.2.1]? with
  | some (C, _, N) => mIs q.2.2.2.1 (.classLink (mNmOf q.1) q.2.1 C) && (mIs q.2.2.2.2.1 (.instantiable C N) && mIs q.2.2.2.2.2 (.initialized C))
  | none => false
set_option maxRecDepth 20000 in
theorem mNewT_ok : mNewT.all mNewOK = true := by decide +kernel
def mCiOK (q : Nat × Nat × Int32 × Nat) : Bool := mIs q.2.2.2 (.constant (mNmOf q.1) q.2.1 q.2.2.1)
set_option maxRecDepth 20000 in
theorem mCiT_ok : mCiT.all mCiOK = true := by decide +kernel
def mClOK (q : Nat × Nat × Int64 × Nat) : Bool := mIs q.2.2.2 (.constantLong (mNmOf q.1) q.2.1 q.2.2.1)
set_option maxRecDepth 20000 in
theorem mClT_ok : mClT.all mClOK = true := by decide +kernel
def mCw (N : Nat) : Cond := if mHand N = [] then .code (mName N) (mCode N) (mMaxL N) (mRet N) else .codeWith (mName N) (mCode N) (mMaxL N) (mRet N) (mHand N)
end
section
/-! the code word of every method, by program -/
theorem mcd0 : mCw 0 ∈ mTbl := mIs.mem (i := 212) (by decide +kernel)
theorem mcd1 : mCw 1 ∈ mTbl := mIs.mem (i := 822) (by decide +kernel)
theorem mcd2 : mCw 2 ∈ mTbl := mIs.mem (i := 840) (by decide +kernel)
theorem mcd3 : mCw 3 ∈ mTbl := mIs.mem (i := 848) (by decide +kernel)
theorem mcd4 : mCw 4 ∈ mTbl := mIs.mem (i := 852) (by decide +kernel)
theorem mcd5 : mCw 5 ∈ mTbl := mIs.mem (i := 857) (by decide +kernel)
theorem mcd6 : mCw 6 ∈ mTbl := mIs.mem (i := 865) (by decide +kernel)
theorem mcd7 : mCw 7 ∈ mTbl := mIs.mem (i := 873) (by decide +kernel)
theorem mcd8 : mCw 8 ∈ mTbl := mIs.mem (i := 877) (by decide +kernel)
theorem mcd9 : mCw 9 ∈ mTbl := mIs.mem (i := 206) (by decide +kernel)
theorem mcd10 : mCw 10 ∈ mTbl := mIs.mem (i := 347) (by decide +kernel)
theorem mcd11 : mCw 11 ∈ mTbl := mIs.mem (i := 818) (by decide +kernel)
theorem mcd12 : mCw 12 ∈ mTbl := mIs.mem (i := 832) (by decide +kernel)
theorem mcd13 : mCw 13 ∈ mTbl := mIs.mem (i := 836) (by decide +kernel)
theorem mcd14 : mCw 14 ∈ mTbl := mIs.mem (i := 844) (by decide +kernel)
theorem mcd15 : mCw 15 ∈ mTbl := mIs.mem (i := 861) (by decide +kernel)
theorem mcd16 : mCw 16 ∈ mTbl := mIs.mem (i := 869) (by decide +kernel)
theorem mcd17 : mCw 17 ∈ mTbl := mIs.mem (i := 881) (by decide +kernel)
theorem mcd18 : mCw 18 ∈ mTbl := mIs.mem (i := 885) (by decide +kernel)
theorem mcd19 : mCw 19 ∈ mTbl := mIs.mem (i := 178) (by decide +kernel)
theorem mcd20 : mCw 20 ∈ mTbl := mIs.mem (i := 493) (by decide +kernel)
theorem mcd21 : mCw 21 ∈ mTbl := mIs.mem (i := 498) (by decide +kernel)
theorem mcd22 : mCw 22 ∈ mTbl := mIs.mem (i := 509) (by decide +kernel)
theorem mcd23 : mCw 23 ∈ mTbl := mIs.mem (i := 517) (by decide +kernel)
theorem mcd24 : mCw 24 ∈ mTbl := mIs.mem (i := 545) (by decide +kernel)
theorem mcd25 : mCw 25 ∈ mTbl := mIs.mem (i := 561) (by decide +kernel)
theorem mcd26 : mCw 26 ∈ mTbl := mIs.mem (i := 569) (by decide +kernel)
theorem mcd27 : mCw 27 ∈ mTbl := mIs.mem (i := 573) (by decide +kernel)
theorem mcd28 : mCw 28 ∈ mTbl := mIs.mem (i := 662) (by decide +kernel)
theorem mcd29 : mCw 29 ∈ mTbl := mIs.mem (i := 671) (by decide +kernel)
theorem mcd30 : mCw 30 ∈ mTbl := mIs.mem (i := 675) (by decide +kernel)
theorem mcd31 : mCw 31 ∈ mTbl := mIs.mem (i := 680) (by decide +kernel)
theorem mcd32 : mCw 32 ∈ mTbl := mIs.mem (i := 684) (by decide +kernel)
theorem mcd33 : mCw 33 ∈ mTbl := mIs.mem (i := 689) (by decide +kernel)
theorem mcd34 : mCw 34 ∈ mTbl := mIs.mem (i := 706) (by decide +kernel)
theorem mcd35 : mCw 35 ∈ mTbl := mIs.mem (i := 124) (by decide +kernel)
theorem mcd36 : mCw 36 ∈ mTbl := mIs.mem (i := 306) (by decide +kernel)
theorem mcd37 : mCw 37 ∈ mTbl := mIs.mem (i := 321) (by decide +kernel)
theorem mcd38 : mCw 38 ∈ mTbl := mIs.mem (i := 466) (by decide +kernel)
theorem mcd39 : mCw 39 ∈ mTbl := mIs.mem (i := 471) (by decide +kernel)
theorem mcd40 : mCw 40 ∈ mTbl := mIs.mem (i := 649) (by decide +kernel)
theorem mcd41 : mCw 41 ∈ mTbl := mIs.mem (i := 653) (by decide +kernel)
theorem mcd42 : mCw 42 ∈ mTbl := mIs.mem (i := 658) (by decide +kernel)
theorem mcd43 : mCw 43 ∈ mTbl := mIs.mem (i := 701) (by decide +kernel)
theorem mcd44 : mCw 44 ∈ mTbl := mIs.mem (i := 141) (by decide +kernel)
theorem mcd45 : mCw 45 ∈ mTbl := mIs.mem (i := 313) (by decide +kernel)
theorem mcd46 : mCw 46 ∈ mTbl := mIs.mem (i := 325) (by decide +kernel)
theorem mcd47 : mCw 47 ∈ mTbl := mIs.mem (i := 329) (by decide +kernel)
theorem mcd48 : mCw 48 ∈ mTbl := mIs.mem (i := 334) (by decide +kernel)
theorem mcd49 : mCw 49 ∈ mTbl := mIs.mem (i := 521) (by decide +kernel)
theorem mcd50 : mCw 50 ∈ mTbl := mIs.mem (i := 528) (by decide +kernel)
theorem mcd51 : mCw 51 ∈ mTbl := mIs.mem (i := 532) (by decide +kernel)
theorem mcd52 : mCw 52 ∈ mTbl := mIs.mem (i := 536) (by decide +kernel)
theorem mcd53 : mCw 53 ∈ mTbl := mIs.mem (i := 540) (by decide +kernel)
theorem mcd54 : mCw 54 ∈ mTbl := mIs.mem (i := 551) (by decide +kernel)
theorem mcd55 : mCw 55 ∈ mTbl := mIs.mem (i := 555) (by decide +kernel)
theorem mcd56 : mCw 56 ∈ mTbl := mIs.mem (i := 565) (by decide +kernel)
theorem mcd57 : mCw 57 ∈ mTbl := mIs.mem (i := 577) (by decide +kernel)
theorem mcd58 : mCw 58 ∈ mTbl := mIs.mem (i := 584) (by decide +kernel)
theorem mcd59 : mCw 59 ∈ mTbl := mIs.mem (i := 611) (by decide +kernel)
theorem mcd60 : mCw 60 ∈ mTbl := mIs.mem (i := 618) (by decide +kernel)
theorem mcd61 : mCw 61 ∈ mTbl := mIs.mem (i := 622) (by decide +kernel)
theorem mcd62 : mCw 62 ∈ mTbl := mIs.mem (i := 667) (by decide +kernel)
theorem mcd63 : mCw 63 ∈ mTbl := mIs.mem (i := 746) (by decide +kernel)
theorem mcd64 : mCw 64 ∈ mTbl := mIs.mem (i := 800) (by decide +kernel)
theorem mcd65 : mCw 65 ∈ mTbl := mIs.mem (i := 88) (by decide +kernel)
theorem mcd66 : mCw 66 ∈ mTbl := mIs.mem (i := 298) (by decide +kernel)
theorem mcd67 : mCw 67 ∈ mTbl := mIs.mem (i := 302) (by decide +kernel)
theorem mcd68 : mCw 68 ∈ mTbl := mIs.mem (i := 458) (by decide +kernel)
theorem mcd69 : mCw 69 ∈ mTbl := mIs.mem (i := 462) (by decide +kernel)
theorem mcd70 : mCw 70 ∈ mTbl := mIs.mem (i := 475) (by decide +kernel)
theorem mcd71 : mCw 71 ∈ mTbl := mIs.mem (i := 479) (by decide +kernel)
theorem mcd72 : mCw 72 ∈ mTbl := mIs.mem (i := 489) (by decide +kernel)
theorem mcd73 : mCw 73 ∈ mTbl := mIs.mem (i := 502) (by decide +kernel)
theorem mcd74 : mCw 74 ∈ mTbl := mIs.mem (i := 513) (by decide +kernel)
theorem mcd75 : mCw 75 ∈ mTbl := mIs.mem (i := 589) (by decide +kernel)
theorem mcd76 : mCw 76 ∈ mTbl := mIs.mem (i := 597) (by decide +kernel)
theorem mcd77 : mCw 77 ∈ mTbl := mIs.mem (i := 644) (by decide +kernel)
theorem mcd78 : mCw 78 ∈ mTbl := mIs.mem (i := 200) (by decide +kernel)
theorem mcd79 : mCw 79 ∈ mTbl := mIs.mem (i := 343) (by decide +kernel)
theorem mcd80 : mCw 80 ∈ mTbl := mIs.mem (i := 355) (by decide +kernel)
theorem mcd81 : mCw 81 ∈ mTbl := mIs.mem (i := 790) (by decide +kernel)
theorem mcd82 : mCw 82 ∈ mTbl := mIs.mem (i := 794) (by decide +kernel)
theorem mcd83 : mCw 83 ∈ mTbl := mIs.mem (i := 805) (by decide +kernel)
theorem mcd84 : mCw 84 ∈ mTbl := mIs.mem (i := 809) (by decide +kernel)
theorem mcd85 : mCw 85 ∈ mTbl := mIs.mem (i := 813) (by decide +kernel)
theorem mcd86 : mCw 86 ∈ mTbl := mIs.mem (i := 826) (by decide +kernel)
theorem mcd87 : mCw 87 ∈ mTbl := mIs.mem (i := 94) (by decide +kernel)
theorem mcd88 : mCw 88 ∈ mTbl := mIs.mem (i := 593) (by decide +kernel)
theorem mcd89 : mCw 89 ∈ mTbl := mIs.mem (i := 601) (by decide +kernel)
theorem mcd90 : mCw 90 ∈ mTbl := mIs.mem (i := 606) (by decide +kernel)
theorem mcd91 : mCw 91 ∈ mTbl := mIs.mem (i := 80) (by decide +kernel)
theorem mcd92 : mCw 92 ∈ mTbl := mIs.mem (i := 294) (by decide +kernel)
theorem mcd93 : mCw 93 ∈ mTbl := mIs.mem (i := 317) (by decide +kernel)
theorem mcd94 : mCw 94 ∈ mTbl := mIs.mem (i := 339) (by decide +kernel)
theorem mcd95 : mCw 95 ∈ mTbl := mIs.mem (i := 351) (by decide +kernel)
theorem mcd96 : mCw 96 ∈ mTbl := mIs.mem (i := 364) (by decide +kernel)
theorem mcd97 : mCw 97 ∈ mTbl := mIs.mem (i := 368) (by decide +kernel)
theorem mcd98 : mCw 98 ∈ mTbl := mIs.mem (i := 505) (by decide +kernel)
theorem mcd99 : mCw 99 ∈ mTbl := mIs.mem (i := 524) (by decide +kernel)
theorem mcd100 : mCw 100 ∈ mTbl := mIs.mem (i := 629) (by decide +kernel)
theorem mcd101 : mCw 101 ∈ mTbl := mIs.mem (i := 633) (by decide +kernel)
theorem mcd102 : mCw 102 ∈ mTbl := mIs.mem (i := 637) (by decide +kernel)
theorem mcd103 : mCw 103 ∈ mTbl := mIs.mem (i := 697) (by decide +kernel)
theorem mcd104 : mCw 104 ∈ mTbl := mIs.mem (i := 714) (by decide +kernel)
theorem mcd105 : mCw 105 ∈ mTbl := mIs.mem (i := 718) (by decide +kernel)
theorem mcd106 : mCw 106 ∈ mTbl := mIs.mem (i := 742) (by decide +kernel)
theorem mcd107 : mCw 107 ∈ mTbl := mIs.mem (i := 753) (by decide +kernel)
theorem mcd108 : mCw 108 ∈ mTbl := mIs.mem (i := 761) (by decide +kernel)
theorem mcd109 : mCw 109 ∈ mTbl := mIs.mem (i := 769) (by decide +kernel)
theorem mcd110 : mCw 110 ∈ mTbl := mIs.mem (i := 778) (by decide +kernel)
theorem mcd111 : mCw 111 ∈ mTbl := mIs.mem (i := 786) (by decide +kernel)
theorem mcd112 : mCw 112 ∈ mTbl := mIs.mem (i := 890) (by decide +kernel)
theorem mcd113 : mCw 113 ∈ mTbl := mIs.mem (i := 951) (by decide +kernel)
theorem mcd114 : mCw 114 ∈ mTbl := mIs.mem (i := 955) (by decide +kernel)
theorem mcd115 : mCw 115 ∈ mTbl := mIs.mem (i := 958) (by decide +kernel)
theorem mcd116 : mCw 116 ∈ mTbl := mIs.mem (i := 963) (by decide +kernel)
theorem mcd117 : mCw 117 ∈ mTbl := mIs.mem (i := 967) (by decide +kernel)
theorem mcd118 : mCw 118 ∈ mTbl := mIs.mem (i := 971) (by decide +kernel)
theorem mcd119 : mCw 119 ∈ mTbl := mIs.mem (i := 975) (by decide +kernel)
theorem mcd120 : mCw 120 ∈ mTbl := mIs.mem (i := 979) (by decide +kernel)
theorem mcd121 : mCw 121 ∈ mTbl := mIs.mem (i := 983) (by decide +kernel)
theorem mcd122 : mCw 122 ∈ mTbl := mIs.mem (i := 987) (by decide +kernel)
theorem mcd123 : mCw 123 ∈ mTbl := mIs.mem (i := 991) (by decide +kernel)
theorem mcd124 : mCw 124 ∈ mTbl := mIs.mem (i := 995) (by decide +kernel)
theorem mcd125 : mCw 125 ∈ mTbl := mIs.mem (i := 999) (by decide +kernel)
theorem mcd126 : mCw 126 ∈ mTbl := mIs.mem (i := 1003) (by decide +kernel)
theorem mcd127 : mCw 127 ∈ mTbl := mIs.mem (i := 1007) (by decide +kernel)
theorem mcd128 : mCw 128 ∈ mTbl := mIs.mem (i := 1011) (by decide +kernel)
theorem mcd129 : mCw 129 ∈ mTbl := mIs.mem (i := 1015) (by decide +kernel)
theorem mcd130 : mCw 130 ∈ mTbl := mIs.mem (i := 1019) (by decide +kernel)
theorem mcd131 : mCw 131 ∈ mTbl := mIs.mem (i := 1023) (by decide +kernel)
theorem mcd132 : mCw 132 ∈ mTbl := mIs.mem (i := 1027) (by decide +kernel)
theorem mcd133 : mCw 133 ∈ mTbl := mIs.mem (i := 1031) (by decide +kernel)
theorem mcd134 : mCw 134 ∈ mTbl := mIs.mem (i := 1035) (by decide +kernel)
theorem mcd135 : mCw 135 ∈ mTbl := mIs.mem (i := 1039) (by decide +kernel)
theorem mcd136 : mCw 136 ∈ mTbl := mIs.mem (i := 1043) (by decide +kernel)
theorem mcd137 : mCw 137 ∈ mTbl := mIs.mem (i := 1048) (by decide +kernel)
theorem mcd138 : mCw 138 ∈ mTbl := mIs.mem (i := 1052) (by decide +kernel)
theorem mcd139 : mCw 139 ∈ mTbl := mIs.mem (i := 1056) (by decide +kernel)
theorem mcd140 : mCw 140 ∈ mTbl := mIs.mem (i := 1060) (by decide +kernel)
theorem mcd141 : mCw 141 ∈ mTbl := mIs.mem (i := 1064) (by decide +kernel)
theorem mcd142 : mCw 142 ∈ mTbl := mIs.mem (i := 1068) (by decide +kernel)
theorem mcd143 : mCw 143 ∈ mTbl := mIs.mem (i := 1072) (by decide +kernel)
theorem mcd144 : mCw 144 ∈ mTbl := mIs.mem (i := 1076) (by decide +kernel)
theorem mcd145 : mCw 145 ∈ mTbl := mIs.mem (i := 1080) (by decide +kernel)
theorem mcd146 : mCw 146 ∈ mTbl := mIs.mem (i := 1084) (by decide +kernel)
theorem mcd147 : mCw 147 ∈ mTbl := mIs.mem (i := 1088) (by decide +kernel)
theorem mcd148 : mCw 148 ∈ mTbl := mIs.mem (i := 1092) (by decide +kernel)
theorem mcd149 : mCw 149 ∈ mTbl := mIs.mem (i := 1096) (by decide +kernel)
theorem mcd150 : mCw 150 ∈ mTbl := mIs.mem (i := 1100) (by decide +kernel)
theorem mcd151 : mCw 151 ∈ mTbl := mIs.mem (i := 1104) (by decide +kernel)
theorem mcd152 : mCw 152 ∈ mTbl := mIs.mem (i := 1108) (by decide +kernel)
theorem mcd153 : mCw 153 ∈ mTbl := mIs.mem (i := 1112) (by decide +kernel)
theorem mcd154 : mCw 154 ∈ mTbl := mIs.mem (i := 1116) (by decide +kernel)
theorem mcd155 : mCw 155 ∈ mTbl := mIs.mem (i := 1120) (by decide +kernel)
theorem mcd156 : mCw 156 ∈ mTbl := mIs.mem (i := 1124) (by decide +kernel)
theorem mcd157 : mCw 157 ∈ mTbl := mIs.mem (i := 358) (by decide +kernel)
theorem mcd158 : mCw 158 ∈ mTbl := mIs.mem (i := 625) (by decide +kernel)
theorem mcd159 : mCw 159 ∈ mTbl := mIs.mem (i := 693) (by decide +kernel)
theorem mcd160 : mCw 160 ∈ mTbl := mIs.mem (i := 709) (by decide +kernel)
theorem mcd161 : mCw 161 ∈ mTbl := mIs.mem (i := 738) (by decide +kernel)
theorem mcd162 : mCw 162 ∈ mTbl := mIs.mem (i := 749) (by decide +kernel)
theorem mcd163 : mCw 163 ∈ mTbl := mIs.mem (i := 757) (by decide +kernel)
theorem mcd164 : mCw 164 ∈ mTbl := mIs.mem (i := 765) (by decide +kernel)
theorem mcd165 : mCw 165 ∈ mTbl := mIs.mem (i := 774) (by decide +kernel)
theorem mcd166 : mCw 166 ∈ mTbl := mIs.mem (i := 782) (by decide +kernel)
theorem mcd167 : mCw 167 ∈ mTbl := mIs.mem (i := 145) (by decide +kernel)
theorem mcd168 : mCw 168 ∈ mTbl := mIs.mem (i := 309) (by decide +kernel)
theorem mcd169 : mCw 169 ∈ mTbl := mIs.mem (i := 482) (by decide +kernel)
theorem mcd170 : mCw 170 ∈ mTbl := mIs.mem (i := 485) (by decide +kernel)
end
section
/-! THE SMALL MACHINE. A cell: an array (type of its elements, contents) or an object (number of its class in mcl, its fields). A reference k: k < 16 a cell that was there before (0: the script), else the cell k - 16 of the heap. A frame: pc, locals, operand stack, heap. Runs S M f r: method number M, from the frame f, ends with r (returned or threw; the heap then). -/
abbrev mC : Type := (FieldType × vp_A) ⊕ (Nat × List Value)
abbrev mHp : Type := List mC
abbrev mL : Type := List (Nat × Value)
abbrev mF : Type := Nat × mL × List Value × mHp
abbrev mR : Type := (Option Value ⊕ Nat) × mHp
abbrev mE : Type := Nat × (Nat → Int32)
def mget (h : mHp) (a : Nat) : Option mC := if a < 16 then none else h[a - 16]?
def mput (h : mHp) (a : Nat) (c : mC) : mHp := h.set (a - 16) c
def lget (ls : mL) (i : Nat) : Option Value := match ls with
  | [] => none
  | (j, v) :: t => if j = i then some v else lget t i
def lins (l : mL) (i : Nat) (v : Value) : mL := match l with
  | [] => [(i, v)]
  | (j, w) :: t => if i < j then (i, v) :: (j, w) :: t else (j, w) :: lins t i v
def lset1 (ls : mL) (i : Nat) (v : Value) : mL := lins (ls.filter (fun q => !(q.1 == i) && !(q.1 + 1 == i && q.2.category == 2))) i v
def lset2 (ls : mL) (i : Nat) (v : Value) : mL := lins (ls.filter (fun q => !(q.1 == i) && (!(q.1 == i + 1) && !(q.1 + 1 == i && q.2.category == 2)))) i v
def m_ii (f : Int32 → Int32 → Int32) (ls : mL) (st : List Value) : Option (mL × List Value) := match st with
  | .int y :: .int x :: t => some (ls, .int (f x y) :: t)
  | _ => none
def m_ll (f : Int64 → Int64 → Int64) (ls : mL) (st : List Value) : Option (mL × List Value) := match st with
  | .long y :: .long x :: t => some (ls, .long (f x y) :: t)
  | _ => none
def m_li (f : Int64 → Int32 → Int64) (ls : mL) (st : List Value) : Option (mL × List Value) := match st with
  | .int y :: .long x :: t => some (ls, .long (f x y) :: t)
  | _ => none
def m_il (ls : mL) (i : Nat) (st : List Value) : Option (mL × List Value) := match lget ls i with
  | some (.int x) => some (ls, .int x :: st)
  | _ => none
def m_llo (ls : mL) (i : Nat) (st : List Value) : Option (mL × List Value) := match lget ls i with
  | some (.long x) => some (ls, .long x :: st)
  | _ => none
def m_al (ls : mL) (i : Nat) (st : List Value) : Option (mL × List Value) := match lget ls i with
  | some (.ref x) => some (ls, .ref x :: st)
  | _ => none
def m_is (nL : Nat) (ls : mL) (i : Nat) (st : List Value) : Option (mL × List Value) := match st with
  | .int x :: t => if i < nL then some (lset1 ls i (.int x), t) else none
  | _ => none
def m_lst (nL : Nat) (ls : mL) (i : Nat) (st : List Value) : Option (mL × List Value) := match st with
  | .long x :: t => if i + 1 < nL then some (lset2 ls i (.long x), t) else none
  | _ => none
def m_as (nL : Nat) (ls : mL) (i : Nat) (st : List Value) : Option (mL × List Value) := match st with
  | .ref x :: t => if i < nL then some (lset1 ls i (.ref x), t) else none
  | _ => none
/-- the instructions that touch locals and stack alone -/
def mpure (nL : Nat) (i : Instr) (ls : mL) (st : List Value) : Option (mL × List Value) := match i with
  | .iconst n => some (ls, .int (Int32.ofInt n) :: st)
  | .bipush n => some (ls, .int (Int8.ofInt n).toInt32 :: st)
  | .sipush n => some (ls, .int (Int16.ofInt n).toInt32 :: st)
  | .lconst n => some (ls, .long (Int64.ofNat n.val) :: st)
  | .iload_n k => m_il ls k.val st
  | .iload k => m_il ls k st
  | .lload_n k => m_llo ls k.val st
  | .lload k => m_llo ls k st
  | .aload_n k => m_al ls k.val st
  | .aload k => m_al ls k st
  | .istore_n k => m_is nL ls k.val st
  | .istore k => m_is nL ls k st
  | .lstore_n k => m_lst nL ls k.val st
  | .lstore k => m_lst nL ls k st
  | .astore_n k => m_as nL ls k.val st
  | .astore k => m_as nL ls k st
  | .iinc k n => match lget ls k with
    | some (.int x) => if k < nL then some (lset1 ls k (.int (x + Int32.ofInt n)), st) else none
    | _ => none
  | .iadd => m_ii (fun x y => x + y) ls st
  | .isub => m_ii (fun x y => x - y) ls st
  | .imul => m_ii (fun x y => x * y) ls st
  | .iand => m_ii (fun x y => x &&& y) ls st
  | .idiv => match st with
    | .int y :: .int x :: t => if y = 0 then none else some (ls, .int (x / y) :: t)
    | _ => none
  | .irem => match st with
    | .int y :: .int x :: t => if y = 0 then none else some (ls, .int (x - x / y * y) :: t)
    | _ => none
  | .ladd => m_ll (fun x y => x + y) ls st
  | .lsub => m_ll (fun x y => x - y) ls st
  | .lmul => m_ll (fun x y => x * y) ls st
  | .land => m_ll (fun x y => x &&& y) ls st
  | .lor => m_ll (fun x y => x ||| y) ls st
  | .lxor => m_ll (fun x y => x ^^^ y) ls st
  | .lshl => m_li (fun x y => x <<< (y.toInt64 &&& 63)) ls st
  | .lshr => m_li (fun x y => x >>> (y.toInt64 &&& 63)) ls st
  | .lushr => m_li (fun x y => (x.toUInt64 >>> (y.toInt64.toUInt64 &&& Int64.toUInt64 63)).toInt64) ls st
  | .lcmp => match st with
    | .long y :: .long x :: t => some (ls, .int (lg_cmp x y) :: t)
    | _ => none
  | .i2l => match st with
    | .int x :: t => some (ls, .long x.toInt64 :: t)
    | _ => none
  | .dup => match st with
    | v :: t => if v.category = 1 then some (ls, v :: v :: t) else none
    | _ => none
  | .dup2 => match st with
    | v :: w :: t => if v.category = 1 ∧ w.category = 1 then some (ls, v :: w :: v :: w :: t) else none
    | _ => none
  | .pop => match st with
    | v :: t => if v.category = 1 then some (ls, t) else none
    | _ => none
  | _ => none
def mb1 (b : Prop) [Decidable b] (off : Int) (t : List Value) : Option (Option Int × List Value) := some (if b then some off else none, t)
/-- branches: taken, with its offset, or not -/
def mbr (i : Instr) (st : List Value) : Option (Option Int × List Value) := match i with
  | .goto off => some (some off, st)
  | .ifCond o off => match st with
    | .int x :: t => match o with
      | .eq => mb1 (x = 0) off t
      | .ne => mb1 (¬ x = 0) off t
      | .lt => mb1 (x < 0) off t
      | .ge => mb1 (0 ≤ x) off t
      | .gt => mb1 (0 < x) off t
      | .le => mb1 (x ≤ 0) off t
    | _ => none
  | .if_icmp o off => match st with
    | .int y :: .int x :: t => match o with
      | .eq => mb1 (x = y) off t
      | .ne => mb1 (¬ x = y) off t
      | .lt => mb1 (x < y) off t
      | .ge => mb1 (y ≤ x) off t
      | .gt => mb1 (y < x) off t
      | .le => mb1 (x ≤ y) off t
    | _ => none
  | _ => none
def mzero (ty : FieldType) (n : Nat) : vp_A := if ty = .long then (n, .inr (.inl (fun _ => 0))) else (n, .inl (fun _ => 0))
def mslot (c : mC) : Nat := match c with
  | .inl (_, a) => a.1
  | .inr (ci, _) => if ci < 10 then ((mcl[ci]?).map (fun q => q.2.2)).getD 0 else 6
def msl (h : mHp) : Nat := (h.map mslot).sum
def mprim (ty : FieldType) : Bool := match ty with
  | .int => true
  | .long => true
  | .boolean => true
  | _ => false
def mfin (ci k : Nat) : Bool := ((mcl[ci]?).map (fun q => (q.2.1 k).2.2.2)).getD true
def mdef (ci : Nat) : List Value := (List.range (((mcl[ci]?).map (fun q => q.2.2)).getD 0)).map (fun k => defaultValue (mty ci k))
def mcats (st : List Value) : Nat := (st.map (fun v => v.category)).sum
def mlen (i : Instr) : Nat := match i with
  | .bipush _ => 2
  | .sipush _ => 3
  | .iload _ => 2
  | .lload _ => 2
  | .aload _ => 2
  | .istore _ => 2
  | .lstore _ => 2
  | .astore _ => 2
  | .iinc _ _ => 3
  | _ => 1
def mnn (pc : Nat) (i : Instr) : Bool := match i with
  | .ifCond _ off => decide (0 ≤ (pc : Int) + off)
  | .if_icmp _ off => decide (0 ≤ (pc : Int) + off)
  | _ => true
section Rules
variable (S : mE) (P : Nat → mF → mR → Prop)
def mc_pure : Prop := ∀ (M pc : Nat) (ls : mL) (st : List Value) (h : mHp) (r : mR) (i : Instr) (len : Nat) (ls' : mL) (st' : List Value), decode (mCode M) pc = .ok (i, len) → mlen i = len → mpure (mMaxL M) i ls st = some (ls', st') → P M (pc + len, ls', st', h) r → P M (pc, ls, st, h) r
def mc_br : Prop := ∀ (M pc : Nat) (ls : mL) (st : List Value) (h : mHp) (r : mR) (i : Instr) (off : Int) (st' : List Value) (tgt : Nat), decode (mCode M) pc = .ok (i, 3) → mbr i st = some (some off, st') → (pc : Int) + off = (tgt : Int) → P M (tgt, ls, st', h) r → P M (pc, ls, st, h) r
def mc_nb : Prop := ∀ (M pc : Nat) (ls : mL) (st : List Value) (h : mHp) (r : mR) (i : Instr) (st' : List Value), decode (mCode M) pc = .ok (i, 3) → mnn pc i = true → mbr i st = some (none, st') → P M (pc + 3, ls, st', h) r → P M (pc, ls, st, h) r
def mc_swo : Prop := ∀ (M pc : Nat) (ls : mL) (st : List Value) (h : mHp) (r : mR) (dflt lo hi : Int) (offs : Array Int) (len : Nat) (x : Int32) (tgt : Nat), decode (mCode M) pc = .ok (.tableswitch dflt lo hi offs, len) → (x.toInt < lo ∨ hi < x.toInt) → (pc : Int) + dflt = (tgt : Int) → P M (tgt, ls, st, h) r → P M (pc, ls, .int x :: st, h) r
def mc_swi : Prop := ∀ (M pc : Nat) (ls : mL) (st : List Value) (h : mHp) (r : mR) (dflt lo hi : Int) (offs : Array Int) (len : Nat) (x : Int32) (off : Int) (tgt : Nat), decode (mCode M) pc = .ok (.tableswitch dflt lo hi offs, len) → ¬ x.toInt < lo → ¬ hi < x.toInt → offs[(x.toInt - lo).toNat]? = some off → (pc : Int) + off = (tgt : Int) → P M (tgt, ls, st, h) r → P M (pc, ls, .int x :: st, h) r
def mc_ci : Prop := ∀ (M pc : Nat) (ls : mL) (st : List Value) (h : mHp) (r : mR) (idx : Nat) (v : Int32) (w : Nat), decode (mCode M) pc = .ok (.ldc idx, 2) → (mOwn M, idx, v, w) ∈ mCiT → P M (pc + 2, ls, .int v :: st, h) r → P M (pc, ls, st, h) r
def mc_cl : Prop := ∀ (M pc : Nat) (ls : mL) (st : List Value) (h : mHp) (r : mR) (idx : Nat) (v : Int64) (w : Nat), decode (mCode M) pc = .ok (.ldc2_w idx, 3) → (mOwn M, idx, v, w) ∈ mClT → P M (pc + 3, ls, .long v :: st, h) r → P M (pc, ls, st, h) r
def mc_get : Prop := ∀ (M pc : Nat) (ls : mL) (st : List Value) (h : mHp) (r : mR) (idx ci k w a : Nat) (fs : List Value) (v : Value), decode (mCode M) pc = .ok (.getfield idx, 3) → ((mOwn M, idx, ci, k, w) ∈ mFldT ∨ (mOwn M, idx, ci, k, w) ∈ mFldNT) → mget h a = some (.inr (ci, fs)) → fs[k]? = some v → P M (pc + 3, ls, v :: st, h) r → P M (pc, ls, .ref a :: st, h) r
def mc_put : Prop := ∀ (M pc : Nat) (ls : mL) (st : List Value) (h : mHp) (r : mR) (idx ci k w a : Nat) (fs : List Value) (v : Value), decode (mCode M) pc = .ok (.putfield idx, 3) → (mOwn M, idx, ci, k, w) ∈ mFldT → mget h a = some (.inr (ci, fs)) → k < fs.length → narrow (mty ci k) v = v → fits (mty ci k) v = true → (mfin ci k = false ∨ ((mName M).name = "<init>" ∧ mOwn M = ci)) → P M (pc + 3, ls, st, mput h a (.inr (ci, fs.set k v))) r → P M (pc, ls, v :: .ref a :: st, h) r
def mc_ild : Prop := ∀ (M pc : Nat) (ls : mL) (st : List Value) (h : mHp) (r : mR) (a n : Nat) (f : Nat → Int32) (i : Int32), decode (mCode M) pc = .ok (.iaload, 1) → mget h a = some (.inl (.int, n, .inl f)) → vp_in i n → P M (pc + 1, ls, .int (f i.toNatClampNeg) :: st, h) r → P M (pc, ls, .int i :: .ref a :: st, h) r
def mc_zld : Prop := ∀ (M pc : Nat) (ls : mL) (st : List Value) (h : mHp) (r : mR) (a n : Nat) (f : Nat → Int32) (i : Int32), decode (mCode M) pc = .ok (.baload, 1) → mget h a = some (.inl (.boolean, n, .inl f)) → vp_in i n → P M (pc + 1, ls, .int (f i.toNatClampNeg) :: st, h) r → P M (pc, ls, .int i :: .ref a :: st, h) r
def mc_lld : Prop := ∀ (M pc : Nat) (ls : mL) (st : List Value) (h : mHp) (r : mR) (a n : Nat) (f : Nat → Int64) (i : Int32), decode (mCode M) pc = .ok (.laload, 1) → mget h a = some (.inl (.long, n, .inr (.inl f))) → vp_in i n → P M (pc + 1, ls, .long (f i.toNatClampNeg) :: st, h) r → P M (pc, ls, .int i :: .ref a :: st, h) r
def mc_ist : Prop := ∀ (M pc : Nat) (ls : mL) (st : List Value) (h : mHp) (r : mR) (a n : Nat) (f : Nat → Int32) (i x : Int32), decode (mCode M) pc = .ok (.iastore, 1) → mget h a = some (.inl (.int, n, .inl f)) → vp_in i n → P M (pc + 1, ls, st, mput h a (.inl (.int, n, .inl (upd f i.toNatClampNeg x)))) r → P M (pc, ls, .int x :: .int i :: .ref a :: st, h) r
def mc_zst : Prop := ∀ (M pc : Nat) (ls : mL) (st : List Value) (h : mHp) (r : mR) (a n : Nat) (f : Nat → Int32) (i x : Int32), decode (mCode M) pc = .ok (.bastore, 1) → mget h a = some (.inl (.boolean, n, .inl f)) → vp_in i n → P M (pc + 1, ls, st, mput h a (.inl (.boolean, n, .inl (upd f i.toNatClampNeg (vp_nar .boolean x))))) r → P M (pc, ls, .int x :: .int i :: .ref a :: st, h) r
def mc_lst : Prop := ∀ (M pc : Nat) (ls : mL) (st : List Value) (h : mHp) (r : mR) (a n : Nat) (f : Nat → Int64) (i : Int32) (x : Int64), decode (mCode M) pc = .ok (.lastore, 1) → mget h a = some (.inl (.long, n, .inr (.inl f))) → vp_in i n → P M (pc + 1, ls, st, mput h a (.inl (.long, n, .inr (.inl (vp_updL f i.toNatClampNeg x))))) r → P M (pc, ls, .long x :: .int i :: .ref a :: st, h) r
def mc_len : Prop := ∀ (M pc : Nat) (ls : mL) (st : List Value) (h : mHp) (r : mR) (a : Nat) (ty : FieldType) (x : vp_A), decode (mCode M) pc = .ok (.arraylength, 1) → mget h a = some (.inl (ty, x)) → mprim ty = true → P M (pc + 1, ls, .int (Int32.ofNat x.1) :: st, h) r → P M (pc, ls, .ref a :: st, h) r
def mc_sld : Prop := ∀ (M pc : Nat) (ls : mL) (st : List Value) (h : mHp) (r : mR) (i : Int32), decode (mCode M) pc = .ok (.iaload, 1) → vp_in i S.1 → P M (pc + 1, ls, .int (S.2 i.toNatClampNeg) :: st, h) r → P M (pc, ls, .int i :: .ref 0 :: st, h) r
def mc_sln : Prop := ∀ (M pc : Nat) (ls : mL) (st : List Value) (h : mHp) (r : mR), decode (mCode M) pc = .ok (.arraylength, 1) → P M (pc + 1, ls, .int (Int32.ofNat S.1) :: st, h) r → P M (pc, ls, .ref 0 :: st, h) r
def mc_newa : Prop := ∀ (M pc : Nat) (ls : mL) (st : List Value) (h : mHp) (r : mR) (at_ : ArrayType) (ty : FieldType) (n : Int32) (N : Nat), decode (mCode M) pc = .ok (.newarray at_, 2) → newarray.typeOf at_ = ty → mprim ty = true → ¬ n < 0 → n.toNatClampNeg = N → N ≤ 10000 → P M (pc + 2, ls, .ref (h.length + 16) :: st, h ++ [.inl (ty, mzero ty N)]) r → P M (pc, ls, .int n :: st, h) r
def mc_new : Prop := ∀ (M pc : Nat) (ls : mL) (st : List Value) (h : mHp) (r : mR) (idx ci w1 w2 w3 : Nat), decode (mCode M) pc = .ok (.new idx, 3) → (mOwn M, idx, ci, w1, w2, w3) ∈ mNewT → P M (pc + 3, ls, .ref (h.length + 16) :: st, h ++ [.inr (ci, mdef ci)]) r → P M (pc, ls, st, h) r
def mc_iret : Prop := ∀ (M pc : Nat) (ls : mL) (h : mHp) (v : Int32) (ty : FieldType), decode (mCode M) pc = .ok (.ireturn, 1) → mRet M = some ty → narrow ty (.int v) = .int v → P M (pc, ls, [.int v], h) (.inl (some (.int v)), h)
def mc_lret : Prop := ∀ (M pc : Nat) (ls : mL) (h : mHp) (v : Int64), decode (mCode M) pc = .ok (.lreturn, 1) → mRet M = some .long → P M (pc, ls, [.long v], h) (.inl (some (.long v)), h)
def mc_vret : Prop := ∀ (M pc : Nat) (ls : mL) (h : mHp), decode (mCode M) pc = .ok (.return_, 1) → mRet M = none → P M (pc, ls, [], h) (.inl none, h)
def mc_obj : Prop := ∀ (M pc : Nat) (ls : mL) (st : List Value) (h : mHp) (r : mR) (idx w a : Nat), decode (mCode M) pc = .ok (.invokespecial idx, 3) → (mOwn M, idx, w) ∈ mObjT → 1 ≤ mFr M → mcats st + 12 ≤ mLo M → P M (pc + 3, ls, st, h) r → P M (pc, ls, .ref a :: st, h) r
def mroom (M N : Nat) (st : List Value) : Prop := mFr N + 1 ≤ mFr M ∧ 8 + (mMaxL N + 11) + mLo N ≤ mLo M ∧ mcats st ≤ 8 ∧ mHand N = [] ∧ mCw N ∈ mTbl
/-- a call of a method on an object: 0, 3: invokevirtual; 2, 5: a constructor -/
def mc_cv : Prop := ∀ (M pc : Nat) (ls : mL) (st st0 : List Value) (h h' : mHp) (r : mR) (idx N kind w1 w2 w3 w4 w5 a ci : Nat) (fs As : List Value) (v : Option Value), decode (mCode M) pc = .ok ((if kind % 3 = 2 then .invokespecial idx else .invokevirtual idx), 3) → (mOwn M, idx, N, kind, w1, w2, w3, w4, w5) ∈ mLnkT → (kind % 3 = 2 ∨ kind % 3 = 0) → mroom M N st → st0 = As.reverse ++ .ref a :: st → As.length = mAr N → mcats (.ref a :: As) ≤ mMaxL N → mget h a = some (.inr (ci, fs)) → mOwn N = ci →
  P N (0, lv_args 0 (.ref a :: As), [], h) (.inl v, h') → P M (pc + 3, ls, v.toList ++ st, h') r → P M (pc, ls, st0, h) r
def mc_cs : Prop := ∀ (M pc : Nat) (ls : mL) (st st0 : List Value) (h h' : mHp) (r : mR) (idx N kind w1 w2 w3 w4 w5 : Nat) (As : List Value) (v : Option Value), decode (mCode M) pc = .ok (.invokestatic idx, 3) → (mOwn M, idx, N, kind, w1, w2, w3, w4, w5) ∈ mLnkT → kind % 3 = 1 → mroom M N st → st0 = As.reverse ++ st → As.length = mAr N → mcats As ≤ mMaxL N →
  P N (0, lv_args 0 As, [], h) (.inl v, h') → P M (pc + 3, ls, v.toList ++ st, h') r → P M (pc, ls, st0, h) r
def mClosed : Prop := mc_pure P ∧ mc_br P ∧ mc_nb P ∧ mc_swo P ∧ mc_swi P ∧ mc_ci P ∧ mc_cl P ∧ mc_get P ∧ mc_put P ∧ mc_ild P ∧ mc_zld P ∧ mc_lld P ∧ mc_ist P ∧ mc_zst P ∧ mc_lst P ∧ mc_len P ∧ mc_sld S P ∧ mc_sln S P ∧ mc_newa P ∧ mc_new P ∧ mc_iret P ∧ mc_lret P ∧ mc_vret P ∧ mc_obj P ∧ mc_cv P ∧ mc_cs P
end Rules
def Runs (S : mE) (M : Nat) (f : mF) (r : mR) : Prop := ∀ P : Nat → mF → mR → Prop, mClosed S P → P M f r
end
section
/-! what the small machine's state is in the machine: addresses, values, cells -/
def sg (n0 : Nat) (ex : Nat → Nat) (k : Nat) : Nat := if k < 16 then ex k else n0 + (k - 16)
def cv (n0 : Nat) (ex : Nat → Nat) (v : Value) : Value := match v with
  | .ref k => .ref (sg n0 ex k)
  | w => w
def cvp (n0 : Nat) (ex : Nat → Nat) (q : Nat × Value) : Nat × Value := (q.1, cv n0 ex q.2)
theorem cv_cat {n0 : Nat} {ex : Nat → Nat} (v : Value) : (cv n0 ex v).category = v.category := by cases v <;> rfl
def mce (n0 : Nat) (ex : Nat → Nat) (dA : FieldType → ClassId) (c : mC) : va_E := match c with
  | .inl (ty, a) => .inl (dA ty, a)
  | .inr (ci, fs) => .inr (ci, fs.map (cv n0 ex))
def mws (n0 : Nat) (ex : Nat → Nat) (dA : FieldType → ClassId) : mHp → Nat → va_W
  | [], _ => []
  | c :: t, i => (n0 + i, mce n0 ex dA c) :: mws n0 ex dA t (i + 1)
section Ws
variable {n0 : Nat} {ex : Nat → Nat} {dA : FieldType → ClassId}
theorem mws_get (h : mHp) (i k : Nat) : (mws n0 ex dA h i)[k]? = (h[k]?).map (fun c => (n0 + (i + k), mce n0 ex dA c)) := by
  induction h generalizing i k with
  | nil => simp [mws]
  | cons c t ih =>
    cases k with
    | zero => simp [mws]
    | succ k =>
      simp only [mws, List.getElem?_cons_succ]
      rw [ih]
      congr 1
      funext c
      rw [show i + 1 + k = i + (k + 1) by omega]
theorem mws_set (h : mHp) (i k : Nat) (c : mC) : (mws n0 ex dA h i).set k (n0 + (i + k), mce n0 ex dA c) = mws n0 ex dA (h.set k c) i := by
  induction h generalizing i k with
  | nil => simp [mws]
  | cons x t ih =>
    cases k with
    | zero => simp [mws]
    | succ k =>
      simp only [mws, List.set_cons_succ]
      rw [← ih, show i + 1 + k = i + (k + 1) by omega]
theorem mws_app (h : mHp) (c : mC) (i : Nat) : mws n0 ex dA (h ++ [c]) i = mws n0 ex dA h i ++ [(n0 + (i + h.length), mce n0 ex dA c)] := by
  induction h generalizing i with
  | nil => simp [mws]
  | cons x t ih =>
    simp only [List.cons_append, mws, ih, List.length_cons]
    rw [show i + 1 + t.length = i + (t.length + 1) by omega]
theorem mws_len (h : mHp) (i : Nat) : (mws n0 ex dA h i).length = h.length := by
  induction h generalizing i with
  | nil => rfl
  | cons x t ih => simp [mws, ih]
theorem mws_D (h : mHp) : va_D (fun q => n0 ≤ q) (mws n0 ex dA h 0) := by
  constructor
  · intro i j p q hi hj he
    rw [mws_get] at hi hj
    cases h1 : h[i]? with
    | none => rw [h1] at hi; cases hi
    | some c1 =>
      cases h2 : h[j]? with
      | none => rw [h2] at hj; cases hj
      | some c2 =>
        rw [h1] at hi; rw [h2] at hj
        cases hi; cases hj
        simp only at he
        omega
  · intro k q hk
    rw [mws_get] at hk
    cases h1 : h[k]? with
    | none => rw [h1] at hk; cases hk
    | some c1 => rw [h1] at hk; cases hk; exact Nat.le_add_right _ _
/-- a cell of the small heap in the world -/
theorem mws_at {h : mHp} {a : Nat} {c : mC} (hg : mget h a = some c) : (mws n0 ex dA h 0)[a - 16]? = some (sg n0 ex a, mce n0 ex dA c) := by
  unfold mget at hg
  by_cases ha : a < 16
  · rw [if_pos ha] at hg; cases hg
  · rw [if_neg ha] at hg
    rw [mws_get, hg]
    simp [sg, ha]
theorem mws_put {h : mHp} {a : Nat} {c : mC} (hg : mget h a = some c) (c' : mC) : (mws n0 ex dA h 0).set (a - 16) (sg n0 ex a, mce n0 ex dA c') = mws n0 ex dA (mput h a c') 0 := by
  unfold mget at hg
  by_cases ha : a < 16
  · rw [if_pos ha] at hg; cases hg
  · have := mws_set (n0 := n0) (ex := ex) (dA := dA) h 0 (a - 16) c'
    unfold mput
    rw [← this]
    simp [sg, ha]
end Ws
theorem lins_mem {l : mL} {i : Nat} {v : Value} {q : Nat × Value} (h : q ∈ lins l i v) : q = (i, v) ∨ q ∈ l := by
  induction l with
  | nil => simp [lins] at h; exact Or.inl h
  | cons x t ih =>
    obtain ⟨j, w⟩ := x
    simp only [lins] at h
    split at h
    · rcases List.mem_cons.mp h with h | h
      · exact Or.inl h
      · exact Or.inr h
    · rcases List.mem_cons.mp h with h | h
      · exact Or.inr (by rw [h]; exact List.mem_cons_self)
      · rcases ih h with h | h
        · exact Or.inl h
        · exact Or.inr (List.mem_cons_of_mem _ h)
theorem lget_mem {l : mL} {i : Nat} {v : Value} (h : lget l i = some v) : (i, v) ∈ l := by
  induction l with
  | nil => simp [lget] at h
  | cons x t ih =>
    obtain ⟨j, w⟩ := x
    simp only [lget] at h
    split at h
    · rename_i hj; subst hj; cases h; exact List.mem_cons_self
    · exact List.mem_cons_of_mem _ (ih h)
section Loc
variable {n0 : Nat} {ex : Nat → Nat} {la : Array Slot} {nL : Nat} {ls : mL}
theorem lh_at (hl : lv_has la nL (ls.map (cvp n0 ex))) {i : Nat} {v : Value} (h : lget ls i = some v) : la[i]? = some (.val (cv n0 ex v)) :=
  hl.2.2 (i, cv n0 ex v) (List.mem_map.mpr ⟨(i, v), lget_mem h, rfl⟩)
theorem lh_pos (hl : lv_has la nL (ls.map (cvp n0 ex))) {i : Nat} {v : Value} (h : lget ls i = some v) : ∃ k : Nat, (ls.map (cvp n0 ex))[k]? = some (i, cv n0 ex v) :=
  List.getElem?_of_mem (List.mem_map.mpr ⟨(i, v), lget_mem h, rfl⟩)
theorem lh_set1 {i : Nat} {v : Value} (h : lv_has la nL ((i, cv n0 ex v) :: (ls.map (cvp n0 ex)).filter (fun q => !(q.1 == i) && !(q.1 + 1 == i && q.2.category == 2)))) : lv_has la nL ((lset1 ls i v).map (cvp n0 ex)) := by
  refine ⟨h.1, h.2.1, fun q hq => h.2.2 q ?_⟩
  obtain ⟨q0, h0, rfl⟩ := List.mem_map.mp hq
  rcases lins_mem h0 with h1 | h1
  · rw [h1]; exact List.mem_cons_self
  · obtain ⟨h2, h3⟩ := List.mem_filter.mp h1
    refine List.mem_cons_of_mem _ (List.mem_filter.mpr ⟨List.mem_map.mpr ⟨q0, h2, rfl⟩, ?_⟩)
    simpa [cvp, cv_cat] using h3
theorem lh_set2 {i : Nat} {v : Value} (h : lv_has la nL ((i, cv n0 ex v) :: (ls.map (cvp n0 ex)).filter (fun q => !(q.1 == i) && (!(q.1 == i + 1) && !(q.1 + 1 == i && q.2.category == 2))))) : lv_has la nL ((lset2 ls i v).map (cvp n0 ex)) := by
  refine ⟨h.1, h.2.1, fun q hq => h.2.2 q ?_⟩
  obtain ⟨q0, h0, rfl⟩ := List.mem_map.mp hq
  rcases lins_mem h0 with h1 | h1
  · rw [h1]; exact List.mem_cons_self
  · obtain ⟨h2, h3⟩ := List.mem_filter.mp h1
    refine List.mem_cons_of_mem _ (List.mem_filter.mpr ⟨List.mem_map.mpr ⟨q0, h2, rfl⟩, ?_⟩)
    simpa [cvp, cv_cat] using h3
end Loc
section Pure
variable {p : Program} {l : Launch} {e : Env} {R : Room} {s : State} {m : MethodId} {args : Array Value} {below : List Frame} {meth : Method} {c : Code} {H : Heap} {locs : List Loc} {cells slots : Nat} {Q : State → Prop}
variable {n0 : Nat} {ex : Nat → Nat} {cc : ByteArray} {pc nL len : Nat} {la : Array Slot} {ls ls' : mL} {st st' : List Value} {i : Instr}
set_option maxHeartbeats 4000000 in
theorem ms_pure (hx : p.tables.exec = Jvm.exec) (hb : c.code = cc) (hd : decode cc pc = .ok (i, len)) (hn : mlen i = len) (hp : mpure nL i ls st = some (ls', st')) (hl : lv_has la nL (ls.map (cvp n0 ex)))
    (kk : ∀ la' : Array Slot, lv_has la' nL (ls'.map (cvp n0 ex)) → W p l e R s m args below meth c H locs cells slots Q (F0 m (pc + len) la' (st'.map (cv n0 ex)))) : W p l e R s m args below meth c H locs cells slots Q (F0 m pc la (st.map (cv n0 ex))) := by
  subst hn
  cases i with
  | iconst n => cases hp; exact lv_iconst hx hb hd rfl (kk la hl)
  | bipush n => cases hp; exact lv_bipush hx hb hd rfl (kk la hl)
  | sipush n => cases hp; exact lv_sipush hx hb hd rfl (kk la hl)
  | lconst n => cases hp; exact lv_lconst hx hb hd rfl (kk la hl)
  | iload_n k =>
    simp only [mpure, m_il] at hp
    split at hp
    · rename_i x hg; cases hp; exact lv_iload_n hx hb hd rfl (lh_at hl hg) (kk la hl)
    · cases hp
  | iload k =>
    simp only [mpure, m_il] at hp
    split at hp
    · rename_i x hg; cases hp; exact lv_iload hx hb hd (lh_at hl hg) (kk la hl)
    · cases hp
  | lload_n k =>
    simp only [mpure, m_llo] at hp
    split at hp
    · rename_i x hg; cases hp; exact lv_lload_n hx hb hd rfl (lh_at hl hg) (kk la hl)
    · cases hp
  | lload k =>
    simp only [mpure, m_llo] at hp
    split at hp
    · rename_i x hg; cases hp; exact lv_lload hx hb hd (lh_at hl hg) (kk la hl)
    · cases hp
  | aload_n k =>
    simp only [mpure, m_al] at hp
    split at hp
    · rename_i x hg; cases hp; exact lv_aload_n hx hb hd rfl (lh_at hl hg) (kk la hl)
    · cases hp
  | aload k =>
    simp only [mpure, m_al] at hp
    split at hp
    · rename_i x hg; cases hp; exact lv_aload hx hb hd (lh_at hl hg) (kk la hl)
    · cases hp
  | istore_n k =>
    simp only [mpure, m_is] at hp
    split at hp
    · split at hp
      · rename_i hi; cases hp; exact lv_istore_n hx hb hd rfl hl hi rfl (fun la' h' => kk la' (lh_set1 h'))
      · cases hp
    · cases hp
  | istore k =>
    simp only [mpure, m_is] at hp
    split at hp
    · split at hp
      · rename_i hi; cases hp; exact lv_istore hx hb hd hl hi rfl (fun la' h' => kk la' (lh_set1 h'))
      · cases hp
    · cases hp
  | lstore_n k =>
    simp only [mpure, m_lst] at hp
    split at hp
    · split at hp
      · rename_i hi; cases hp; exact lv_lstore_n hx hb hd rfl hl hi rfl (fun la' h' => kk la' (lh_set2 h'))
      · cases hp
    · cases hp
  | lstore k =>
    simp only [mpure, m_lst] at hp
    split at hp
    · split at hp
      · rename_i hi; cases hp; exact lv_lstore hx hb hd hl hi rfl (fun la' h' => kk la' (lh_set2 h'))
      · cases hp
    · cases hp
  | astore_n k =>
    simp only [mpure, m_as] at hp
    split at hp
    · split at hp
      · rename_i hi; cases hp; exact lv_astore_n hx hb hd rfl hl hi rfl (fun la' h' => kk la' (lh_set1 h'))
      · cases hp
    · cases hp
  | astore k =>
    simp only [mpure, m_as] at hp
    split at hp
    · split at hp
      · rename_i hi; cases hp; exact lv_astore hx hb hd hl hi rfl (fun la' h' => kk la' (lh_set1 h'))
      · cases hp
    · cases hp
  | iinc k n =>
    simp only [mpure] at hp
    split at hp
    · rename_i x hg
      split at hp
      · rename_i hi
        cases hp
        obtain ⟨q, hq⟩ := lh_pos hl hg
        exact lv_iinc hx hb hd hl hq rfl hi rfl (fun la' h' => kk la' (lh_set1 h'))
      · cases hp
    · cases hp
  | iadd => simp only [mpure, m_ii] at hp; split at hp; (· cases hp; exact lv_iadd hx hb hd (kk la hl)); (· cases hp)
  | isub => simp only [mpure, m_ii] at hp; split at hp; (· cases hp; exact lv_isub hx hb hd (kk la hl)); (· cases hp)
  | imul => simp only [mpure, m_ii] at hp; split at hp; (· cases hp; exact lv_imul hx hb hd (kk la hl)); (· cases hp)
  | iand => simp only [mpure, m_ii] at hp; split at hp; (· cases hp; exact lv_iand hx hb hd (kk la hl)); (· cases hp)
  | idiv =>
    simp only [mpure] at hp
    split at hp
    · split at hp
      · cases hp
      · rename_i hy; cases hp; exact lv_idiv hx hb hd hy (kk la hl)
    · cases hp
  | irem =>
    simp only [mpure] at hp
    split at hp
    · split at hp
      · cases hp
      · rename_i hy; cases hp; exact lv_irem hx hb hd hy (kk la hl)
    · cases hp
  | ladd => simp only [mpure, m_ll] at hp; split at hp; (· cases hp; exact lv_ladd hx hb hd (kk la hl)); (· cases hp)
  | lsub => simp only [mpure, m_ll] at hp; split at hp; (· cases hp; exact lv_lsub hx hb hd (kk la hl)); (· cases hp)
  | lmul => simp only [mpure, m_ll] at hp; split at hp; (· cases hp; exact lv_lmul hx hb hd (kk la hl)); (· cases hp)
  | land => simp only [mpure, m_ll] at hp; split at hp; (· cases hp; exact lv_land hx hb hd (kk la hl)); (· cases hp)
  | lor => simp only [mpure, m_ll] at hp; split at hp; (· cases hp; exact lv_lor hx hb hd (kk la hl)); (· cases hp)
  | lxor => simp only [mpure, m_ll] at hp; split at hp; (· cases hp; exact lv_lxor hx hb hd (kk la hl)); (· cases hp)
  | lshl => simp only [mpure, m_li] at hp; split at hp; (· cases hp; exact lv_lshl hx hb hd rfl (kk la hl)); (· cases hp)
  | lshr => simp only [mpure, m_li] at hp; split at hp; (· cases hp; exact lv_lshr hx hb hd rfl (kk la hl)); (· cases hp)
  | lushr => simp only [mpure, m_li] at hp; split at hp; (· cases hp; exact lv_lushr hx hb hd rfl (kk la hl)); (· cases hp)
  | lcmp => simp only [mpure] at hp; split at hp; (· cases hp; exact W.lcmp hx hb hd (kk la hl)); (· cases hp)
  | i2l => simp only [mpure] at hp; split at hp; (· cases hp; exact lv_i2l hx hb hd rfl (kk la hl)); (· cases hp)
  | dup =>
    simp only [mpure] at hp
    split at hp
    · split at hp
      · rename_i hc; cases hp; exact lv_dup hx hb hd (by rw [cv_cat]; exact hc) (kk la hl)
      · cases hp
    · cases hp
  | dup2 =>
    simp only [mpure] at hp
    split at hp
    · split at hp
      · rename_i hc; cases hp; exact lv_dup2_11 hx hb hd (by rw [cv_cat]; exact hc.1) (by rw [cv_cat]; exact hc.2) (kk la hl)
      · cases hp
    · cases hp
  | pop =>
    simp only [mpure] at hp
    split at hp
    · split at hp
      · rename_i hc; cases hp; exact lv_pop hx hb hd (by rw [cv_cat]; exact hc) (kk la hl)
      · cases hp
    · cases hp
  | _ => simp [mpure] at hp
theorem mb1_t {b : Prop} [Decidable b] {off o : Int} {t t' : List Value} (h : mb1 b off t = some (some o, t')) : b ∧ o = off ∧ t' = t := by
  unfold mb1 at h
  by_cases hb : b
  · simp [hb] at h; exact ⟨hb, h.1.symm, h.2.symm⟩
  · simp [hb] at h
theorem mb1_f {b : Prop} [Decidable b] {off : Int} {t t' : List Value} (h : mb1 b off t = some (none, t')) : ¬ b ∧ t' = t := by
  unfold mb1 at h
  by_cases hb : b
  · simp [hb] at h
  · simp [hb] at h; exact ⟨hb, h.symm⟩
set_option maxHeartbeats 4000000 in
theorem ms_br (hx : p.tables.exec = Jvm.exec) (hb : c.code = cc) {off : Int} {tgt : Nat} (hd : decode cc pc = .ok (i, 3)) (hp : mbr i st = some (some off, st')) (ht : (pc : Int) + off = (tgt : Int))
    (kk : W p l e R s m args below meth c H locs cells slots Q (F0 m tgt la (st'.map (cv n0 ex)))) : W p l e R s m args below meth c H locs cells slots Q (F0 m pc la (st.map (cv n0 ex))) := by
  cases i with
  | goto o => cases hp; exact lv_goto hx hb hd ht kk
  | ifCond o off' =>
    simp only [mbr] at hp
    split at hp
    · cases o
      all_goals simp only at hp
      all_goals obtain ⟨h1, rfl, rfl⟩ := mb1_t hp
      · exact lv_if_eq hx hb hd ht (fun _ => kk) (fun h => absurd h1 h)
      · exact lv_if_ne hx hb hd ht (fun _ => kk) (fun h => absurd h h1)
      · exact lv_if_lt hx hb hd ht (fun _ => kk) (fun h => absurd h1 h)
      · exact lv_if_ge hx hb hd ht (fun _ => kk) (fun h => absurd h1 h)
      · exact lv_if_gt hx hb hd ht (fun _ => kk) (fun h => absurd h1 h)
      · exact lv_if_le hx hb hd ht (fun _ => kk) (fun h => absurd h1 h)
    · cases hp
  | if_icmp o off' =>
    simp only [mbr] at hp
    split at hp
    · cases o
      all_goals simp only at hp
      all_goals obtain ⟨h1, rfl, rfl⟩ := mb1_t hp
      · exact lv_icmp_eq hx hb hd ht (fun _ => kk) (fun h => absurd h1 h)
      · exact lv_icmp_ne hx hb hd ht (fun _ => kk) (fun h => absurd h h1)
      · exact lv_icmp_lt hx hb hd ht (fun _ => kk) (fun h => absurd h1 h)
      · exact lv_icmp_ge hx hb hd ht (fun _ => kk) (fun h => absurd h1 h)
      · exact lv_icmp_gt hx hb hd ht (fun _ => kk) (fun h => absurd h1 h)
      · exact lv_icmp_le hx hb hd ht (fun _ => kk) (fun h => absurd h1 h)
    · cases hp
  | _ => simp [mbr] at hp
set_option maxHeartbeats 4000000 in
theorem ms_nb (hx : p.tables.exec = Jvm.exec) (hb : c.code = cc) (hd : decode cc pc = .ok (i, 3)) {tg : Int → Nat} (htg : ∀ off : Int, (∃ o, i = .ifCond o off) ∨ (∃ o, i = .if_icmp o off) → (pc : Int) + off = (tg off : Int)) (hp : mbr i st = some (none, st'))
    (kk : W p l e R s m args below meth c H locs cells slots Q (F0 m (pc + 3) la (st'.map (cv n0 ex)))) : W p l e R s m args below meth c H locs cells slots Q (F0 m pc la (st.map (cv n0 ex))) := by
  cases i with
  | goto o => cases hp
  | ifCond o off' =>
    simp only [mbr] at hp
    have ht := htg off' (Or.inl ⟨_, rfl⟩)
    split at hp
    · cases o
      all_goals simp only at hp
      all_goals obtain ⟨h1, rfl⟩ := mb1_f hp
      · exact lv_if_eq hx hb hd ht (fun h => absurd h h1) (fun _ => kk)
      · exact lv_if_ne hx hb hd ht (fun h => absurd h h1) (fun _ => kk)
      · exact lv_if_lt hx hb hd ht (fun h => absurd h h1) (fun _ => kk)
      · exact lv_if_ge hx hb hd ht (fun h => absurd h h1) (fun _ => kk)
      · exact lv_if_gt hx hb hd ht (fun h => absurd h h1) (fun _ => kk)
      · exact lv_if_le hx hb hd ht (fun h => absurd h h1) (fun _ => kk)
    · cases hp
  | if_icmp o off' =>
    simp only [mbr] at hp
    have ht := htg off' (Or.inr ⟨_, rfl⟩)
    split at hp
    · cases o
      all_goals simp only at hp
      all_goals obtain ⟨h1, rfl⟩ := mb1_f hp
      · exact lv_icmp_eq hx hb hd ht (fun h => absurd h h1) (fun _ => kk)
      · exact lv_icmp_ne hx hb hd ht (fun h => absurd h h1) (fun _ => kk)
      · exact lv_icmp_lt hx hb hd ht (fun h => absurd h h1) (fun _ => kk)
      · exact lv_icmp_ge hx hb hd ht (fun h => absurd h h1) (fun _ => kk)
      · exact lv_icmp_gt hx hb hd ht (fun h => absurd h h1) (fun _ => kk)
      · exact lv_icmp_le hx hb hd ht (fun h => absurd h h1) (fun _ => kk)
    · cases hp
  | _ => simp [mbr] at hp
end Pure
end
section
/-! the words of the tables at every state of the run; the tables of the small machine say what they should -/
def mTb (s : State) : Prop := ∀ w ∈ mTbl, w.before #[] s = true
theorem mTb_warm {s U : State} {a : Array Value} (hW : s.WarmedH U.vm) (h : mTb s) : ∀ w ∈ mTbl, w.before a U = true := by
  intro w hw
  have g : mGood w = true := (List.mem_filter.mp hw).2
  have hb := h w hw
  unfold mGood at g
  by_cases hg : goodWord w = true
  · exact word_at hW (good_of_word hg) hb
  · cases w with
    | fieldLinkNest a i b n d h => exact va_Nw.use rfl (va_Nw.warmF hW hb)
    | methodLinkNest a i x h => exact va_Nw.use rfl (va_Nw.warmM hW hb)
    | castable a b => exact va_Nw.use rfl (va_Nw.warmC hW hb)
    | declares x => exact va_Nw.use rfl (va_Nw.warmD hW hb)
    | _ => simp [hg] at g
theorem mTb_use {s : State} {w : Cond} (h : mTb s) (hw : w ∈ mTbl) {a : Array Value} : w.before a s = true := mTb_warm (State.WarmedH.refl s) h w hw
theorem m_lay {ci : Nat} {C : String} {T : u_T} {N : Nat} (h : mcl[ci]? = some (C, T, N)) : ∀ w ∈ u_ws C T N, w ∈ mTbl := by
  match ci, h with
  | 0, h => cases h; exact mlay0
  | 1, h => cases h; exact mlay1
  | 2, h => cases h; exact mlay2
  | 3, h => cases h; exact mlay3
  | 4, h => cases h; exact mlay4
  | 5, h => cases h; exact mlay5
  | 6, h => cases h; exact mlay6
  | 7, h => cases h; exact mlay7
  | 8, h => cases h; exact mlay8
  | 9, h => cases h; exact mlay9
  | 10, h => cases h; intro w hw; cases hw
  | 11, h => cases h; intro w hw; cases hw
  | 12, h => cases h; intro w hw; cases hw
  | n + 13, h => cases h
theorem m_ty {ci : Nat} {C : String} {T : u_T} {N : Nat} (h : mcl[ci]? = some (C, T, N)) : ∀ k, k < N → parseFieldDescriptor (T k).2.2.1 = some (mty ci k) := by
  match ci, h with
  | 0, h => cases h; exact mtyok0
  | 1, h => cases h; exact mtyok1
  | 2, h => cases h; exact mtyok2
  | 3, h => cases h; exact mtyok3
  | 4, h => cases h; exact mtyok4
  | 5, h => cases h; exact mtyok5
  | 6, h => cases h; exact mtyok6
  | 7, h => cases h; exact mtyok7
  | 8, h => cases h; exact mtyok8
  | 9, h => cases h; exact mtyok9
  | 10, h => cases h; intro k hk; omega
  | 11, h => cases h; intro k hk; omega
  | 12, h => cases h; intro k hk; omega
  | n + 13, h => cases h
theorem m_nm {ci : Nat} {C : String} {T : u_T} {N : Nat} (h : mcl[ci]? = some (C, T, N)) : ∀ a, a < N → ∀ b, b < N → a ≠ b → (T a).2.1 ≠ (T b).2.1 := by
  match ci, h with
  | 0, h => cases h; exact mnm0
  | 1, h => cases h; exact mnm1
  | 2, h => cases h; exact mnm2
  | 3, h => cases h; exact mnm3
  | 4, h => cases h; exact mnm4
  | 5, h => cases h; exact mnm5
  | 6, h => cases h; exact mnm6
  | 7, h => cases h; exact mnm7
  | 8, h => cases h; exact mnm8
  | 9, h => cases h; exact mnm9
  | 10, h => cases h; intro k hk; omega
  | 11, h => cases h; intro k hk; omega
  | 12, h => cases h; intro k hk; omega
  | n + 13, h => cases h
theorem mcl_nm {ci : Nat} {C : String} {T : u_T} {N : Nat} (h : mcl[ci]? = some (C, T, N)) : mNmOf ci = C := by
  match ci, h with
  | 0, h => cases h; rfl
  | 1, h => cases h; rfl
  | 2, h => cases h; rfl
  | 3, h => cases h; rfl
  | 4, h => cases h; rfl
  | 5, h => cases h; rfl
  | 6, h => cases h; rfl
  | 7, h => cases h; rfl
  | 8, h => cases h; rfl
  | 9, h => cases h; rfl
  | 10, h => cases h; rfl
  | 11, h => cases h; rfl
  | 12, h => cases h; rfl
  | n + 13, h => cases h
theorem mFld_spec {o idx ci k w : Nat} (h : (o, idx, ci, k, w) ∈ mFldT) : ∃ C T N, mcl[ci]? = some (C, T, N) ∧ k < N ∧ (T k).1 = C ∧ Cond.fieldLink (mNmOf o) idx C (T k).2.1 (T k).2.2.1 ∈ mTbl := by
  have hk := List.all_eq_true.mp mFldT_ok _ h
  simp only [mFldOK] at hk
  split at hk
  · rename_i C T N hc
    simp only [Bool.and_eq_true, decide_eq_true_eq] at hk
    exact ⟨C, T, N, hc, hk.1, hk.2.1, mIs.mem hk.2.2⟩
  · cases hk
theorem mFldN_spec {o idx ci k w : Nat} (h : (o, idx, ci, k, w) ∈ mFldNT) : ∃ C T N, mcl[ci]? = some (C, T, N) ∧ k < N ∧ (T k).1 = C ∧ Cond.fieldLinkNest (mNmOf o) idx C (T k).2.1 (T k).2.2.1 "MeshWalk" ∈ mTbl := by
  have hk := List.all_eq_true.mp mFldNT_ok _ h
  simp only [mFldNOK] at hk
  split at hk
  · rename_i C T N hc
    simp only [Bool.and_eq_true, decide_eq_true_eq] at hk
    exact ⟨C, T, N, hc, hk.1, hk.2.1, mIs.mem hk.2.2⟩
  · cases hk
theorem mNewT_lt : mNewT.all (fun q => decide (q.2.2.1 < 10)) = true := by decide +kernel
theorem mNew_spec {o idx ci a b d : Nat} (h : (o, idx, ci, a, b, d) ∈ mNewT) : ∃ C T N, mcl[ci]? = some (C, T, N) ∧ ci < 10 ∧ Cond.classLink (mNmOf o) idx C ∈ mTbl ∧ Cond.instantiable C N ∈ mTbl ∧ Cond.initialized C ∈ mTbl := by
  have hk := List.all_eq_true.mp mNewT_ok _ h
  have hl := List.all_eq_true.mp mNewT_lt _ h
  simp only [decide_eq_true_eq] at hl
  simp only [mNewOK] at hk
  split at hk
  · rename_i C T N hc
    simp only [Bool.and_eq_true] at hk
    exact ⟨C, T, N, hc, hl, mIs.mem hk.1, mIs.mem hk.2.1, mIs.mem hk.2.2⟩
  · cases hk
theorem mobj1 : Cond.instanceMethod objectInit ∈ mTbl := mIs.mem (i := 82) (by decide +kernel)
theorem mobj2 : Cond.code objectInit ⟨#[0xb1]⟩ 1 none ∈ mTbl := mIs.mem (i := 83) (by decide +kernel)
theorem marr1 : Cond.arrayClass .int ∈ mTbl := mIs.mem (i := 106) (by decide +kernel)
theorem marr2 : Cond.arrayClass .long ∈ mTbl := mIs.mem (i := 136) (by decide +kernel)
theorem marr3 : Cond.arrayClass .boolean ∈ mTbl := mIs.mem (i := 947) (by decide +kernel)
/-! what stands at every point of a method's walk -/
abbrev mA (n0 : Nat) : Nat → Prop := fun q => n0 ≤ q
abbrev mtys (dA : FieldType → ClassId) : List (ClassId × FieldType) := [(dA .int, .int), (dA .long, .long), (dA .boolean, .boolean)]
/-- what the makers of exceptions need of Throwable's two statics: where they lie, and that they hold a reference or null -/
def mStatT : List (String × String) := [("UNASSIGNED_STACK", "[Ljava/lang/StackTraceElement;"), ("SUPPRESSED_SENTINEL", "Ljava/util/List;")]
def mSt (n0 : Nat) (s : State) : Prop := ∀ q ∈ mStatT, ∃ c k i f a cell v, s.vm.findClass "java/lang/Throwable" = some c ∧ s.fieldFound? "java/lang/Throwable" q.1 q.2 = some (c, k, i, f) ∧ f.isStatic = true ∧ k.statics = some a ∧ a < n0 ∧ s.heap[a]? = some cell ∧ cell.vm.isStatics = true ∧ cell.cls = c ∧ f.slot < cell.slots.size ∧ k.staticTypes[f.slot]? = some f.type ∧ cell.slots[f.slot]? = some v ∧ v.isRef = true
/-- the String constants, by their places in the class file and among the cells that were there before -/
def mStrT : List (Nat × String × Nat) := [(168, "a coordinate is out of bounds", 1), (60, "there are 40 points", 2), (170, "there is no such point", 3), (172, "the points are the same", 4), (176, "there is no such triangle, corner or edge", 5), (144, "no circle goes through points on one line", 6)]
def mXc (n0 : Nat) (ex : Nat → Nat) (s : State) : Prop := mSt n0 s ∧ (∀ q ∈ mStrT, vk_R "MeshWalk" q.1 q.2.1 (ex q.2.2) s) ∧ (Cond.castable "java/lang/IllegalStateException" "java/lang/IllegalArgumentException").before #[] s = false
def mCx (D : va_G) (n0 : Nat) (ex : Nat → Nat) (dA : FieldType → ClassId) (S : mE) (s : State) : Prop :=
  va_K D mcl (mtys dA) s ∧ va_X (ex 0) S.1 S.2 s s.heap ∧ ex 0 < n0 ∧ n0 ≤ s.heap.size ∧ mTb s ∧ mXc n0 ex s
theorem mSt_moved {n0 : Nat} {s U : State} (hW : s.WarmedH U.vm) (hh : ∀ q, q < n0 → U.heap[q]? = s.heap[q]?) (h : mSt n0 s) : mSt n0 U := by
  intro q hq
  obtain ⟨c, k, i, f, a, cell, v, h1, h2, h3, h4, h5, h6, h7, h8, h9, h10, h11, h12⟩ := h q hq
  obtain ⟨k', hk', he⟩ := State.fieldFound?_setVm hW.alike h2
  refine ⟨c, k', i, f, a, cell, v, by rw [hW.alike.findClass]; exact h1, by simpa only [State.fieldFound?, State.vm_setVm] using hk', h3, by rw [he]; exact h4, h5, by rw [hh a h5]; exact h6, h7, h8, h9, by rw [he]; exact h10, h11, h12⟩
theorem mXc_moved {n0 : Nat} {ex : Nat → Nat} {s U : State} (hW : s.WarmedH U.vm) (hh : ∀ q, q < n0 → U.heap[q]? = s.heap[q]?) (h : mXc n0 ex s) : mXc n0 ex U := by
  refine ⟨mSt_moved hW hh h.1, fun q hq => vk_R.warm hW (h.2.1 q hq), ?_⟩
  have h1 := Cond.castable_setVm (args := #[]) hW.alike "java/lang/IllegalStateException" "java/lang/IllegalArgumentException"
  rw [h.2.2] at h1
  have h2 : (Cond.castable "java/lang/IllegalStateException" "java/lang/IllegalArgumentException").before #[] U = (Cond.castable "java/lang/IllegalStateException" "java/lang/IllegalArgumentException").before #[] (s.setVm U.vm) := by
    simp only [Cond.before, Cond.holds, Cond.value, State.vm_setVm]
  rw [h2]; exact h1
def mFix (M : Nat) (p : Program) (s : State) (m : MethodId) (meth : Method) (c : Code) : Prop :=
  p.tables.exec = Jvm.exec ∧ c.code = mCode M ∧ meth.sig.returnType = mRet M ∧ c.maxLocals = mMaxL M ∧ meth.locks = false ∧ meth.name = (mName M).name ∧ s.vm.findClass (mNmOf (mOwn M)) = some m.cls ∧ c.exceptionTable.toList.map (fun h => (h.startPc, h.endPc, h.handlerPc, h.catchType)) = mHand M
section Heap
variable {p : Program} {l : Launch} {e : Env} {R : Room} {s : State} {m : MethodId} {args : Array Value} {below : List Frame} {meth : Method} {c : Code} {H : Heap} {locs : List Loc} {cells slots : Nat} {Q : State → Prop}
variable {D : va_G} {n0 : Nat} {ex : Nat → Nat} {dA : FieldType → ClassId} {S : mE} {M pc : Nat} {la : Array Slot} {st : List Value} {h : mHp}
theorem W.sz {g : JFrame} (k : H.size ≤ s.heap.size + cells → W p l e R s m args below meth c H locs cells slots Q g) : W p l e R s m args below meth c H locs cells slots Q g := fun T hT X => k (by rw [← hT]; exact X.heapSize) T hT X
theorem W.mono {Q' : State → Prop} {g : JFrame} (hq : ∀ t, Q t → Q' t) (k : W p l e R s m args below meth c H locs cells slots Q g) : W p l e R s m args below meth c H locs cells slots Q' g := fun T hT X => by
  obtain ⟨t, a, b⟩ := k T hT X
  exact ⟨t, a, hq t b⟩
theorem ms_get (F : mFix M p s m meth c) (X : mCx D n0 ex dA S s) (hP : va_P D mcl (mws n0 ex dA h 0) H) {idx ci k w a : Nat} {fs : List Value} {v : Value} (hd : decode (mCode M) pc = .ok (.getfield idx, 3)) (hf : (mOwn M, idx, ci, k, w) ∈ mFldT ∨ (mOwn M, idx, ci, k, w) ∈ mFldNT) (hg : mget h a = some (.inr (ci, fs))) (hv : fs[k]? = some v)
    (kk : W p l e R s m args below meth c H locs cells slots Q (F0 m (pc + 3) la (cv n0 ex v :: st))) : W p l e R s m args below meth c H locs cells slots Q (F0 m pc la (.ref (sg n0 ex a) :: st)) := by
  obtain ⟨hx, hb, -, -, -, -, hown, -⟩ := F
  have hv' : (fs.map (cv n0 ex))[k]? = some (cv n0 ex v) := by rw [List.getElem?_map, hv]; rfl
  rcases hf with hf | hf
  · obtain ⟨C, T, N, hc, hk, hC, hw⟩ := mFld_spec hf
    exact va_get (D := D) (v := cv n0 ex v) hx hb (fun w hw => mTb_use X.2.2.2.2.1 hw) (m_lay hc) hown X.1 hP (a - 16) (mws_at hg) hc k hk (mTb_use X.2.2.2.2.1 hw) (fun x9 h9 => by rw [hC] at h9; exact h9) hv' hd kk
  · obtain ⟨C, T, N, hc, hk, hC, hw⟩ := mFldN_spec hf
    exact va_getN (D := D) (v := cv n0 ex v) hx hb (fun w hw => mTb_use X.2.2.2.2.1 hw) (m_lay hc) hown X.1 hP (a - 16) (mws_at hg) hc k hk (mTb_use X.2.2.2.2.1 hw) (fun x9 h9 => by rw [hC] at h9; exact h9) hv' hd kk
theorem cv_nar {ty : FieldType} {v : Value} (h : narrow ty v = v) : narrow ty (cv n0 ex v) = cv n0 ex v := by
  cases v <;> first | exact h | (cases ty <;> rfl)
theorem cv_fit {ty : FieldType} {v : Value} (h : fits ty v = true) : fits ty (cv n0 ex v) = true := by
  cases v <;> first | exact h | (cases ty <;> first | rfl | exact h)
theorem ms_put (F : mFix M p s m meth c) (X : mCx D n0 ex dA S s) (hP : va_P D mcl (mws n0 ex dA h 0) H) (hS : va_S (mA n0) s.heap H locs) {idx ci k w a : Nat} {fs : List Value} {v : Value} (hd : decode (mCode M) pc = .ok (.putfield idx, 3)) (hf : (mOwn M, idx, ci, k, w) ∈ mFldT) (hg : mget h a = some (.inr (ci, fs))) (hl : k < fs.length) (hn : narrow (mty ci k) v = v) (hft : fits (mty ci k) v = true) (hfin : mfin ci k = false ∨ ((mName M).name = "<init>" ∧ mOwn M = ci))
    (kk : ∀ (H1 : Heap) (locs1 : List Loc), va_P D mcl (mws n0 ex dA (mput h a (.inr (ci, fs.set k v))) 0) H1 → va_S (mA n0) s.heap H1 locs1 → W p l e R s m args below meth c H1 locs1 cells slots Q (F0 m (pc + 3) la st)) : W p l e R s m args below meth c H locs cells slots Q (F0 m pc la (cv n0 ex v :: .ref (sg n0 ex a) :: st)) := by
  obtain ⟨hx, hb, -, -, -, hin, hown, -⟩ := F
  obtain ⟨C, T, N, hc, hk, hC, hw⟩ := mFld_spec hf
  have e1 : ((mws n0 ex dA h 0).set (a - 16) (sg n0 ex a, .inr (ci, (fs.map (cv n0 ex)).set k (cv n0 ex v)))) = mws n0 ex dA (mput h a (.inr (ci, fs.set k v))) 0 := by
    rw [← mws_put hg (.inr (ci, fs.set k v))]
    simp only [mce, List.map_set]
  have kk' : ∀ (H1 : Heap) (locs1 : List Loc), va_P D mcl ((mws n0 ex dA h 0).set (a - 16) (sg n0 ex a, .inr (ci, (fs.map (cv n0 ex)).set k (cv n0 ex v)))) H1 → va_D (mA n0) ((mws n0 ex dA h 0).set (a - 16) (sg n0 ex a, .inr (ci, (fs.map (cv n0 ex)).set k (cv n0 ex v)))) → va_S (mA n0) s.heap H1 locs1 → W p l e R s m args below meth c H1 locs1 cells slots Q (F0 m (pc + 3) la st) := by
    intro H1 locs1 h1 _ h3
    rw [e1] at h1
    exact kk H1 locs1 h1 h3
  have hmf : mfin ci k = (T k).2.2.2 := by unfold mfin; rw [hc]; rfl
  by_cases hb1 : (T k).2.2.2 = true
  · rcases hfin with hfin | ⟨h1, h2⟩
    · rw [hmf, hb1] at hfin; cases hfin
    · exact va_putF (D := D) (A := mA n0) hx hb (fun w hw => mTb_use X.2.2.2.2.1 hw) (m_lay hc) (mty ci) (m_ty hc) (m_nm hc) hown X.1 hP (mws_D h) hS (a - 16) (mws_at hg) hc k hk (mTb_use X.2.2.2.2.1 hw) (fun x9 h9 => by rw [hC] at h9; exact h9) hb1 (hin.trans h1) (by rw [hC, h2]; exact (mcl_nm hc).symm) (m_ty hc k hk) (cv_nar hn) (cv_fit hft) (by rw [List.length_map]; exact hl) hd kk'
  · have hb2 : (T k).2.2.2 = false := by cases hz : (T k).2.2.2 with
      | true => exact absurd hz hb1
      | false => rfl
    exact va_put (D := D) (A := mA n0) hx hb (fun w hw => mTb_use X.2.2.2.2.1 hw) (m_lay hc) (mty ci) (m_ty hc) (m_nm hc) hown X.1 hP (mws_D h) hS (a - 16) (mws_at hg) hc k hk (mTb_use X.2.2.2.2.1 hw) (fun x9 h9 => by rw [hC] at h9; exact h9) hb2 (m_ty hc k hk) (cv_nar hn) (cv_fit hft) (by rw [List.length_map]; exact hl) hd kk'
theorem ms_ild (F : mFix M p s m meth c) (X : mCx D n0 ex dA S s) (hP : va_P D mcl (mws n0 ex dA h 0) H) {a n : Nat} {f : Nat → Int32} {i : Int32} (hd : decode (mCode M) pc = .ok (.iaload, 1)) (hg : mget h a = some (.inl (.int, n, .inl f))) (hin : vp_in i n)
    (kk : W p l e R s m args below meth c H locs cells slots Q (F0 m (pc + 1) la (.int (f i.toNatClampNeg) :: st))) : W p l e R s m args below meth c H locs cells slots Q (F0 m pc la (.int i :: .ref (sg n0 ex a) :: st)) :=
  va_iald F.1 F.2.1 X.1 hP (a - 16) 0 (mws_at hg) rfl hin hd kk
theorem ms_zld (F : mFix M p s m meth c) (X : mCx D n0 ex dA S s) (hP : va_P D mcl (mws n0 ex dA h 0) H) {a n : Nat} {f : Nat → Int32} {i : Int32} (hd : decode (mCode M) pc = .ok (.baload, 1)) (hg : mget h a = some (.inl (.boolean, n, .inl f))) (hin : vp_in i n)
    (kk : W p l e R s m args below meth c H locs cells slots Q (F0 m (pc + 1) la (.int (f i.toNatClampNeg) :: st))) : W p l e R s m args below meth c H locs cells slots Q (F0 m pc la (.int i :: .ref (sg n0 ex a) :: st)) :=
  va_zald F.1 F.2.1 X.1 hP (a - 16) 2 (mws_at hg) rfl hin hd kk
theorem ms_lld (F : mFix M p s m meth c) (X : mCx D n0 ex dA S s) (hP : va_P D mcl (mws n0 ex dA h 0) H) {a n : Nat} {f : Nat → Int64} {i : Int32} (hd : decode (mCode M) pc = .ok (.laload, 1)) (hg : mget h a = some (.inl (.long, n, .inr (.inl f)))) (hin : vp_in i n)
    (kk : W p l e R s m args below meth c H locs cells slots Q (F0 m (pc + 1) la (.long (f i.toNatClampNeg) :: st))) : W p l e R s m args below meth c H locs cells slots Q (F0 m pc la (.int i :: .ref (sg n0 ex a) :: st)) :=
  va_lald F.1 F.2.1 X.1 hP (a - 16) 1 (mws_at hg) rfl hin hd kk
theorem ms_ist (F : mFix M p s m meth c) (X : mCx D n0 ex dA S s) (hP : va_P D mcl (mws n0 ex dA h 0) H) (hS : va_S (mA n0) s.heap H locs) {a n : Nat} {f : Nat → Int32} {i x : Int32} (hd : decode (mCode M) pc = .ok (.iastore, 1)) (hg : mget h a = some (.inl (.int, n, .inl f))) (hin : vp_in i n)
    (kk : ∀ (H1 : Heap) (locs1 : List Loc), va_P D mcl (mws n0 ex dA (mput h a (.inl (.int, n, .inl (upd f i.toNatClampNeg x)))) 0) H1 → va_S (mA n0) s.heap H1 locs1 → W p l e R s m args below meth c H1 locs1 cells slots Q (F0 m (pc + 1) la st)) : W p l e R s m args below meth c H locs cells slots Q (F0 m pc la (.int x :: .int i :: .ref (sg n0 ex a) :: st)) :=
  va_iast F.1 F.2.1 X.1 hP (mws_D h) hS (a - 16) 0 (mws_at hg) rfl hin hd (fun H1 locs1 h1 _ h3 => kk H1 locs1 (by rw [← mws_put hg]; exact h1) h3)
theorem ms_zst (F : mFix M p s m meth c) (X : mCx D n0 ex dA S s) (hP : va_P D mcl (mws n0 ex dA h 0) H) (hS : va_S (mA n0) s.heap H locs) {a n : Nat} {f : Nat → Int32} {i x : Int32} (hd : decode (mCode M) pc = .ok (.bastore, 1)) (hg : mget h a = some (.inl (.boolean, n, .inl f))) (hin : vp_in i n)
    (kk : ∀ (H1 : Heap) (locs1 : List Loc), va_P D mcl (mws n0 ex dA (mput h a (.inl (.boolean, n, .inl (upd f i.toNatClampNeg (vp_nar .boolean x))))) 0) H1 → va_S (mA n0) s.heap H1 locs1 → W p l e R s m args below meth c H1 locs1 cells slots Q (F0 m (pc + 1) la st)) : W p l e R s m args below meth c H locs cells slots Q (F0 m pc la (.int x :: .int i :: .ref (sg n0 ex a) :: st)) :=
  va_zast F.1 F.2.1 X.1 hP (mws_D h) hS (a - 16) 2 (mws_at hg) rfl hin hd (fun H1 locs1 h1 _ h3 => kk H1 locs1 (by rw [← mws_put hg]; exact h1) h3)
theorem ms_lst (F : mFix M p s m meth c) (X : mCx D n0 ex dA S s) (hP : va_P D mcl (mws n0 ex dA h 0) H) (hS : va_S (mA n0) s.heap H locs) {a n : Nat} {f : Nat → Int64} {i : Int32} {x : Int64} (hd : decode (mCode M) pc = .ok (.lastore, 1)) (hg : mget h a = some (.inl (.long, n, .inr (.inl f)))) (hin : vp_in i n)
    (kk : ∀ (H1 : Heap) (locs1 : List Loc), va_P D mcl (mws n0 ex dA (mput h a (.inl (.long, n, .inr (.inl (vp_updL f i.toNatClampNeg x))))) 0) H1 → va_S (mA n0) s.heap H1 locs1 → W p l e R s m args below meth c H1 locs1 cells slots Q (F0 m (pc + 1) la st)) : W p l e R s m args below meth c H locs cells slots Q (F0 m pc la (.long x :: .int i :: .ref (sg n0 ex a) :: st)) :=
  va_last F.1 F.2.1 X.1 hP (mws_D h) hS (a - 16) 1 (mws_at hg) rfl hin hd (fun H1 locs1 h1 _ h3 => kk H1 locs1 (by rw [← mws_put hg]; exact h1) h3)
theorem ms_len (F : mFix M p s m meth c) (X : mCx D n0 ex dA S s) (hP : va_P D mcl (mws n0 ex dA h 0) H) {a : Nat} {ty : FieldType} {x : vp_A} (hd : decode (mCode M) pc = .ok (.arraylength, 1)) (hg : mget h a = some (.inl (ty, x))) (hty : mprim ty = true)
    (kk : W p l e R s m args below meth c H locs cells slots Q (F0 m (pc + 1) la (.int (Int32.ofNat x.1) :: st))) : W p l e R s m args below meth c H locs cells slots Q (F0 m pc la (.ref (sg n0 ex a) :: st)) := by
  cases ty with
  | int => exact va_alen F.1 F.2.1 X.1 hP (a - 16) 0 (mws_at hg) rfl rfl hd kk
  | long => exact va_alen F.1 F.2.1 X.1 hP (a - 16) 1 (mws_at hg) rfl rfl hd kk
  | boolean => exact va_alen F.1 F.2.1 X.1 hP (a - 16) 2 (mws_at hg) rfl rfl hd kk
  | _ => cases hty
theorem ms_sld (F : mFix M p s m meth c) (X : mCx D n0 ex dA S s) (hS : va_S (mA n0) s.heap H locs) {i : Int32} (hd : decode (mCode M) pc = .ok (.iaload, 1)) (hin : vp_in i S.1)
    (kk : W p l e R s m args below meth c H locs cells slots Q (F0 m (pc + 1) la (.int (S.2 i.toNatClampNeg) :: st))) : W p l e R s m args below meth c H locs cells slots Q (F0 m pc la (.int i :: .ref (sg n0 ex 0) :: st)) :=
  va_sld (A := mA n0) F.1 F.2.1 X.2.1 (Nat.lt_of_lt_of_le X.2.2.1 X.2.2.2.1) (Nat.not_le.mpr X.2.2.1) hS hin hd kk
theorem ms_sln (F : mFix M p s m meth c) (X : mCx D n0 ex dA S s) (hS : va_S (mA n0) s.heap H locs) (hd : decode (mCode M) pc = .ok (.arraylength, 1))
    (kk : W p l e R s m args below meth c H locs cells slots Q (F0 m (pc + 1) la (.int (Int32.ofNat S.1) :: st))) : W p l e R s m args below meth c H locs cells slots Q (F0 m pc la (.ref (sg n0 ex 0) :: st)) :=
  va_slen (A := mA n0) F.1 F.2.1 X.2.1 (Nat.lt_of_lt_of_le X.2.2.1 X.2.2.2.1) (Nat.not_le.mpr X.2.2.1) hS hd kk
/-- the address of a new cell -/
theorem m_q {q : Nat} {x : va_E} {H1 : Heap} (hP : va_P D mcl (mws n0 ex dA h 0 ++ [(q, x)]) H1) (hD : va_D (mA n0) (mws n0 ex dA h 0 ++ [(q, x)])) (hz : H1.size ≤ n0 + h.length + 1) : q = n0 + h.length := by
  have hl : (mws n0 ex dA h 0 ++ [(q, x)])[h.length]? = some (q, x) := by
    rw [List.getElem?_append_right (by rw [mws_len]; exact Nat.le_refl _), mws_len]
    simp
  have h1 : q < H1.size := (hP _ _ hl).lt
  have h2 : n0 ≤ q := hD.2 _ _ hl
  by_cases h3 : q = n0 + h.length
  · exact h3
  · have h4 : q - n0 < h.length := by omega
    have h5 : (mws n0 ex dA h 0 ++ [(q, x)])[q - n0]? = some (n0 + (0 + (q - n0)), mce n0 ex dA h[q - n0]) := by
      rw [List.getElem?_append_left (by rw [mws_len]; exact h4), mws_get, List.getElem?_eq_getElem h4]
      rfl
    have h6 := hD.1 _ _ _ _ h5 hl (by show n0 + (0 + (q - n0)) = q; omega)
    omega
theorem ms_newa (F : mFix M p s m meth c) (X : mCx D n0 ex dA S s) (hP : va_P D mcl (mws n0 ex dA h 0) H) (hS : va_S (mA n0) s.heap H locs) {at_ : ArrayType} {ty : FieldType} {n : Int32} {N : Nat} (hd : decode (mCode M) pc = .ok (.newarray at_, 2)) (hat : newarray.typeOf at_ = ty) (hty : mprim ty = true) (hn : ¬ n < 0) (hN : n.toNatClampNeg = N) (hNb : N ≤ 10000) (hsz : s.heap.size + cells = n0 + h.length) (hc : cells + 1 ≤ R.cells) (hs : slots + N ≤ R.slots)
    (kk : ∀ H1 : Heap, va_P D mcl (mws n0 ex dA (h ++ [.inl (ty, mzero ty N)]) 0) H1 → va_S (mA n0) s.heap H1 locs → W p l e R s m args below meth c H1 locs (cells + 1) (slots + N) Q (F0 m (pc + 2) la (.ref (sg n0 ex (h.length + 16)) :: st))) : W p l e R s m args below meth c H locs cells slots Q (F0 m pc la (.int n :: st)) := by
  have harr : (Cond.arrayClass ty).before args s = true := by
    cases ty with
    | int => exact mTb_use X.2.2.2.2.1 marr1
    | long => exact mTb_use X.2.2.2.2.1 marr2
    | boolean => exact mTb_use X.2.2.2.2.1 marr3
    | _ => cases hty
  subst hat
  refine va_newa (D := D) (cl := mcl) (A := mA n0) (a0 := mzero (newarray.typeOf at_) N) F.1 F.2.1 harr rfl X.1 hP (mws_D h) hS (fun q hq => Nat.le_trans X.2.2.2.1 hq) ?_ hn hN ?_ hc hs hd ?_
  · intro cA
    cases at_ <;> first | rfl | cases hty
  · have : componentBytes (newarray.typeOf at_) ≤ 8 := by cases at_ <;> decide
    calc N * componentBytes (newarray.typeOf at_) ≤ 10000 * 8 := Nat.mul_le_mul hNb this
      _ ≤ 536870912 := by decide
  · intro q cA H1 hK1 hP1 hD1 hS1
    refine W.sz (fun hz => ?_)
    have hq : q = n0 + h.length := m_q hP1 hD1 (by omega)
    have hcA : cA = dA (newarray.typeOf at_) := by
      have g1 := (hK1.2 3 (cA, newarray.typeOf at_) rfl).2
      cases at_ with
      | int => exact Option.some.inj (g1.symm.trans (X.1.2 0 _ rfl).2)
      | long => exact Option.some.inj (g1.symm.trans (X.1.2 1 _ rfl).2)
      | boolean => exact Option.some.inj (g1.symm.trans (X.1.2 2 _ rfl).2)
      | _ => cases hty
    subst hq
    subst hcA
    have e1 : sg n0 ex (h.length + 16) = n0 + h.length := by unfold sg; rw [if_neg (by omega), Nat.add_sub_cancel]
    rw [e1] at kk
    refine kk H1 ?_ hS1
    rw [mws_app]
    simpa [mce] using hP1
theorem ms_new (F : mFix M p s m meth c) (X : mCx D n0 ex dA S s) (hP : va_P D mcl (mws n0 ex dA h 0) H) (hS : va_S (mA n0) s.heap H locs) {idx ci w1 w2 w3 : Nat} (hd : decode (mCode M) pc = .ok (.new idx, 3)) (hf : (mOwn M, idx, ci, w1, w2, w3) ∈ mNewT) (hsz : s.heap.size + cells = n0 + h.length) (hc : cells + 1 ≤ R.cells) (hs : slots + mslot (.inr (ci, mdef ci)) ≤ R.slots)
    (kk : ∀ H1 : Heap, va_P D mcl (mws n0 ex dA (h ++ [.inr (ci, mdef ci)]) 0) H1 → va_S (mA n0) s.heap H1 locs → W p l e R s m args below meth c H1 locs (cells + 1) (slots + mslot (.inr (ci, mdef ci))) Q (F0 m (pc + 3) la (.ref (sg n0 ex (h.length + 16)) :: st))) : W p l e R s m args below meth c H locs cells slots Q (F0 m pc la st) := by
  obtain ⟨C, T, N, hcl, hlt, h1, h2, h3⟩ := mNew_spec hf
  have hms : mslot (.inr (ci, mdef ci)) = N := by
    simp only [mslot, hlt, if_true, hcl]
    rfl
  rw [hms] at hs kk
  refine va_new (D := D) (cl := mcl) (A := mA n0) (fs := (mdef ci).map (cv n0 ex)) (C := C) (T := T) (N := N) F.1 F.2.1 (fun w hw => mTb_use X.2.2.2.2.1 hw) (m_lay hcl) (mty ci) (m_ty hcl) F.2.2.2.2.2.2.1 (mTb_use X.2.2.2.2.1 h1) (mTb_use X.2.2.2.2.1 h2) (mTb_use X.2.2.2.2.1 h3) X.1 hP (mws_D h) hS (fun q hq => Nat.le_trans X.2.2.2.1 hq) hcl ?_ hc hs hd ?_
  · intro j hj
    have hz : ∀ ty : FieldType, cv n0 ex (defaultValue ty) = defaultValue ty := fun ty => by cases ty <;> rfl
    simp [vp_V, mdef, hcl, hj, hz]
  · intro q H1 hP1 hD1 hS1
    refine W.sz (fun hz => ?_)
    have hq : q = n0 + h.length := m_q hP1 hD1 (by omega)
    subst hq
    have e1 : sg n0 ex (h.length + 16) = n0 + h.length := by unfold sg; rw [if_neg (by omega), Nat.add_sub_cancel]
    rw [e1] at kk
    refine kk H1 ?_ hS1
    rw [mws_app]
    simpa [mce] using hP1
theorem mObj_spec {o idx w : Nat} (h : (o, idx, w) ∈ mObjT) : Cond.methodLink (mNmOf o) idx objectInit ∈ mTbl := mIs.mem (List.all_eq_true.mp mObjT_ok _ h)
theorem ms_obj (F : mFix M p s m meth c) (X : mCx D n0 ex dA S s) (hl : la.size = mMaxL M) {idx w a : Nat} (hd : decode (mCode M) pc = .ok (.invokespecial idx, 3)) (hf : (mOwn M, idx, w) ∈ mObjT) (h1 : 1 ≤ R.frames) (h2 : mcats st + 12 ≤ R.locals)
    (kk : W p l e R s m args below meth c H locs cells slots Q (F0 m (pc + 3) la (st.map (cv n0 ex)))) : W p l e R s m args below meth c H locs cells slots Q (F0 m pc la (.ref a :: st.map (cv n0 ex))) := by
  refine W.objInit F.1 F.2.1 F.2.2.2.2.2.2.1 (mTb_use X.2.2.2.2.1 (mObj_spec hf)) (mTb_use X.2.2.2.2.1 mobj1) (mTb_use X.2.2.2.2.1 mobj2) rfl (hl.trans F.2.2.2.1.symm) rfl hd h1 ?_ kk
  show 2 * 0 + _ + 12 ≤ R.locals
  have : ((st.map (cv n0 ex)).map fun v => v.category).sum = mcats st := by simp [mcats, Function.comp_def, cv_cat]
  rw [this]
  omega
theorem mCi_spec {o idx w : Nat} {v : Int32} (h : (o, idx, v, w) ∈ mCiT) : Cond.constant (mNmOf o) idx v ∈ mTbl := mIs.mem (List.all_eq_true.mp mCiT_ok _ h)
theorem mCl_spec {o idx w : Nat} {v : Int64} (h : (o, idx, v, w) ∈ mClT) : Cond.constantLong (mNmOf o) idx v ∈ mTbl := mIs.mem (List.all_eq_true.mp mClT_ok _ h)
end Heap
end
section
/-! THE SMALL MACHINE IS THE MACHINE: mSem, its closure under the rules, so: what Runs says holds of the machine -/
def mOut (n0 : Nat) (ex : Nat → Nat) (o : Option Value ⊕ Nat) : Outcome := match o with
  | .inl v => .returned (v.map (cv n0 ex))
  | .inr k => .threw (sg n0 ex k)
def mQ (D : va_G) (n0 : Nat) (ex : Nat → Nat) (dA : FieldType → ClassId) (s : State) (below : List Frame) (mc ms : Nat) (r : mR) : State → Prop := fun t =>
  t.status = .running ∧ Ended t below (mOut n0 ex r.1) ∧ s.WarmedH t.vm ∧ (∃ L : List Loc, s.sameButNew ({ t with vm := s.vm } : State) L mc ms ∧ ∀ q ∈ L, n0 ≤ q.base) ∧ va_P D mcl (mws n0 ex dA r.2 0) t.heap ∧ va_F (mA n0) s t
def mGo (l : Launch) (D : va_G) (n0 : Nat) (ex : Nat → Nat) (dA : FieldType → ClassId) (S : mE) (M : Nat) (f : mF) (r : mR) : Prop :=
  ∀ (p : Program) (e : Env) (R : Room) (s : State) (m : MethodId) (args : Array Value) (below : List Frame) (meth : Method) (c : Code) (H : Heap) (locs : List Loc) (la : Array Slot) (cells slots mc ms sl0 : Nat),
    mFix M p s m meth c → mCx D n0 ex dA S s → va_P D mcl (mws n0 ex dA f.2.2.2 0) H → va_S (mA n0) s.heap H locs → lv_has la (mMaxL M) (f.2.1.map (cvp n0 ex)) → mFr M ≤ R.frames → mLo M ≤ R.locals → mc ≤ R.cells → ms ≤ R.slots → s.heap.size + cells = n0 + f.2.2.2.length → s.heap.size + mc = n0 + r.2.length → msl f.2.2.2 = sl0 + slots → msl r.2 = sl0 + ms →
    W p l e R s m args below meth c H locs cells slots (mQ D n0 ex dA s below mc ms r) (F0 m f.1 la (f.2.2.1.map (cv n0 ex)))
def mSem (l : Launch) (D : va_G) (n0 : Nat) (ex : Nat → Nat) (dA : FieldType → ClassId) (S : mE) (M : Nat) (f : mF) (r : mR) : Prop := f.2.2.2.length ≤ r.2.length ∧ msl f.2.2.2 ≤ msl r.2 ∧ mGo l D n0 ex dA S M f r
theorem msl_app (h : mHp) (c : mC) : msl (h ++ [c]) = msl h + mslot c := by simp [msl]
theorem mput_len (h : mHp) (a : Nat) (c : mC) : (mput h a c).length = h.length := by simp [mput]
theorem msl_set (h : mHp) (k : Nat) (c c' : mC) (hk : h[k]? = some c) (hs : mslot c' = mslot c) : msl (h.set k c') = msl h := by
  induction h generalizing k with
  | nil => rfl
  | cons x t ih =>
    cases k with
    | zero =>
      cases hk
      simp [msl, hs]
    | succ k =>
      have := ih k (by simpa using hk)
      simp only [msl, List.set_cons_succ, List.map_cons, List.sum_cons] at this ⊢
      rw [this]
theorem mput_sl {h : mHp} {a : Nat} {c c' : mC} (hg : mget h a = some c) (hs : mslot c' = mslot c) : msl (mput h a c') = msl h := by
  unfold mget at hg
  by_cases ha : a < 16
  · rw [if_pos ha] at hg; cases hg
  · rw [if_neg ha] at hg
    exact msl_set h (a - 16) c c' hg hs
theorem mcats_sl (vs : List Value) : (lg_sl vs).length = mcats vs := by
  induction vs with
  | nil => rfl
  | cons v t ih =>
    simp only [lg_sl, List.flatMap_cons, List.length_append, mcats, List.map_cons, List.sum_cons] at ih ⊢
    rw [ih]
    rcases lv_cat v with h | h <;> simp [h]
theorem mcats_map (n0 : Nat) (ex : Nat → Nat) (vs : List Value) : mcats (vs.map (cv n0 ex)) = mcats vs := by simp [mcats, Function.comp_def, cv_cat]
theorem lv_args_map (n0 : Nat) (ex : Nat → Nat) (vs : List Value) (i : Nat) : lv_args i (vs.map (cv n0 ex)) = (lv_args i vs).map (cvp n0 ex) := by
  induction vs generalizing i with
  | nil => rfl
  | cons v t ih =>
    simp only [List.map_cons, lv_args, cv_cat, ih]
    rfl
theorem mCx_moved {D : va_G} {n0 : Nat} {ex : Nat → Nat} {dA : FieldType → ClassId} {S : mE} {s U : State} {H : Heap} {locs : List Loc} (X : mCx D n0 ex dA S s) (hS : va_S (mA n0) s.heap H locs) (hU : U.heap = H) (hW : s.WarmedH U.vm) : mCx D n0 ex dA S U := by
  obtain ⟨h1, h2, h3, h4, h5, h6⟩ := X
  refine ⟨va_K.moved hW.alike h1, ?_, h3, ?_, fun w hw => mTb_warm hW h5 w hw, mXc_moved hW (fun q hq => by rw [hU]; exact hS.2.1 q (Nat.lt_of_lt_of_le hq h4) (Nat.not_le.mpr hq)) h6⟩
  · refine (va_X.moved hW.alike h2).kept ?_
    rw [hU]
    exact hS.2.1 _ (Nat.lt_of_lt_of_le h3 h4) (Nat.not_le.mpr h3)
  · rw [hU]; exact Nat.le_trans h4 hS.1
def mPc (D : va_G) (n0 : Nat) (ex : Nat → Nat) (dA : FieldType → ClassId) (S : mE) (h : mHp) (vs : List Value) : Array Value → State → Prop :=
  va_Pc (vs.map (cv n0 ex)) (fun U => mCx D n0 ex dA S U ∧ va_P D mcl (mws n0 ex dA h 0) U.heap ∧ U.heap.size = n0 + h.length)
def mQc (D : va_G) (n0 : Nat) (ex : Nat → Nat) (dA : FieldType → ClassId) (v : Option Value) (h' : mHp) : Array Value → State → Outcome → State → Prop := fun _ st o t =>
  o = .returned (v.map (cv n0 ex)) ∧ va_P D mcl (mws n0 ex dA h' 0) t.heap ∧ va_F (mA n0) st t
theorem mPc_blind {D : va_G} {n0 : Nat} {ex : Nat → Nat} {dA : FieldType → ClassId} {S : mE} {h : mHp} {vs : List Value} : FrameBlind (mPc D n0 ex dA S h vs) := by
  intro a U g mk hp
  obtain ⟨q0, qX, qP, qs⟩ := hp
  exact ⟨q0, mCx_moved (U := U.calling g mk a) (H := U.heap) (locs := []) qX va_S.rf rfl (State.WarmedH.refl U), qP, qs⟩
section Met
variable {l : Launch} {D : va_G} {n0 : Nat} {ex : Nat → Nat} {dA : FieldType → ClassId} {S : mE}
/-- a run of the small machine that returns is a contract of the machine -/
theorem m_met {N : Nat} {vs : List Value} {h h' : mHp} {v : Option Value} {mc ms : Nat} (hk : mSem l D n0 ex dA S N (0, lv_args 0 vs, [], h) (.inl v, h')) (hpl : plainFor (mName N) = true) (hnm : mNmOf (mOwn N) = (mName N).cls) (hhd : mHand N = []) (hw : mcats vs ≤ mMaxL N) (hmc : h.length + mc = h'.length) (hms : msl h + ms = msl h') :
    Met l (mName N) [Cond.code (mName N) (mCode N) (mMaxL N) (mRet N)] ({ frames := mFr N, cells := mc, slots := ms, locals := mLo N }) (mPc D n0 ex dA S h vs) (mQc D n0 ex dA v h') mc ms (mA n0) := by
  refine MetFree.of_bodySF (code := mCode N) (maxLocals := mMaxL N) (ret := mRet N) hpl ?_ ?_
  · intro args s m hh hn
    obtain ⟨meth, c, h1, h2, h3, h4, h5, h6, -, -⟩ := Cond.code_spec hn (atoms_spec (ws := [Cond.code (mName N) (mCode N) (mMaxL N) (mRet N)]) hh _ List.mem_cons_self)
    exact ⟨meth, c, h1, h2, h3, h4, h5, h6⟩
  · intro p e s m args below meth c s₁ B hml hP _
    obtain ⟨rfl, hX, hPw, hsz⟩ := hP
    have hcode := atoms_spec (ws := [Cond.code (mName N) (mCode N) (mMaxL N) (mRet N)]) B.pre _ List.mem_cons_self
    have hh0 : s₁.heap = s.heap := by rw [B.state]; rfl
    have hex : c.exceptionTable.toList.map (fun h => (h.startPc, h.endPc, h.handlerPc, h.catchType)) = mHand N := by
      have h0 : c.exceptionTable.size = 0 := by simpa [Array.isEmpty] using BodyLoose.noHandlers B hcode
      have h1 : c.exceptionTable.toList = [] := List.eq_nil_of_length_eq_zero (by simpa using h0)
      rw [h1, hhd]; rfl
    have F : mFix N p s m meth c := ⟨B.exec, B.bytes, B.returns, hml, B.notSynchronized, (name_of_methodNamed B.named B.method).1, by rw [hnm]; exact findClass_of_methodNamed B.named, hex⟩
    have hl := lv_entry (vs.map (cv n0 ex)) (n := mMaxL N) (by rw [mcats_sl, mcats_map]; exact hw)
    have K : W p l e ({ frames := mFr N, cells := mc, slots := ms, locals := mLo N } : Room) s m (vs.map (cv n0 ex)).toArray below meth c s.heap [] 0 0 (mQ D n0 ex dA s below mc ms (.inl v, h')) (entryFrame m (vs.map (cv n0 ex)).toArray (mMaxL N)) := by
      rw [lg_entry_eq]
      exact hk.2.2 p e _ s m _ below meth c s.heap [] _ 0 0 mc ms (msl h) F hX hPw va_S.rf (by rw [← lv_args_map]; exact hl) (Nat.le_refl _) (Nat.le_refl _) (Nat.le_refl _) (Nat.le_refl _) hsz (by rw [hsz, ← hmc]; omega) rfl hms.symm
    obtain ⟨t, a1, b1, b2, b3, ⟨L, b4, b5⟩, b6, b7⟩ := K s₁ hh0 (Stand.of_body B)
    exact ⟨t, _, a1, b1, b2, ⟨rfl, b6, b7⟩, L, ⟨⟨_, rfl⟩, b3, b4⟩, b5⟩
end Met
theorem mLnk_spec {o idx N kind w1 w2 w3 w4 w5 : Nat} (h : (o, idx, N, kind, w1, w2, w3, w4, w5) ∈ mLnkT) :
    (if kind < 3 then Cond.methodLink (mNmOf o) idx (mName N) else .methodLinkNest (mNmOf o) idx (mName N) "MeshWalk") ∈ mTbl ∧ (if kind % 3 = 1 then Cond.static (mName N) else .instanceMethod (mName N)) ∈ mTbl ∧ (kind % 3 = 0 → Cond.selects (mName N).cls (mName N) (mName N) ∈ mTbl) ∧ Cond.initialized (mName N).cls ∈ mTbl ∧ ((mName N).cls ≠ "java/lang/invoke/MethodHandle" ∧ (mName N).cls ≠ "java/lang/invoke/VarHandle") ∧ (parseMethodDescriptor (mName N).desc).map (fun d => d.parameters.length) = some (mAr N) ∧ mNmOf (mOwn N) = (mName N).cls ∧ plainFor (mName N) = true ∧ (kind % 3 = 2 → (mName N).name = "<init>" ∧ mRet N = none) := by
  have hk := List.all_eq_true.mp mLnkT_ok _ h
  simp only [mLnkOK, Bool.and_eq_true, decide_eq_true_eq] at hk
  obtain ⟨h1, h2, h3, h4, h5, h6, h7, h8, h9⟩ := hk
  refine ⟨mIs.mem h1, mIs.mem h2, fun hz => ?_, mIs.mem h4, h5, h6, h7, h8, fun hz => ?_⟩
  · rw [if_pos hz] at h3; exact mIs.mem h3
  · rw [if_pos hz] at h9; exact of_decide_eq_true h9
section Calls
variable {p : Program} {l : Launch} {e : Env} {R : Room} {s : State} {m : MethodId} {args : Array Value} {below : List Frame} {meth : Method} {c : Code} {H : Heap} {locs : List Loc} {cells slots : Nat} {Q : State → Prop}
variable {D : va_G} {n0 : Nat} {ex : Nat → Nat} {dA : FieldType → ClassId} {S : mE} {M pc : Nat} {la : Array Slot} {st : List Value} {h : mHp}
theorem m_back {mc ms : Nat} {st0 rest : List Value} {v : Option Value} {h' : mHp} {a : Array Value} (hr : va_Run p l e R s m args below meth c H locs cells slots mc ms (F0 m pc la st0) rest (mQc D n0 ex dA v h' a) (mA n0)) (hS : va_S (mA n0) s.heap H locs)
    (kk : ∀ (H1 : Heap) (locs1 : List Loc), va_P D mcl (mws n0 ex dA h' 0) H1 → va_S (mA n0) s.heap H1 locs1 → W p l e R s m args below meth c H1 locs1 (cells + mc) (slots + ms) Q (F0 m (pc + 3) la ((v.map (cv n0 ex)).toList ++ rest))) : W p l e R s m args below meth c H locs cells slots Q (F0 m pc la st0) := by
  intro T hT X
  obtain ⟨v1, st₀, t, T', L, h0, X', hL, e1, e2, ⟨hv, hp, hz, hk⟩, stp⟩ := hr T hT X
  cases hv
  rw [h0] at hz hk
  obtain ⟨t2, a1, b1⟩ := kk T'.heap (locs ++ L) (by rw [e1]; exact hp)
    ⟨Nat.le_trans hS.1 (by rw [e1]; exact hz), fun q h1 h2 => by rw [e1, hk q (Nat.lt_of_lt_of_le h1 hS.1) h2]; exact hS.2.1 q h1 h2, fun q hq => by
      rcases List.mem_append.mp hq with hq | hq
      · exact hS.2.2 q hq
      · exact hL q hq⟩ T' rfl X'
  exact ⟨t2, stp t2 a1, b1⟩
theorem m_cats (st : List Value) (hc : mcats st ≤ 8) : 2 * (F0 m pc la []).monitorRoom + ((st.map (cv n0 ex)).map fun v => v.category).sum ≤ 8 := by
  show 2 * 0 + _ ≤ 8
  have := mcats_map n0 ex st
  unfold mcats at this
  rw [this]
  unfold mcats at hc
  omega
theorem m_lenn {N n : Nat} (h : (parseMethodDescriptor (mName N).desc).map (fun d => d.parameters.length) = some n) : ∀ sig, parseMethodDescriptor (mName N).desc = some sig → n = sig.parameters.length := by
  intro sig hs
  rw [hs] at h
  exact (Option.some.inj h).symm
theorem m_size (hP : va_P D mcl (mws n0 ex dA h 0) H) (hS : va_S (mA n0) s.heap H locs) (h1 : s.heap.size + cells = n0 + h.length) (h0 : n0 ≤ s.heap.size) (hz : H.size ≤ s.heap.size + cells) : H.size = n0 + h.length := by
  by_cases hl : h.length = 0
  · have := hS.1; omega
  · have hg : (mws n0 ex dA h 0)[h.length - 1]? = some (n0 + (0 + (h.length - 1)), mce n0 ex dA h[h.length - 1]) := by
      rw [mws_get, List.getElem?_eq_getElem (by omega)]
      rfl
    have := (hP _ _ hg).lt
    simp only at this
    omega
set_option maxHeartbeats 4000000 in
theorem ms_rv {Qc : Array Value → State → Outcome → State → Prop} {free : Addr → Prop} (F : mFix M p s m meth c) (X : mCx D n0 ex dA S s) (hP : va_P D mcl (mws n0 ex dA h 0) H) (hS : va_S (mA n0) s.heap H locs) (hla : la.size = mMaxL M) (hRf : mFr M ≤ R.frames) (hRl : mLo M ≤ R.locals) {idx N kind w1 w2 w3 w4 w5 a ci : Nat} {fs As st0 : List Value} {mc ms : Nat}
    (hd : decode (mCode M) pc = .ok ((if kind % 3 = 2 then .invokespecial idx else .invokevirtual idx), 3)) (hf : (mOwn M, idx, N, kind, w1, w2, w3, w4, w5) ∈ mLnkT) (hkd : kind % 3 = 2 ∨ kind % 3 = 0) (hrm : mroom M N st) (hst : st0 = As.reverse ++ .ref a :: st) (har : As.length = mAr N) (hcw : mcats (.ref a :: As) ≤ mMaxL N) (hg : mget h a = some (.inr (ci, fs))) (hci : mOwn N = ci)
    (hM : Met l (mName N) [Cond.code (mName N) (mCode N) (mMaxL N) (mRet N)] ({ frames := mFr N, cells := mc, slots := ms, locals := mLo N }) (mPc D n0 ex dA S h (.ref a :: As)) Qc mc ms free) (hHs : H.size = n0 + h.length) (hRc : cells + mc ≤ R.cells) (hRs : slots + ms ≤ R.slots) :
    va_Run p l e R s m args below meth c H locs cells slots mc ms (F0 m pc la (st0.map (cv n0 ex))) (st.map (cv n0 ex)) (Qc ((.ref a :: As).map (cv n0 ex)).toArray) free := by
  obtain ⟨hr1, hr2, hr3, hr4, hr5⟩ := hrm
  obtain ⟨g1, g2, g3, g4, g5, g6, g7, g8, g9⟩ := mLnk_spec hf
  have hcodew : Cond.code (mName N) (mCode N) (mMaxL N) (mRet N) ∈ mTbl := by
    have := hr5
    unfold mCw at this
    rw [if_pos hr4] at this
    exact this
  have hws : ∀ w ∈ [Cond.code (mName N) (mCode N) (mMaxL N) (mRet N)], ∀ (a' : Array Value) (U : State), s.WarmedH U.vm → w.before a' U = true := fun w hw a' U hW => mTb_warm hW X.2.2.2.2.1 w (by rw [List.mem_singleton.mp hw]; exact hcodew)
  have hpre : ∀ U : State, U.heap = H → s.WarmedH U.vm → mPc D n0 ex dA S h (.ref a :: As) (Value.ref (sg n0 ex a) :: As.map (cv n0 ex)).toArray U := fun U hU hW => ⟨rfl, mCx_moved X hS hU hW, by rw [hU]; exact hP, by rw [hU]; exact hHs⟩
  have hstk : st0.map (cv n0 ex) = (As.map (cv n0 ex)).reverse ++ .ref (sg n0 ex a) :: st.map (cv n0 ex) := by
    rw [hst]; simp [cv]
  have hln : (As.map (cv n0 ex)).length = mAr N := by rw [List.length_map]; exact har
  have hlz : la.size = mMaxL M := hla
  rcases hkd with hkd | hkd
  · -- a constructor
    rw [if_pos hkd] at hd
    obtain ⟨n1, n2⟩ := g9 hkd
    rw [n2] at hcodew hM hws
    rw [if_neg (by omega)] at g2
    by_cases hk3 : kind < 3
    · rw [if_pos hk3] at g1
      exact va_runI (Ts := mTbl) (own := mNmOf (mOwn M)) (index := idx) (n := mAr N) (bytes := mCode N) (maxL := mMaxL N) (As := As.map (cv n0 ex)) (b := sg n0 ex a) (rest := st.map (cv n0 ex)) ⟨F.1, F.2.1, F.2.2.2.1, F.2.2.2.2.2.2.1, fun w hw => mTb_use X.2.2.2.2.1 hw⟩ hM ⟨⟨rfl, rfl, Nat.le_trans hr1 hRf, Nat.le_trans hr2 hRl, hws, List.mem_cons_self, mTb_use X.2.2.2.2.1 hcodew, mTb_use X.2.2.2.2.1 g4, g5, m_lenn g6, mTb_use X.2.2.2.2.1 g1⟩, n1, mTb_use X.2.2.2.2.1 g2⟩ ⟨mPc_blind, hpre⟩ rfl hln hlz hstk (m_cats (m := m) (pc := pc) (la := la) st hr3) hd ⟨hRc, hRs⟩
    · rw [if_neg hk3] at g1
      exact va_runIN (Ts := mTbl) (own := mNmOf (mOwn M)) (index := idx) (n := mAr N) (bytes := mCode N) (maxL := mMaxL N) (host := "MeshWalk") (As := As.map (cv n0 ex)) (b := sg n0 ex a) (rest := st.map (cv n0 ex)) ⟨F.1, F.2.1, F.2.2.2.1, F.2.2.2.2.2.2.1, fun w hw => mTb_use X.2.2.2.2.1 hw⟩ hM ⟨⟨⟨rfl, rfl, Nat.le_trans hr1 hRf, Nat.le_trans hr2 hRl, hws, List.mem_cons_self⟩, mTb_use X.2.2.2.2.1 hcodew, mTb_use X.2.2.2.2.1 g4, g5, m_lenn g6, mTb_use X.2.2.2.2.1 g1⟩, n1, mTb_use X.2.2.2.2.1 g2⟩ ⟨mPc_blind, hpre⟩ rfl hln hlz hstk (m_cats (m := m) (pc := pc) (la := la) st hr3) hd ⟨hRc, hRs⟩
  · -- a method
    rw [if_neg (by omega)] at hd
    rw [if_neg (by omega)] at g2
    have g3' := g3 hkd
    have hrecv : ∃ cellB : Cell, H[sg n0 ex a]? = some cellB ∧ cellB.vm.isStatics = false ∧ s.vm.findClass (mName N).cls = some cellB.cls := by
      have hlt : ∃ q : vw_C, mcl[ci]? = some q := by
        obtain ⟨r, hr, -⟩ := hP _ _ (mws_at hg)
        exact ⟨r, hr⟩
      obtain ⟨⟨C, T, NN⟩, hc⟩ := hlt
      have := va_recv X.1 hP hc (mws_at hg)
      have hC : C = (mName N).cls := by rw [← g7, hci]; exact (mcl_nm hc).symm
      rw [← hC]
      exact this
    by_cases hk3 : kind < 3
    · rw [if_pos hk3] at g1
      exact va_runV (Ts := mTbl) (own := mNmOf (mOwn M)) (index := idx) (n := mAr N) (bytes := mCode N) (maxL := mMaxL N) (C := (mName N).cls) (As := As.map (cv n0 ex)) (b := sg n0 ex a) (rest := st.map (cv n0 ex)) ⟨F.1, F.2.1, F.2.2.2.1, F.2.2.2.2.2.2.1, fun w hw => mTb_use X.2.2.2.2.1 hw⟩ hM ⟨⟨rfl, rfl, Nat.le_trans hr1 hRf, Nat.le_trans hr2 hRl, hws, List.mem_cons_self, mTb_use X.2.2.2.2.1 hcodew, mTb_use X.2.2.2.2.1 g4, g5, m_lenn g6, mTb_use X.2.2.2.2.1 g1⟩, mTb_use X.2.2.2.2.1 g2, mTb_use X.2.2.2.2.1 g3'⟩ ⟨mPc_blind, hrecv, hpre⟩ rfl hln hlz hstk (m_cats (m := m) (pc := pc) (la := la) st hr3) hd ⟨hRc, hRs⟩
    · rw [if_neg hk3] at g1
      exact va_runVN (Ts := mTbl) (own := mNmOf (mOwn M)) (index := idx) (n := mAr N) (bytes := mCode N) (maxL := mMaxL N) (C := (mName N).cls) (host := "MeshWalk") (As := As.map (cv n0 ex)) (b := sg n0 ex a) (rest := st.map (cv n0 ex)) ⟨F.1, F.2.1, F.2.2.2.1, F.2.2.2.2.2.2.1, fun w hw => mTb_use X.2.2.2.2.1 hw⟩ hM ⟨⟨⟨rfl, rfl, Nat.le_trans hr1 hRf, Nat.le_trans hr2 hRl, hws, List.mem_cons_self⟩, mTb_use X.2.2.2.2.1 hcodew, mTb_use X.2.2.2.2.1 g4, g5, m_lenn g6, mTb_use X.2.2.2.2.1 g1⟩, mTb_use X.2.2.2.2.1 g2, mTb_use X.2.2.2.2.1 g3'⟩ ⟨mPc_blind, hrecv, hpre⟩ rfl hln hlz hstk (m_cats (m := m) (pc := pc) (la := la) st hr3) hd ⟨hRc, hRs⟩
theorem ms_cv (F : mFix M p s m meth c) (X : mCx D n0 ex dA S s) (hP : va_P D mcl (mws n0 ex dA h 0) H) (hS : va_S (mA n0) s.heap H locs) (hla : la.size = mMaxL M) (hRf : mFr M ≤ R.frames) (hRl : mLo M ≤ R.locals) {h' : mHp} {idx N kind w1 w2 w3 w4 w5 a ci : Nat} {fs As st0 : List Value} {v : Option Value} {mc ms : Nat}
    (hd : decode (mCode M) pc = .ok ((if kind % 3 = 2 then .invokespecial idx else .invokevirtual idx), 3)) (hf : (mOwn M, idx, N, kind, w1, w2, w3, w4, w5) ∈ mLnkT) (hkd : kind % 3 = 2 ∨ kind % 3 = 0) (hrm : mroom M N st) (hst : st0 = As.reverse ++ .ref a :: st) (har : As.length = mAr N) (hcw : mcats (.ref a :: As) ≤ mMaxL N) (hg : mget h a = some (.inr (ci, fs))) (hci : mOwn N = ci)
    (hk : mSem l D n0 ex dA S N (0, lv_args 0 (.ref a :: As), [], h) (.inl v, h')) (hsz : s.heap.size + cells = n0 + h.length) (hmc : h.length + mc = h'.length) (hms : msl h + ms = msl h') (hRc : cells + mc ≤ R.cells) (hRs : slots + ms ≤ R.slots)
    (kk : ∀ (H1 : Heap) (locs1 : List Loc), va_P D mcl (mws n0 ex dA h' 0) H1 → va_S (mA n0) s.heap H1 locs1 → W p l e R s m args below meth c H1 locs1 (cells + mc) (slots + ms) Q (F0 m (pc + 3) la ((v.toList ++ st).map (cv n0 ex)))) : W p l e R s m args below meth c H locs cells slots Q (F0 m pc la (st0.map (cv n0 ex))) := by
  refine W.sz (fun hz => ?_)
  have hHs : H.size = n0 + h.length := m_size hP hS hsz X.2.2.2.1 hz
  obtain ⟨g1, g2, g3, g4, g5, g6, g7, g8, g9⟩ := mLnk_spec hf
  have hM := m_met (l := l) (mc := mc) (ms := ms) hk g8 g7 hrm.2.2.2.1 hcw hmc hms
  exact m_back (v := v) (h' := h') (ms_rv F X hP hS hla hRf hRl hd hf hkd hrm hst har hcw hg hci hM hHs hRc hRs) hS (fun H1 locs1 a1 a2 => by
    have := kk H1 locs1 a1 a2
    cases v <;> simpa using this)
set_option maxHeartbeats 4000000 in
theorem ms_rs {Qc : Array Value → State → Outcome → State → Prop} {free : Addr → Prop} (F : mFix M p s m meth c) (X : mCx D n0 ex dA S s) (hP : va_P D mcl (mws n0 ex dA h 0) H) (hS : va_S (mA n0) s.heap H locs) (hla : la.size = mMaxL M) (hRf : mFr M ≤ R.frames) (hRl : mLo M ≤ R.locals) {idx N kind w1 w2 w3 w4 w5 : Nat} {As st0 : List Value} {mc ms : Nat}
    (hd : decode (mCode M) pc = .ok (.invokestatic idx, 3)) (hf : (mOwn M, idx, N, kind, w1, w2, w3, w4, w5) ∈ mLnkT) (hkd : kind % 3 = 1) (hrm : mroom M N st) (hst : st0 = As.reverse ++ st) (har : As.length = mAr N) (hcw : mcats As ≤ mMaxL N)
    (hM : Met l (mName N) [Cond.code (mName N) (mCode N) (mMaxL N) (mRet N)] ({ frames := mFr N, cells := mc, slots := ms, locals := mLo N }) (mPc D n0 ex dA S h (As)) Qc mc ms free) (hHs : H.size = n0 + h.length) (hRc : cells + mc ≤ R.cells) (hRs : slots + ms ≤ R.slots) :
    va_Run p l e R s m args below meth c H locs cells slots mc ms (F0 m pc la (st0.map (cv n0 ex))) (st.map (cv n0 ex)) (Qc ((As).map (cv n0 ex)).toArray) free := by
  obtain ⟨hr1, hr2, hr3, hr4, hr5⟩ := hrm
  obtain ⟨g1, g2, g3, g4, g5, g6, g7, g8, g9⟩ := mLnk_spec hf
  have hcodew : Cond.code (mName N) (mCode N) (mMaxL N) (mRet N) ∈ mTbl := by
    have := hr5
    unfold mCw at this
    rw [if_pos hr4] at this
    exact this
  have hws : ∀ w ∈ [Cond.code (mName N) (mCode N) (mMaxL N) (mRet N)], ∀ (a' : Array Value) (U : State), s.WarmedH U.vm → w.before a' U = true := fun w hw a' U hW => mTb_warm hW X.2.2.2.2.1 w (by rw [List.mem_singleton.mp hw]; exact hcodew)
  have hpre : ∀ U : State, U.heap = H → s.WarmedH U.vm → mPc D n0 ex dA S h As (As.map (cv n0 ex)).toArray U := fun U hU hW => ⟨rfl, mCx_moved X hS hU hW, by rw [hU]; exact hP, by rw [hU]; exact hHs⟩
  have hstk : st0.map (cv n0 ex) = (As.map (cv n0 ex)).reverse ++ st.map (cv n0 ex) := by
    rw [hst]; simp
  have hln : (As.map (cv n0 ex)).length = mAr N := by rw [List.length_map]; exact har
  have hlz : la.size = mMaxL M := hla
  rw [if_pos hkd] at g2
  by_cases hk3 : kind < 3
  · rw [if_pos hk3] at g1
    exact va_runS (Ts := mTbl) (own := mNmOf (mOwn M)) (index := idx) (n := mAr N) (bytes := mCode N) (maxL := mMaxL N) (As := As.map (cv n0 ex)) (rest := st.map (cv n0 ex)) ⟨F.1, F.2.1, F.2.2.2.1, F.2.2.2.2.2.2.1, fun w hw => mTb_use X.2.2.2.2.1 hw⟩ hM ⟨⟨rfl, rfl, Nat.le_trans hr1 hRf, Nat.le_trans hr2 hRl, hws, List.mem_cons_self, mTb_use X.2.2.2.2.1 hcodew, mTb_use X.2.2.2.2.1 g4, g5, m_lenn g6, mTb_use X.2.2.2.2.1 g1⟩, mTb_use X.2.2.2.2.1 g2⟩ ⟨mPc_blind, hpre⟩ rfl hln hlz hstk (m_cats (m := m) (pc := pc) (la := la) st hr3) hd ⟨hRc, hRs⟩
  · rw [if_neg hk3] at g1
    exact va_runSN (Ts := mTbl) (own := mNmOf (mOwn M)) (index := idx) (n := mAr N) (bytes := mCode N) (maxL := mMaxL N) (host := "MeshWalk") (As := As.map (cv n0 ex)) (rest := st.map (cv n0 ex)) ⟨F.1, F.2.1, F.2.2.2.1, F.2.2.2.2.2.2.1, fun w hw => mTb_use X.2.2.2.2.1 hw⟩ hM ⟨⟨⟨rfl, rfl, Nat.le_trans hr1 hRf, Nat.le_trans hr2 hRl, hws, List.mem_cons_self⟩, mTb_use X.2.2.2.2.1 hcodew, mTb_use X.2.2.2.2.1 g4, g5, m_lenn g6, mTb_use X.2.2.2.2.1 g1⟩, mTb_use X.2.2.2.2.1 g2, trivial⟩ ⟨mPc_blind, hpre⟩ rfl hln hlz hstk (m_cats (m := m) (pc := pc) (la := la) st hr3) hd ⟨hRc, hRs⟩
theorem ms_cs (F : mFix M p s m meth c) (X : mCx D n0 ex dA S s) (hP : va_P D mcl (mws n0 ex dA h 0) H) (hS : va_S (mA n0) s.heap H locs) (hla : la.size = mMaxL M) (hRf : mFr M ≤ R.frames) (hRl : mLo M ≤ R.locals) {h' : mHp} {idx N kind w1 w2 w3 w4 w5 : Nat} {As st0 : List Value} {v : Option Value} {mc ms : Nat}
    (hd : decode (mCode M) pc = .ok (.invokestatic idx, 3)) (hf : (mOwn M, idx, N, kind, w1, w2, w3, w4, w5) ∈ mLnkT) (hkd : kind % 3 = 1) (hrm : mroom M N st) (hst : st0 = As.reverse ++ st) (har : As.length = mAr N) (hcw : mcats As ≤ mMaxL N)
    (hk : mSem l D n0 ex dA S N (0, lv_args 0 As, [], h) (.inl v, h')) (hsz : s.heap.size + cells = n0 + h.length) (hmc : h.length + mc = h'.length) (hms : msl h + ms = msl h') (hRc : cells + mc ≤ R.cells) (hRs : slots + ms ≤ R.slots)
    (kk : ∀ (H1 : Heap) (locs1 : List Loc), va_P D mcl (mws n0 ex dA h' 0) H1 → va_S (mA n0) s.heap H1 locs1 → W p l e R s m args below meth c H1 locs1 (cells + mc) (slots + ms) Q (F0 m (pc + 3) la ((v.toList ++ st).map (cv n0 ex)))) : W p l e R s m args below meth c H locs cells slots Q (F0 m pc la (st0.map (cv n0 ex))) := by
  refine W.sz (fun hz => ?_)
  have hHs : H.size = n0 + h.length := m_size hP hS hsz X.2.2.2.1 hz
  obtain ⟨g1, g2, g3, g4, g5, g6, g7, g8, g9⟩ := mLnk_spec hf
  have hM := m_met (l := l) (mc := mc) (ms := ms) hk g8 g7 hrm.2.2.2.1 hcw hmc hms
  exact m_back (v := v) (h' := h') (ms_rs F X hP hS hla hRf hRl hd hf hkd hrm hst har hcw hM hHs hRc hRs) hS (fun H1 locs1 a1 a2 => by
    have := kk H1 locs1 a1 a2
    cases v <;> simpa using this)
end Calls
end
section
section Closed
variable {l : Launch} {D : va_G} {n0 : Nat} {ex : Nat → Nat} {dA : FieldType → ClassId} {S : mE}
/-- a step that leaves the heap -/
theorem mSem_step {M pc pc' : Nat} {ls ls' : mL} {st st' : List Value} {h : mHp} {r : mR} (k : mSem l D n0 ex dA S M (pc', ls', st', h) r)
    (hs : ∀ (p : Program) (e : Env) (R : Room) (s : State) (m : MethodId) (args : Array Value) (below : List Frame) (meth : Method) (c : Code) (H : Heap) (locs : List Loc) (la : Array Slot) (cells slots : Nat) (Q : State → Prop), mFix M p s m meth c → mCx D n0 ex dA S s → va_P D mcl (mws n0 ex dA h 0) H → va_S (mA n0) s.heap H locs → lv_has la (mMaxL M) (ls.map (cvp n0 ex)) → mFr M ≤ R.frames → mLo M ≤ R.locals →
      (∀ la' : Array Slot, lv_has la' (mMaxL M) (ls'.map (cvp n0 ex)) → W p l e R s m args below meth c H locs cells slots Q (F0 m pc' la' (st'.map (cv n0 ex)))) → W p l e R s m args below meth c H locs cells slots Q (F0 m pc la (st.map (cv n0 ex)))) : mSem l D n0 ex dA S M (pc, ls, st, h) r := by
  refine ⟨k.1, k.2.1, fun p e R s m args below meth c H locs la cells slots mc ms sl0 F X hP hS hl hRf hRl hRc hRs h1 h2 h3 h4 => ?_⟩
  exact hs p e R s m args below meth c H locs la cells slots _ F X hP hS hl hRf hRl (fun la' hl' => k.2.2 p e R s m args below meth c H locs la' cells slots mc ms sl0 F X hP hS hl' hRf hRl hRc hRs h1 h2 h3 h4)
/-- a step that writes one cell -/
theorem mSem_write {M pc pc' : Nat} {ls : mL} {st st' : List Value} {h h1 : mHp} {r : mR} (k : mSem l D n0 ex dA S M (pc', ls, st', h1) r) (hlen : h1.length = h.length) (hsl : msl h1 = msl h)
    (hs : ∀ (p : Program) (e : Env) (R : Room) (s : State) (m : MethodId) (args : Array Value) (below : List Frame) (meth : Method) (c : Code) (H : Heap) (locs : List Loc) (la : Array Slot) (cells slots : Nat) (Q : State → Prop), mFix M p s m meth c → mCx D n0 ex dA S s → va_P D mcl (mws n0 ex dA h 0) H → va_S (mA n0) s.heap H locs → 
      (∀ (H1 : Heap) (locs1 : List Loc), va_P D mcl (mws n0 ex dA h1 0) H1 → va_S (mA n0) s.heap H1 locs1 → W p l e R s m args below meth c H1 locs1 cells slots Q (F0 m pc' la (st'.map (cv n0 ex)))) → W p l e R s m args below meth c H locs cells slots Q (F0 m pc la (st.map (cv n0 ex)))) : mSem l D n0 ex dA S M (pc, ls, st, h) r := by
  have k1 : h1.length ≤ r.2.length := k.1
  have k2 : msl h1 ≤ msl r.2 := k.2.1
  refine ⟨by rw [hlen] at k1; exact k1, by rw [hsl] at k2; exact k2, fun p e R s m args below meth c H locs la cells slots mc ms sl0 F X hP hS hl hRf hRl hRc hRs g1 g2 g3 g4 => ?_⟩
  exact hs p e R s m args below meth c H locs la cells slots _ F X hP hS (fun H1 locs1 hP1 hS1 => k.2.2 p e R s m args below meth c H1 locs1 la cells slots mc ms sl0 F X hP1 hS1 hl hRf hRl hRc hRs (by show _ = n0 + h1.length; rw [hlen]; exact g1) g2 (by show msl h1 = _; rw [hsl]; exact g3) g4)
/-- a step that makes one cell -/
theorem mSem_make {M pc pc' : Nat} {ls : mL} {st st' : List Value} {h : mHp} {x : mC} {r : mR} (k : mSem l D n0 ex dA S M (pc', ls, st', h ++ [x]) r)
    (hs : ∀ (p : Program) (e : Env) (R : Room) (s : State) (m : MethodId) (args : Array Value) (below : List Frame) (meth : Method) (c : Code) (H : Heap) (locs : List Loc) (la : Array Slot) (cells slots : Nat) (Q : State → Prop), mFix M p s m meth c → mCx D n0 ex dA S s → va_P D mcl (mws n0 ex dA h 0) H → va_S (mA n0) s.heap H locs → s.heap.size + cells = n0 + h.length → cells + 1 ≤ R.cells → slots + mslot x ≤ R.slots →
      (∀ H1 : Heap, va_P D mcl (mws n0 ex dA (h ++ [x]) 0) H1 → va_S (mA n0) s.heap H1 locs → W p l e R s m args below meth c H1 locs (cells + 1) (slots + mslot x) Q (F0 m pc' la (st'.map (cv n0 ex)))) → W p l e R s m args below meth c H locs cells slots Q (F0 m pc la (st.map (cv n0 ex)))) : mSem l D n0 ex dA S M (pc, ls, st, h) r := by
  have k1 : (h ++ [x]).length ≤ r.2.length := k.1
  have k2 : msl (h ++ [x]) ≤ msl r.2 := k.2.1
  rw [msl_app] at k2
  rw [List.length_append, List.length_singleton] at k1
  refine ⟨by show h.length ≤ _; omega, by show msl h ≤ _; omega, fun p e R s m args below meth c H locs la cells slots mc ms sl0 F X hP hS hl hRf hRl hRc hRs g1 g2 g3 g4 => ?_⟩
  have g1' : s.heap.size + cells = n0 + h.length := g1
  have g3' : msl h = sl0 + slots := g3
  exact hs p e R s m args below meth c H locs la cells slots _ F X hP hS g1' (by omega) (by omega) (fun H1 hP1 hS1 => k.2.2 p e R s m args below meth c H1 locs la (cells + 1) (slots + mslot x) mc ms sl0 F X hP1 hS1 hl hRf hRl hRc hRs (by show _ = n0 + (h ++ [x]).length; rw [List.length_append, List.length_singleton]; omega) g2 (by show msl (h ++ [x]) = _; rw [msl_app]; omega) g4)
theorem mSem_ret {M pc : Nat} {ls : mL} {st : List Value} {h : mHp} {v : Option Value}
    (hs : ∀ (p : Program) (e : Env) (R : Room) (s : State) (m : MethodId) (args : Array Value) (below : List Frame) (meth : Method) (c : Code) (H : Heap) (locs : List Loc) (la : Array Slot) (cells slots : Nat), mFix M p s m meth c → va_P D mcl (mws n0 ex dA h 0) H → va_S (mA n0) s.heap H locs → W p l e R s m args below meth c H locs cells slots (MQ below (mQc D n0 ex dA v h) args s cells slots (mA n0)) (F0 m pc la (st.map (cv n0 ex)))) : mSem l D n0 ex dA S M (pc, ls, st, h) (.inl v, h) := by
  refine ⟨Nat.le_refl _, Nat.le_refl _, fun p e R s m args below meth c H locs la cells slots mc ms sl0 F X hP hS hl hRf hRl hRc hRs g1 g2 g3 g4 => ?_⟩
  have g1' : s.heap.size + cells = n0 + h.length := g1
  have g2' : s.heap.size + mc = n0 + h.length := g2
  have g3' : msl h = sl0 + slots := g3
  have g4' : msl h = sl0 + ms := g4
  have e1 : mc = cells := by omega
  have e2 : ms = slots := by omega
  subst e1; subst e2
  refine W.mono (fun t ht => ?_) (hs p e R s m args below meth c H locs la mc ms F hP hS)
  obtain ⟨o, a1, a2, ⟨rfl, a4, a5⟩, L, ⟨-, a6, a7⟩, a8⟩ := ht
  exact ⟨a1, a2, a6, ⟨L, a7, a8⟩, a4, a5⟩
theorem mSem_call {M N pc : Nat} {ls : mL} {st st0 vs : List Value} {h h' : mHp} {v : Option Value} {r : mR} (k0 : mSem l D n0 ex dA S N (0, lv_args 0 vs, [], h) (.inl v, h')) (k : mSem l D n0 ex dA S M (pc + 3, ls, v.toList ++ st, h') r)
    (hs : ∀ (p : Program) (e : Env) (R : Room) (s : State) (m : MethodId) (args : Array Value) (below : List Frame) (meth : Method) (c : Code) (H : Heap) (locs : List Loc) (la : Array Slot) (cells slots mc ms : Nat) (Q : State → Prop), mFix M p s m meth c → mCx D n0 ex dA S s → va_P D mcl (mws n0 ex dA h 0) H → va_S (mA n0) s.heap H locs → la.size = mMaxL M → mFr M ≤ R.frames → mLo M ≤ R.locals → s.heap.size + cells = n0 + h.length → h.length + mc = h'.length → msl h + ms = msl h' → cells + mc ≤ R.cells → slots + ms ≤ R.slots →
      (∀ (H1 : Heap) (locs1 : List Loc), va_P D mcl (mws n0 ex dA h' 0) H1 → va_S (mA n0) s.heap H1 locs1 → W p l e R s m args below meth c H1 locs1 (cells + mc) (slots + ms) Q (F0 m (pc + 3) la ((v.toList ++ st).map (cv n0 ex)))) → W p l e R s m args below meth c H locs cells slots Q (F0 m pc la (st0.map (cv n0 ex)))) : mSem l D n0 ex dA S M (pc, ls, st0, h) r := by
  have k1 : h'.length ≤ r.2.length := k.1
  have k2 : msl h' ≤ msl r.2 := k.2.1
  have k3 : h.length ≤ h'.length := k0.1
  have k4 : msl h ≤ msl h' := k0.2.1
  refine ⟨Nat.le_trans k3 k1, Nat.le_trans k4 k2, fun p e R s m args below meth c H locs la cells slots mc ms sl0 F X hP hS hl hRf hRl hRc hRs g1 g2 g3 g4 => ?_⟩
  have g1' : s.heap.size + cells = n0 + h.length := g1
  have g3' : msl h = sl0 + slots := g3
  exact hs p e R s m args below meth c H locs la cells slots (h'.length - h.length) (msl h' - msl h) _ F X hP hS hl.1 hRf hRl g1' (by omega) (by omega) (by omega) (by omega) (fun H1 locs1 hP1 hS1 => k.2.2 p e R s m args below meth c H1 locs1 la (cells + (h'.length - h.length)) (slots + (msl h' - msl h)) mc ms sl0 F X hP1 hS1 hl hRf hRl hRc hRs (by show _ = n0 + h'.length; omega) g2 (by show msl h' = _; omega) g4)
set_option maxHeartbeats 4000000 in
theorem mSem_closed : mClosed S (mSem l D n0 ex dA S) := by
  refine ⟨?_, ?_, ?_, ?_, ?_, ?_, ?_, ?_, ?_, ?_, ?_, ?_, ?_, ?_, ?_, ?_, ?_, ?_, ?_, ?_, ?_, ?_, ?_, ?_, ?_, ?_⟩
  · intro M pc ls st h r i len ls' st' hd hn hp k
    exact mSem_step k (fun p e R s m args below meth c H locs la cells slots Q F X hP hS hl _ _ kk => ms_pure F.1 F.2.1 hd hn hp hl kk)
  · intro M pc ls st h r i off st' tgt hd hp ht k
    exact mSem_step k (fun p e R s m args below meth c H locs la cells slots Q F X hP hS hl _ _ kk => ms_br F.1 F.2.1 hd hp ht (kk la hl))
  · intro M pc ls st h r i st' hd hnn hp k
    refine mSem_step k (fun p e R s m args below meth c H locs la cells slots Q F X hP hS hl _ _ kk => ms_nb (tg := fun off => ((pc : Int) + off).toNat) F.1 F.2.1 hd ?_ hp (kk la hl))
    intro off ho
    rcases ho with ⟨o, rfl⟩ | ⟨o, rfl⟩
    · have : 0 ≤ (pc : Int) + off := of_decide_eq_true hnn
      exact (Int.toNat_of_nonneg this).symm
    · have : 0 ≤ (pc : Int) + off := of_decide_eq_true hnn
      exact (Int.toNat_of_nonneg this).symm
  · intro M pc ls st h r dflt lo hi offs len x tgt hd ho ht k
    exact mSem_step k (fun p e R s m args below meth c H locs la cells slots Q F X hP hS hl _ _ kk => lv_tableOut F.1 F.2.1 hd ho ht (kk la hl))
  · intro M pc ls st h r dflt lo hi offs len x off tgt hd h1 h2 ho ht k
    exact mSem_step k (fun p e R s m args below meth c H locs la cells slots Q F X hP hS hl _ _ kk => lv_tableIn F.1 F.2.1 hd h1 h2 ho ht (kk la hl))
  · intro M pc ls st h r idx v w hd hf k
    exact mSem_step k (fun p e R s m args below meth c H locs la cells slots Q F X hP hS hl _ _ kk => lv_ldc F.1 F.2.1 F.2.2.2.2.2.2.1 (mTb_use X.2.2.2.2.1 (mCi_spec hf)) hd (kk la hl))
  · intro M pc ls st h r idx v w hd hf k
    exact mSem_step k (fun p e R s m args below meth c H locs la cells slots Q F X hP hS hl _ _ kk => lv_ldc2 F.1 F.2.1 F.2.2.2.2.2.2.1 (mTb_use X.2.2.2.2.1 (mCl_spec hf)) hd (kk la hl))
  · intro M pc ls st h r idx ci k w a fs v hd hf hg hv kq
    exact mSem_step kq (fun p e R s m args below meth c H locs la cells slots Q F X hP hS hl _ _ kk => ms_get F X hP hd hf hg hv (kk la hl))
  · intro M pc ls st h r idx ci k w a fs v hd hf hg hl hn hft hfin kq
    exact mSem_write kq (mput_len _ _ _) (mput_sl hg rfl) (fun p e R s m args below meth c H locs la cells slots Q F X hP hS kk => ms_put F X hP hS hd hf hg hl hn hft hfin kk)
  · intro M pc ls st h r a n f i hd hg hin k
    exact mSem_step k (fun p e R s m args below meth c H locs la cells slots Q F X hP hS hl _ _ kk => ms_ild F X hP hd hg hin (kk la hl))
  · intro M pc ls st h r a n f i hd hg hin k
    exact mSem_step k (fun p e R s m args below meth c H locs la cells slots Q F X hP hS hl _ _ kk => ms_zld F X hP hd hg hin (kk la hl))
  · intro M pc ls st h r a n f i hd hg hin k
    exact mSem_step k (fun p e R s m args below meth c H locs la cells slots Q F X hP hS hl _ _ kk => ms_lld F X hP hd hg hin (kk la hl))
  · intro M pc ls st h r a n f i x hd hg hin k
    exact mSem_write k (mput_len _ _ _) (mput_sl hg rfl) (fun p e R s m args below meth c H locs la cells slots Q F X hP hS kk => ms_ist F X hP hS hd hg hin kk)
  · intro M pc ls st h r a n f i x hd hg hin k
    exact mSem_write k (mput_len _ _ _) (mput_sl hg rfl) (fun p e R s m args below meth c H locs la cells slots Q F X hP hS kk => ms_zst F X hP hS hd hg hin kk)
  · intro M pc ls st h r a n f i x hd hg hin k
    exact mSem_write k (mput_len _ _ _) (mput_sl hg rfl) (fun p e R s m args below meth c H locs la cells slots Q F X hP hS kk => ms_lst F X hP hS hd hg hin kk)
  · intro M pc ls st h r a ty x hd hg hty k
    exact mSem_step k (fun p e R s m args below meth c H locs la cells slots Q F X hP hS hl _ _ kk => ms_len F X hP hd hg hty (kk la hl))
  · intro M pc ls st h r i hd hin k
    exact mSem_step k (fun p e R s m args below meth c H locs la cells slots Q F X hP hS hl _ _ kk => ms_sld F X hS hd hin (kk la hl))
  · intro M pc ls st h r hd k
    exact mSem_step k (fun p e R s m args below meth c H locs la cells slots Q F X hP hS hl _ _ kk => ms_sln F X hS hd (kk la hl))
  · intro M pc ls st h r at_ ty n N hd hat hty hn hN hNb k
    have hms : mslot (.inl (ty, mzero ty N)) = N := by
      simp only [mslot, mzero]
      split <;> rfl
    refine mSem_make k (fun p e R s m args below meth c H locs la cells slots Q F X hP hS g1 g2 g3 kk => ?_)
    rw [hms] at g3 kk
    exact ms_newa F X hP hS hd hat hty hn hN hNb g1 g2 g3 kk
  · intro M pc ls st h r idx ci w1 w2 w3 hd hf k
    exact mSem_make k (fun p e R s m args below meth c H locs la cells slots Q F X hP hS g1 g2 g3 kk => ms_new F X hP hS hd hf g1 g2 g3 kk)
  · intro M pc ls h v ty hd hr hn
    exact mSem_ret (fun p e R s m args below meth c H locs la cells slots F hP hS => W.zret F.1 F.2.1 (F.2.2.1.trans hr) hn (fun t ht _ => ⟨rfl, by rw [ht]; exact hP, hS.F ht⟩) hS.2.2 hd F.2.2.2.2.1)
  · intro M pc ls h v hd hr
    exact mSem_ret (fun p e R s m args below meth c H locs la cells slots F hP hS => W.lret F.1 F.2.1 (F.2.2.1.trans hr) (fun t ht _ => ⟨rfl, by rw [ht]; exact hP, hS.F ht⟩) hS.2.2 hd F.2.2.2.2.1)
  · intro M pc ls h hd hr
    exact mSem_ret (fun p e R s m args below meth c H locs la cells slots F hP hS => W.vret F.1 F.2.1 (F.2.2.1.trans hr) (fun t ht _ => ⟨rfl, by rw [ht]; exact hP, hS.F ht⟩) hS.2.2 hd F.2.2.2.2.1)
  · intro M pc ls st h r idx w a hd hf h1 h2 k
    exact mSem_step k (fun p e R s m args below meth c H locs la cells slots Q F X hP hS hl hRf hRl kk => ms_obj F X hl.1 hd hf (Nat.le_trans h1 hRf) (Nat.le_trans h2 hRl) (kk la hl))
  · intro M pc ls st st0 h h' r idx N kind w1 w2 w3 w4 w5 a ci fs As v hd hf hkd hrm hst har hcw hg hci k0 k
    exact mSem_call k0 k (fun p e R s m args below meth c H locs la cells slots mc ms Q F X hP hS hla hRf hRl g1 g2 g3 g4 g5 kk => ms_cv F X hP hS hla hRf hRl hd hf hkd hrm hst har hcw hg hci k0 g1 g2 g3 g4 g5 kk)
  · intro M pc ls st st0 h h' r idx N kind w1 w2 w3 w4 w5 As v hd hf hkd hrm hst har hcw k0 k
    exact mSem_call k0 k (fun p e R s m args below meth c H locs la cells slots mc ms Q F X hP hS hla hRf hRl g1 g2 g3 g4 g5 kk => ms_cs F X hP hS hla hRf hRl hd hf hkd hrm hst har hcw k0 g1 g2 g3 g4 g5 kk)
theorem Runs.sem {M : Nat} {f : mF} {r : mR} (h : Runs S M f r) : mSem l D n0 ex dA S M f r := h _ mSem_closed
end Closed
end
section
/-! THROWS, 1: what makes an exception. The words that the library asks of it (Bundle.ownAtoms) hold; mSemP: a run that has written nothing yet, up to its return or its own 'throw new' -/
def mNames : List String := ["java/lang/RuntimeException", "java/lang/Exception"]
def mSt4 : List Cond := [.laysStatic "java/lang/Throwable" "UNASSIGNED_STACK" "[Ljava/lang/StackTraceElement;", .laysStatic "java/lang/Throwable" "SUPPRESSED_SENTINEL" "Ljava/util/List;", .isRef (.static "java/lang/Throwable" "UNASSIGNED_STACK" "[Ljava/lang/StackTraceElement;"), .isRef (.static "java/lang/Throwable" "SUPPRESSED_SENTINEL" "Ljava/util/List;")]
theorem m_st {n0 : Nat} {s : State} (h : mSt n0 s) : ∀ w ∈ mSt4, ∀ A : Array Value, w.before A s = true := by
  obtain ⟨c, k, i, f, a, cell, v, h1, h2, h3, h4, h5, h6, h7, h8, h9, h10, h11, h12⟩ := h ("UNASSIGNED_STACK", "[Ljava/lang/StackTraceElement;") (by simp [mStatT])
  obtain ⟨c', k', i', f', a', cell', v', g1, g2, g3, g4, g5, g6, g7, g8, g9, g10, g11, g12⟩ := h ("SUPPRESSED_SENTINEL", "Ljava/util/List;") (by simp [mStatT])
  intro w hw A
  simp only [mSt4, List.mem_cons, List.not_mem_nil, or_false] at hw
  dsimp only at h2 g2
  rcases hw with rfl | rfl | rfl | rfl
  · simp [Cond.before, Cond.holds, Cond.value, h1, h2, h3, h4, h6, h7, h8, h9, h10]
  · simp [Cond.before, Cond.holds, Cond.value, g1, g2, g3, g4, g6, g7, g8, g9, g10]
  · cases v <;> simp [Value.isRef] at h12 <;> simp [Cond.before, Cond.holds, Cond.value, Term.eval, State.fieldNamed?, h2, h3, h4, h6, h7, h11]
  · cases v' <;> simp [Value.isRef] at g12 <;> simp [Cond.before, Cond.holds, Cond.value, Term.eval, State.fieldNamed?, g2, g3, g4, g6, g7, g11]
theorem zip_mem {α β : Type} {l : List α} {m : List β} (hl : l.length = m.length) {w : α} (hw : w ∈ l) : ∃ o, (w, o) ∈ l.zip m := by
  induction l generalizing m with
  | nil => cases hw
  | cons x t ih =>
    cases m with
    | nil => cases hl
    | cons y u =>
      rcases List.mem_cons.mp hw with rfl | hw
      · exact ⟨y, List.mem_cons_self⟩
      · obtain ⟨o, ho⟩ := ih (by simpa using hl) hw
        exact ⟨o, List.mem_cons_of_mem _ ho⟩
def mAtOK (q : Cond × Option Nat) : Bool := match q.2 with
  | some i => mIs i q.1
  | none => decide (q.1 ∈ mSt4)
theorem mAt_of {l : List Cond} {xi : List (Option Nat)} (hl : l.length = xi.length) (h : (l.zip xi).all mAtOK = true) : ∀ w ∈ l, w ∈ mTbl ∨ w ∈ mSt4 := by
  intro w hw
  obtain ⟨o, ho⟩ := zip_mem hl hw
  have := List.all_eq_true.mp h _ ho
  cases o with
  | none => exact Or.inr (of_decide_eq_true this)
  | some i => exact Or.inl (mIs.mem this)
set_option maxRecDepth 20000 in
theorem mox10 : ∀ w ∈ Bundle.ownAtoms "MeshWalk" 146 "java/lang/IllegalArgumentException" mNames, w ∈ mTbl ∨ w ∈ mSt4 := mAt_of (xi := [some 69, some 393, some 402, some 406, some 409, some 411, some 394, some 395, some 82, some 83, some 396, some 401, some 407, some 427, some 383, some 428, some 385, some 429, some 387, some 397, none, some 399, none, some 389, some 423, some 424, some 426, some 389, some 414, some 415, some 416, some 417, some 375, some 417, some 418, some 419, some 420, some 377, some 420, some 421, some 422, some 423, some 379, some 413, some 372, some 373, some 380, some 381, some 382, some 384, some 386, some 388, none, none, some 392, some 391, some 390]) (by decide +kernel) (by decide +kernel)
theorem mfit10 : Bundle.fit "java/lang/IllegalArgumentException" = true := by decide +kernel
set_option maxRecDepth 20000 in
theorem mox11 : ∀ w ∈ Bundle.ownAtoms "MeshWalk" 62 "java/lang/IllegalStateException" mNames, w ∈ mTbl ∨ w ∈ mSt4 := mAt_of (xi := [some 69, some 393, some 402, some 406, some 409, some 411, some 394, some 395, some 82, some 83, some 396, some 401, some 407, some 427, some 383, some 428, some 385, some 429, some 387, some 397, none, some 399, none, some 389, some 423, some 424, some 426, some 389, some 450, some 451, some 452, some 417, some 375, some 417, some 418, some 419, some 420, some 377, some 420, some 421, some 422, some 423, some 379, some 449, some 440, some 441, some 442, some 404, some 443, some 444, some 445, some 446, none, none, some 392, some 391, some 447]) (by decide +kernel) (by decide +kernel)
theorem mfit11 : Bundle.fit "java/lang/IllegalStateException" = true := by decide +kernel
set_option maxRecDepth 20000 in
theorem mox12 : ∀ w ∈ Bundle.ownAtoms "MeshWalk" 178 "java/lang/IndexOutOfBoundsException" mNames, w ∈ mTbl ∨ w ∈ mSt4 := mAt_of (xi := [some 69, some 393, some 402, some 406, some 409, some 411, some 394, some 395, some 82, some 83, some 396, some 401, some 407, some 427, some 383, some 428, some 385, some 429, some 387, some 397, none, some 399, none, some 389, some 423, some 424, some 426, some 389, some 730, some 731, some 732, some 417, some 375, some 417, some 418, some 419, some 420, some 377, some 420, some 421, some 422, some 423, some 379, some 729, some 720, some 721, some 722, some 405, some 723, some 724, some 725, some 726, none, none, some 392, some 391, some 727]) (by decide +kernel) (by decide +kernel)
theorem mfit12 : Bundle.fit "java/lang/IndexOutOfBoundsException" = true := by decide +kernel
theorem mfitN : ∀ n ∈ mNames, Bundle.fit n = true := by decide +kernel
end
section
/-! THROWS, 2: runs that have written nothing, and the 'throw new' at their end -/
def mThrT : List (Nat × Nat × Nat × Nat × Nat) := [(58, 60, 62, 11, 2), (142, 144, 146, 10, 6), (142, 168, 146, 10, 1), (142, 170, 146, 10, 3), (142, 172, 146, 10, 4), (174, 176, 178, 12, 5)]
theorem mcl_10 : mcl[10]? = some ("java/lang/IllegalArgumentException", mT10, 0) := rfl
theorem mcl_11 : mcl[11]? = some ("java/lang/IllegalStateException", mT10, 0) := rfl
theorem mcl_12 : mcl[12]? = some ("java/lang/IndexOutOfBoundsException", mT10, 0) := rfl
theorem mxc_l10 : Cond.classLink "MeshWalk" 142 "java/lang/IllegalArgumentException" ∈ mTbl := mIs.mem (i := 371) (by decide +kernel)
theorem mxc_l11 : Cond.classLink "MeshWalk" 58 "java/lang/IllegalStateException" ∈ mTbl := mIs.mem (i := 439) (by decide +kernel)
theorem mxc_l12 : Cond.classLink "MeshWalk" 174 "java/lang/IndexOutOfBoundsException" ∈ mTbl := mIs.mem (i := 719) (by decide +kernel)
theorem mxc_i10 : Cond.instantiable "java/lang/IllegalArgumentException" 6 ∈ mTbl := mIs.mem (i := 372) (by decide +kernel)
theorem mxc_i11 : Cond.instantiable "java/lang/IllegalStateException" 6 ∈ mTbl := mIs.mem (i := 440) (by decide +kernel)
theorem mxc_i12 : Cond.instantiable "java/lang/IndexOutOfBoundsException" 6 ∈ mTbl := mIs.mem (i := 720) (by decide +kernel)
theorem mxc_n10 : Cond.initialized "java/lang/IllegalArgumentException" ∈ mTbl := mIs.mem (i := 72) (by decide +kernel)
theorem mxc_n11 : Cond.initialized "java/lang/IllegalStateException" ∈ mTbl := mIs.mem (i := 73) (by decide +kernel)
theorem mxc_n12 : Cond.initialized "java/lang/IndexOutOfBoundsException" ∈ mTbl := mIs.mem (i := 75) (by decide +kernel)
theorem mThr_spec {idx is ic ci q : Nat} (h : (idx, is, ic, ci, q) ∈ mThrT) : ∃ C tx, mcl[ci]? = some (C, mT10, 0) ∧ 10 ≤ ci ∧ Cond.classLink "MeshWalk" idx C ∈ mTbl ∧ Cond.instantiable C 6 ∈ mTbl ∧ Cond.initialized C ∈ mTbl ∧ (∀ w ∈ Bundle.ownAtoms "MeshWalk" ic C mNames, w ∈ mTbl ∨ w ∈ mSt4) ∧ Bundle.fit C = true ∧ (is, tx, q) ∈ mStrT := by
  simp only [mThrT, List.mem_cons, List.not_mem_nil, or_false] at h
  rcases h with h | h | h | h | h | h
  · cases h; exact ⟨_, "there are 40 points", mcl_11, by decide, mxc_l11, mxc_i11, mxc_n11, mox11, mfit11, by decide⟩
  · cases h; exact ⟨_, "no circle goes through points on one line", mcl_10, by decide, mxc_l10, mxc_i10, mxc_n10, mox10, mfit10, by decide⟩
  · cases h; exact ⟨_, "a coordinate is out of bounds", mcl_10, by decide, mxc_l10, mxc_i10, mxc_n10, mox10, mfit10, by decide⟩
  · cases h; exact ⟨_, "there is no such point", mcl_10, by decide, mxc_l10, mxc_i10, mxc_n10, mox10, mfit10, by decide⟩
  · cases h; exact ⟨_, "the points are the same", mcl_10, by decide, mxc_l10, mxc_i10, mxc_n10, mox10, mfit10, by decide⟩
  · cases h; exact ⟨_, "there is no such triangle, corner or edge", mcl_12, by decide, mxc_l12, mxc_i12, mxc_n12, mox12, mfit12, by decide⟩
def mc_thr (P : Nat → mF → mR → Prop) : Prop := ∀ (M pc : Nat) (ls : mL) (st : List Value) (h : mHp) (idx is ic ci q : Nat), decode (mCode M) pc = .ok (.new idx, 3) → decode (mCode M) (pc + 3) = .ok (.dup, 1) → decode (mCode M) (pc + 4) = .ok (.ldc is, 2) → decode (mCode M) (pc + 6) = .ok (.invokespecial ic, 3) → decode (mCode M) (pc + 9) = .ok (.athrow, 1) → mOwn M = 8 → (idx, is, ic, ci, q) ∈ mThrT → mHand M = [] → 6 ≤ mFr M → mcats st + 82 ≤ mLo M → P M (pc, ls, st, h) (.inr (h.length + 16), h ++ [.inr (ci, [])])
def mc_pv (P : Nat → mF → mR → Prop) : Prop := ∀ (M pc : Nat) (ls : mL) (st st0 : List Value) (h : mHp) (r : mR) (idx N kind w1 w2 w3 w4 w5 a ci : Nat) (fs As : List Value) (v : Option Value), decode (mCode M) pc = .ok ((if kind % 3 = 2 then .invokespecial idx else .invokevirtual idx), 3) → (mOwn M, idx, N, kind, w1, w2, w3, w4, w5) ∈ mLnkT → (kind % 3 = 2 ∨ kind % 3 = 0) → mroom M N st → st0 = As.reverse ++ .ref a :: st → As.length = mAr N → mcats (.ref a :: As) ≤ mMaxL N → mget h a = some (.inr (ci, fs)) → mOwn N = ci →
  P N (0, lv_args 0 (.ref a :: As), [], h) (.inl v, h) → P M (pc + 3, ls, v.toList ++ st, h) r → P M (pc, ls, st0, h) r
def mc_ps (P : Nat → mF → mR → Prop) : Prop := ∀ (M pc : Nat) (ls : mL) (st st0 : List Value) (h : mHp) (r : mR) (idx N kind w1 w2 w3 w4 w5 : Nat) (As : List Value) (v : Option Value), decode (mCode M) pc = .ok (.invokestatic idx, 3) → (mOwn M, idx, N, kind, w1, w2, w3, w4, w5) ∈ mLnkT → kind % 3 = 1 → mroom M N st → st0 = As.reverse ++ st → As.length = mAr N → mcats As ≤ mMaxL N →
  P N (0, lv_args 0 As, [], h) (.inl v, h) → P M (pc + 3, ls, v.toList ++ st, h) r → P M (pc, ls, st0, h) r
def mClosedP (P : Nat → mF → mR → Prop) : Prop := mc_pure P ∧ mc_br P ∧ mc_nb P ∧ mc_ci P ∧ mc_cl P ∧ mc_get P ∧ mc_ild P ∧ mc_zld P ∧ mc_lld P ∧ mc_len P ∧ mc_iret P ∧ mc_lret P ∧ mc_vret P ∧ mc_pv P ∧ mc_ps P ∧ mc_thr P
def RunsP (M : Nat) (f : mF) (r : mR) : Prop := ∀ P : Nat → mF → mR → Prop, mClosedP P → P M f r
def mQP (D : va_G) (n0 : Nat) (ex : Nat → Nat) (dA : FieldType → ClassId) (s : State) (below : List Frame) (mc ms : Nat) (r : mR) : State → Prop := fun t =>
  t.status = .running ∧ Ended t below (mOut n0 ex r.1) ∧ s.WarmedH t.vm ∧ s.sameButNew ({ t with vm := s.vm } : State) [] mc ms ∧ va_P D mcl (mws n0 ex dA r.2 0) t.heap
def mGoP (l : Launch) (D : va_G) (n0 : Nat) (ex : Nat → Nat) (dA : FieldType → ClassId) (S : mE) (M : Nat) (f : mF) (r : mR) : Prop :=
  ∀ (p : Program) (e : Env) (R : Room) (s : State) (m : MethodId) (args : Array Value) (below : List Frame) (meth : Method) (c : Code) (la : Array Slot) (mc ms : Nat),
    mFix M p s m meth c → mCx D n0 ex dA S s → va_P D mcl (mws n0 ex dA f.2.2.2 0) s.heap → lv_has la (mMaxL M) (f.2.1.map (cvp n0 ex)) → mFr M ≤ R.frames → mLo M ≤ R.locals → mc ≤ R.cells → ms ≤ R.slots → s.heap.size = n0 + f.2.2.2.length → s.heap.size + mc = n0 + r.2.length → msl f.2.2.2 + ms = msl r.2 →
    W p l e R s m args below meth c s.heap [] 0 0 (mQP D n0 ex dA s below mc ms r) (F0 m f.1 la (f.2.2.1.map (cv n0 ex)))
def mSemP (l : Launch) (D : va_G) (n0 : Nat) (ex : Nat → Nat) (dA : FieldType → ClassId) (S : mE) (M : Nat) (f : mF) (r : mR) : Prop := f.2.2.2.length ≤ r.2.length ∧ msl f.2.2.2 ≤ msl r.2 ∧ mGoP l D n0 ex dA S M f r
theorem same_heap {s t : State} {n : Nat} (h : s.sameButNew t [] 0 n) : t.heap = s.heap := by
  apply Array.ext_getElem?
  intro i
  cases hc : s.heap[i]? with
  | some c => exact h.old_cell hc
  | none =>
    have h1 : s.heap.size ≤ i := by simpa using hc
    have h2 : t.heap.size ≤ i := Nat.le_trans h.2.2.1 h1
    simpa using h2
section PSound
variable {l : Launch} {D : va_G} {n0 : Nat} {ex : Nat → Nat} {dA : FieldType → ClassId} {S : mE}
theorem mSemP_step {M pc pc' : Nat} {ls ls' : mL} {st st' : List Value} {h : mHp} {r : mR} (k : mSemP l D n0 ex dA S M (pc', ls', st', h) r)
    (hs : ∀ (p : Program) (e : Env) (R : Room) (s : State) (m : MethodId) (args : Array Value) (below : List Frame) (meth : Method) (c : Code) (la : Array Slot) (Q : State → Prop), mFix M p s m meth c → mCx D n0 ex dA S s → va_P D mcl (mws n0 ex dA h 0) s.heap → lv_has la (mMaxL M) (ls.map (cvp n0 ex)) → mFr M ≤ R.frames → mLo M ≤ R.locals → s.heap.size = n0 + h.length →
      (∀ la' : Array Slot, lv_has la' (mMaxL M) (ls'.map (cvp n0 ex)) → W p l e R s m args below meth c s.heap [] 0 0 Q (F0 m pc' la' (st'.map (cv n0 ex)))) → W p l e R s m args below meth c s.heap [] 0 0 Q (F0 m pc la (st.map (cv n0 ex)))) : mSemP l D n0 ex dA S M (pc, ls, st, h) r := by
  refine ⟨k.1, k.2.1, fun p e R s m args below meth c la mc ms F X hP hl hRf hRl hRc hRs h1 h2 h3 => ?_⟩
  exact hs p e R s m args below meth c la _ F X hP hl hRf hRl h1 (fun la' hl' => k.2.2 p e R s m args below meth c la' mc ms F X hP hl' hRf hRl hRc hRs h1 h2 h3)
theorem mSemP_ret {M pc : Nat} {ls : mL} {st : List Value} {h : mHp} {v : Option Value}
    (hs : ∀ (p : Program) (e : Env) (R : Room) (s : State) (m : MethodId) (args : Array Value) (below : List Frame) (meth : Method) (c : Code) (la : Array Slot), mFix M p s m meth c → W p l e R s m args below meth c s.heap [] 0 0 (MQ below (fun _ st o t => o = .returned (v.map (cv n0 ex)) ∧ t.heap = st.heap) args s 0 0 (fun _ => False)) (F0 m pc la (st.map (cv n0 ex)))) : mSemP l D n0 ex dA S M (pc, ls, st, h) (.inl v, h) := by
  refine ⟨Nat.le_refl _, Nat.le_refl _, fun p e R s m args below meth c la mc ms F X hP hl hRf hRl hRc hRs g1 g2 g3 => ?_⟩
  have g1' : s.heap.size = n0 + h.length := g1
  have g2' : s.heap.size + mc = n0 + h.length := g2
  have g3' : msl h + ms = msl h := g3
  have e1 : mc = 0 := by omega
  have e2 : ms = 0 := by omega
  subst e1; subst e2
  refine W.mono (fun t ht => ?_) (hs p e R s m args below meth c la F)
  obtain ⟨o, a1, a2, ⟨rfl, a4⟩, L, ⟨-, a6, a7⟩, a8⟩ := ht
  have hL : L = [] := by
    cases L with
    | nil => rfl
    | cons x t => exact absurd (a8 x List.mem_cons_self) (fun z => z)
  subst hL
  exact ⟨a1, a2, a6, a7, by rw [a4]; exact hP⟩
/-- a return that wrote nothing, as a contract -/
theorem m_metP {N : Nat} {vs : List Value} {h : mHp} {v : Option Value} (hk : mSemP l D n0 ex dA S N (0, lv_args 0 vs, [], h) (.inl v, h)) (hpl : plainFor (mName N) = true) (hnm : mNmOf (mOwn N) = (mName N).cls) (hhd : mHand N = []) (hw : mcats vs ≤ mMaxL N) :
    Met l (mName N) [Cond.code (mName N) (mCode N) (mMaxL N) (mRet N)] ({ frames := mFr N, cells := 0, slots := 0, locals := mLo N }) (mPc D n0 ex dA S h vs) (fun _ st o t => o = .returned (v.map (cv n0 ex)) ∧ t.heap = st.heap) 0 0 (fun _ => False) := by
  refine MetFree.of_bodySF (code := mCode N) (maxLocals := mMaxL N) (ret := mRet N) hpl ?_ ?_
  · intro args s m hh hn
    obtain ⟨meth, c, h1, h2, h3, h4, h5, h6, -, -⟩ := Cond.code_spec hn (atoms_spec (ws := [Cond.code (mName N) (mCode N) (mMaxL N) (mRet N)]) hh _ List.mem_cons_self)
    exact ⟨meth, c, h1, h2, h3, h4, h5, h6⟩
  · intro p e s m args below meth c s₁ B hml hP _
    obtain ⟨rfl, hX, hPw, hsz⟩ := hP
    have hcode := atoms_spec (ws := [Cond.code (mName N) (mCode N) (mMaxL N) (mRet N)]) B.pre _ List.mem_cons_self
    have hh0 : s₁.heap = s.heap := by rw [B.state]; rfl
    have hex : c.exceptionTable.toList.map (fun h => (h.startPc, h.endPc, h.handlerPc, h.catchType)) = mHand N := by
      have h0 : c.exceptionTable.size = 0 := by simpa [Array.isEmpty] using BodyLoose.noHandlers B hcode
      have h1 : c.exceptionTable.toList = [] := List.eq_nil_of_length_eq_zero (by simpa using h0)
      rw [h1, hhd]; rfl
    have F : mFix N p s m meth c := ⟨B.exec, B.bytes, B.returns, hml, B.notSynchronized, (name_of_methodNamed B.named B.method).1, by rw [hnm]; exact findClass_of_methodNamed B.named, hex⟩
    have hl := lv_entry (vs.map (cv n0 ex)) (n := mMaxL N) (by rw [mcats_sl, mcats_map]; exact hw)
    have K : W p l e ({ frames := mFr N, cells := 0, slots := 0, locals := mLo N } : Room) s m (vs.map (cv n0 ex)).toArray below meth c s.heap [] 0 0 (mQP D n0 ex dA s below 0 0 (.inl v, h)) (entryFrame m (vs.map (cv n0 ex)).toArray (mMaxL N)) := by
      rw [lg_entry_eq]
      exact hk.2.2 p e _ s m _ below meth c _ 0 0 F hX hPw (by rw [← lv_args_map]; exact hl) (Nat.le_refl _) (Nat.le_refl _) (Nat.le_refl _) (Nat.le_refl _) hsz hsz rfl
    obtain ⟨t, a1, b1, b2, b3, b4, b5⟩ := K s₁ hh0 (Stand.of_body B)
    exact ⟨t, _, a1, b1, b2, ⟨rfl, same_heap (t := ({ t with vm := s.vm } : State)) b4⟩, [], ⟨⟨_, rfl⟩, b3, b4⟩, fun q hq => by cases hq⟩
theorem m_backP {p : Program} {e : Env} {R : Room} {s : State} {m : MethodId} {args : Array Value} {below : List Frame} {meth : Method} {c : Code} {H : Heap} {pc : Nat} {la : Array Slot} {st0 rest : List Value} {v : Option Value} {a : Array Value} {Q : State → Prop} (hr : va_Run p l e R s m args below meth c H [] 0 0 0 0 (F0 m pc la st0) rest ((fun _ st o t => o = .returned (v.map (cv n0 ex)) ∧ t.heap = st.heap : Array Value → State → Outcome → State → Prop) a) (fun _ => False))
    (kk : W p l e R s m args below meth c H [] 0 0 Q (F0 m (pc + 3) la ((v.map (cv n0 ex)).toList ++ rest))) : W p l e R s m args below meth c H [] 0 0 Q (F0 m pc la st0) := by
  intro T hT X
  obtain ⟨v1, st₀, t, T', L, h0, X', hL, e1, e2, ⟨hv, hp⟩, stp⟩ := hr T hT X
  cases hv
  have hLn : L = [] := by
    cases L with
    | nil => rfl
    | cons x t => exact absurd (hL x List.mem_cons_self) (fun z => z)
  subst hLn
  obtain ⟨t2, a1, b1⟩ := kk T' (by rw [e1, hp]; exact h0) X'
  exact ⟨t2, stp t2 a1, b1⟩
set_option maxHeartbeats 4000000 in
theorem ms_thr (hfl : l.flags = pinnedFlags ++ [noTraceFlag]) {M pc : Nat} {ls : mL} {st : List Value} {h : mHp} {idx is ic ci q : Nat} (d0 : decode (mCode M) pc = .ok (.new idx, 3)) (d3 : decode (mCode M) (pc + 3) = .ok (.dup, 1)) (d4 : decode (mCode M) (pc + 4) = .ok (.ldc is, 2)) (d6 : decode (mCode M) (pc + 6) = .ok (.invokespecial ic, 3)) (d9 : decode (mCode M) (pc + 9) = .ok (.athrow, 1)) (hown : mOwn M = 8) (hf : (idx, is, ic, ci, q) ∈ mThrT) (hhd : mHand M = []) (hfr : 6 ≤ mFr M) (hlo : mcats st + 82 ≤ mLo M) :
    mSemP l D n0 ex dA S M (pc, ls, st, h) (.inr (h.length + 16), h ++ [.inr (ci, [])]) := by
  obtain ⟨C, tx, hcl, hci, w1, w2, w3, hat, hfit, hstr⟩ := mThr_spec hf
  have hms : mslot (.inr (ci, [])) = 6 := by simp only [mslot]; rw [if_neg (by omega)]
  refine ⟨by simp, by show msl h ≤ msl (h ++ [_]); rw [msl_app]; omega, fun p e R s m args below meth c la mc ms F X hP hl hRf hRl hRc hRs g1 g2 g3 => ?_⟩
  have g1' : s.heap.size = n0 + h.length := g1
  have g2' : s.heap.size + mc = n0 + (h ++ [(.inr (ci, []) : mC)]).length := g2
  have g3' : msl h + ms = msl (h ++ [.inr (ci, [])]) := g3
  rw [List.length_append, List.length_singleton] at g2'
  rw [msl_app, hms] at g3'
  have e1 : mc = 1 := by omega
  have e2 : ms = 6 := by omega
  subst e1; subst e2
  have hownS : s.vm.findClass "MeshWalk" = some m.cls := by
    have := F.2.2.2.2.2.2.1
    rw [hown] at this
    exact this
  have hK := X.1.1 ci _ hcl
  refine W.newcK F.1 F.2.1 hownS (mTb_use X.2.2.2.2.1 w1) (mTb_use X.2.2.2.2.1 w2) (mTb_use X.2.2.2.2.1 w3) rfl d0 (by omega) (by omega) hK.2.1 g1' (fun H' kC hkC q1 q2 q3 => ?_)
  refine W.eq (g2 := F0 m (pc + 3) la (.ref (n0 + h.length) :: st.map (cv n0 ex))) rfl ?_
  refine lv_dup F.1 F.2.1 d3 rfl ?_
  refine W.eq (g2 := F0 m (pc + 4) la (.ref (n0 + h.length) :: .ref (n0 + h.length) :: st.map (cv n0 ex))) rfl ?_
  refine va_ldcS F.1 F.2.1 hownS (X.2.2.2.2.2.2.1 _ hstr) d4 ?_
  intro T hT Xs
  have htr : e.platform.stackTraces = false := Launch.traces_off hfl Xs.admits
  have hatoms : ∀ a ∈ Bundle.ownAtoms "MeshWalk" ic C mNames, a.before args s = true := fun w hw => by
    rcases hat w hw with h | h
    · exact mTb_use X.2.2.2.2.1 h
    · exact m_st X.2.2.2.2.2.1 w h args
  have hexc : c.exceptionTable.toList = [] := by
    have := F.2.2.2.2.2.2.2
    rw [hhd] at this
    exact List.map_eq_nil_iff.mp this
  have hcat : ((st.map (cv n0 ex)).map fun v => v.category).sum = mcats st := mcats_map n0 ex st
  obtain ⟨U, st1, r1, r2, r3, r4, ce, hce, hoc⟩ := Xs.ctorThrowS F.1 htr hownS hfit mfitN hatoms (fun x hx => by cases hx) hK.2.1 hkC (a := n0 + h.length) (by rw [hT]; exact q1) (by omega) (msg := .ref (ex q)) rfl (g := F0 m (pc + 6) la (.ref (ex q) :: .ref (n0 + h.length) :: .ref (n0 + h.length) :: st.map (cv n0 ex))) rfl (hl.1.trans F.2.2.2.1.symm) rfl rfl (rest := st.map (cv n0 ex)) rfl (by rw [F.2.1]; exact d6) (by rw [F.2.1]; exact d9) (fun x hx => by rw [hexc] at hx; cases hx) (by show 2 + 3 < R.frames; omega) (by
      show 2 * 0 + (1 + ((st.map (cv n0 ex)).map fun v => v.category).sum) + (13 * (2 + 1) + 42) ≤ R.locals
      rw [hcat]; omega) F.2.2.2.2.1
  have e3 : sg n0 ex (h.length + 16) = n0 + h.length := by unfold sg; rw [if_neg (by omega), Nat.add_sub_cancel]
  refine ⟨U, st1, r1, by show Ended U below (.threw (sg n0 ex (h.length + 16))); rw [e3]; exact r2, r3, r4, ?_⟩
  show va_P D mcl (mws n0 ex dA (h ++ [.inr (ci, [])]) 0) U.heap
  rw [mws_app]
  refine va_P.app (hP.kept (fun k x hx => ?_)) (fun k x hx => ?_)
  · have hlt := (hP k x hx).lt
    have hs : s.heap[x.1]? = some s.heap[x.1] := Array.getElem?_eq_getElem hlt
    have := r4.old_cell hs
    rw [hs]
    exact this
  · have hz : k < 1 := (List.getElem?_eq_some_iff.mp hx).1
    rw [show k = 0 by omega] at hx
    cases hx
    refine ⟨_, hcl, ce, ?_, ?_, hoc.vm, fun j hj => absurd hj (Nat.not_lt_zero _)⟩
    · rw [Nat.zero_add]; exact hce
    · exact (Option.some.inj (hK.2.1.symm.trans hoc.cls)).symm
set_option maxHeartbeats 4000000 in
theorem mSemP_closed (hfl : l.flags = pinnedFlags ++ [noTraceFlag]) : mClosedP (mSemP l D n0 ex dA S) := by
  refine ⟨?_, ?_, ?_, ?_, ?_, ?_, ?_, ?_, ?_, ?_, ?_, ?_, ?_, ?_, ?_, ?_⟩
  · intro M pc ls st h r i len ls' st' hd hn hp k
    exact mSemP_step k (fun p e R s m args below meth c la Q F X hP hl _ _ _ kk => ms_pure F.1 F.2.1 hd hn hp hl kk)
  · intro M pc ls st h r i off st' tgt hd hp ht k
    exact mSemP_step k (fun p e R s m args below meth c la Q F X hP hl _ _ _ kk => ms_br F.1 F.2.1 hd hp ht (kk la hl))
  · intro M pc ls st h r i st' hd hnn hp k
    refine mSemP_step k (fun p e R s m args below meth c la Q F X hP hl _ _ _ kk => ms_nb (tg := fun off => ((pc : Int) + off).toNat) F.1 F.2.1 hd ?_ hp (kk la hl))
    intro off ho
    rcases ho with ⟨o, rfl⟩ | ⟨o, rfl⟩
    · have : 0 ≤ (pc : Int) + off := of_decide_eq_true hnn
      exact (Int.toNat_of_nonneg this).symm
    · have : 0 ≤ (pc : Int) + off := of_decide_eq_true hnn
      exact (Int.toNat_of_nonneg this).symm
  · intro M pc ls st h r idx v w hd hf k
    exact mSemP_step k (fun p e R s m args below meth c la Q F X hP hl _ _ _ kk => lv_ldc F.1 F.2.1 F.2.2.2.2.2.2.1 (mTb_use X.2.2.2.2.1 (mCi_spec hf)) hd (kk la hl))
  · intro M pc ls st h r idx v w hd hf k
    exact mSemP_step k (fun p e R s m args below meth c la Q F X hP hl _ _ _ kk => lv_ldc2 F.1 F.2.1 F.2.2.2.2.2.2.1 (mTb_use X.2.2.2.2.1 (mCl_spec hf)) hd (kk la hl))
  · intro M pc ls st h r idx ci k w a fs v hd hf hg hv kq
    exact mSemP_step kq (fun p e R s m args below meth c la Q F X hP hl _ _ _ kk => ms_get F X hP hd hf hg hv (kk la hl))
  · intro M pc ls st h r a n f i hd hg hin k
    exact mSemP_step k (fun p e R s m args below meth c la Q F X hP hl _ _ _ kk => ms_ild F X hP hd hg hin (kk la hl))
  · intro M pc ls st h r a n f i hd hg hin k
    exact mSemP_step k (fun p e R s m args below meth c la Q F X hP hl _ _ _ kk => ms_zld F X hP hd hg hin (kk la hl))
  · intro M pc ls st h r a n f i hd hg hin k
    exact mSemP_step k (fun p e R s m args below meth c la Q F X hP hl _ _ _ kk => ms_lld F X hP hd hg hin (kk la hl))
  · intro M pc ls st h r a ty x hd hg hty k
    exact mSemP_step k (fun p e R s m args below meth c la Q F X hP hl _ _ _ kk => ms_len F X hP hd hg hty (kk la hl))
  · intro M pc ls h v ty hd hr hn
    exact mSemP_ret (fun p e R s m args below meth c la F => W.zret F.1 F.2.1 (F.2.2.1.trans hr) hn (fun t ht _ => ⟨rfl, ht⟩) (fun q hq => by cases hq) hd F.2.2.2.2.1)
  · intro M pc ls h v hd hr
    exact mSemP_ret (fun p e R s m args below meth c la F => W.lret F.1 F.2.1 (F.2.2.1.trans hr) (fun t ht _ => ⟨rfl, ht⟩) (fun q hq => by cases hq) hd F.2.2.2.2.1)
  · intro M pc ls h hd hr
    exact mSemP_ret (fun p e R s m args below meth c la F => W.vret F.1 F.2.1 (F.2.2.1.trans hr) (fun t ht _ => ⟨rfl, ht⟩) (fun q hq => by cases hq) hd F.2.2.2.2.1)
  · intro M pc ls st st0 h r idx N kind w1 w2 w3 w4 w5 a ci fs As v hd hf hkd hrm hst har hcw hg hci k0 k
    obtain ⟨g1, g2, g3, g4, g5, g6, g7, g8, g9⟩ := mLnk_spec hf
    refine mSemP_step k (fun p e R s m args below meth c la Q F X hP hl hRf hRl hsz kk => ?_)
    refine m_backP (v := v) (a := #[]) (ms_rv (mc := 0) (ms := 0) F X hP va_S.rf hl.1 hRf hRl hd hf hkd hrm hst har hcw hg hci (m_metP k0 g8 g7 hrm.2.2.2.1 hcw) hsz (Nat.zero_le _) (Nat.zero_le _)) ?_
    have := kk la hl
    cases v <;> simpa using this
  · intro M pc ls st st0 h r idx N kind w1 w2 w3 w4 w5 As v hd hf hkd hrm hst har hcw k0 k
    obtain ⟨g1, g2, g3, g4, g5, g6, g7, g8, g9⟩ := mLnk_spec hf
    refine mSemP_step k (fun p e R s m args below meth c la Q F X hP hl hRf hRl hsz kk => ?_)
    refine m_backP (v := v) (a := #[]) (ms_rs (mc := 0) (ms := 0) F X hP va_S.rf hl.1 hRf hRl hd hf hkd hrm hst har hcw (m_metP k0 g8 g7 hrm.2.2.2.1 hcw) hsz (Nat.zero_le _) (Nat.zero_le _)) ?_
    have := kk la hl
    cases v <;> simpa using this
  · intro M pc ls st h idx is ic ci q d0 d3 d4 d6 d9 ho hf hhd hfr hlo
    exact ms_thr hfl d0 d3 d4 d6 d9 ho hf hhd hfr hlo
theorem RunsP.sem (hfl : l.flags = pinnedFlags ++ [noTraceFlag]) {M : Nat} {f : mF} {r : mR} (h : RunsP M f r) : mSemP l D n0 ex dA S M f r := h _ (mSemP_closed hfl)
end PSound
end
section
/-! THROWS, 3: entering a method by hand (also one that has handlers, also one that throws); the search for a handler where its class has not been looked up yet -/
theorem fh_cold {E : CtlPost} {e : Env} {d : Bool} {acts : List Action} {s : State} {f : JFrame} {a : Addr} {Q : Handler → Pre} {x : ExceptionTableEntry} {t : List ExceptionTableEntry} {c : ClassId} {vm' : Vm} {cell : Cell} (hx : covers x f.pc = true) (h0 : x.catchType ≠ 0) (hg : (resolveClass f.method.cls x.catchType).Gives e.toSetting s.vm (.ok c) vm') (hsz : vm'.classes.size ≤ s.vm.classes.size) (hcell : s.heap[a]? = some cell) (hobj : ∀ k, cell.vm ≠ .statics k) (hk : ∃ k, vm'.classes[cell.cls]? = some k) (hc : ∃ k, vm'.classes[c]? = some k) :
    wp (findHandler.go f a (x :: t)) Q E e d acts s ↔ if vm'.assignable cell.cls c = true then Q (.found x.handlerPc) d acts (s.setVm vm') else wp (findHandler.go f a t) Q E e d acts (s.setVm vm') := by
  simp only [covers] at hx
  obtain ⟨ha, ht⟩ := hg.op (op := VmOp.resolveClass f.method.cls x.catchType) rfl
  cases hfit : vm'.assignable cell.cls c <;>
    simp [findHandler.go, hx, h0, ha, ht, hsz, hcell, hobj, hk, hc, hfit, VmOp.dirties, VmOp.acts]
theorem st_catch {e : Env} {s : State} {a : Addr} {f : JFrame} {r : List Frame} {pc : Nat} {vm' : Vm} (hfind : ∀ (Q : Handler → Pre) (E : CtlPost) (d : Bool) (acts : List Action), wp (findHandler f a) Q E e d acts s ↔ Q (.found pc) d acts (s.setVm vm')) :
    (stepThrowing e s a (.java f :: r)).Is ((s.setVm vm').setFrames (.java { f with pc := pc, stack := [.ref a] } :: r)) [] := by
  simp only [stepThrowing, searchFrame, vmDo]
  generalize hr : Sem.go _ e false [] s = res
  obtain ⟨as, rfl, ha⟩ := Sem.eq_ok_of hr (a := Handler.found pc) (s' := s.setVm vm') (acts' := []) (by simp [hfind _ _ _ _])
  exact ⟨rfl, ha⟩
theorem st_caught {tb : Tables} {e : Env} {s target : State} {g : JFrame} {c : Code} {below : List Frame} {a : Addr} (h : At s g.method c below) {pc : Nat} {vm' : Vm} (hfind : ∀ (Q : Handler → Pre) (E : CtlPost) (d : Bool) (acts : List Action), wp (findHandler g a) Q E e d acts ((s.setTop g).pushFrame (.throwing a)) ↔ Q (.found pc) d acts (((s.setTop g).pushFrame (.throwing a)).setVm vm'))
    (hrest : Steps tb e below ((s.setVm vm').setTop { g with pc := pc, stack := [.ref a] }) target) : Steps tb e below ((s.setTop g).pushFrame (.throwing a)) target := by
  obtain ⟨hgo, hw⟩ := h.throwing a
  refine Steps.head hgo hw ?_
  rw [stepThread_throwing (frames_entered h.top _), (st_catch (s := (s.setTop g).pushFrame (.throwing a)) hfind).1]
  obtain ⟨g₀, hg⟩ := Option.isSome_iff_exists.mp h.top
  obtain ⟨r, hr⟩ := State.topJava?_eq_some.mp hg
  have hr' : (s.setVm vm').frames = .java g₀ :: r := hr
  rw [State.setTop_of_frames _ hr'] at hrest
  rw [State.pushFrame, State.setTop_of_frames _ hr, State.setFrames_setFrames, hr]
  show Steps tb e below (((s.setVm vm').setFrames (Frame.throwing a :: (s.setFrames (Frame.java g :: r)).frames)).setFrames (Frame.java { g with pc := pc, stack := [.ref a] } :: r)) target
  rw [State.setFrames_setFrames]
  exact hrest
theorem m_code {N : Nat} {A : Array Value} {s : State} (h : (mCw N).before A s = true) : ∃ mk meth c, s.methodNamed? (mName N) = some mk ∧ s.vm.method? mk = some meth ∧ meth.code = some c ∧ c.code = mCode N ∧ c.maxLocals = mMaxL N ∧ c.exceptionTable.toList.map (fun h => (h.startPc, h.endPc, h.handlerPc, h.catchType)) = mHand N ∧ meth.sig.returnType = mRet N ∧ meth.locks = false ∧ parseMethodDescriptor (mName N).desc = some meth.sig := by
  unfold mCw at h
  by_cases hh : mHand N = []
  · rw [if_pos hh] at h
    obtain ⟨mk, hnamed⟩ := Cond.code_named h
    obtain ⟨meth, c, h1, h2, h3, h4, h5, h6, h7, h8⟩ := Cond.code_spec hnamed h
    have h0 : c.exceptionTable.size = 0 := by simpa [Array.isEmpty] using h7
    have h9 : c.exceptionTable.toList = [] := List.eq_nil_of_length_eq_zero (by simpa using h0)
    exact ⟨mk, meth, c, hnamed, h1, h2, h3, h4, by rw [h9, hh]; rfl, h5, h6, h8⟩
  · rw [if_neg hh] at h
    obtain ⟨mk, meth, c, h1, h2, h3, h4, h5, h6, h7, h8, h9⟩ := Cond.codeWith_spec h
    exact ⟨mk, meth, c, h1, h2, h3, h4, h5, h6, h7, h8, h9⟩
/-- what a method does from its entry -/
def mEnt (l : Launch) (D : va_G) (n0 : Nat) (ex : Nat → Nat) (dA : FieldType → ClassId) (S : mE) (N : Nat) (vs : List Value) (h : mHp) (r : mR) : Prop := h.length ≤ r.2.length ∧ msl h ≤ msl r.2 ∧
  ∀ (p : Program) (e : Env) (s : State) (m : MethodId) (below : List Frame) (meth : Method) (c : Code) (mc ms : Nat), mFix N p s m meth c → mCx D n0 ex dA S s → va_P D mcl (mws n0 ex dA h 0) s.heap → s.heap.size = n0 + h.length → h.length + mc = r.2.length → msl h + ms = msl r.2 →
    W p l e ({ frames := mFr N, cells := mc, slots := ms, locals := mLo N } : Room) s m (vs.map (cv n0 ex)).toArray below meth c s.heap [] 0 0 (mQ D n0 ex dA s below mc ms r) (entryFrame m (vs.map (cv n0 ex)).toArray (mMaxL N))
section Ent
variable {l : Launch} {D : va_G} {n0 : Nat} {ex : Nat → Nat} {dA : FieldType → ClassId} {S : mE}
theorem mSem.ent {N : Nat} {vs : List Value} {h : mHp} {r : mR} (k : mSem l D n0 ex dA S N (0, lv_args 0 vs, [], h) r) (hw : mcats vs ≤ mMaxL N) : mEnt l D n0 ex dA S N vs h r := by
  refine ⟨k.1, k.2.1, fun p e s m below meth c mc ms F X hP hsz h1 h2 => ?_⟩
  have hl := lv_entry (vs.map (cv n0 ex)) (n := mMaxL N) (by rw [mcats_sl, mcats_map]; exact hw)
  rw [lg_entry_eq]
  exact k.2.2 p e _ s m _ below meth c s.heap [] _ 0 0 mc ms (msl h) F X hP va_S.rf (by rw [← lv_args_map]; exact hl) (Nat.le_refl _) (Nat.le_refl _) (Nat.le_refl _) (Nat.le_refl _) hsz (by rw [hsz, ← h1]; omega) rfl h2.symm
theorem mSemP.ent {N : Nat} {vs : List Value} {h : mHp} {r : mR} (k : mSemP l D n0 ex dA S N (0, lv_args 0 vs, [], h) r) (hw : mcats vs ≤ mMaxL N) : mEnt l D n0 ex dA S N vs h r := by
  refine ⟨k.1, k.2.1, fun p e s m below meth c mc ms F X hP hsz h1 h2 => ?_⟩
  have hl := lv_entry (vs.map (cv n0 ex)) (n := mMaxL N) (by rw [mcats_sl, mcats_map]; exact hw)
  rw [lg_entry_eq]
  refine W.mono (fun t ht => ?_) (k.2.2 p e _ s m _ below meth c _ mc ms F X hP (by rw [← lv_args_map]; exact hl) (Nat.le_refl _) (Nat.le_refl _) (Nat.le_refl _) (Nat.le_refl _) hsz (by rw [hsz, ← h1]; omega) h2)
  obtain ⟨a1, a2, a3, a4, a5⟩ := ht
  refine ⟨a1, a2, a3, ⟨[], a4, fun q hq => by cases hq⟩, a5, ?_⟩
  refine ⟨a4.2.1, fun q hq _ => ?_⟩
  have hs : s.heap[q]? = some s.heap[q] := Array.getElem?_eq_getElem hq
  rw [hs]
  exact a4.old_cell hs
set_option maxHeartbeats 4000000 in
theorem m_into {p : Program} {e : Env} {R : Room} {s : State} {m : MethodId} {args : Array Value} {below : List Frame} {meth : Method} {c : Code} {T : State} {locs : List Loc} {cells slots : Nat} {N : Nat} {h : mHp} {vs : List Value} {r : mR} {g : JFrame} {ig : Instr} {mk : MethodId} {methk : Method} {ck : Code} {mc ms : Nat}
    (Xs : Stand p l e R s m args below meth c T locs cells slots) (hx : p.tables.exec = Jvm.exec) (X : mCx D n0 ex dA S s) (hP : va_P D mcl (mws n0 ex dA h 0) T.heap) (hS : va_S (mA n0) s.heap T.heap locs) (hsz : T.heap.size = n0 + h.length) (k0 : mEnt l D n0 ex dA S N vs h r)
    (hg : g.method = m) (hgs : g.locals.size = c.maxLocals) (hdg : decode c.code g.pc = .ok (ig, 3)) (hcat : 2 * g.monitorRoom + (g.stack.map fun v => v.category).sum ≤ 8)
    (h1 : s.methodNamed? (mName N) = some mk) (h2 : s.vm.method? mk = some methk) (h3 : methk.code = some ck) (h4 : ck.code = mCode N) (h5 : ck.maxLocals = mMaxL N) (h6 : ck.exceptionTable.toList.map (fun h => (h.startPc, h.endPc, h.handlerPc, h.catchType)) = mHand N) (h7 : methk.sig.returnType = mRet N) (h8 : methk.locks = false)
    (hnm : mNmOf (mOwn N) = (mName N).cls) (hpl : plainFor (mName N) = true) (hf1 : mFr N + 1 ≤ R.frames) (hf2 : 8 + (mMaxL N + 11) + mLo N ≤ R.locals) (hmc : h.length + mc = r.2.length) (hms : msl h + ms = msl r.2) (hRc : cells + mc ≤ R.cells) (hRs : slots + ms ≤ R.slots) :
    ∃ (t : State) (L : List Loc), (∀ acts, Steps p.tables e below (doInvoke e (T.setTop g) acts mk (vs.map (cv n0 ex)).toArray).1 t) ∧ Ended t (.java g :: below) (mOut n0 ex r.1) ∧ (T.calling g mk (vs.map (cv n0 ex)).toArray).WarmedH t.vm ∧ (T.calling g mk (vs.map (cv n0 ex)).toArray).sameButNew ({ t with vm := (T.calling g mk (vs.map (cv n0 ex)).toArray).vm } : State) L mc ms ∧ (∀ q ∈ L, n0 ≤ q.base) ∧ va_P D mcl (mws n0 ex dA r.2 0) t.heap ∧ va_F (mA n0) (T.calling g mk (vs.map (cv n0 ex)).toArray) t := by
  have hnT : T.methodNamed? (mName N) = some mk := Xs.named h1
  have hmT : T.vm.method? mk = some methk := by rw [Xs.warmed.alike.method?]; exact h2
  obtain ⟨Y, hin⟩ := Xs.into hg hgs hdg (vs.map (cv n0 ex)).toArray (R' := ({ frames := mFr N, cells := mc, slots := ms, locals := mLo N } : Room)) hmT h3 h8 (State.plainMethod.of_named hpl hnT hmT) hf1 (by show _ + (ck.maxLocals + 11) + mLo N ≤ R.locals; rw [h5]; omega) hRc hRs
  have hX' : mCx D n0 ex dA S (T.calling g mk (vs.map (cv n0 ex)).toArray) := mCx_moved X hS rfl Xs.warmed
  have hfc : (T.calling g mk (vs.map (cv n0 ex)).toArray).vm.findClass (mNmOf (mOwn N)) = some mk.cls := by
    rw [hnm]
    exact findClass_of_methodNamed (s := T) hnT
  have F' : mFix N p (T.calling g mk (vs.map (cv n0 ex)).toArray) mk methk ck := ⟨hx, h4, h7, h5, h8, (name_of_methodNamed h1 h2).1, hfc, h6⟩
  have K := k0.2.2 p e (T.calling g mk (vs.map (cv n0 ex)).toArray) mk (.java g :: below) methk ck mc ms F' hX' hP hsz hmc hms
  obtain ⟨t, a1, b1, b2, b3, ⟨L, b4, b5⟩, b6, b7⟩ := K ((T.setTop g).pushFrame (.java (entryFrame mk (vs.map (cv n0 ex)).toArray ck.maxLocals))) (by rfl) Y
  refine ⟨t, L, fun acts => ?_, b2, b3, b4, b5, b6, b7⟩
  rw [hin acts, h5]
  rw [h5] at a1
  exact Steps.weaken (mid := [.java g]) a1
end Ent
/-! the rules with throws -/
def mrm (M N : Nat) (st : List Value) : Prop := mFr N + 1 ≤ mFr M ∧ 8 + (mMaxL N + 11) + mLo N ≤ mLo M ∧ mcats st ≤ 8 ∧ mCw N ∈ mTbl
/-- MeshWalkLaw's catch types: which class of mcl -/
def mCatch (ct : Nat) : Nat := match ct with
  | 13 => 10
  | 15 => 11
  | 27 => 12
  | _ => 0
def mfind (hs : List (Nat × Nat × Nat × Nat)) (pc ci : Nat) : Option Nat := match hs with
  | [] => none
  | (a, b, hp, ct) :: t => if a ≤ pc ∧ pc < b then (if mCatch ct = ci then some hp else if ci = 11 ∧ ct = 13 then mfind t pc ci else none) else mfind t pc ci
section RulesX
variable (P : Nat → mF → mR → Prop)
/-- a call on an object throws, and nothing here catches it -/
def mc_tv : Prop := ∀ (M pc : Nat) (ls : mL) (st st0 : List Value) (h h' : mHp) (idx N w1 w2 w3 w4 w5 a ci k : Nat) (fs As : List Value), decode (mCode M) pc = .ok (.invokevirtual idx, 3) → (mOwn M, idx, N, 0, w1, w2, w3, w4, w5) ∈ mLnkT → mrm M N st → st0 = As.reverse ++ .ref a :: st → As.length = mAr N → mcats (.ref a :: As) ≤ mMaxL N → mget h a = some (.inr (ci, fs)) → mOwn N = ci → mHand M = [] →
  (P N (0, lv_args 0 (.ref a :: As), [], h) (.inr k, h') ∨ RunsP N (0, lv_args 0 (.ref a :: As), [], h) (.inr k, h')) → P M (pc, ls, st0, h) (.inr k, h')
/-- .. and a handler here catches it -/
def mc_tc : Prop := ∀ (M pc : Nat) (ls : mL) (st st0 : List Value) (h h' : mHp) (r : mR) (idx N w1 w2 w3 w4 w5 a ci k cx hp : Nat) (fs As : List Value), decode (mCode M) pc = .ok (.invokevirtual idx, 3) → (mOwn M, idx, N, 0, w1, w2, w3, w4, w5) ∈ mLnkT → mrm M N st → st0 = As.reverse ++ .ref a :: st → As.length = mAr N → mcats (.ref a :: As) ≤ mMaxL N → mget h a = some (.inr (ci, fs)) → mOwn N = ci → mOwn M = 13 → mget h' k = some (.inr (cx, [])) → (cx = 10 ∨ cx = 11 ∨ cx = 12) → (∀ q ∈ mHand M, q.2.2.2 = 13 ∨ q.2.2.2 = 15 ∨ q.2.2.2 = 27) → mfind (mHand M) pc cx = some hp →
  (P N (0, lv_args 0 (.ref a :: As), [], h) (.inr k, h') ∨ RunsP N (0, lv_args 0 (.ref a :: As), [], h) (.inr k, h')) → P M (hp, ls, [.ref k], h') r → P M (pc, ls, st0, h) r
/-- a call of a static method that has handlers -/
def mc_hs : Prop := ∀ (M pc : Nat) (ls : mL) (st st0 : List Value) (h h' : mHp) (r : mR) (idx N w1 w2 w3 w4 w5 : Nat) (As : List Value) (v : Option Value), decode (mCode M) pc = .ok (.invokestatic idx, 3) → (mOwn M, idx, N, 1, w1, w2, w3, w4, w5) ∈ mLnkT → mrm M N st → st0 = As.reverse ++ st → As.length = mAr N → mcats As ≤ mMaxL N →
  P N (0, lv_args 0 As, [], h) (.inl v, h') → P M (pc + 3, ls, v.toList ++ st, h') r → P M (pc, ls, st0, h) r
end RulesX
section XSound
variable {l : Launch} {D : va_G} {n0 : Nat} {ex : Nat → Nat} {dA : FieldType → ClassId} {S : mE}
/-- the machine's own step into a method on an object, and what the method does -/
theorem m_stepV {p : Program} {e : Env} {R : Room} {s : State} {m : MethodId} {args : Array Value} {below : List Frame} {meth : Method} {c : Code} {T : State} {locs : List Loc} {cells slots : Nat} {M N pc idx w1 w2 w3 w4 w5 a ci mc ms : Nat} {la : Array Slot} {h : mHp} {st st0 As fs : List Value} {r : mR}
    (Xs : Stand p l e R s m args below meth c T locs cells slots) (F : mFix M p s m meth c) (X : mCx D n0 ex dA S s) (hP : va_P D mcl (mws n0 ex dA h 0) T.heap) (hS : va_S (mA n0) s.heap T.heap locs) (hsz : T.heap.size = n0 + h.length) (hla : la.size = mMaxL M)
    (hd : decode (mCode M) pc = .ok (.invokevirtual idx, 3)) (hf : (mOwn M, idx, N, 0, w1, w2, w3, w4, w5) ∈ mLnkT) (hrm : mrm M N st) (hst : st0 = As.reverse ++ .ref a :: st) (har : As.length = mAr N) (hg : mget h a = some (.inr (ci, fs))) (hci : mOwn N = ci) (hRf : mFr M ≤ R.frames) (hRl : mLo M ≤ R.locals)
    (k0 : mEnt l D n0 ex dA S N (.ref a :: As) h r) (hmc : h.length + mc = r.2.length) (hms : msl h + ms = msl r.2) (hRc : cells + mc ≤ R.cells) (hRs : slots + ms ≤ R.slots) :
    ∃ (vm' : Vm) (mk : MethodId) (t : State) (L : List Loc), Stand p l e R s m args below meth c (T.setVm vm') locs cells slots ∧ (∀ tg, Steps p.tables e below t tg → Steps p.tables e below (T.setTop (F0 m pc la (st0.map (cv n0 ex)))) tg) ∧ Ended t (.java (F0 m pc la (st.map (cv n0 ex))) :: below) (mOut n0 ex r.1) ∧ ((T.setVm vm').calling (F0 m pc la (st.map (cv n0 ex))) mk ((.ref a :: As).map (cv n0 ex)).toArray).WarmedH t.vm ∧ ((T.setVm vm').calling (F0 m pc la (st.map (cv n0 ex))) mk ((.ref a :: As).map (cv n0 ex)).toArray).sameButNew ({ t with vm := ((T.setVm vm').calling (F0 m pc la (st.map (cv n0 ex))) mk ((.ref a :: As).map (cv n0 ex)).toArray).vm } : State) L mc ms ∧ (∀ q ∈ L, n0 ≤ q.base) ∧ va_P D mcl (mws n0 ex dA r.2 0) t.heap ∧ va_F (mA n0) ((T.setVm vm').calling (F0 m pc la (st.map (cv n0 ex))) mk ((.ref a :: As).map (cv n0 ex)).toArray) t := by
  obtain ⟨hr1, hr2, hr3, hr5⟩ := hrm
  obtain ⟨g1, g2, g3, g4, g5, g6, g7, g8, g9⟩ := mLnk_spec hf
  rw [if_pos (by decide)] at g1
  rw [if_neg (by decide)] at g2
  have g3' := g3 (by decide)
  obtain ⟨mk, methM, ck, h1, h2, h3, h4, h5, h6, h7, h8, h9⟩ := m_code (A := args) (mTb_use X.2.2.2.2.1 hr5)
  obtain ⟨mk2, meth2, i1, i2, hstM, habM⟩ := Cond.instanceMethod_spec (mTb_use (a := args) X.2.2.2.2.1 g2)
  cases h1.symm.trans i1
  cases h2.symm.trans i2
  obtain ⟨C, hcl⟩ : ∃ q : vw_C, mcl[ci]? = some q := by
    obtain ⟨r, hr, -⟩ := hP _ _ (mws_at hg)
    exact ⟨r, hr⟩
  obtain ⟨C, TT, NN⟩ := C
  obtain ⟨cellB, b1, b2, b3⟩ := va_recv X.1 hP hcl (mws_at hg)
  have hC : C = (mName N).cls := by rw [← g7, hci]; exact (mcl_nm hcl).symm
  rw [hC] at b3
  obtain ⟨c2, r2, m2, q1, q2, q3, q4, kP, hkP, hkPi⟩ := Cond.selects_spec (mTb_use (a := args) X.2.2.2.2.1 g3')
  cases b3.symm.trans q1
  cases (State.methodFound?_of_named h1 g5).symm.trans q2
  cases h1.symm.trans q3
  have hselP : selectMethod e.platform s.vm cellB.cls mk = .method mk := by rw [Launch.admits_selectMethod Xs.admits]; exact q4
  have hlen : (As.map (cv n0 ex)).length = methM.sig.parameters.length := by
    rw [List.length_map, har]
    exact m_lenn g6 _ h9
  have hstk : (F0 m pc la (st0.map (cv n0 ex))).stack = (As.map (cv n0 ex)).reverse ++ .ref (sg n0 ex a) :: st.map (cv n0 ex) := by
    show st0.map (cv n0 ex) = _
    rw [hst]; simp [cv]
  obtain ⟨vm₁, X₁, hstep₁⟩ := Xs.invokevirtual F.1 F.2.2.2.2.2.2.1 (mTb_use X.2.2.2.2.1 g1) h1 h2 hstM hkP hkPi g5 (a := sg n0 ex a) (cell := cellB) b1 (fun z h => by rw [h] at b2; cases b2) hselP h2 habM hkP hkPi (g := F0 m pc la (st0.map (cv n0 ex))) rfl (argsL := As.map (cv n0 ex)) (rest := st.map (cv n0 ex)) hlen hstk (by rw [F.2.1]; exact hd)
  obtain ⟨t, L, c1, c3, c4, c5, c6, c7, c8⟩ := m_into (mc := mc) (ms := ms) X₁ F.1 X hP hS hsz k0 (g := F0 m pc la (st.map (cv n0 ex))) rfl (hla.trans F.2.2.2.1.symm) (by rw [F.2.1]; exact hd) (m_cats (m := m) (pc := pc) (la := la) st hr3) h1 h2 h3 h4 h5 h6 h7 h8 g7 g8 (Nat.le_trans hr1 hRf) (Nat.le_trans hr2 hRl) hmc hms hRc hRs
  exact ⟨vm₁, mk, t, L, X₁, fun tg hs => hstep₁ tg (fun acts => (c1 acts).trans hs), c3, c4, c5, c6, c7, c8⟩
theorem mSem_tv (hfl : l.flags = pinnedFlags ++ [noTraceFlag]) : mc_tv (mSem l D n0 ex dA S) := by
  intro M pc ls st st0 h h' idx N w1 w2 w3 w4 w5 a ci k fs As hd hf hrm hst har hcw hg hci hhd k1
  have k0 : mEnt l D n0 ex dA S N (.ref a :: As) h (.inr k, h') := by
    rcases k1 with k1 | k1
    · exact mSem.ent k1 hcw
    · exact mSemP.ent (k1.sem hfl) hcw
  have k3 : h.length ≤ h'.length := k0.1
  have k4 : msl h ≤ msl h' := k0.2.1
  refine ⟨k3, k4, fun p e R s m args below meth c H locs la cells slots mc ms sl0 F X hP hS hl hRf hRl hRc hRs g1 g2 g3 g4 => ?_⟩
  have g1' : s.heap.size + cells = n0 + h.length := g1
  have g2' : s.heap.size + mc = n0 + h'.length := g2
  have g3' : msl h = sl0 + slots := g3
  have g4' : msl h' = sl0 + ms := g4
  refine W.sz (fun hz => ?_)
  have hHs : H.size = n0 + h.length := m_size hP hS g1' X.2.2.2.1 hz
  intro T hT Xs
  subst hT
  obtain ⟨vm', mk, t, L, X₁, hgo, hend, hW, hsame, hL, hPt, hFt⟩ := m_stepV (mc := h'.length - h.length) (ms := msl h' - msl h) Xs F X hP hS hHs hl.1 hd hf hrm hst har hg hci hRf hRl k0 (by show h.length + _ = h'.length; omega) (by show msl h + _ = msl h'; omega) (by omega) (by omega)
  obtain ⟨T', X', -, -, ht⟩ := X₁.outOfThrown rfl hend hW hsame
  have hexc : c.exceptionTable.toList = [] := by
    have := F.2.2.2.2.2.2.2
    rw [hhd] at this
    exact List.map_eq_nil_iff.mp this
  obtain ⟨hs1, r1, r2, r3, r4⟩ := X'.leaveThrown (sg n0 ex k) (g := F0 m pc la (st.map (cv n0 ex))) rfl rfl rfl (fun x hx => by rw [hexc] at hx; cases hx) F.2.2.2.2.1
  have hth : t.heap = T'.heap := by rw [ht]; exact throwing_heap T' _ _
  refine ⟨_, hgo _ (by rw [ht]; exact hs1), r1, r2, r3, ⟨locs ++ L, ?_, fun q hq => ?_⟩, by rw [hth] at hPt; exact hPt, ?_⟩
  · have e1 : mc = cells + (h'.length - h.length) := by omega
    have e2 : ms = slots + (msl h' - msl h) := by omega
    rw [e1, e2]
    exact r4
  · rcases List.mem_append.mp hq with hq | hq
    · exact hS.2.2 q hq
    · exact hL q hq
  · obtain ⟨f1, f2⟩ := hFt
    have f1' : T.heap.size ≤ T'.heap.size := by rw [← hth]; exact f1
    refine ⟨Nat.le_trans hS.1 f1', fun q q1 q2 => ?_⟩
    have := f2 q (Nat.lt_of_lt_of_le q1 hS.1) q2
    rw [hth] at this
    exact this.trans (hS.2.1 q q1 q2)
theorem mSem_hs : mc_hs (mSem l D n0 ex dA S) := by
  intro M pc ls st st0 h h' r idx N w1 w2 w3 w4 w5 As v hd hf hrm hst har hcw k1 k
  have k0 : mEnt l D n0 ex dA S N As h (.inl v, h') := mSem.ent k1 hcw
  refine mSem_call k1 k (fun p e R s m args below meth c H locs la cells slots mc ms Q F X hP hS hla hRf hRl g1 g2 g3 g4 g5 kk => ?_)
  refine W.sz (fun hz => ?_)
  have hHs : H.size = n0 + h.length := m_size hP hS g1 X.2.2.2.1 hz
  intro T hT Xs
  subst hT
  obtain ⟨hr1, hr2, hr3, hr5⟩ := hrm
  obtain ⟨l1, l2, l3, l4, l5, l6, l7, l8, l9⟩ := mLnk_spec hf
  rw [if_pos (by decide)] at l1
  rw [if_pos (by decide)] at l2
  obtain ⟨mk, methM, ck, h1, h2, h3, h4, h5, h6, h7, h8, h9⟩ := m_code (A := args) (mTb_use X.2.2.2.2.1 hr5)
  have hstatic : methM.isStatic = true := Cond.static_spec h1 h2 (mTb_use (a := args) X.2.2.2.2.1 l2)
  obtain ⟨kP, hkP, -⟩ := className_of_methodNamed h1
  have hinitP : kP.init = .initialized := Cond.initialized_spec (findClass_of_methodNamed h1) hkP (mTb_use (a := args) X.2.2.2.2.1 l4)
  have hlen : (As.map (cv n0 ex)).length = methM.sig.parameters.length := by
    rw [List.length_map, har]
    exact m_lenn l6 _ h9
  have hstk : (F0 m pc la (st0.map (cv n0 ex))).stack = (As.map (cv n0 ex)).reverse ++ st.map (cv n0 ex) := by
    show st0.map (cv n0 ex) = _
    rw [hst]; simp
  obtain ⟨vm₁, X₁, hstep₁⟩ := Xs.invokestatic F.1 F.2.2.2.2.2.2.1 (mTb_use X.2.2.2.2.1 l1) h1 h2 hstatic hkP hinitP l5 (g := F0 m pc la (st0.map (cv n0 ex))) rfl (argsL := As.map (cv n0 ex)) (rest := st.map (cv n0 ex)) hlen hstk (by rw [F.2.1]; exact hd)
  obtain ⟨t, L, c1, c3, c4, c5, c6, c7, c8⟩ := m_into (mc := mc) (ms := ms) X₁ F.1 X hP hS hHs k0 (g := F0 m pc la (st.map (cv n0 ex))) rfl (hla.trans F.2.2.2.1.symm) (by rw [F.2.1]; exact hd) (m_cats (m := m) (pc := pc) (la := la) st hr3) h1 h2 h3 h4 h5 h6 h7 h8 l7 l8 (Nat.le_trans hr1 hRf) (Nat.le_trans hr2 hRl) g2 g3 g4 g5
  obtain ⟨T', X', -, -, ht⟩ := X₁.outOf (g := F0 m pc la (st.map (cv n0 ex))) rfl (by rw [F.2.1]; exact hd) c3 c4 c5
  have hth : t.heap = T'.heap := by rw [ht]; rfl
  obtain ⟨f1, f2⟩ := c8
  obtain ⟨tg, a1, b1⟩ := kk T'.heap (locs ++ L) (by rw [← hth]; exact c7) ⟨by rw [← hth]; exact Nat.le_trans hS.1 f1, fun q q1 q2 => by
      rw [← hth]
      exact (f2 q (Nat.lt_of_lt_of_le q1 hS.1) q2).trans (hS.2.1 q q1 q2), fun q hq => by
      rcases List.mem_append.mp hq with hq | hq
      · exact hS.2.2 q hq
      · exact c6 q hq⟩ T' rfl X'
  refine ⟨tg, hstep₁ tg (fun acts => (c1 acts).trans ?_), b1⟩
  rw [ht]
  cases v <;> exact a1
theorem mxc_k13 : Cond.classLink "MeshWalkLaw" 13 "java/lang/IllegalArgumentException" ∈ mTbl := mIs.mem (i := 359) (by decide +kernel)
theorem mxc_k15 : Cond.classLink "MeshWalkLaw" 15 "java/lang/IllegalStateException" ∈ mTbl := mIs.mem (i := 360) (by decide +kernel)
theorem mxc_k27 : Cond.classLink "MeshWalkLaw" 27 "java/lang/IndexOutOfBoundsException" ∈ mTbl := mIs.mem (i := 710) (by decide +kernel)
theorem mxc_c10 : Cond.castable "java/lang/IllegalArgumentException" "java/lang/IllegalArgumentException" ∈ mTbl := mIs.mem (i := 373) (by decide +kernel)
theorem mxc_c11 : Cond.castable "java/lang/IllegalStateException" "java/lang/IllegalStateException" ∈ mTbl := mIs.mem (i := 441) (by decide +kernel)
theorem mxc_c12 : Cond.castable "java/lang/IndexOutOfBoundsException" "java/lang/IndexOutOfBoundsException" ∈ mTbl := mIs.mem (i := 721) (by decide +kernel)
theorem mct_spec {ct : Nat} (h : ct = 13 ∨ ct = 15 ∨ ct = 27) : ∃ C, mcl[mCatch ct]? = some (C, mT10, 0) ∧ Cond.classLink "MeshWalkLaw" ct C ∈ mTbl ∧ Cond.castable C C ∈ mTbl := by
  rcases h with rfl | rfl | rfl
  · exact ⟨_, mcl_10, mxc_k13, mxc_c10⟩
  · exact ⟨_, mcl_11, mxc_k15, mxc_c11⟩
  · exact ⟨_, mcl_12, mxc_k27, mxc_c12⟩
/-- the search through the handlers, the classes looked up on the way -/
theorem fh_go {e : Env} {s : State} (hadm : e.platform.magicAccessors = ({} : Platform).magicAccessors) (X : mCx D n0 ex dA S s) {f : JFrame} {x : Addr} {cell : Cell} {cx hp : Nat} (hown : s.vm.findClass "MeshWalkLaw" = some f.method.cls) {C : String} (hcx : mcl[cx]? = some (C, mT10, 0)) (hcc : s.vm.findClass C = some cell.cls) (hobj : ∀ k, cell.vm ≠ .statics k) :
    ∀ (tl : List ExceptionTableEntry) (U : State), s.WarmedH U.vm → U.heap[x]? = some cell → (∀ q ∈ tl.map (fun h => (h.startPc, h.endPc, h.handlerPc, h.catchType)), q.2.2.2 = 13 ∨ q.2.2.2 = 15 ∨ q.2.2.2 = 27) → mfind (tl.map (fun h => (h.startPc, h.endPc, h.handlerPc, h.catchType))) f.pc cx = some hp →
      ∃ vm', s.WarmedH vm' ∧ ∀ (Q : Handler → Pre) (E : CtlPost) (d : Bool) (acts : List Action), wp (findHandler.go f x tl) Q E e d acts U ↔ Q (.found hp) d acts (U.setVm vm') := by
  intro tl
  induction tl with
  | nil => intro U _ _ _ h; cases h
  | cons y t ih =>
    intro U hW hcell hall hm
    simp only [List.map_cons, mfind] at hm
    by_cases hcov : y.startPc ≤ f.pc ∧ f.pc < y.endPc
    · rw [if_pos hcov] at hm
      have hct : y.catchType = 13 ∨ y.catchType = 15 ∨ y.catchType = 27 := hall _ List.mem_cons_self
      have hcv : covers y f.pc = true := by simp [covers, hcov.1, hcov.2]
      have h0 : y.catchType ≠ 0 := by rcases hct with h | h | h <;> rw [h] <;> decide
      obtain ⟨Ct, hcl, hlk, hcst⟩ := mct_spec hct
      obtain ⟨cC, hfcc, hlinks⟩ := Cond.classLink_spec hown (mTb_use (a := #[]) X.2.2.2.2.1 hlk) e.platform hadm
      obtain ⟨hg₁, hwarm₁, hready₁⟩ := State.classEntry (e := e) hW hlinks
      generalize U.vm.noted f.method.cls y.catchType (.cls cC) = vm₁ at hg₁ hwarm₁ hready₁
      have hal := hwarm₁.alike
      obtain ⟨kx, hkx⟩ := Vm.classAt_of_findClass hcc
      obtain ⟨kc, hkc⟩ := Vm.classAt_of_findClass hfcc
      obtain ⟨kx', hkx', -⟩ := hal.2.2 _ _ hkx
      obtain ⟨kc', hkc', -⟩ := hal.2.2 _ _ hkc
      have hsz : vm₁.classes.size ≤ U.vm.classes.size := by
        have h1 := hal.2.1
        have h2 := hW.alike.2.1
        omega
      have key := fun (Q : Handler → Pre) (E : CtlPost) (d : Bool) (acts : List Action) => fh_cold (E := E) (e := e) (d := d) (acts := acts) (Q := Q) (f := f) (a := x) (t := t) hcv h0 hg₁ hsz hcell hobj ⟨kx', hkx'⟩ ⟨kc', hkc'⟩
      have hasg : vm₁.assignable cell.cls cC = s.vm.assignable cell.cls cC := hal.assignable _ _
      by_cases heq : mCatch y.catchType = cx
      · rw [if_pos heq] at hm
        cases hm
        refine ⟨vm₁, hwarm₁, fun Q E d acts => ?_⟩
        have hC : C = Ct := by
          rw [heq] at hcl
          have := hcx.symm.trans hcl
          simp only [Option.some.injEq, Prod.mk.injEq] at this
          exact this.1
        subst hC
        obtain ⟨c1, c2, q1, q2, q3⟩ := Cond.castable_spec (mTb_use (a := #[]) X.2.2.2.2.1 hcst)
        cases hcc.symm.trans q1
        cases hfcc.symm.trans q2
        rw [key Q E d acts, if_pos (by rw [hasg]; exact q3)]
      · rw [if_neg heq] at hm
        by_cases hsp : cx = 11 ∧ y.catchType = 13
        · rw [if_pos hsp] at hm
          obtain ⟨vm', hW', hres⟩ := ih (U.setVm vm₁) hwarm₁ hcell (fun q hq => hall q (List.mem_cons_of_mem _ hq)) hm
          have hno : s.vm.assignable cell.cls cC = false := by
            have hcn := X.2.2.2.2.2.2.2
            obtain ⟨rfl, h13⟩ := hsp
            rw [h13] at hcl
            have e1 : C = "java/lang/IllegalStateException" := by
              have := hcx.symm.trans mcl_11
              simp only [Option.some.injEq, Prod.mk.injEq] at this
              exact this.1
            have e2 : Ct = "java/lang/IllegalArgumentException" := by
              have := hcl.symm.trans mcl_10
              simp only [Option.some.injEq, Prod.mk.injEq] at this
              exact this.1
            subst e1; subst e2
            cases ha : s.vm.assignable cell.cls cC with
            | false => rfl
            | true => simp [Cond.before, Cond.holds, Cond.value, hcc, hfcc, ha] at hcn
          refine ⟨vm', hW', fun Q E d acts => ?_⟩
          rw [key Q E d acts, if_neg (by rw [hasg, hno]; decide), hres Q E d acts]
          rfl
        · rw [if_neg hsp] at hm; cases hm
    · rw [if_neg hcov] at hm
      obtain ⟨vm', hW', hres⟩ := ih U hW hcell (fun q hq => hall q (List.mem_cons_of_mem _ hq)) hm
      refine ⟨vm', hW', fun Q E d acts => ?_⟩
      have hcv : covers y f.pc = false := by
        simp only [covers, Bool.and_eq_false_iff, decide_eq_false_iff_not]
        by_cases h1 : y.startPc ≤ f.pc
        · exact Or.inr (fun h2 => hcov ⟨h1, h2⟩)
        · exact Or.inl h1
      rw [Jvm.W.findHandler_go_skip hcv]
      exact hres Q E d acts
theorem mSem_tc (hfl : l.flags = pinnedFlags ++ [noTraceFlag]) : mc_tc (mSem l D n0 ex dA S) := by
  intro M pc ls st st0 h h' r idx N w1 w2 w3 w4 w5 a ci k cx hp fs As hd hf hrm hst har hcw hg hci hM hgx hcx hall hfd k1 kq
  have k0 : mEnt l D n0 ex dA S N (.ref a :: As) h (.inr k, h') := by
    rcases k1 with k1 | k1
    · exact mSem.ent k1 hcw
    · exact mSemP.ent (k1.sem hfl) hcw
  have k3 : h.length ≤ h'.length := k0.1
  have k4 : msl h ≤ msl h' := k0.2.1
  have k5 : h'.length ≤ r.2.length := kq.1
  have k6 : msl h' ≤ msl r.2 := kq.2.1
  refine ⟨Nat.le_trans k3 k5, Nat.le_trans k4 k6, fun p e R s m args below meth c H locs la cells slots mc ms sl0 F X hP hS hl hRf hRl hRc hRs g1 g2 g3 g4 => ?_⟩
  have g1' : s.heap.size + cells = n0 + h.length := g1
  have g3' : msl h = sl0 + slots := g3
  refine W.sz (fun hz => ?_)
  have hHs : H.size = n0 + h.length := m_size hP hS g1' X.2.2.2.1 hz
  intro T hT Xs
  subst hT
  obtain ⟨vm', mk, t, L, X₁, hgo, hend, hW, hsame, hL, hPt, hFt⟩ := m_stepV (mc := h'.length - h.length) (ms := msl h' - msl h) Xs F X hP hS hHs hl.1 hd hf hrm hst har hg hci hRf hRl k0 (by show h.length + _ = h'.length; omega) (by show msl h + _ = msl h'; omega) (by omega) (by omega)
  obtain ⟨T', X', -, -, ht⟩ := X₁.outOfThrown rfl hend hW hsame
  have hth : t.heap = T'.heap := by rw [ht]; exact throwing_heap T' _ _
  have hPT : va_P D mcl (mws n0 ex dA h' 0) T'.heap := by rw [← hth]; exact hPt
  obtain ⟨C, hcl⟩ : ∃ C, mcl[cx]? = some (C, mT10, 0) := by
    rcases hcx with rfl | rfl | rfl
    · exact ⟨_, mcl_10⟩
    · exact ⟨_, mcl_11⟩
    · exact ⟨_, mcl_12⟩
  obtain ⟨cell, b1, b2, b3⟩ := va_recv X.1 hPT hcl (mws_at hgx)
  have hownS : s.vm.findClass "MeshWalkLaw" = some (F0 m pc la (st.map (cv n0 ex))).method.cls := by
    have := F.2.2.2.2.2.2.1
    rw [hM] at this
    exact this
  have hpl : e.platform.magicAccessors = ({} : Platform).magicAccessors := by rw [Xs.admits.platform]
  obtain ⟨vm2, hW2, hfind⟩ := fh_go hpl X (f := F0 m pc la (st.map (cv n0 ex))) (x := sg n0 ex k) (cell := cell) (hp := hp) hownS hcl b3 (fun z hz => by rw [hz] at b2; cases b2) c.exceptionTable.toList ((T'.setTop (F0 m pc la (st.map (cv n0 ex)))).pushFrame (.throwing (sg n0 ex k))) (by rw [throwing_vm]; exact X'.warmed) (by rw [throwing_heap]; exact b1) (by rw [F.2.2.2.2.2.2.2]; exact hall) (by rw [F.2.2.2.2.2.2.2]; exact hfd)
  have hfind' : ∀ (Q : Handler → Pre) (E : CtlPost) (d : Bool) (acts : List Action), wp (findHandler (F0 m pc la (st.map (cv n0 ex))) (sg n0 ex k)) Q E e d acts ((T'.setTop (F0 m pc la (st.map (cv n0 ex)))).pushFrame (.throwing (sg n0 ex k))) ↔ Q (.found hp) d acts (((T'.setTop (F0 m pc la (st.map (cv n0 ex)))).pushFrame (.throwing (sg n0 ex k))).setVm vm2) := fun Q E d acts => by
    rw [Jvm.W.findHandler_eq (meth := meth) (code := c) (by rw [throwing_vm]; exact X'.method') X'.code]
    exact hfind Q E d acts
  have hS' : va_S (mA n0) s.heap T'.heap (locs ++ L) := by
    obtain ⟨f1, f2⟩ := hFt
    refine ⟨by rw [← hth]; exact Nat.le_trans hS.1 f1, fun q q1 q2 => ?_, fun q hq => ?_⟩
    · rw [← hth]
      exact (f2 q (Nat.lt_of_lt_of_le q1 hS.1) q2).trans (hS.2.1 q q1 q2)
    · rcases List.mem_append.mp hq with hq | hq
      · exact hS.2.2 q hq
      · exact hL q hq
  obtain ⟨tg, a1, b1'⟩ := kq.2.2 p e R s m args below meth c T'.heap (locs ++ L) la (cells + (h'.length - h.length)) (slots + (msl h' - msl h)) mc ms sl0 F X hPT hS' hl hRf hRl hRc hRs (by show _ = n0 + h'.length; omega) g2 (by show msl h' = _; omega) g4 (T'.setVm vm2) rfl (X'.noted hW2)
  refine ⟨tg, hgo _ ?_, b1'⟩
  rw [ht]
  exact st_caught X'.here hfind' a1
end XSound
end
section
/-! THE RUNS: the least relation that keeps the rules; its rules as rows (R_ for Run, Q_ for RunsP) -/
/-- what is known of fewer locals is known of more -/
def mc_wk (P : Nat → mF → mR → Prop) : Prop := ∀ (M pc : Nat) (ls ls' : mL) (st : List Value) (h : mHp) (r : mR), (∀ q ∈ ls, q ∈ ls') → P M (pc, ls, st, h) r → P M (pc, ls', st, h) r
theorem mSem_wk {l : Launch} {D : va_G} {n0 : Nat} {ex : Nat → Nat} {dA : FieldType → ClassId} {S : mE} : mc_wk (mSem l D n0 ex dA S) := by
  intro M pc ls ls' st h r hs k
  refine ⟨k.1, k.2.1, ?_⟩
  intro p e R s m args below meth c H locs la cells slots mc ms sl0 F X hP hS hl
  refine k.2.2 p e R s m args below meth c H locs la cells slots mc ms sl0 F X hP hS ⟨hl.1, hl.2.1, ?_⟩
  intro q hq
  obtain ⟨x, hx, rfl⟩ := List.mem_map.mp hq
  exact hl.2.2 _ (List.mem_map_of_mem (hs x hx))
def mClosedX (S : mE) (P : Nat → mF → mR → Prop) : Prop := mClosed S P ∧ mc_tv P ∧ mc_tc P ∧ mc_hs P ∧ mc_wk P
def Run (S : mE) (M : Nat) (f : mF) (r : mR) : Prop := ∀ P : Nat → mF → mR → Prop, mClosedX S P → P M f r
theorem Run.sem {l : Launch} {D : va_G} {n0 : Nat} {ex : Nat → Nat} {dA : FieldType → ClassId} {S : mE} (hfl : l.flags = pinnedFlags ++ [noTraceFlag]) {M : Nat} {f : mF} {r : mR} (h : Run S M f r) : mSem l D n0 ex dA S M f r := h _ ⟨mSem_closed, mSem_tv hfl, mSem_tc hfl, mSem_hs, mSem_wk⟩
theorem Run.closed (S : mE) : mClosedX S (Run S) := by
  refine ⟨⟨?_, ?_, ?_, ?_, ?_, ?_, ?_, ?_, ?_, ?_, ?_, ?_, ?_, ?_, ?_, ?_, ?_, ?_, ?_, ?_, ?_, ?_, ?_, ?_, ?_, ?_⟩, ?_, ?_, ?_, ?_⟩
  · intro M pc ls st h r i len ls' st' a1 a2 a3 k P hP
    exact hP.1.1 M pc ls st h r i len ls' st' a1 a2 a3 (k P hP)
  · intro M pc ls st h r i off st' tgt a1 a2 a3 k P hP
    exact hP.1.2.1 M pc ls st h r i off st' tgt a1 a2 a3 (k P hP)
  · intro M pc ls st h r i st' a1 a2 a3 k P hP
    exact hP.1.2.2.1 M pc ls st h r i st' a1 a2 a3 (k P hP)
  · intro M pc ls st h r dflt lo hi offs len x tgt a1 a2 a3 k P hP
    exact hP.1.2.2.2.1 M pc ls st h r dflt lo hi offs len x tgt a1 a2 a3 (k P hP)
  · intro M pc ls st h r dflt lo hi offs len x off tgt a1 a2 a3 a4 a5 k P hP
    exact hP.1.2.2.2.2.1 M pc ls st h r dflt lo hi offs len x off tgt a1 a2 a3 a4 a5 (k P hP)
  · intro M pc ls st h r idx v w a1 a2 k P hP
    exact hP.1.2.2.2.2.2.1 M pc ls st h r idx v w a1 a2 (k P hP)
  · intro M pc ls st h r idx v w a1 a2 k P hP
    exact hP.1.2.2.2.2.2.2.1 M pc ls st h r idx v w a1 a2 (k P hP)
  · intro M pc ls st h r idx ci j w a fs v a1 a2 a3 a4 k P hP
    exact hP.1.2.2.2.2.2.2.2.1 M pc ls st h r idx ci j w a fs v a1 a2 a3 a4 (k P hP)
  · intro M pc ls st h r idx ci j w a fs v a1 a2 a3 a4 a5 a6 a7 k P hP
    exact hP.1.2.2.2.2.2.2.2.2.1 M pc ls st h r idx ci j w a fs v a1 a2 a3 a4 a5 a6 a7 (k P hP)
  · intro M pc ls st h r a n f i a1 a2 a3 k P hP
    exact hP.1.2.2.2.2.2.2.2.2.2.1 M pc ls st h r a n f i a1 a2 a3 (k P hP)
  · intro M pc ls st h r a n f i a1 a2 a3 k P hP
    exact hP.1.2.2.2.2.2.2.2.2.2.2.1 M pc ls st h r a n f i a1 a2 a3 (k P hP)
  · intro M pc ls st h r a n f i a1 a2 a3 k P hP
    exact hP.1.2.2.2.2.2.2.2.2.2.2.2.1 M pc ls st h r a n f i a1 a2 a3 (k P hP)
  · intro M pc ls st h r a n f i x a1 a2 a3 k P hP
    exact hP.1.2.2.2.2.2.2.2.2.2.2.2.2.1 M pc ls st h r a n f i x a1 a2 a3 (k P hP)
  · intro M pc ls st h r a n f i x a1 a2 a3 k P hP
    exact hP.1.2.2.2.2.2.2.2.2.2.2.2.2.2.1 M pc ls st h r a n f i x a1 a2 a3 (k P hP)
  · intro M pc ls st h r a n f i x a1 a2 a3 k P hP
    exact hP.1.2.2.2.2.2.2.2.2.2.2.2.2.2.2.1 M pc ls st h r a n f i x a1 a2 a3 (k P hP)
  · intro M pc ls st h r a ty x a1 a2 a3 k P hP
    exact hP.1.2.2.2.2.2.2.2.2.2.2.2.2.2.2.2.1 M pc ls st h r a ty x a1 a2 a3 (k P hP)
  · intro M pc ls st h r i a1 a2 k P hP
    exact hP.1.2.2.2.2.2.2.2.2.2.2.2.2.2.2.2.2.1 M pc ls st h r i a1 a2 (k P hP)
  · intro M pc ls st h r a1 k P hP
    exact hP.1.2.2.2.2.2.2.2.2.2.2.2.2.2.2.2.2.2.1 M pc ls st h r a1 (k P hP)
  · intro M pc ls st h r at_ ty n N a1 a2 a3 a4 a5 a6 k P hP
    exact hP.1.2.2.2.2.2.2.2.2.2.2.2.2.2.2.2.2.2.2.1 M pc ls st h r at_ ty n N a1 a2 a3 a4 a5 a6 (k P hP)
  · intro M pc ls st h r idx ci w1 w2 w3 a1 a2 k P hP
    exact hP.1.2.2.2.2.2.2.2.2.2.2.2.2.2.2.2.2.2.2.2.1 M pc ls st h r idx ci w1 w2 w3 a1 a2 (k P hP)
  · intro M pc ls h v ty a1 a2 a3  P hP
    exact hP.1.2.2.2.2.2.2.2.2.2.2.2.2.2.2.2.2.2.2.2.2.1 M pc ls h v ty a1 a2 a3 
  · intro M pc ls h v a1 a2  P hP
    exact hP.1.2.2.2.2.2.2.2.2.2.2.2.2.2.2.2.2.2.2.2.2.2.1 M pc ls h v a1 a2 
  · intro M pc ls h a1 a2  P hP
    exact hP.1.2.2.2.2.2.2.2.2.2.2.2.2.2.2.2.2.2.2.2.2.2.2.1 M pc ls h a1 a2 
  · intro M pc ls st h r idx w a a1 a2 a3 a4 k P hP
    exact hP.1.2.2.2.2.2.2.2.2.2.2.2.2.2.2.2.2.2.2.2.2.2.2.2.1 M pc ls st h r idx w a a1 a2 a3 a4 (k P hP)
  · intro M pc ls st st0 h h' r idx N kind w1 w2 w3 w4 w5 a ci fs As v a1 a2 a3 a4 a5 a6 a7 a8 a9 k0 k P hP
    exact hP.1.2.2.2.2.2.2.2.2.2.2.2.2.2.2.2.2.2.2.2.2.2.2.2.2.1 M pc ls st st0 h h' r idx N kind w1 w2 w3 w4 w5 a ci fs As v a1 a2 a3 a4 a5 a6 a7 a8 a9 (k0 P hP) (k P hP)
  · intro M pc ls st st0 h h' r idx N kind w1 w2 w3 w4 w5 As v a1 a2 a3 a4 a5 a6 a7 k0 k P hP
    exact hP.1.2.2.2.2.2.2.2.2.2.2.2.2.2.2.2.2.2.2.2.2.2.2.2.2.2 M pc ls st st0 h h' r idx N kind w1 w2 w3 w4 w5 As v a1 a2 a3 a4 a5 a6 a7 (k0 P hP) (k P hP)
  · intro M pc ls st st0 h h' idx N w1 w2 w3 w4 w5 a ci k fs As a1 a2 a3 a4 a5 a6 a7 a8 a9 k1 P hP
    exact hP.2.1 M pc ls st st0 h h' idx N w1 w2 w3 w4 w5 a ci k fs As a1 a2 a3 a4 a5 a6 a7 a8 a9 (k1.elim (fun q => Or.inl (q P hP)) Or.inr)
  · intro M pc ls st st0 h h' r idx N w1 w2 w3 w4 w5 a ci k cx hp fs As a1 a2 a3 a4 a5 a6 a7 a8 a9 b1 b2 b3 b4 k1 kk P hP
    exact hP.2.2.1 M pc ls st st0 h h' r idx N w1 w2 w3 w4 w5 a ci k cx hp fs As a1 a2 a3 a4 a5 a6 a7 a8 a9 b1 b2 b3 b4 (k1.elim (fun q => Or.inl (q P hP)) Or.inr) (kk P hP)
  · intro M pc ls st st0 h h' r idx N w1 w2 w3 w4 w5 As v a1 a2 a3 a4 a5 a6 k0 k P hP
    exact hP.2.2.2.1 M pc ls st st0 h h' r idx N w1 w2 w3 w4 w5 As v a1 a2 a3 a4 a5 a6 (k0 P hP) (k P hP)
  · intro M pc ls ls' st h r hs k P hP
    exact hP.2.2.2.2 M pc ls ls' st h r hs (k P hP)
theorem RunsP.closed : mClosedP RunsP := by
  refine ⟨?_, ?_, ?_, ?_, ?_, ?_, ?_, ?_, ?_, ?_, ?_, ?_, ?_, ?_, ?_, ?_⟩
  · intro M pc ls st h r i len ls' st' a1 a2 a3 k P hP
    exact hP.1 M pc ls st h r i len ls' st' a1 a2 a3 (k P hP)
  · intro M pc ls st h r i off st' tgt a1 a2 a3 k P hP
    exact hP.2.1 M pc ls st h r i off st' tgt a1 a2 a3 (k P hP)
  · intro M pc ls st h r i st' a1 a2 a3 k P hP
    exact hP.2.2.1 M pc ls st h r i st' a1 a2 a3 (k P hP)
  · intro M pc ls st h r idx v w a1 a2 k P hP
    exact hP.2.2.2.1 M pc ls st h r idx v w a1 a2 (k P hP)
  · intro M pc ls st h r idx v w a1 a2 k P hP
    exact hP.2.2.2.2.1 M pc ls st h r idx v w a1 a2 (k P hP)
  · intro M pc ls st h r idx ci j w a fs v a1 a2 a3 a4 k P hP
    exact hP.2.2.2.2.2.1 M pc ls st h r idx ci j w a fs v a1 a2 a3 a4 (k P hP)
  · intro M pc ls st h r a n f i a1 a2 a3 k P hP
    exact hP.2.2.2.2.2.2.1 M pc ls st h r a n f i a1 a2 a3 (k P hP)
  · intro M pc ls st h r a n f i a1 a2 a3 k P hP
    exact hP.2.2.2.2.2.2.2.1 M pc ls st h r a n f i a1 a2 a3 (k P hP)
  · intro M pc ls st h r a n f i a1 a2 a3 k P hP
    exact hP.2.2.2.2.2.2.2.2.1 M pc ls st h r a n f i a1 a2 a3 (k P hP)
  · intro M pc ls st h r a ty x a1 a2 a3 k P hP
    exact hP.2.2.2.2.2.2.2.2.2.1 M pc ls st h r a ty x a1 a2 a3 (k P hP)
  · intro M pc ls h v ty a1 a2 a3  P hP
    exact hP.2.2.2.2.2.2.2.2.2.2.1 M pc ls h v ty a1 a2 a3 
  · intro M pc ls h v a1 a2  P hP
    exact hP.2.2.2.2.2.2.2.2.2.2.2.1 M pc ls h v a1 a2 
  · intro M pc ls h a1 a2  P hP
    exact hP.2.2.2.2.2.2.2.2.2.2.2.2.1 M pc ls h a1 a2 
  · intro M pc ls st st0 h r idx N kind w1 w2 w3 w4 w5 a ci fs As v a1 a2 a3 a4 a5 a6 a7 a8 a9 k0 k P hP
    exact hP.2.2.2.2.2.2.2.2.2.2.2.2.2.1 M pc ls st st0 h r idx N kind w1 w2 w3 w4 w5 a ci fs As v a1 a2 a3 a4 a5 a6 a7 a8 a9 (k0 P hP) (k P hP)
  · intro M pc ls st st0 h r idx N kind w1 w2 w3 w4 w5 As v a1 a2 a3 a4 a5 a6 a7 k0 k P hP
    exact hP.2.2.2.2.2.2.2.2.2.2.2.2.2.2.1 M pc ls st st0 h r idx N kind w1 w2 w3 w4 w5 As v a1 a2 a3 a4 a5 a6 a7 (k0 P hP) (k P hP)
  · intro M pc ls st h idx is ic ci q a1 a2 a3 a4 a5 a6 a7 a8 a9 b1 P hP
    exact hP.2.2.2.2.2.2.2.2.2.2.2.2.2.2.2 M pc ls st h idx is ic ci q a1 a2 a3 a4 a5 a6 a7 a8 a9 b1
/-- a run that writes nothing and returns is a run -/
theorem RunsP.run {S : mE} {M : Nat} {f : mF} {v : Option Value} {h : mHp} (k : RunsP M f (.inl v, h)) : Run S M f (.inl v, h) := by
  have key := k (fun M f r => (∃ v, r.1 = .inl v) → Run S M f r) ?_
  · exact key ⟨v, rfl⟩
  have C := Run.closed S
  refine ⟨?_, ?_, ?_, ?_, ?_, ?_, ?_, ?_, ?_, ?_, ?_, ?_, ?_, ?_, ?_, ?_⟩
  · intro M pc ls st h r i len ls' st' a1 a2 a3 k hv
    exact C.1.1 M pc ls st h r i len ls' st' a1 a2 a3 (k hv)
  · intro M pc ls st h r i off st' tgt a1 a2 a3 k hv
    exact C.1.2.1 M pc ls st h r i off st' tgt a1 a2 a3 (k hv)
  · intro M pc ls st h r i st' a1 a2 a3 k hv
    exact C.1.2.2.1 M pc ls st h r i st' a1 a2 a3 (k hv)
  · intro M pc ls st h r idx v w a1 a2 k hv
    exact C.1.2.2.2.2.2.1 M pc ls st h r idx v w a1 a2 (k hv)
  · intro M pc ls st h r idx v w a1 a2 k hv
    exact C.1.2.2.2.2.2.2.1 M pc ls st h r idx v w a1 a2 (k hv)
  · intro M pc ls st h r idx ci j w a fs v a1 a2 a3 a4 k hv
    exact C.1.2.2.2.2.2.2.2.1 M pc ls st h r idx ci j w a fs v a1 a2 a3 a4 (k hv)
  · intro M pc ls st h r a n f i a1 a2 a3 k hv
    exact C.1.2.2.2.2.2.2.2.2.2.1 M pc ls st h r a n f i a1 a2 a3 (k hv)
  · intro M pc ls st h r a n f i a1 a2 a3 k hv
    exact C.1.2.2.2.2.2.2.2.2.2.2.1 M pc ls st h r a n f i a1 a2 a3 (k hv)
  · intro M pc ls st h r a n f i a1 a2 a3 k hv
    exact C.1.2.2.2.2.2.2.2.2.2.2.2.1 M pc ls st h r a n f i a1 a2 a3 (k hv)
  · intro M pc ls st h r a ty x a1 a2 a3 k hv
    exact C.1.2.2.2.2.2.2.2.2.2.2.2.2.2.2.2.1 M pc ls st h r a ty x a1 a2 a3 (k hv)
  · intro M pc ls h v ty a1 a2 a3  hv
    exact C.1.2.2.2.2.2.2.2.2.2.2.2.2.2.2.2.2.2.2.2.2.1 M pc ls h v ty a1 a2 a3 
  · intro M pc ls h v a1 a2  hv
    exact C.1.2.2.2.2.2.2.2.2.2.2.2.2.2.2.2.2.2.2.2.2.2.1 M pc ls h v a1 a2 
  · intro M pc ls h a1 a2  hv
    exact C.1.2.2.2.2.2.2.2.2.2.2.2.2.2.2.2.2.2.2.2.2.2.2.1 M pc ls h a1 a2 
  · intro M pc ls st st0 h r idx N kind w1 w2 w3 w4 w5 a ci fs As v a1 a2 a3 a4 a5 a6 a7 a8 a9 k0 k hv
    exact C.1.2.2.2.2.2.2.2.2.2.2.2.2.2.2.2.2.2.2.2.2.2.2.2.2.1 M pc ls st st0 h h r idx N kind w1 w2 w3 w4 w5 a ci fs As v a1 a2 a3 a4 a5 a6 a7 a8 a9 (k0 ⟨v, rfl⟩) (k hv)
  · intro M pc ls st st0 h r idx N kind w1 w2 w3 w4 w5 As v a1 a2 a3 a4 a5 a6 a7 k0 k hv
    exact C.1.2.2.2.2.2.2.2.2.2.2.2.2.2.2.2.2.2.2.2.2.2.2.2.2.2 M pc ls st st0 h h r idx N kind w1 w2 w3 w4 w5 As v a1 a2 a3 a4 a5 a6 a7 (k0 ⟨v, rfl⟩) (k hv)
  · intro M pc ls st h idx is ic ci q a1 a2 a3 a4 a5 a6 a7 a8 a9 b1 hv
    obtain ⟨v, hv⟩ := hv
    cases hv
end
section
/-! the rules as rows -/
section Rows
variable {S : mE} {M pc : Nat} {ls : mL} {st : List Value} {h : mHp} {r : mR}
theorem R_p {i : Instr} {len : Nat} {ls' : mL} {st' : List Value} (hd : decode (mCode M) pc = .ok (i, len)) (hn : mlen i = len) (hp : mpure (mMaxL M) i ls st = some (ls', st')) (k : Run S M (pc + len, ls', st', h) r) : Run S M (pc, ls, st, h) r := (Run.closed S).1.1 _ _ _ _ _ _ _ _ _ _ hd hn hp k
theorem R_br {i : Instr} {off : Int} {st' : List Value} (tgt : Nat) (hd : decode (mCode M) pc = .ok (i, 3)) (hp : mbr i st = some (some off, st')) (ht : (pc : Int) + off = (tgt : Int)) (k : Run S M (tgt, ls, st', h) r) : Run S M (pc, ls, st, h) r := (Run.closed S).1.2.1 _ _ _ _ _ _ _ _ _ _ hd hp ht k
theorem R_nb {i : Instr} {st' : List Value} (hd : decode (mCode M) pc = .ok (i, 3)) (hnn : mnn pc i = true) (hp : mbr i st = some (none, st')) (k : Run S M (pc + 3, ls, st', h) r) : Run S M (pc, ls, st, h) r := (Run.closed S).1.2.2.1 _ _ _ _ _ _ _ _ hd hnn hp k
theorem R_swo {dflt lo hi : Int} {offs : Array Int} {len : Nat} {x : Int32} (tgt : Nat) (hd : decode (mCode M) pc = .ok (.tableswitch dflt lo hi offs, len)) (ho : x.toInt < lo ∨ hi < x.toInt) (ht : (pc : Int) + dflt = (tgt : Int)) (k : Run S M (tgt, ls, st, h) r) : Run S M (pc, ls, .int x :: st, h) r := (Run.closed S).1.2.2.2.1 _ _ _ _ _ _ _ _ _ _ _ _ _ hd ho ht k
theorem R_swi {dflt lo hi : Int} {offs : Array Int} {len : Nat} {x : Int32} {off : Int} (tgt : Nat) (hd : decode (mCode M) pc = .ok (.tableswitch dflt lo hi offs, len)) (h1 : ¬ x.toInt < lo) (h2 : ¬ hi < x.toInt) (ho : offs[(x.toInt - lo).toNat]? = some off) (ht : (pc : Int) + off = (tgt : Int)) (k : Run S M (tgt, ls, st, h) r) : Run S M (pc, ls, .int x :: st, h) r := (Run.closed S).1.2.2.2.2.1 _ _ _ _ _ _ _ _ _ _ _ _ _ _ hd h1 h2 ho ht k
theorem R_ci {idx : Nat} {v : Int32} (w : Nat) (hd : decode (mCode M) pc = .ok (.ldc idx, 2)) (hf : (mOwn M, idx, v, w) ∈ mCiT) (k : Run S M (pc + 2, ls, .int v :: st, h) r) : Run S M (pc, ls, st, h) r := (Run.closed S).1.2.2.2.2.2.1 _ _ _ _ _ _ _ _ _ hd hf k
theorem R_cl {idx : Nat} {v : Int64} (w : Nat) (hd : decode (mCode M) pc = .ok (.ldc2_w idx, 3)) (hf : (mOwn M, idx, v, w) ∈ mClT) (k : Run S M (pc + 3, ls, .long v :: st, h) r) : Run S M (pc, ls, st, h) r := (Run.closed S).1.2.2.2.2.2.2.1 _ _ _ _ _ _ _ _ _ hd hf k
theorem R_get {idx ci j w a : Nat} {fs : List Value} {v : Value} (hd : decode (mCode M) pc = .ok (.getfield idx, 3)) (hf : (mOwn M, idx, ci, j, w) ∈ mFldT ∨ (mOwn M, idx, ci, j, w) ∈ mFldNT) (hg : mget h a = some (.inr (ci, fs))) (hv : fs[j]? = some v) (k : Run S M (pc + 3, ls, v :: st, h) r) : Run S M (pc, ls, .ref a :: st, h) r := (Run.closed S).1.2.2.2.2.2.2.2.1 _ _ _ _ _ _ _ _ _ _ _ _ _ hd hf hg hv k
theorem R_put {idx ci j w a : Nat} {fs : List Value} {v : Value} (hd : decode (mCode M) pc = .ok (.putfield idx, 3)) (hf : (mOwn M, idx, ci, j, w) ∈ mFldT) (hg : mget h a = some (.inr (ci, fs))) (hl : j < fs.length) (hn : narrow (mty ci j) v = v) (hft : fits (mty ci j) v = true) (hfin : mfin ci j = false ∨ ((mName M).name = "<init>" ∧ mOwn M = ci)) (k : Run S M (pc + 3, ls, st, mput h a (.inr (ci, fs.set j v))) r) : Run S M (pc, ls, v :: .ref a :: st, h) r := (Run.closed S).1.2.2.2.2.2.2.2.2.1 _ _ _ _ _ _ _ _ _ _ _ _ _ hd hf hg hl hn hft hfin k
theorem R_ild {a n : Nat} {f : Nat → Int32} {i : Int32} (hd : decode (mCode M) pc = .ok (.iaload, 1)) (hg : mget h a = some (.inl (.int, n, .inl f))) (hin : vp_in i n) (k : Run S M (pc + 1, ls, .int (f i.toNatClampNeg) :: st, h) r) : Run S M (pc, ls, .int i :: .ref a :: st, h) r := (Run.closed S).1.2.2.2.2.2.2.2.2.2.1 _ _ _ _ _ _ _ _ _ _ hd hg hin k
theorem R_zld {a n : Nat} {f : Nat → Int32} {i : Int32} (hd : decode (mCode M) pc = .ok (.baload, 1)) (hg : mget h a = some (.inl (.boolean, n, .inl f))) (hin : vp_in i n) (k : Run S M (pc + 1, ls, .int (f i.toNatClampNeg) :: st, h) r) : Run S M (pc, ls, .int i :: .ref a :: st, h) r := (Run.closed S).1.2.2.2.2.2.2.2.2.2.2.1 _ _ _ _ _ _ _ _ _ _ hd hg hin k
theorem R_lld {a n : Nat} {f : Nat → Int64} {i : Int32} (hd : decode (mCode M) pc = .ok (.laload, 1)) (hg : mget h a = some (.inl (.long, n, .inr (.inl f)))) (hin : vp_in i n) (k : Run S M (pc + 1, ls, .long (f i.toNatClampNeg) :: st, h) r) : Run S M (pc, ls, .int i :: .ref a :: st, h) r := (Run.closed S).1.2.2.2.2.2.2.2.2.2.2.2.1 _ _ _ _ _ _ _ _ _ _ hd hg hin k
theorem R_ist {a n : Nat} {f : Nat → Int32} {i x : Int32} (hd : decode (mCode M) pc = .ok (.iastore, 1)) (hg : mget h a = some (.inl (.int, n, .inl f))) (hin : vp_in i n) (k : Run S M (pc + 1, ls, st, mput h a (.inl (.int, n, .inl (upd f i.toNatClampNeg x)))) r) : Run S M (pc, ls, .int x :: .int i :: .ref a :: st, h) r := (Run.closed S).1.2.2.2.2.2.2.2.2.2.2.2.2.1 _ _ _ _ _ _ _ _ _ _ _ hd hg hin k
theorem R_zst {a n : Nat} {f : Nat → Int32} {i x : Int32} (hd : decode (mCode M) pc = .ok (.bastore, 1)) (hg : mget h a = some (.inl (.boolean, n, .inl f))) (hin : vp_in i n) (k : Run S M (pc + 1, ls, st, mput h a (.inl (.boolean, n, .inl (upd f i.toNatClampNeg (vp_nar .boolean x))))) r) : Run S M (pc, ls, .int x :: .int i :: .ref a :: st, h) r := (Run.closed S).1.2.2.2.2.2.2.2.2.2.2.2.2.2.1 _ _ _ _ _ _ _ _ _ _ _ hd hg hin k
theorem R_lst {a n : Nat} {f : Nat → Int64} {i : Int32} {x : Int64} (hd : decode (mCode M) pc = .ok (.lastore, 1)) (hg : mget h a = some (.inl (.long, n, .inr (.inl f)))) (hin : vp_in i n) (k : Run S M (pc + 1, ls, st, mput h a (.inl (.long, n, .inr (.inl (vp_updL f i.toNatClampNeg x))))) r) : Run S M (pc, ls, .long x :: .int i :: .ref a :: st, h) r := (Run.closed S).1.2.2.2.2.2.2.2.2.2.2.2.2.2.2.1 _ _ _ _ _ _ _ _ _ _ _ hd hg hin k
theorem R_len {a : Nat} {ty : FieldType} {x : vp_A} (hd : decode (mCode M) pc = .ok (.arraylength, 1)) (hg : mget h a = some (.inl (ty, x))) (hty : mprim ty = true) (k : Run S M (pc + 1, ls, .int (Int32.ofNat x.1) :: st, h) r) : Run S M (pc, ls, .ref a :: st, h) r := (Run.closed S).1.2.2.2.2.2.2.2.2.2.2.2.2.2.2.2.1 _ _ _ _ _ _ _ _ _ hd hg hty k
theorem R_sld {i : Int32} (hd : decode (mCode M) pc = .ok (.iaload, 1)) (hin : vp_in i S.1) (k : Run S M (pc + 1, ls, .int (S.2 i.toNatClampNeg) :: st, h) r) : Run S M (pc, ls, .int i :: .ref 0 :: st, h) r := (Run.closed S).1.2.2.2.2.2.2.2.2.2.2.2.2.2.2.2.2.1 _ _ _ _ _ _ _ hd hin k
theorem R_sln (hd : decode (mCode M) pc = .ok (.arraylength, 1)) (k : Run S M (pc + 1, ls, .int (Int32.ofNat S.1) :: st, h) r) : Run S M (pc, ls, .ref 0 :: st, h) r := (Run.closed S).1.2.2.2.2.2.2.2.2.2.2.2.2.2.2.2.2.2.1 _ _ _ _ _ _ hd k
theorem R_newa {at_ : ArrayType} {ty : FieldType} {n : Int32} {N : Nat} (hd : decode (mCode M) pc = .ok (.newarray at_, 2)) (hat : newarray.typeOf at_ = ty) (hty : mprim ty = true) (hn : ¬ n < 0) (hN : n.toNatClampNeg = N) (hNb : N ≤ 10000) (k : Run S M (pc + 2, ls, .ref (h.length + 16) :: st, h ++ [.inl (ty, mzero ty N)]) r) : Run S M (pc, ls, .int n :: st, h) r := (Run.closed S).1.2.2.2.2.2.2.2.2.2.2.2.2.2.2.2.2.2.2.1 _ _ _ _ _ _ _ _ _ _ hd hat hty hn hN hNb k
theorem R_new {idx ci w1 w2 w3 : Nat} (hd : decode (mCode M) pc = .ok (.new idx, 3)) (hf : (mOwn M, idx, ci, w1, w2, w3) ∈ mNewT) (k : Run S M (pc + 3, ls, .ref (h.length + 16) :: st, h ++ [.inr (ci, mdef ci)]) r) : Run S M (pc, ls, st, h) r := (Run.closed S).1.2.2.2.2.2.2.2.2.2.2.2.2.2.2.2.2.2.2.2.1 _ _ _ _ _ _ _ _ _ _ _ hd hf k
theorem R_iret {v : Int32} {h' : mHp} {ty : FieldType} (hd : decode (mCode M) pc = .ok (.ireturn, 1)) (hr : mRet M = some ty) (hn : narrow ty (.int v) = .int v) (hh : h = h') : Run S M (pc, ls, [.int v], h) (.inl (some (.int v)), h') := hh ▸ (Run.closed S).1.2.2.2.2.2.2.2.2.2.2.2.2.2.2.2.2.2.2.2.2.1 _ _ _ _ _ _ hd hr hn
theorem R_lret {v : Int64} {h' : mHp} (hd : decode (mCode M) pc = .ok (.lreturn, 1)) (hr : mRet M = some .long) (hh : h = h') : Run S M (pc, ls, [.long v], h) (.inl (some (.long v)), h') := hh ▸ (Run.closed S).1.2.2.2.2.2.2.2.2.2.2.2.2.2.2.2.2.2.2.2.2.2.1 _ _ _ _ _ hd hr
theorem R_vret {h' : mHp} (hd : decode (mCode M) pc = .ok (.return_, 1)) (hr : mRet M = none) (hh : h = h') : Run S M (pc, ls, [], h) (.inl none, h') := hh ▸ (Run.closed S).1.2.2.2.2.2.2.2.2.2.2.2.2.2.2.2.2.2.2.2.2.2.2.1 _ _ _ _ hd hr
theorem R_obj {idx w a : Nat} (hd : decode (mCode M) pc = .ok (.invokespecial idx, 3)) (hf : (mOwn M, idx, w) ∈ mObjT) (h1 : 1 ≤ mFr M) (h2 : mcats st + 12 ≤ mLo M) (k : Run S M (pc + 3, ls, st, h) r) : Run S M (pc, ls, .ref a :: st, h) r := (Run.closed S).1.2.2.2.2.2.2.2.2.2.2.2.2.2.2.2.2.2.2.2.2.2.2.2.1 _ _ _ _ _ _ _ _ _ hd hf h1 h2 k
theorem R_cv {st0 : List Value} {h' : mHp} {idx N kind w1 w2 w3 w4 w5 a ci : Nat} {fs : List Value} {v : Option Value} (As : List Value) (hd : decode (mCode M) pc = .ok ((if kind % 3 = 2 then .invokespecial idx else .invokevirtual idx), 3)) (hf : (mOwn M, idx, N, kind, w1, w2, w3, w4, w5) ∈ mLnkT) (hkd : kind % 3 = 2 ∨ kind % 3 = 0) (hrm : mroom M N st) (hst : st0 = As.reverse ++ .ref a :: st) (har : As.length = mAr N) (hcw : mcats (.ref a :: As) ≤ mMaxL N) (hg : mget h a = some (.inr (ci, fs))) (hci : mOwn N = ci) (k0 : Run S N (0, lv_args 0 (.ref a :: As), [], h) (.inl v, h')) (k : Run S M (pc + 3, ls, v.toList ++ st, h') r) : Run S M (pc, ls, st0, h) r := (Run.closed S).1.2.2.2.2.2.2.2.2.2.2.2.2.2.2.2.2.2.2.2.2.2.2.2.2.1 _ _ _ _ _ _ _ _ _ _ _ _ _ _ _ _ _ _ _ _ _ hd hf hkd hrm hst har hcw hg hci k0 k
theorem R_cs {st0 : List Value} {h' : mHp} {idx N kind w1 w2 w3 w4 w5 : Nat} {v : Option Value} (As : List Value) (hd : decode (mCode M) pc = .ok (.invokestatic idx, 3)) (hf : (mOwn M, idx, N, kind, w1, w2, w3, w4, w5) ∈ mLnkT) (hkd : kind % 3 = 1) (hrm : mroom M N st) (hst : st0 = As.reverse ++ st) (har : As.length = mAr N) (hcw : mcats As ≤ mMaxL N) (k0 : Run S N (0, lv_args 0 As, [], h) (.inl v, h')) (k : Run S M (pc + 3, ls, v.toList ++ st, h') r) : Run S M (pc, ls, st0, h) r := (Run.closed S).1.2.2.2.2.2.2.2.2.2.2.2.2.2.2.2.2.2.2.2.2.2.2.2.2.2 _ _ _ _ _ _ _ _ _ _ _ _ _ _ _ _ _ _ hd hf hkd hrm hst har hcw k0 k
theorem R_tv {st0 : List Value} {h' : mHp} {idx N w1 w2 w3 w4 w5 a ci x : Nat} {fs : List Value} (As : List Value) (hd : decode (mCode M) pc = .ok (.invokevirtual idx, 3)) (hf : (mOwn M, idx, N, 0, w1, w2, w3, w4, w5) ∈ mLnkT) (hrm : mrm M N st) (hst : st0 = As.reverse ++ .ref a :: st) (har : As.length = mAr N) (hcw : mcats (.ref a :: As) ≤ mMaxL N) (hg : mget h a = some (.inr (ci, fs))) (hci : mOwn N = ci) (hhd : mHand M = []) (k : Run S N (0, lv_args 0 (.ref a :: As), [], h) (.inr x, h') ∨ RunsP N (0, lv_args 0 (.ref a :: As), [], h) (.inr x, h')) : Run S M (pc, ls, st0, h) (.inr x, h') := (Run.closed S).2.1 _ _ _ _ _ _ _ _ _ _ _ _ _ _ _ _ _ _ _ hd hf hrm hst har hcw hg hci hhd k
theorem R_tc {st0 : List Value} {h' : mHp} {idx N w1 w2 w3 w4 w5 a ci x cx hp : Nat} {fs : List Value} (As : List Value) (hd : decode (mCode M) pc = .ok (.invokevirtual idx, 3)) (hf : (mOwn M, idx, N, 0, w1, w2, w3, w4, w5) ∈ mLnkT) (hrm : mrm M N st) (hst : st0 = As.reverse ++ .ref a :: st) (har : As.length = mAr N) (hcw : mcats (.ref a :: As) ≤ mMaxL N) (hg : mget h a = some (.inr (ci, fs))) (hci : mOwn N = ci) (hM : mOwn M = 13) (hgx : mget h' x = some (.inr (cx, []))) (hcx : cx = 10 ∨ cx = 11 ∨ cx = 12) (hall : ∀ q ∈ mHand M, q.2.2.2 = 13 ∨ q.2.2.2 = 15 ∨ q.2.2.2 = 27) (hfd : mfind (mHand M) pc cx = some hp) (k1 : Run S N (0, lv_args 0 (.ref a :: As), [], h) (.inr x, h') ∨ RunsP N (0, lv_args 0 (.ref a :: As), [], h) (.inr x, h')) (k : Run S M (hp, ls, [.ref x], h') r) : Run S M (pc, ls, st0, h) r := (Run.closed S).2.2.1 _ _ _ _ _ _ _ _ _ _ _ _ _ _ _ _ _ _ _ _ _ _ hd hf hrm hst har hcw hg hci hM hgx hcx hall hfd k1 k
theorem R_hs {st0 : List Value} {h' : mHp} {idx N w1 w2 w3 w4 w5 : Nat} {v : Option Value} (As : List Value) (hd : decode (mCode M) pc = .ok (.invokestatic idx, 3)) (hf : (mOwn M, idx, N, 1, w1, w2, w3, w4, w5) ∈ mLnkT) (hrm : mrm M N st) (hst : st0 = As.reverse ++ st) (har : As.length = mAr N) (hcw : mcats As ≤ mMaxL N) (k0 : Run S N (0, lv_args 0 As, [], h) (.inl v, h')) (k : Run S M (pc + 3, ls, v.toList ++ st, h') r) : Run S M (pc, ls, st0, h) r := (Run.closed S).2.2.2.1 _ _ _ _ _ _ _ _ _ _ _ _ _ _ _ _ _ hd hf hrm hst har hcw k0 k
theorem R_wk (ls : mL) {ls' : mL} (hs : ∀ q ∈ ls, q ∈ ls') (k : Run S M (pc, ls, st, h) r) : Run S M (pc, ls', st, h) r := (Run.closed S).2.2.2.2 _ _ _ _ _ _ _ hs k
theorem R_h (h' : mHp) (e : h = h') (k : Run S M (pc, ls, st, h') r) : Run S M (pc, ls, st, h) r := e ▸ k
-- runs that write nothing
theorem Q_p {i : Instr} {len : Nat} {ls' : mL} {st' : List Value} (hd : decode (mCode M) pc = .ok (i, len)) (hn : mlen i = len) (hp : mpure (mMaxL M) i ls st = some (ls', st')) (k : RunsP M (pc + len, ls', st', h) r) : RunsP M (pc, ls, st, h) r := RunsP.closed.1 _ _ _ _ _ _ _ _ _ _ hd hn hp k
theorem Q_br {i : Instr} {off : Int} {st' : List Value} (tgt : Nat) (hd : decode (mCode M) pc = .ok (i, 3)) (hp : mbr i st = some (some off, st')) (ht : (pc : Int) + off = (tgt : Int)) (k : RunsP M (tgt, ls, st', h) r) : RunsP M (pc, ls, st, h) r := RunsP.closed.2.1 _ _ _ _ _ _ _ _ _ _ hd hp ht k
theorem Q_nb {i : Instr} {st' : List Value} (hd : decode (mCode M) pc = .ok (i, 3)) (hnn : mnn pc i = true) (hp : mbr i st = some (none, st')) (k : RunsP M (pc + 3, ls, st', h) r) : RunsP M (pc, ls, st, h) r := RunsP.closed.2.2.1 _ _ _ _ _ _ _ _ hd hnn hp k
theorem Q_ci {idx : Nat} {v : Int32} (w : Nat) (hd : decode (mCode M) pc = .ok (.ldc idx, 2)) (hf : (mOwn M, idx, v, w) ∈ mCiT) (k : RunsP M (pc + 2, ls, .int v :: st, h) r) : RunsP M (pc, ls, st, h) r := RunsP.closed.2.2.2.1 _ _ _ _ _ _ _ _ _ hd hf k
theorem Q_cl {idx : Nat} {v : Int64} (w : Nat) (hd : decode (mCode M) pc = .ok (.ldc2_w idx, 3)) (hf : (mOwn M, idx, v, w) ∈ mClT) (k : RunsP M (pc + 3, ls, .long v :: st, h) r) : RunsP M (pc, ls, st, h) r := RunsP.closed.2.2.2.2.1 _ _ _ _ _ _ _ _ _ hd hf k
theorem Q_get {idx ci j w a : Nat} {fs : List Value} {v : Value} (hd : decode (mCode M) pc = .ok (.getfield idx, 3)) (hf : (mOwn M, idx, ci, j, w) ∈ mFldT ∨ (mOwn M, idx, ci, j, w) ∈ mFldNT) (hg : mget h a = some (.inr (ci, fs))) (hv : fs[j]? = some v) (k : RunsP M (pc + 3, ls, v :: st, h) r) : RunsP M (pc, ls, .ref a :: st, h) r := RunsP.closed.2.2.2.2.2.1 _ _ _ _ _ _ _ _ _ _ _ _ _ hd hf hg hv k
theorem Q_ild {a n : Nat} {f : Nat → Int32} {i : Int32} (hd : decode (mCode M) pc = .ok (.iaload, 1)) (hg : mget h a = some (.inl (.int, n, .inl f))) (hin : vp_in i n) (k : RunsP M (pc + 1, ls, .int (f i.toNatClampNeg) :: st, h) r) : RunsP M (pc, ls, .int i :: .ref a :: st, h) r := RunsP.closed.2.2.2.2.2.2.1 _ _ _ _ _ _ _ _ _ _ hd hg hin k
theorem Q_zld {a n : Nat} {f : Nat → Int32} {i : Int32} (hd : decode (mCode M) pc = .ok (.baload, 1)) (hg : mget h a = some (.inl (.boolean, n, .inl f))) (hin : vp_in i n) (k : RunsP M (pc + 1, ls, .int (f i.toNatClampNeg) :: st, h) r) : RunsP M (pc, ls, .int i :: .ref a :: st, h) r := RunsP.closed.2.2.2.2.2.2.2.1 _ _ _ _ _ _ _ _ _ _ hd hg hin k
theorem Q_lld {a n : Nat} {f : Nat → Int64} {i : Int32} (hd : decode (mCode M) pc = .ok (.laload, 1)) (hg : mget h a = some (.inl (.long, n, .inr (.inl f)))) (hin : vp_in i n) (k : RunsP M (pc + 1, ls, .long (f i.toNatClampNeg) :: st, h) r) : RunsP M (pc, ls, .int i :: .ref a :: st, h) r := RunsP.closed.2.2.2.2.2.2.2.2.1 _ _ _ _ _ _ _ _ _ _ hd hg hin k
theorem Q_iret {v : Int32} {ty : FieldType} (hd : decode (mCode M) pc = .ok (.ireturn, 1)) (hr : mRet M = some ty) (hn : narrow ty (.int v) = .int v) : RunsP M (pc, ls, [.int v], h) (.inl (some (.int v)), h) := RunsP.closed.2.2.2.2.2.2.2.2.2.2.1 _ _ _ _ _ _ hd hr hn
theorem Q_lret {v : Int64} (hd : decode (mCode M) pc = .ok (.lreturn, 1)) (hr : mRet M = some .long) : RunsP M (pc, ls, [.long v], h) (.inl (some (.long v)), h) := RunsP.closed.2.2.2.2.2.2.2.2.2.2.2.1 _ _ _ _ _ hd hr
theorem Q_vret (hd : decode (mCode M) pc = .ok (.return_, 1)) (hr : mRet M = none) : RunsP M (pc, ls, [], h) (.inl none, h) := RunsP.closed.2.2.2.2.2.2.2.2.2.2.2.2.1 _ _ _ _ hd hr
theorem Q_cv {st0 : List Value} {idx N kind w1 w2 w3 w4 w5 a ci : Nat} {fs : List Value} {v : Option Value} (As : List Value) (hd : decode (mCode M) pc = .ok ((if kind % 3 = 2 then .invokespecial idx else .invokevirtual idx), 3)) (hf : (mOwn M, idx, N, kind, w1, w2, w3, w4, w5) ∈ mLnkT) (hkd : kind % 3 = 2 ∨ kind % 3 = 0) (hrm : mroom M N st) (hst : st0 = As.reverse ++ .ref a :: st) (har : As.length = mAr N) (hcw : mcats (.ref a :: As) ≤ mMaxL N) (hg : mget h a = some (.inr (ci, fs))) (hci : mOwn N = ci) (k0 : RunsP N (0, lv_args 0 (.ref a :: As), [], h) (.inl v, h)) (k : RunsP M (pc + 3, ls, v.toList ++ st, h) r) : RunsP M (pc, ls, st0, h) r := RunsP.closed.2.2.2.2.2.2.2.2.2.2.2.2.2.1 _ _ _ _ _ _ _ _ _ _ _ _ _ _ _ _ _ _ _ _ hd hf hkd hrm hst har hcw hg hci k0 k
theorem Q_cs {st0 : List Value} {idx N kind w1 w2 w3 w4 w5 : Nat} {v : Option Value} (As : List Value) (hd : decode (mCode M) pc = .ok (.invokestatic idx, 3)) (hf : (mOwn M, idx, N, kind, w1, w2, w3, w4, w5) ∈ mLnkT) (hkd : kind % 3 = 1) (hrm : mroom M N st) (hst : st0 = As.reverse ++ st) (har : As.length = mAr N) (hcw : mcats As ≤ mMaxL N) (k0 : RunsP N (0, lv_args 0 As, [], h) (.inl v, h)) (k : RunsP M (pc + 3, ls, v.toList ++ st, h) r) : RunsP M (pc, ls, st0, h) r := RunsP.closed.2.2.2.2.2.2.2.2.2.2.2.2.2.2.1 _ _ _ _ _ _ _ _ _ _ _ _ _ _ _ _ _ hd hf hkd hrm hst har hcw k0 k
theorem Q_thr {idx is ic ci : Nat} (q : Nat) (d0 : decode (mCode M) pc = .ok (.new idx, 3)) (d3 : decode (mCode M) (pc + 3) = .ok (.dup, 1)) (d4 : decode (mCode M) (pc + 4) = .ok (.ldc is, 2)) (d6 : decode (mCode M) (pc + 6) = .ok (.invokespecial ic, 3)) (d9 : decode (mCode M) (pc + 9) = .ok (.athrow, 1)) (ho : mOwn M = 8) (hf : (idx, is, ic, ci, q) ∈ mThrT) (hhd : mHand M = []) (hfr : 6 ≤ mFr M) (hlo : mcats st + 82 ≤ mLo M) : RunsP M (pc, ls, st, h) (.inr (h.length + 16), h ++ [.inr (ci, [])]) := RunsP.closed.2.2.2.2.2.2.2.2.2.2.2.2.2.2.2 _ _ _ _ _ _ _ _ _ _ d0 d3 d4 d6 d9 ho hf hhd hfr hlo
end Rows
end
section
/-! the heap of the small machine, loops; Arrays.fill -/
theorem d167_0 : decode (mCode 167) 0 = .ok (.iconst 0, 1) := by decide +kernel
theorem d167_1 : decode (mCode 167) 1 = .ok (.istore_n 2, 1) := by decide +kernel
theorem d167_2 : decode (mCode 167) 2 = .ok (.aload_n 0, 1) := by decide +kernel
theorem d167_3 : decode (mCode 167) 3 = .ok (.arraylength, 1) := by decide +kernel
theorem d167_4 : decode (mCode 167) 4 = .ok (.istore_n 3, 1) := by decide +kernel
theorem d167_5 : decode (mCode 167) 5 = .ok (.iload_n 2, 1) := by decide +kernel
theorem d167_6 : decode (mCode 167) 6 = .ok (.iload_n 3, 1) := by decide +kernel
theorem d167_7 : decode (mCode 167) 7 = .ok (.if_icmp .ge 13, 3) := by decide +kernel
theorem d167_10 : decode (mCode 167) 10 = .ok (.aload_n 0, 1) := by decide +kernel
theorem d167_11 : decode (mCode 167) 11 = .ok (.iload_n 2, 1) := by decide +kernel
theorem d167_12 : decode (mCode 167) 12 = .ok (.iload_n 1, 1) := by decide +kernel
theorem d167_13 : decode (mCode 167) 13 = .ok (.iastore, 1) := by decide +kernel
theorem d167_14 : decode (mCode 167) 14 = .ok (.iinc 2 1, 3) := by decide +kernel
theorem d167_17 : decode (mCode 167) 17 = .ok (.goto (-12), 3) := by decide +kernel
theorem d167_20 : decode (mCode 167) 20 = .ok (.return_, 1) := by decide +kernel
theorem d168_0 : decode (mCode 168) 0 = .ok (.iconst 0, 1) := by decide +kernel
theorem d168_1 : decode (mCode 168) 1 = .ok (.istore_n 3, 1) := by decide +kernel
theorem d168_2 : decode (mCode 168) 2 = .ok (.aload_n 0, 1) := by decide +kernel
theorem d168_3 : decode (mCode 168) 3 = .ok (.arraylength, 1) := by decide +kernel
theorem d168_4 : decode (mCode 168) 4 = .ok (.istore 4, 2) := by decide +kernel
theorem d168_6 : decode (mCode 168) 6 = .ok (.iload_n 3, 1) := by decide +kernel
theorem d168_7 : decode (mCode 168) 7 = .ok (.iload 4, 2) := by decide +kernel
theorem d168_9 : decode (mCode 168) 9 = .ok (.if_icmp .ge 13, 3) := by decide +kernel
theorem d168_12 : decode (mCode 168) 12 = .ok (.aload_n 0, 1) := by decide +kernel
theorem d168_13 : decode (mCode 168) 13 = .ok (.iload_n 3, 1) := by decide +kernel
theorem d168_14 : decode (mCode 168) 14 = .ok (.lload_n 1, 1) := by decide +kernel
theorem d168_15 : decode (mCode 168) 15 = .ok (.lastore, 1) := by decide +kernel
theorem d168_16 : decode (mCode 168) 16 = .ok (.iinc 3 1, 3) := by decide +kernel
theorem d168_19 : decode (mCode 168) 19 = .ok (.goto (-13), 3) := by decide +kernel
theorem d168_22 : decode (mCode 168) 22 = .ok (.return_, 1) := by decide +kernel
theorem mget_eq {h : mHp} {a : Nat} {c0 : mC} (hg : mget h a = some c0) (c : mC) : mget (mput h a c) a = some c := by
  unfold mget at hg ⊢
  by_cases ha : a < 16
  · rw [if_pos ha] at hg; cases hg
  · rw [if_neg ha] at hg ⊢
    have hl := (List.getElem?_eq_some_iff.mp hg).1
    unfold mput
    rw [List.getElem?_set_self hl]
theorem mget_ne {h : mHp} {a b : Nat} {c : mC} (hab : a ≠ b) (ha : 16 ≤ a) : mget (mput h a c) b = mget h b := by
  unfold mget mput
  by_cases hb : b < 16
  · rw [if_pos hb, if_pos hb]
  · rw [if_neg hb, if_neg hb, List.getElem?_set_ne (by omega)]
theorem mput_put (h : mHp) (a : Nat) (c c' : mC) : mput (mput h a c) a c' = mput h a c' := by unfold mput; rw [List.set_set]
theorem mput_self {h : mHp} {a : Nat} {c : mC} (hg : mget h a = some c) : mput h a c = h := by
  unfold mget at hg
  by_cases ha : a < 16
  · rw [if_pos ha] at hg; cases hg
  · rw [if_neg ha] at hg
    obtain ⟨hl, he⟩ := List.getElem?_eq_some_iff.mp hg
    unfold mput
    rw [← he, List.set_getElem_self]
theorem R_e {S : mE} {M : Nat} {f : mF} {r : mR} (f' : mF) (e : f = f') (k : Run S M f' r) : Run S M f r := e ▸ k
theorem R_r {S : mE} {M : Nat} {f : mF} {r : mR} (r' : mR) (e : r' = r) (k : Run S M f r') : Run S M f r := e ▸ k
theorem mb_t {b : Prop} [Decidable b] {off : Int} {t : List Value} (h : b) : mb1 b off t = some (some off, t) := by simp [mb1, h]
theorem mb_f {b : Prop} [Decidable b] {off : Int} {t : List Value} (h : ¬ b) : mb1 b off t = some (none, t) := by simp [mb1, h]
theorem nI_inc (i : Nat) : nI i + Int32.ofInt 1 = nI (i + 1) := nI_1 i
def mfill {α : Type} (n : Nat) (v : α) (f : Nat → α) : Nat → α := fun j => if j < n then v else f j
theorem mfill_0 {α : Type} (v : α) (f : Nat → α) : mfill 0 v f = f := by funext j; simp [mfill]
theorem mfill_s (n : Nat) (v : Int32) (f : Nat → Int32) : upd (mfill n v f) n v = mfill (n + 1) v f := by
  funext j
  simp only [upd, mfill]
  by_cases h : j = n
  · simp [h]
  · by_cases h2 : j < n
    · simp [h, h2, Nat.lt_succ_of_lt h2]
    · simp [h, h2, show ¬ j < n + 1 by omega]
theorem mfill_sL (n : Nat) (v : Int64) (f : Nat → Int64) : vp_updL (mfill n v f) n v = mfill (n + 1) v f := by
  funext j
  simp only [vp_updL, mfill]
  by_cases h : j = n
  · simp [h]
  · by_cases h2 : j < n
    · simp [h, h2, Nat.lt_succ_of_lt h2]
    · simp [h, h2, show ¬ j < n + 1 by omega]
theorem t_fillI_loop {S : mE} {h : mHp} {a n : Nat} {f : Nat → Int32} {v : Int32} (hn : n ≤ 10000) (hg : mget h a = some (.inl (.int, n, .inl f))) : ∀ k i : Nat, i + k = n → Run S 167 (5, [(0, .ref a), (1, .int v), (2, .int (nI i)), (3, .int (nI n))], [], mput h a (.inl (.int, n, .inl (mfill i v f)))) (.inl none, mput h a (.inl (.int, n, .inl (mfill n v f)))) := by
  intro k
  induction k with
  | zero =>
    intro i hi
    have hi : i = n := by omega
    subst hi
    refine R_p d167_5 rfl rfl ?_
    refine R_p d167_6 rfl rfl ?_
    refine R_br 20 d167_7 (mb_t (b := nI i ≤ nI i) (nI_le (Nat.le_refl _) (by omega))) rfl ?_
    exact R_vret d167_20 rfl rfl
  | succ k ih =>
    intro i hi
    refine R_p d167_5 rfl rfl ?_
    refine R_p d167_6 rfl rfl ?_
    refine R_nb d167_7 rfl (mb_f (b := nI n ≤ nI i) (nI_ge (by omega) (by omega))) ?_
    refine R_p d167_10 rfl rfl ?_
    refine R_p d167_11 rfl rfl ?_
    refine R_p d167_12 rfl rfl ?_
    refine R_ist d167_13 (mget_eq hg _) (vp_in_nI (by omega) (by omega)) ?_
    refine R_p d167_14 rfl rfl ?_
    refine R_br 5 d167_17 rfl rfl ?_
    refine R_e (5, [(0, .ref a), (1, .int v), (2, .int (nI (i + 1))), (3, .int (nI n))], [], mput h a (.inl (.int, n, .inl (mfill (i + 1) v f)))) ?_ (ih (i + 1) (by omega))
    rw [mput_put, nI_clamp (by omega), mfill_s, ← nI_inc]
    rfl
theorem t_fillI {S : mE} {h : mHp} {a n : Nat} {f : Nat → Int32} {v : Int32} (hn : n ≤ 10000) (hg : mget h a = some (.inl (.int, n, .inl f))) : Run S 167 (0, [(0, .ref a), (1, .int v)], [], h) (.inl none, mput h a (.inl (.int, n, .inl (mfill n v f)))) := by
  refine R_p d167_0 rfl rfl ?_
  refine R_p d167_1 rfl rfl ?_
  refine R_p d167_2 rfl rfl ?_
  refine R_len d167_3 hg rfl ?_
  refine R_p d167_4 rfl rfl ?_
  refine R_e (5, [(0, .ref a), (1, .int v), (2, .int (nI 0)), (3, .int (nI n))], [], mput h a (.inl (.int, n, .inl (mfill 0 v f)))) ?_ (t_fillI_loop hn hg n 0 (by omega))
  rw [mfill_0, mput_self hg]
  rfl
theorem t_fillL_loop {S : mE} {h : mHp} {a n : Nat} {f : Nat → Int64} {v : Int64} (hn : n ≤ 10000) (hg : mget h a = some (.inl (.long, n, .inr (.inl f)))) : ∀ k i : Nat, i + k = n → Run S 168 (6, [(0, .ref a), (1, .long v), (3, .int (nI i)), (4, .int (nI n))], [], mput h a (.inl (.long, n, .inr (.inl (mfill i v f))))) (.inl none, mput h a (.inl (.long, n, .inr (.inl (mfill n v f))))) := by
  intro k
  induction k with
  | zero =>
    intro i hi
    have hi : i = n := by omega
    subst hi
    refine R_p d168_6 rfl rfl ?_
    refine R_p d168_7 rfl rfl ?_
    refine R_br 22 d168_9 (mb_t (b := nI i ≤ nI i) (nI_le (Nat.le_refl _) (by omega))) rfl ?_
    exact R_vret d168_22 rfl rfl
  | succ k ih =>
    intro i hi
    refine R_p d168_6 rfl rfl ?_
    refine R_p d168_7 rfl rfl ?_
    refine R_nb d168_9 rfl (mb_f (b := nI n ≤ nI i) (nI_ge (by omega) (by omega))) ?_
    refine R_p d168_12 rfl rfl ?_
    refine R_p d168_13 rfl rfl ?_
    refine R_p d168_14 rfl rfl ?_
    refine R_lst d168_15 (mget_eq hg _) (vp_in_nI (by omega) (by omega)) ?_
    refine R_p d168_16 rfl rfl ?_
    refine R_br 6 d168_19 rfl rfl ?_
    refine R_e (6, [(0, .ref a), (1, .long v), (3, .int (nI (i + 1))), (4, .int (nI n))], [], mput h a (.inl (.long, n, .inr (.inl (mfill (i + 1) v f))))) ?_ (ih (i + 1) (by omega))
    rw [mput_put, nI_clamp (by omega), mfill_sL, ← nI_inc]
    rfl
theorem t_fillL {S : mE} {h : mHp} {a n : Nat} {f : Nat → Int64} {v : Int64} (hn : n ≤ 10000) (hg : mget h a = some (.inl (.long, n, .inr (.inl f)))) : Run S 168 (0, [(0, .ref a), (1, .long v)], [], h) (.inl none, mput h a (.inl (.long, n, .inr (.inl (mfill n v f))))) := by
  refine R_p d168_0 rfl rfl ?_
  refine R_p d168_1 rfl rfl ?_
  refine R_p d168_2 rfl rfl ?_
  refine R_len d168_3 hg rfl ?_
  refine R_p d168_4 rfl rfl ?_
  refine R_e (6, [(0, .ref a), (1, .long v), (3, .int (nI 0)), (4, .int (nI n))], [], mput h a (.inl (.long, n, .inr (.inl (mfill 0 v f))))) ?_ (t_fillL_loop hn hg n 0 (by omega))
  rw [mfill_0, mput_self hg]
  rfl
end
section
/-! constants as rows; the constructors, from the empty heap on, by program (wip/gen/c15.py) -/
section Consts
variable {S : mE} {M pc : Nat} {ls : mL} {st : List Value} {h : mHp} {r : mR}
theorem R_ic {n : Int} {v : Int32} (hd : decode (mCode M) pc = .ok (.iconst n, 1)) (hv : Int32.ofInt n = v) (k : Run S M (pc + 1, ls, .int v :: st, h) r) : Run S M (pc, ls, st, h) r := R_p hd rfl (by rw [← hv]; rfl) k
theorem R_bi {n : Int} {v : Int32} (hd : decode (mCode M) pc = .ok (.bipush n, 2)) (hv : (Int8.ofInt n).toInt32 = v) (k : Run S M (pc + 2, ls, .int v :: st, h) r) : Run S M (pc, ls, st, h) r := R_p hd rfl (by rw [← hv]; rfl) k
theorem R_si {n : Int} {v : Int32} (hd : decode (mCode M) pc = .ok (.sipush n, 3)) (hv : (Int16.ofInt n).toInt32 = v) (k : Run S M (pc + 3, ls, .int v :: st, h) r) : Run S M (pc, ls, st, h) r := R_p hd rfl (by rw [← hv]; rfl) k
theorem R_lc {n : Fin 2} {v : Int64} (hd : decode (mCode M) pc = .ok (.lconst n, 1)) (hv : Int64.ofNat n.val = v) (k : Run S M (pc + 1, ls, .long v :: st, h) r) : Run S M (pc, ls, st, h) r := R_p hd rfl (by rw [← hv]; rfl) k
theorem Q_ic {n : Int} {v : Int32} (hd : decode (mCode M) pc = .ok (.iconst n, 1)) (hv : Int32.ofInt n = v) (k : RunsP M (pc + 1, ls, .int v :: st, h) r) : RunsP M (pc, ls, st, h) r := Q_p hd rfl (by rw [← hv]; rfl) k
theorem Q_bi {n : Int} {v : Int32} (hd : decode (mCode M) pc = .ok (.bipush n, 2)) (hv : (Int8.ofInt n).toInt32 = v) (k : RunsP M (pc + 2, ls, .int v :: st, h) r) : RunsP M (pc, ls, st, h) r := Q_p hd rfl (by rw [← hv]; rfl) k
theorem Q_si {n : Int} {v : Int32} (hd : decode (mCode M) pc = .ok (.sipush n, 3)) (hv : (Int16.ofInt n).toInt32 = v) (k : RunsP M (pc + 3, ls, .int v :: st, h) r) : RunsP M (pc, ls, st, h) r := Q_p hd rfl (by rw [← hv]; rfl) k
theorem Q_lc {n : Fin 2} {v : Int64} (hd : decode (mCode M) pc = .ok (.lconst n, 1)) (hv : Int64.ofNat n.val = v) (k : RunsP M (pc + 1, ls, .long v :: st, h) r) : RunsP M (pc, ls, st, h) r := Q_p hd rfl (by rw [← hv]; rfl) k
theorem R_cc {st0 : List Value} {h' : mHp} {idx N kind w1 w2 w3 w4 w5 a ci : Nat} {fs : List Value} {v : Option Value} (As : List Value) (hd : decode (mCode M) pc = .ok (.invokespecial idx, 3)) (hf : (mOwn M, idx, N, kind, w1, w2, w3, w4, w5) ∈ mLnkT) (hkd : kind % 3 = 2) (hrm : mroom M N st) (hst : st0 = As.reverse ++ .ref a :: st) (har : As.length = mAr N) (hcw : mcats (.ref a :: As) ≤ mMaxL N) (hg : mget h a = some (.inr (ci, fs))) (hci : mOwn N = ci) (k0 : Run S N (0, lv_args 0 (.ref a :: As), [], h) (.inl v, h')) (k : Run S M (pc + 3, ls, v.toList ++ st, h') r) : Run S M (pc, ls, st0, h) r := R_cv As (by rw [if_pos hkd]; exact hd) hf (Or.inl hkd) hrm hst har hcw hg hci k0 k
theorem R_cm {st0 : List Value} {h' : mHp} {idx N kind w1 w2 w3 w4 w5 a ci : Nat} {fs : List Value} {v : Option Value} (As : List Value) (hd : decode (mCode M) pc = .ok (.invokevirtual idx, 3)) (hf : (mOwn M, idx, N, kind, w1, w2, w3, w4, w5) ∈ mLnkT) (hkd : kind % 3 = 0) (hrm : mroom M N st) (hst : st0 = As.reverse ++ .ref a :: st) (har : As.length = mAr N) (hcw : mcats (.ref a :: As) ≤ mMaxL N) (hg : mget h a = some (.inr (ci, fs))) (hci : mOwn N = ci) (k0 : Run S N (0, lv_args 0 (.ref a :: As), [], h) (.inl v, h')) (k : Run S M (pc + 3, ls, v.toList ++ st, h') r) : Run S M (pc, ls, st0, h) r := R_cv As (by rw [if_neg (by omega)]; exact hd) hf (Or.inr hkd) hrm hst har hcw hg hci k0 k
theorem Q_cm {st0 : List Value} {idx N kind w1 w2 w3 w4 w5 a ci : Nat} {fs : List Value} {v : Option Value} (As : List Value) (hd : decode (mCode M) pc = .ok (.invokevirtual idx, 3)) (hf : (mOwn M, idx, N, kind, w1, w2, w3, w4, w5) ∈ mLnkT) (hkd : kind % 3 = 0) (hrm : mroom M N st) (hst : st0 = As.reverse ++ .ref a :: st) (har : As.length = mAr N) (hcw : mcats (.ref a :: As) ≤ mMaxL N) (hg : mget h a = some (.inr (ci, fs))) (hci : mOwn N = ci) (k0 : RunsP N (0, lv_args 0 (.ref a :: As), [], h) (.inl v, h)) (k : RunsP M (pc + 3, ls, v.toList ++ st, h) r) : RunsP M (pc, ls, st0, h) r := Q_cv As (by rw [if_neg (by omega)]; exact hd) hf (Or.inr hkd) hrm hst har hcw hg hci k0 k
end Consts
theorem d0_0 : decode (mCode 0) 0 = .ok (.aload_n 0, 1) := by decide +kernel
theorem d0_1 : decode (mCode 0) 1 = .ok (.invokespecial 3, 3) := by decide +kernel
theorem d0_4 : decode (mCode 0) 4 = .ok (.aload_n 0, 1) := by decide +kernel
theorem d0_5 : decode (mCode 0) 5 = .ok (.bipush 77, 2) := by decide +kernel
theorem d0_7 : decode (mCode 0) 7 = .ok (.newarray .int, 2) := by decide +kernel
theorem d0_9 : decode (mCode 0) 9 = .ok (.putfield 9, 3) := by decide +kernel
theorem d0_12 : decode (mCode 0) 12 = .ok (.aload_n 0, 1) := by decide +kernel
theorem d0_13 : decode (mCode 0) 13 = .ok (.iload_n 1, 1) := by decide +kernel
theorem d0_14 : decode (mCode 0) 14 = .ok (.putfield 15, 3) := by decide +kernel
theorem d0_17 : decode (mCode 0) 17 = .ok (.return_, 1) := by decide +kernel
theorem d9_0 : decode (mCode 9) 0 = .ok (.aload_n 0, 1) := by decide +kernel
theorem d9_1 : decode (mCode 9) 1 = .ok (.invokespecial 3, 3) := by decide +kernel
theorem d9_4 : decode (mCode 9) 4 = .ok (.aload_n 0, 1) := by decide +kernel
theorem d9_5 : decode (mCode 9) 5 = .ok (.new 9, 3) := by decide +kernel
theorem d9_8 : decode (mCode 9) 8 = .ok (.dup, 1) := by decide +kernel
theorem d9_9 : decode (mCode 9) 9 = .ok (.iconst 1, 1) := by decide +kernel
theorem d9_10 : decode (mCode 9) 10 = .ok (.invokespecial 11, 3) := by decide +kernel
theorem d9_13 : decode (mCode 9) 13 = .ok (.putfield 14, 3) := by decide +kernel
theorem d9_16 : decode (mCode 9) 16 = .ok (.aload_n 0, 1) := by decide +kernel
theorem d9_17 : decode (mCode 9) 17 = .ok (.new 9, 3) := by decide +kernel
theorem d9_20 : decode (mCode 9) 20 = .ok (.dup, 1) := by decide +kernel
theorem d9_21 : decode (mCode 9) 21 = .ok (.iconst (-1), 1) := by decide +kernel
theorem d9_22 : decode (mCode 9) 22 = .ok (.invokespecial 11, 3) := by decide +kernel
theorem d9_25 : decode (mCode 9) 25 = .ok (.putfield 20, 3) := by decide +kernel
theorem d9_28 : decode (mCode 9) 28 = .ok (.aload_n 0, 1) := by decide +kernel
theorem d9_29 : decode (mCode 9) 29 = .ok (.bipush 77, 2) := by decide +kernel
theorem d9_31 : decode (mCode 9) 31 = .ok (.newarray .int, 2) := by decide +kernel
theorem d9_33 : decode (mCode 9) 33 = .ok (.putfield 23, 3) := by decide +kernel
theorem d9_36 : decode (mCode 9) 36 = .ok (.aload_n 0, 1) := by decide +kernel
theorem d9_37 : decode (mCode 9) 37 = .ok (.aload_n 1, 1) := by decide +kernel
theorem d9_38 : decode (mCode 9) 38 = .ok (.putfield 27, 3) := by decide +kernel
theorem d9_41 : decode (mCode 9) 41 = .ok (.return_, 1) := by decide +kernel
theorem d19_0 : decode (mCode 19) 0 = .ok (.aload_n 0, 1) := by decide +kernel
theorem d19_1 : decode (mCode 19) 1 = .ok (.invokespecial 3, 3) := by decide +kernel
theorem d19_4 : decode (mCode 19) 4 = .ok (.aload_n 0, 1) := by decide +kernel
theorem d19_5 : decode (mCode 19) 5 = .ok (.bipush 75, 2) := by decide +kernel
theorem d19_7 : decode (mCode 19) 7 = .ok (.newarray .int, 2) := by decide +kernel
theorem d19_9 : decode (mCode 19) 9 = .ok (.putfield 9, 3) := by decide +kernel
theorem d19_12 : decode (mCode 19) 12 = .ok (.aload_n 0, 1) := by decide +kernel
theorem d19_13 : decode (mCode 19) 13 = .ok (.bipush 75, 2) := by decide +kernel
theorem d19_15 : decode (mCode 19) 15 = .ok (.newarray .int, 2) := by decide +kernel
theorem d19_17 : decode (mCode 19) 17 = .ok (.putfield 15, 3) := by decide +kernel
theorem d19_20 : decode (mCode 19) 20 = .ok (.aload_n 0, 1) := by decide +kernel
theorem d19_21 : decode (mCode 19) 21 = .ok (.aload_n 1, 1) := by decide +kernel
theorem d19_22 : decode (mCode 19) 22 = .ok (.putfield 18, 3) := by decide +kernel
theorem d19_25 : decode (mCode 19) 25 = .ok (.aload_n 0, 1) := by decide +kernel
theorem d19_26 : decode (mCode 19) 26 = .ok (.aload_n 2, 1) := by decide +kernel
theorem d19_27 : decode (mCode 19) 27 = .ok (.putfield 22, 3) := by decide +kernel
theorem d19_30 : decode (mCode 19) 30 = .ok (.return_, 1) := by decide +kernel
theorem d35_0 : decode (mCode 35) 0 = .ok (.aload_n 0, 1) := by decide +kernel
theorem d35_1 : decode (mCode 35) 1 = .ok (.invokespecial 3, 3) := by decide +kernel
theorem d35_4 : decode (mCode 35) 4 = .ok (.aload_n 0, 1) := by decide +kernel
theorem d35_5 : decode (mCode 35) 5 = .ok (.bipush 40, 2) := by decide +kernel
theorem d35_7 : decode (mCode 35) 7 = .ok (.newarray .long, 2) := by decide +kernel
theorem d35_9 : decode (mCode 35) 9 = .ok (.putfield 9, 3) := by decide +kernel
theorem d35_12 : decode (mCode 35) 12 = .ok (.aload_n 0, 1) := by decide +kernel
theorem d35_13 : decode (mCode 35) 13 = .ok (.aload_n 1, 1) := by decide +kernel
theorem d35_14 : decode (mCode 35) 14 = .ok (.putfield 15, 3) := by decide +kernel
theorem d35_17 : decode (mCode 35) 17 = .ok (.return_, 1) := by decide +kernel
theorem d44_0 : decode (mCode 44) 0 = .ok (.aload_n 0, 1) := by decide +kernel
theorem d44_1 : decode (mCode 44) 1 = .ok (.invokespecial 3, 3) := by decide +kernel
theorem d44_4 : decode (mCode 44) 4 = .ok (.aload_n 0, 1) := by decide +kernel
theorem d44_5 : decode (mCode 44) 5 = .ok (.sipush 1600, 3) := by decide +kernel
theorem d44_8 : decode (mCode 44) 8 = .ok (.newarray .int, 2) := by decide +kernel
theorem d44_10 : decode (mCode 44) 10 = .ok (.putfield 9, 3) := by decide +kernel
theorem d44_13 : decode (mCode 44) 13 = .ok (.aload_n 0, 1) := by decide +kernel
theorem d44_14 : decode (mCode 44) 14 = .ok (.sipush 1600, 3) := by decide +kernel
theorem d44_17 : decode (mCode 44) 17 = .ok (.newarray .int, 2) := by decide +kernel
theorem d44_19 : decode (mCode 44) 19 = .ok (.putfield 15, 3) := by decide +kernel
theorem d44_22 : decode (mCode 44) 22 = .ok (.aload_n 0, 1) := by decide +kernel
theorem d44_23 : decode (mCode 44) 23 = .ok (.sipush 225, 3) := by decide +kernel
theorem d44_26 : decode (mCode 44) 26 = .ok (.newarray .int, 2) := by decide +kernel
theorem d44_28 : decode (mCode 44) 28 = .ok (.putfield 18, 3) := by decide +kernel
theorem d44_31 : decode (mCode 44) 31 = .ok (.aload_n 0, 1) := by decide +kernel
theorem d44_32 : decode (mCode 44) 32 = .ok (.sipush 800, 3) := by decide +kernel
theorem d44_35 : decode (mCode 44) 35 = .ok (.newarray .int, 2) := by decide +kernel
theorem d44_37 : decode (mCode 44) 37 = .ok (.putfield 21, 3) := by decide +kernel
theorem d44_40 : decode (mCode 44) 40 = .ok (.aload_n 0, 1) := by decide +kernel
theorem d44_41 : decode (mCode 44) 41 = .ok (.bipush 40, 2) := by decide +kernel
theorem d44_43 : decode (mCode 44) 43 = .ok (.newarray .long, 2) := by decide +kernel
theorem d44_45 : decode (mCode 44) 45 = .ok (.putfield 24, 3) := by decide +kernel
theorem d44_48 : decode (mCode 44) 48 = .ok (.aload_n 0, 1) := by decide +kernel
theorem d44_49 : decode (mCode 44) 49 = .ok (.aload_n 1, 1) := by decide +kernel
theorem d44_50 : decode (mCode 44) 50 = .ok (.putfield 28, 3) := by decide +kernel
theorem d44_53 : decode (mCode 44) 53 = .ok (.aload_n 0, 1) := by decide +kernel
theorem d44_54 : decode (mCode 44) 54 = .ok (.aload_n 2, 1) := by decide +kernel
theorem d44_55 : decode (mCode 44) 55 = .ok (.putfield 32, 3) := by decide +kernel
theorem d44_58 : decode (mCode 44) 58 = .ok (.aload_n 0, 1) := by decide +kernel
theorem d44_59 : decode (mCode 44) 59 = .ok (.getfield 9, 3) := by decide +kernel
theorem d44_62 : decode (mCode 44) 62 = .ok (.iconst (-1), 1) := by decide +kernel
theorem d44_63 : decode (mCode 44) 63 = .ok (.invokestatic 36, 3) := by decide +kernel
theorem d44_66 : decode (mCode 44) 66 = .ok (.return_, 1) := by decide +kernel
theorem d65_0 : decode (mCode 65) 0 = .ok (.aload_n 0, 1) := by decide +kernel
theorem d65_1 : decode (mCode 65) 1 = .ok (.invokespecial 3, 3) := by decide +kernel
theorem d65_4 : decode (mCode 65) 4 = .ok (.aload_n 0, 1) := by decide +kernel
theorem d65_5 : decode (mCode 65) 5 = .ok (.bipush 42, 2) := by decide +kernel
theorem d65_7 : decode (mCode 65) 7 = .ok (.newarray .int, 2) := by decide +kernel
theorem d65_9 : decode (mCode 65) 9 = .ok (.putfield 9, 3) := by decide +kernel
theorem d65_12 : decode (mCode 65) 12 = .ok (.aload_n 0, 1) := by decide +kernel
theorem d65_13 : decode (mCode 65) 13 = .ok (.bipush 42, 2) := by decide +kernel
theorem d65_15 : decode (mCode 65) 15 = .ok (.newarray .int, 2) := by decide +kernel
theorem d65_17 : decode (mCode 65) 17 = .ok (.putfield 15, 3) := by decide +kernel
theorem d65_20 : decode (mCode 65) 20 = .ok (.aload_n 0, 1) := by decide +kernel
theorem d65_21 : decode (mCode 65) 21 = .ok (.new 18, 3) := by decide +kernel
theorem d65_24 : decode (mCode 65) 24 = .ok (.dup, 1) := by decide +kernel
theorem d65_25 : decode (mCode 65) 25 = .ok (.invokespecial 20, 3) := by decide +kernel
theorem d65_28 : decode (mCode 65) 28 = .ok (.putfield 21, 3) := by decide +kernel
theorem d65_31 : decode (mCode 65) 31 = .ok (.return_, 1) := by decide +kernel
theorem d78_0 : decode (mCode 78) 0 = .ok (.aload_n 0, 1) := by decide +kernel
theorem d78_1 : decode (mCode 78) 1 = .ok (.invokespecial 3, 3) := by decide +kernel
theorem d78_4 : decode (mCode 78) 4 = .ok (.aload_n 0, 1) := by decide +kernel
theorem d78_5 : decode (mCode 78) 5 = .ok (.bipush 75, 2) := by decide +kernel
theorem d78_7 : decode (mCode 78) 7 = .ok (.newarray .int, 2) := by decide +kernel
theorem d78_9 : decode (mCode 78) 9 = .ok (.putfield 9, 3) := by decide +kernel
theorem d78_12 : decode (mCode 78) 12 = .ok (.aload_n 0, 1) := by decide +kernel
theorem d78_13 : decode (mCode 78) 13 = .ok (.bipush 75, 2) := by decide +kernel
theorem d78_15 : decode (mCode 78) 15 = .ok (.newarray .int, 2) := by decide +kernel
theorem d78_17 : decode (mCode 78) 17 = .ok (.putfield 15, 3) := by decide +kernel
theorem d78_20 : decode (mCode 78) 20 = .ok (.aload_n 0, 1) := by decide +kernel
theorem d78_21 : decode (mCode 78) 21 = .ok (.bipush 75, 2) := by decide +kernel
theorem d78_23 : decode (mCode 78) 23 = .ok (.newarray .int, 2) := by decide +kernel
theorem d78_25 : decode (mCode 78) 25 = .ok (.putfield 18, 3) := by decide +kernel
theorem d78_28 : decode (mCode 78) 28 = .ok (.aload_n 0, 1) := by decide +kernel
theorem d78_29 : decode (mCode 78) 29 = .ok (.aload_n 1, 1) := by decide +kernel
theorem d78_30 : decode (mCode 78) 30 = .ok (.putfield 21, 3) := by decide +kernel
theorem d78_33 : decode (mCode 78) 33 = .ok (.aload_n 0, 1) := by decide +kernel
theorem d78_34 : decode (mCode 78) 34 = .ok (.aload_n 2, 1) := by decide +kernel
theorem d78_35 : decode (mCode 78) 35 = .ok (.putfield 25, 3) := by decide +kernel
theorem d78_38 : decode (mCode 78) 38 = .ok (.aload_n 0, 1) := by decide +kernel
theorem d78_39 : decode (mCode 78) 39 = .ok (.new 29, 3) := by decide +kernel
theorem d78_42 : decode (mCode 78) 42 = .ok (.dup, 1) := by decide +kernel
theorem d78_43 : decode (mCode 78) 43 = .ok (.aload_n 1, 1) := by decide +kernel
theorem d78_44 : decode (mCode 78) 44 = .ok (.invokespecial 31, 3) := by decide +kernel
theorem d78_47 : decode (mCode 78) 47 = .ok (.putfield 34, 3) := by decide +kernel
theorem d78_50 : decode (mCode 78) 50 = .ok (.return_, 1) := by decide +kernel
theorem d87_0 : decode (mCode 87) 0 = .ok (.aload_n 0, 1) := by decide +kernel
theorem d87_1 : decode (mCode 87) 1 = .ok (.invokespecial 3, 3) := by decide +kernel
theorem d87_4 : decode (mCode 87) 4 = .ok (.return_, 1) := by decide +kernel
theorem d91_0 : decode (mCode 91) 0 = .ok (.aload_n 0, 1) := by decide +kernel
theorem d91_1 : decode (mCode 91) 1 = .ok (.invokespecial 3, 3) := by decide +kernel
theorem d91_4 : decode (mCode 91) 4 = .ok (.new 9, 3) := by decide +kernel
theorem d91_7 : decode (mCode 91) 7 = .ok (.dup, 1) := by decide +kernel
theorem d91_8 : decode (mCode 91) 8 = .ok (.invokespecial 11, 3) := by decide +kernel
theorem d91_11 : decode (mCode 91) 11 = .ok (.astore_n 1, 1) := by decide +kernel
theorem d91_12 : decode (mCode 91) 12 = .ok (.new 12, 3) := by decide +kernel
theorem d91_15 : decode (mCode 91) 15 = .ok (.dup, 1) := by decide +kernel
theorem d91_16 : decode (mCode 91) 16 = .ok (.aload_n 1, 1) := by decide +kernel
theorem d91_17 : decode (mCode 91) 17 = .ok (.invokespecial 14, 3) := by decide +kernel
theorem d91_20 : decode (mCode 91) 20 = .ok (.astore_n 2, 1) := by decide +kernel
theorem d91_21 : decode (mCode 91) 21 = .ok (.new 17, 3) := by decide +kernel
theorem d91_24 : decode (mCode 91) 24 = .ok (.dup, 1) := by decide +kernel
theorem d91_25 : decode (mCode 91) 25 = .ok (.aload_n 1, 1) := by decide +kernel
theorem d91_26 : decode (mCode 91) 26 = .ok (.aload_n 2, 1) := by decide +kernel
theorem d91_27 : decode (mCode 91) 27 = .ok (.invokespecial 19, 3) := by decide +kernel
theorem d91_30 : decode (mCode 91) 30 = .ok (.astore_n 3, 1) := by decide +kernel
theorem d91_31 : decode (mCode 91) 31 = .ok (.aload_n 0, 1) := by decide +kernel
theorem d91_32 : decode (mCode 91) 32 = .ok (.aload_n 1, 1) := by decide +kernel
theorem d91_33 : decode (mCode 91) 33 = .ok (.putfield 22, 3) := by decide +kernel
theorem d91_36 : decode (mCode 91) 36 = .ok (.aload_n 0, 1) := by decide +kernel
theorem d91_37 : decode (mCode 91) 37 = .ok (.aload_n 2, 1) := by decide +kernel
theorem d91_38 : decode (mCode 91) 38 = .ok (.putfield 26, 3) := by decide +kernel
theorem d91_41 : decode (mCode 91) 41 = .ok (.aload_n 0, 1) := by decide +kernel
theorem d91_42 : decode (mCode 91) 42 = .ok (.aload_n 3, 1) := by decide +kernel
theorem d91_43 : decode (mCode 91) 43 = .ok (.putfield 30, 3) := by decide +kernel
theorem d91_46 : decode (mCode 91) 46 = .ok (.aload_n 0, 1) := by decide +kernel
theorem d91_47 : decode (mCode 91) 47 = .ok (.new 34, 3) := by decide +kernel
theorem d91_50 : decode (mCode 91) 50 = .ok (.dup, 1) := by decide +kernel
theorem d91_51 : decode (mCode 91) 51 = .ok (.aload_n 1, 1) := by decide +kernel
theorem d91_52 : decode (mCode 91) 52 = .ok (.aload_n 3, 1) := by decide +kernel
theorem d91_53 : decode (mCode 91) 53 = .ok (.invokespecial 36, 3) := by decide +kernel
theorem d91_56 : decode (mCode 91) 56 = .ok (.putfield 39, 3) := by decide +kernel
theorem d91_59 : decode (mCode 91) 59 = .ok (.aload_n 0, 1) := by decide +kernel
theorem d91_60 : decode (mCode 91) 60 = .ok (.new 43, 3) := by decide +kernel
theorem d91_63 : decode (mCode 91) 63 = .ok (.dup, 1) := by decide +kernel
theorem d91_64 : decode (mCode 91) 64 = .ok (.aload_n 1, 1) := by decide +kernel
theorem d91_65 : decode (mCode 91) 65 = .ok (.aload_n 3, 1) := by decide +kernel
theorem d91_66 : decode (mCode 91) 66 = .ok (.invokespecial 45, 3) := by decide +kernel
theorem d91_69 : decode (mCode 91) 69 = .ok (.putfield 46, 3) := by decide +kernel
theorem d91_72 : decode (mCode 91) 72 = .ok (.return_, 1) := by decide +kernel
theorem d112_0 : decode (mCode 112) 0 = .ok (.aload_n 0, 1) := by decide +kernel
theorem d112_1 : decode (mCode 112) 1 = .ok (.invokespecial 1, 3) := by decide +kernel
theorem d112_4 : decode (mCode 112) 4 = .ok (.aload_n 0, 1) := by decide +kernel
theorem d112_5 : decode (mCode 112) 5 = .ok (.bipush 42, 2) := by decide +kernel
theorem d112_7 : decode (mCode 112) 7 = .ok (.newarray .long, 2) := by decide +kernel
theorem d112_9 : decode (mCode 112) 9 = .ok (.putfield 7, 3) := by decide +kernel
theorem d112_12 : decode (mCode 112) 12 = .ok (.aload_n 0, 1) := by decide +kernel
theorem d112_13 : decode (mCode 112) 13 = .ok (.bipush 42, 2) := by decide +kernel
theorem d112_15 : decode (mCode 112) 15 = .ok (.newarray .long, 2) := by decide +kernel
theorem d112_17 : decode (mCode 112) 17 = .ok (.putfield 13, 3) := by decide +kernel
theorem d112_20 : decode (mCode 112) 20 = .ok (.aload_n 0, 1) := by decide +kernel
theorem d112_21 : decode (mCode 112) 21 = .ok (.sipush 1600, 3) := by decide +kernel
theorem d112_24 : decode (mCode 112) 24 = .ok (.newarray .boolean, 2) := by decide +kernel
theorem d112_26 : decode (mCode 112) 26 = .ok (.putfield 16, 3) := by decide +kernel
theorem d112_29 : decode (mCode 112) 29 = .ok (.aload_n 0, 1) := by decide +kernel
theorem d112_30 : decode (mCode 112) 30 = .ok (.sipush 1600, 3) := by decide +kernel
theorem d112_33 : decode (mCode 112) 33 = .ok (.newarray .boolean, 2) := by decide +kernel
theorem d112_35 : decode (mCode 112) 35 = .ok (.putfield 20, 3) := by decide +kernel
theorem d112_38 : decode (mCode 112) 38 = .ok (.aload_n 0, 1) := by decide +kernel
theorem d112_39 : decode (mCode 112) 39 = .ok (.sipush 300, 3) := by decide +kernel
theorem d112_42 : decode (mCode 112) 42 = .ok (.newarray .int, 2) := by decide +kernel
theorem d112_44 : decode (mCode 112) 44 = .ok (.putfield 23, 3) := by decide +kernel
theorem d112_47 : decode (mCode 112) 47 = .ok (.aload_n 0, 1) := by decide +kernel
theorem d112_48 : decode (mCode 112) 48 = .ok (.bipush 100, 2) := by decide +kernel
theorem d112_50 : decode (mCode 112) 50 = .ok (.newarray .int, 2) := by decide +kernel
theorem d112_52 : decode (mCode 112) 52 = .ok (.putfield 27, 3) := by decide +kernel
theorem d112_55 : decode (mCode 112) 55 = .ok (.aload_n 0, 1) := by decide +kernel
theorem d112_56 : decode (mCode 112) 56 = .ok (.bipush 100, 2) := by decide +kernel
theorem d112_58 : decode (mCode 112) 58 = .ok (.newarray .int, 2) := by decide +kernel
theorem d112_60 : decode (mCode 112) 60 = .ok (.putfield 30, 3) := by decide +kernel
theorem d112_63 : decode (mCode 112) 63 = .ok (.aload_n 0, 1) := by decide +kernel
theorem d112_64 : decode (mCode 112) 64 = .ok (.bipush 100, 2) := by decide +kernel
theorem d112_66 : decode (mCode 112) 66 = .ok (.newarray .int, 2) := by decide +kernel
theorem d112_68 : decode (mCode 112) 68 = .ok (.putfield 33, 3) := by decide +kernel
theorem d112_71 : decode (mCode 112) 71 = .ok (.aload_n 0, 1) := by decide +kernel
theorem d112_72 : decode (mCode 112) 72 = .ok (.bipush 100, 2) := by decide +kernel
theorem d112_74 : decode (mCode 112) 74 = .ok (.newarray .int, 2) := by decide +kernel
theorem d112_76 : decode (mCode 112) 76 = .ok (.putfield 36, 3) := by decide +kernel
theorem d112_79 : decode (mCode 112) 79 = .ok (.aload_n 0, 1) := by decide +kernel
theorem d112_80 : decode (mCode 112) 80 = .ok (.bipush 100, 2) := by decide +kernel
theorem d112_82 : decode (mCode 112) 82 = .ok (.newarray .int, 2) := by decide +kernel
theorem d112_84 : decode (mCode 112) 84 = .ok (.putfield 39, 3) := by decide +kernel
theorem d112_87 : decode (mCode 112) 87 = .ok (.return_, 1) := by decide +kernel
def HK0 : mHp := [(.inr (8, [.null, .null, .null, .null, .null]))]
def HK1 : mHp := [(.inr (8, [.null, .null, .null, .null, .null])), (.inr (5, [.null, .null, .null, .int 0]))]
def HK2 : mHp := [(.inr (8, [.null, .null, .null, .null, .null])), (.inr (5, [.ref 18, .ref 19, .null, .int 0])), (.inl (.int, 42, .inl ((fun _ => 0)))), (.inl (.int, 42, .inl ((fun _ => 0)))), (.inr (7, [.long 0, .long 0, .long 0]))]
def HK3 : mHp := [(.inr (8, [.null, .null, .null, .null, .null])), (.inr (5, [.ref 18, .ref 19, .null, .int 0])), (.inl (.int, 42, .inl ((fun _ => 0)))), (.inl (.int, 42, .inl ((fun _ => 0)))), (.inr (7, [.long 0, .long 0, .long 0]))]
def HK4 : mHp := [(.inr (8, [.null, .null, .null, .null, .null])), (.inr (5, [.ref 18, .ref 19, .ref 20, .int 0])), (.inl (.int, 42, .inl ((fun _ => 0)))), (.inl (.int, 42, .inl ((fun _ => 0)))), (.inr (7, [.long 0, .long 0, .long 0]))]
def HK5 : mHp := [(.inr (8, [.null, .null, .null, .null, .null])), (.inr (5, [.ref 18, .ref 19, .ref 20, .int 0])), (.inl (.int, 42, .inl ((fun _ => 0)))), (.inl (.int, 42, .inl ((fun _ => 0)))), (.inr (7, [.long 0, .long 0, .long 0])), (.inr (3, [.null, .null, .int 0]))]
def HK6 : mHp := [(.inr (8, [.null, .null, .null, .null, .null])), (.inr (5, [.ref 18, .ref 19, .ref 20, .int 0])), (.inl (.int, 42, .inl ((fun _ => 0)))), (.inl (.int, 42, .inl ((fun _ => 0)))), (.inr (7, [.long 0, .long 0, .long 0])), (.inr (3, [.ref 17, .ref 22, .int 0])), (.inl (.long, 40, .inr (.inl ((fun _ => 0)))))]
def HK7 : mHp := [(.inr (8, [.null, .null, .null, .null, .null])), (.inr (5, [.ref 18, .ref 19, .ref 20, .int 0])), (.inl (.int, 42, .inl ((fun _ => 0)))), (.inl (.int, 42, .inl ((fun _ => 0)))), (.inr (7, [.long 0, .long 0, .long 0])), (.inr (3, [.ref 17, .ref 22, .int 0])), (.inl (.long, 40, .inr (.inl ((fun _ => 0))))), (.inr (4, [.null, .null, .null, .null, .null, .int 0, .null, .int 0, .null]))]
def HK8 : mHp := [(.inr (8, [.null, .null, .null, .null, .null])), (.inr (5, [.ref 18, .ref 19, .ref 20, .int 0])), (.inl (.int, 42, .inl ((fun _ => 0)))), (.inl (.int, 42, .inl ((fun _ => 0)))), (.inr (7, [.long 0, .long 0, .long 0])), (.inr (3, [.ref 17, .ref 22, .int 0])), (.inl (.long, 40, .inr (.inl ((fun _ => 0))))), (.inr (4, [.ref 17, .ref 21, .ref 24, .ref 25, .ref 26, .int 0, .ref 27, .int 0, .ref 28])), (.inl (.int, 1600, .inl (mfill 1600 (-1) (fun _ => 0)))), (.inl (.int, 1600, .inl ((fun _ => 0)))), (.inl (.int, 225, .inl ((fun _ => 0)))), (.inl (.int, 800, .inl ((fun _ => 0)))), (.inl (.long, 40, .inr (.inl ((fun _ => 0)))))]
def HK9 : mHp := [(.inr (8, [.ref 17, .ref 21, .ref 23, .null, .null])), (.inr (5, [.ref 18, .ref 19, .ref 20, .int 0])), (.inl (.int, 42, .inl ((fun _ => 0)))), (.inl (.int, 42, .inl ((fun _ => 0)))), (.inr (7, [.long 0, .long 0, .long 0])), (.inr (3, [.ref 17, .ref 22, .int 0])), (.inl (.long, 40, .inr (.inl ((fun _ => 0))))), (.inr (4, [.ref 17, .ref 21, .ref 24, .ref 25, .ref 26, .int 0, .ref 27, .int 0, .ref 28])), (.inl (.int, 1600, .inl (mfill 1600 (-1) (fun _ => 0)))), (.inl (.int, 1600, .inl ((fun _ => 0)))), (.inl (.int, 225, .inl ((fun _ => 0)))), (.inl (.int, 800, .inl ((fun _ => 0)))), (.inl (.long, 40, .inr (.inl ((fun _ => 0))))), (.inr (2, [.null, .null, .null, .null, .int 0]))]
def HK10 : mHp := [(.inr (8, [.ref 17, .ref 21, .ref 23, .null, .null])), (.inr (5, [.ref 18, .ref 19, .ref 20, .int 0])), (.inl (.int, 42, .inl ((fun _ => 0)))), (.inl (.int, 42, .inl ((fun _ => 0)))), (.inr (7, [.long 0, .long 0, .long 0])), (.inr (3, [.ref 17, .ref 22, .int 0])), (.inl (.long, 40, .inr (.inl ((fun _ => 0))))), (.inr (4, [.ref 17, .ref 21, .ref 24, .ref 25, .ref 26, .int 0, .ref 27, .int 0, .ref 28])), (.inl (.int, 1600, .inl (mfill 1600 (-1) (fun _ => 0)))), (.inl (.int, 1600, .inl ((fun _ => 0)))), (.inl (.int, 225, .inl ((fun _ => 0)))), (.inl (.int, 800, .inl ((fun _ => 0)))), (.inl (.long, 40, .inr (.inl ((fun _ => 0))))), (.inr (2, [.ref 17, .ref 23, .ref 30, .ref 31, .int 0])), (.inl (.int, 75, .inl ((fun _ => 0)))), (.inl (.int, 75, .inl ((fun _ => 0))))]
def HK11 : mHp := [(.inr (8, [.ref 17, .ref 21, .ref 23, .ref 29, .null])), (.inr (5, [.ref 18, .ref 19, .ref 20, .int 0])), (.inl (.int, 42, .inl ((fun _ => 0)))), (.inl (.int, 42, .inl ((fun _ => 0)))), (.inr (7, [.long 0, .long 0, .long 0])), (.inr (3, [.ref 17, .ref 22, .int 0])), (.inl (.long, 40, .inr (.inl ((fun _ => 0))))), (.inr (4, [.ref 17, .ref 21, .ref 24, .ref 25, .ref 26, .int 0, .ref 27, .int 0, .ref 28])), (.inl (.int, 1600, .inl (mfill 1600 (-1) (fun _ => 0)))), (.inl (.int, 1600, .inl ((fun _ => 0)))), (.inl (.int, 225, .inl ((fun _ => 0)))), (.inl (.int, 800, .inl ((fun _ => 0)))), (.inl (.long, 40, .inr (.inl ((fun _ => 0))))), (.inr (2, [.ref 17, .ref 23, .ref 30, .ref 31, .int 0])), (.inl (.int, 75, .inl ((fun _ => 0)))), (.inl (.int, 75, .inl ((fun _ => 0)))), (.inr (6, [.null, .null, .null, .null, .int 0, .null, .null]))]
def HK12 : mHp := [(.inr (8, [.ref 17, .ref 21, .ref 23, .ref 29, .null])), (.inr (5, [.ref 18, .ref 19, .ref 20, .int 0])), (.inl (.int, 42, .inl ((fun _ => 0)))), (.inl (.int, 42, .inl ((fun _ => 0)))), (.inr (7, [.long 0, .long 0, .long 0])), (.inr (3, [.ref 17, .ref 22, .int 0])), (.inl (.long, 40, .inr (.inl ((fun _ => 0))))), (.inr (4, [.ref 17, .ref 21, .ref 24, .ref 25, .ref 26, .int 0, .ref 27, .int 0, .ref 28])), (.inl (.int, 1600, .inl (mfill 1600 (-1) (fun _ => 0)))), (.inl (.int, 1600, .inl ((fun _ => 0)))), (.inl (.int, 225, .inl ((fun _ => 0)))), (.inl (.int, 800, .inl ((fun _ => 0)))), (.inl (.long, 40, .inr (.inl ((fun _ => 0))))), (.inr (2, [.ref 17, .ref 23, .ref 30, .ref 31, .int 0])), (.inl (.int, 75, .inl ((fun _ => 0)))), (.inl (.int, 75, .inl ((fun _ => 0)))), (.inr (6, [.ref 17, .ref 23, .null, .ref 33, .int 0, .ref 34, .ref 35])), (.inl (.int, 75, .inl ((fun _ => 0)))), (.inl (.int, 75, .inl ((fun _ => 0)))), (.inl (.int, 75, .inl ((fun _ => 0)))), (.inr (1, [.null, .null, .null, .int 0, .int 0, .int 0, .null, .int 0]))]
def HK13 : mHp := [(.inr (8, [.ref 17, .ref 21, .ref 23, .ref 29, .null])), (.inr (5, [.ref 18, .ref 19, .ref 20, .int 0])), (.inl (.int, 42, .inl ((fun _ => 0)))), (.inl (.int, 42, .inl ((fun _ => 0)))), (.inr (7, [.long 0, .long 0, .long 0])), (.inr (3, [.ref 17, .ref 22, .int 0])), (.inl (.long, 40, .inr (.inl ((fun _ => 0))))), (.inr (4, [.ref 17, .ref 21, .ref 24, .ref 25, .ref 26, .int 0, .ref 27, .int 0, .ref 28])), (.inl (.int, 1600, .inl (mfill 1600 (-1) (fun _ => 0)))), (.inl (.int, 1600, .inl ((fun _ => 0)))), (.inl (.int, 225, .inl ((fun _ => 0)))), (.inl (.int, 800, .inl ((fun _ => 0)))), (.inl (.long, 40, .inr (.inl ((fun _ => 0))))), (.inr (2, [.ref 17, .ref 23, .ref 30, .ref 31, .int 0])), (.inl (.int, 75, .inl ((fun _ => 0)))), (.inl (.int, 75, .inl ((fun _ => 0)))), (.inr (6, [.ref 17, .ref 23, .null, .ref 33, .int 0, .ref 34, .ref 35])), (.inl (.int, 75, .inl ((fun _ => 0)))), (.inl (.int, 75, .inl ((fun _ => 0)))), (.inl (.int, 75, .inl ((fun _ => 0)))), (.inr (1, [.null, .null, .null, .int 0, .int 0, .int 0, .null, .int 0])), (.inr (0, [.int 0, .null, .int 0, .int 0]))]
def HK14 : mHp := [(.inr (8, [.ref 17, .ref 21, .ref 23, .ref 29, .null])), (.inr (5, [.ref 18, .ref 19, .ref 20, .int 0])), (.inl (.int, 42, .inl ((fun _ => 0)))), (.inl (.int, 42, .inl ((fun _ => 0)))), (.inr (7, [.long 0, .long 0, .long 0])), (.inr (3, [.ref 17, .ref 22, .int 0])), (.inl (.long, 40, .inr (.inl ((fun _ => 0))))), (.inr (4, [.ref 17, .ref 21, .ref 24, .ref 25, .ref 26, .int 0, .ref 27, .int 0, .ref 28])), (.inl (.int, 1600, .inl (mfill 1600 (-1) (fun _ => 0)))), (.inl (.int, 1600, .inl ((fun _ => 0)))), (.inl (.int, 225, .inl ((fun _ => 0)))), (.inl (.int, 800, .inl ((fun _ => 0)))), (.inl (.long, 40, .inr (.inl ((fun _ => 0))))), (.inr (2, [.ref 17, .ref 23, .ref 30, .ref 31, .int 0])), (.inl (.int, 75, .inl ((fun _ => 0)))), (.inl (.int, 75, .inl ((fun _ => 0)))), (.inr (6, [.ref 17, .ref 23, .null, .ref 33, .int 0, .ref 34, .ref 35])), (.inl (.int, 75, .inl ((fun _ => 0)))), (.inl (.int, 75, .inl ((fun _ => 0)))), (.inl (.int, 75, .inl ((fun _ => 0)))), (.inr (1, [.null, .null, .null, .int 0, .int 0, .int 0, .null, .int 0])), (.inr (0, [.int 1, .ref 38, .int 0, .int 0])), (.inl (.int, 77, .inl ((fun _ => 0))))]
def HK15 : mHp := [(.inr (8, [.ref 17, .ref 21, .ref 23, .ref 29, .null])), (.inr (5, [.ref 18, .ref 19, .ref 20, .int 0])), (.inl (.int, 42, .inl ((fun _ => 0)))), (.inl (.int, 42, .inl ((fun _ => 0)))), (.inr (7, [.long 0, .long 0, .long 0])), (.inr (3, [.ref 17, .ref 22, .int 0])), (.inl (.long, 40, .inr (.inl ((fun _ => 0))))), (.inr (4, [.ref 17, .ref 21, .ref 24, .ref 25, .ref 26, .int 0, .ref 27, .int 0, .ref 28])), (.inl (.int, 1600, .inl (mfill 1600 (-1) (fun _ => 0)))), (.inl (.int, 1600, .inl ((fun _ => 0)))), (.inl (.int, 225, .inl ((fun _ => 0)))), (.inl (.int, 800, .inl ((fun _ => 0)))), (.inl (.long, 40, .inr (.inl ((fun _ => 0))))), (.inr (2, [.ref 17, .ref 23, .ref 30, .ref 31, .int 0])), (.inl (.int, 75, .inl ((fun _ => 0)))), (.inl (.int, 75, .inl ((fun _ => 0)))), (.inr (6, [.ref 17, .ref 23, .null, .ref 33, .int 0, .ref 34, .ref 35])), (.inl (.int, 75, .inl ((fun _ => 0)))), (.inl (.int, 75, .inl ((fun _ => 0)))), (.inl (.int, 75, .inl ((fun _ => 0)))), (.inr (1, [.null, .ref 37, .null, .int 0, .int 0, .int 0, .null, .int 0])), (.inr (0, [.int 1, .ref 38, .int 0, .int 0])), (.inl (.int, 77, .inl ((fun _ => 0)))), (.inr (0, [.int 0, .null, .int 0, .int 0]))]
def HK16 : mHp := [(.inr (8, [.ref 17, .ref 21, .ref 23, .ref 29, .null])), (.inr (5, [.ref 18, .ref 19, .ref 20, .int 0])), (.inl (.int, 42, .inl ((fun _ => 0)))), (.inl (.int, 42, .inl ((fun _ => 0)))), (.inr (7, [.long 0, .long 0, .long 0])), (.inr (3, [.ref 17, .ref 22, .int 0])), (.inl (.long, 40, .inr (.inl ((fun _ => 0))))), (.inr (4, [.ref 17, .ref 21, .ref 24, .ref 25, .ref 26, .int 0, .ref 27, .int 0, .ref 28])), (.inl (.int, 1600, .inl (mfill 1600 (-1) (fun _ => 0)))), (.inl (.int, 1600, .inl ((fun _ => 0)))), (.inl (.int, 225, .inl ((fun _ => 0)))), (.inl (.int, 800, .inl ((fun _ => 0)))), (.inl (.long, 40, .inr (.inl ((fun _ => 0))))), (.inr (2, [.ref 17, .ref 23, .ref 30, .ref 31, .int 0])), (.inl (.int, 75, .inl ((fun _ => 0)))), (.inl (.int, 75, .inl ((fun _ => 0)))), (.inr (6, [.ref 17, .ref 23, .null, .ref 33, .int 0, .ref 34, .ref 35])), (.inl (.int, 75, .inl ((fun _ => 0)))), (.inl (.int, 75, .inl ((fun _ => 0)))), (.inl (.int, 75, .inl ((fun _ => 0)))), (.inr (1, [.null, .ref 37, .null, .int 0, .int 0, .int 0, .null, .int 0])), (.inr (0, [.int 1, .ref 38, .int 0, .int 0])), (.inl (.int, 77, .inl ((fun _ => 0)))), (.inr (0, [.int (-1), .ref 40, .int 0, .int 0])), (.inl (.int, 77, .inl ((fun _ => 0))))]
def HK17 : mHp := [(.inr (8, [.ref 17, .ref 21, .ref 23, .ref 29, .null])), (.inr (5, [.ref 18, .ref 19, .ref 20, .int 0])), (.inl (.int, 42, .inl ((fun _ => 0)))), (.inl (.int, 42, .inl ((fun _ => 0)))), (.inr (7, [.long 0, .long 0, .long 0])), (.inr (3, [.ref 17, .ref 22, .int 0])), (.inl (.long, 40, .inr (.inl ((fun _ => 0))))), (.inr (4, [.ref 17, .ref 21, .ref 24, .ref 25, .ref 26, .int 0, .ref 27, .int 0, .ref 28])), (.inl (.int, 1600, .inl (mfill 1600 (-1) (fun _ => 0)))), (.inl (.int, 1600, .inl ((fun _ => 0)))), (.inl (.int, 225, .inl ((fun _ => 0)))), (.inl (.int, 800, .inl ((fun _ => 0)))), (.inl (.long, 40, .inr (.inl ((fun _ => 0))))), (.inr (2, [.ref 17, .ref 23, .ref 30, .ref 31, .int 0])), (.inl (.int, 75, .inl ((fun _ => 0)))), (.inl (.int, 75, .inl ((fun _ => 0)))), (.inr (6, [.ref 17, .ref 23, .null, .ref 33, .int 0, .ref 34, .ref 35])), (.inl (.int, 75, .inl ((fun _ => 0)))), (.inl (.int, 75, .inl ((fun _ => 0)))), (.inl (.int, 75, .inl ((fun _ => 0)))), (.inr (1, [.ref 17, .ref 37, .ref 39, .int 0, .int 0, .int 0, .ref 41, .int 0])), (.inr (0, [.int 1, .ref 38, .int 0, .int 0])), (.inl (.int, 77, .inl ((fun _ => 0)))), (.inr (0, [.int (-1), .ref 40, .int 0, .int 0])), (.inl (.int, 77, .inl ((fun _ => 0)))), (.inl (.int, 77, .inl ((fun _ => 0))))]
def HK18 : mHp := [(.inr (8, [.ref 17, .ref 21, .ref 23, .ref 29, .null])), (.inr (5, [.ref 18, .ref 19, .ref 20, .int 0])), (.inl (.int, 42, .inl ((fun _ => 0)))), (.inl (.int, 42, .inl ((fun _ => 0)))), (.inr (7, [.long 0, .long 0, .long 0])), (.inr (3, [.ref 17, .ref 22, .int 0])), (.inl (.long, 40, .inr (.inl ((fun _ => 0))))), (.inr (4, [.ref 17, .ref 21, .ref 24, .ref 25, .ref 26, .int 0, .ref 27, .int 0, .ref 28])), (.inl (.int, 1600, .inl (mfill 1600 (-1) (fun _ => 0)))), (.inl (.int, 1600, .inl ((fun _ => 0)))), (.inl (.int, 225, .inl ((fun _ => 0)))), (.inl (.int, 800, .inl ((fun _ => 0)))), (.inl (.long, 40, .inr (.inl ((fun _ => 0))))), (.inr (2, [.ref 17, .ref 23, .ref 30, .ref 31, .int 0])), (.inl (.int, 75, .inl ((fun _ => 0)))), (.inl (.int, 75, .inl ((fun _ => 0)))), (.inr (6, [.ref 17, .ref 23, .ref 36, .ref 33, .int 0, .ref 34, .ref 35])), (.inl (.int, 75, .inl ((fun _ => 0)))), (.inl (.int, 75, .inl ((fun _ => 0)))), (.inl (.int, 75, .inl ((fun _ => 0)))), (.inr (1, [.ref 17, .ref 37, .ref 39, .int 0, .int 0, .int 0, .ref 41, .int 0])), (.inr (0, [.int 1, .ref 38, .int 0, .int 0])), (.inl (.int, 77, .inl ((fun _ => 0)))), (.inr (0, [.int (-1), .ref 40, .int 0, .int 0])), (.inl (.int, 77, .inl ((fun _ => 0)))), (.inl (.int, 77, .inl ((fun _ => 0))))]
def HK19 : mHp := [(.inr (8, [.ref 17, .ref 21, .ref 23, .ref 29, .ref 32])), (.inr (5, [.ref 18, .ref 19, .ref 20, .int 0])), (.inl (.int, 42, .inl ((fun _ => 0)))), (.inl (.int, 42, .inl ((fun _ => 0)))), (.inr (7, [.long 0, .long 0, .long 0])), (.inr (3, [.ref 17, .ref 22, .int 0])), (.inl (.long, 40, .inr (.inl ((fun _ => 0))))), (.inr (4, [.ref 17, .ref 21, .ref 24, .ref 25, .ref 26, .int 0, .ref 27, .int 0, .ref 28])), (.inl (.int, 1600, .inl (mfill 1600 (-1) (fun _ => 0)))), (.inl (.int, 1600, .inl ((fun _ => 0)))), (.inl (.int, 225, .inl ((fun _ => 0)))), (.inl (.int, 800, .inl ((fun _ => 0)))), (.inl (.long, 40, .inr (.inl ((fun _ => 0))))), (.inr (2, [.ref 17, .ref 23, .ref 30, .ref 31, .int 0])), (.inl (.int, 75, .inl ((fun _ => 0)))), (.inl (.int, 75, .inl ((fun _ => 0)))), (.inr (6, [.ref 17, .ref 23, .ref 36, .ref 33, .int 0, .ref 34, .ref 35])), (.inl (.int, 75, .inl ((fun _ => 0)))), (.inl (.int, 75, .inl ((fun _ => 0)))), (.inl (.int, 75, .inl ((fun _ => 0)))), (.inr (1, [.ref 17, .ref 37, .ref 39, .int 0, .int 0, .int 0, .ref 41, .int 0])), (.inr (0, [.int 1, .ref 38, .int 0, .int 0])), (.inl (.int, 77, .inl ((fun _ => 0)))), (.inr (0, [.int (-1), .ref 40, .int 0, .int 0])), (.inl (.int, 77, .inl ((fun _ => 0)))), (.inl (.int, 77, .inl ((fun _ => 0))))]
def HK20 : mHp := [(.inr (8, [.ref 17, .ref 21, .ref 23, .ref 29, .ref 32])), (.inr (5, [.ref 18, .ref 19, .ref 20, .int 0])), (.inl (.int, 42, .inl ((fun _ => 0)))), (.inl (.int, 42, .inl ((fun _ => 0)))), (.inr (7, [.long 0, .long 0, .long 0])), (.inr (3, [.ref 17, .ref 22, .int 0])), (.inl (.long, 40, .inr (.inl ((fun _ => 0))))), (.inr (4, [.ref 17, .ref 21, .ref 24, .ref 25, .ref 26, .int 0, .ref 27, .int 0, .ref 28])), (.inl (.int, 1600, .inl (mfill 1600 (-1) (fun _ => 0)))), (.inl (.int, 1600, .inl ((fun _ => 0)))), (.inl (.int, 225, .inl ((fun _ => 0)))), (.inl (.int, 800, .inl ((fun _ => 0)))), (.inl (.long, 40, .inr (.inl ((fun _ => 0))))), (.inr (2, [.ref 17, .ref 23, .ref 30, .ref 31, .int 0])), (.inl (.int, 75, .inl ((fun _ => 0)))), (.inl (.int, 75, .inl ((fun _ => 0)))), (.inr (6, [.ref 17, .ref 23, .ref 36, .ref 33, .int 0, .ref 34, .ref 35])), (.inl (.int, 75, .inl ((fun _ => 0)))), (.inl (.int, 75, .inl ((fun _ => 0)))), (.inl (.int, 75, .inl ((fun _ => 0)))), (.inr (1, [.ref 17, .ref 37, .ref 39, .int 0, .int 0, .int 0, .ref 41, .int 0])), (.inr (0, [.int 1, .ref 38, .int 0, .int 0])), (.inl (.int, 77, .inl ((fun _ => 0)))), (.inr (0, [.int (-1), .ref 40, .int 0, .int 0])), (.inl (.int, 77, .inl ((fun _ => 0)))), (.inl (.int, 77, .inl ((fun _ => 0)))), (.inr (9, [.int 0, .int 0, .null, .null, .null, .null, .int 0, .int 0, .null, .int 0, .null, .int 0, .null, .null, .null, .null, .long 0, .long 0]))]
def HK21 : mHp := [(.inr (8, [.ref 17, .ref 21, .ref 23, .ref 29, .ref 32])), (.inr (5, [.ref 18, .ref 19, .ref 20, .int 0])), (.inl (.int, 42, .inl ((fun _ => 0)))), (.inl (.int, 42, .inl ((fun _ => 0)))), (.inr (7, [.long 0, .long 0, .long 0])), (.inr (3, [.ref 17, .ref 22, .int 0])), (.inl (.long, 40, .inr (.inl ((fun _ => 0))))), (.inr (4, [.ref 17, .ref 21, .ref 24, .ref 25, .ref 26, .int 0, .ref 27, .int 0, .ref 28])), (.inl (.int, 1600, .inl (mfill 1600 (-1) (fun _ => 0)))), (.inl (.int, 1600, .inl ((fun _ => 0)))), (.inl (.int, 225, .inl ((fun _ => 0)))), (.inl (.int, 800, .inl ((fun _ => 0)))), (.inl (.long, 40, .inr (.inl ((fun _ => 0))))), (.inr (2, [.ref 17, .ref 23, .ref 30, .ref 31, .int 0])), (.inl (.int, 75, .inl ((fun _ => 0)))), (.inl (.int, 75, .inl ((fun _ => 0)))), (.inr (6, [.ref 17, .ref 23, .ref 36, .ref 33, .int 0, .ref 34, .ref 35])), (.inl (.int, 75, .inl ((fun _ => 0)))), (.inl (.int, 75, .inl ((fun _ => 0)))), (.inl (.int, 75, .inl ((fun _ => 0)))), (.inr (1, [.ref 17, .ref 37, .ref 39, .int 0, .int 0, .int 0, .ref 41, .int 0])), (.inr (0, [.int 1, .ref 38, .int 0, .int 0])), (.inl (.int, 77, .inl ((fun _ => 0)))), (.inr (0, [.int (-1), .ref 40, .int 0, .int 0])), (.inl (.int, 77, .inl ((fun _ => 0)))), (.inl (.int, 77, .inl ((fun _ => 0)))), (.inr (9, [.int 0, .int 0, .ref 43, .ref 44, .ref 45, .ref 46, .int 0, .int 0, .ref 47, .int 0, .ref 48, .int 0, .ref 49, .ref 50, .ref 51, .ref 52, .long 0, .long 0])), (.inl (.long, 42, .inr (.inl ((fun _ => 0))))), (.inl (.long, 42, .inr (.inl ((fun _ => 0))))), (.inl (.boolean, 1600, .inl ((fun _ => 0)))), (.inl (.boolean, 1600, .inl ((fun _ => 0)))), (.inl (.int, 300, .inl ((fun _ => 0)))), (.inl (.int, 100, .inl ((fun _ => 0)))), (.inl (.int, 100, .inl ((fun _ => 0)))), (.inl (.int, 100, .inl ((fun _ => 0)))), (.inl (.int, 100, .inl ((fun _ => 0)))), (.inl (.int, 100, .inl ((fun _ => 0))))]
set_option maxRecDepth 4000 in
theorem rk_HK3 {S : mE} : Run S 87 (0, [(0, .ref 20)], [], HK2) (.inl none, HK3) := by
  refine R_p d87_0 rfl rfl ?_
  refine R_obj d87_1 (List.mem_of_getElem? (i := 2) rfl) (by decide) (by decide) ?_
  exact R_vret d87_4 rfl rfl
set_option maxRecDepth 4000 in
theorem rk_HK4 {S : mE} : Run S 65 (0, [(0, .ref 17)], [], HK1) (.inl none, HK4) := by
  refine R_p d65_0 rfl rfl ?_
  refine R_obj d65_1 (List.mem_of_getElem? (i := 1) rfl) (by decide) (by decide) ?_
  refine R_p d65_4 rfl rfl ?_
  refine R_bi (v := 42) d65_5 (by decide) ?_
  refine R_newa (N := 42) d65_7 rfl rfl (by decide) (by decide) (by decide) ?_
  refine R_put d65_9 (List.mem_of_getElem? (i := 3) rfl) rfl (by decide) rfl rfl (Or.inr ⟨rfl, rfl⟩) ?_
  refine R_p d65_12 rfl rfl ?_
  refine R_bi (v := 42) d65_13 (by decide) ?_
  refine R_newa (N := 42) d65_15 rfl rfl (by decide) (by decide) (by decide) ?_
  refine R_put d65_17 (List.mem_of_getElem? (i := 4) rfl) rfl (by decide) rfl rfl (Or.inr ⟨rfl, rfl⟩) ?_
  refine R_p d65_20 rfl rfl ?_
  refine R_new d65_21 (List.mem_of_getElem? (i := 2) rfl) ?_
  refine R_p d65_24 rfl rfl ?_
  refine R_cc [] d65_25 (List.mem_of_getElem? (i := 2) rfl) rfl ⟨by decide, by decide, by decide, rfl, mcd87⟩ rfl rfl (by decide) rfl rfl rk_HK3 ?_
  refine R_put d65_28 (List.mem_of_getElem? (i := 5) rfl) rfl (by decide) rfl rfl (Or.inr ⟨rfl, rfl⟩) ?_
  exact R_vret d65_31 rfl rfl
set_option maxRecDepth 4000 in
theorem rk_HK6 {S : mE} : Run S 35 (0, [(0, .ref 21), (1, .ref 17)], [], HK5) (.inl none, HK6) := by
  refine R_p d35_0 rfl rfl ?_
  refine R_obj d35_1 (List.mem_of_getElem? (i := 3) rfl) (by decide) (by decide) ?_
  refine R_p d35_4 rfl rfl ?_
  refine R_bi (v := 40) d35_5 (by decide) ?_
  refine R_newa (N := 40) d35_7 rfl rfl (by decide) (by decide) (by decide) ?_
  refine R_put d35_9 (List.mem_of_getElem? (i := 8) rfl) rfl (by decide) rfl rfl (Or.inr ⟨rfl, rfl⟩) ?_
  refine R_p d35_12 rfl rfl ?_
  refine R_p d35_13 rfl rfl ?_
  refine R_put d35_14 (List.mem_of_getElem? (i := 7) rfl) rfl (by decide) rfl rfl (Or.inr ⟨rfl, rfl⟩) ?_
  exact R_vret d35_17 rfl rfl
set_option maxRecDepth 4000 in
theorem rk_HK8 {S : mE} : Run S 44 (0, [(0, .ref 23), (1, .ref 17), (2, .ref 21)], [], HK7) (.inl none, HK8) := by
  refine R_p d44_0 rfl rfl ?_
  refine R_obj d44_1 (List.mem_of_getElem? (i := 4) rfl) (by decide) (by decide) ?_
  refine R_p d44_4 rfl rfl ?_
  refine R_si (v := 1600) d44_5 (by decide) ?_
  refine R_newa (N := 1600) d44_8 rfl rfl (by decide) (by decide) (by decide) ?_
  refine R_put d44_10 (List.mem_of_getElem? (i := 12) rfl) rfl (by decide) rfl rfl (Or.inr ⟨rfl, rfl⟩) ?_
  refine R_p d44_13 rfl rfl ?_
  refine R_si (v := 1600) d44_14 (by decide) ?_
  refine R_newa (N := 1600) d44_17 rfl rfl (by decide) (by decide) (by decide) ?_
  refine R_put d44_19 (List.mem_of_getElem? (i := 13) rfl) rfl (by decide) rfl rfl (Or.inr ⟨rfl, rfl⟩) ?_
  refine R_p d44_22 rfl rfl ?_
  refine R_si (v := 225) d44_23 (by decide) ?_
  refine R_newa (N := 225) d44_26 rfl rfl (by decide) (by decide) (by decide) ?_
  refine R_put d44_28 (List.mem_of_getElem? (i := 14) rfl) rfl (by decide) rfl rfl (Or.inr ⟨rfl, rfl⟩) ?_
  refine R_p d44_31 rfl rfl ?_
  refine R_si (v := 800) d44_32 (by decide) ?_
  refine R_newa (N := 800) d44_35 rfl rfl (by decide) (by decide) (by decide) ?_
  refine R_put d44_37 (List.mem_of_getElem? (i := 16) rfl) rfl (by decide) rfl rfl (Or.inr ⟨rfl, rfl⟩) ?_
  refine R_p d44_40 rfl rfl ?_
  refine R_bi (v := 40) d44_41 (by decide) ?_
  refine R_newa (N := 40) d44_43 rfl rfl (by decide) (by decide) (by decide) ?_
  refine R_put d44_45 (List.mem_of_getElem? (i := 18) rfl) rfl (by decide) rfl rfl (Or.inr ⟨rfl, rfl⟩) ?_
  refine R_p d44_48 rfl rfl ?_
  refine R_p d44_49 rfl rfl ?_
  refine R_put d44_50 (List.mem_of_getElem? (i := 10) rfl) rfl (by decide) rfl rfl (Or.inr ⟨rfl, rfl⟩) ?_
  refine R_p d44_53 rfl rfl ?_
  refine R_p d44_54 rfl rfl ?_
  refine R_put d44_55 (List.mem_of_getElem? (i := 11) rfl) rfl (by decide) rfl rfl (Or.inr ⟨rfl, rfl⟩) ?_
  refine R_p d44_58 rfl rfl ?_
  refine R_get d44_59 (Or.inl (List.mem_of_getElem? (i := 12) rfl)) rfl rfl ?_
  refine R_ic (v := (-1)) d44_62 (by decide) ?_
  refine R_cs [.ref 24, .int (-1)] d44_63 (List.mem_of_getElem? (i := 5) rfl) rfl ⟨by decide, by decide, by decide, rfl, mcd167⟩ rfl rfl (by decide) (t_fillI (by decide) rfl) ?_
  exact R_vret d44_66 rfl rfl
set_option maxRecDepth 4000 in
theorem rk_HK10 {S : mE} : Run S 19 (0, [(0, .ref 29), (1, .ref 17), (2, .ref 23)], [], HK9) (.inl none, HK10) := by
  refine R_p d19_0 rfl rfl ?_
  refine R_obj d19_1 (List.mem_of_getElem? (i := 5) rfl) (by decide) (by decide) ?_
  refine R_p d19_4 rfl rfl ?_
  refine R_bi (v := 75) d19_5 (by decide) ?_
  refine R_newa (N := 75) d19_7 rfl rfl (by decide) (by decide) (by decide) ?_
  refine R_put d19_9 (List.mem_of_getElem? (i := 21) rfl) rfl (by decide) rfl rfl (Or.inr ⟨rfl, rfl⟩) ?_
  refine R_p d19_12 rfl rfl ?_
  refine R_bi (v := 75) d19_13 (by decide) ?_
  refine R_newa (N := 75) d19_15 rfl rfl (by decide) (by decide) (by decide) ?_
  refine R_put d19_17 (List.mem_of_getElem? (i := 22) rfl) rfl (by decide) rfl rfl (Or.inr ⟨rfl, rfl⟩) ?_
  refine R_p d19_20 rfl rfl ?_
  refine R_p d19_21 rfl rfl ?_
  refine R_put d19_22 (List.mem_of_getElem? (i := 19) rfl) rfl (by decide) rfl rfl (Or.inr ⟨rfl, rfl⟩) ?_
  refine R_p d19_25 rfl rfl ?_
  refine R_p d19_26 rfl rfl ?_
  refine R_put d19_27 (List.mem_of_getElem? (i := 20) rfl) rfl (by decide) rfl rfl (Or.inr ⟨rfl, rfl⟩) ?_
  exact R_vret d19_30 rfl rfl
set_option maxRecDepth 4000 in
theorem rk_HK14 {S : mE} : Run S 0 (0, [(0, .ref 37), (1, .int 1)], [], HK13) (.inl none, HK14) := by
  refine R_p d0_0 rfl rfl ?_
  refine R_obj d0_1 (List.mem_of_getElem? (i := 8) rfl) (by decide) (by decide) ?_
  refine R_p d0_4 rfl rfl ?_
  refine R_bi (v := 77) d0_5 (by decide) ?_
  refine R_newa (N := 77) d0_7 rfl rfl (by decide) (by decide) (by decide) ?_
  refine R_put d0_9 (List.mem_of_getElem? (i := 25) rfl) rfl (by decide) rfl rfl (Or.inr ⟨rfl, rfl⟩) ?_
  refine R_p d0_12 rfl rfl ?_
  refine R_p d0_13 rfl rfl ?_
  refine R_put d0_14 (List.mem_of_getElem? (i := 24) rfl) rfl (by decide) rfl rfl (Or.inr ⟨rfl, rfl⟩) ?_
  exact R_vret d0_17 rfl rfl
set_option maxRecDepth 4000 in
theorem rk_HK16 {S : mE} : Run S 0 (0, [(0, .ref 39), (1, .int (-1))], [], HK15) (.inl none, HK16) := by
  refine R_p d0_0 rfl rfl ?_
  refine R_obj d0_1 (List.mem_of_getElem? (i := 8) rfl) (by decide) (by decide) ?_
  refine R_p d0_4 rfl rfl ?_
  refine R_bi (v := 77) d0_5 (by decide) ?_
  refine R_newa (N := 77) d0_7 rfl rfl (by decide) (by decide) (by decide) ?_
  refine R_put d0_9 (List.mem_of_getElem? (i := 25) rfl) rfl (by decide) rfl rfl (Or.inr ⟨rfl, rfl⟩) ?_
  refine R_p d0_12 rfl rfl ?_
  refine R_p d0_13 rfl rfl ?_
  refine R_put d0_14 (List.mem_of_getElem? (i := 24) rfl) rfl (by decide) rfl rfl (Or.inr ⟨rfl, rfl⟩) ?_
  exact R_vret d0_17 rfl rfl
set_option maxRecDepth 4000 in
theorem rk_HK17 {S : mE} : Run S 9 (0, [(0, .ref 36), (1, .ref 17)], [], HK12) (.inl none, HK17) := by
  refine R_p d9_0 rfl rfl ?_
  refine R_obj d9_1 (List.mem_of_getElem? (i := 7) rfl) (by decide) (by decide) ?_
  refine R_p d9_4 rfl rfl ?_
  refine R_new d9_5 (List.mem_of_getElem? (i := 8) rfl) ?_
  refine R_p d9_8 rfl rfl ?_
  refine R_ic (v := 1) d9_9 (by decide) ?_
  refine R_cc [.int 1] d9_10 (List.mem_of_getElem? (i := 9) rfl) rfl ⟨by decide, by decide, by decide, rfl, mcd0⟩ rfl rfl (by decide) rfl rfl rk_HK14 ?_
  refine R_put d9_13 (List.mem_of_getElem? (i := 29) rfl) rfl (by decide) rfl rfl (Or.inr ⟨rfl, rfl⟩) ?_
  refine R_p d9_16 rfl rfl ?_
  refine R_new d9_17 (List.mem_of_getElem? (i := 8) rfl) ?_
  refine R_p d9_20 rfl rfl ?_
  refine R_ic (v := (-1)) d9_21 (by decide) ?_
  refine R_cc [.int (-1)] d9_22 (List.mem_of_getElem? (i := 9) rfl) rfl ⟨by decide, by decide, by decide, rfl, mcd0⟩ rfl rfl (by decide) rfl rfl rk_HK16 ?_
  refine R_put d9_25 (List.mem_of_getElem? (i := 30) rfl) rfl (by decide) rfl rfl (Or.inr ⟨rfl, rfl⟩) ?_
  refine R_p d9_28 rfl rfl ?_
  refine R_bi (v := 77) d9_29 (by decide) ?_
  refine R_newa (N := 77) d9_31 rfl rfl (by decide) (by decide) (by decide) ?_
  refine R_put d9_33 (List.mem_of_getElem? (i := 34) rfl) rfl (by decide) rfl rfl (Or.inr ⟨rfl, rfl⟩) ?_
  refine R_p d9_36 rfl rfl ?_
  refine R_p d9_37 rfl rfl ?_
  refine R_put d9_38 (List.mem_of_getElem? (i := 28) rfl) rfl (by decide) rfl rfl (Or.inr ⟨rfl, rfl⟩) ?_
  exact R_vret d9_41 rfl rfl
set_option maxRecDepth 4000 in
theorem rk_HK18 {S : mE} : Run S 78 (0, [(0, .ref 32), (1, .ref 17), (2, .ref 23)], [], HK11) (.inl none, HK18) := by
  refine R_p d78_0 rfl rfl ?_
  refine R_obj d78_1 (List.mem_of_getElem? (i := 6) rfl) (by decide) (by decide) ?_
  refine R_p d78_4 rfl rfl ?_
  refine R_bi (v := 75) d78_5 (by decide) ?_
  refine R_newa (N := 75) d78_7 rfl rfl (by decide) (by decide) (by decide) ?_
  refine R_put d78_9 (List.mem_of_getElem? (i := 39) rfl) rfl (by decide) rfl rfl (Or.inr ⟨rfl, rfl⟩) ?_
  refine R_p d78_12 rfl rfl ?_
  refine R_bi (v := 75) d78_13 (by decide) ?_
  refine R_newa (N := 75) d78_15 rfl rfl (by decide) (by decide) (by decide) ?_
  refine R_put d78_17 (List.mem_of_getElem? (i := 41) rfl) rfl (by decide) rfl rfl (Or.inr ⟨rfl, rfl⟩) ?_
  refine R_p d78_20 rfl rfl ?_
  refine R_bi (v := 75) d78_21 (by decide) ?_
  refine R_newa (N := 75) d78_23 rfl rfl (by decide) (by decide) (by decide) ?_
  refine R_put d78_25 (List.mem_of_getElem? (i := 42) rfl) rfl (by decide) rfl rfl (Or.inr ⟨rfl, rfl⟩) ?_
  refine R_p d78_28 rfl rfl ?_
  refine R_p d78_29 rfl rfl ?_
  refine R_put d78_30 (List.mem_of_getElem? (i := 36) rfl) rfl (by decide) rfl rfl (Or.inr ⟨rfl, rfl⟩) ?_
  refine R_p d78_33 rfl rfl ?_
  refine R_p d78_34 rfl rfl ?_
  refine R_put d78_35 (List.mem_of_getElem? (i := 37) rfl) rfl (by decide) rfl rfl (Or.inr ⟨rfl, rfl⟩) ?_
  refine R_p d78_38 rfl rfl ?_
  refine R_new d78_39 (List.mem_of_getElem? (i := 7) rfl) ?_
  refine R_p d78_42 rfl rfl ?_
  refine R_p d78_43 rfl rfl ?_
  refine R_cc [.ref 17] d78_44 (List.mem_of_getElem? (i := 8) rfl) rfl ⟨by decide, by decide, by decide, rfl, mcd9⟩ rfl rfl (by decide) rfl rfl rk_HK17 ?_
  refine R_put d78_47 (List.mem_of_getElem? (i := 38) rfl) rfl (by decide) rfl rfl (Or.inr ⟨rfl, rfl⟩) ?_
  exact R_vret d78_50 rfl rfl
set_option maxRecDepth 4000 in
theorem rk_MeshWalk {S : mE} : Run S 91 (0, [(0, .ref 16)], [], HK0) (.inl none, HK19) := by
  refine R_p d91_0 rfl rfl ?_
  refine R_obj d91_1 (List.mem_of_getElem? (i := 0) rfl) (by decide) (by decide) ?_
  refine R_new d91_4 (List.mem_of_getElem? (i := 1) rfl) ?_
  refine R_p d91_7 rfl rfl ?_
  refine R_cc [] d91_8 (List.mem_of_getElem? (i := 1) rfl) rfl ⟨by decide, by decide, by decide, rfl, mcd65⟩ rfl rfl (by decide) rfl rfl rk_HK4 ?_
  refine R_p (ls' := [(0, .ref 16), (1, .ref 17)]) d91_11 rfl rfl ?_
  refine R_new d91_12 (List.mem_of_getElem? (i := 3) rfl) ?_
  refine R_p d91_15 rfl rfl ?_
  refine R_p d91_16 rfl rfl ?_
  refine R_cc [.ref 17] d91_17 (List.mem_of_getElem? (i := 3) rfl) rfl ⟨by decide, by decide, by decide, rfl, mcd35⟩ rfl rfl (by decide) rfl rfl rk_HK6 ?_
  refine R_p (ls' := [(0, .ref 16), (1, .ref 17), (2, .ref 21)]) d91_20 rfl rfl ?_
  refine R_new d91_21 (List.mem_of_getElem? (i := 4) rfl) ?_
  refine R_p d91_24 rfl rfl ?_
  refine R_p d91_25 rfl rfl ?_
  refine R_p d91_26 rfl rfl ?_
  refine R_cc [.ref 17, .ref 21] d91_27 (List.mem_of_getElem? (i := 4) rfl) rfl ⟨by decide, by decide, by decide, rfl, mcd44⟩ rfl rfl (by decide) rfl rfl rk_HK8 ?_
  refine R_p (ls' := [(0, .ref 16), (1, .ref 17), (2, .ref 21), (3, .ref 23)]) d91_30 rfl rfl ?_
  refine R_p d91_31 rfl rfl ?_
  refine R_p d91_32 rfl rfl ?_
  refine R_put d91_33 (List.mem_of_getElem? (i := 43) rfl) rfl (by decide) rfl rfl (Or.inr ⟨rfl, rfl⟩) ?_
  refine R_p d91_36 rfl rfl ?_
  refine R_p d91_37 rfl rfl ?_
  refine R_put d91_38 (List.mem_of_getElem? (i := 44) rfl) rfl (by decide) rfl rfl (Or.inr ⟨rfl, rfl⟩) ?_
  refine R_p d91_41 rfl rfl ?_
  refine R_p d91_42 rfl rfl ?_
  refine R_put d91_43 (List.mem_of_getElem? (i := 45) rfl) rfl (by decide) rfl rfl (Or.inr ⟨rfl, rfl⟩) ?_
  refine R_p d91_46 rfl rfl ?_
  refine R_new d91_47 (List.mem_of_getElem? (i := 5) rfl) ?_
  refine R_p d91_50 rfl rfl ?_
  refine R_p d91_51 rfl rfl ?_
  refine R_p d91_52 rfl rfl ?_
  refine R_cc [.ref 17, .ref 23] d91_53 (List.mem_of_getElem? (i := 6) rfl) rfl ⟨by decide, by decide, by decide, rfl, mcd19⟩ rfl rfl (by decide) rfl rfl rk_HK10 ?_
  refine R_put d91_56 (List.mem_of_getElem? (i := 46) rfl) rfl (by decide) rfl rfl (Or.inr ⟨rfl, rfl⟩) ?_
  refine R_p d91_59 rfl rfl ?_
  refine R_new d91_60 (List.mem_of_getElem? (i := 6) rfl) ?_
  refine R_p d91_63 rfl rfl ?_
  refine R_p d91_64 rfl rfl ?_
  refine R_p d91_65 rfl rfl ?_
  refine R_cc [.ref 17, .ref 23] d91_66 (List.mem_of_getElem? (i := 7) rfl) rfl ⟨by decide, by decide, by decide, rfl, mcd78⟩ rfl rfl (by decide) rfl rfl rk_HK18 ?_
  refine R_put d91_69 (List.mem_of_getElem? (i := 47) rfl) rfl (by decide) rfl rfl (Or.inr ⟨rfl, rfl⟩) ?_
  exact R_vret d91_72 rfl rfl
set_option maxRecDepth 4000 in
theorem rk_Model {S : mE} : Run S 112 (0, [(0, .ref 42)], [], HK20) (.inl none, HK21) := by
  refine R_p d112_0 rfl rfl ?_
  refine R_obj d112_1 (List.mem_of_getElem? (i := 9) rfl) (by decide) (by decide) ?_
  refine R_p d112_4 rfl rfl ?_
  refine R_bi (v := 42) d112_5 (by decide) ?_
  refine R_newa (N := 42) d112_7 rfl rfl (by decide) (by decide) (by decide) ?_
  refine R_put d112_9 (List.mem_of_getElem? (i := 50) rfl) rfl (by decide) rfl rfl (Or.inr ⟨rfl, rfl⟩) ?_
  refine R_p d112_12 rfl rfl ?_
  refine R_bi (v := 42) d112_13 (by decide) ?_
  refine R_newa (N := 42) d112_15 rfl rfl (by decide) (by decide) (by decide) ?_
  refine R_put d112_17 (List.mem_of_getElem? (i := 51) rfl) rfl (by decide) rfl rfl (Or.inr ⟨rfl, rfl⟩) ?_
  refine R_p d112_20 rfl rfl ?_
  refine R_si (v := 1600) d112_21 (by decide) ?_
  refine R_newa (N := 1600) d112_24 rfl rfl (by decide) (by decide) (by decide) ?_
  refine R_put d112_26 (List.mem_of_getElem? (i := 52) rfl) rfl (by decide) rfl rfl (Or.inr ⟨rfl, rfl⟩) ?_
  refine R_p d112_29 rfl rfl ?_
  refine R_si (v := 1600) d112_30 (by decide) ?_
  refine R_newa (N := 1600) d112_33 rfl rfl (by decide) (by decide) (by decide) ?_
  refine R_put d112_35 (List.mem_of_getElem? (i := 53) rfl) rfl (by decide) rfl rfl (Or.inr ⟨rfl, rfl⟩) ?_
  refine R_p d112_38 rfl rfl ?_
  refine R_si (v := 300) d112_39 (by decide) ?_
  refine R_newa (N := 300) d112_42 rfl rfl (by decide) (by decide) (by decide) ?_
  refine R_put d112_44 (List.mem_of_getElem? (i := 56) rfl) rfl (by decide) rfl rfl (Or.inr ⟨rfl, rfl⟩) ?_
  refine R_p d112_47 rfl rfl ?_
  refine R_bi (v := 100) d112_48 (by decide) ?_
  refine R_newa (N := 100) d112_50 rfl rfl (by decide) (by decide) (by decide) ?_
  refine R_put d112_52 (List.mem_of_getElem? (i := 58) rfl) rfl (by decide) rfl rfl (Or.inr ⟨rfl, rfl⟩) ?_
  refine R_p d112_55 rfl rfl ?_
  refine R_bi (v := 100) d112_56 (by decide) ?_
  refine R_newa (N := 100) d112_58 rfl rfl (by decide) (by decide) (by decide) ?_
  refine R_put d112_60 (List.mem_of_getElem? (i := 60) rfl) rfl (by decide) rfl rfl (Or.inr ⟨rfl, rfl⟩) ?_
  refine R_p d112_63 rfl rfl ?_
  refine R_bi (v := 100) d112_64 (by decide) ?_
  refine R_newa (N := 100) d112_66 rfl rfl (by decide) (by decide) (by decide) ?_
  refine R_put d112_68 (List.mem_of_getElem? (i := 61) rfl) rfl (by decide) rfl rfl (Or.inr ⟨rfl, rfl⟩) ?_
  refine R_p d112_71 rfl rfl ?_
  refine R_bi (v := 100) d112_72 (by decide) ?_
  refine R_newa (N := 100) d112_74 rfl rfl (by decide) (by decide) (by decide) ?_
  refine R_put d112_76 (List.mem_of_getElem? (i := 62) rfl) rfl (by decide) rfl rfl (Or.inr ⟨rfl, rfl⟩) ?_
  refine R_p d112_79 rfl rfl ?_
  refine R_bi (v := 100) d112_80 (by decide) ?_
  refine R_newa (N := 100) d112_82 rfl rfl (by decide) (by decide) (by decide) ?_
  refine R_put d112_84 (List.mem_of_getElem? (i := 63) rfl) rfl (by decide) rfl rfl (Or.inr ⟨rfl, rfl⟩) ?_
  exact R_vret d112_87 rfl rfl
end
section
/-! loops of the reference, by hand (wip/gen/c16.py); contracts of small methods, on any heap that holds their cells -/
theorem d114_179 : decode (mCode 114) 179 = .ok (.iload 4, 2) := by decide +kernel
theorem d114_181 : decode (mCode 114) 181 = .ok (.bipush 40, 2) := by decide +kernel
theorem d114_183 : decode (mCode 114) 183 = .ok (.if_icmp .ge 41, 3) := by decide +kernel
theorem d114_186 : decode (mCode 114) 186 = .ok (.aload_n 0, 1) := by decide +kernel
theorem d114_187 : decode (mCode 114) 187 = .ok (.getfield 16, 3) := by decide +kernel
theorem d114_190 : decode (mCode 114) 190 = .ok (.bipush 40, 2) := by decide +kernel
theorem d114_192 : decode (mCode 114) 192 = .ok (.aload_n 0, 1) := by decide +kernel
theorem d114_193 : decode (mCode 114) 193 = .ok (.getfield 52, 3) := by decide +kernel
theorem d114_196 : decode (mCode 114) 196 = .ok (.imul, 1) := by decide +kernel
theorem d114_197 : decode (mCode 114) 197 = .ok (.iload 4, 2) := by decide +kernel
theorem d114_199 : decode (mCode 114) 199 = .ok (.iadd, 1) := by decide +kernel
theorem d114_200 : decode (mCode 114) 200 = .ok (.iconst 0, 1) := by decide +kernel
theorem d114_201 : decode (mCode 114) 201 = .ok (.bastore, 1) := by decide +kernel
theorem d114_202 : decode (mCode 114) 202 = .ok (.aload_n 0, 1) := by decide +kernel
theorem d114_203 : decode (mCode 114) 203 = .ok (.getfield 16, 3) := by decide +kernel
theorem d114_206 : decode (mCode 114) 206 = .ok (.bipush 40, 2) := by decide +kernel
theorem d114_208 : decode (mCode 114) 208 = .ok (.iload 4, 2) := by decide +kernel
theorem d114_210 : decode (mCode 114) 210 = .ok (.imul, 1) := by decide +kernel
theorem d114_211 : decode (mCode 114) 211 = .ok (.aload_n 0, 1) := by decide +kernel
theorem d114_212 : decode (mCode 114) 212 = .ok (.getfield 52, 3) := by decide +kernel
theorem d114_215 : decode (mCode 114) 215 = .ok (.iadd, 1) := by decide +kernel
theorem d114_216 : decode (mCode 114) 216 = .ok (.iconst 0, 1) := by decide +kernel
theorem d114_217 : decode (mCode 114) 217 = .ok (.bastore, 1) := by decide +kernel
theorem d114_218 : decode (mCode 114) 218 = .ok (.iinc 4 1, 3) := by decide +kernel
theorem d114_221 : decode (mCode 114) 221 = .ok (.goto (-42), 3) := by decide +kernel
theorem d126_17 : decode (mCode 126) 17 = .ok (.iload_n 2, 1) := by decide +kernel
theorem d126_18 : decode (mCode 126) 18 = .ok (.sipush 1600, 3) := by decide +kernel
theorem d126_21 : decode (mCode 126) 21 = .ok (.if_icmp .ge 16, 3) := by decide +kernel
theorem d126_24 : decode (mCode 126) 24 = .ok (.aload_n 0, 1) := by decide +kernel
theorem d126_25 : decode (mCode 126) 25 = .ok (.getfield 16, 3) := by decide +kernel
theorem d126_28 : decode (mCode 126) 28 = .ok (.iload_n 2, 1) := by decide +kernel
theorem d126_29 : decode (mCode 126) 29 = .ok (.iconst 0, 1) := by decide +kernel
theorem d126_30 : decode (mCode 126) 30 = .ok (.bastore, 1) := by decide +kernel
theorem d126_31 : decode (mCode 126) 31 = .ok (.iinc 2 1, 3) := by decide +kernel
theorem d126_34 : decode (mCode 126) 34 = .ok (.goto (-17), 3) := by decide +kernel
theorem d128_20 : decode (mCode 128) 20 = .ok (.iload_n 1, 1) := by decide +kernel
theorem d128_21 : decode (mCode 128) 21 = .ok (.sipush 1600, 3) := by decide +kernel
theorem d128_24 : decode (mCode 128) 24 = .ok (.if_icmp .ge 21, 3) := by decide +kernel
theorem d128_27 : decode (mCode 128) 27 = .ok (.aload_n 0, 1) := by decide +kernel
theorem d128_28 : decode (mCode 128) 28 = .ok (.getfield 20, 3) := by decide +kernel
theorem d128_31 : decode (mCode 128) 31 = .ok (.iload_n 1, 1) := by decide +kernel
theorem d128_32 : decode (mCode 128) 32 = .ok (.aload_n 0, 1) := by decide +kernel
theorem d128_33 : decode (mCode 128) 33 = .ok (.getfield 16, 3) := by decide +kernel
theorem d128_36 : decode (mCode 128) 36 = .ok (.iload_n 1, 1) := by decide +kernel
theorem d128_37 : decode (mCode 128) 37 = .ok (.baload, 1) := by decide +kernel
theorem d128_38 : decode (mCode 128) 38 = .ok (.bastore, 1) := by decide +kernel
theorem d128_39 : decode (mCode 128) 39 = .ok (.iinc 1 1, 3) := by decide +kernel
theorem d128_42 : decode (mCode 128) 42 = .ok (.goto (-22), 3) := by decide +kernel
def mcpz (n : Nat) (L E : Nat → Int32) : Nat → Int32 := fun j => if j < n then vp_nar .boolean (L j) else E j
theorem mcpz_0 (L E : Nat → Int32) : mcpz 0 L E = E := by funext j; simp [mcpz]
theorem mcpz_s (n : Nat) (L E : Nat → Int32) : upd (mcpz n L E) n (vp_nar .boolean (L n)) = mcpz (n + 1) L E := by
  funext j
  simp only [upd, mcpz]
  by_cases h : j = n
  · simp [h]
  · by_cases h2 : j < n
    · simp [h, h2, Nat.lt_succ_of_lt h2]
    · simp [h, h2, show ¬ j < n + 1 by omega]
theorem nI_1600 : (1600 : Int32) = nI 1600 := by decide
theorem nI_40 : (40 : Int32) = nI 40 := by decide
/-- mesh(): edges[k] = links[k] for all k -/
theorem t_meshCopy {S : mE} {h : mHp} {r : mR} {fs : List Value} {L E : Nat → Int32} (hm : mget h 42 = some (.inr (9, fs))) (h4 : fs[4]? = some (.ref 45)) (h5 : fs[5]? = some (.ref 46)) (hL : mget h 45 = some (.inl (.boolean, 1600, .inl L))) (hE : mget h 46 = some (.inl (.boolean, 1600, .inl E)))
    (kk : Run S 128 (45, [(0, .ref 42), (1, .int 1600)], [], mput h 46 (.inl (.boolean, 1600, .inl (mcpz 1600 L E)))) r) : ∀ k i : Nat, i + k = 1600 → Run S 128 (20, [(0, .ref 42), (1, .int (nI i))], [], mput h 46 (.inl (.boolean, 1600, .inl (mcpz i L E)))) r := by
  intro k
  induction k with
  | zero =>
    intro i hi
    have hi : i = 1600 := by omega
    subst hi
    refine R_p d128_20 rfl rfl ?_
    refine R_si (v := 1600) d128_21 (by decide) ?_
    refine R_br 45 d128_24 (mb_t (b := ((1600 : Int32) ≤ nI 1600)) (by decide)) rfl ?_
    exact kk
  | succ k ih =>
    intro i hi
    refine R_p d128_20 rfl rfl ?_
    refine R_si (v := 1600) d128_21 (by decide) ?_
    refine R_nb d128_24 rfl (mb_f (b := ((1600 : Int32) ≤ nI i)) (by rw [nI_1600]; exact nI_ge (by omega) (by omega))) ?_
    refine R_p d128_27 rfl rfl ?_
    refine R_get d128_28 (Or.inl (List.mem_of_getElem? (i := 53) rfl)) ((mget_ne (by decide) (by decide)).trans hm) h5 ?_
    refine R_p d128_31 rfl rfl ?_
    refine R_p d128_32 rfl rfl ?_
    refine R_get d128_33 (Or.inl (List.mem_of_getElem? (i := 52) rfl)) ((mget_ne (by decide) (by decide)).trans hm) h4 ?_
    refine R_p d128_36 rfl rfl ?_
    refine R_zld d128_37 ((mget_ne (by decide) (by decide)).trans hL) (vp_in_nI (by omega) (by omega)) ?_
    refine R_zst d128_38 (mget_eq hE _) (vp_in_nI (by omega) (by omega)) ?_
    refine R_p d128_39 rfl rfl ?_
    refine R_br 20 d128_42 rfl rfl ?_
    refine R_e (20, [(0, .ref 42), (1, .int (nI (i + 1)))], [], mput h 46 (.inl (.boolean, 1600, .inl (mcpz (i + 1) L E)))) ?_ (ih (i + 1) (by omega))
    rw [mput_put, nI_clamp (by omega), mcpz_s, ← nI_inc]
    rfl
/-- clear(): links[k] = false for all k -/
theorem t_clearLoop {S : mE} {h : mHp} {r : mR} {fs : List Value} {n : Int32} {L : Nat → Int32} (hm : mget h 42 = some (.inr (9, fs))) (h4 : fs[4]? = some (.ref 45)) (hL : mget h 45 = some (.inl (.boolean, 1600, .inl L)))
    (kk : Run S 126 (37, [(0, .ref 42), (1, .int n), (2, .int 1600)], [], mput h 45 (.inl (.boolean, 1600, .inl (mfill 1600 0 L)))) r) : ∀ k i : Nat, i + k = 1600 → Run S 126 (17, [(0, .ref 42), (1, .int n), (2, .int (nI i))], [], mput h 45 (.inl (.boolean, 1600, .inl (mfill i 0 L)))) r := by
  intro k
  induction k with
  | zero =>
    intro i hi
    have hi : i = 1600 := by omega
    subst hi
    refine R_p d126_17 rfl rfl ?_
    refine R_si (v := 1600) d126_18 (by decide) ?_
    refine R_br 37 d126_21 (mb_t (b := ((1600 : Int32) ≤ nI 1600)) (by decide)) rfl ?_
    exact kk
  | succ k ih =>
    intro i hi
    refine R_p d126_17 rfl rfl ?_
    refine R_si (v := 1600) d126_18 (by decide) ?_
    refine R_nb d126_21 rfl (mb_f (b := ((1600 : Int32) ≤ nI i)) (by rw [nI_1600]; exact nI_ge (by omega) (by omega))) ?_
    refine R_p d126_24 rfl rfl ?_
    refine R_get d126_25 (Or.inl (List.mem_of_getElem? (i := 52) rfl)) ((mget_ne (by decide) (by decide)).trans hm) h4 ?_
    refine R_p d126_28 rfl rfl ?_
    refine R_ic (v := 0) d126_29 (by decide) ?_
    refine R_zst d126_30 (mget_eq hL _) (vp_in_nI (by omega) (by omega)) ?_
    refine R_p d126_31 rfl rfl ?_
    refine R_br 17 d126_34 rfl rfl ?_
    refine R_e (17, [(0, .ref 42), (1, .int n), (2, .int (nI (i + 1)))], [], mput h 45 (.inl (.boolean, 1600, .inl (mfill (i + 1) 0 L)))) ?_ (ih (i + 1) (by omega))
    rw [mput_put, nI_clamp (by omega), show vp_nar .boolean 0 = 0 from by decide, mfill_s, ← nI_inc]
    rfl
def mrow (p n : Nat) (L : Nat → Int32) : Nat → Int32 := fun j => if (40 * p ≤ j ∧ j < 40 * p + n) ∨ (j % 40 = p ∧ j / 40 < n) then 0 else L j
theorem mrow_0 (p : Nat) (L : Nat → Int32) : mrow p 0 L = L := by
  funext j
  simp only [mrow]
  rw [if_neg (by omega)]
theorem mrow_s (p n : Nat) (hp : p < 40) (L : Nat → Int32) : upd (upd (mrow p n L) (40 * p + n) 0) (40 * n + p) 0 = mrow p (n + 1) L := by
  funext j
  simp only [upd, mrow]
  by_cases h1 : j = 40 * n + p
  · rw [if_pos h1, if_pos (Or.inr (by omega))]
  · rw [if_neg h1]
    by_cases h2 : j = 40 * p + n
    · rw [if_pos h2, if_pos (Or.inl (by omega))]
    · rw [if_neg h2]
      by_cases h3 : (40 * p ≤ j ∧ j < 40 * p + n) ∨ (j % 40 = p ∧ j / 40 < n)
      · rw [if_pos h3, if_pos (by omega)]
      · rw [if_neg h3, if_neg (by omega)]
/-- add(..): the row and the column of the new point are emptied -/
theorem t_addLoop {S : mE} {h : mHp} {r : mR} {fs : List Value} {p : Nat} {L : Nat → Int32} {x y : Int32} {tl : mL} (hp : p < 40) (hm : mget h 42 = some (.inr (9, fs))) (h1 : fs[1]? = some (.int (nI p))) (h4 : fs[4]? = some (.ref 45)) (hL : mget h 45 = some (.inl (.boolean, 1600, .inl L))) (v3 v5 : Int32)
    (htl : tl = [] ∨ tl = [(5, .int v5)])
    (kk : Run S 114 (224, [(0, .ref 42), (1, .int x), (2, .int y), (3, .int v3), (4, .int 40)] ++ tl, [], mput h 45 (.inl (.boolean, 1600, .inl (mrow p 40 L)))) r) : ∀ k i : Nat, i + k = 40 → Run S 114 (179, [(0, .ref 42), (1, .int x), (2, .int y), (3, .int v3), (4, .int (nI i))] ++ tl, [], mput h 45 (.inl (.boolean, 1600, .inl (mrow p i L)))) r := by
  intro k
  induction k with
  | zero =>
    intro i hi
    have hi : i = 40 := by omega
    subst hi
    refine R_p d114_179 rfl rfl ?_
    refine R_bi (v := 40) d114_181 (by decide) ?_
    refine R_br 224 d114_183 (mb_t (b := ((40 : Int32) ≤ nI 40)) (by decide)) rfl ?_
    exact kk
  | succ k ih =>
    intro i hi
    refine R_p d114_179 rfl rfl ?_
    refine R_bi (v := 40) d114_181 (by decide) ?_
    refine R_nb d114_183 rfl (mb_f (b := ((40 : Int32) ≤ nI i)) (by rw [nI_40]; exact nI_ge (by omega) (by omega))) ?_
    refine R_p d114_186 rfl rfl ?_
    refine R_get d114_187 (Or.inl (List.mem_of_getElem? (i := 52) rfl)) ((mget_ne (by decide) (by decide)).trans hm) h4 ?_
    refine R_bi (v := 40) d114_190 (by decide) ?_
    refine R_p d114_192 rfl rfl ?_
    refine R_get d114_193 (Or.inl (List.mem_of_getElem? (i := 49) rfl)) ((mget_ne (by decide) (by decide)).trans hm) h1 ?_
    refine R_p d114_196 rfl rfl ?_
    refine R_p d114_197 rfl rfl ?_
    refine R_p d114_199 rfl rfl ?_
    refine R_ic (v := 0) d114_200 (by decide) ?_
    have e1 : (40 : Int32) * nI p + nI i = nI (40 * p + i) := by rw [nI_40, pk_mul, nI_add]
    have e2 : (40 : Int32) * nI i + nI p = nI (40 * i + p) := by rw [nI_40, pk_mul, nI_add]
    refine R_zst d114_201 (mget_eq hL _) (by show vp_in ((40 : Int32) * nI p + nI i) 1600; rw [e1]; exact vp_in_nI (by omega) (by omega)) ?_
    refine R_p d114_202 rfl rfl ?_
    refine R_get d114_203 (Or.inl (List.mem_of_getElem? (i := 52) rfl)) ((mget_ne (by decide) (by decide)).trans ((mget_ne (by decide) (by decide)).trans hm)) h4 ?_
    refine R_bi (v := 40) d114_206 (by decide) ?_
    refine R_p d114_208 rfl rfl ?_
    refine R_p d114_210 rfl rfl ?_
    refine R_p d114_211 rfl rfl ?_
    refine R_get d114_212 (Or.inl (List.mem_of_getElem? (i := 49) rfl)) ((mget_ne (by decide) (by decide)).trans ((mget_ne (by decide) (by decide)).trans hm)) h1 ?_
    refine R_p d114_215 rfl rfl ?_
    refine R_ic (v := 0) d114_216 (by decide) ?_
    refine R_zst d114_217 (mget_eq (mget_eq hL _) _) (by show vp_in ((40 : Int32) * nI i + nI p) 1600; rw [e2]; exact vp_in_nI (by omega) (by omega)) ?_
    refine R_p (ls' := [(0, .ref 42), (1, .int x), (2, .int y), (3, .int v3), (4, .int (nI i + Int32.ofInt 1))] ++ tl) d114_218 rfl (by rcases htl with rfl | rfl <;> rfl) ?_
    refine R_br 179 d114_221 rfl rfl ?_
    refine R_e (179, [(0, .ref 42), (1, .int x), (2, .int y), (3, .int v3), (4, .int (nI (i + 1)))] ++ tl, [], mput h 45 (.inl (.boolean, 1600, .inl (mrow p (i + 1) L)))) ?_ (ih (i + 1) (by omega))
    dsimp only
    rw [mput_put, mput_put, e1, e2, nI_clamp (by omega), nI_clamp (by omega), show vp_nar .boolean 0 = 0 from by decide, mrow_s p i hp, ← nI_inc]
end
section
/-! rows for walks over wholly known heaps; the loops of part 16 from their beginnings -/
section Sym
variable {S : mE} {M pc : Nat} {ls : mL} {st : List Value} {h : mHp} {r : mR}
theorem R_nv {v v' : Int32} (e : v = v') (k : Run S M (pc, ls, .int v' :: st, h) r) : Run S M (pc, ls, .int v :: st, h) r := e ▸ k
theorem R_nw {v v' : Int64} (e : v = v') (k : Run S M (pc, ls, .long v' :: st, h) r) : Run S M (pc, ls, .long v :: st, h) r := e ▸ k
theorem Q_nv {v v' : Int32} (e : v = v') (k : RunsP M (pc, ls, .int v' :: st, h) r) : RunsP M (pc, ls, .int v :: st, h) r := e ▸ k
theorem vp_ok {i : Int32} {n : Nat} (h : ¬ (i < 0 ∨ n ≤ i.toNatClampNeg)) : vp_in i n := h
theorem R_sldk {N : Nat} {f : Nat → Int32} {i x : Int32} {n : Nat} (hd : decode (mCode M) pc = .ok (.iaload, 1)) (hin : vp_in i N) (hn : i.toNatClampNeg = n) (hx : f n = x) (k : Run (N, f) M (pc + 1, ls, .int x :: st, h) r) : Run (N, f) M (pc, ls, .int i :: .ref 0 :: st, h) r := R_sld hd hin (by rw [hn]; show Run (N, f) M (pc + 1, ls, .int (f n) :: st, h) r; rw [hx]; exact k)
theorem m1_lt {x : Int32} (h : ¬ x < 0) : -1 < x := by
  rw [Int32.lt_iff_toInt_lt] at h ⊢
  have e0 : (0 : Int32).toInt = 0 := by decide
  have e1 : (-1 : Int32).toInt = -1 := by decide
  omega
theorem m1_nlt {x : Int32} (h : x < 0) : ¬ -1 < x := by
  rw [Int32.lt_iff_toInt_lt] at h ⊢
  have e0 : (0 : Int32).toInt = 0 := by decide
  have e1 : (-1 : Int32).toInt = -1 := by decide
  omega
theorem sw_ne {x : Int32} {n : Int32} (h : ¬ x = n) : x.toInt ≠ n.toInt := fun e => h (Int32.toInt_inj.mp e)
theorem sw_out5 {x : Int32} (h0 : ¬ x = 0) (h1 : ¬ x = 1) (h2 : ¬ x = 2) (h3 : ¬ x = 3) (h4 : ¬ x = 4) : x.toInt < 0 ∨ 4 < x.toInt := by
  have a0 := sw_ne h0; have a1 := sw_ne h1; have a2 := sw_ne h2; have a3 := sw_ne h3; have a4 := sw_ne h4
  simp only [show (0 : Int32).toInt = 0 from by decide, show (1 : Int32).toInt = 1 from by decide, show (2 : Int32).toInt = 2 from by decide, show (3 : Int32).toInt = 3 from by decide, show (4 : Int32).toInt = 4 from by decide] at a0 a1 a2 a3 a4
  omega
theorem R_meshCopy {fs : List Value} {L E : Nat → Int32} (hm : mget h 42 = some (.inr (9, fs))) (h4 : fs[4]? = some (.ref 45)) (h5 : fs[5]? = some (.ref 46)) (hL : mget h 45 = some (.inl (.boolean, 1600, .inl L))) (hE : mget h 46 = some (.inl (.boolean, 1600, .inl E))) (kk : Run S 128 (45, [(0, .ref 42), (1, .int 1600)], [], mput h 46 (.inl (.boolean, 1600, .inl (mcpz 1600 L E)))) r) : Run S 128 (20, [(0, .ref 42), (1, .int 0)], [], h) r := by
  refine R_e (20, [(0, .ref 42), (1, .int (nI 0))], [], mput h 46 (.inl (.boolean, 1600, .inl (mcpz 0 L E)))) ?_ (t_meshCopy hm h4 h5 hL hE kk 1600 0 (by omega))
  rw [mcpz_0, mput_self hE]
  rfl
theorem R_clearLoop {fs : List Value} {n : Int32} {L : Nat → Int32} (hm : mget h 42 = some (.inr (9, fs))) (h4 : fs[4]? = some (.ref 45)) (hL : mget h 45 = some (.inl (.boolean, 1600, .inl L))) (kk : Run S 126 (37, [(0, .ref 42), (1, .int n), (2, .int 1600)], [], mput h 45 (.inl (.boolean, 1600, .inl (mfill 1600 0 L)))) r) : Run S 126 (17, [(0, .ref 42), (1, .int n), (2, .int 0)], [], h) r := by
  refine R_e (17, [(0, .ref 42), (1, .int n), (2, .int (nI 0))], [], mput h 45 (.inl (.boolean, 1600, .inl (mfill 0 0 L)))) ?_ (t_clearLoop hm h4 hL kk 1600 0 (by omega))
  rw [mfill_0, mput_self hL]
  rfl
theorem R_addLoop {fs : List Value} {p : Nat} {L : Nat → Int32} {x y v3 : Int32} (hp : p < 40) (hm : mget h 42 = some (.inr (9, fs))) (h1 : fs[1]? = some (.int (nI p))) (h4 : fs[4]? = some (.ref 45)) (hL : mget h 45 = some (.inl (.boolean, 1600, .inl L))) (kk : Run S 114 (224, [(0, .ref 42), (1, .int x), (2, .int y), (3, .int v3), (4, .int 40)], [], mput h 45 (.inl (.boolean, 1600, .inl (mrow p 40 L)))) r) : Run S 114 (179, [(0, .ref 42), (1, .int x), (2, .int y), (3, .int v3), (4, .int 0)], [], h) r := by
  refine R_e (179, [(0, .ref 42), (1, .int x), (2, .int y), (3, .int v3), (4, .int (nI 0))] ++ [], [], mput h 45 (.inl (.boolean, 1600, .inl (mrow p 0 L)))) ?_ (t_addLoop hp hm h1 h4 hL v3 0 (Or.inl rfl) kk 40 0 (by omega))
  rw [mrow_0, mput_self hL]
  rfl
end Sym
end
section
/-! the law: its entry, its loop head, its end -/
theorem d171_0 : decode (mCode 171) 0 = .ok (.new 8, 3) := by decide +kernel
theorem d171_3 : decode (mCode 171) 3 = .ok (.dup, 1) := by decide +kernel
theorem d171_4 : decode (mCode 171) 4 = .ok (.invokespecial 49, 3) := by decide +kernel
theorem d171_7 : decode (mCode 171) 7 = .ok (.astore_n 1, 1) := by decide +kernel
theorem d171_8 : decode (mCode 171) 8 = .ok (.new 50, 3) := by decide +kernel
theorem d171_11 : decode (mCode 171) 11 = .ok (.dup, 1) := by decide +kernel
theorem d171_12 : decode (mCode 171) 12 = .ok (.invokespecial 52, 3) := by decide +kernel
theorem d171_15 : decode (mCode 171) 15 = .ok (.astore_n 2, 1) := by decide +kernel
theorem d171_16 : decode (mCode 171) 16 = .ok (.iconst 1, 1) := by decide +kernel
theorem d171_17 : decode (mCode 171) 17 = .ok (.newarray .long, 2) := by decide +kernel
theorem d171_19 : decode (mCode 171) 19 = .ok (.astore_n 3, 1) := by decide +kernel
theorem d171_20 : decode (mCode 171) 20 = .ok (.iconst 0, 1) := by decide +kernel
theorem d171_21 : decode (mCode 171) 21 = .ok (.istore 4, 2) := by decide +kernel
theorem d171_23 : decode (mCode 171) 23 = .ok (.iload 4, 2) := by decide +kernel
theorem d171_25 : decode (mCode 171) 25 = .ok (.aload_n 0, 1) := by decide +kernel
theorem d171_26 : decode (mCode 171) 26 = .ok (.arraylength, 1) := by decide +kernel
theorem d171_27 : decode (mCode 171) 27 = .ok (.iconst 5, 1) := by decide +kernel
theorem d171_28 : decode (mCode 171) 28 = .ok (.isub, 1) := by decide +kernel
theorem d171_29 : decode (mCode 171) 29 = .ok (.if_icmp .gt 927, 3) := by decide +kernel
theorem d171_32 : decode (mCode 171) 32 = .ok (.aload_n 0, 1) := by decide +kernel
theorem d171_33 : decode (mCode 171) 33 = .ok (.iload 4, 2) := by decide +kernel
theorem d171_35 : decode (mCode 171) 35 = .ok (.iaload, 1) := by decide +kernel
theorem d171_36 : decode (mCode 171) 36 = .ok (.bipush 15, 2) := by decide +kernel
theorem d171_38 : decode (mCode 171) 38 = .ok (.iand, 1) := by decide +kernel
theorem d171_39 : decode (mCode 171) 39 = .ok (.tableswitch 911 0 13 #[69, 137, 212, 287, 300, 325, 393, 461, 529, 609, 701, 769, 861, 886], 69) := by decide +kernel
theorem d171_950 : decode (mCode 171) 950 = .ok (.iinc 4 5, 3) := by decide +kernel
theorem d171_953 : decode (mCode 171) 953 = .ok (.goto (-930), 3) := by decide +kernel
theorem d171_956 : decode (mCode 171) 956 = .ok (.iconst 1, 1) := by decide +kernel
theorem d171_957 : decode (mCode 171) 957 = .ok (.ireturn, 1) := by decide +kernel
def HL0 : mHp := [(.inr (8, [.ref 17, .ref 21, .ref 23, .ref 29, .ref 32])), (.inr (5, [.ref 18, .ref 19, .ref 20, .int 0])), (.inl (.int, 42, .inl ((fun _ => 0)))), (.inl (.int, 42, .inl ((fun _ => 0)))), (.inr (7, [.long 0, .long 0, .long 0])), (.inr (3, [.ref 17, .ref 22, .int 0])), (.inl (.long, 40, .inr (.inl ((fun _ => 0))))), (.inr (4, [.ref 17, .ref 21, .ref 24, .ref 25, .ref 26, .int 0, .ref 27, .int 0, .ref 28])), (.inl (.int, 1600, .inl (mfill 1600 (-1) (fun _ => 0)))), (.inl (.int, 1600, .inl ((fun _ => 0)))), (.inl (.int, 225, .inl ((fun _ => 0)))), (.inl (.int, 800, .inl ((fun _ => 0)))), (.inl (.long, 40, .inr (.inl ((fun _ => 0))))), (.inr (2, [.ref 17, .ref 23, .ref 30, .ref 31, .int 0])), (.inl (.int, 75, .inl ((fun _ => 0)))), (.inl (.int, 75, .inl ((fun _ => 0)))), (.inr (6, [.ref 17, .ref 23, .ref 36, .ref 33, .int 0, .ref 34, .ref 35])), (.inl (.int, 75, .inl ((fun _ => 0)))), (.inl (.int, 75, .inl ((fun _ => 0)))), (.inl (.int, 75, .inl ((fun _ => 0)))), (.inr (1, [.ref 17, .ref 37, .ref 39, .int 0, .int 0, .int 0, .ref 41, .int 0])), (.inr (0, [.int 1, .ref 38, .int 0, .int 0])), (.inl (.int, 77, .inl ((fun _ => 0)))), (.inr (0, [.int (-1), .ref 40, .int 0, .int 0])), (.inl (.int, 77, .inl ((fun _ => 0)))), (.inl (.int, 77, .inl ((fun _ => 0)))), (.inr (9, [.int 0, .int 0, .ref 43, .ref 44, .ref 45, .ref 46, .int 0, .int 0, .ref 47, .int 0, .ref 48, .int 0, .ref 49, .ref 50, .ref 51, .ref 52, .long 0, .long 0])), (.inl (.long, 42, .inr (.inl ((fun _ => 0))))), (.inl (.long, 42, .inr (.inl ((fun _ => 0))))), (.inl (.boolean, 1600, .inl ((fun _ => 0)))), (.inl (.boolean, 1600, .inl ((fun _ => 0)))), (.inl (.int, 300, .inl ((fun _ => 0)))), (.inl (.int, 100, .inl ((fun _ => 0)))), (.inl (.int, 100, .inl ((fun _ => 0)))), (.inl (.int, 100, .inl ((fun _ => 0)))), (.inl (.int, 100, .inl ((fun _ => 0)))), (.inl (.int, 100, .inl ((fun _ => 0)))), (.inl (.long, 1, .inr (.inl (fun _ => 0))))]
set_option maxRecDepth 4000 in
theorem law_entry {S : mE} {r : mR} (kk : Run S 171 (23, [(0, .ref 0), (1, .ref 16), (2, .ref 42), (3, .ref 53), (4, .int 0)], [], HL0) r) : Run S 171 (0, [(0, .ref 0)], [], []) r := by
  refine R_new d171_0 (List.mem_of_getElem? (i := 0) rfl) ?_
  refine R_p d171_3 rfl rfl ?_
  refine R_cc [] d171_4 (List.mem_of_getElem? (i := 0) rfl) rfl ⟨by decide, by decide, Nat.le_of_ble_eq_true rfl, rfl, mcd91⟩ rfl rfl (by decide) rfl rfl rk_MeshWalk ?_
  refine R_p (ls' := [(0, .ref 0), (1, .ref 16)]) d171_7 rfl rfl ?_
  refine R_new d171_8 (List.mem_of_getElem? (i := 9) rfl) ?_
  refine R_p d171_11 rfl rfl ?_
  refine R_h HK20 rfl ?_
  refine R_cc [] d171_12 (List.mem_of_getElem? (i := 159) rfl) rfl ⟨by decide, by decide, Nat.le_of_ble_eq_true rfl, rfl, mcd112⟩ rfl rfl (by decide) rfl rfl rk_Model ?_
  refine R_p (ls' := [(0, .ref 0), (1, .ref 16), (2, .ref 42)]) d171_15 rfl rfl ?_
  refine R_ic (v := 1) d171_16 (by decide) ?_
  refine R_newa (N := 1) d171_17 rfl rfl (by decide) (by decide) (by decide) ?_
  refine R_p (ls' := [(0, .ref 0), (1, .ref 16), (2, .ref 42), (3, .ref 53)]) d171_19 rfl rfl ?_
  refine R_ic (v := 0) d171_20 (by decide) ?_
  refine R_p (ls' := [(0, .ref 0), (1, .ref 16), (2, .ref 42), (3, .ref 53), (4, .int 0)]) d171_21 rfl rfl ?_
  refine R_h HL0 rfl ?_
  exact kk
theorem law_exit {S : mE} {ls : mL} {h : mHp} : Run S 171 (956, ls, [], h) (.inl (some (.int 1)), h) := by
  refine R_ic (v := 1) d171_956 (by decide) ?_
  exact R_iret d171_957 rfl rfl rfl
/-- the loop's test: it ends -/
theorem law_out {S : mE} {i : Int32} {tl : mL} {h : mHp} (hi : Int32.ofNat S.1 - 5 < i) : Run S 171 (23, [(0, .ref 0), (1, .ref 16), (2, .ref 42), (3, .ref 53), (4, .int i)] ++ tl, [], h) (.inl (some (.int 1)), h) := by
  refine R_p d171_23 rfl rfl ?_
  refine R_p d171_25 rfl rfl ?_
  refine R_sln d171_26 ?_
  refine R_ic (v := 5) d171_27 (by decide) ?_
  refine R_p d171_28 rfl rfl ?_
  refine R_br 956 d171_29 (mb_t (b := (Int32.ofNat S.1 - 5 < i)) hi) rfl ?_
  exact law_exit
/-- the loop's test: it goes on, with the next call's number on the stack -/
theorem law_in {N : Nat} {f : Nat → Int32} {i : Int32} {n : Nat} {tl : mL} {h : mHp} {r : mR} (hi : ¬ Int32.ofNat N - 5 < i) (hin : vp_in i N) (hn : i.toNatClampNeg = n) (kk : Run (N, f) 171 (39, [(0, .ref 0), (1, .ref 16), (2, .ref 42), (3, .ref 53), (4, .int i)] ++ tl, [.int (f n &&& 15)], h) r) : Run (N, f) 171 (23, [(0, .ref 0), (1, .ref 16), (2, .ref 42), (3, .ref 53), (4, .int i)] ++ tl, [], h) r := by
  refine R_p d171_23 rfl rfl ?_
  refine R_p d171_25 rfl rfl ?_
  refine R_sln d171_26 ?_
  refine R_ic (v := 5) d171_27 (by decide) ?_
  refine R_p d171_28 rfl rfl ?_
  refine R_nb d171_29 rfl (mb_f (b := (Int32.ofNat N - 5 < i)) hi) ?_
  refine R_p d171_32 rfl rfl ?_
  refine R_p d171_33 rfl rfl ?_
  refine R_sldk (n := n) (x := f n) d171_35 hin hn rfl ?_
  refine R_bi (v := 15) d171_36 (by decide) ?_
  refine R_p d171_38 rfl rfl ?_
  exact kk
end
section
/-! THE STATE: the objects and arrays that both constructors make lie at fixed places, behind them the exceptions; mS: arrays of ints (and booleans), arrays of longs, fields of ints, fields of longs, by their numbers -/
abbrev mS : Type := (Nat → Nat → Int32) × (Nat → Nat → Int64) × (Nat → Int32) × (Nat → Int64)
def uA (k : Nat) (T : Nat → Int32) (s : mS) : mS := (fun j => if j = k then T else s.1 j, s.2)
def uJ (k : Nat) (T : Nat → Int64) (s : mS) : mS := (s.1, fun j => if j = k then T else s.2.1 j, s.2.2)
def uF (k : Nat) (v : Int32) (s : mS) : mS := (s.1, s.2.1, fun j => if j = k then v else s.2.2.1 j, s.2.2.2)
def uG (k : Nat) (v : Int64) (s : mS) : mS := (s.1, s.2.1, s.2.2.1, fun j => if j = k then v else s.2.2.2 j)
def rdI {α : Type} (n : Nat) (i : Int32) (k : Option α) : Option α := if i < 0 ∨ n ≤ i.toNatClampNeg then none else k
def rdB {α : Type} (v : Int32) (k : Option α) : Option α := if v = 0 ∨ v = 1 then k else none
def pt {α : Type} (s : mS) (k : mS → α) : α := k s
theorem rdI_some {α : Type} {n : Nat} {i : Int32} {k : Option α} {r : α} (h : rdI n i k = some r) : vp_in i n ∧ k = some r := by
  unfold rdI at h
  by_cases c : i < 0 ∨ n ≤ i.toNatClampNeg
  · rw [if_pos c] at h; cases h
  · rw [if_neg c] at h; exact ⟨c, h⟩
theorem rdB_some {α : Type} {v : Int32} {k : Option α} {r : α} (h : rdB v k = some r) : (v = 0 ∨ v = 1) ∧ k = some r := by
  unfold rdB at h
  by_cases c : v = 0 ∨ v = 1
  · rw [if_pos c] at h; exact ⟨c, h⟩
  · rw [if_neg c] at h; cases h
theorem nar_B {v : Int32} (h : v = 0 ∨ v = 1) : narrow .boolean (.int v) = .int v := by rcases h with rfl | rfl <;> decide
theorem pt_some {α : Type} {s : mS} {k : mS → α} {r : α} (h : pt s k = r) : ∃ s1, s1 = s ∧ k s1 = r := ⟨s, rfl, h⟩
theorem bd_some {α β : Type} {x : Option α} {k : α → Option β} {r : β} (h : x.bind k = some r) : ∃ q, x = some q ∧ k q = some r := by
  cases x with
  | none => cases h
  | some q => exact ⟨q, rfl, h⟩
theorem ite_some {α : Type} {c : Prop} [Decidable c] {a b : Option α} {r : α} (h : (if c then a else b) = some r) : (c ∧ a = some r) ∨ (¬ c ∧ b = some r) := by
  by_cases q : c
  · rw [if_pos q] at h; exact Or.inl ⟨q, h⟩
  · rw [if_neg q] at h; exact Or.inr ⟨q, h⟩
theorem lgc_eq {x y : Int64} : lg_cmp x y = 0 ↔ x = y := lg_cmp_eq x y
theorem lgc_lt {x y : Int64} : lg_cmp x y < 0 ↔ x < y := lg_cmp_lt x y
theorem lgc_gt {x y : Int64} : 0 < lg_cmp x y ↔ y < x := lg_cmp_gt x y
theorem lgc_ge {x y : Int64} : 0 ≤ lg_cmp x y ↔ y ≤ x := lg_cmp_ge x y
theorem lgc_le {x y : Int64} : lg_cmp x y ≤ 0 ↔ x ≤ y := lg_cmp_le x y
theorem lgc_ne {x y : Int64} : (¬ lg_cmp x y = 0) ↔ ¬ x = y := not_congr lgc_eq
def hp (s : mS) (ex : mHp) : mHp := (.inr (8, [.ref 17, .ref 21, .ref 23, .ref 29, .ref 32])) :: (.inr (5, [.ref 18, .ref 19, .ref 20, .int (s.2.2.1 0)])) :: (.inl (.int, 42, .inl (s.1 18))) :: (.inl (.int, 42, .inl (s.1 19))) :: (.inr (7, [.long (s.2.2.2 0), .long (s.2.2.2 1), .long (s.2.2.2 2)])) :: (.inr (3, [.ref 17, .ref 22, .int (s.2.2.1 1)])) :: (.inl (.long, 40, .inr (.inl (s.2.1 22)))) :: (.inr (4, [.ref 17, .ref 21, .ref 24, .ref 25, .ref 26, .int (s.2.2.1 2), .ref 27, .int (s.2.2.1 3), .ref 28])) :: (.inl (.int, 1600, .inl (s.1 24))) :: (.inl (.int, 1600, .inl (s.1 25))) :: (.inl (.int, 225, .inl (s.1 26))) :: (.inl (.int, 800, .inl (s.1 27))) :: (.inl (.long, 40, .inr (.inl (s.2.1 28)))) :: (.inr (2, [.ref 17, .ref 23, .ref 30, .ref 31, .int (s.2.2.1 4)])) :: (.inl (.int, 75, .inl (s.1 30))) :: (.inl (.int, 75, .inl (s.1 31))) :: (.inr (6, [.ref 17, .ref 23, .ref 36, .ref 33, .int (s.2.2.1 5), .ref 34, .ref 35])) :: (.inl (.int, 75, .inl (s.1 33))) :: (.inl (.int, 75, .inl (s.1 34))) :: (.inl (.int, 75, .inl (s.1 35))) :: (.inr (1, [.ref 17, .ref 37, .ref 39, .int (s.2.2.1 6), .int (s.2.2.1 7), .int (s.2.2.1 8), .ref 41, .int (s.2.2.1 9)])) :: (.inr (0, [.int 1, .ref 38, .int (s.2.2.1 10), .int (s.2.2.1 11)])) :: (.inl (.int, 77, .inl (s.1 38))) :: (.inr (0, [.int (-1), .ref 40, .int (s.2.2.1 12), .int (s.2.2.1 13)])) :: (.inl (.int, 77, .inl (s.1 40))) :: (.inl (.int, 77, .inl (s.1 41))) :: (.inr (9, [.int (s.2.2.1 14), .int (s.2.2.1 15), .ref 43, .ref 44, .ref 45, .ref 46, .int (s.2.2.1 16), .int (s.2.2.1 17), .ref 47, .int (s.2.2.1 18), .ref 48, .int (s.2.2.1 19), .ref 49, .ref 50, .ref 51, .ref 52, .long (s.2.2.2 3), .long (s.2.2.2 4)])) :: (.inl (.long, 42, .inr (.inl (s.2.1 43)))) :: (.inl (.long, 42, .inr (.inl (s.2.1 44)))) :: (.inl (.boolean, 1600, .inl (s.1 45))) :: (.inl (.boolean, 1600, .inl (s.1 46))) :: (.inl (.int, 300, .inl (s.1 47))) :: (.inl (.int, 100, .inl (s.1 48))) :: (.inl (.int, 100, .inl (s.1 49))) :: (.inl (.int, 100, .inl (s.1 50))) :: (.inl (.int, 100, .inl (s.1 51))) :: (.inl (.int, 100, .inl (s.1 52))) :: (.inl (.long, 1, .inr (.inl (s.2.1 53)))) :: ex
theorem hg16 (s : mS) (ex : mHp) : mget (hp s ex) 16 = some (.inr (8, [.ref 17, .ref 21, .ref 23, .ref 29, .ref 32])) := rfl
theorem hg17 (s : mS) (ex : mHp) : mget (hp s ex) 17 = some (.inr (5, [.ref 18, .ref 19, .ref 20, .int (s.2.2.1 0)])) := rfl
theorem hF0 (s : mS) (ex : mHp) (v : Int32) : mput (hp s ex) 17 (.inr (5, [.ref 18, .ref 19, .ref 20, .int (s.2.2.1 0)].set 3 (.int v))) = hp (uF 0 v s) ex := rfl
theorem hg18 (s : mS) (ex : mHp) : mget (hp s ex) 18 = some (.inl (.int, 42, .inl (s.1 18))) := rfl
theorem hA18 (s : mS) (ex : mHp) (T : Nat → Int32) : mput (hp s ex) 18 (.inl (.int, 42, .inl T)) = hp (uA 18 T s) ex := rfl
theorem hg19 (s : mS) (ex : mHp) : mget (hp s ex) 19 = some (.inl (.int, 42, .inl (s.1 19))) := rfl
theorem hA19 (s : mS) (ex : mHp) (T : Nat → Int32) : mput (hp s ex) 19 (.inl (.int, 42, .inl T)) = hp (uA 19 T s) ex := rfl
theorem hg20 (s : mS) (ex : mHp) : mget (hp s ex) 20 = some (.inr (7, [.long (s.2.2.2 0), .long (s.2.2.2 1), .long (s.2.2.2 2)])) := rfl
theorem hG0 (s : mS) (ex : mHp) (v : Int64) : mput (hp s ex) 20 (.inr (7, [.long (s.2.2.2 0), .long (s.2.2.2 1), .long (s.2.2.2 2)].set 0 (.long v))) = hp (uG 0 v s) ex := rfl
theorem hG1 (s : mS) (ex : mHp) (v : Int64) : mput (hp s ex) 20 (.inr (7, [.long (s.2.2.2 0), .long (s.2.2.2 1), .long (s.2.2.2 2)].set 1 (.long v))) = hp (uG 1 v s) ex := rfl
theorem hG2 (s : mS) (ex : mHp) (v : Int64) : mput (hp s ex) 20 (.inr (7, [.long (s.2.2.2 0), .long (s.2.2.2 1), .long (s.2.2.2 2)].set 2 (.long v))) = hp (uG 2 v s) ex := rfl
theorem hg21 (s : mS) (ex : mHp) : mget (hp s ex) 21 = some (.inr (3, [.ref 17, .ref 22, .int (s.2.2.1 1)])) := rfl
theorem hF1 (s : mS) (ex : mHp) (v : Int32) : mput (hp s ex) 21 (.inr (3, [.ref 17, .ref 22, .int (s.2.2.1 1)].set 2 (.int v))) = hp (uF 1 v s) ex := rfl
theorem hg22 (s : mS) (ex : mHp) : mget (hp s ex) 22 = some (.inl (.long, 40, .inr (.inl (s.2.1 22)))) := rfl
theorem hA22 (s : mS) (ex : mHp) (T : Nat → Int64) : mput (hp s ex) 22 (.inl (.long, 40, .inr (.inl T))) = hp (uJ 22 T s) ex := rfl
theorem hg23 (s : mS) (ex : mHp) : mget (hp s ex) 23 = some (.inr (4, [.ref 17, .ref 21, .ref 24, .ref 25, .ref 26, .int (s.2.2.1 2), .ref 27, .int (s.2.2.1 3), .ref 28])) := rfl
theorem hF2 (s : mS) (ex : mHp) (v : Int32) : mput (hp s ex) 23 (.inr (4, [.ref 17, .ref 21, .ref 24, .ref 25, .ref 26, .int (s.2.2.1 2), .ref 27, .int (s.2.2.1 3), .ref 28].set 5 (.int v))) = hp (uF 2 v s) ex := rfl
theorem hF3 (s : mS) (ex : mHp) (v : Int32) : mput (hp s ex) 23 (.inr (4, [.ref 17, .ref 21, .ref 24, .ref 25, .ref 26, .int (s.2.2.1 2), .ref 27, .int (s.2.2.1 3), .ref 28].set 7 (.int v))) = hp (uF 3 v s) ex := rfl
theorem hg24 (s : mS) (ex : mHp) : mget (hp s ex) 24 = some (.inl (.int, 1600, .inl (s.1 24))) := rfl
theorem hA24 (s : mS) (ex : mHp) (T : Nat → Int32) : mput (hp s ex) 24 (.inl (.int, 1600, .inl T)) = hp (uA 24 T s) ex := rfl
theorem hg25 (s : mS) (ex : mHp) : mget (hp s ex) 25 = some (.inl (.int, 1600, .inl (s.1 25))) := rfl
theorem hA25 (s : mS) (ex : mHp) (T : Nat → Int32) : mput (hp s ex) 25 (.inl (.int, 1600, .inl T)) = hp (uA 25 T s) ex := rfl
theorem hg26 (s : mS) (ex : mHp) : mget (hp s ex) 26 = some (.inl (.int, 225, .inl (s.1 26))) := rfl
theorem hA26 (s : mS) (ex : mHp) (T : Nat → Int32) : mput (hp s ex) 26 (.inl (.int, 225, .inl T)) = hp (uA 26 T s) ex := rfl
theorem hg27 (s : mS) (ex : mHp) : mget (hp s ex) 27 = some (.inl (.int, 800, .inl (s.1 27))) := rfl
theorem hA27 (s : mS) (ex : mHp) (T : Nat → Int32) : mput (hp s ex) 27 (.inl (.int, 800, .inl T)) = hp (uA 27 T s) ex := rfl
theorem hg28 (s : mS) (ex : mHp) : mget (hp s ex) 28 = some (.inl (.long, 40, .inr (.inl (s.2.1 28)))) := rfl
theorem hA28 (s : mS) (ex : mHp) (T : Nat → Int64) : mput (hp s ex) 28 (.inl (.long, 40, .inr (.inl T))) = hp (uJ 28 T s) ex := rfl
theorem hg29 (s : mS) (ex : mHp) : mget (hp s ex) 29 = some (.inr (2, [.ref 17, .ref 23, .ref 30, .ref 31, .int (s.2.2.1 4)])) := rfl
theorem hF4 (s : mS) (ex : mHp) (v : Int32) : mput (hp s ex) 29 (.inr (2, [.ref 17, .ref 23, .ref 30, .ref 31, .int (s.2.2.1 4)].set 4 (.int v))) = hp (uF 4 v s) ex := rfl
theorem hg30 (s : mS) (ex : mHp) : mget (hp s ex) 30 = some (.inl (.int, 75, .inl (s.1 30))) := rfl
theorem hA30 (s : mS) (ex : mHp) (T : Nat → Int32) : mput (hp s ex) 30 (.inl (.int, 75, .inl T)) = hp (uA 30 T s) ex := rfl
theorem hg31 (s : mS) (ex : mHp) : mget (hp s ex) 31 = some (.inl (.int, 75, .inl (s.1 31))) := rfl
theorem hA31 (s : mS) (ex : mHp) (T : Nat → Int32) : mput (hp s ex) 31 (.inl (.int, 75, .inl T)) = hp (uA 31 T s) ex := rfl
theorem hg32 (s : mS) (ex : mHp) : mget (hp s ex) 32 = some (.inr (6, [.ref 17, .ref 23, .ref 36, .ref 33, .int (s.2.2.1 5), .ref 34, .ref 35])) := rfl
theorem hF5 (s : mS) (ex : mHp) (v : Int32) : mput (hp s ex) 32 (.inr (6, [.ref 17, .ref 23, .ref 36, .ref 33, .int (s.2.2.1 5), .ref 34, .ref 35].set 4 (.int v))) = hp (uF 5 v s) ex := rfl
theorem hg33 (s : mS) (ex : mHp) : mget (hp s ex) 33 = some (.inl (.int, 75, .inl (s.1 33))) := rfl
theorem hA33 (s : mS) (ex : mHp) (T : Nat → Int32) : mput (hp s ex) 33 (.inl (.int, 75, .inl T)) = hp (uA 33 T s) ex := rfl
theorem hg34 (s : mS) (ex : mHp) : mget (hp s ex) 34 = some (.inl (.int, 75, .inl (s.1 34))) := rfl
theorem hA34 (s : mS) (ex : mHp) (T : Nat → Int32) : mput (hp s ex) 34 (.inl (.int, 75, .inl T)) = hp (uA 34 T s) ex := rfl
theorem hg35 (s : mS) (ex : mHp) : mget (hp s ex) 35 = some (.inl (.int, 75, .inl (s.1 35))) := rfl
theorem hA35 (s : mS) (ex : mHp) (T : Nat → Int32) : mput (hp s ex) 35 (.inl (.int, 75, .inl T)) = hp (uA 35 T s) ex := rfl
theorem hg36 (s : mS) (ex : mHp) : mget (hp s ex) 36 = some (.inr (1, [.ref 17, .ref 37, .ref 39, .int (s.2.2.1 6), .int (s.2.2.1 7), .int (s.2.2.1 8), .ref 41, .int (s.2.2.1 9)])) := rfl
theorem hF6 (s : mS) (ex : mHp) (v : Int32) : mput (hp s ex) 36 (.inr (1, [.ref 17, .ref 37, .ref 39, .int (s.2.2.1 6), .int (s.2.2.1 7), .int (s.2.2.1 8), .ref 41, .int (s.2.2.1 9)].set 3 (.int v))) = hp (uF 6 v s) ex := rfl
theorem hF7 (s : mS) (ex : mHp) (v : Int32) : mput (hp s ex) 36 (.inr (1, [.ref 17, .ref 37, .ref 39, .int (s.2.2.1 6), .int (s.2.2.1 7), .int (s.2.2.1 8), .ref 41, .int (s.2.2.1 9)].set 4 (.int v))) = hp (uF 7 v s) ex := rfl
theorem hF8 (s : mS) (ex : mHp) (v : Int32) : mput (hp s ex) 36 (.inr (1, [.ref 17, .ref 37, .ref 39, .int (s.2.2.1 6), .int (s.2.2.1 7), .int (s.2.2.1 8), .ref 41, .int (s.2.2.1 9)].set 5 (.int v))) = hp (uF 8 v s) ex := rfl
theorem hF9 (s : mS) (ex : mHp) (v : Int32) : mput (hp s ex) 36 (.inr (1, [.ref 17, .ref 37, .ref 39, .int (s.2.2.1 6), .int (s.2.2.1 7), .int (s.2.2.1 8), .ref 41, .int (s.2.2.1 9)].set 7 (.int v))) = hp (uF 9 v s) ex := rfl
theorem hg37 (s : mS) (ex : mHp) : mget (hp s ex) 37 = some (.inr (0, [.int 1, .ref 38, .int (s.2.2.1 10), .int (s.2.2.1 11)])) := rfl
theorem hF10 (s : mS) (ex : mHp) (v : Int32) : mput (hp s ex) 37 (.inr (0, [.int 1, .ref 38, .int (s.2.2.1 10), .int (s.2.2.1 11)].set 2 (.int v))) = hp (uF 10 v s) ex := rfl
theorem hF11 (s : mS) (ex : mHp) (v : Int32) : mput (hp s ex) 37 (.inr (0, [.int 1, .ref 38, .int (s.2.2.1 10), .int (s.2.2.1 11)].set 3 (.int v))) = hp (uF 11 v s) ex := rfl
theorem hg38 (s : mS) (ex : mHp) : mget (hp s ex) 38 = some (.inl (.int, 77, .inl (s.1 38))) := rfl
theorem hA38 (s : mS) (ex : mHp) (T : Nat → Int32) : mput (hp s ex) 38 (.inl (.int, 77, .inl T)) = hp (uA 38 T s) ex := rfl
theorem hg39 (s : mS) (ex : mHp) : mget (hp s ex) 39 = some (.inr (0, [.int (-1), .ref 40, .int (s.2.2.1 12), .int (s.2.2.1 13)])) := rfl
theorem hF12 (s : mS) (ex : mHp) (v : Int32) : mput (hp s ex) 39 (.inr (0, [.int (-1), .ref 40, .int (s.2.2.1 12), .int (s.2.2.1 13)].set 2 (.int v))) = hp (uF 12 v s) ex := rfl
theorem hF13 (s : mS) (ex : mHp) (v : Int32) : mput (hp s ex) 39 (.inr (0, [.int (-1), .ref 40, .int (s.2.2.1 12), .int (s.2.2.1 13)].set 3 (.int v))) = hp (uF 13 v s) ex := rfl
theorem hg40 (s : mS) (ex : mHp) : mget (hp s ex) 40 = some (.inl (.int, 77, .inl (s.1 40))) := rfl
theorem hA40 (s : mS) (ex : mHp) (T : Nat → Int32) : mput (hp s ex) 40 (.inl (.int, 77, .inl T)) = hp (uA 40 T s) ex := rfl
theorem hg41 (s : mS) (ex : mHp) : mget (hp s ex) 41 = some (.inl (.int, 77, .inl (s.1 41))) := rfl
theorem hA41 (s : mS) (ex : mHp) (T : Nat → Int32) : mput (hp s ex) 41 (.inl (.int, 77, .inl T)) = hp (uA 41 T s) ex := rfl
theorem hg42 (s : mS) (ex : mHp) : mget (hp s ex) 42 = some (.inr (9, [.int (s.2.2.1 14), .int (s.2.2.1 15), .ref 43, .ref 44, .ref 45, .ref 46, .int (s.2.2.1 16), .int (s.2.2.1 17), .ref 47, .int (s.2.2.1 18), .ref 48, .int (s.2.2.1 19), .ref 49, .ref 50, .ref 51, .ref 52, .long (s.2.2.2 3), .long (s.2.2.2 4)])) := rfl
theorem hF14 (s : mS) (ex : mHp) (v : Int32) : mput (hp s ex) 42 (.inr (9, [.int (s.2.2.1 14), .int (s.2.2.1 15), .ref 43, .ref 44, .ref 45, .ref 46, .int (s.2.2.1 16), .int (s.2.2.1 17), .ref 47, .int (s.2.2.1 18), .ref 48, .int (s.2.2.1 19), .ref 49, .ref 50, .ref 51, .ref 52, .long (s.2.2.2 3), .long (s.2.2.2 4)].set 0 (.int v))) = hp (uF 14 v s) ex := rfl
theorem hF15 (s : mS) (ex : mHp) (v : Int32) : mput (hp s ex) 42 (.inr (9, [.int (s.2.2.1 14), .int (s.2.2.1 15), .ref 43, .ref 44, .ref 45, .ref 46, .int (s.2.2.1 16), .int (s.2.2.1 17), .ref 47, .int (s.2.2.1 18), .ref 48, .int (s.2.2.1 19), .ref 49, .ref 50, .ref 51, .ref 52, .long (s.2.2.2 3), .long (s.2.2.2 4)].set 1 (.int v))) = hp (uF 15 v s) ex := rfl
theorem hF16 (s : mS) (ex : mHp) (v : Int32) : mput (hp s ex) 42 (.inr (9, [.int (s.2.2.1 14), .int (s.2.2.1 15), .ref 43, .ref 44, .ref 45, .ref 46, .int (s.2.2.1 16), .int (s.2.2.1 17), .ref 47, .int (s.2.2.1 18), .ref 48, .int (s.2.2.1 19), .ref 49, .ref 50, .ref 51, .ref 52, .long (s.2.2.2 3), .long (s.2.2.2 4)].set 6 (.int v))) = hp (uF 16 v s) ex := rfl
theorem hF17 (s : mS) (ex : mHp) (v : Int32) : mput (hp s ex) 42 (.inr (9, [.int (s.2.2.1 14), .int (s.2.2.1 15), .ref 43, .ref 44, .ref 45, .ref 46, .int (s.2.2.1 16), .int (s.2.2.1 17), .ref 47, .int (s.2.2.1 18), .ref 48, .int (s.2.2.1 19), .ref 49, .ref 50, .ref 51, .ref 52, .long (s.2.2.2 3), .long (s.2.2.2 4)].set 7 (.int v))) = hp (uF 17 v s) ex := rfl
theorem hF18 (s : mS) (ex : mHp) (v : Int32) : mput (hp s ex) 42 (.inr (9, [.int (s.2.2.1 14), .int (s.2.2.1 15), .ref 43, .ref 44, .ref 45, .ref 46, .int (s.2.2.1 16), .int (s.2.2.1 17), .ref 47, .int (s.2.2.1 18), .ref 48, .int (s.2.2.1 19), .ref 49, .ref 50, .ref 51, .ref 52, .long (s.2.2.2 3), .long (s.2.2.2 4)].set 9 (.int v))) = hp (uF 18 v s) ex := rfl
theorem hF19 (s : mS) (ex : mHp) (v : Int32) : mput (hp s ex) 42 (.inr (9, [.int (s.2.2.1 14), .int (s.2.2.1 15), .ref 43, .ref 44, .ref 45, .ref 46, .int (s.2.2.1 16), .int (s.2.2.1 17), .ref 47, .int (s.2.2.1 18), .ref 48, .int (s.2.2.1 19), .ref 49, .ref 50, .ref 51, .ref 52, .long (s.2.2.2 3), .long (s.2.2.2 4)].set 11 (.int v))) = hp (uF 19 v s) ex := rfl
theorem hG3 (s : mS) (ex : mHp) (v : Int64) : mput (hp s ex) 42 (.inr (9, [.int (s.2.2.1 14), .int (s.2.2.1 15), .ref 43, .ref 44, .ref 45, .ref 46, .int (s.2.2.1 16), .int (s.2.2.1 17), .ref 47, .int (s.2.2.1 18), .ref 48, .int (s.2.2.1 19), .ref 49, .ref 50, .ref 51, .ref 52, .long (s.2.2.2 3), .long (s.2.2.2 4)].set 16 (.long v))) = hp (uG 3 v s) ex := rfl
theorem hG4 (s : mS) (ex : mHp) (v : Int64) : mput (hp s ex) 42 (.inr (9, [.int (s.2.2.1 14), .int (s.2.2.1 15), .ref 43, .ref 44, .ref 45, .ref 46, .int (s.2.2.1 16), .int (s.2.2.1 17), .ref 47, .int (s.2.2.1 18), .ref 48, .int (s.2.2.1 19), .ref 49, .ref 50, .ref 51, .ref 52, .long (s.2.2.2 3), .long (s.2.2.2 4)].set 17 (.long v))) = hp (uG 4 v s) ex := rfl
theorem hg43 (s : mS) (ex : mHp) : mget (hp s ex) 43 = some (.inl (.long, 42, .inr (.inl (s.2.1 43)))) := rfl
theorem hA43 (s : mS) (ex : mHp) (T : Nat → Int64) : mput (hp s ex) 43 (.inl (.long, 42, .inr (.inl T))) = hp (uJ 43 T s) ex := rfl
theorem hg44 (s : mS) (ex : mHp) : mget (hp s ex) 44 = some (.inl (.long, 42, .inr (.inl (s.2.1 44)))) := rfl
theorem hA44 (s : mS) (ex : mHp) (T : Nat → Int64) : mput (hp s ex) 44 (.inl (.long, 42, .inr (.inl T))) = hp (uJ 44 T s) ex := rfl
theorem hg45 (s : mS) (ex : mHp) : mget (hp s ex) 45 = some (.inl (.boolean, 1600, .inl (s.1 45))) := rfl
theorem hA45 (s : mS) (ex : mHp) (T : Nat → Int32) : mput (hp s ex) 45 (.inl (.boolean, 1600, .inl T)) = hp (uA 45 T s) ex := rfl
theorem hg46 (s : mS) (ex : mHp) : mget (hp s ex) 46 = some (.inl (.boolean, 1600, .inl (s.1 46))) := rfl
theorem hA46 (s : mS) (ex : mHp) (T : Nat → Int32) : mput (hp s ex) 46 (.inl (.boolean, 1600, .inl T)) = hp (uA 46 T s) ex := rfl
theorem hg47 (s : mS) (ex : mHp) : mget (hp s ex) 47 = some (.inl (.int, 300, .inl (s.1 47))) := rfl
theorem hA47 (s : mS) (ex : mHp) (T : Nat → Int32) : mput (hp s ex) 47 (.inl (.int, 300, .inl T)) = hp (uA 47 T s) ex := rfl
theorem hg48 (s : mS) (ex : mHp) : mget (hp s ex) 48 = some (.inl (.int, 100, .inl (s.1 48))) := rfl
theorem hA48 (s : mS) (ex : mHp) (T : Nat → Int32) : mput (hp s ex) 48 (.inl (.int, 100, .inl T)) = hp (uA 48 T s) ex := rfl
theorem hg49 (s : mS) (ex : mHp) : mget (hp s ex) 49 = some (.inl (.int, 100, .inl (s.1 49))) := rfl
theorem hA49 (s : mS) (ex : mHp) (T : Nat → Int32) : mput (hp s ex) 49 (.inl (.int, 100, .inl T)) = hp (uA 49 T s) ex := rfl
theorem hg50 (s : mS) (ex : mHp) : mget (hp s ex) 50 = some (.inl (.int, 100, .inl (s.1 50))) := rfl
theorem hA50 (s : mS) (ex : mHp) (T : Nat → Int32) : mput (hp s ex) 50 (.inl (.int, 100, .inl T)) = hp (uA 50 T s) ex := rfl
theorem hg51 (s : mS) (ex : mHp) : mget (hp s ex) 51 = some (.inl (.int, 100, .inl (s.1 51))) := rfl
theorem hA51 (s : mS) (ex : mHp) (T : Nat → Int32) : mput (hp s ex) 51 (.inl (.int, 100, .inl T)) = hp (uA 51 T s) ex := rfl
theorem hg52 (s : mS) (ex : mHp) : mget (hp s ex) 52 = some (.inl (.int, 100, .inl (s.1 52))) := rfl
theorem hA52 (s : mS) (ex : mHp) (T : Nat → Int32) : mput (hp s ex) 52 (.inl (.int, 100, .inl T)) = hp (uA 52 T s) ex := rfl
theorem hg53 (s : mS) (ex : mHp) : mget (hp s ex) 53 = some (.inl (.long, 1, .inr (.inl (s.2.1 53)))) := rfl
theorem hA53 (s : mS) (ex : mHp) (T : Nat → Int64) : mput (hp s ex) 53 (.inl (.long, 1, .inr (.inl T))) = hp (uJ 53 T s) ex := rfl
end
section
/-! the class: its plane and its links, as functions (wip/gen/dec.py) -/
theorem d38_0 : decode (mCode 38) 0 = .ok (.iconst 0, 1) := by decide +kernel
theorem d38_1 : decode (mCode 38) 1 = .ok (.istore_n 2, 1) := by decide +kernel
theorem d38_2 : decode (mCode 38) 2 = .ok (.iload_n 2, 1) := by decide +kernel
theorem d38_3 : decode (mCode 38) 3 = .ok (.aload_n 0, 1) := by decide +kernel
theorem d38_4 : decode (mCode 38) 4 = .ok (.getfield 15, 3) := by decide +kernel
theorem d38_7 : decode (mCode 38) 7 = .ok (.invokevirtual 31, 3) := by decide +kernel
theorem d38_10 : decode (mCode 38) 10 = .ok (.if_icmp .ge 54, 3) := by decide +kernel
theorem d38_13 : decode (mCode 38) 13 = .ok (.iload_n 2, 1) := by decide +kernel
theorem d38_14 : decode (mCode 38) 14 = .ok (.iconst 1, 1) := by decide +kernel
theorem d38_15 : decode (mCode 38) 15 = .ok (.iadd, 1) := by decide +kernel
theorem d38_16 : decode (mCode 38) 16 = .ok (.istore_n 3, 1) := by decide +kernel
theorem d38_17 : decode (mCode 38) 17 = .ok (.iload_n 3, 1) := by decide +kernel
theorem d38_18 : decode (mCode 38) 18 = .ok (.aload_n 0, 1) := by decide +kernel
theorem d38_19 : decode (mCode 38) 19 = .ok (.getfield 15, 3) := by decide +kernel
theorem d38_22 : decode (mCode 38) 22 = .ok (.invokevirtual 31, 3) := by decide +kernel
theorem d38_25 : decode (mCode 38) 25 = .ok (.if_icmp .ge 33, 3) := by decide +kernel
theorem d38_28 : decode (mCode 38) 28 = .ok (.aload_n 0, 1) := by decide +kernel
theorem d38_29 : decode (mCode 38) 29 = .ok (.iload_n 2, 1) := by decide +kernel
theorem d38_30 : decode (mCode 38) 30 = .ok (.iload_n 3, 1) := by decide +kernel
theorem d38_31 : decode (mCode 38) 31 = .ok (.invokevirtual 36, 3) := by decide +kernel
theorem d38_34 : decode (mCode 38) 34 = .ok (.ifCond .eq 18, 3) := by decide +kernel
theorem d38_37 : decode (mCode 38) 37 = .ok (.aload_n 0, 1) := by decide +kernel
theorem d38_38 : decode (mCode 38) 38 = .ok (.getfield 15, 3) := by decide +kernel
theorem d38_41 : decode (mCode 38) 41 = .ok (.iload_n 2, 1) := by decide +kernel
theorem d38_42 : decode (mCode 38) 42 = .ok (.iload_n 3, 1) := by decide +kernel
theorem d38_43 : decode (mCode 38) 43 = .ok (.iload_n 1, 1) := by decide +kernel
theorem d38_44 : decode (mCode 38) 44 = .ok (.invokevirtual 40, 3) := by decide +kernel
theorem d38_47 : decode (mCode 38) 47 = .ok (.ifCond .eq 5, 3) := by decide +kernel
theorem d38_50 : decode (mCode 38) 50 = .ok (.iconst 1, 1) := by decide +kernel
theorem d38_51 : decode (mCode 38) 51 = .ok (.ireturn, 1) := by decide +kernel
theorem d38_52 : decode (mCode 38) 52 = .ok (.iinc 3 1, 3) := by decide +kernel
theorem d38_55 : decode (mCode 38) 55 = .ok (.goto (-38), 3) := by decide +kernel
theorem d38_58 : decode (mCode 38) 58 = .ok (.iinc 2 1, 3) := by decide +kernel
theorem d38_61 : decode (mCode 38) 61 = .ok (.goto (-59), 3) := by decide +kernel
theorem d38_64 : decode (mCode 38) 64 = .ok (.iconst 0, 1) := by decide +kernel
theorem d38_65 : decode (mCode 38) 65 = .ok (.ireturn, 1) := by decide +kernel
theorem d39_0 : decode (mCode 39) 0 = .ok (.aload_n 0, 1) := by decide +kernel
theorem d39_1 : decode (mCode 39) 1 = .ok (.getfield 9, 3) := by decide +kernel
theorem d39_4 : decode (mCode 39) 4 = .ok (.iload_n 1, 1) := by decide +kernel
theorem d39_5 : decode (mCode 39) 5 = .ok (.laload, 1) := by decide +kernel
theorem d39_6 : decode (mCode 39) 6 = .ok (.iload_n 2, 1) := by decide +kernel
theorem d39_7 : decode (mCode 39) 7 = .ok (.lshr, 1) := by decide +kernel
theorem d39_8 : decode (mCode 39) 8 = .ok (.lconst 1, 1) := by decide +kernel
theorem d39_9 : decode (mCode 39) 9 = .ok (.land, 1) := by decide +kernel
theorem d39_10 : decode (mCode 39) 10 = .ok (.lconst 0, 1) := by decide +kernel
theorem d39_11 : decode (mCode 39) 11 = .ok (.lcmp, 1) := by decide +kernel
theorem d39_12 : decode (mCode 39) 12 = .ok (.ifCond .eq 7, 3) := by decide +kernel
theorem d39_15 : decode (mCode 39) 15 = .ok (.iconst 1, 1) := by decide +kernel
theorem d39_16 : decode (mCode 39) 16 = .ok (.goto 4, 3) := by decide +kernel
theorem d39_19 : decode (mCode 39) 19 = .ok (.iconst 0, 1) := by decide +kernel
theorem d39_20 : decode (mCode 39) 20 = .ok (.ireturn, 1) := by decide +kernel
theorem d40_0 : decode (mCode 40) 0 = .ok (.iconst 0, 1) := by decide +kernel
theorem d40_1 : decode (mCode 40) 1 = .ok (.istore_n 3, 1) := by decide +kernel
theorem d40_2 : decode (mCode 40) 2 = .ok (.iload_n 3, 1) := by decide +kernel
theorem d40_3 : decode (mCode 40) 3 = .ok (.aload_n 0, 1) := by decide +kernel
theorem d40_4 : decode (mCode 40) 4 = .ok (.getfield 15, 3) := by decide +kernel
theorem d40_7 : decode (mCode 40) 7 = .ok (.invokevirtual 31, 3) := by decide +kernel
theorem d40_10 : decode (mCode 40) 10 = .ok (.if_icmp .ge 56, 3) := by decide +kernel
theorem d40_13 : decode (mCode 40) 13 = .ok (.iload_n 3, 1) := by decide +kernel
theorem d40_14 : decode (mCode 40) 14 = .ok (.iconst 1, 1) := by decide +kernel
theorem d40_15 : decode (mCode 40) 15 = .ok (.iadd, 1) := by decide +kernel
theorem d40_16 : decode (mCode 40) 16 = .ok (.istore 4, 2) := by decide +kernel
theorem d40_18 : decode (mCode 40) 18 = .ok (.iload 4, 2) := by decide +kernel
theorem d40_20 : decode (mCode 40) 20 = .ok (.aload_n 0, 1) := by decide +kernel
theorem d40_21 : decode (mCode 40) 21 = .ok (.getfield 15, 3) := by decide +kernel
theorem d40_24 : decode (mCode 40) 24 = .ok (.invokevirtual 31, 3) := by decide +kernel
theorem d40_27 : decode (mCode 40) 27 = .ok (.if_icmp .ge 33, 3) := by decide +kernel
theorem d40_30 : decode (mCode 40) 30 = .ok (.aload_n 0, 1) := by decide +kernel
theorem d40_31 : decode (mCode 40) 31 = .ok (.iload_n 3, 1) := by decide +kernel
theorem d40_32 : decode (mCode 40) 32 = .ok (.iload 4, 2) := by decide +kernel
theorem d40_34 : decode (mCode 40) 34 = .ok (.invokevirtual 36, 3) := by decide +kernel
theorem d40_37 : decode (mCode 40) 37 = .ok (.ifCond .eq 17, 3) := by decide +kernel
theorem d40_40 : decode (mCode 40) 40 = .ok (.aload_n 0, 1) := by decide +kernel
theorem d40_41 : decode (mCode 40) 41 = .ok (.iload_n 1, 1) := by decide +kernel
theorem d40_42 : decode (mCode 40) 42 = .ok (.iload_n 2, 1) := by decide +kernel
theorem d40_43 : decode (mCode 40) 43 = .ok (.iload_n 3, 1) := by decide +kernel
theorem d40_44 : decode (mCode 40) 44 = .ok (.iload 4, 2) := by decide +kernel
theorem d40_46 : decode (mCode 40) 46 = .ok (.invokevirtual 44, 3) := by decide +kernel
theorem d40_49 : decode (mCode 40) 49 = .ok (.ifCond .eq 5, 3) := by decide +kernel
theorem d40_52 : decode (mCode 40) 52 = .ok (.iconst 1, 1) := by decide +kernel
theorem d40_53 : decode (mCode 40) 53 = .ok (.ireturn, 1) := by decide +kernel
theorem d40_54 : decode (mCode 40) 54 = .ok (.iinc 4 1, 3) := by decide +kernel
theorem d40_57 : decode (mCode 40) 57 = .ok (.goto (-39), 3) := by decide +kernel
theorem d40_60 : decode (mCode 40) 60 = .ok (.iinc 3 1, 3) := by decide +kernel
theorem d40_63 : decode (mCode 40) 63 = .ok (.goto (-61), 3) := by decide +kernel
theorem d40_66 : decode (mCode 40) 66 = .ok (.iconst 0, 1) := by decide +kernel
theorem d40_67 : decode (mCode 40) 67 = .ok (.ireturn, 1) := by decide +kernel
theorem d41_0 : decode (mCode 41) 0 = .ok (.aload_n 0, 1) := by decide +kernel
theorem d41_1 : decode (mCode 41) 1 = .ok (.getfield 15, 3) := by decide +kernel
theorem d41_4 : decode (mCode 41) 4 = .ok (.iload_n 1, 1) := by decide +kernel
theorem d41_5 : decode (mCode 41) 5 = .ok (.iload_n 2, 1) := by decide +kernel
theorem d41_6 : decode (mCode 41) 6 = .ok (.iload_n 3, 1) := by decide +kernel
theorem d41_7 : decode (mCode 41) 7 = .ok (.invokevirtual 48, 3) := by decide +kernel
theorem d41_10 : decode (mCode 41) 10 = .ok (.aload_n 0, 1) := by decide +kernel
theorem d41_11 : decode (mCode 41) 11 = .ok (.getfield 15, 3) := by decide +kernel
theorem d41_14 : decode (mCode 41) 14 = .ok (.iload_n 1, 1) := by decide +kernel
theorem d41_15 : decode (mCode 41) 15 = .ok (.iload_n 2, 1) := by decide +kernel
theorem d41_16 : decode (mCode 41) 16 = .ok (.iload 4, 2) := by decide +kernel
theorem d41_18 : decode (mCode 41) 18 = .ok (.invokevirtual 48, 3) := by decide +kernel
theorem d41_21 : decode (mCode 41) 21 = .ok (.imul, 1) := by decide +kernel
theorem d41_22 : decode (mCode 41) 22 = .ok (.ifCond .ge 33, 3) := by decide +kernel
theorem d41_25 : decode (mCode 41) 25 = .ok (.aload_n 0, 1) := by decide +kernel
theorem d41_26 : decode (mCode 41) 26 = .ok (.getfield 15, 3) := by decide +kernel
theorem d41_29 : decode (mCode 41) 29 = .ok (.iload_n 3, 1) := by decide +kernel
theorem d41_30 : decode (mCode 41) 30 = .ok (.iload 4, 2) := by decide +kernel
theorem d41_32 : decode (mCode 41) 32 = .ok (.iload_n 1, 1) := by decide +kernel
theorem d41_33 : decode (mCode 41) 33 = .ok (.invokevirtual 48, 3) := by decide +kernel
theorem d41_36 : decode (mCode 41) 36 = .ok (.aload_n 0, 1) := by decide +kernel
theorem d41_37 : decode (mCode 41) 37 = .ok (.getfield 15, 3) := by decide +kernel
theorem d41_40 : decode (mCode 41) 40 = .ok (.iload_n 3, 1) := by decide +kernel
theorem d41_41 : decode (mCode 41) 41 = .ok (.iload 4, 2) := by decide +kernel
theorem d41_43 : decode (mCode 41) 43 = .ok (.iload_n 2, 1) := by decide +kernel
theorem d41_44 : decode (mCode 41) 44 = .ok (.invokevirtual 48, 3) := by decide +kernel
theorem d41_47 : decode (mCode 41) 47 = .ok (.imul, 1) := by decide +kernel
theorem d41_48 : decode (mCode 41) 48 = .ok (.ifCond .ge 7, 3) := by decide +kernel
theorem d41_51 : decode (mCode 41) 51 = .ok (.iconst 1, 1) := by decide +kernel
theorem d41_52 : decode (mCode 41) 52 = .ok (.goto 4, 3) := by decide +kernel
theorem d41_55 : decode (mCode 41) 55 = .ok (.iconst 0, 1) := by decide +kernel
theorem d41_56 : decode (mCode 41) 56 = .ok (.ireturn, 1) := by decide +kernel
theorem d66_0 : decode (mCode 66) 0 = .ok (.aload_n 0, 1) := by decide +kernel
theorem d66_1 : decode (mCode 66) 1 = .ok (.getfield 25, 3) := by decide +kernel
theorem d66_4 : decode (mCode 66) 4 = .ok (.ireturn, 1) := by decide +kernel
theorem d69_0 : decode (mCode 69) 0 = .ok (.iconst 0, 1) := by decide +kernel
theorem d69_1 : decode (mCode 69) 1 = .ok (.istore_n 2, 1) := by decide +kernel
theorem d69_2 : decode (mCode 69) 2 = .ok (.iload_n 2, 1) := by decide +kernel
theorem d69_3 : decode (mCode 69) 3 = .ok (.aload_n 0, 1) := by decide +kernel
theorem d69_4 : decode (mCode 69) 4 = .ok (.getfield 25, 3) := by decide +kernel
theorem d69_7 : decode (mCode 69) 7 = .ok (.if_icmp .ge 41, 3) := by decide +kernel
theorem d69_10 : decode (mCode 69) 10 = .ok (.aload_n 0, 1) := by decide +kernel
theorem d69_11 : decode (mCode 69) 11 = .ok (.getfield 9, 3) := by decide +kernel
theorem d69_14 : decode (mCode 69) 14 = .ok (.iload_n 2, 1) := by decide +kernel
theorem d69_15 : decode (mCode 69) 15 = .ok (.iaload, 1) := by decide +kernel
theorem d69_16 : decode (mCode 69) 16 = .ok (.aload_n 0, 1) := by decide +kernel
theorem d69_17 : decode (mCode 69) 17 = .ok (.getfield 9, 3) := by decide +kernel
theorem d69_20 : decode (mCode 69) 20 = .ok (.iload_n 1, 1) := by decide +kernel
theorem d69_21 : decode (mCode 69) 21 = .ok (.iaload, 1) := by decide +kernel
theorem d69_22 : decode (mCode 69) 22 = .ok (.if_icmp .ne 20, 3) := by decide +kernel
theorem d69_25 : decode (mCode 69) 25 = .ok (.aload_n 0, 1) := by decide +kernel
theorem d69_26 : decode (mCode 69) 26 = .ok (.getfield 15, 3) := by decide +kernel
theorem d69_29 : decode (mCode 69) 29 = .ok (.iload_n 2, 1) := by decide +kernel
theorem d69_30 : decode (mCode 69) 30 = .ok (.iaload, 1) := by decide +kernel
theorem d69_31 : decode (mCode 69) 31 = .ok (.aload_n 0, 1) := by decide +kernel
theorem d69_32 : decode (mCode 69) 32 = .ok (.getfield 15, 3) := by decide +kernel
theorem d69_35 : decode (mCode 69) 35 = .ok (.iload_n 1, 1) := by decide +kernel
theorem d69_36 : decode (mCode 69) 36 = .ok (.iaload, 1) := by decide +kernel
theorem d69_37 : decode (mCode 69) 37 = .ok (.if_icmp .ne 5, 3) := by decide +kernel
theorem d69_40 : decode (mCode 69) 40 = .ok (.iload_n 2, 1) := by decide +kernel
theorem d69_41 : decode (mCode 69) 41 = .ok (.ireturn, 1) := by decide +kernel
theorem d69_42 : decode (mCode 69) 42 = .ok (.iinc 2 1, 3) := by decide +kernel
theorem d69_45 : decode (mCode 69) 45 = .ok (.goto (-43), 3) := by decide +kernel
theorem d69_48 : decode (mCode 69) 48 = .ok (.iconst (-1), 1) := by decide +kernel
theorem d69_49 : decode (mCode 69) 49 = .ok (.ireturn, 1) := by decide +kernel
theorem d70_0 : decode (mCode 70) 0 = .ok (.aload_n 0, 1) := by decide +kernel
theorem d70_1 : decode (mCode 70) 1 = .ok (.iload_n 1, 1) := by decide +kernel
theorem d70_2 : decode (mCode 70) 2 = .ok (.iload_n 2, 1) := by decide +kernel
theorem d70_3 : decode (mCode 70) 3 = .ok (.iload_n 3, 1) := by decide +kernel
theorem d70_4 : decode (mCode 70) 4 = .ok (.invokevirtual 29, 3) := by decide +kernel
theorem d70_7 : decode (mCode 70) 7 = .ok (.lconst 0, 1) := by decide +kernel
theorem d70_8 : decode (mCode 70) 8 = .ok (.lcmp, 1) := by decide +kernel
theorem d70_9 : decode (mCode 70) 9 = .ok (.ifCond .ne 103, 3) := by decide +kernel
theorem d70_12 : decode (mCode 70) 12 = .ok (.aload_n 0, 1) := by decide +kernel
theorem d70_13 : decode (mCode 70) 13 = .ok (.getfield 9, 3) := by decide +kernel
theorem d70_16 : decode (mCode 70) 16 = .ok (.iload_n 1, 1) := by decide +kernel
theorem d70_17 : decode (mCode 70) 17 = .ok (.iaload, 1) := by decide +kernel
theorem d70_18 : decode (mCode 70) 18 = .ok (.aload_n 0, 1) := by decide +kernel
theorem d70_19 : decode (mCode 70) 19 = .ok (.getfield 9, 3) := by decide +kernel
theorem d70_22 : decode (mCode 70) 22 = .ok (.iload_n 2, 1) := by decide +kernel
theorem d70_23 : decode (mCode 70) 23 = .ok (.iaload, 1) := by decide +kernel
theorem d70_24 : decode (mCode 70) 24 = .ok (.invokestatic 52, 3) := by decide +kernel
theorem d70_27 : decode (mCode 70) 27 = .ok (.aload_n 0, 1) := by decide +kernel
theorem d70_28 : decode (mCode 70) 28 = .ok (.getfield 9, 3) := by decide +kernel
theorem d70_31 : decode (mCode 70) 31 = .ok (.iload_n 3, 1) := by decide +kernel
theorem d70_32 : decode (mCode 70) 32 = .ok (.iaload, 1) := by decide +kernel
theorem d70_33 : decode (mCode 70) 33 = .ok (.if_icmp .gt 79, 3) := by decide +kernel
theorem d70_36 : decode (mCode 70) 36 = .ok (.aload_n 0, 1) := by decide +kernel
theorem d70_37 : decode (mCode 70) 37 = .ok (.getfield 9, 3) := by decide +kernel
theorem d70_40 : decode (mCode 70) 40 = .ok (.iload_n 3, 1) := by decide +kernel
theorem d70_41 : decode (mCode 70) 41 = .ok (.iaload, 1) := by decide +kernel
theorem d70_42 : decode (mCode 70) 42 = .ok (.aload_n 0, 1) := by decide +kernel
theorem d70_43 : decode (mCode 70) 43 = .ok (.getfield 9, 3) := by decide +kernel
theorem d70_46 : decode (mCode 70) 46 = .ok (.iload_n 1, 1) := by decide +kernel
theorem d70_47 : decode (mCode 70) 47 = .ok (.iaload, 1) := by decide +kernel
theorem d70_48 : decode (mCode 70) 48 = .ok (.aload_n 0, 1) := by decide +kernel
theorem d70_49 : decode (mCode 70) 49 = .ok (.getfield 9, 3) := by decide +kernel
theorem d70_52 : decode (mCode 70) 52 = .ok (.iload_n 2, 1) := by decide +kernel
theorem d70_53 : decode (mCode 70) 53 = .ok (.iaload, 1) := by decide +kernel
theorem d70_54 : decode (mCode 70) 54 = .ok (.invokestatic 58, 3) := by decide +kernel
theorem d70_57 : decode (mCode 70) 57 = .ok (.if_icmp .gt 55, 3) := by decide +kernel
theorem d70_60 : decode (mCode 70) 60 = .ok (.aload_n 0, 1) := by decide +kernel
theorem d70_61 : decode (mCode 70) 61 = .ok (.getfield 15, 3) := by decide +kernel
theorem d70_64 : decode (mCode 70) 64 = .ok (.iload_n 1, 1) := by decide +kernel
theorem d70_65 : decode (mCode 70) 65 = .ok (.iaload, 1) := by decide +kernel
theorem d70_66 : decode (mCode 70) 66 = .ok (.aload_n 0, 1) := by decide +kernel
theorem d70_67 : decode (mCode 70) 67 = .ok (.getfield 15, 3) := by decide +kernel
theorem d70_70 : decode (mCode 70) 70 = .ok (.iload_n 2, 1) := by decide +kernel
theorem d70_71 : decode (mCode 70) 71 = .ok (.iaload, 1) := by decide +kernel
theorem d70_72 : decode (mCode 70) 72 = .ok (.invokestatic 52, 3) := by decide +kernel
theorem d70_75 : decode (mCode 70) 75 = .ok (.aload_n 0, 1) := by decide +kernel
theorem d70_76 : decode (mCode 70) 76 = .ok (.getfield 15, 3) := by decide +kernel
theorem d70_79 : decode (mCode 70) 79 = .ok (.iload_n 3, 1) := by decide +kernel
theorem d70_80 : decode (mCode 70) 80 = .ok (.iaload, 1) := by decide +kernel
theorem d70_81 : decode (mCode 70) 81 = .ok (.if_icmp .gt 31, 3) := by decide +kernel
theorem d70_84 : decode (mCode 70) 84 = .ok (.aload_n 0, 1) := by decide +kernel
theorem d70_85 : decode (mCode 70) 85 = .ok (.getfield 15, 3) := by decide +kernel
theorem d70_88 : decode (mCode 70) 88 = .ok (.iload_n 3, 1) := by decide +kernel
theorem d70_89 : decode (mCode 70) 89 = .ok (.iaload, 1) := by decide +kernel
theorem d70_90 : decode (mCode 70) 90 = .ok (.aload_n 0, 1) := by decide +kernel
theorem d70_91 : decode (mCode 70) 91 = .ok (.getfield 15, 3) := by decide +kernel
theorem d70_94 : decode (mCode 70) 94 = .ok (.iload_n 1, 1) := by decide +kernel
theorem d70_95 : decode (mCode 70) 95 = .ok (.iaload, 1) := by decide +kernel
theorem d70_96 : decode (mCode 70) 96 = .ok (.aload_n 0, 1) := by decide +kernel
theorem d70_97 : decode (mCode 70) 97 = .ok (.getfield 15, 3) := by decide +kernel
theorem d70_100 : decode (mCode 70) 100 = .ok (.iload_n 2, 1) := by decide +kernel
theorem d70_101 : decode (mCode 70) 101 = .ok (.iaload, 1) := by decide +kernel
theorem d70_102 : decode (mCode 70) 102 = .ok (.invokestatic 58, 3) := by decide +kernel
theorem d70_105 : decode (mCode 70) 105 = .ok (.if_icmp .gt 7, 3) := by decide +kernel
theorem d70_108 : decode (mCode 70) 108 = .ok (.iconst 1, 1) := by decide +kernel
theorem d70_109 : decode (mCode 70) 109 = .ok (.goto 4, 3) := by decide +kernel
theorem d70_112 : decode (mCode 70) 112 = .ok (.iconst 0, 1) := by decide +kernel
theorem d70_113 : decode (mCode 70) 113 = .ok (.ireturn, 1) := by decide +kernel
theorem d71_0 : decode (mCode 71) 0 = .ok (.aload_n 0, 1) := by decide +kernel
theorem d71_1 : decode (mCode 71) 1 = .ok (.getfield 9, 3) := by decide +kernel
theorem d71_4 : decode (mCode 71) 4 = .ok (.iload_n 2, 1) := by decide +kernel
theorem d71_5 : decode (mCode 71) 5 = .ok (.iaload, 1) := by decide +kernel
theorem d71_6 : decode (mCode 71) 6 = .ok (.aload_n 0, 1) := by decide +kernel
theorem d71_7 : decode (mCode 71) 7 = .ok (.getfield 9, 3) := by decide +kernel
theorem d71_10 : decode (mCode 71) 10 = .ok (.iload_n 1, 1) := by decide +kernel
theorem d71_11 : decode (mCode 71) 11 = .ok (.iaload, 1) := by decide +kernel
theorem d71_12 : decode (mCode 71) 12 = .ok (.isub, 1) := by decide +kernel
theorem d71_13 : decode (mCode 71) 13 = .ok (.i2l, 1) := by decide +kernel
theorem d71_14 : decode (mCode 71) 14 = .ok (.lstore 4, 2) := by decide +kernel
theorem d71_16 : decode (mCode 71) 16 = .ok (.aload_n 0, 1) := by decide +kernel
theorem d71_17 : decode (mCode 71) 17 = .ok (.getfield 15, 3) := by decide +kernel
theorem d71_20 : decode (mCode 71) 20 = .ok (.iload_n 2, 1) := by decide +kernel
theorem d71_21 : decode (mCode 71) 21 = .ok (.iaload, 1) := by decide +kernel
theorem d71_22 : decode (mCode 71) 22 = .ok (.aload_n 0, 1) := by decide +kernel
theorem d71_23 : decode (mCode 71) 23 = .ok (.getfield 15, 3) := by decide +kernel
theorem d71_26 : decode (mCode 71) 26 = .ok (.iload_n 1, 1) := by decide +kernel
theorem d71_27 : decode (mCode 71) 27 = .ok (.iaload, 1) := by decide +kernel
theorem d71_28 : decode (mCode 71) 28 = .ok (.isub, 1) := by decide +kernel
theorem d71_29 : decode (mCode 71) 29 = .ok (.i2l, 1) := by decide +kernel
theorem d71_30 : decode (mCode 71) 30 = .ok (.lstore 6, 2) := by decide +kernel
theorem d71_32 : decode (mCode 71) 32 = .ok (.aload_n 0, 1) := by decide +kernel
theorem d71_33 : decode (mCode 71) 33 = .ok (.getfield 9, 3) := by decide +kernel
theorem d71_36 : decode (mCode 71) 36 = .ok (.iload_n 3, 1) := by decide +kernel
theorem d71_37 : decode (mCode 71) 37 = .ok (.iaload, 1) := by decide +kernel
theorem d71_38 : decode (mCode 71) 38 = .ok (.aload_n 0, 1) := by decide +kernel
theorem d71_39 : decode (mCode 71) 39 = .ok (.getfield 9, 3) := by decide +kernel
theorem d71_42 : decode (mCode 71) 42 = .ok (.iload_n 1, 1) := by decide +kernel
theorem d71_43 : decode (mCode 71) 43 = .ok (.iaload, 1) := by decide +kernel
theorem d71_44 : decode (mCode 71) 44 = .ok (.isub, 1) := by decide +kernel
theorem d71_45 : decode (mCode 71) 45 = .ok (.i2l, 1) := by decide +kernel
theorem d71_46 : decode (mCode 71) 46 = .ok (.lstore 8, 2) := by decide +kernel
theorem d71_48 : decode (mCode 71) 48 = .ok (.aload_n 0, 1) := by decide +kernel
theorem d71_49 : decode (mCode 71) 49 = .ok (.getfield 15, 3) := by decide +kernel
theorem d71_52 : decode (mCode 71) 52 = .ok (.iload_n 3, 1) := by decide +kernel
theorem d71_53 : decode (mCode 71) 53 = .ok (.iaload, 1) := by decide +kernel
theorem d71_54 : decode (mCode 71) 54 = .ok (.aload_n 0, 1) := by decide +kernel
theorem d71_55 : decode (mCode 71) 55 = .ok (.getfield 15, 3) := by decide +kernel
theorem d71_58 : decode (mCode 71) 58 = .ok (.iload_n 1, 1) := by decide +kernel
theorem d71_59 : decode (mCode 71) 59 = .ok (.iaload, 1) := by decide +kernel
theorem d71_60 : decode (mCode 71) 60 = .ok (.isub, 1) := by decide +kernel
theorem d71_61 : decode (mCode 71) 61 = .ok (.i2l, 1) := by decide +kernel
theorem d71_62 : decode (mCode 71) 62 = .ok (.lstore 10, 2) := by decide +kernel
theorem d71_64 : decode (mCode 71) 64 = .ok (.lload 4, 2) := by decide +kernel
theorem d71_66 : decode (mCode 71) 66 = .ok (.lload 10, 2) := by decide +kernel
theorem d71_68 : decode (mCode 71) 68 = .ok (.lmul, 1) := by decide +kernel
theorem d71_69 : decode (mCode 71) 69 = .ok (.lload 6, 2) := by decide +kernel
theorem d71_71 : decode (mCode 71) 71 = .ok (.lload 8, 2) := by decide +kernel
theorem d71_73 : decode (mCode 71) 73 = .ok (.lmul, 1) := by decide +kernel
theorem d71_74 : decode (mCode 71) 74 = .ok (.lsub, 1) := by decide +kernel
theorem d71_75 : decode (mCode 71) 75 = .ok (.lreturn, 1) := by decide +kernel
theorem d73_0 : decode (mCode 73) 0 = .ok (.aload_n 0, 1) := by decide +kernel
theorem d73_1 : decode (mCode 73) 1 = .ok (.iload_n 1, 1) := by decide +kernel
theorem d73_2 : decode (mCode 73) 2 = .ok (.iload_n 2, 1) := by decide +kernel
theorem d73_3 : decode (mCode 73) 3 = .ok (.iload_n 3, 1) := by decide +kernel
theorem d73_4 : decode (mCode 73) 4 = .ok (.invokevirtual 29, 3) := by decide +kernel
theorem d73_7 : decode (mCode 73) 7 = .ok (.invokestatic 33, 3) := by decide +kernel
theorem d73_10 : decode (mCode 73) 10 = .ok (.ireturn, 1) := by decide +kernel
theorem d74_0 : decode (mCode 74) 0 = .ok (.aload_n 0, 1) := by decide +kernel
theorem d74_1 : decode (mCode 74) 1 = .ok (.getfield 9, 3) := by decide +kernel
theorem d74_4 : decode (mCode 74) 4 = .ok (.iload_n 1, 1) := by decide +kernel
theorem d74_5 : decode (mCode 74) 5 = .ok (.iaload, 1) := by decide +kernel
theorem d74_6 : decode (mCode 74) 6 = .ok (.aload_n 0, 1) := by decide +kernel
theorem d74_7 : decode (mCode 74) 7 = .ok (.getfield 9, 3) := by decide +kernel
theorem d74_10 : decode (mCode 74) 10 = .ok (.iload_n 2, 1) := by decide +kernel
theorem d74_11 : decode (mCode 74) 11 = .ok (.iaload, 1) := by decide +kernel
theorem d74_12 : decode (mCode 74) 12 = .ok (.if_icmp .lt 33, 3) := by decide +kernel
theorem d74_15 : decode (mCode 74) 15 = .ok (.aload_n 0, 1) := by decide +kernel
theorem d74_16 : decode (mCode 74) 16 = .ok (.getfield 9, 3) := by decide +kernel
theorem d74_19 : decode (mCode 74) 19 = .ok (.iload_n 1, 1) := by decide +kernel
theorem d74_20 : decode (mCode 74) 20 = .ok (.iaload, 1) := by decide +kernel
theorem d74_21 : decode (mCode 74) 21 = .ok (.aload_n 0, 1) := by decide +kernel
theorem d74_22 : decode (mCode 74) 22 = .ok (.getfield 9, 3) := by decide +kernel
theorem d74_25 : decode (mCode 74) 25 = .ok (.iload_n 2, 1) := by decide +kernel
theorem d74_26 : decode (mCode 74) 26 = .ok (.iaload, 1) := by decide +kernel
theorem d74_27 : decode (mCode 74) 27 = .ok (.if_icmp .ne 22, 3) := by decide +kernel
theorem d74_30 : decode (mCode 74) 30 = .ok (.aload_n 0, 1) := by decide +kernel
theorem d74_31 : decode (mCode 74) 31 = .ok (.getfield 15, 3) := by decide +kernel
theorem d74_34 : decode (mCode 74) 34 = .ok (.iload_n 1, 1) := by decide +kernel
theorem d74_35 : decode (mCode 74) 35 = .ok (.iaload, 1) := by decide +kernel
theorem d74_36 : decode (mCode 74) 36 = .ok (.aload_n 0, 1) := by decide +kernel
theorem d74_37 : decode (mCode 74) 37 = .ok (.getfield 15, 3) := by decide +kernel
theorem d74_40 : decode (mCode 74) 40 = .ok (.iload_n 2, 1) := by decide +kernel
theorem d74_41 : decode (mCode 74) 41 = .ok (.iaload, 1) := by decide +kernel
theorem d74_42 : decode (mCode 74) 42 = .ok (.if_icmp .ge 7, 3) := by decide +kernel
theorem d74_45 : decode (mCode 74) 45 = .ok (.iconst 1, 1) := by decide +kernel
theorem d74_46 : decode (mCode 74) 46 = .ok (.goto 4, 3) := by decide +kernel
theorem d74_49 : decode (mCode 74) 49 = .ok (.iconst 0, 1) := by decide +kernel
theorem d74_50 : decode (mCode 74) 50 = .ok (.ireturn, 1) := by decide +kernel
theorem d75_0 : decode (mCode 75) 0 = .ok (.aload_n 0, 1) := by decide +kernel
theorem d75_1 : decode (mCode 75) 1 = .ok (.getfield 21, 3) := by decide +kernel
theorem d75_4 : decode (mCode 75) 4 = .ok (.invokevirtual 37, 3) := by decide +kernel
theorem d75_7 : decode (mCode 75) 7 = .ok (.aload_n 0, 1) := by decide +kernel
theorem d75_8 : decode (mCode 75) 8 = .ok (.getfield 21, 3) := by decide +kernel
theorem d75_11 : decode (mCode 75) 11 = .ok (.aload_n 0, 1) := by decide +kernel
theorem d75_12 : decode (mCode 75) 12 = .ok (.iload 4, 2) := by decide +kernel
theorem d75_14 : decode (mCode 75) 14 = .ok (.iload_n 1, 1) := by decide +kernel
theorem d75_15 : decode (mCode 75) 15 = .ok (.invokevirtual 40, 3) := by decide +kernel
theorem d75_18 : decode (mCode 75) 18 = .ok (.aload_n 0, 1) := by decide +kernel
theorem d75_19 : decode (mCode 75) 19 = .ok (.iload 4, 2) := by decide +kernel
theorem d75_21 : decode (mCode 75) 21 = .ok (.iload_n 2, 1) := by decide +kernel
theorem d75_22 : decode (mCode 75) 22 = .ok (.iload_n 3, 1) := by decide +kernel
theorem d75_23 : decode (mCode 75) 23 = .ok (.invokevirtual 29, 3) := by decide +kernel
theorem d75_26 : decode (mCode 75) 26 = .ok (.invokevirtual 44, 3) := by decide +kernel
theorem d75_29 : decode (mCode 75) 29 = .ok (.aload_n 0, 1) := by decide +kernel
theorem d75_30 : decode (mCode 75) 30 = .ok (.getfield 21, 3) := by decide +kernel
theorem d75_33 : decode (mCode 75) 33 = .ok (.aload_n 0, 1) := by decide +kernel
theorem d75_34 : decode (mCode 75) 34 = .ok (.iload 4, 2) := by decide +kernel
theorem d75_36 : decode (mCode 75) 36 = .ok (.iload_n 2, 1) := by decide +kernel
theorem d75_37 : decode (mCode 75) 37 = .ok (.invokevirtual 40, 3) := by decide +kernel
theorem d75_40 : decode (mCode 75) 40 = .ok (.aload_n 0, 1) := by decide +kernel
theorem d75_41 : decode (mCode 75) 41 = .ok (.iload 4, 2) := by decide +kernel
theorem d75_43 : decode (mCode 75) 43 = .ok (.iload_n 3, 1) := by decide +kernel
theorem d75_44 : decode (mCode 75) 44 = .ok (.iload_n 1, 1) := by decide +kernel
theorem d75_45 : decode (mCode 75) 45 = .ok (.invokevirtual 29, 3) := by decide +kernel
theorem d75_48 : decode (mCode 75) 48 = .ok (.invokevirtual 44, 3) := by decide +kernel
theorem d75_51 : decode (mCode 75) 51 = .ok (.aload_n 0, 1) := by decide +kernel
theorem d75_52 : decode (mCode 75) 52 = .ok (.getfield 21, 3) := by decide +kernel
theorem d75_55 : decode (mCode 75) 55 = .ok (.aload_n 0, 1) := by decide +kernel
theorem d75_56 : decode (mCode 75) 56 = .ok (.iload 4, 2) := by decide +kernel
theorem d75_58 : decode (mCode 75) 58 = .ok (.iload_n 3, 1) := by decide +kernel
theorem d75_59 : decode (mCode 75) 59 = .ok (.invokevirtual 40, 3) := by decide +kernel
theorem d75_62 : decode (mCode 75) 62 = .ok (.aload_n 0, 1) := by decide +kernel
theorem d75_63 : decode (mCode 75) 63 = .ok (.iload 4, 2) := by decide +kernel
theorem d75_65 : decode (mCode 75) 65 = .ok (.iload_n 1, 1) := by decide +kernel
theorem d75_66 : decode (mCode 75) 66 = .ok (.iload_n 2, 1) := by decide +kernel
theorem d75_67 : decode (mCode 75) 67 = .ok (.invokevirtual 29, 3) := by decide +kernel
theorem d75_70 : decode (mCode 75) 70 = .ok (.invokevirtual 44, 3) := by decide +kernel
theorem d75_73 : decode (mCode 75) 73 = .ok (.aload_n 0, 1) := by decide +kernel
theorem d75_74 : decode (mCode 75) 74 = .ok (.getfield 21, 3) := by decide +kernel
theorem d75_77 : decode (mCode 75) 77 = .ok (.invokevirtual 48, 3) := by decide +kernel
theorem d75_80 : decode (mCode 75) 80 = .ok (.ireturn, 1) := by decide +kernel
theorem d76_0 : decode (mCode 76) 0 = .ok (.aload_n 0, 1) := by decide +kernel
theorem d76_1 : decode (mCode 76) 1 = .ok (.getfield 9, 3) := by decide +kernel
theorem d76_4 : decode (mCode 76) 4 = .ok (.iload_n 2, 1) := by decide +kernel
theorem d76_5 : decode (mCode 76) 5 = .ok (.iaload, 1) := by decide +kernel
theorem d76_6 : decode (mCode 76) 6 = .ok (.aload_n 0, 1) := by decide +kernel
theorem d76_7 : decode (mCode 76) 7 = .ok (.getfield 9, 3) := by decide +kernel
theorem d76_10 : decode (mCode 76) 10 = .ok (.iload_n 1, 1) := by decide +kernel
theorem d76_11 : decode (mCode 76) 11 = .ok (.iaload, 1) := by decide +kernel
theorem d76_12 : decode (mCode 76) 12 = .ok (.isub, 1) := by decide +kernel
theorem d76_13 : decode (mCode 76) 13 = .ok (.i2l, 1) := by decide +kernel
theorem d76_14 : decode (mCode 76) 14 = .ok (.lstore_n 3, 1) := by decide +kernel
theorem d76_15 : decode (mCode 76) 15 = .ok (.aload_n 0, 1) := by decide +kernel
theorem d76_16 : decode (mCode 76) 16 = .ok (.getfield 15, 3) := by decide +kernel
theorem d76_19 : decode (mCode 76) 19 = .ok (.iload_n 2, 1) := by decide +kernel
theorem d76_20 : decode (mCode 76) 20 = .ok (.iaload, 1) := by decide +kernel
theorem d76_21 : decode (mCode 76) 21 = .ok (.aload_n 0, 1) := by decide +kernel
theorem d76_22 : decode (mCode 76) 22 = .ok (.getfield 15, 3) := by decide +kernel
theorem d76_25 : decode (mCode 76) 25 = .ok (.iload_n 1, 1) := by decide +kernel
theorem d76_26 : decode (mCode 76) 26 = .ok (.iaload, 1) := by decide +kernel
theorem d76_27 : decode (mCode 76) 27 = .ok (.isub, 1) := by decide +kernel
theorem d76_28 : decode (mCode 76) 28 = .ok (.i2l, 1) := by decide +kernel
theorem d76_29 : decode (mCode 76) 29 = .ok (.lstore 5, 2) := by decide +kernel
theorem d76_31 : decode (mCode 76) 31 = .ok (.lload_n 3, 1) := by decide +kernel
theorem d76_32 : decode (mCode 76) 32 = .ok (.lload_n 3, 1) := by decide +kernel
theorem d76_33 : decode (mCode 76) 33 = .ok (.lmul, 1) := by decide +kernel
theorem d76_34 : decode (mCode 76) 34 = .ok (.lload 5, 2) := by decide +kernel
theorem d76_36 : decode (mCode 76) 36 = .ok (.lload 5, 2) := by decide +kernel
theorem d76_38 : decode (mCode 76) 38 = .ok (.lmul, 1) := by decide +kernel
theorem d76_39 : decode (mCode 76) 39 = .ok (.ladd, 1) := by decide +kernel
theorem d76_40 : decode (mCode 76) 40 = .ok (.lreturn, 1) := by decide +kernel
theorem d77_0 : decode (mCode 77) 0 = .ok (.iconst 0, 1) := by decide +kernel
theorem d77_1 : decode (mCode 77) 1 = .ok (.istore_n 3, 1) := by decide +kernel
theorem d77_2 : decode (mCode 77) 2 = .ok (.iload_n 3, 1) := by decide +kernel
theorem d77_3 : decode (mCode 77) 3 = .ok (.aload_n 0, 1) := by decide +kernel
theorem d77_4 : decode (mCode 77) 4 = .ok (.getfield 25, 3) := by decide +kernel
theorem d77_7 : decode (mCode 77) 7 = .ok (.if_icmp .ge 31, 3) := by decide +kernel
theorem d77_10 : decode (mCode 77) 10 = .ok (.iload_n 3, 1) := by decide +kernel
theorem d77_11 : decode (mCode 77) 11 = .ok (.iload_n 1, 1) := by decide +kernel
theorem d77_12 : decode (mCode 77) 12 = .ok (.if_icmp .eq 20, 3) := by decide +kernel
theorem d77_15 : decode (mCode 77) 15 = .ok (.iload_n 3, 1) := by decide +kernel
theorem d77_16 : decode (mCode 77) 16 = .ok (.iload_n 2, 1) := by decide +kernel
theorem d77_17 : decode (mCode 77) 17 = .ok (.if_icmp .eq 15, 3) := by decide +kernel
theorem d77_20 : decode (mCode 77) 20 = .ok (.aload_n 0, 1) := by decide +kernel
theorem d77_21 : decode (mCode 77) 21 = .ok (.iload_n 1, 1) := by decide +kernel
theorem d77_22 : decode (mCode 77) 22 = .ok (.iload_n 2, 1) := by decide +kernel
theorem d77_23 : decode (mCode 77) 23 = .ok (.iload_n 3, 1) := by decide +kernel
theorem d77_24 : decode (mCode 77) 24 = .ok (.invokevirtual 61, 3) := by decide +kernel
theorem d77_27 : decode (mCode 77) 27 = .ok (.ifCond .eq 5, 3) := by decide +kernel
theorem d77_30 : decode (mCode 77) 30 = .ok (.iconst 1, 1) := by decide +kernel
theorem d77_31 : decode (mCode 77) 31 = .ok (.ireturn, 1) := by decide +kernel
theorem d77_32 : decode (mCode 77) 32 = .ok (.iinc 3 1, 3) := by decide +kernel
theorem d77_35 : decode (mCode 77) 35 = .ok (.goto (-33), 3) := by decide +kernel
theorem d77_38 : decode (mCode 77) 38 = .ok (.iconst 0, 1) := by decide +kernel
theorem d77_39 : decode (mCode 77) 39 = .ok (.ireturn, 1) := by decide +kernel
theorem d88_0 : decode (mCode 88) 0 = .ok (.aload_n 0, 1) := by decide +kernel
theorem d88_1 : decode (mCode 88) 1 = .ok (.lconst 0, 1) := by decide +kernel
theorem d88_2 : decode (mCode 88) 2 = .ok (.putfield 9, 3) := by decide +kernel
theorem d88_5 : decode (mCode 88) 5 = .ok (.aload_n 0, 1) := by decide +kernel
theorem d88_6 : decode (mCode 88) 6 = .ok (.lconst 0, 1) := by decide +kernel
theorem d88_7 : decode (mCode 88) 7 = .ok (.putfield 13, 3) := by decide +kernel
theorem d88_10 : decode (mCode 88) 10 = .ok (.aload_n 0, 1) := by decide +kernel
theorem d88_11 : decode (mCode 88) 11 = .ok (.lconst 0, 1) := by decide +kernel
theorem d88_12 : decode (mCode 88) 12 = .ok (.putfield 16, 3) := by decide +kernel
theorem d88_15 : decode (mCode 88) 15 = .ok (.return_, 1) := by decide +kernel
theorem d89_0 : decode (mCode 89) 0 = .ok (.lload_n 1, 1) := by decide +kernel
theorem d89_1 : decode (mCode 89) 1 = .ok (.bipush 31, 2) := by decide +kernel
theorem d89_3 : decode (mCode 89) 3 = .ok (.lshr, 1) := by decide +kernel
theorem d89_4 : decode (mCode 89) 4 = .ok (.lstore 5, 2) := by decide +kernel
theorem d89_6 : decode (mCode 89) 6 = .ok (.lload_n 1, 1) := by decide +kernel
theorem d89_7 : decode (mCode 89) 7 = .ok (.ldc2_w 19, 3) := by decide +kernel
theorem d89_10 : decode (mCode 89) 10 = .ok (.land, 1) := by decide +kernel
theorem d89_11 : decode (mCode 89) 11 = .ok (.lstore 7, 2) := by decide +kernel
theorem d89_13 : decode (mCode 89) 13 = .ok (.lload_n 3, 1) := by decide +kernel
theorem d89_14 : decode (mCode 89) 14 = .ok (.bipush 31, 2) := by decide +kernel
theorem d89_16 : decode (mCode 89) 16 = .ok (.lshr, 1) := by decide +kernel
theorem d89_17 : decode (mCode 89) 17 = .ok (.lstore 9, 2) := by decide +kernel
theorem d89_19 : decode (mCode 89) 19 = .ok (.lload_n 3, 1) := by decide +kernel
theorem d89_20 : decode (mCode 89) 20 = .ok (.ldc2_w 19, 3) := by decide +kernel
theorem d89_23 : decode (mCode 89) 23 = .ok (.land, 1) := by decide +kernel
theorem d89_24 : decode (mCode 89) 24 = .ok (.lstore 11, 2) := by decide +kernel
theorem d89_26 : decode (mCode 89) 26 = .ok (.lload 7, 2) := by decide +kernel
theorem d89_28 : decode (mCode 89) 28 = .ok (.lload 11, 2) := by decide +kernel
theorem d89_30 : decode (mCode 89) 30 = .ok (.lmul, 1) := by decide +kernel
theorem d89_31 : decode (mCode 89) 31 = .ok (.lstore 13, 2) := by decide +kernel
theorem d89_33 : decode (mCode 89) 33 = .ok (.lload 5, 2) := by decide +kernel
theorem d89_35 : decode (mCode 89) 35 = .ok (.lload 11, 2) := by decide +kernel
theorem d89_37 : decode (mCode 89) 37 = .ok (.lmul, 1) := by decide +kernel
theorem d89_38 : decode (mCode 89) 38 = .ok (.lload 7, 2) := by decide +kernel
theorem d89_40 : decode (mCode 89) 40 = .ok (.lload 9, 2) := by decide +kernel
theorem d89_42 : decode (mCode 89) 42 = .ok (.lmul, 1) := by decide +kernel
theorem d89_43 : decode (mCode 89) 43 = .ok (.ladd, 1) := by decide +kernel
theorem d89_44 : decode (mCode 89) 44 = .ok (.lload 13, 2) := by decide +kernel
theorem d89_46 : decode (mCode 89) 46 = .ok (.bipush 31, 2) := by decide +kernel
theorem d89_48 : decode (mCode 89) 48 = .ok (.lshr, 1) := by decide +kernel
theorem d89_49 : decode (mCode 89) 49 = .ok (.ladd, 1) := by decide +kernel
theorem d89_50 : decode (mCode 89) 50 = .ok (.lstore 15, 2) := by decide +kernel
theorem d89_52 : decode (mCode 89) 52 = .ok (.aload_n 0, 1) := by decide +kernel
theorem d89_53 : decode (mCode 89) 53 = .ok (.dup, 1) := by decide +kernel
theorem d89_54 : decode (mCode 89) 54 = .ok (.getfield 9, 3) := by decide +kernel
theorem d89_57 : decode (mCode 89) 57 = .ok (.lload 5, 2) := by decide +kernel
theorem d89_59 : decode (mCode 89) 59 = .ok (.lload 9, 2) := by decide +kernel
theorem d89_61 : decode (mCode 89) 61 = .ok (.lmul, 1) := by decide +kernel
theorem d89_62 : decode (mCode 89) 62 = .ok (.lload 15, 2) := by decide +kernel
theorem d89_64 : decode (mCode 89) 64 = .ok (.bipush 31, 2) := by decide +kernel
theorem d89_66 : decode (mCode 89) 66 = .ok (.lshr, 1) := by decide +kernel
theorem d89_67 : decode (mCode 89) 67 = .ok (.ladd, 1) := by decide +kernel
theorem d89_68 : decode (mCode 89) 68 = .ok (.ladd, 1) := by decide +kernel
theorem d89_69 : decode (mCode 89) 69 = .ok (.putfield 9, 3) := by decide +kernel
theorem d89_72 : decode (mCode 89) 72 = .ok (.aload_n 0, 1) := by decide +kernel
theorem d89_73 : decode (mCode 89) 73 = .ok (.dup, 1) := by decide +kernel
theorem d89_74 : decode (mCode 89) 74 = .ok (.getfield 13, 3) := by decide +kernel
theorem d89_77 : decode (mCode 89) 77 = .ok (.lload 15, 2) := by decide +kernel
theorem d89_79 : decode (mCode 89) 79 = .ok (.ldc2_w 19, 3) := by decide +kernel
theorem d89_82 : decode (mCode 89) 82 = .ok (.land, 1) := by decide +kernel
theorem d89_83 : decode (mCode 89) 83 = .ok (.ladd, 1) := by decide +kernel
theorem d89_84 : decode (mCode 89) 84 = .ok (.putfield 13, 3) := by decide +kernel
theorem d89_87 : decode (mCode 89) 87 = .ok (.aload_n 0, 1) := by decide +kernel
theorem d89_88 : decode (mCode 89) 88 = .ok (.dup, 1) := by decide +kernel
theorem d89_89 : decode (mCode 89) 89 = .ok (.getfield 16, 3) := by decide +kernel
theorem d89_92 : decode (mCode 89) 92 = .ok (.lload 13, 2) := by decide +kernel
theorem d89_94 : decode (mCode 89) 94 = .ok (.ldc2_w 19, 3) := by decide +kernel
theorem d89_97 : decode (mCode 89) 97 = .ok (.land, 1) := by decide +kernel
theorem d89_98 : decode (mCode 89) 98 = .ok (.ladd, 1) := by decide +kernel
theorem d89_99 : decode (mCode 89) 99 = .ok (.putfield 16, 3) := by decide +kernel
theorem d89_102 : decode (mCode 89) 102 = .ok (.return_, 1) := by decide +kernel
theorem d90_0 : decode (mCode 90) 0 = .ok (.aload_n 0, 1) := by decide +kernel
theorem d90_1 : decode (mCode 90) 1 = .ok (.getfield 13, 3) := by decide +kernel
theorem d90_4 : decode (mCode 90) 4 = .ok (.aload_n 0, 1) := by decide +kernel
theorem d90_5 : decode (mCode 90) 5 = .ok (.getfield 16, 3) := by decide +kernel
theorem d90_8 : decode (mCode 90) 8 = .ok (.bipush 31, 2) := by decide +kernel
theorem d90_10 : decode (mCode 90) 10 = .ok (.lshr, 1) := by decide +kernel
theorem d90_11 : decode (mCode 90) 11 = .ok (.ladd, 1) := by decide +kernel
theorem d90_12 : decode (mCode 90) 12 = .ok (.lstore_n 1, 1) := by decide +kernel
theorem d90_13 : decode (mCode 90) 13 = .ok (.aload_n 0, 1) := by decide +kernel
theorem d90_14 : decode (mCode 90) 14 = .ok (.getfield 9, 3) := by decide +kernel
theorem d90_17 : decode (mCode 90) 17 = .ok (.lload_n 1, 1) := by decide +kernel
theorem d90_18 : decode (mCode 90) 18 = .ok (.bipush 31, 2) := by decide +kernel
theorem d90_20 : decode (mCode 90) 20 = .ok (.lshr, 1) := by decide +kernel
theorem d90_21 : decode (mCode 90) 21 = .ok (.ladd, 1) := by decide +kernel
theorem d90_22 : decode (mCode 90) 22 = .ok (.lstore_n 3, 1) := by decide +kernel
theorem d90_23 : decode (mCode 90) 23 = .ok (.lload_n 3, 1) := by decide +kernel
theorem d90_24 : decode (mCode 90) 24 = .ok (.lconst 0, 1) := by decide +kernel
theorem d90_25 : decode (mCode 90) 25 = .ok (.lcmp, 1) := by decide +kernel
theorem d90_26 : decode (mCode 90) 26 = .ok (.ifCond .eq 8, 3) := by decide +kernel
theorem d90_29 : decode (mCode 90) 29 = .ok (.lload_n 3, 1) := by decide +kernel
theorem d90_30 : decode (mCode 90) 30 = .ok (.invokestatic 21, 3) := by decide +kernel
theorem d90_33 : decode (mCode 90) 33 = .ok (.ireturn, 1) := by decide +kernel
theorem d90_34 : decode (mCode 90) 34 = .ok (.lload_n 1, 1) := by decide +kernel
theorem d90_35 : decode (mCode 90) 35 = .ok (.ldc2_w 19, 3) := by decide +kernel
theorem d90_38 : decode (mCode 90) 38 = .ok (.land, 1) := by decide +kernel
theorem d90_39 : decode (mCode 90) 39 = .ok (.aload_n 0, 1) := by decide +kernel
theorem d90_40 : decode (mCode 90) 40 = .ok (.getfield 16, 3) := by decide +kernel
theorem d90_43 : decode (mCode 90) 43 = .ok (.ldc2_w 19, 3) := by decide +kernel
theorem d90_46 : decode (mCode 90) 46 = .ok (.land, 1) := by decide +kernel
theorem d90_47 : decode (mCode 90) 47 = .ok (.lor, 1) := by decide +kernel
theorem d90_48 : decode (mCode 90) 48 = .ok (.invokestatic 21, 3) := by decide +kernel
theorem d90_51 : decode (mCode 90) 51 = .ok (.ireturn, 1) := by decide +kernel
theorem d98_0 : decode (mCode 98) 0 = .ok (.lload_n 0, 1) := by decide +kernel
theorem d98_1 : decode (mCode 98) 1 = .ok (.lconst 0, 1) := by decide +kernel
theorem d98_2 : decode (mCode 98) 2 = .ok (.lcmp, 1) := by decide +kernel
theorem d98_3 : decode (mCode 98) 3 = .ok (.ifCond .le 7, 3) := by decide +kernel
theorem d98_6 : decode (mCode 98) 6 = .ok (.iconst 1, 1) := by decide +kernel
theorem d98_7 : decode (mCode 98) 7 = .ok (.goto 14, 3) := by decide +kernel
theorem d98_10 : decode (mCode 98) 10 = .ok (.lload_n 0, 1) := by decide +kernel
theorem d98_11 : decode (mCode 98) 11 = .ok (.lconst 0, 1) := by decide +kernel
theorem d98_12 : decode (mCode 98) 12 = .ok (.lcmp, 1) := by decide +kernel
theorem d98_13 : decode (mCode 98) 13 = .ok (.ifCond .ge 7, 3) := by decide +kernel
theorem d98_16 : decode (mCode 98) 16 = .ok (.iconst (-1), 1) := by decide +kernel
theorem d98_17 : decode (mCode 98) 17 = .ok (.goto 4, 3) := by decide +kernel
theorem d98_20 : decode (mCode 98) 20 = .ok (.iconst 0, 1) := by decide +kernel
theorem d98_21 : decode (mCode 98) 21 = .ok (.ireturn, 1) := by decide +kernel
theorem d169_0 : decode (mCode 169) 0 = .ok (.iload_n 0, 1) := by decide +kernel
theorem d169_1 : decode (mCode 169) 1 = .ok (.iload_n 1, 1) := by decide +kernel
theorem d169_2 : decode (mCode 169) 2 = .ok (.if_icmp .gt 7, 3) := by decide +kernel
theorem d169_5 : decode (mCode 169) 5 = .ok (.iload_n 0, 1) := by decide +kernel
theorem d169_6 : decode (mCode 169) 6 = .ok (.goto 4, 3) := by decide +kernel
theorem d169_9 : decode (mCode 169) 9 = .ok (.iload_n 1, 1) := by decide +kernel
theorem d169_10 : decode (mCode 169) 10 = .ok (.ireturn, 1) := by decide +kernel
theorem d170_0 : decode (mCode 170) 0 = .ok (.iload_n 0, 1) := by decide +kernel
theorem d170_1 : decode (mCode 170) 1 = .ok (.iload_n 1, 1) := by decide +kernel
theorem d170_2 : decode (mCode 170) 2 = .ok (.if_icmp .lt 7, 3) := by decide +kernel
theorem d170_5 : decode (mCode 170) 5 = .ok (.iload_n 0, 1) := by decide +kernel
theorem d170_6 : decode (mCode 170) 6 = .ok (.goto 4, 3) := by decide +kernel
theorem d170_9 : decode (mCode 170) 9 = .ok (.iload_n 1, 1) := by decide +kernel
theorem d170_10 : decode (mCode 170) 10 = .ok (.ireturn, 1) := by decide +kernel
def f71 (v1 : Int32) (v2 : Int32) (v3 : Int32) (s : mS) : Option (Int64) :=
  rdI 42 v2 (rdI 42 v1 (rdI 42 v2 (rdI 42 v1 (rdI 42 v3 (rdI 42 v1 (rdI 42 v3 (rdI 42 v1 (some (((Int32.toInt64 ((s.1 18 (Int32.toNatClampNeg v2)) - (s.1 18 (Int32.toNatClampNeg v1)))) * (Int32.toInt64 ((s.1 19 (Int32.toNatClampNeg v3)) - (s.1 19 (Int32.toNatClampNeg v1))))) - ((Int32.toInt64 ((s.1 19 (Int32.toNatClampNeg v2)) - (s.1 19 (Int32.toNatClampNeg v1)))) * (Int32.toInt64 ((s.1 18 (Int32.toNatClampNeg v3)) - (s.1 18 (Int32.toNatClampNeg v1))))))))))))))
theorem t_f71 {S : mE} {ex : mHp} {v1 : Int32} {v2 : Int32} {v3 : Int32} {s : mS} {r : Int64} (h : f71 v1 v2 v3 s = some r) : Run S 71 (0, [(0, .ref 17), (1, .int v1), (2, .int v2), (3, .int v3)], [], hp s ex) (.inl (some (.long r)), hp s ex) := by
  unfold f71 at h
  refine R_p d71_0 rfl rfl ?_
  refine R_get d71_1 (Or.inl (List.mem_of_getElem? (i := 3) rfl)) (hg17 _ _) rfl ?_
  refine R_p d71_4 rfl rfl ?_
  obtain ⟨c1, h⟩ := rdI_some h
  refine R_ild d71_5 (hg18 _ _) c1 ?_
  refine R_p d71_6 rfl rfl ?_
  refine R_get d71_7 (Or.inl (List.mem_of_getElem? (i := 3) rfl)) (hg17 _ _) rfl ?_
  refine R_p d71_10 rfl rfl ?_
  obtain ⟨c2, h⟩ := rdI_some h
  refine R_ild d71_11 (hg18 _ _) c2 ?_
  refine R_p d71_12 rfl rfl ?_
  refine R_p d71_13 rfl rfl ?_
  refine R_p (ls' := [(0, .ref 17), (1, .int v1), (2, .int v2), (3, .int v3), (4, .long (Int32.toInt64 ((s.1 18 (Int32.toNatClampNeg v2)) - (s.1 18 (Int32.toNatClampNeg v1)))))]) d71_14 rfl rfl ?_
  refine R_p d71_16 rfl rfl ?_
  refine R_get d71_17 (Or.inl (List.mem_of_getElem? (i := 4) rfl)) (hg17 _ _) rfl ?_
  refine R_p d71_20 rfl rfl ?_
  obtain ⟨c3, h⟩ := rdI_some h
  refine R_ild d71_21 (hg19 _ _) c3 ?_
  refine R_p d71_22 rfl rfl ?_
  refine R_get d71_23 (Or.inl (List.mem_of_getElem? (i := 4) rfl)) (hg17 _ _) rfl ?_
  refine R_p d71_26 rfl rfl ?_
  obtain ⟨c4, h⟩ := rdI_some h
  refine R_ild d71_27 (hg19 _ _) c4 ?_
  refine R_p d71_28 rfl rfl ?_
  refine R_p d71_29 rfl rfl ?_
  refine R_p (ls' := [(0, .ref 17), (1, .int v1), (2, .int v2), (3, .int v3), (4, .long (Int32.toInt64 ((s.1 18 (Int32.toNatClampNeg v2)) - (s.1 18 (Int32.toNatClampNeg v1))))), (6, .long (Int32.toInt64 ((s.1 19 (Int32.toNatClampNeg v2)) - (s.1 19 (Int32.toNatClampNeg v1)))))]) d71_30 rfl rfl ?_
  refine R_p d71_32 rfl rfl ?_
  refine R_get d71_33 (Or.inl (List.mem_of_getElem? (i := 3) rfl)) (hg17 _ _) rfl ?_
  refine R_p d71_36 rfl rfl ?_
  obtain ⟨c5, h⟩ := rdI_some h
  refine R_ild d71_37 (hg18 _ _) c5 ?_
  refine R_p d71_38 rfl rfl ?_
  refine R_get d71_39 (Or.inl (List.mem_of_getElem? (i := 3) rfl)) (hg17 _ _) rfl ?_
  refine R_p d71_42 rfl rfl ?_
  obtain ⟨c6, h⟩ := rdI_some h
  refine R_ild d71_43 (hg18 _ _) c6 ?_
  refine R_p d71_44 rfl rfl ?_
  refine R_p d71_45 rfl rfl ?_
  refine R_p (ls' := [(0, .ref 17), (1, .int v1), (2, .int v2), (3, .int v3), (4, .long (Int32.toInt64 ((s.1 18 (Int32.toNatClampNeg v2)) - (s.1 18 (Int32.toNatClampNeg v1))))), (6, .long (Int32.toInt64 ((s.1 19 (Int32.toNatClampNeg v2)) - (s.1 19 (Int32.toNatClampNeg v1))))), (8, .long (Int32.toInt64 ((s.1 18 (Int32.toNatClampNeg v3)) - (s.1 18 (Int32.toNatClampNeg v1)))))]) d71_46 rfl rfl ?_
  refine R_p d71_48 rfl rfl ?_
  refine R_get d71_49 (Or.inl (List.mem_of_getElem? (i := 4) rfl)) (hg17 _ _) rfl ?_
  refine R_p d71_52 rfl rfl ?_
  obtain ⟨c7, h⟩ := rdI_some h
  refine R_ild d71_53 (hg19 _ _) c7 ?_
  refine R_p d71_54 rfl rfl ?_
  refine R_get d71_55 (Or.inl (List.mem_of_getElem? (i := 4) rfl)) (hg17 _ _) rfl ?_
  refine R_p d71_58 rfl rfl ?_
  obtain ⟨c8, h⟩ := rdI_some h
  refine R_ild d71_59 (hg19 _ _) c8 ?_
  refine R_p d71_60 rfl rfl ?_
  refine R_p d71_61 rfl rfl ?_
  refine R_p (ls' := [(0, .ref 17), (1, .int v1), (2, .int v2), (3, .int v3), (4, .long (Int32.toInt64 ((s.1 18 (Int32.toNatClampNeg v2)) - (s.1 18 (Int32.toNatClampNeg v1))))), (6, .long (Int32.toInt64 ((s.1 19 (Int32.toNatClampNeg v2)) - (s.1 19 (Int32.toNatClampNeg v1))))), (8, .long (Int32.toInt64 ((s.1 18 (Int32.toNatClampNeg v3)) - (s.1 18 (Int32.toNatClampNeg v1))))), (10, .long (Int32.toInt64 ((s.1 19 (Int32.toNatClampNeg v3)) - (s.1 19 (Int32.toNatClampNeg v1)))))]) d71_62 rfl rfl ?_
  refine R_p d71_64 rfl rfl ?_
  refine R_p d71_66 rfl rfl ?_
  refine R_p d71_68 rfl rfl ?_
  refine R_p d71_69 rfl rfl ?_
  refine R_p d71_71 rfl rfl ?_
  refine R_p d71_73 rfl rfl ?_
  refine R_p d71_74 rfl rfl ?_
  cases h
  exact R_lret d71_75 rfl rfl
def f98 (v0 : Int64) (s : mS) : Option (Int32) :=
  (if (v0 ≤ (0 : Int64)) then
    (if ((0 : Int64) ≤ v0) then
      some (0 : Int32)
    else
      some (-1 : Int32))
  else
    some (1 : Int32))
theorem t_f98 {S : mE} {ex : mHp} {v0 : Int64} {s : mS} {r : Int32} (h : f98 v0 s = some r) : Run S 98 (0, [(0, .long v0)], [], hp s ex) (.inl (some (.int r)), hp s ex) := by
  unfold f98 at h
  refine R_p d98_0 rfl rfl ?_
  refine R_lc (v := 0) d98_1 (by decide) ?_
  refine R_p d98_2 rfl rfl ?_
  rcases ite_some h with ⟨c1, h⟩ | ⟨c1, h⟩
  · refine R_br 10 d98_3 (mb_t (b := ((lg_cmp v0 0) ≤ (0 : Int32))) (lgc_le.mpr c1)) rfl ?_
    refine R_p d98_10 rfl rfl ?_
    refine R_lc (v := 0) d98_11 (by decide) ?_
    refine R_p d98_12 rfl rfl ?_
    rcases ite_some h with ⟨c2, h⟩ | ⟨c2, h⟩
    · refine R_br 20 d98_13 (mb_t (b := ((0 : Int32) ≤ (lg_cmp v0 0))) (lgc_ge.mpr c2)) rfl ?_
      refine R_ic (v := 0) d98_20 (by decide) ?_
      cases h
      exact R_iret d98_21 rfl rfl rfl
    · refine R_nb d98_13 rfl (mb_f (b := ((0 : Int32) ≤ (lg_cmp v0 0))) (fun q => c2 (lgc_ge.mp q))) ?_
      refine R_ic (v := (-1)) d98_16 (by decide) ?_
      refine R_br 21 d98_17 rfl rfl ?_
      cases h
      exact R_iret d98_21 rfl rfl rfl
  · refine R_nb d98_3 rfl (mb_f (b := ((lg_cmp v0 0) ≤ (0 : Int32))) (fun q => c1 (lgc_le.mp q))) ?_
    refine R_ic (v := 1) d98_6 (by decide) ?_
    refine R_br 21 d98_7 rfl rfl ?_
    cases h
    exact R_iret d98_21 rfl rfl rfl
def f73 (v1 : Int32) (v2 : Int32) (v3 : Int32) (s : mS) : Option (Int32) :=
  (f71 v1 v2 v3 s).bind fun q1 => (f98 q1 s).bind fun q3 => some q3
theorem t_f73 {S : mE} {ex : mHp} {v1 : Int32} {v2 : Int32} {v3 : Int32} {s : mS} {r : Int32} (h : f73 v1 v2 v3 s = some r) : Run S 73 (0, [(0, .ref 17), (1, .int v1), (2, .int v2), (3, .int v3)], [], hp s ex) (.inl (some (.int r)), hp s ex) := by
  unfold f73 at h
  refine R_p d73_0 rfl rfl ?_
  refine R_p d73_1 rfl rfl ?_
  refine R_p d73_2 rfl rfl ?_
  refine R_p d73_3 rfl rfl ?_
  obtain ⟨q1, e2, h⟩ := bd_some h
  refine R_cm [.int v1, .int v2, .int v3] d73_4 (List.mem_of_getElem? (i := 37) rfl) rfl ⟨by decide, by decide, Nat.le_of_ble_eq_true rfl, rfl, mcd71⟩ rfl rfl (Nat.le_of_ble_eq_true rfl) (hg17 _ _) rfl (t_f71 e2) ?_
  obtain ⟨q3, e4, h⟩ := bd_some h
  refine R_cs [.long q1] d73_7 (List.mem_of_getElem? (i := 45) rfl) rfl ⟨by decide, by decide, Nat.le_of_ble_eq_true rfl, rfl, mcd98⟩ rfl rfl (Nat.le_of_ble_eq_true rfl) (t_f98 e4) ?_
  cases h
  exact R_iret d73_10 rfl rfl rfl
def f76 (v1 : Int32) (v2 : Int32) (s : mS) : Option (Int64) :=
  rdI 42 v2 (rdI 42 v1 (rdI 42 v2 (rdI 42 v1 (some (((Int32.toInt64 ((s.1 18 (Int32.toNatClampNeg v2)) - (s.1 18 (Int32.toNatClampNeg v1)))) * (Int32.toInt64 ((s.1 18 (Int32.toNatClampNeg v2)) - (s.1 18 (Int32.toNatClampNeg v1))))) + ((Int32.toInt64 ((s.1 19 (Int32.toNatClampNeg v2)) - (s.1 19 (Int32.toNatClampNeg v1)))) * (Int32.toInt64 ((s.1 19 (Int32.toNatClampNeg v2)) - (s.1 19 (Int32.toNatClampNeg v1))))))))))
theorem t_f76 {S : mE} {ex : mHp} {v1 : Int32} {v2 : Int32} {s : mS} {r : Int64} (h : f76 v1 v2 s = some r) : Run S 76 (0, [(0, .ref 17), (1, .int v1), (2, .int v2)], [], hp s ex) (.inl (some (.long r)), hp s ex) := by
  unfold f76 at h
  refine R_p d76_0 rfl rfl ?_
  refine R_get d76_1 (Or.inl (List.mem_of_getElem? (i := 3) rfl)) (hg17 _ _) rfl ?_
  refine R_p d76_4 rfl rfl ?_
  obtain ⟨c1, h⟩ := rdI_some h
  refine R_ild d76_5 (hg18 _ _) c1 ?_
  refine R_p d76_6 rfl rfl ?_
  refine R_get d76_7 (Or.inl (List.mem_of_getElem? (i := 3) rfl)) (hg17 _ _) rfl ?_
  refine R_p d76_10 rfl rfl ?_
  obtain ⟨c2, h⟩ := rdI_some h
  refine R_ild d76_11 (hg18 _ _) c2 ?_
  refine R_p d76_12 rfl rfl ?_
  refine R_p d76_13 rfl rfl ?_
  refine R_p (ls' := [(0, .ref 17), (1, .int v1), (2, .int v2), (3, .long (Int32.toInt64 ((s.1 18 (Int32.toNatClampNeg v2)) - (s.1 18 (Int32.toNatClampNeg v1)))))]) d76_14 rfl rfl ?_
  refine R_p d76_15 rfl rfl ?_
  refine R_get d76_16 (Or.inl (List.mem_of_getElem? (i := 4) rfl)) (hg17 _ _) rfl ?_
  refine R_p d76_19 rfl rfl ?_
  obtain ⟨c3, h⟩ := rdI_some h
  refine R_ild d76_20 (hg19 _ _) c3 ?_
  refine R_p d76_21 rfl rfl ?_
  refine R_get d76_22 (Or.inl (List.mem_of_getElem? (i := 4) rfl)) (hg17 _ _) rfl ?_
  refine R_p d76_25 rfl rfl ?_
  obtain ⟨c4, h⟩ := rdI_some h
  refine R_ild d76_26 (hg19 _ _) c4 ?_
  refine R_p d76_27 rfl rfl ?_
  refine R_p d76_28 rfl rfl ?_
  refine R_p (ls' := [(0, .ref 17), (1, .int v1), (2, .int v2), (3, .long (Int32.toInt64 ((s.1 18 (Int32.toNatClampNeg v2)) - (s.1 18 (Int32.toNatClampNeg v1))))), (5, .long (Int32.toInt64 ((s.1 19 (Int32.toNatClampNeg v2)) - (s.1 19 (Int32.toNatClampNeg v1)))))]) d76_29 rfl rfl ?_
  refine R_p d76_31 rfl rfl ?_
  refine R_p d76_32 rfl rfl ?_
  refine R_p d76_33 rfl rfl ?_
  refine R_p d76_34 rfl rfl ?_
  refine R_p d76_36 rfl rfl ?_
  refine R_p d76_38 rfl rfl ?_
  refine R_p d76_39 rfl rfl ?_
  cases h
  exact R_lret d76_40 rfl rfl
def f88  (s : mS) : Option (mS) :=
  pt (uG 0 (0 : Int64) s) fun s1 => pt (uG 1 (0 : Int64) s1) fun s3 => pt (uG 2 (0 : Int64) s3) fun s5 => some s5
theorem t_f88 {S : mE} {ex : mHp}  {s : mS} {r : mS} (h : f88 s = some r) : Run S 88 (0, [(0, .ref 20)], [], hp s ex) (.inl none, hp r ex) := by
  unfold f88 at h
  refine R_p d88_0 rfl rfl ?_
  refine R_lc (v := 0) d88_1 (by decide) ?_
  obtain ⟨s1, e2, h⟩ := pt_some h
  refine R_put d88_2 (List.mem_of_getElem? (i := 0) rfl) (hg20 _ _) (Nat.le_of_ble_eq_true rfl) rfl rfl (Or.inl rfl) ?_
  refine R_h (hp s1 ex) (by rw [e2]; exact hG0 _ _ _) ?_
  refine R_p d88_5 rfl rfl ?_
  refine R_lc (v := 0) d88_6 (by decide) ?_
  obtain ⟨s3, e4, h⟩ := pt_some h
  refine R_put d88_7 (List.mem_of_getElem? (i := 1) rfl) (hg20 _ _) (Nat.le_of_ble_eq_true rfl) rfl rfl (Or.inl rfl) ?_
  refine R_h (hp s3 ex) (by rw [e4]; exact hG1 _ _ _) ?_
  refine R_p d88_10 rfl rfl ?_
  refine R_lc (v := 0) d88_11 (by decide) ?_
  obtain ⟨s5, e6, h⟩ := pt_some h
  refine R_put d88_12 (List.mem_of_getElem? (i := 2) rfl) (hg20 _ _) (Nat.le_of_ble_eq_true rfl) rfl rfl (Or.inl rfl) ?_
  refine R_h (hp s5 ex) (by rw [e6]; exact hG2 _ _ _) ?_
  cases h
  exact R_vret d88_15 rfl rfl
def f89 (v1 : Int64) (v3 : Int64) (s : mS) : Option (mS) :=
  pt (uG 0 ((s.2.2.2 0) + (((v1 >>> (Int32.toInt64 31 &&& 63)) * (v3 >>> (Int32.toInt64 31 &&& 63))) + (((((v1 >>> (Int32.toInt64 31 &&& 63)) * (v3 &&& (2147483647 : Int64))) + ((v1 &&& (2147483647 : Int64)) * (v3 >>> (Int32.toInt64 31 &&& 63)))) + (((v1 &&& (2147483647 : Int64)) * (v3 &&& (2147483647 : Int64))) >>> (Int32.toInt64 31 &&& 63))) >>> (Int32.toInt64 31 &&& 63)))) s) fun s1 => pt (uG 1 ((s1.2.2.2 1) + (((((v1 >>> (Int32.toInt64 31 &&& 63)) * (v3 &&& (2147483647 : Int64))) + ((v1 &&& (2147483647 : Int64)) * (v3 >>> (Int32.toInt64 31 &&& 63)))) + (((v1 &&& (2147483647 : Int64)) * (v3 &&& (2147483647 : Int64))) >>> (Int32.toInt64 31 &&& 63))) &&& (2147483647 : Int64))) s1) fun s3 => pt (uG 2 ((s3.2.2.2 2) + (((v1 &&& (2147483647 : Int64)) * (v3 &&& (2147483647 : Int64))) &&& (2147483647 : Int64))) s3) fun s5 => some s5
theorem t_f89 {S : mE} {ex : mHp} {v1 : Int64} {v3 : Int64} {s : mS} {r : mS} (h : f89 v1 v3 s = some r) : Run S 89 (0, [(0, .ref 20), (1, .long v1), (3, .long v3)], [], hp s ex) (.inl none, hp r ex) := by
  unfold f89 at h
  refine R_p d89_0 rfl rfl ?_
  refine R_bi (v := 31) d89_1 (by decide) ?_
  refine R_p d89_3 rfl rfl ?_
  refine R_p (ls' := [(0, .ref 20), (1, .long v1), (3, .long v3), (5, .long (v1 >>> (Int32.toInt64 31 &&& 63)))]) d89_4 rfl rfl ?_
  refine R_p d89_6 rfl rfl ?_
  refine R_cl (v := 2147483647) 602 d89_7 (List.mem_of_getElem? (i := 1) rfl) ?_
  refine R_p d89_10 rfl rfl ?_
  refine R_p (ls' := [(0, .ref 20), (1, .long v1), (3, .long v3), (5, .long (v1 >>> (Int32.toInt64 31 &&& 63))), (7, .long (v1 &&& (2147483647 : Int64)))]) d89_11 rfl rfl ?_
  refine R_p d89_13 rfl rfl ?_
  refine R_bi (v := 31) d89_14 (by decide) ?_
  refine R_p d89_16 rfl rfl ?_
  refine R_p (ls' := [(0, .ref 20), (1, .long v1), (3, .long v3), (5, .long (v1 >>> (Int32.toInt64 31 &&& 63))), (7, .long (v1 &&& (2147483647 : Int64))), (9, .long (v3 >>> (Int32.toInt64 31 &&& 63)))]) d89_17 rfl rfl ?_
  refine R_p d89_19 rfl rfl ?_
  refine R_cl (v := 2147483647) 602 d89_20 (List.mem_of_getElem? (i := 1) rfl) ?_
  refine R_p d89_23 rfl rfl ?_
  refine R_p (ls' := [(0, .ref 20), (1, .long v1), (3, .long v3), (5, .long (v1 >>> (Int32.toInt64 31 &&& 63))), (7, .long (v1 &&& (2147483647 : Int64))), (9, .long (v3 >>> (Int32.toInt64 31 &&& 63))), (11, .long (v3 &&& (2147483647 : Int64)))]) d89_24 rfl rfl ?_
  refine R_p d89_26 rfl rfl ?_
  refine R_p d89_28 rfl rfl ?_
  refine R_p d89_30 rfl rfl ?_
  refine R_p (ls' := [(0, .ref 20), (1, .long v1), (3, .long v3), (5, .long (v1 >>> (Int32.toInt64 31 &&& 63))), (7, .long (v1 &&& (2147483647 : Int64))), (9, .long (v3 >>> (Int32.toInt64 31 &&& 63))), (11, .long (v3 &&& (2147483647 : Int64))), (13, .long ((v1 &&& (2147483647 : Int64)) * (v3 &&& (2147483647 : Int64))))]) d89_31 rfl rfl ?_
  refine R_p d89_33 rfl rfl ?_
  refine R_p d89_35 rfl rfl ?_
  refine R_p d89_37 rfl rfl ?_
  refine R_p d89_38 rfl rfl ?_
  refine R_p d89_40 rfl rfl ?_
  refine R_p d89_42 rfl rfl ?_
  refine R_p d89_43 rfl rfl ?_
  refine R_p d89_44 rfl rfl ?_
  refine R_bi (v := 31) d89_46 (by decide) ?_
  refine R_p d89_48 rfl rfl ?_
  refine R_p d89_49 rfl rfl ?_
  refine R_p (ls' := [(0, .ref 20), (1, .long v1), (3, .long v3), (5, .long (v1 >>> (Int32.toInt64 31 &&& 63))), (7, .long (v1 &&& (2147483647 : Int64))), (9, .long (v3 >>> (Int32.toInt64 31 &&& 63))), (11, .long (v3 &&& (2147483647 : Int64))), (13, .long ((v1 &&& (2147483647 : Int64)) * (v3 &&& (2147483647 : Int64)))), (15, .long ((((v1 >>> (Int32.toInt64 31 &&& 63)) * (v3 &&& (2147483647 : Int64))) + ((v1 &&& (2147483647 : Int64)) * (v3 >>> (Int32.toInt64 31 &&& 63)))) + (((v1 &&& (2147483647 : Int64)) * (v3 &&& (2147483647 : Int64))) >>> (Int32.toInt64 31 &&& 63))))]) d89_50 rfl rfl ?_
  refine R_p d89_52 rfl rfl ?_
  refine R_p d89_53 rfl rfl ?_
  refine R_get d89_54 (Or.inl (List.mem_of_getElem? (i := 0) rfl)) (hg20 _ _) rfl ?_
  refine R_p d89_57 rfl rfl ?_
  refine R_p d89_59 rfl rfl ?_
  refine R_p d89_61 rfl rfl ?_
  refine R_p d89_62 rfl rfl ?_
  refine R_bi (v := 31) d89_64 (by decide) ?_
  refine R_p d89_66 rfl rfl ?_
  refine R_p d89_67 rfl rfl ?_
  refine R_p d89_68 rfl rfl ?_
  obtain ⟨s1, e2, h⟩ := pt_some h
  refine R_put d89_69 (List.mem_of_getElem? (i := 0) rfl) (hg20 _ _) (Nat.le_of_ble_eq_true rfl) rfl rfl (Or.inl rfl) ?_
  refine R_h (hp s1 ex) (by rw [e2]; exact hG0 _ _ _) ?_
  refine R_p d89_72 rfl rfl ?_
  refine R_p d89_73 rfl rfl ?_
  refine R_get d89_74 (Or.inl (List.mem_of_getElem? (i := 1) rfl)) (hg20 _ _) rfl ?_
  refine R_p d89_77 rfl rfl ?_
  refine R_cl (v := 2147483647) 602 d89_79 (List.mem_of_getElem? (i := 1) rfl) ?_
  refine R_p d89_82 rfl rfl ?_
  refine R_p d89_83 rfl rfl ?_
  obtain ⟨s3, e4, h⟩ := pt_some h
  refine R_put d89_84 (List.mem_of_getElem? (i := 1) rfl) (hg20 _ _) (Nat.le_of_ble_eq_true rfl) rfl rfl (Or.inl rfl) ?_
  refine R_h (hp s3 ex) (by rw [e4]; exact hG1 _ _ _) ?_
  refine R_p d89_87 rfl rfl ?_
  refine R_p d89_88 rfl rfl ?_
  refine R_get d89_89 (Or.inl (List.mem_of_getElem? (i := 2) rfl)) (hg20 _ _) rfl ?_
  refine R_p d89_92 rfl rfl ?_
  refine R_cl (v := 2147483647) 602 d89_94 (List.mem_of_getElem? (i := 1) rfl) ?_
  refine R_p d89_97 rfl rfl ?_
  refine R_p d89_98 rfl rfl ?_
  obtain ⟨s5, e6, h⟩ := pt_some h
  refine R_put d89_99 (List.mem_of_getElem? (i := 2) rfl) (hg20 _ _) (Nat.le_of_ble_eq_true rfl) rfl rfl (Or.inl rfl) ?_
  refine R_h (hp s5 ex) (by rw [e6]; exact hG2 _ _ _) ?_
  cases h
  exact R_vret d89_102 rfl rfl
def f90  (s : mS) : Option (Int32) :=
  (if (((s.2.2.2 0) + (((s.2.2.2 1) + ((s.2.2.2 2) >>> (Int32.toInt64 31 &&& 63))) >>> (Int32.toInt64 31 &&& 63))) = (0 : Int64)) then
    (f98 ((((s.2.2.2 1) + ((s.2.2.2 2) >>> (Int32.toInt64 31 &&& 63))) &&& (2147483647 : Int64)) ||| ((s.2.2.2 2) &&& (2147483647 : Int64))) s).bind fun q2 => some q2
  else
    (f98 ((s.2.2.2 0) + (((s.2.2.2 1) + ((s.2.2.2 2) >>> (Int32.toInt64 31 &&& 63))) >>> (Int32.toInt64 31 &&& 63))) s).bind fun q4 => some q4)
theorem t_f90 {S : mE} {ex : mHp}  {s : mS} {r : Int32} (h : f90 s = some r) : Run S 90 (0, [(0, .ref 20)], [], hp s ex) (.inl (some (.int r)), hp s ex) := by
  unfold f90 at h
  refine R_p d90_0 rfl rfl ?_
  refine R_get d90_1 (Or.inl (List.mem_of_getElem? (i := 1) rfl)) (hg20 _ _) rfl ?_
  refine R_p d90_4 rfl rfl ?_
  refine R_get d90_5 (Or.inl (List.mem_of_getElem? (i := 2) rfl)) (hg20 _ _) rfl ?_
  refine R_bi (v := 31) d90_8 (by decide) ?_
  refine R_p d90_10 rfl rfl ?_
  refine R_p d90_11 rfl rfl ?_
  refine R_p (ls' := [(0, .ref 20), (1, .long ((s.2.2.2 1) + ((s.2.2.2 2) >>> (Int32.toInt64 31 &&& 63))))]) d90_12 rfl rfl ?_
  refine R_p d90_13 rfl rfl ?_
  refine R_get d90_14 (Or.inl (List.mem_of_getElem? (i := 0) rfl)) (hg20 _ _) rfl ?_
  refine R_p d90_17 rfl rfl ?_
  refine R_bi (v := 31) d90_18 (by decide) ?_
  refine R_p d90_20 rfl rfl ?_
  refine R_p d90_21 rfl rfl ?_
  refine R_p (ls' := [(0, .ref 20), (1, .long ((s.2.2.2 1) + ((s.2.2.2 2) >>> (Int32.toInt64 31 &&& 63)))), (3, .long ((s.2.2.2 0) + (((s.2.2.2 1) + ((s.2.2.2 2) >>> (Int32.toInt64 31 &&& 63))) >>> (Int32.toInt64 31 &&& 63))))]) d90_22 rfl rfl ?_
  refine R_p d90_23 rfl rfl ?_
  refine R_lc (v := 0) d90_24 (by decide) ?_
  refine R_p d90_25 rfl rfl ?_
  rcases ite_some h with ⟨c1, h⟩ | ⟨c1, h⟩
  · refine R_br 34 d90_26 (mb_t (b := ((lg_cmp ((s.2.2.2 0) + (((s.2.2.2 1) + ((s.2.2.2 2) >>> (Int32.toInt64 31 &&& 63))) >>> (Int32.toInt64 31 &&& 63))) 0) = (0 : Int32))) (lgc_eq.mpr c1)) rfl ?_
    refine R_p d90_34 rfl rfl ?_
    refine R_cl (v := 2147483647) 602 d90_35 (List.mem_of_getElem? (i := 1) rfl) ?_
    refine R_p d90_38 rfl rfl ?_
    refine R_p d90_39 rfl rfl ?_
    refine R_get d90_40 (Or.inl (List.mem_of_getElem? (i := 2) rfl)) (hg20 _ _) rfl ?_
    refine R_cl (v := 2147483647) 602 d90_43 (List.mem_of_getElem? (i := 1) rfl) ?_
    refine R_p d90_46 rfl rfl ?_
    refine R_p d90_47 rfl rfl ?_
    obtain ⟨q2, e3, h⟩ := bd_some h
    refine R_cs [.long ((((s.2.2.2 1) + ((s.2.2.2 2) >>> (Int32.toInt64 31 &&& 63))) &&& (2147483647 : Int64)) ||| ((s.2.2.2 2) &&& (2147483647 : Int64)))] d90_48 (List.mem_of_getElem? (i := 76) rfl) rfl ⟨by decide, by decide, Nat.le_of_ble_eq_true rfl, rfl, mcd98⟩ rfl rfl (Nat.le_of_ble_eq_true rfl) (t_f98 e3) ?_
    cases h
    exact R_iret d90_51 rfl rfl rfl
  · refine R_nb d90_26 rfl (mb_f (b := ((lg_cmp ((s.2.2.2 0) + (((s.2.2.2 1) + ((s.2.2.2 2) >>> (Int32.toInt64 31 &&& 63))) >>> (Int32.toInt64 31 &&& 63))) 0) = (0 : Int32))) (fun q => c1 (lgc_eq.mp q))) ?_
    refine R_p d90_29 rfl rfl ?_
    obtain ⟨q4, e5, h⟩ := bd_some h
    refine R_cs [.long ((s.2.2.2 0) + (((s.2.2.2 1) + ((s.2.2.2 2) >>> (Int32.toInt64 31 &&& 63))) >>> (Int32.toInt64 31 &&& 63)))] d90_30 (List.mem_of_getElem? (i := 76) rfl) rfl ⟨by decide, by decide, Nat.le_of_ble_eq_true rfl, rfl, mcd98⟩ rfl rfl (Nat.le_of_ble_eq_true rfl) (t_f98 e5) ?_
    cases h
    exact R_iret d90_33 rfl rfl rfl
def f75 (v1 : Int32) (v2 : Int32) (v3 : Int32) (v4 : Int32) (s : mS) : Option (Int32 × mS) :=
  (f88 s).bind fun q1 => (f76 v4 v1 q1).bind fun q3 => (f71 v4 v2 v3 q1).bind fun q5 => (f89 q3 q5 q1).bind fun q7 => (f76 v4 v2 q7).bind fun q9 => (f71 v4 v3 v1 q7).bind fun q11 => (f89 q9 q11 q7).bind fun q13 => (f76 v4 v3 q13).bind fun q15 => (f71 v4 v1 v2 q13).bind fun q17 => (f89 q15 q17 q13).bind fun q19 => (f90 q19).bind fun q21 => some (q21, q19)
theorem t_f75 {S : mE} {ex : mHp} {v1 : Int32} {v2 : Int32} {v3 : Int32} {v4 : Int32} {s : mS} {r : Int32 × mS} (h : f75 v1 v2 v3 v4 s = some r) : Run S 75 (0, [(0, .ref 17), (1, .int v1), (2, .int v2), (3, .int v3), (4, .int v4)], [], hp s ex) (.inl (some (.int r.1)), hp r.2 ex) := by
  unfold f75 at h
  refine R_p d75_0 rfl rfl ?_
  refine R_get d75_1 (Or.inl (List.mem_of_getElem? (i := 5) rfl)) (hg17 _ _) rfl ?_
  obtain ⟨q1, e2, h⟩ := bd_some h
  refine R_cm [] d75_4 (List.mem_of_getElem? (i := 72) rfl) rfl ⟨by decide, by decide, Nat.le_of_ble_eq_true rfl, rfl, mcd88⟩ rfl rfl (Nat.le_of_ble_eq_true rfl) (hg20 _ _) rfl (t_f88 e2) ?_
  refine R_p d75_7 rfl rfl ?_
  refine R_get d75_8 (Or.inl (List.mem_of_getElem? (i := 5) rfl)) (hg17 _ _) rfl ?_
  refine R_p d75_11 rfl rfl ?_
  refine R_p d75_12 rfl rfl ?_
  refine R_p d75_14 rfl rfl ?_
  obtain ⟨q3, e4, h⟩ := bd_some h
  refine R_cm [.int v4, .int v1] d75_15 (List.mem_of_getElem? (i := 73) rfl) rfl ⟨by decide, by decide, Nat.le_of_ble_eq_true rfl, rfl, mcd76⟩ rfl rfl (Nat.le_of_ble_eq_true rfl) (hg17 _ _) rfl (t_f76 e4) ?_
  refine R_p d75_18 rfl rfl ?_
  refine R_p d75_19 rfl rfl ?_
  refine R_p d75_21 rfl rfl ?_
  refine R_p d75_22 rfl rfl ?_
  obtain ⟨q5, e6, h⟩ := bd_some h
  refine R_cm [.int v4, .int v2, .int v3] d75_23 (List.mem_of_getElem? (i := 37) rfl) rfl ⟨by decide, by decide, Nat.le_of_ble_eq_true rfl, rfl, mcd71⟩ rfl rfl (Nat.le_of_ble_eq_true rfl) (hg17 _ _) rfl (t_f71 e6) ?_
  obtain ⟨q7, e8, h⟩ := bd_some h
  refine R_cm [.long q3, .long q5] d75_26 (List.mem_of_getElem? (i := 74) rfl) rfl ⟨by decide, by decide, Nat.le_of_ble_eq_true rfl, rfl, mcd89⟩ rfl rfl (Nat.le_of_ble_eq_true rfl) (hg20 _ _) rfl (t_f89 e8) ?_
  refine R_p d75_29 rfl rfl ?_
  refine R_get d75_30 (Or.inl (List.mem_of_getElem? (i := 5) rfl)) (hg17 _ _) rfl ?_
  refine R_p d75_33 rfl rfl ?_
  refine R_p d75_34 rfl rfl ?_
  refine R_p d75_36 rfl rfl ?_
  obtain ⟨q9, e10, h⟩ := bd_some h
  refine R_cm [.int v4, .int v2] d75_37 (List.mem_of_getElem? (i := 73) rfl) rfl ⟨by decide, by decide, Nat.le_of_ble_eq_true rfl, rfl, mcd76⟩ rfl rfl (Nat.le_of_ble_eq_true rfl) (hg17 _ _) rfl (t_f76 e10) ?_
  refine R_p d75_40 rfl rfl ?_
  refine R_p d75_41 rfl rfl ?_
  refine R_p d75_43 rfl rfl ?_
  refine R_p d75_44 rfl rfl ?_
  obtain ⟨q11, e12, h⟩ := bd_some h
  refine R_cm [.int v4, .int v3, .int v1] d75_45 (List.mem_of_getElem? (i := 37) rfl) rfl ⟨by decide, by decide, Nat.le_of_ble_eq_true rfl, rfl, mcd71⟩ rfl rfl (Nat.le_of_ble_eq_true rfl) (hg17 _ _) rfl (t_f71 e12) ?_
  obtain ⟨q13, e14, h⟩ := bd_some h
  refine R_cm [.long q9, .long q11] d75_48 (List.mem_of_getElem? (i := 74) rfl) rfl ⟨by decide, by decide, Nat.le_of_ble_eq_true rfl, rfl, mcd89⟩ rfl rfl (Nat.le_of_ble_eq_true rfl) (hg20 _ _) rfl (t_f89 e14) ?_
  refine R_p d75_51 rfl rfl ?_
  refine R_get d75_52 (Or.inl (List.mem_of_getElem? (i := 5) rfl)) (hg17 _ _) rfl ?_
  refine R_p d75_55 rfl rfl ?_
  refine R_p d75_56 rfl rfl ?_
  refine R_p d75_58 rfl rfl ?_
  obtain ⟨q15, e16, h⟩ := bd_some h
  refine R_cm [.int v4, .int v3] d75_59 (List.mem_of_getElem? (i := 73) rfl) rfl ⟨by decide, by decide, Nat.le_of_ble_eq_true rfl, rfl, mcd76⟩ rfl rfl (Nat.le_of_ble_eq_true rfl) (hg17 _ _) rfl (t_f76 e16) ?_
  refine R_p d75_62 rfl rfl ?_
  refine R_p d75_63 rfl rfl ?_
  refine R_p d75_65 rfl rfl ?_
  refine R_p d75_66 rfl rfl ?_
  obtain ⟨q17, e18, h⟩ := bd_some h
  refine R_cm [.int v4, .int v1, .int v2] d75_67 (List.mem_of_getElem? (i := 37) rfl) rfl ⟨by decide, by decide, Nat.le_of_ble_eq_true rfl, rfl, mcd71⟩ rfl rfl (Nat.le_of_ble_eq_true rfl) (hg17 _ _) rfl (t_f71 e18) ?_
  obtain ⟨q19, e20, h⟩ := bd_some h
  refine R_cm [.long q15, .long q17] d75_70 (List.mem_of_getElem? (i := 74) rfl) rfl ⟨by decide, by decide, Nat.le_of_ble_eq_true rfl, rfl, mcd89⟩ rfl rfl (Nat.le_of_ble_eq_true rfl) (hg20 _ _) rfl (t_f89 e20) ?_
  refine R_p d75_73 rfl rfl ?_
  refine R_get d75_74 (Or.inl (List.mem_of_getElem? (i := 5) rfl)) (hg17 _ _) rfl ?_
  obtain ⟨q21, e22, h⟩ := bd_some h
  refine R_cm [] d75_77 (List.mem_of_getElem? (i := 75) rfl) rfl ⟨by decide, by decide, Nat.le_of_ble_eq_true rfl, rfl, mcd90⟩ rfl rfl (Nat.le_of_ble_eq_true rfl) (hg20 _ _) rfl (t_f90 e22) ?_
  cases h
  exact R_iret d75_80 rfl rfl rfl
def f169 (v0 : Int32) (v1 : Int32) (s : mS) : Option (Int32) :=
  (if (v1 < v0) then
    some v1
  else
    some v0)
theorem t_f169 {S : mE} {ex : mHp} {v0 : Int32} {v1 : Int32} {s : mS} {r : Int32} (h : f169 v0 v1 s = some r) : Run S 169 (0, [(0, .int v0), (1, .int v1)], [], hp s ex) (.inl (some (.int r)), hp s ex) := by
  unfold f169 at h
  refine R_p d169_0 rfl rfl ?_
  refine R_p d169_1 rfl rfl ?_
  rcases ite_some h with ⟨c1, h⟩ | ⟨c1, h⟩
  · refine R_br 9 d169_2 (mb_t (b := (v1 < v0)) c1) rfl ?_
    refine R_p d169_9 rfl rfl ?_
    cases h
    exact R_iret d169_10 rfl rfl rfl
  · refine R_nb d169_2 rfl (mb_f (b := (v1 < v0)) c1) ?_
    refine R_p d169_5 rfl rfl ?_
    refine R_br 10 d169_6 rfl rfl ?_
    cases h
    exact R_iret d169_10 rfl rfl rfl
def f170 (v0 : Int32) (v1 : Int32) (s : mS) : Option (Int32) :=
  (if (v0 < v1) then
    some v1
  else
    some v0)
theorem t_f170 {S : mE} {ex : mHp} {v0 : Int32} {v1 : Int32} {s : mS} {r : Int32} (h : f170 v0 v1 s = some r) : Run S 170 (0, [(0, .int v0), (1, .int v1)], [], hp s ex) (.inl (some (.int r)), hp s ex) := by
  unfold f170 at h
  refine R_p d170_0 rfl rfl ?_
  refine R_p d170_1 rfl rfl ?_
  rcases ite_some h with ⟨c1, h⟩ | ⟨c1, h⟩
  · refine R_br 9 d170_2 (mb_t (b := (v0 < v1)) c1) rfl ?_
    refine R_p d170_9 rfl rfl ?_
    cases h
    exact R_iret d170_10 rfl rfl rfl
  · refine R_nb d170_2 rfl (mb_f (b := (v0 < v1)) c1) ?_
    refine R_p d170_5 rfl rfl ?_
    refine R_br 10 d170_6 rfl rfl ?_
    cases h
    exact R_iret d170_10 rfl rfl rfl
def f70 (v1 : Int32) (v2 : Int32) (v3 : Int32) (s : mS) : Option (Int32) :=
  (f71 v1 v2 v3 s).bind fun q1 => (if (¬ q1 = (0 : Int64)) then
    some (0 : Int32)
  else
    rdI 42 v1 (rdI 42 v2 ((f169 (s.1 18 (Int32.toNatClampNeg v1)) (s.1 18 (Int32.toNatClampNeg v2)) s).bind fun q6 => rdI 42 v3 ((if ((s.1 18 (Int32.toNatClampNeg v3)) < q6) then
      some (0 : Int32)
    else
      rdI 42 v3 (rdI 42 v1 (rdI 42 v2 ((f170 (s.1 18 (Int32.toNatClampNeg v1)) (s.1 18 (Int32.toNatClampNeg v2)) s).bind fun q13 => (if (q13 < (s.1 18 (Int32.toNatClampNeg v3))) then
        some (0 : Int32)
      else
        rdI 42 v1 (rdI 42 v2 ((f169 (s.1 19 (Int32.toNatClampNeg v1)) (s.1 19 (Int32.toNatClampNeg v2)) s).bind fun q18 => rdI 42 v3 ((if ((s.1 19 (Int32.toNatClampNeg v3)) < q18) then
          some (0 : Int32)
        else
          rdI 42 v3 (rdI 42 v1 (rdI 42 v2 ((f170 (s.1 19 (Int32.toNatClampNeg v1)) (s.1 19 (Int32.toNatClampNeg v2)) s).bind fun q25 => (if (q25 < (s.1 19 (Int32.toNatClampNeg v3))) then
            some (0 : Int32)
          else
            some (1 : Int32))))))))))))))))))
theorem t_f70 {S : mE} {ex : mHp} {v1 : Int32} {v2 : Int32} {v3 : Int32} {s : mS} {r : Int32} (h : f70 v1 v2 v3 s = some r) : Run S 70 (0, [(0, .ref 17), (1, .int v1), (2, .int v2), (3, .int v3)], [], hp s ex) (.inl (some (.int r)), hp s ex) := by
  unfold f70 at h
  refine R_p d70_0 rfl rfl ?_
  refine R_p d70_1 rfl rfl ?_
  refine R_p d70_2 rfl rfl ?_
  refine R_p d70_3 rfl rfl ?_
  obtain ⟨q1, e2, h⟩ := bd_some h
  refine R_cm [.int v1, .int v2, .int v3] d70_4 (List.mem_of_getElem? (i := 37) rfl) rfl ⟨by decide, by decide, Nat.le_of_ble_eq_true rfl, rfl, mcd71⟩ rfl rfl (Nat.le_of_ble_eq_true rfl) (hg17 _ _) rfl (t_f71 e2) ?_
  refine R_lc (v := 0) d70_7 (by decide) ?_
  refine R_p d70_8 rfl rfl ?_
  rcases ite_some h with ⟨c3, h⟩ | ⟨c3, h⟩
  · refine R_br 112 d70_9 (mb_t (b := (¬ (lg_cmp q1 0) = (0 : Int32))) (lgc_ne.mpr c3)) rfl ?_
    refine R_ic (v := 0) d70_112 (by decide) ?_
    cases h
    exact R_iret d70_113 rfl rfl rfl
  · refine R_nb d70_9 rfl (mb_f (b := (¬ (lg_cmp q1 0) = (0 : Int32))) (fun q => c3 (lgc_ne.mp q))) ?_
    refine R_p d70_12 rfl rfl ?_
    refine R_get d70_13 (Or.inl (List.mem_of_getElem? (i := 3) rfl)) (hg17 _ _) rfl ?_
    refine R_p d70_16 rfl rfl ?_
    obtain ⟨c4, h⟩ := rdI_some h
    refine R_ild d70_17 (hg18 _ _) c4 ?_
    refine R_p d70_18 rfl rfl ?_
    refine R_get d70_19 (Or.inl (List.mem_of_getElem? (i := 3) rfl)) (hg17 _ _) rfl ?_
    refine R_p d70_22 rfl rfl ?_
    obtain ⟨c5, h⟩ := rdI_some h
    refine R_ild d70_23 (hg18 _ _) c5 ?_
    obtain ⟨q6, e7, h⟩ := bd_some h
    refine R_cs [.int (s.1 18 (Int32.toNatClampNeg v1)), .int (s.1 18 (Int32.toNatClampNeg v2))] d70_24 (List.mem_of_getElem? (i := 38) rfl) rfl ⟨by decide, by decide, Nat.le_of_ble_eq_true rfl, rfl, mcd169⟩ rfl rfl (Nat.le_of_ble_eq_true rfl) (t_f169 e7) ?_
    refine R_p d70_27 rfl rfl ?_
    refine R_get d70_28 (Or.inl (List.mem_of_getElem? (i := 3) rfl)) (hg17 _ _) rfl ?_
    refine R_p d70_31 rfl rfl ?_
    obtain ⟨c8, h⟩ := rdI_some h
    refine R_ild d70_32 (hg18 _ _) c8 ?_
    rcases ite_some h with ⟨c9, h⟩ | ⟨c9, h⟩
    · refine R_br 112 d70_33 (mb_t (b := ((s.1 18 (Int32.toNatClampNeg v3)) < q6)) c9) rfl ?_
      refine R_ic (v := 0) d70_112 (by decide) ?_
      cases h
      exact R_iret d70_113 rfl rfl rfl
    · refine R_nb d70_33 rfl (mb_f (b := ((s.1 18 (Int32.toNatClampNeg v3)) < q6)) c9) ?_
      refine R_p d70_36 rfl rfl ?_
      refine R_get d70_37 (Or.inl (List.mem_of_getElem? (i := 3) rfl)) (hg17 _ _) rfl ?_
      refine R_p d70_40 rfl rfl ?_
      obtain ⟨c10, h⟩ := rdI_some h
      refine R_ild d70_41 (hg18 _ _) c10 ?_
      refine R_p d70_42 rfl rfl ?_
      refine R_get d70_43 (Or.inl (List.mem_of_getElem? (i := 3) rfl)) (hg17 _ _) rfl ?_
      refine R_p d70_46 rfl rfl ?_
      obtain ⟨c11, h⟩ := rdI_some h
      refine R_ild d70_47 (hg18 _ _) c11 ?_
      refine R_p d70_48 rfl rfl ?_
      refine R_get d70_49 (Or.inl (List.mem_of_getElem? (i := 3) rfl)) (hg17 _ _) rfl ?_
      refine R_p d70_52 rfl rfl ?_
      obtain ⟨c12, h⟩ := rdI_some h
      refine R_ild d70_53 (hg18 _ _) c12 ?_
      obtain ⟨q13, e14, h⟩ := bd_some h
      refine R_cs [.int (s.1 18 (Int32.toNatClampNeg v1)), .int (s.1 18 (Int32.toNatClampNeg v2))] d70_54 (List.mem_of_getElem? (i := 39) rfl) rfl ⟨by decide, by decide, Nat.le_of_ble_eq_true rfl, rfl, mcd170⟩ rfl rfl (Nat.le_of_ble_eq_true rfl) (t_f170 e14) ?_
      rcases ite_some h with ⟨c15, h⟩ | ⟨c15, h⟩
      · refine R_br 112 d70_57 (mb_t (b := (q13 < (s.1 18 (Int32.toNatClampNeg v3)))) c15) rfl ?_
        refine R_ic (v := 0) d70_112 (by decide) ?_
        cases h
        exact R_iret d70_113 rfl rfl rfl
      · refine R_nb d70_57 rfl (mb_f (b := (q13 < (s.1 18 (Int32.toNatClampNeg v3)))) c15) ?_
        refine R_p d70_60 rfl rfl ?_
        refine R_get d70_61 (Or.inl (List.mem_of_getElem? (i := 4) rfl)) (hg17 _ _) rfl ?_
        refine R_p d70_64 rfl rfl ?_
        obtain ⟨c16, h⟩ := rdI_some h
        refine R_ild d70_65 (hg19 _ _) c16 ?_
        refine R_p d70_66 rfl rfl ?_
        refine R_get d70_67 (Or.inl (List.mem_of_getElem? (i := 4) rfl)) (hg17 _ _) rfl ?_
        refine R_p d70_70 rfl rfl ?_
        obtain ⟨c17, h⟩ := rdI_some h
        refine R_ild d70_71 (hg19 _ _) c17 ?_
        obtain ⟨q18, e19, h⟩ := bd_some h
        refine R_cs [.int (s.1 19 (Int32.toNatClampNeg v1)), .int (s.1 19 (Int32.toNatClampNeg v2))] d70_72 (List.mem_of_getElem? (i := 38) rfl) rfl ⟨by decide, by decide, Nat.le_of_ble_eq_true rfl, rfl, mcd169⟩ rfl rfl (Nat.le_of_ble_eq_true rfl) (t_f169 e19) ?_
        refine R_p d70_75 rfl rfl ?_
        refine R_get d70_76 (Or.inl (List.mem_of_getElem? (i := 4) rfl)) (hg17 _ _) rfl ?_
        refine R_p d70_79 rfl rfl ?_
        obtain ⟨c20, h⟩ := rdI_some h
        refine R_ild d70_80 (hg19 _ _) c20 ?_
        rcases ite_some h with ⟨c21, h⟩ | ⟨c21, h⟩
        · refine R_br 112 d70_81 (mb_t (b := ((s.1 19 (Int32.toNatClampNeg v3)) < q18)) c21) rfl ?_
          refine R_ic (v := 0) d70_112 (by decide) ?_
          cases h
          exact R_iret d70_113 rfl rfl rfl
        · refine R_nb d70_81 rfl (mb_f (b := ((s.1 19 (Int32.toNatClampNeg v3)) < q18)) c21) ?_
          refine R_p d70_84 rfl rfl ?_
          refine R_get d70_85 (Or.inl (List.mem_of_getElem? (i := 4) rfl)) (hg17 _ _) rfl ?_
          refine R_p d70_88 rfl rfl ?_
          obtain ⟨c22, h⟩ := rdI_some h
          refine R_ild d70_89 (hg19 _ _) c22 ?_
          refine R_p d70_90 rfl rfl ?_
          refine R_get d70_91 (Or.inl (List.mem_of_getElem? (i := 4) rfl)) (hg17 _ _) rfl ?_
          refine R_p d70_94 rfl rfl ?_
          obtain ⟨c23, h⟩ := rdI_some h
          refine R_ild d70_95 (hg19 _ _) c23 ?_
          refine R_p d70_96 rfl rfl ?_
          refine R_get d70_97 (Or.inl (List.mem_of_getElem? (i := 4) rfl)) (hg17 _ _) rfl ?_
          refine R_p d70_100 rfl rfl ?_
          obtain ⟨c24, h⟩ := rdI_some h
          refine R_ild d70_101 (hg19 _ _) c24 ?_
          obtain ⟨q25, e26, h⟩ := bd_some h
          refine R_cs [.int (s.1 19 (Int32.toNatClampNeg v1)), .int (s.1 19 (Int32.toNatClampNeg v2))] d70_102 (List.mem_of_getElem? (i := 39) rfl) rfl ⟨by decide, by decide, Nat.le_of_ble_eq_true rfl, rfl, mcd170⟩ rfl rfl (Nat.le_of_ble_eq_true rfl) (t_f170 e26) ?_
          rcases ite_some h with ⟨c27, h⟩ | ⟨c27, h⟩
          · refine R_br 112 d70_105 (mb_t (b := (q25 < (s.1 19 (Int32.toNatClampNeg v3)))) c27) rfl ?_
            refine R_ic (v := 0) d70_112 (by decide) ?_
            cases h
            exact R_iret d70_113 rfl rfl rfl
          · refine R_nb d70_105 rfl (mb_f (b := (q25 < (s.1 19 (Int32.toNatClampNeg v3)))) c27) ?_
            refine R_ic (v := 1) d70_108 (by decide) ?_
            refine R_br 113 d70_109 rfl rfl ?_
            cases h
            exact R_iret d70_113 rfl rfl rfl
def f74 (v1 : Int32) (v2 : Int32) (s : mS) : Option (Int32) :=
  rdI 42 v1 (rdI 42 v2 ((if ((s.1 18 (Int32.toNatClampNeg v1)) < (s.1 18 (Int32.toNatClampNeg v2))) then
    some (1 : Int32)
  else
    rdI 42 v1 (rdI 42 v2 ((if (¬ (s.1 18 (Int32.toNatClampNeg v1)) = (s.1 18 (Int32.toNatClampNeg v2))) then
      some (0 : Int32)
    else
      rdI 42 v1 (rdI 42 v2 ((if ((s.1 19 (Int32.toNatClampNeg v2)) ≤ (s.1 19 (Int32.toNatClampNeg v1))) then
        some (0 : Int32)
      else
        some (1 : Int32))))))))))
theorem t_f74 {S : mE} {ex : mHp} {v1 : Int32} {v2 : Int32} {s : mS} {r : Int32} (h : f74 v1 v2 s = some r) : Run S 74 (0, [(0, .ref 17), (1, .int v1), (2, .int v2)], [], hp s ex) (.inl (some (.int r)), hp s ex) := by
  unfold f74 at h
  refine R_p d74_0 rfl rfl ?_
  refine R_get d74_1 (Or.inl (List.mem_of_getElem? (i := 3) rfl)) (hg17 _ _) rfl ?_
  refine R_p d74_4 rfl rfl ?_
  obtain ⟨c1, h⟩ := rdI_some h
  refine R_ild d74_5 (hg18 _ _) c1 ?_
  refine R_p d74_6 rfl rfl ?_
  refine R_get d74_7 (Or.inl (List.mem_of_getElem? (i := 3) rfl)) (hg17 _ _) rfl ?_
  refine R_p d74_10 rfl rfl ?_
  obtain ⟨c2, h⟩ := rdI_some h
  refine R_ild d74_11 (hg18 _ _) c2 ?_
  rcases ite_some h with ⟨c3, h⟩ | ⟨c3, h⟩
  · refine R_br 45 d74_12 (mb_t (b := ((s.1 18 (Int32.toNatClampNeg v1)) < (s.1 18 (Int32.toNatClampNeg v2)))) c3) rfl ?_
    refine R_ic (v := 1) d74_45 (by decide) ?_
    refine R_br 50 d74_46 rfl rfl ?_
    cases h
    exact R_iret d74_50 rfl rfl rfl
  · refine R_nb d74_12 rfl (mb_f (b := ((s.1 18 (Int32.toNatClampNeg v1)) < (s.1 18 (Int32.toNatClampNeg v2)))) c3) ?_
    refine R_p d74_15 rfl rfl ?_
    refine R_get d74_16 (Or.inl (List.mem_of_getElem? (i := 3) rfl)) (hg17 _ _) rfl ?_
    refine R_p d74_19 rfl rfl ?_
    obtain ⟨c4, h⟩ := rdI_some h
    refine R_ild d74_20 (hg18 _ _) c4 ?_
    refine R_p d74_21 rfl rfl ?_
    refine R_get d74_22 (Or.inl (List.mem_of_getElem? (i := 3) rfl)) (hg17 _ _) rfl ?_
    refine R_p d74_25 rfl rfl ?_
    obtain ⟨c5, h⟩ := rdI_some h
    refine R_ild d74_26 (hg18 _ _) c5 ?_
    rcases ite_some h with ⟨c6, h⟩ | ⟨c6, h⟩
    · refine R_br 49 d74_27 (mb_t (b := (¬ (s.1 18 (Int32.toNatClampNeg v1)) = (s.1 18 (Int32.toNatClampNeg v2)))) c6) rfl ?_
      refine R_ic (v := 0) d74_49 (by decide) ?_
      cases h
      exact R_iret d74_50 rfl rfl rfl
    · refine R_nb d74_27 rfl (mb_f (b := (¬ (s.1 18 (Int32.toNatClampNeg v1)) = (s.1 18 (Int32.toNatClampNeg v2)))) c6) ?_
      refine R_p d74_30 rfl rfl ?_
      refine R_get d74_31 (Or.inl (List.mem_of_getElem? (i := 4) rfl)) (hg17 _ _) rfl ?_
      refine R_p d74_34 rfl rfl ?_
      obtain ⟨c7, h⟩ := rdI_some h
      refine R_ild d74_35 (hg19 _ _) c7 ?_
      refine R_p d74_36 rfl rfl ?_
      refine R_get d74_37 (Or.inl (List.mem_of_getElem? (i := 4) rfl)) (hg17 _ _) rfl ?_
      refine R_p d74_40 rfl rfl ?_
      obtain ⟨c8, h⟩ := rdI_some h
      refine R_ild d74_41 (hg19 _ _) c8 ?_
      rcases ite_some h with ⟨c9, h⟩ | ⟨c9, h⟩
      · refine R_br 49 d74_42 (mb_t (b := ((s.1 19 (Int32.toNatClampNeg v2)) ≤ (s.1 19 (Int32.toNatClampNeg v1)))) c9) rfl ?_
        refine R_ic (v := 0) d74_49 (by decide) ?_
        cases h
        exact R_iret d74_50 rfl rfl rfl
      · refine R_nb d74_42 rfl (mb_f (b := ((s.1 19 (Int32.toNatClampNeg v2)) ≤ (s.1 19 (Int32.toNatClampNeg v1)))) c9) ?_
        refine R_ic (v := 1) d74_45 (by decide) ?_
        refine R_br 50 d74_46 rfl rfl ?_
        cases h
        exact R_iret d74_50 rfl rfl rfl
def r69 : Nat → Int32 → Int32 → mS → Option (Int32)
  | 0, _, _, _ => none
  | k + 1, v1, v2, s =>
    (if ((s.2.2.1 0) ≤ v2) then
        some (-1 : Int32)
      else
        rdI 42 v2 (rdI 42 v1 ((if (¬ (s.1 18 (Int32.toNatClampNeg v2)) = (s.1 18 (Int32.toNatClampNeg v1))) then
          r69 k v1 (v2 + Int32.ofInt 1) s
        else
          rdI 42 v2 (rdI 42 v1 ((if (¬ (s.1 19 (Int32.toNatClampNeg v2)) = (s.1 19 (Int32.toNatClampNeg v1))) then
            r69 k v1 (v2 + Int32.ofInt 1) s
          else
            some v2)))))))
theorem s69 {S : mE} {ex : mHp} (k : Nat) : (∀ (v1 : Int32) (v2 : Int32) (s : mS) (r : Int32), r69 k v1 v2 s = some r → Run S 69 (2, [(0, .ref 17), (1, .int v1), (2, .int v2)], [], hp s ex) (.inl (some (.int r)), hp s ex)) := by
  induction k with
  | zero => intro v1 v2 s r h; cases h
  | succ k ih =>
    intro v1 v2 s r h
    rw [r69] at h
    refine R_p d69_2 rfl rfl ?_
    refine R_p d69_3 rfl rfl ?_
    refine R_get d69_4 (Or.inl (List.mem_of_getElem? (i := 6) rfl)) (hg17 _ _) rfl ?_
    rcases ite_some h with ⟨c1, h⟩ | ⟨c1, h⟩
    · refine R_br 48 d69_7 (mb_t (b := ((s.2.2.1 0) ≤ v2)) c1) rfl ?_
      refine R_ic (v := (-1)) d69_48 (by decide) ?_
      cases h
      exact R_iret d69_49 rfl rfl rfl
    · refine R_nb d69_7 rfl (mb_f (b := ((s.2.2.1 0) ≤ v2)) c1) ?_
      refine R_p d69_10 rfl rfl ?_
      refine R_get d69_11 (Or.inl (List.mem_of_getElem? (i := 3) rfl)) (hg17 _ _) rfl ?_
      refine R_p d69_14 rfl rfl ?_
      obtain ⟨c2, h⟩ := rdI_some h
      refine R_ild d69_15 (hg18 _ _) c2 ?_
      refine R_p d69_16 rfl rfl ?_
      refine R_get d69_17 (Or.inl (List.mem_of_getElem? (i := 3) rfl)) (hg17 _ _) rfl ?_
      refine R_p d69_20 rfl rfl ?_
      obtain ⟨c3, h⟩ := rdI_some h
      refine R_ild d69_21 (hg18 _ _) c3 ?_
      rcases ite_some h with ⟨c4, h⟩ | ⟨c4, h⟩
      · refine R_br 42 d69_22 (mb_t (b := (¬ (s.1 18 (Int32.toNatClampNeg v2)) = (s.1 18 (Int32.toNatClampNeg v1)))) c4) rfl ?_
        refine R_p (ls' := [(0, .ref 17), (1, .int v1), (2, .int (v2 + Int32.ofInt 1))]) d69_42 rfl rfl ?_
        refine R_br 2 d69_45 rfl rfl ?_
        exact ih v1 (v2 + Int32.ofInt 1) s _ h
      · refine R_nb d69_22 rfl (mb_f (b := (¬ (s.1 18 (Int32.toNatClampNeg v2)) = (s.1 18 (Int32.toNatClampNeg v1)))) c4) ?_
        refine R_p d69_25 rfl rfl ?_
        refine R_get d69_26 (Or.inl (List.mem_of_getElem? (i := 4) rfl)) (hg17 _ _) rfl ?_
        refine R_p d69_29 rfl rfl ?_
        obtain ⟨c5, h⟩ := rdI_some h
        refine R_ild d69_30 (hg19 _ _) c5 ?_
        refine R_p d69_31 rfl rfl ?_
        refine R_get d69_32 (Or.inl (List.mem_of_getElem? (i := 4) rfl)) (hg17 _ _) rfl ?_
        refine R_p d69_35 rfl rfl ?_
        obtain ⟨c6, h⟩ := rdI_some h
        refine R_ild d69_36 (hg19 _ _) c6 ?_
        rcases ite_some h with ⟨c7, h⟩ | ⟨c7, h⟩
        · refine R_br 42 d69_37 (mb_t (b := (¬ (s.1 19 (Int32.toNatClampNeg v2)) = (s.1 19 (Int32.toNatClampNeg v1)))) c7) rfl ?_
          refine R_p (ls' := [(0, .ref 17), (1, .int v1), (2, .int (v2 + Int32.ofInt 1))]) d69_42 rfl rfl ?_
          refine R_br 2 d69_45 rfl rfl ?_
          exact ih v1 (v2 + Int32.ofInt 1) s _ h
        · refine R_nb d69_37 rfl (mb_f (b := (¬ (s.1 19 (Int32.toNatClampNeg v2)) = (s.1 19 (Int32.toNatClampNeg v1)))) c7) ?_
          refine R_p d69_40 rfl rfl ?_
          cases h
          exact R_iret d69_41 rfl rfl rfl
def f69 (k : Nat) (v1 : Int32) (s : mS) : Option (Int32) :=
  r69 k v1 0 s
theorem t_f69 {S : mE} {ex : mHp} {k : Nat} {v1 : Int32} {s : mS} {r : Int32} (h : f69 k v1 s = some r) : Run S 69 (0, [(0, .ref 17), (1, .int v1)], [], hp s ex) (.inl (some (.int r)), hp s ex) := by
  unfold f69 at h
  refine R_ic (v := 0) d69_0 (by decide) ?_
  refine R_p (ls' := [(0, .ref 17), (1, .int v1), (2, .int 0)]) d69_1 rfl rfl ?_
  exact s69 (S := S) (ex := ex) k v1 0 s _ h
def r77 : Nat → Int32 → Int32 → Int32 → mS → Option (Int32)
  | 0, _, _, _, _ => none
  | k + 1, v1, v2, v3, s =>
    (if ((s.2.2.1 0) ≤ v3) then
        some (0 : Int32)
      else
        (if (v3 = v1) then
          r77 k v1 v2 (v3 + Int32.ofInt 1) s
        else
          (if (v3 = v2) then
            r77 k v1 v2 (v3 + Int32.ofInt 1) s
          else
            (f70 v1 v2 v3 s).bind fun q4 => (if (q4 = (0 : Int32)) then
              r77 k v1 v2 (v3 + Int32.ofInt 1) s
            else
              some (1 : Int32)))))
theorem s77 {S : mE} {ex : mHp} (k : Nat) : (∀ (v1 : Int32) (v2 : Int32) (v3 : Int32) (s : mS) (r : Int32), r77 k v1 v2 v3 s = some r → Run S 77 (2, [(0, .ref 17), (1, .int v1), (2, .int v2), (3, .int v3)], [], hp s ex) (.inl (some (.int r)), hp s ex)) := by
  induction k with
  | zero => intro v1 v2 v3 s r h; cases h
  | succ k ih =>
    intro v1 v2 v3 s r h
    rw [r77] at h
    refine R_p d77_2 rfl rfl ?_
    refine R_p d77_3 rfl rfl ?_
    refine R_get d77_4 (Or.inl (List.mem_of_getElem? (i := 6) rfl)) (hg17 _ _) rfl ?_
    rcases ite_some h with ⟨c1, h⟩ | ⟨c1, h⟩
    · refine R_br 38 d77_7 (mb_t (b := ((s.2.2.1 0) ≤ v3)) c1) rfl ?_
      refine R_ic (v := 0) d77_38 (by decide) ?_
      cases h
      exact R_iret d77_39 rfl rfl rfl
    · refine R_nb d77_7 rfl (mb_f (b := ((s.2.2.1 0) ≤ v3)) c1) ?_
      refine R_p d77_10 rfl rfl ?_
      refine R_p d77_11 rfl rfl ?_
      rcases ite_some h with ⟨c2, h⟩ | ⟨c2, h⟩
      · refine R_br 32 d77_12 (mb_t (b := (v3 = v1)) c2) rfl ?_
        refine R_p (ls' := [(0, .ref 17), (1, .int v1), (2, .int v2), (3, .int (v3 + Int32.ofInt 1))]) d77_32 rfl rfl ?_
        refine R_br 2 d77_35 rfl rfl ?_
        exact ih v1 v2 (v3 + Int32.ofInt 1) s _ h
      · refine R_nb d77_12 rfl (mb_f (b := (v3 = v1)) c2) ?_
        refine R_p d77_15 rfl rfl ?_
        refine R_p d77_16 rfl rfl ?_
        rcases ite_some h with ⟨c3, h⟩ | ⟨c3, h⟩
        · refine R_br 32 d77_17 (mb_t (b := (v3 = v2)) c3) rfl ?_
          refine R_p (ls' := [(0, .ref 17), (1, .int v1), (2, .int v2), (3, .int (v3 + Int32.ofInt 1))]) d77_32 rfl rfl ?_
          refine R_br 2 d77_35 rfl rfl ?_
          exact ih v1 v2 (v3 + Int32.ofInt 1) s _ h
        · refine R_nb d77_17 rfl (mb_f (b := (v3 = v2)) c3) ?_
          refine R_p d77_20 rfl rfl ?_
          refine R_p d77_21 rfl rfl ?_
          refine R_p d77_22 rfl rfl ?_
          refine R_p d77_23 rfl rfl ?_
          obtain ⟨q4, e5, h⟩ := bd_some h
          refine R_cm [.int v1, .int v2, .int v3] d77_24 (List.mem_of_getElem? (i := 89) rfl) rfl ⟨by decide, by decide, Nat.le_of_ble_eq_true rfl, rfl, mcd70⟩ rfl rfl (Nat.le_of_ble_eq_true rfl) (hg17 _ _) rfl (t_f70 e5) ?_
          rcases ite_some h with ⟨c6, h⟩ | ⟨c6, h⟩
          · refine R_br 32 d77_27 (mb_t (b := (q4 = (0 : Int32))) c6) rfl ?_
            refine R_p (ls' := [(0, .ref 17), (1, .int v1), (2, .int v2), (3, .int (v3 + Int32.ofInt 1))]) d77_32 rfl rfl ?_
            refine R_br 2 d77_35 rfl rfl ?_
            exact ih v1 v2 (v3 + Int32.ofInt 1) s _ h
          · refine R_nb d77_27 rfl (mb_f (b := (q4 = (0 : Int32))) c6) ?_
            refine R_ic (v := 1) d77_30 (by decide) ?_
            cases h
            exact R_iret d77_31 rfl rfl rfl
def f77 (k : Nat) (v1 : Int32) (v2 : Int32) (s : mS) : Option (Int32) :=
  r77 k v1 v2 0 s
theorem t_f77 {S : mE} {ex : mHp} {k : Nat} {v1 : Int32} {v2 : Int32} {s : mS} {r : Int32} (h : f77 k v1 v2 s = some r) : Run S 77 (0, [(0, .ref 17), (1, .int v1), (2, .int v2)], [], hp s ex) (.inl (some (.int r)), hp s ex) := by
  unfold f77 at h
  refine R_ic (v := 0) d77_0 (by decide) ?_
  refine R_p (ls' := [(0, .ref 17), (1, .int v1), (2, .int v2), (3, .int 0)]) d77_1 rfl rfl ?_
  exact s77 (S := S) (ex := ex) k v1 v2 0 s _ h
def f39 (v1 : Int32) (v2 : Int32) (s : mS) : Option (Int32) :=
  rdI 40 v1 ((if ((((s.2.1 22 (Int32.toNatClampNeg v1)) >>> (Int32.toInt64 v2 &&& 63)) &&& (1 : Int64)) = (0 : Int64)) then
    some (0 : Int32)
  else
    some (1 : Int32)))
theorem t_f39 {S : mE} {ex : mHp} {v1 : Int32} {v2 : Int32} {s : mS} {r : Int32} (h : f39 v1 v2 s = some r) : Run S 39 (0, [(0, .ref 21), (1, .int v1), (2, .int v2)], [], hp s ex) (.inl (some (.int r)), hp s ex) := by
  unfold f39 at h
  refine R_p d39_0 rfl rfl ?_
  refine R_get d39_1 (Or.inl (List.mem_of_getElem? (i := 8) rfl)) (hg21 _ _) rfl ?_
  refine R_p d39_4 rfl rfl ?_
  obtain ⟨c1, h⟩ := rdI_some h
  refine R_lld d39_5 (hg22 _ _) c1 ?_
  refine R_p d39_6 rfl rfl ?_
  refine R_p d39_7 rfl rfl ?_
  refine R_lc (v := 1) d39_8 (by decide) ?_
  refine R_p d39_9 rfl rfl ?_
  refine R_lc (v := 0) d39_10 (by decide) ?_
  refine R_p d39_11 rfl rfl ?_
  rcases ite_some h with ⟨c2, h⟩ | ⟨c2, h⟩
  · refine R_br 19 d39_12 (mb_t (b := ((lg_cmp (((s.2.1 22 (Int32.toNatClampNeg v1)) >>> (Int32.toInt64 v2 &&& 63)) &&& (1 : Int64)) 0) = (0 : Int32))) (lgc_eq.mpr c2)) rfl ?_
    refine R_ic (v := 0) d39_19 (by decide) ?_
    cases h
    exact R_iret d39_20 rfl rfl rfl
  · refine R_nb d39_12 rfl (mb_f (b := ((lg_cmp (((s.2.1 22 (Int32.toNatClampNeg v1)) >>> (Int32.toInt64 v2 &&& 63)) &&& (1 : Int64)) 0) = (0 : Int32))) (fun q => c2 (lgc_eq.mp q))) ?_
    refine R_ic (v := 1) d39_15 (by decide) ?_
    refine R_br 20 d39_16 rfl rfl ?_
    cases h
    exact R_iret d39_20 rfl rfl rfl
def f41 (v1 : Int32) (v2 : Int32) (v3 : Int32) (v4 : Int32) (s : mS) : Option (Int32) :=
  (f73 v1 v2 v3 s).bind fun q1 => (f73 v1 v2 v4 s).bind fun q3 => (if ((0 : Int32) ≤ (q1 * q3)) then
    some (0 : Int32)
  else
    (f73 v3 v4 v1 s).bind fun q6 => (f73 v3 v4 v2 s).bind fun q8 => (if ((0 : Int32) ≤ (q6 * q8)) then
      some (0 : Int32)
    else
      some (1 : Int32)))
theorem t_f41 {S : mE} {ex : mHp} {v1 : Int32} {v2 : Int32} {v3 : Int32} {v4 : Int32} {s : mS} {r : Int32} (h : f41 v1 v2 v3 v4 s = some r) : Run S 41 (0, [(0, .ref 21), (1, .int v1), (2, .int v2), (3, .int v3), (4, .int v4)], [], hp s ex) (.inl (some (.int r)), hp s ex) := by
  unfold f41 at h
  refine R_p d41_0 rfl rfl ?_
  refine R_get d41_1 (Or.inl (List.mem_of_getElem? (i := 7) rfl)) (hg21 _ _) rfl ?_
  refine R_p d41_4 rfl rfl ?_
  refine R_p d41_5 rfl rfl ?_
  refine R_p d41_6 rfl rfl ?_
  obtain ⟨q1, e2, h⟩ := bd_some h
  refine R_cm [.int v1, .int v2, .int v3] d41_7 (List.mem_of_getElem? (i := 92) rfl) rfl ⟨by decide, by decide, Nat.le_of_ble_eq_true rfl, rfl, mcd73⟩ rfl rfl (Nat.le_of_ble_eq_true rfl) (hg17 _ _) rfl (t_f73 e2) ?_
  refine R_p d41_10 rfl rfl ?_
  refine R_get d41_11 (Or.inl (List.mem_of_getElem? (i := 7) rfl)) (hg21 _ _) rfl ?_
  refine R_p d41_14 rfl rfl ?_
  refine R_p d41_15 rfl rfl ?_
  refine R_p d41_16 rfl rfl ?_
  obtain ⟨q3, e4, h⟩ := bd_some h
  refine R_cm [.int v1, .int v2, .int v4] d41_18 (List.mem_of_getElem? (i := 92) rfl) rfl ⟨by decide, by decide, Nat.le_of_ble_eq_true rfl, rfl, mcd73⟩ rfl rfl (Nat.le_of_ble_eq_true rfl) (hg17 _ _) rfl (t_f73 e4) ?_
  refine R_p d41_21 rfl rfl ?_
  rcases ite_some h with ⟨c5, h⟩ | ⟨c5, h⟩
  · refine R_br 55 d41_22 (mb_t (b := ((0 : Int32) ≤ (q1 * q3))) c5) rfl ?_
    refine R_ic (v := 0) d41_55 (by decide) ?_
    cases h
    exact R_iret d41_56 rfl rfl rfl
  · refine R_nb d41_22 rfl (mb_f (b := ((0 : Int32) ≤ (q1 * q3))) c5) ?_
    refine R_p d41_25 rfl rfl ?_
    refine R_get d41_26 (Or.inl (List.mem_of_getElem? (i := 7) rfl)) (hg21 _ _) rfl ?_
    refine R_p d41_29 rfl rfl ?_
    refine R_p d41_30 rfl rfl ?_
    refine R_p d41_32 rfl rfl ?_
    obtain ⟨q6, e7, h⟩ := bd_some h
    refine R_cm [.int v3, .int v4, .int v1] d41_33 (List.mem_of_getElem? (i := 92) rfl) rfl ⟨by decide, by decide, Nat.le_of_ble_eq_true rfl, rfl, mcd73⟩ rfl rfl (Nat.le_of_ble_eq_true rfl) (hg17 _ _) rfl (t_f73 e7) ?_
    refine R_p d41_36 rfl rfl ?_
    refine R_get d41_37 (Or.inl (List.mem_of_getElem? (i := 7) rfl)) (hg21 _ _) rfl ?_
    refine R_p d41_40 rfl rfl ?_
    refine R_p d41_41 rfl rfl ?_
    refine R_p d41_43 rfl rfl ?_
    obtain ⟨q8, e9, h⟩ := bd_some h
    refine R_cm [.int v3, .int v4, .int v2] d41_44 (List.mem_of_getElem? (i := 92) rfl) rfl ⟨by decide, by decide, Nat.le_of_ble_eq_true rfl, rfl, mcd73⟩ rfl rfl (Nat.le_of_ble_eq_true rfl) (hg17 _ _) rfl (t_f73 e9) ?_
    refine R_p d41_47 rfl rfl ?_
    rcases ite_some h with ⟨c10, h⟩ | ⟨c10, h⟩
    · refine R_br 55 d41_48 (mb_t (b := ((0 : Int32) ≤ (q6 * q8))) c10) rfl ?_
      refine R_ic (v := 0) d41_55 (by decide) ?_
      cases h
      exact R_iret d41_56 rfl rfl rfl
    · refine R_nb d41_48 rfl (mb_f (b := ((0 : Int32) ≤ (q6 * q8))) c10) ?_
      refine R_ic (v := 1) d41_51 (by decide) ?_
      refine R_br 56 d41_52 rfl rfl ?_
      cases h
      exact R_iret d41_56 rfl rfl rfl
def f66  (s : mS) : Option (Int32) :=
  some (s.2.2.1 0)
theorem t_f66 {S : mE} {ex : mHp}  {s : mS} {r : Int32} (h : f66 s = some r) : Run S 66 (0, [(0, .ref 17)], [], hp s ex) (.inl (some (.int r)), hp s ex) := by
  unfold f66 at h
  refine R_p d66_0 rfl rfl ?_
  refine R_get d66_1 (Or.inl (List.mem_of_getElem? (i := 6) rfl)) (hg17 _ _) rfl ?_
  cases h
  exact R_iret d66_4 rfl rfl rfl
def r40 : Nat → Nat → Int32 → Int32 → Int32 → Int32 → mS → Option (Int32)
  | 0, _, _, _, _, _, _ => none
  | k + 1, hd, v1, v2, v3, v4, s =>
    if hd = 0 then (f66 s).bind fun q1 => (if (q1 ≤ v3) then
        some (0 : Int32)
      else
        r40 k 1 v1 v2 v3 (v3 + (1 : Int32)) s) else
    (f66 s).bind fun q1 => (if (q1 ≤ v4) then
        r40 k 0 v1 v2 (v3 + Int32.ofInt 1) 0 s
      else
        (f39 v3 v4 s).bind fun q4 => (if (q4 = (0 : Int32)) then
          r40 k 1 v1 v2 v3 (v4 + Int32.ofInt 1) s
        else
          (f41 v1 v2 v3 v4 s).bind fun q7 => (if (q7 = (0 : Int32)) then
            r40 k 1 v1 v2 v3 (v4 + Int32.ofInt 1) s
          else
            some (1 : Int32))))
theorem s40 {S : mE} {ex : mHp} (k : Nat) : (∀ (v1 : Int32) (v2 : Int32) (v3 : Int32) (v4 : Int32) (s : mS) (r : Int32), r40 k 0 v1 v2 v3 v4 s = some r → Run S 40 (2, [(0, .ref 21), (1, .int v1), (2, .int v2), (3, .int v3)], [], hp s ex) (.inl (some (.int r)), hp s ex)) ∧ (∀ (v1 : Int32) (v2 : Int32) (v3 : Int32) (v4 : Int32) (s : mS) (r : Int32), r40 k 1 v1 v2 v3 v4 s = some r → Run S 40 (18, [(0, .ref 21), (1, .int v1), (2, .int v2), (3, .int v3), (4, .int v4)], [], hp s ex) (.inl (some (.int r)), hp s ex)) := by
  induction k with
  | zero => refine ⟨?_, ?_⟩ <;> (intro v1 v2 v3 v4 s r h; cases h)
  | succ k ih =>
    refine ⟨?_, ?_⟩
    · intro v1 v2 v3 v4 s r h
      rw [r40, if_pos rfl] at h
      refine R_p d40_2 rfl rfl ?_
      refine R_p d40_3 rfl rfl ?_
      refine R_get d40_4 (Or.inl (List.mem_of_getElem? (i := 7) rfl)) (hg21 _ _) rfl ?_
      obtain ⟨q1, e2, h⟩ := bd_some h
      refine R_cm [] d40_7 (List.mem_of_getElem? (i := 34) rfl) rfl ⟨by decide, by decide, Nat.le_of_ble_eq_true rfl, rfl, mcd66⟩ rfl rfl (Nat.le_of_ble_eq_true rfl) (hg17 _ _) rfl (t_f66 e2) ?_
      rcases ite_some h with ⟨c3, h⟩ | ⟨c3, h⟩
      · refine R_br 66 d40_10 (mb_t (b := (q1 ≤ v3)) c3) rfl ?_
        refine R_ic (v := 0) d40_66 (by decide) ?_
        cases h
        exact R_iret d40_67 rfl rfl rfl
      · refine R_nb d40_10 rfl (mb_f (b := (q1 ≤ v3)) c3) ?_
        refine R_p d40_13 rfl rfl ?_
        refine R_ic (v := 1) d40_14 (by decide) ?_
        refine R_p d40_15 rfl rfl ?_
        refine R_p (ls' := [(0, .ref 21), (1, .int v1), (2, .int v2), (3, .int v3), (4, .int (v3 + (1 : Int32)))]) d40_16 rfl rfl ?_
        exact ih.2 v1 v2 v3 (v3 + (1 : Int32)) s _ h
    · intro v1 v2 v3 v4 s r h
      rw [r40, if_neg (by decide)] at h
      refine R_p d40_18 rfl rfl ?_
      refine R_p d40_20 rfl rfl ?_
      refine R_get d40_21 (Or.inl (List.mem_of_getElem? (i := 7) rfl)) (hg21 _ _) rfl ?_
      obtain ⟨q1, e2, h⟩ := bd_some h
      refine R_cm [] d40_24 (List.mem_of_getElem? (i := 34) rfl) rfl ⟨by decide, by decide, Nat.le_of_ble_eq_true rfl, rfl, mcd66⟩ rfl rfl (Nat.le_of_ble_eq_true rfl) (hg17 _ _) rfl (t_f66 e2) ?_
      rcases ite_some h with ⟨c3, h⟩ | ⟨c3, h⟩
      · refine R_br 60 d40_27 (mb_t (b := (q1 ≤ v4)) c3) rfl ?_
        refine R_p (ls' := [(0, .ref 21), (1, .int v1), (2, .int v2), (3, .int (v3 + Int32.ofInt 1)), (4, .int v4)]) d40_60 rfl rfl ?_
        refine R_br 2 d40_63 rfl rfl ?_
        exact R_wk [(0, .ref 21), (1, .int v1), (2, .int v2), (3, .int (v3 + Int32.ofInt 1))] (by simp) (ih.1 v1 v2 (v3 + Int32.ofInt 1) 0 s _ h)
      · refine R_nb d40_27 rfl (mb_f (b := (q1 ≤ v4)) c3) ?_
        refine R_p d40_30 rfl rfl ?_
        refine R_p d40_31 rfl rfl ?_
        refine R_p d40_32 rfl rfl ?_
        obtain ⟨q4, e5, h⟩ := bd_some h
        refine R_cm [.int v3, .int v4] d40_34 (List.mem_of_getElem? (i := 35) rfl) rfl ⟨by decide, by decide, Nat.le_of_ble_eq_true rfl, rfl, mcd39⟩ rfl rfl (Nat.le_of_ble_eq_true rfl) (hg21 _ _) rfl (t_f39 e5) ?_
        rcases ite_some h with ⟨c6, h⟩ | ⟨c6, h⟩
        · refine R_br 54 d40_37 (mb_t (b := (q4 = (0 : Int32))) c6) rfl ?_
          refine R_p (ls' := [(0, .ref 21), (1, .int v1), (2, .int v2), (3, .int v3), (4, .int (v4 + Int32.ofInt 1))]) d40_54 rfl rfl ?_
          refine R_br 18 d40_57 rfl rfl ?_
          exact ih.2 v1 v2 v3 (v4 + Int32.ofInt 1) s _ h
        · refine R_nb d40_37 rfl (mb_f (b := (q4 = (0 : Int32))) c6) ?_
          refine R_p d40_40 rfl rfl ?_
          refine R_p d40_41 rfl rfl ?_
          refine R_p d40_42 rfl rfl ?_
          refine R_p d40_43 rfl rfl ?_
          refine R_p d40_44 rfl rfl ?_
          obtain ⟨q7, e8, h⟩ := bd_some h
          refine R_cm [.int v1, .int v2, .int v3, .int v4] d40_46 (List.mem_of_getElem? (i := 91) rfl) rfl ⟨by decide, by decide, Nat.le_of_ble_eq_true rfl, rfl, mcd41⟩ rfl rfl (Nat.le_of_ble_eq_true rfl) (hg21 _ _) rfl (t_f41 e8) ?_
          rcases ite_some h with ⟨c9, h⟩ | ⟨c9, h⟩
          · refine R_br 54 d40_49 (mb_t (b := (q7 = (0 : Int32))) c9) rfl ?_
            refine R_p (ls' := [(0, .ref 21), (1, .int v1), (2, .int v2), (3, .int v3), (4, .int (v4 + Int32.ofInt 1))]) d40_54 rfl rfl ?_
            refine R_br 18 d40_57 rfl rfl ?_
            exact ih.2 v1 v2 v3 (v4 + Int32.ofInt 1) s _ h
          · refine R_nb d40_49 rfl (mb_f (b := (q7 = (0 : Int32))) c9) ?_
            refine R_ic (v := 1) d40_52 (by decide) ?_
            cases h
            exact R_iret d40_53 rfl rfl rfl
def f40 (k : Nat) (v1 : Int32) (v2 : Int32) (s : mS) : Option (Int32) :=
  r40 k 0 v1 v2 0 0 s
theorem t_f40 {S : mE} {ex : mHp} {k : Nat} {v1 : Int32} {v2 : Int32} {s : mS} {r : Int32} (h : f40 k v1 v2 s = some r) : Run S 40 (0, [(0, .ref 21), (1, .int v1), (2, .int v2)], [], hp s ex) (.inl (some (.int r)), hp s ex) := by
  unfold f40 at h
  refine R_ic (v := 0) d40_0 (by decide) ?_
  refine R_p (ls' := [(0, .ref 21), (1, .int v1), (2, .int v2), (3, .int 0)]) d40_1 rfl rfl ?_
  exact (s40 (S := S) (ex := ex) k).1 v1 v2 0 0 s _ h
def r38 : Nat → Nat → Int32 → Int32 → Int32 → mS → Option (Int32)
  | 0, _, _, _, _, _ => none
  | k + 1, hd, v1, v2, v3, s =>
    if hd = 0 then (f66 s).bind fun q1 => (if (q1 ≤ v2) then
        some (0 : Int32)
      else
        r38 k 1 v1 v2 (v2 + (1 : Int32)) s) else
    (f66 s).bind fun q1 => (if (q1 ≤ v3) then
        r38 k 0 v1 (v2 + Int32.ofInt 1) 0 s
      else
        (f39 v2 v3 s).bind fun q4 => (if (q4 = (0 : Int32)) then
          r38 k 1 v1 v2 (v3 + Int32.ofInt 1) s
        else
          (f70 v2 v3 v1 s).bind fun q7 => (if (q7 = (0 : Int32)) then
            r38 k 1 v1 v2 (v3 + Int32.ofInt 1) s
          else
            some (1 : Int32))))
theorem s38 {S : mE} {ex : mHp} (k : Nat) : (∀ (v1 : Int32) (v2 : Int32) (v3 : Int32) (s : mS) (r : Int32), r38 k 0 v1 v2 v3 s = some r → Run S 38 (2, [(0, .ref 21), (1, .int v1), (2, .int v2)], [], hp s ex) (.inl (some (.int r)), hp s ex)) ∧ (∀ (v1 : Int32) (v2 : Int32) (v3 : Int32) (s : mS) (r : Int32), r38 k 1 v1 v2 v3 s = some r → Run S 38 (17, [(0, .ref 21), (1, .int v1), (2, .int v2), (3, .int v3)], [], hp s ex) (.inl (some (.int r)), hp s ex)) := by
  induction k with
  | zero => refine ⟨?_, ?_⟩ <;> (intro v1 v2 v3 s r h; cases h)
  | succ k ih =>
    refine ⟨?_, ?_⟩
    · intro v1 v2 v3 s r h
      rw [r38, if_pos rfl] at h
      refine R_p d38_2 rfl rfl ?_
      refine R_p d38_3 rfl rfl ?_
      refine R_get d38_4 (Or.inl (List.mem_of_getElem? (i := 7) rfl)) (hg21 _ _) rfl ?_
      obtain ⟨q1, e2, h⟩ := bd_some h
      refine R_cm [] d38_7 (List.mem_of_getElem? (i := 34) rfl) rfl ⟨by decide, by decide, Nat.le_of_ble_eq_true rfl, rfl, mcd66⟩ rfl rfl (Nat.le_of_ble_eq_true rfl) (hg17 _ _) rfl (t_f66 e2) ?_
      rcases ite_some h with ⟨c3, h⟩ | ⟨c3, h⟩
      · refine R_br 64 d38_10 (mb_t (b := (q1 ≤ v2)) c3) rfl ?_
        refine R_ic (v := 0) d38_64 (by decide) ?_
        cases h
        exact R_iret d38_65 rfl rfl rfl
      · refine R_nb d38_10 rfl (mb_f (b := (q1 ≤ v2)) c3) ?_
        refine R_p d38_13 rfl rfl ?_
        refine R_ic (v := 1) d38_14 (by decide) ?_
        refine R_p d38_15 rfl rfl ?_
        refine R_p (ls' := [(0, .ref 21), (1, .int v1), (2, .int v2), (3, .int (v2 + (1 : Int32)))]) d38_16 rfl rfl ?_
        exact ih.2 v1 v2 (v2 + (1 : Int32)) s _ h
    · intro v1 v2 v3 s r h
      rw [r38, if_neg (by decide)] at h
      refine R_p d38_17 rfl rfl ?_
      refine R_p d38_18 rfl rfl ?_
      refine R_get d38_19 (Or.inl (List.mem_of_getElem? (i := 7) rfl)) (hg21 _ _) rfl ?_
      obtain ⟨q1, e2, h⟩ := bd_some h
      refine R_cm [] d38_22 (List.mem_of_getElem? (i := 34) rfl) rfl ⟨by decide, by decide, Nat.le_of_ble_eq_true rfl, rfl, mcd66⟩ rfl rfl (Nat.le_of_ble_eq_true rfl) (hg17 _ _) rfl (t_f66 e2) ?_
      rcases ite_some h with ⟨c3, h⟩ | ⟨c3, h⟩
      · refine R_br 58 d38_25 (mb_t (b := (q1 ≤ v3)) c3) rfl ?_
        refine R_p (ls' := [(0, .ref 21), (1, .int v1), (2, .int (v2 + Int32.ofInt 1)), (3, .int v3)]) d38_58 rfl rfl ?_
        refine R_br 2 d38_61 rfl rfl ?_
        exact R_wk [(0, .ref 21), (1, .int v1), (2, .int (v2 + Int32.ofInt 1))] (by simp) (ih.1 v1 (v2 + Int32.ofInt 1) 0 s _ h)
      · refine R_nb d38_25 rfl (mb_f (b := (q1 ≤ v3)) c3) ?_
        refine R_p d38_28 rfl rfl ?_
        refine R_p d38_29 rfl rfl ?_
        refine R_p d38_30 rfl rfl ?_
        obtain ⟨q4, e5, h⟩ := bd_some h
        refine R_cm [.int v2, .int v3] d38_31 (List.mem_of_getElem? (i := 35) rfl) rfl ⟨by decide, by decide, Nat.le_of_ble_eq_true rfl, rfl, mcd39⟩ rfl rfl (Nat.le_of_ble_eq_true rfl) (hg21 _ _) rfl (t_f39 e5) ?_
        rcases ite_some h with ⟨c6, h⟩ | ⟨c6, h⟩
        · refine R_br 52 d38_34 (mb_t (b := (q4 = (0 : Int32))) c6) rfl ?_
          refine R_p (ls' := [(0, .ref 21), (1, .int v1), (2, .int v2), (3, .int (v3 + Int32.ofInt 1))]) d38_52 rfl rfl ?_
          refine R_br 17 d38_55 rfl rfl ?_
          exact ih.2 v1 v2 (v3 + Int32.ofInt 1) s _ h
        · refine R_nb d38_34 rfl (mb_f (b := (q4 = (0 : Int32))) c6) ?_
          refine R_p d38_37 rfl rfl ?_
          refine R_get d38_38 (Or.inl (List.mem_of_getElem? (i := 7) rfl)) (hg21 _ _) rfl ?_
          refine R_p d38_41 rfl rfl ?_
          refine R_p d38_42 rfl rfl ?_
          refine R_p d38_43 rfl rfl ?_
          obtain ⟨q7, e8, h⟩ := bd_some h
          refine R_cm [.int v2, .int v3, .int v1] d38_44 (List.mem_of_getElem? (i := 36) rfl) rfl ⟨by decide, by decide, Nat.le_of_ble_eq_true rfl, rfl, mcd70⟩ rfl rfl (Nat.le_of_ble_eq_true rfl) (hg17 _ _) rfl (t_f70 e8) ?_
          rcases ite_some h with ⟨c9, h⟩ | ⟨c9, h⟩
          · refine R_br 52 d38_47 (mb_t (b := (q7 = (0 : Int32))) c9) rfl ?_
            refine R_p (ls' := [(0, .ref 21), (1, .int v1), (2, .int v2), (3, .int (v3 + Int32.ofInt 1))]) d38_52 rfl rfl ?_
            refine R_br 17 d38_55 rfl rfl ?_
            exact ih.2 v1 v2 (v3 + Int32.ofInt 1) s _ h
          · refine R_nb d38_47 rfl (mb_f (b := (q7 = (0 : Int32))) c9) ?_
            refine R_ic (v := 1) d38_50 (by decide) ?_
            cases h
            exact R_iret d38_51 rfl rfl rfl
def f38 (k : Nat) (v1 : Int32) (s : mS) : Option (Int32) :=
  r38 k 0 v1 0 0 s
theorem t_f38 {S : mE} {ex : mHp} {k : Nat} {v1 : Int32} {s : mS} {r : Int32} (h : f38 k v1 s = some r) : Run S 38 (0, [(0, .ref 21), (1, .int v1)], [], hp s ex) (.inl (some (.int r)), hp s ex) := by
  unfold f38 at h
  refine R_ic (v := 0) d38_0 (by decide) ?_
  refine R_p (ls' := [(0, .ref 21), (1, .int v1), (2, .int 0)]) d38_1 rfl rfl ?_
  exact (s38 (S := S) (ex := ex) k).1 v1 0 0 s _ h
end
