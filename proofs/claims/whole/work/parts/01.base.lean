-- ===== PART A: goes FIRST, ahead of the names: the tables' words, and 'selects' of the private methods out of them =====
/-- a private method of a class that the tables say can be made, by its rows of tables_1 -/
def lw_okq (q : MethodName × Nat) : Prop := (q.1.cls ≠ "java/lang/invoke/MethodHandle" ∧ q.1.cls ≠ "java/lang/invoke/VarHandle") ∧ Cond.instantiable q.1.cls q.2 ∈ tables_1 ∧ Cond.privateMethod q.1 ∈ tables_1 ∧ Cond.instanceMethod q.1 ∈ tables_1
theorem lw_p0 : lw_okq (⟨"RectilinearRoof", "recordChange", "()V"⟩, 7) := ⟨⟨by decide +kernel, by decide +kernel⟩, List.mem_of_getElem? (i := 23) (by decide +kernel), List.mem_of_getElem? (i := 384) (by decide +kernel), List.mem_of_getElem? (i := 385) (by decide +kernel)⟩
theorem lw_p1 : lw_okq (⟨"RectilinearRoof$Roof", "measure", "(LRectilinearRoof$Region;)V"⟩, 12) := ⟨⟨by decide +kernel, by decide +kernel⟩, List.mem_of_getElem? (i := 95) (by decide +kernel), List.mem_of_getElem? (i := 426) (by decide +kernel), List.mem_of_getElem? (i := 427) (by decide +kernel)⟩
theorem lw_p2 : lw_okq (⟨"RectilinearRoof$Roof", "loadLayer", "(LRectilinearRoof$Region;)V"⟩, 12) := ⟨⟨by decide +kernel, by decide +kernel⟩, List.mem_of_getElem? (i := 95) (by decide +kernel), List.mem_of_getElem? (i := 431) (by decide +kernel), List.mem_of_getElem? (i := 432) (by decide +kernel)⟩
theorem lw_p3 : lw_okq (⟨"RectilinearRoof$Roof", "layerCells", "()I"⟩, 12) := ⟨⟨by decide +kernel, by decide +kernel⟩, List.mem_of_getElem? (i := 95) (by decide +kernel), List.mem_of_getElem? (i := 440) (by decide +kernel), List.mem_of_getElem? (i := 441) (by decide +kernel)⟩
theorem lw_p4 : lw_okq (⟨"RectilinearRoof$Roof", "noteSamples", "(I)V"⟩, 12) := ⟨⟨by decide +kernel, by decide +kernel⟩, List.mem_of_getElem? (i := 95) (by decide +kernel), List.mem_of_getElem? (i := 450) (by decide +kernel), List.mem_of_getElem? (i := 451) (by decide +kernel)⟩
theorem lw_p5 : lw_okq (⟨"RectilinearRoof$Roof", "copyLayer", "(LRectilinearRoof$Phase;)V"⟩, 12) := ⟨⟨by decide +kernel, by decide +kernel⟩, List.mem_of_getElem? (i := 95) (by decide +kernel), List.mem_of_getElem? (i := 461) (by decide +kernel), List.mem_of_getElem? (i := 462) (by decide +kernel)⟩
theorem lw_p6 : lw_okq (⟨"RectilinearRoof$Roof", "shrinkLayer", "()V"⟩, 12) := ⟨⟨by decide +kernel, by decide +kernel⟩, List.mem_of_getElem? (i := 95) (by decide +kernel), List.mem_of_getElem? (i := 469) (by decide +kernel), List.mem_of_getElem? (i := 470) (by decide +kernel)⟩
theorem lw_p7 : lw_okq (⟨"RectilinearRoof$Phase", "findRuns", "()V"⟩, 11) := ⟨⟨by decide +kernel, by decide +kernel⟩, List.mem_of_getElem? (i := 181) (by decide +kernel), List.mem_of_getElem? (i := 477) (by decide +kernel), List.mem_of_getElem? (i := 478) (by decide +kernel)⟩
theorem lw_p8 : lw_okq (⟨"RectilinearRoof$Phase", "addRun", "(JI)V"⟩, 11) := ⟨⟨by decide +kernel, by decide +kernel⟩, List.mem_of_getElem? (i := 181) (by decide +kernel), List.mem_of_getElem? (i := 483) (by decide +kernel), List.mem_of_getElem? (i := 484) (by decide +kernel)⟩
theorem lw_p9 : lw_okq (⟨"RectilinearRoof$Phase", "labelFrom", "(I)V"⟩, 11) := ⟨⟨by decide +kernel, by decide +kernel⟩, List.mem_of_getElem? (i := 181) (by decide +kernel), List.mem_of_getElem? (i := 489) (by decide +kernel), List.mem_of_getElem? (i := 490) (by decide +kernel)⟩
theorem lw_p10 : lw_okq (⟨"RectilinearRoof$Phase", "labelBeside", "(III)I"⟩, 11) := ⟨⟨by decide +kernel, by decide +kernel⟩, List.mem_of_getElem? (i := 181) (by decide +kernel), List.mem_of_getElem? (i := 493) (by decide +kernel), List.mem_of_getElem? (i := 494) (by decide +kernel)⟩
theorem lw_p11 : lw_okq (⟨"RectilinearRoof$Phase", "link", "(LRectilinearRoof$Phase;I)V"⟩, 11) := ⟨⟨by decide +kernel, by decide +kernel⟩, List.mem_of_getElem? (i := 181) (by decide +kernel), List.mem_of_getElem? (i := 498) (by decide +kernel), List.mem_of_getElem? (i := 499) (by decide +kernel)⟩
theorem lw_p12 : lw_okq (⟨"RectilinearRoof$Outline", "findBends", "(LRectilinearRoof$Phase;)V"⟩, 16) := ⟨⟨by decide +kernel, by decide +kernel⟩, List.mem_of_getElem? (i := 187) (by decide +kernel), List.mem_of_getElem? (i := 522) (by decide +kernel), List.mem_of_getElem? (i := 523) (by decide +kernel)⟩
theorem lw_p13 : lw_okq (⟨"RectilinearRoof$Outline", "follow", "(LRectilinearRoof$Phase;II)V"⟩, 16) := ⟨⟨by decide +kernel, by decide +kernel⟩, List.mem_of_getElem? (i := 187) (by decide +kernel), List.mem_of_getElem? (i := 532) (by decide +kernel), List.mem_of_getElem? (i := 533) (by decide +kernel)⟩
theorem lw_p14 : lw_okq (⟨"RectilinearRoof$Outline", "stepsToBend", "(III)I"⟩, 16) := ⟨⟨by decide +kernel, by decide +kernel⟩, List.mem_of_getElem? (i := 187) (by decide +kernel), List.mem_of_getElem? (i := 537) (by decide +kernel), List.mem_of_getElem? (i := 538) (by decide +kernel)⟩
theorem lw_p15 : lw_okq (⟨"RectilinearRoof$Outline", "isBend", "(II)Z"⟩, 16) := ⟨⟨by decide +kernel, by decide +kernel⟩, List.mem_of_getElem? (i := 187) (by decide +kernel), List.mem_of_getElem? (i := 547) (by decide +kernel), List.mem_of_getElem? (i := 548) (by decide +kernel)⟩
def lw_privs_1 : List (MethodName × Nat) := [(⟨"RectilinearRoof", "recordChange", "()V"⟩, 7), (⟨"RectilinearRoof$Roof", "measure", "(LRectilinearRoof$Region;)V"⟩, 12), (⟨"RectilinearRoof$Roof", "loadLayer", "(LRectilinearRoof$Region;)V"⟩, 12), (⟨"RectilinearRoof$Roof", "layerCells", "()I"⟩, 12), (⟨"RectilinearRoof$Roof", "noteSamples", "(I)V"⟩, 12), (⟨"RectilinearRoof$Roof", "copyLayer", "(LRectilinearRoof$Phase;)V"⟩, 12), (⟨"RectilinearRoof$Roof", "shrinkLayer", "()V"⟩, 12), (⟨"RectilinearRoof$Phase", "findRuns", "()V"⟩, 11), (⟨"RectilinearRoof$Phase", "addRun", "(JI)V"⟩, 11), (⟨"RectilinearRoof$Phase", "labelFrom", "(I)V"⟩, 11), (⟨"RectilinearRoof$Phase", "labelBeside", "(III)I"⟩, 11), (⟨"RectilinearRoof$Phase", "link", "(LRectilinearRoof$Phase;I)V"⟩, 11), (⟨"RectilinearRoof$Outline", "findBends", "(LRectilinearRoof$Phase;)V"⟩, 16), (⟨"RectilinearRoof$Outline", "follow", "(LRectilinearRoof$Phase;II)V"⟩, 16), (⟨"RectilinearRoof$Outline", "stepsToBend", "(III)I"⟩, 16), (⟨"RectilinearRoof$Outline", "isBend", "(II)Z"⟩, 16)]
theorem lw_r1 : ∀ q ∈ lw_privs_1, lw_okq q := List.forall_mem_cons.mpr ⟨lw_p0, List.forall_mem_cons.mpr ⟨lw_p1, List.forall_mem_cons.mpr ⟨lw_p2, List.forall_mem_cons.mpr ⟨lw_p3, List.forall_mem_cons.mpr ⟨lw_p4, List.forall_mem_cons.mpr ⟨lw_p5, List.forall_mem_cons.mpr ⟨lw_p6, List.forall_mem_cons.mpr ⟨lw_p7, List.forall_mem_cons.mpr ⟨lw_p8, List.forall_mem_cons.mpr ⟨lw_p9, List.forall_mem_cons.mpr ⟨lw_p10, List.forall_mem_cons.mpr ⟨lw_p11, List.forall_mem_cons.mpr ⟨lw_p12, List.forall_mem_cons.mpr ⟨lw_p13, List.forall_mem_cons.mpr ⟨lw_p14, List.forall_mem_cons.mpr ⟨lw_p15, fun _ h => absurd h List.not_mem_nil⟩⟩⟩⟩⟩⟩⟩⟩⟩⟩⟩⟩⟩⟩⟩⟩
theorem lw_p16 : lw_okq (⟨"RectilinearRoof$Outline", "addSide", "(IIII)V"⟩, 16) := ⟨⟨by decide +kernel, by decide +kernel⟩, List.mem_of_getElem? (i := 187) (by decide +kernel), List.mem_of_getElem? (i := 551) (by decide +kernel), List.mem_of_getElem? (i := 552) (by decide +kernel)⟩
theorem lw_p17 : lw_okq (⟨"RectilinearRoof$Edges", "keyOf", "(I)I"⟩, 10) := ⟨⟨by decide +kernel, by decide +kernel⟩, List.mem_of_getElem? (i := 101) (by decide +kernel), List.mem_of_getElem? (i := 590) (by decide +kernel), List.mem_of_getElem? (i := 591) (by decide +kernel)⟩
theorem lw_p18 : lw_okq (⟨"RectilinearRoof$Edges", "sortIn", "(I)V"⟩, 10) := ⟨⟨by decide +kernel, by decide +kernel⟩, List.mem_of_getElem? (i := 101) (by decide +kernel), List.mem_of_getElem? (i := 603) (by decide +kernel), List.mem_of_getElem? (i := 604) (by decide +kernel)⟩
theorem lw_p19 : lw_okq (⟨"RectilinearRoof$Tree", "pushChildren", "(LRectilinearRoof$Phase;III)V"⟩, 11) := ⟨⟨by decide +kernel, by decide +kernel⟩, List.mem_of_getElem? (i := 140) (by decide +kernel), List.mem_of_getElem? (i := 612) (by decide +kernel), List.mem_of_getElem? (i := 613) (by decide +kernel)⟩
theorem lw_p20 : lw_okq (⟨"RectilinearRoof$Tree", "growBranch", "(LRectilinearRoof$Roof;III)V"⟩, 11) := ⟨⟨by decide +kernel, by decide +kernel⟩, List.mem_of_getElem? (i := 140) (by decide +kernel), List.mem_of_getElem? (i := 622) (by decide +kernel), List.mem_of_getElem? (i := 623) (by decide +kernel)⟩
theorem lw_p21 : lw_okq (⟨"RectilinearRoof$Tree", "measureWays", "()V"⟩, 11) := ⟨⟨by decide +kernel, by decide +kernel⟩, List.mem_of_getElem? (i := 140) (by decide +kernel), List.mem_of_getElem? (i := 632) (by decide +kernel), List.mem_of_getElem? (i := 633) (by decide +kernel)⟩
theorem lw_p22 : lw_okq (⟨"RectilinearRoof$Roof", "findFaces", "()V"⟩, 12) := ⟨⟨by decide +kernel, by decide +kernel⟩, List.mem_of_getElem? (i := 95) (by decide +kernel), List.mem_of_getElem? (i := 640) (by decide +kernel), List.mem_of_getElem? (i := 641) (by decide +kernel)⟩
theorem lw_p23 : lw_okq (⟨"RectilinearRoof$Roof", "lowestTouched", "(I)I"⟩, 12) := ⟨⟨by decide +kernel, by decide +kernel⟩, List.mem_of_getElem? (i := 95) (by decide +kernel), List.mem_of_getElem? (i := 645) (by decide +kernel), List.mem_of_getElem? (i := 646) (by decide +kernel)⟩
theorem lw_p24 : lw_okq (⟨"RectilinearRoof$Region", "isCorner", "(II)Z"⟩, 2) := ⟨⟨by decide +kernel, by decide +kernel⟩, List.mem_of_getElem? (i := 31) (by decide +kernel), List.mem_of_getElem? (i := 669) (by decide +kernel), List.mem_of_getElem? (i := 670) (by decide +kernel)⟩
theorem lw_p25 : lw_okq (⟨"RectilinearRoof$Region", "hasShapeOf", "(LRectilinearRoof$Region;)Z"⟩, 2) := ⟨⟨by decide +kernel, by decide +kernel⟩, List.mem_of_getElem? (i := 31) (by decide +kernel), List.mem_of_getElem? (i := 687) (by decide +kernel), List.mem_of_getElem? (i := 688) (by decide +kernel)⟩
theorem lw_p26 : lw_okq (⟨"RectilinearRoof$Region", "leastX", "()I"⟩, 2) := ⟨⟨by decide +kernel, by decide +kernel⟩, List.mem_of_getElem? (i := 31) (by decide +kernel), List.mem_of_getElem? (i := 691) (by decide +kernel), List.mem_of_getElem? (i := 692) (by decide +kernel)⟩
theorem lw_p27 : lw_okq (⟨"RectilinearRoof$Region", "leastY", "()I"⟩, 2) := ⟨⟨by decide +kernel, by decide +kernel⟩, List.mem_of_getElem? (i := 31) (by decide +kernel), List.mem_of_getElem? (i := 695) (by decide +kernel), List.mem_of_getElem? (i := 696) (by decide +kernel)⟩
theorem lw_p28 : lw_okq (⟨"RectilinearRoof$Roof", "isEvent", "(I)Z"⟩, 12) := ⟨⟨by decide +kernel, by decide +kernel⟩, List.mem_of_getElem? (i := 95) (by decide +kernel), List.mem_of_getElem? (i := 731) (by decide +kernel), List.mem_of_getElem? (i := 732) (by decide +kernel)⟩
theorem lw_p29 : lw_okq (⟨"java/lang/Throwable", "fillInStackTrace", "(I)Ljava/lang/Throwable;"⟩, 6) := ⟨⟨by decide +kernel, by decide +kernel⟩, List.mem_of_getElem? (i := 786) (by decide +kernel), List.mem_of_getElem? (i := 784) (by decide +kernel), List.mem_of_getElem? (i := 785) (by decide +kernel)⟩
theorem lw_p30 : lw_okq (⟨"RectilinearRoof$Script", "readCommand", "()V"⟩, 6) := ⟨⟨by decide +kernel, by decide +kernel⟩, List.mem_of_getElem? (i := 67) (by decide +kernel), List.mem_of_getElem? (i := 888) (by decide +kernel), List.mem_of_getElem? (i := 889) (by decide +kernel)⟩
theorem lw_p31 : lw_okq (⟨"RectilinearRoof$Script", "sign", "()I"⟩, 6) := ⟨⟨by decide +kernel, by decide +kernel⟩, List.mem_of_getElem? (i := 67) (by decide +kernel), List.mem_of_getElem? (i := 892) (by decide +kernel), List.mem_of_getElem? (i := 893) (by decide +kernel)⟩
def lw_privs_2 : List (MethodName × Nat) := [(⟨"RectilinearRoof$Outline", "addSide", "(IIII)V"⟩, 16), (⟨"RectilinearRoof$Edges", "keyOf", "(I)I"⟩, 10), (⟨"RectilinearRoof$Edges", "sortIn", "(I)V"⟩, 10), (⟨"RectilinearRoof$Tree", "pushChildren", "(LRectilinearRoof$Phase;III)V"⟩, 11), (⟨"RectilinearRoof$Tree", "growBranch", "(LRectilinearRoof$Roof;III)V"⟩, 11), (⟨"RectilinearRoof$Tree", "measureWays", "()V"⟩, 11), (⟨"RectilinearRoof$Roof", "findFaces", "()V"⟩, 12), (⟨"RectilinearRoof$Roof", "lowestTouched", "(I)I"⟩, 12), (⟨"RectilinearRoof$Region", "isCorner", "(II)Z"⟩, 2), (⟨"RectilinearRoof$Region", "hasShapeOf", "(LRectilinearRoof$Region;)Z"⟩, 2), (⟨"RectilinearRoof$Region", "leastX", "()I"⟩, 2), (⟨"RectilinearRoof$Region", "leastY", "()I"⟩, 2), (⟨"RectilinearRoof$Roof", "isEvent", "(I)Z"⟩, 12), (⟨"java/lang/Throwable", "fillInStackTrace", "(I)Ljava/lang/Throwable;"⟩, 6), (⟨"RectilinearRoof$Script", "readCommand", "()V"⟩, 6), (⟨"RectilinearRoof$Script", "sign", "()I"⟩, 6)]
theorem lw_r2 : ∀ q ∈ lw_privs_2, lw_okq q := List.forall_mem_cons.mpr ⟨lw_p16, List.forall_mem_cons.mpr ⟨lw_p17, List.forall_mem_cons.mpr ⟨lw_p18, List.forall_mem_cons.mpr ⟨lw_p19, List.forall_mem_cons.mpr ⟨lw_p20, List.forall_mem_cons.mpr ⟨lw_p21, List.forall_mem_cons.mpr ⟨lw_p22, List.forall_mem_cons.mpr ⟨lw_p23, List.forall_mem_cons.mpr ⟨lw_p24, List.forall_mem_cons.mpr ⟨lw_p25, List.forall_mem_cons.mpr ⟨lw_p26, List.forall_mem_cons.mpr ⟨lw_p27, List.forall_mem_cons.mpr ⟨lw_p28, List.forall_mem_cons.mpr ⟨lw_p29, List.forall_mem_cons.mpr ⟨lw_p30, List.forall_mem_cons.mpr ⟨lw_p31, fun _ h => absurd h List.not_mem_nil⟩⟩⟩⟩⟩⟩⟩⟩⟩⟩⟩⟩⟩⟩⟩⟩
theorem lw_p32 : lw_okq (⟨"RectilinearRoof$Script", "readRectangle", "()V"⟩, 6) := ⟨⟨by decide +kernel, by decide +kernel⟩, List.mem_of_getElem? (i := 67) (by decide +kernel), List.mem_of_getElem? (i := 899) (by decide +kernel), List.mem_of_getElem? (i := 900) (by decide +kernel)⟩
theorem lw_p33 : lw_okq (⟨"RectilinearRoof$Script", "readNumber", "(II)I"⟩, 6) := ⟨⟨by decide +kernel, by decide +kernel⟩, List.mem_of_getElem? (i := 67) (by decide +kernel), List.mem_of_getElem? (i := 903) (by decide +kernel), List.mem_of_getElem? (i := 904) (by decide +kernel)⟩
theorem lw_p34 : lw_okq (⟨"RectilinearRoof$Script", "digit", "()I"⟩, 6) := ⟨⟨by decide +kernel, by decide +kernel⟩, List.mem_of_getElem? (i := 67) (by decide +kernel), List.mem_of_getElem? (i := 907) (by decide +kernel), List.mem_of_getElem? (i := 908) (by decide +kernel)⟩
theorem lw_p35 : lw_okq (⟨"RectilinearRoof$Script", "readSign", "(C)V"⟩, 6) := ⟨⟨by decide +kernel, by decide +kernel⟩, List.mem_of_getElem? (i := 67) (by decide +kernel), List.mem_of_getElem? (i := 911) (by decide +kernel), List.mem_of_getElem? (i := 912) (by decide +kernel)⟩
theorem lw_p36 : lw_okq (⟨"RectilinearRoof$History", "load", "(LRectilinearRoof$Region;)V"⟩, 4) := ⟨⟨by decide +kernel, by decide +kernel⟩, List.mem_of_getElem? (i := 46) (by decide +kernel), List.mem_of_getElem? (i := 937) (by decide +kernel), List.mem_of_getElem? (i := 938) (by decide +kernel)⟩
theorem lw_p37 : lw_okq (⟨"RectilinearRoof$Roof", "faceSize", "(I)I"⟩, 12) := ⟨⟨by decide +kernel, by decide +kernel⟩, List.mem_of_getElem? (i := 95) (by decide +kernel), List.mem_of_getElem? (i := 997) (by decide +kernel), List.mem_of_getElem? (i := 998) (by decide +kernel)⟩
theorem lw_p38 : lw_okq (⟨"RectilinearRoof$Roof", "extinction", "(I)I"⟩, 12) := ⟨⟨by decide +kernel, by decide +kernel⟩, List.mem_of_getElem? (i := 95) (by decide +kernel), List.mem_of_getElem? (i := 1001) (by decide +kernel), List.mem_of_getElem? (i := 1002) (by decide +kernel)⟩
theorem lw_p39 : lw_okq (⟨"RectilinearRoof$Roof", "drives", "(II)Z"⟩, 12) := ⟨⟨by decide +kernel, by decide +kernel⟩, List.mem_of_getElem? (i := 95) (by decide +kernel), List.mem_of_getElem? (i := 1005) (by decide +kernel), List.mem_of_getElem? (i := 1006) (by decide +kernel)⟩
theorem lw_p40 : lw_okq (⟨"RectilinearRoof$Edges", "lengthOfKey", "(I)I"⟩, 10) := ⟨⟨by decide +kernel, by decide +kernel⟩, List.mem_of_getElem? (i := 101) (by decide +kernel), List.mem_of_getElem? (i := 1027) (by decide +kernel), List.mem_of_getElem? (i := 1028) (by decide +kernel)⟩
theorem lw_p41 : lw_okq (⟨"RectilinearRoof$Roof", "mergedSides", "(I)I"⟩, 12) := ⟨⟨by decide +kernel, by decide +kernel⟩, List.mem_of_getElem? (i := 95) (by decide +kernel), List.mem_of_getElem? (i := 1087) (by decide +kernel), List.mem_of_getElem? (i := 1088) (by decide +kernel)⟩
theorem lw_p42 : lw_okq (⟨"RectilinearRoof$Roof", "eventPhase", "(I)I"⟩, 12) := ⟨⟨by decide +kernel, by decide +kernel⟩, List.mem_of_getElem? (i := 95) (by decide +kernel), List.mem_of_getElem? (i := 1183) (by decide +kernel), List.mem_of_getElem? (i := 1184) (by decide +kernel)⟩
theorem lw_p43 : lw_okq (⟨"RectilinearRoofModel", "draws", "(IIIII)V"⟩, 54) := ⟨⟨by decide +kernel, by decide +kernel⟩, List.mem_of_getElem? (i := 1250) (by decide +kernel), List.mem_of_getElem? (i := 1434) (by decide +kernel), List.mem_of_getElem? (i := 1435) (by decide +kernel)⟩
theorem lw_p44 : lw_okq (⟨"RectilinearRoofModel", "changes", "()V"⟩, 54) := ⟨⟨by decide +kernel, by decide +kernel⟩, List.mem_of_getElem? (i := 1250) (by decide +kernel), List.mem_of_getElem? (i := 1438) (by decide +kernel), List.mem_of_getElem? (i := 1439) (by decide +kernel)⟩
theorem lw_p45 : lw_okq (⟨"RectilinearRoofModel", "pushes", "([II)V"⟩, 54) := ⟨⟨by decide +kernel, by decide +kernel⟩, List.mem_of_getElem? (i := 1250) (by decide +kernel), List.mem_of_getElem? (i := 1442) (by decide +kernel), List.mem_of_getElem? (i := 1443) (by decide +kernel)⟩
theorem lw_p46 : lw_okq (⟨"RectilinearRoofModel", "cells", "()I"⟩, 54) := ⟨⟨by decide +kernel, by decide +kernel⟩, List.mem_of_getElem? (i := 1250) (by decide +kernel), List.mem_of_getElem? (i := 1446) (by decide +kernel), List.mem_of_getElem? (i := 1447) (by decide +kernel)⟩
theorem lw_p47 : lw_okq (⟨"RectilinearRoofModel", "command", "()V"⟩, 54) := ⟨⟨by decide +kernel, by decide +kernel⟩, List.mem_of_getElem? (i := 1250) (by decide +kernel), List.mem_of_getElem? (i := 1481) (by decide +kernel), List.mem_of_getElem? (i := 1482) (by decide +kernel)⟩
def lw_privs_3 : List (MethodName × Nat) := [(⟨"RectilinearRoof$Script", "readRectangle", "()V"⟩, 6), (⟨"RectilinearRoof$Script", "readNumber", "(II)I"⟩, 6), (⟨"RectilinearRoof$Script", "digit", "()I"⟩, 6), (⟨"RectilinearRoof$Script", "readSign", "(C)V"⟩, 6), (⟨"RectilinearRoof$History", "load", "(LRectilinearRoof$Region;)V"⟩, 4), (⟨"RectilinearRoof$Roof", "faceSize", "(I)I"⟩, 12), (⟨"RectilinearRoof$Roof", "extinction", "(I)I"⟩, 12), (⟨"RectilinearRoof$Roof", "drives", "(II)Z"⟩, 12), (⟨"RectilinearRoof$Edges", "lengthOfKey", "(I)I"⟩, 10), (⟨"RectilinearRoof$Roof", "mergedSides", "(I)I"⟩, 12), (⟨"RectilinearRoof$Roof", "eventPhase", "(I)I"⟩, 12), (⟨"RectilinearRoofModel", "draws", "(IIIII)V"⟩, 54), (⟨"RectilinearRoofModel", "changes", "()V"⟩, 54), (⟨"RectilinearRoofModel", "pushes", "([II)V"⟩, 54), (⟨"RectilinearRoofModel", "cells", "()I"⟩, 54), (⟨"RectilinearRoofModel", "command", "()V"⟩, 54)]
theorem lw_r3 : ∀ q ∈ lw_privs_3, lw_okq q := List.forall_mem_cons.mpr ⟨lw_p32, List.forall_mem_cons.mpr ⟨lw_p33, List.forall_mem_cons.mpr ⟨lw_p34, List.forall_mem_cons.mpr ⟨lw_p35, List.forall_mem_cons.mpr ⟨lw_p36, List.forall_mem_cons.mpr ⟨lw_p37, List.forall_mem_cons.mpr ⟨lw_p38, List.forall_mem_cons.mpr ⟨lw_p39, List.forall_mem_cons.mpr ⟨lw_p40, List.forall_mem_cons.mpr ⟨lw_p41, List.forall_mem_cons.mpr ⟨lw_p42, List.forall_mem_cons.mpr ⟨lw_p43, List.forall_mem_cons.mpr ⟨lw_p44, List.forall_mem_cons.mpr ⟨lw_p45, List.forall_mem_cons.mpr ⟨lw_p46, List.forall_mem_cons.mpr ⟨lw_p47, fun _ h => absurd h List.not_mem_nil⟩⟩⟩⟩⟩⟩⟩⟩⟩⟩⟩⟩⟩⟩⟩⟩
theorem lw_p48 : lw_okq (⟨"RectilinearRoofModel", "letter", "()I"⟩, 54) := ⟨⟨by decide +kernel, by decide +kernel⟩, List.mem_of_getElem? (i := 1250) (by decide +kernel), List.mem_of_getElem? (i := 1485) (by decide +kernel), List.mem_of_getElem? (i := 1486) (by decide +kernel)⟩
theorem lw_p49 : lw_okq (⟨"RectilinearRoofModel", "takes", "(I)V"⟩, 54) := ⟨⟨by decide +kernel, by decide +kernel⟩, List.mem_of_getElem? (i := 1250) (by decide +kernel), List.mem_of_getElem? (i := 1489) (by decide +kernel), List.mem_of_getElem? (i := 1490) (by decide +kernel)⟩
theorem lw_p50 : lw_okq (⟨"RectilinearRoofModel", "turns", "(Z)V"⟩, 54) := ⟨⟨by decide +kernel, by decide +kernel⟩, List.mem_of_getElem? (i := 1250) (by decide +kernel), List.mem_of_getElem? (i := 1493) (by decide +kernel), List.mem_of_getElem? (i := 1494) (by decide +kernel)⟩
theorem lw_p51 : lw_okq (⟨"RectilinearRoofModel", "number", "(II)I"⟩, 54) := ⟨⟨by decide +kernel, by decide +kernel⟩, List.mem_of_getElem? (i := 1250) (by decide +kernel), List.mem_of_getElem? (i := 1497) (by decide +kernel), List.mem_of_getElem? (i := 1498) (by decide +kernel)⟩
theorem lw_p52 : lw_okq (⟨"RectilinearRoofModel", "has", "(II)Z"⟩, 54) := ⟨⟨by decide +kernel, by decide +kernel⟩, List.mem_of_getElem? (i := 1250) (by decide +kernel), List.mem_of_getElem? (i := 1509) (by decide +kernel), List.mem_of_getElem? (i := 1510) (by decide +kernel)⟩
theorem lw_p53 : lw_okq (⟨"RectilinearRoofModel", "works", "()V"⟩, 54) := ⟨⟨by decide +kernel, by decide +kernel⟩, List.mem_of_getElem? (i := 1250) (by decide +kernel), List.mem_of_getElem? (i := 1517) (by decide +kernel), List.mem_of_getElem? (i := 1518) (by decide +kernel)⟩
theorem lw_p54 : lw_okq (⟨"RectilinearRoofModel", "refines", "(I)V"⟩, 54) := ⟨⟨by decide +kernel, by decide +kernel⟩, List.mem_of_getElem? (i := 1250) (by decide +kernel), List.mem_of_getElem? (i := 1521) (by decide +kernel), List.mem_of_getElem? (i := 1522) (by decide +kernel)⟩
theorem lw_p55 : lw_okq (⟨"RectilinearRoofModel", "wears", "(I)V"⟩, 54) := ⟨⟨by decide +kernel, by decide +kernel⟩, List.mem_of_getElem? (i := 1250) (by decide +kernel), List.mem_of_getElem? (i := 1525) (by decide +kernel), List.mem_of_getElem? (i := 1526) (by decide +kernel)⟩
theorem lw_p56 : lw_okq (⟨"RectilinearRoofModel", "isWorn", "(I)Z"⟩, 54) := ⟨⟨by decide +kernel, by decide +kernel⟩, List.mem_of_getElem? (i := 1250) (by decide +kernel), List.mem_of_getElem? (i := 1529) (by decide +kernel), List.mem_of_getElem? (i := 1530) (by decide +kernel)⟩
theorem lw_p57 : lw_okq (⟨"RectilinearRoofModel", "labels", "(I)V"⟩, 54) := ⟨⟨by decide +kernel, by decide +kernel⟩, List.mem_of_getElem? (i := 1250) (by decide +kernel), List.mem_of_getElem? (i := 1533) (by decide +kernel), List.mem_of_getElem? (i := 1534) (by decide +kernel)⟩
theorem lw_p58 : lw_okq (⟨"RectilinearRoofModel", "is", "(III)Z"⟩, 54) := ⟨⟨by decide +kernel, by decide +kernel⟩, List.mem_of_getElem? (i := 1250) (by decide +kernel), List.mem_of_getElem? (i := 1537) (by decide +kernel), List.mem_of_getElem? (i := 1538) (by decide +kernel)⟩
theorem lw_p59 : lw_okq (⟨"RectilinearRoofModel", "spreads", "(III)V"⟩, 54) := ⟨⟨by decide +kernel, by decide +kernel⟩, List.mem_of_getElem? (i := 1250) (by decide +kernel), List.mem_of_getElem? (i := 1544) (by decide +kernel), List.mem_of_getElem? (i := 1545) (by decide +kernel)⟩
theorem lw_p60 : lw_okq (⟨"RectilinearRoofModel", "curves", "(I)V"⟩, 54) := ⟨⟨by decide +kernel, by decide +kernel⟩, List.mem_of_getElem? (i := 1250) (by decide +kernel), List.mem_of_getElem? (i := 1548) (by decide +kernel), List.mem_of_getElem? (i := 1549) (by decide +kernel)⟩
theorem lw_p61 : lw_okq (⟨"RectilinearRoofModel", "isCorner", "(III)Z"⟩, 54) := ⟨⟨by decide +kernel, by decide +kernel⟩, List.mem_of_getElem? (i := 1250) (by decide +kernel), List.mem_of_getElem? (i := 1552) (by decide +kernel), List.mem_of_getElem? (i := 1553) (by decide +kernel)⟩
theorem lw_p62 : lw_okq (⟨"RectilinearRoofModel", "leaves", "(III)I"⟩, 54) := ⟨⟨by decide +kernel, by decide +kernel⟩, List.mem_of_getElem? (i := 1250) (by decide +kernel), List.mem_of_getElem? (i := 1556) (by decide +kernel), List.mem_of_getElem? (i := 1557) (by decide +kernel)⟩
theorem lw_p63 : lw_okq (⟨"RectilinearRoofModel", "edgesWorked", "()V"⟩, 54) := ⟨⟨by decide +kernel, by decide +kernel⟩, List.mem_of_getElem? (i := 1250) (by decide +kernel), List.mem_of_getElem? (i := 1560) (by decide +kernel), List.mem_of_getElem? (i := 1561) (by decide +kernel)⟩
def lw_privs_4 : List (MethodName × Nat) := [(⟨"RectilinearRoofModel", "letter", "()I"⟩, 54), (⟨"RectilinearRoofModel", "takes", "(I)V"⟩, 54), (⟨"RectilinearRoofModel", "turns", "(Z)V"⟩, 54), (⟨"RectilinearRoofModel", "number", "(II)I"⟩, 54), (⟨"RectilinearRoofModel", "has", "(II)Z"⟩, 54), (⟨"RectilinearRoofModel", "works", "()V"⟩, 54), (⟨"RectilinearRoofModel", "refines", "(I)V"⟩, 54), (⟨"RectilinearRoofModel", "wears", "(I)V"⟩, 54), (⟨"RectilinearRoofModel", "isWorn", "(I)Z"⟩, 54), (⟨"RectilinearRoofModel", "labels", "(I)V"⟩, 54), (⟨"RectilinearRoofModel", "is", "(III)Z"⟩, 54), (⟨"RectilinearRoofModel", "spreads", "(III)V"⟩, 54), (⟨"RectilinearRoofModel", "curves", "(I)V"⟩, 54), (⟨"RectilinearRoofModel", "isCorner", "(III)Z"⟩, 54), (⟨"RectilinearRoofModel", "leaves", "(III)I"⟩, 54), (⟨"RectilinearRoofModel", "edgesWorked", "()V"⟩, 54)]
theorem lw_r4 : ∀ q ∈ lw_privs_4, lw_okq q := List.forall_mem_cons.mpr ⟨lw_p48, List.forall_mem_cons.mpr ⟨lw_p49, List.forall_mem_cons.mpr ⟨lw_p50, List.forall_mem_cons.mpr ⟨lw_p51, List.forall_mem_cons.mpr ⟨lw_p52, List.forall_mem_cons.mpr ⟨lw_p53, List.forall_mem_cons.mpr ⟨lw_p54, List.forall_mem_cons.mpr ⟨lw_p55, List.forall_mem_cons.mpr ⟨lw_p56, List.forall_mem_cons.mpr ⟨lw_p57, List.forall_mem_cons.mpr ⟨lw_p58, List.forall_mem_cons.mpr ⟨lw_p59, List.forall_mem_cons.mpr ⟨lw_p60, List.forall_mem_cons.mpr ⟨lw_p61, List.forall_mem_cons.mpr ⟨lw_p62, List.forall_mem_cons.mpr ⟨lw_p63, fun _ h => absurd h List.not_mem_nil⟩⟩⟩⟩⟩⟩⟩⟩⟩⟩⟩⟩⟩⟩⟩⟩
theorem lw_p64 : lw_okq (⟨"RectilinearRoofModel", "sizeOf", "(II)I"⟩, 54) := ⟨⟨by decide +kernel, by decide +kernel⟩, List.mem_of_getElem? (i := 1250) (by decide +kernel), List.mem_of_getElem? (i := 1564) (by decide +kernel), List.mem_of_getElem? (i := 1565) (by decide +kernel)⟩
theorem lw_p65 : lw_okq (⟨"RectilinearRoofModel", "start", "(II)I"⟩, 54) := ⟨⟨by decide +kernel, by decide +kernel⟩, List.mem_of_getElem? (i := 1250) (by decide +kernel), List.mem_of_getElem? (i := 1568) (by decide +kernel), List.mem_of_getElem? (i := 1569) (by decide +kernel)⟩
theorem lw_p66 : lw_okq (⟨"RectilinearRoofModel", "side", "(III)V"⟩, 54) := ⟨⟨by decide +kernel, by decide +kernel⟩, List.mem_of_getElem? (i := 1250) (by decide +kernel), List.mem_of_getElem? (i := 1572) (by decide +kernel), List.mem_of_getElem? (i := 1573) (by decide +kernel)⟩
theorem lw_p67 : lw_okq (⟨"RectilinearRoofModel", "faceOf", "(II)I"⟩, 54) := ⟨⟨by decide +kernel, by decide +kernel⟩, List.mem_of_getElem? (i := 1250) (by decide +kernel), List.mem_of_getElem? (i := 1579) (by decide +kernel), List.mem_of_getElem? (i := 1580) (by decide +kernel)⟩
theorem lw_p68 : lw_okq (⟨"RectilinearRoofModel", "heightOf", "(II)I"⟩, 54) := ⟨⟨by decide +kernel, by decide +kernel⟩, List.mem_of_getElem? (i := 1250) (by decide +kernel), List.mem_of_getElem? (i := 1583) (by decide +kernel), List.mem_of_getElem? (i := 1584) (by decide +kernel)⟩
theorem lw_p69 : lw_okq (⟨"RectilinearRoofModel", "branches", "(III)V"⟩, 54) := ⟨⟨by decide +kernel, by decide +kernel⟩, List.mem_of_getElem? (i := 1250) (by decide +kernel), List.mem_of_getElem? (i := 1587) (by decide +kernel), List.mem_of_getElem? (i := 1588) (by decide +kernel)⟩
theorem lw_p70 : lw_okq (⟨"RectilinearRoofModel", "childOf", "(II)I"⟩, 54) := ⟨⟨by decide +kernel, by decide +kernel⟩, List.mem_of_getElem? (i := 1250) (by decide +kernel), List.mem_of_getElem? (i := 1591) (by decide +kernel), List.mem_of_getElem? (i := 1592) (by decide +kernel)⟩
theorem lw_p71 : lw_okq (⟨"RectilinearRoofModel", "extinct", "(I)I"⟩, 54) := ⟨⟨by decide +kernel, by decide +kernel⟩, List.mem_of_getElem? (i := 1250) (by decide +kernel), List.mem_of_getElem? (i := 1599) (by decide +kernel), List.mem_of_getElem? (i := 1600) (by decide +kernel)⟩
theorem lw_p72 : lw_okq (⟨"RectilinearRoofModel", "comes", "(II)Z"⟩, 54) := ⟨⟨by decide +kernel, by decide +kernel⟩, List.mem_of_getElem? (i := 1250) (by decide +kernel), List.mem_of_getElem? (i := 1603) (by decide +kernel), List.mem_of_getElem? (i := 1604) (by decide +kernel)⟩
theorem lw_p73 : lw_okq (⟨"RectilinearRoofModel", "firstOf", "(I)I"⟩, 54) := ⟨⟨by decide +kernel, by decide +kernel⟩, List.mem_of_getElem? (i := 1250) (by decide +kernel), List.mem_of_getElem? (i := 1615) (by decide +kernel), List.mem_of_getElem? (i := 1616) (by decide +kernel)⟩
theorem lw_p74 : lw_okq (⟨"RectilinearRoofModel", "areLike", "(II)Z"⟩, 54) := ⟨⟨by decide +kernel, by decide +kernel⟩, List.mem_of_getElem? (i := 1250) (by decide +kernel), List.mem_of_getElem? (i := 1619) (by decide +kernel), List.mem_of_getElem? (i := 1620) (by decide +kernel)⟩
theorem lw_p75 : lw_okq (⟨"RectilinearRoofModel", "isSame", "(I)Z"⟩, 54) := ⟨⟨by decide +kernel, by decide +kernel⟩, List.mem_of_getElem? (i := 1250) (by decide +kernel), List.mem_of_getElem? (i := 1631) (by decide +kernel), List.mem_of_getElem? (i := 1632) (by decide +kernel)⟩
theorem lw_p76 : lw_okq (⟨"RectilinearRoofModel", "turnedX", "(III)I"⟩, 54) := ⟨⟨by decide +kernel, by decide +kernel⟩, List.mem_of_getElem? (i := 1250) (by decide +kernel), List.mem_of_getElem? (i := 1635) (by decide +kernel), List.mem_of_getElem? (i := 1636) (by decide +kernel)⟩
theorem lw_p77 : lw_okq (⟨"RectilinearRoofModel", "turnedY", "(III)I"⟩, 54) := ⟨⟨by decide +kernel, by decide +kernel⟩, List.mem_of_getElem? (i := 1250) (by decide +kernel), List.mem_of_getElem? (i := 1639) (by decide +kernel), List.mem_of_getElem? (i := 1640) (by decide +kernel)⟩
theorem lw_p78 : lw_okq (⟨"RectilinearRoofModel", "fineMany", "(I)I"⟩, 54) := ⟨⟨by decide +kernel, by decide +kernel⟩, List.mem_of_getElem? (i := 1250) (by decide +kernel), List.mem_of_getElem? (i := 1659) (by decide +kernel), List.mem_of_getElem? (i := 1660) (by decide +kernel)⟩
theorem lw_p79 : lw_okq (⟨"RectilinearRoofModel", "holeMany", "(I)I"⟩, 54) := ⟨⟨by decide +kernel, by decide +kernel⟩, List.mem_of_getElem? (i := 1250) (by decide +kernel), List.mem_of_getElem? (i := 1671) (by decide +kernel), List.mem_of_getElem? (i := 1672) (by decide +kernel)⟩
def lw_privs_5 : List (MethodName × Nat) := [(⟨"RectilinearRoofModel", "sizeOf", "(II)I"⟩, 54), (⟨"RectilinearRoofModel", "start", "(II)I"⟩, 54), (⟨"RectilinearRoofModel", "side", "(III)V"⟩, 54), (⟨"RectilinearRoofModel", "faceOf", "(II)I"⟩, 54), (⟨"RectilinearRoofModel", "heightOf", "(II)I"⟩, 54), (⟨"RectilinearRoofModel", "branches", "(III)V"⟩, 54), (⟨"RectilinearRoofModel", "childOf", "(II)I"⟩, 54), (⟨"RectilinearRoofModel", "extinct", "(I)I"⟩, 54), (⟨"RectilinearRoofModel", "comes", "(II)Z"⟩, 54), (⟨"RectilinearRoofModel", "firstOf", "(I)I"⟩, 54), (⟨"RectilinearRoofModel", "areLike", "(II)Z"⟩, 54), (⟨"RectilinearRoofModel", "isSame", "(I)Z"⟩, 54), (⟨"RectilinearRoofModel", "turnedX", "(III)I"⟩, 54), (⟨"RectilinearRoofModel", "turnedY", "(III)I"⟩, 54), (⟨"RectilinearRoofModel", "fineMany", "(I)I"⟩, 54), (⟨"RectilinearRoofModel", "holeMany", "(I)I"⟩, 54)]
theorem lw_r5 : ∀ q ∈ lw_privs_5, lw_okq q := List.forall_mem_cons.mpr ⟨lw_p64, List.forall_mem_cons.mpr ⟨lw_p65, List.forall_mem_cons.mpr ⟨lw_p66, List.forall_mem_cons.mpr ⟨lw_p67, List.forall_mem_cons.mpr ⟨lw_p68, List.forall_mem_cons.mpr ⟨lw_p69, List.forall_mem_cons.mpr ⟨lw_p70, List.forall_mem_cons.mpr ⟨lw_p71, List.forall_mem_cons.mpr ⟨lw_p72, List.forall_mem_cons.mpr ⟨lw_p73, List.forall_mem_cons.mpr ⟨lw_p74, List.forall_mem_cons.mpr ⟨lw_p75, List.forall_mem_cons.mpr ⟨lw_p76, List.forall_mem_cons.mpr ⟨lw_p77, List.forall_mem_cons.mpr ⟨lw_p78, List.forall_mem_cons.mpr ⟨lw_p79, fun _ h => absurd h List.not_mem_nil⟩⟩⟩⟩⟩⟩⟩⟩⟩⟩⟩⟩⟩⟩⟩⟩
theorem lw_p80 : lw_okq (⟨"RectilinearRoofModel", "pointMany", "(I)I"⟩, 54) := ⟨⟨by decide +kernel, by decide +kernel⟩, List.mem_of_getElem? (i := 1250) (by decide +kernel), List.mem_of_getElem? (i := 1675) (by decide +kernel), List.mem_of_getElem? (i := 1676) (by decide +kernel)⟩
theorem lw_p81 : lw_okq (⟨"RectilinearRoofModel", "summed", "(II)I"⟩, 54) := ⟨⟨by decide +kernel, by decide +kernel⟩, List.mem_of_getElem? (i := 1250) (by decide +kernel), List.mem_of_getElem? (i := 1679) (by decide +kernel), List.mem_of_getElem? (i := 1680) (by decide +kernel)⟩
theorem lw_p82 : lw_okq (⟨"RectilinearRoofModel", "lengthOf", "(II)I"⟩, 54) := ⟨⟨by decide +kernel, by decide +kernel⟩, List.mem_of_getElem? (i := 1250) (by decide +kernel), List.mem_of_getElem? (i := 1683) (by decide +kernel), List.mem_of_getElem? (i := 1684) (by decide +kernel)⟩
theorem lw_p83 : lw_okq (⟨"RectilinearRoofModel", "origins", "(III)V"⟩, 54) := ⟨⟨by decide +kernel, by decide +kernel⟩, List.mem_of_getElem? (i := 1250) (by decide +kernel), List.mem_of_getElem? (i := 1687) (by decide +kernel), List.mem_of_getElem? (i := 1688) (by decide +kernel)⟩
theorem lw_p84 : lw_okq (⟨"RectilinearRoofModel", "isCurve", "(II)Z"⟩, 54) := ⟨⟨by decide +kernel, by decide +kernel⟩, List.mem_of_getElem? (i := 1250) (by decide +kernel), List.mem_of_getElem? (i := 1695) (by decide +kernel), List.mem_of_getElem? (i := 1696) (by decide +kernel)⟩
theorem lw_p85 : lw_okq (⟨"RectilinearRoofModel", "partAt", "(III)I"⟩, 54) := ⟨⟨by decide +kernel, by decide +kernel⟩, List.mem_of_getElem? (i := 1250) (by decide +kernel), List.mem_of_getElem? (i := 1711) (by decide +kernel), List.mem_of_getElem? (i := 1712) (by decide +kernel)⟩
theorem lw_p86 : lw_okq (⟨"RectilinearRoofModel", "eventMany", "(I)I"⟩, 54) := ⟨⟨by decide +kernel, by decide +kernel⟩, List.mem_of_getElem? (i := 1250) (by decide +kernel), List.mem_of_getElem? (i := 1719) (by decide +kernel), List.mem_of_getElem? (i := 1720) (by decide +kernel)⟩
theorem lw_p87 : lw_okq (⟨"RectilinearRoofModel", "isEvent", "(I)Z"⟩, 54) := ⟨⟨by decide +kernel, by decide +kernel⟩, List.mem_of_getElem? (i := 1250) (by decide +kernel), List.mem_of_getElem? (i := 1723) (by decide +kernel), List.mem_of_getElem? (i := 1724) (by decide +kernel)⟩
theorem lw_p88 : lw_okq (⟨"RectilinearRoofModel", "endings", "(IZ)I"⟩, 54) := ⟨⟨by decide +kernel, by decide +kernel⟩, List.mem_of_getElem? (i := 1250) (by decide +kernel), List.mem_of_getElem? (i := 1731) (by decide +kernel), List.mem_of_getElem? (i := 1732) (by decide +kernel)⟩
def lw_privs_6 : List (MethodName × Nat) := [(⟨"RectilinearRoofModel", "pointMany", "(I)I"⟩, 54), (⟨"RectilinearRoofModel", "summed", "(II)I"⟩, 54), (⟨"RectilinearRoofModel", "lengthOf", "(II)I"⟩, 54), (⟨"RectilinearRoofModel", "origins", "(III)V"⟩, 54), (⟨"RectilinearRoofModel", "isCurve", "(II)Z"⟩, 54), (⟨"RectilinearRoofModel", "partAt", "(III)I"⟩, 54), (⟨"RectilinearRoofModel", "eventMany", "(I)I"⟩, 54), (⟨"RectilinearRoofModel", "isEvent", "(I)Z"⟩, 54), (⟨"RectilinearRoofModel", "endings", "(IZ)I"⟩, 54)]
theorem lw_r6 : ∀ q ∈ lw_privs_6, lw_okq q := List.forall_mem_cons.mpr ⟨lw_p80, List.forall_mem_cons.mpr ⟨lw_p81, List.forall_mem_cons.mpr ⟨lw_p82, List.forall_mem_cons.mpr ⟨lw_p83, List.forall_mem_cons.mpr ⟨lw_p84, List.forall_mem_cons.mpr ⟨lw_p85, List.forall_mem_cons.mpr ⟨lw_p86, List.forall_mem_cons.mpr ⟨lw_p87, List.forall_mem_cons.mpr ⟨lw_p88, fun _ h => absurd h List.not_mem_nil⟩⟩⟩⟩⟩⟩⟩⟩⟩
def lw_privs : List (MethodName × Nat) := lw_privs_1 ++ (lw_privs_2 ++ (lw_privs_3 ++ (lw_privs_4 ++ (lw_privs_5 ++ (lw_privs_6)))))
def lw_tbl : List Cond := k2_sels lw_privs ++ tables_1
theorem lw_privs_ok : ∀ q ∈ lw_privs, lw_okq q := by
  show ∀ q ∈ lw_privs_1 ++ (lw_privs_2 ++ (lw_privs_3 ++ (lw_privs_4 ++ (lw_privs_5 ++ (lw_privs_6))))), lw_okq q
  exact List.forall_mem_append.mpr ⟨lw_r1, List.forall_mem_append.mpr ⟨lw_r2, List.forall_mem_append.mpr ⟨lw_r3, List.forall_mem_append.mpr ⟨lw_r4, List.forall_mem_append.mpr ⟨lw_r5, lw_r6⟩⟩⟩⟩⟩
-- ===== end of PART A; then your names; then what follows =====
def RX0 : String := "RectilinearRoof$Edges"
def TX0 : u_T := fun k => match k with
  | 0 => ("RectilinearRoof$Edges", "directions", "[I", true)
  | 1 => ("RectilinearRoof$Edges", "lines", "[I", true)
  | 2 => ("RectilinearRoof$Edges", "lows", "[I", true)
  | 3 => ("RectilinearRoof$Edges", "highs", "[I", true)
  | 4 => ("RectilinearRoof$Edges", "sorted", "[I", true)
  | 5 => ("RectilinearRoof$Edges", "starts", "[I", true)
  | 6 => ("RectilinearRoof$Edges", "ends", "[I", true)
  | 7 => ("RectilinearRoof$Edges", "groupKeys", "[I", true)
  | 8 => ("RectilinearRoof$Edges", "size", "I", false)
  | _ => ("RectilinearRoof$Edges", "groupCount", "I", false)
def tyX0 : Nat → FieldType := fun k => match k with
  | 0 => .array .int
  | 1 => .array .int
  | 2 => .array .int
  | 3 => .array .int
  | 4 => .array .int
  | 5 => .array .int
  | 6 => .array .int
  | 7 => .array .int
  | 8 => .int
  | _ => .int
abbrev wsX00 : List Cond := u_ws RX0 TX0 10
theorem nmX0 : ∀ a, a < 10 → ∀ b, b < 10 → a ≠ b → (TX0 a).2.1 ≠ (TX0 b).2.1 := by decide +kernel
theorem tyX0_ok : ∀ k, k < 10 → parseFieldDescriptor (TX0 k).2.2.1 = some (tyX0 k) := by decide +kernel
abbrev cX0_init : ByteArray := prog_2_method_1_code
def yX0_init : MethodName := ⟨RX0, "<init>", "()V"⟩
abbrev cX0_build : ByteArray := prog_2_method_2_code
def yX0_build : MethodName := ⟨RX0, "build", "(LRectilinearRoof$Outline;)V"⟩
abbrev cX0_keyOf : ByteArray := prog_2_method_3_code
def yX0_keyOf : MethodName := ⟨RX0, "keyOf", "(I)I"⟩
abbrev cX0_sortIn : ByteArray := prog_2_method_4_code
def yX0_sortIn : MethodName := ⟨RX0, "sortIn", "(I)V"⟩
abbrev cX0_directionOf : ByteArray := prog_2_method_5_code
def yX0_directionOf : MethodName := ⟨RX0, "directionOf", "(I)I"⟩
abbrev cX0_lineOf : ByteArray := prog_2_method_6_code
def yX0_lineOf : MethodName := ⟨RX0, "lineOf", "(I)I"⟩
abbrev cX0_lowOf : ByteArray := prog_2_method_7_code
def yX0_lowOf : MethodName := ⟨RX0, "lowOf", "(I)I"⟩
abbrev cX0_highOf : ByteArray := prog_2_method_8_code
def yX0_highOf : MethodName := ⟨RX0, "highOf", "(I)I"⟩
abbrev cX0_overlaps : ByteArray := prog_2_method_9_code
def yX0_overlaps : MethodName := ⟨RX0, "overlaps", "(III)Z"⟩
abbrev cX0_along : ByteArray := prog_2_method_10_code
def yX0_along : MethodName := ⟨RX0, "along", "(IIIII)I"⟩
abbrev cX0_groupProperty : ByteArray := prog_2_method_11_code
def yX0_groupProperty : MethodName := ⟨RX0, "groupProperty", "(II)I"⟩
abbrev cX0_lengthOfKey : ByteArray := prog_2_method_12_code
def yX0_lengthOfKey : MethodName := ⟨RX0, "lengthOfKey", "(I)I"⟩
def RX1 : String := "RectilinearRoof$History"
def TX1 : u_T := fun k => match k with
  | 0 => ("RectilinearRoof$History", "states", "[I", true)
  | 1 => ("RectilinearRoof$History", "slot", "I", false)
  | 2 => ("RectilinearRoof$History", "undoable", "I", false)
  | _ => ("RectilinearRoof$History", "redoable", "I", false)
def tyX1 : Nat → FieldType := fun k => match k with
  | 0 => .array .int
  | 1 => .int
  | 2 => .int
  | _ => .int
abbrev wsX10 : List Cond := u_ws RX1 TX1 4
theorem nmX1 : ∀ a, a < 4 → ∀ b, b < 4 → a ≠ b → (TX1 a).2.1 ≠ (TX1 b).2.1 := by decide +kernel
theorem tyX1_ok : ∀ k, k < 4 → parseFieldDescriptor (TX1 k).2.2.1 = some (tyX1 k) := by decide +kernel
abbrev cX1_init : ByteArray := prog_3_method_1_code
def yX1_init : MethodName := ⟨RX1, "<init>", "()V"⟩
abbrev cX1_record : ByteArray := prog_3_method_2_code
def yX1_record : MethodName := ⟨RX1, "record", "(LRectilinearRoof$Region;)V"⟩
abbrev cX1_stepBack : ByteArray := prog_3_method_3_code
def yX1_stepBack : MethodName := ⟨RX1, "stepBack", "(LRectilinearRoof$Region;)V"⟩
abbrev cX1_stepForth : ByteArray := prog_3_method_4_code
def yX1_stepForth : MethodName := ⟨RX1, "stepForth", "(LRectilinearRoof$Region;)V"⟩
abbrev cX1_load : ByteArray := prog_3_method_5_code
def yX1_load : MethodName := ⟨RX1, "load", "(LRectilinearRoof$Region;)V"⟩
def RX2 : String := "RectilinearRoof$Outline"
def TX2 : u_T := fun k => match k with
  | 0 => ("RectilinearRoof$Outline", "starts", "[I", true)
  | 1 => ("RectilinearRoof$Outline", "sizes", "[I", true)
  | 2 => ("RectilinearRoof$Outline", "holeFlags", "[I", true)
  | 3 => ("RectilinearRoof$Outline", "parts", "[I", true)
  | 4 => ("RectilinearRoof$Outline", "lengths", "[I", true)
  | 5 => ("RectilinearRoof$Outline", "directions", "[I", true)
  | 6 => ("RectilinearRoof$Outline", "lines", "[I", true)
  | 7 => ("RectilinearRoof$Outline", "lows", "[I", true)
  | 8 => ("RectilinearRoof$Outline", "highs", "[I", true)
  | 9 => ("RectilinearRoof$Outline", "bends", "[J", true)
  | 10 => ("RectilinearRoof$Outline", "unseen", "[J", true)
  | 11 => ("RectilinearRoof$Outline", "contours", "I", false)
  | 12 => ("RectilinearRoof$Outline", "holes", "I", false)
  | 13 => ("RectilinearRoof$Outline", "vertices", "I", false)
  | 14 => ("RectilinearRoof$Outline", "leftTurns", "I", false)
  | _ => ("RectilinearRoof$Outline", "length", "I", false)
def tyX2 : Nat → FieldType := fun k => match k with
  | 0 => .array .int
  | 1 => .array .int
  | 2 => .array .int
  | 3 => .array .int
  | 4 => .array .int
  | 5 => .array .int
  | 6 => .array .int
  | 7 => .array .int
  | 8 => .array .int
  | 9 => .array .long
  | 10 => .array .long
  | 11 => .int
  | 12 => .int
  | 13 => .int
  | 14 => .int
  | _ => .int
abbrev wsX20 : List Cond := u_ws RX2 TX2 16
theorem nmX2 : ∀ a, a < 16 → ∀ b, b < 16 → a ≠ b → (TX2 a).2.1 ≠ (TX2 b).2.1 := by decide +kernel
theorem tyX2_ok : ∀ k, k < 16 → parseFieldDescriptor (TX2 k).2.2.1 = some (tyX2 k) := by decide +kernel
abbrev cX2_init : ByteArray := prog_4_method_1_code
def yX2_init : MethodName := ⟨RX2, "<init>", "()V"⟩
abbrev cX2_trace : ByteArray := prog_4_method_2_code
def yX2_trace : MethodName := ⟨RX2, "trace", "(LRectilinearRoof$Phase;)V"⟩
abbrev cX2_findBends : ByteArray := prog_4_method_3_code
def yX2_findBends : MethodName := ⟨RX2, "findBends", "(LRectilinearRoof$Phase;)V"⟩
abbrev cX2_follow : ByteArray := prog_4_method_4_code
def yX2_follow : MethodName := ⟨RX2, "follow", "(LRectilinearRoof$Phase;II)V"⟩
abbrev cX2_addSide : ByteArray := prog_4_method_5_code
def yX2_addSide : MethodName := ⟨RX2, "addSide", "(IIII)V"⟩
abbrev cX2_stepsToBend : ByteArray := prog_4_method_6_code
def yX2_stepsToBend : MethodName := ⟨RX2, "stepsToBend", "(III)I"⟩
abbrev cX2_isBend : ByteArray := prog_4_method_7_code
def yX2_isBend : MethodName := ⟨RX2, "isBend", "(II)Z"⟩
abbrev cX2_cellsAround : ByteArray := prog_4_method_8_code
def yX2_cellsAround : MethodName := ⟨RX2, "cellsAround", "(LRectilinearRoof$Phase;II)I"⟩
abbrev cX2_contourProperty : ByteArray := prog_4_method_9_code
def yX2_contourProperty : MethodName := ⟨RX2, "contourProperty", "(II)I"⟩
abbrev cX2_sidesOf : ByteArray := prog_4_method_10_code
def yX2_sidesOf : MethodName := ⟨RX2, "sidesOf", "(I)I"⟩
abbrev cX2_sideIndex : ByteArray := prog_4_method_11_code
def yX2_sideIndex : MethodName := ⟨RX2, "sideIndex", "(II)I"⟩
abbrev cX2_contourOf : ByteArray := prog_4_method_12_code
def yX2_contourOf : MethodName := ⟨RX2, "contourOf", "(I)I"⟩
abbrev cX2_directionOf : ByteArray := prog_4_method_13_code
def yX2_directionOf : MethodName := ⟨RX2, "directionOf", "(I)I"⟩
abbrev cX2_lineOf : ByteArray := prog_4_method_14_code
def yX2_lineOf : MethodName := ⟨RX2, "lineOf", "(I)I"⟩
abbrev cX2_lowOf : ByteArray := prog_4_method_15_code
def yX2_lowOf : MethodName := ⟨RX2, "lowOf", "(I)I"⟩
abbrev cX2_highOf : ByteArray := prog_4_method_16_code
def yX2_highOf : MethodName := ⟨RX2, "highOf", "(I)I"⟩
abbrev cX2_vertexX : ByteArray := prog_4_method_17_code
def yX2_vertexX : MethodName := ⟨RX2, "vertexX", "(I)I"⟩
abbrev cX2_vertexY : ByteArray := prog_4_method_18_code
def yX2_vertexY : MethodName := ⟨RX2, "vertexY", "(I)I"⟩
def RX3 : String := "RectilinearRoof$Phase"
def TX3 : u_T := fun k => match k with
  | 0 => ("RectilinearRoof$Phase", "outline", "LRectilinearRoof$Outline;", true)
  | 1 => ("RectilinearRoof$Phase", "rows", "[J", true)
  | 2 => ("RectilinearRoof$Phase", "rowStarts", "[I", true)
  | 3 => ("RectilinearRoof$Phase", "runs", "[J", true)
  | 4 => ("RectilinearRoof$Phase", "runRows", "[I", true)
  | 5 => ("RectilinearRoof$Phase", "labels", "[I", true)
  | 6 => ("RectilinearRoof$Phase", "waiting", "[I", true)
  | 7 => ("RectilinearRoof$Phase", "parents", "[I", true)
  | 8 => ("RectilinearRoof$Phase", "children", "[I", true)
  | 9 => ("RectilinearRoof$Phase", "runCount", "I", false)
  | _ => ("RectilinearRoof$Phase", "components", "I", false)
def tyX3 : Nat → FieldType := fun k => match k with
  | 0 => .object "RectilinearRoof$Outline"
  | 1 => .array .long
  | 2 => .array .int
  | 3 => .array .long
  | 4 => .array .int
  | 5 => .array .int
  | 6 => .array .int
  | 7 => .array .int
  | 8 => .array .int
  | 9 => .int
  | _ => .int
abbrev wsX30 : List Cond := u_ws RX3 TX3 11
theorem nmX3 : ∀ a, a < 11 → ∀ b, b < 11 → a ≠ b → (TX3 a).2.1 ≠ (TX3 b).2.1 := by decide +kernel
theorem tyX3_ok : ∀ k, k < 11 → parseFieldDescriptor (TX3 k).2.2.1 = some (tyX3 k) := by decide +kernel
abbrev cX3_init : ByteArray := prog_5_method_1_code
def yX3_init : MethodName := ⟨RX3, "<init>", "()V"⟩
abbrev cX3_covers : ByteArray := prog_5_method_2_code
def yX3_covers : MethodName := ⟨RX3, "covers", "(II)Z"⟩
abbrev cX3_row : ByteArray := prog_5_method_3_code
def yX3_row : MethodName := ⟨RX3, "row", "(I)J"⟩
abbrev cX3_setRow : ByteArray := prog_5_method_4_code
def yX3_setRow : MethodName := ⟨RX3, "setRow", "(IJ)V"⟩
abbrev cX3_build : ByteArray := prog_5_method_5_code
def yX3_build : MethodName := ⟨RX3, "build", "(LRectilinearRoof$Phase;)V"⟩
abbrev cX3_findRuns : ByteArray := prog_5_method_6_code
def yX3_findRuns : MethodName := ⟨RX3, "findRuns", "()V"⟩
abbrev cX3_addRun : ByteArray := prog_5_method_7_code
def yX3_addRun : MethodName := ⟨RX3, "addRun", "(JI)V"⟩
abbrev cX3_labelFrom : ByteArray := prog_5_method_8_code
def yX3_labelFrom : MethodName := ⟨RX3, "labelFrom", "(I)V"⟩
abbrev cX3_labelBeside : ByteArray := prog_5_method_9_code
def yX3_labelBeside : MethodName := ⟨RX3, "labelBeside", "(III)I"⟩
abbrev cX3_link : ByteArray := prog_5_method_10_code
def yX3_link : MethodName := ⟨RX3, "link", "(LRectilinearRoof$Phase;I)V"⟩
abbrev cX3_labelOf : ByteArray := prog_5_method_11_code
def yX3_labelOf : MethodName := ⟨RX3, "labelOf", "(I)I"⟩
abbrev cX3_parentOf : ByteArray := prog_5_method_12_code
def yX3_parentOf : MethodName := ⟨RX3, "parentOf", "(I)I"⟩
abbrev cX3_childCount : ByteArray := prog_5_method_13_code
def yX3_childCount : MethodName := ⟨RX3, "childCount", "(I)I"⟩
abbrev cX3_firstChildOf : ByteArray := prog_5_method_14_code
def yX3_firstChildOf : MethodName := ⟨RX3, "firstChildOf", "(I)I"⟩
abbrev cX3_vanishing : ByteArray := prog_5_method_15_code
def yX3_vanishing : MethodName := ⟨RX3, "vanishing", "()I"⟩
abbrev cX3_splitting : ByteArray := prog_5_method_16_code
def yX3_splitting : MethodName := ⟨RX3, "splitting", "()I"⟩
def RX4 : String := "RectilinearRoof$Region"
def TX4 : u_T := fun k => match k with
  | 0 => ("RectilinearRoof$Region", "rows", "[I", true)
  | _ => ("RectilinearRoof$Region", "turned", "[I", true)
def tyX4 : Nat → FieldType := fun k => match k with
  | 0 => .array .int
  | _ => .array .int
abbrev wsX40 : List Cond := u_ws RX4 TX4 2
theorem nmX4 : ∀ a, a < 2 → ∀ b, b < 2 → a ≠ b → (TX4 a).2.1 ≠ (TX4 b).2.1 := by decide +kernel
theorem tyX4_ok : ∀ k, k < 2 → parseFieldDescriptor (TX4 k).2.2.1 = some (tyX4 k) := by decide +kernel
abbrev cX4_init : ByteArray := prog_6_method_1_code
def yX4_init : MethodName := ⟨RX4, "<init>", "()V"⟩
abbrev cX4_has : ByteArray := prog_6_method_2_code
def yX4_has : MethodName := ⟨RX4, "has", "(II)Z"⟩
abbrev cX4_size : ByteArray := prog_6_method_3_code
def yX4_size : MethodName := ⟨RX4, "size", "()I"⟩
abbrev cX4_wipe : ByteArray := prog_6_method_4_code
def yX4_wipe : MethodName := ⟨RX4, "wipe", "()V"⟩
abbrev cX4_copy : ByteArray := prog_6_method_5_code
def yX4_copy : MethodName := ⟨RX4, "copy", "(LRectilinearRoof$Region;)V"⟩
abbrev cX4_change : ByteArray := prog_6_method_6_code
def yX4_change : MethodName := ⟨RX4, "change", "(IIIII)V"⟩
abbrev cX4_combined : ByteArray := prog_6_method_7_code
def yX4_combined : MethodName := ⟨RX4, "combined", "(III)I"⟩
abbrev cX4_turn : ByteArray := prog_6_method_8_code
def yX4_turn : MethodName := ⟨RX4, "turn", "()V"⟩
abbrev cX4_mirror : ByteArray := prog_6_method_9_code
def yX4_mirror : MethodName := ⟨RX4, "mirror", "()V"⟩
abbrev cX4_selfMaps : ByteArray := prog_6_method_10_code
def yX4_selfMaps : MethodName := ⟨RX4, "selfMaps", "(LRectilinearRoof$Region;)I"⟩
abbrev cX4_hasShapeOf : ByteArray := prog_6_method_11_code
def yX4_hasShapeOf : MethodName := ⟨RX4, "hasShapeOf", "(LRectilinearRoof$Region;)Z"⟩
abbrev cX4_leastX : ByteArray := prog_6_method_12_code
def yX4_leastX : MethodName := ⟨RX4, "leastX", "()I"⟩
abbrev cX4_leastY : ByteArray := prog_6_method_13_code
def yX4_leastY : MethodName := ⟨RX4, "leastY", "()I"⟩
abbrev cX4_cornerPoints : ByteArray := prog_6_method_14_code
def yX4_cornerPoints : MethodName := ⟨RX4, "cornerPoints", "()I"⟩
abbrev cX4_isCorner : ByteArray := prog_6_method_15_code
def yX4_isCorner : MethodName := ⟨RX4, "isCorner", "(II)Z"⟩
abbrev cX4_heightAt : ByteArray := prog_6_method_16_code
def yX4_heightAt : MethodName := ⟨RX4, "heightAt", "(II)I"⟩
abbrev cX4_gap : ByteArray := prog_6_method_17_code
def yX4_gap : MethodName := ⟨RX4, "gap", "(II)I"⟩
def RX5 : String := "RectilinearRoof$Roof"
def TX5 : u_T := fun k => match k with
  | 0 => ("RectilinearRoof$Roof", "edgeList", "LRectilinearRoof$Edges;", true)
  | 1 => ("RectilinearRoof$Roof", "tree", "LRectilinearRoof$Tree;", true)
  | 2 => ("RectilinearRoof$Roof", "nothing", "LRectilinearRoof$Phase;", true)
  | 3 => ("RectilinearRoof$Roof", "phaseList", "[LRectilinearRoof$Phase;", true)
  | 4 => ("RectilinearRoof$Roof", "walk", "LRectilinearRoof$Walk;", true)
  | 5 => ("RectilinearRoof$Roof", "layer", "[J", true)
  | 6 => ("RectilinearRoof$Roof", "narrowed", "[J", true)
  | 7 => ("RectilinearRoof$Roof", "tally", "[I", true)
  | 8 => ("RectilinearRoof$Roof", "sampleDepths", "[I", true)
  | 9 => ("RectilinearRoof$Roof", "faces", "[I", true)
  | 10 => ("RectilinearRoof$Roof", "fresh", "Z", false)
  | _ => ("RectilinearRoof$Roof", "phaseCount", "I", false)
def tyX5 : Nat → FieldType := fun k => match k with
  | 0 => .object "RectilinearRoof$Edges"
  | 1 => .object "RectilinearRoof$Tree"
  | 2 => .object "RectilinearRoof$Phase"
  | 3 => .array (.object "RectilinearRoof$Phase")
  | 4 => .object "RectilinearRoof$Walk"
  | 5 => .array .long
  | 6 => .array .long
  | 7 => .array .int
  | 8 => .array .int
  | 9 => .array .int
  | 10 => .boolean
  | _ => .int
abbrev wsX50 : List Cond := u_ws RX5 TX5 12
theorem nmX5 : ∀ a, a < 12 → ∀ b, b < 12 → a ≠ b → (TX5 a).2.1 ≠ (TX5 b).2.1 := by decide +kernel
theorem tyX5_ok : ∀ k, k < 12 → parseFieldDescriptor (TX5 k).2.2.1 = some (tyX5 k) := by decide +kernel
abbrev cX5_init : ByteArray := prog_7_method_1_code
def yX5_init : MethodName := ⟨RX5, "<init>", "()V"⟩
abbrev cX5_spoil : ByteArray := prog_7_method_2_code
def yX5_spoil : MethodName := ⟨RX5, "spoil", "()V"⟩
abbrev cX5_refresh : ByteArray := prog_7_method_3_code
def yX5_refresh : MethodName := ⟨RX5, "refresh", "(LRectilinearRoof$Region;)V"⟩
abbrev cX5_phaseAt : ByteArray := prog_7_method_4_code
def yX5_phaseAt : MethodName := ⟨RX5, "phaseAt", "(I)LRectilinearRoof$Phase;"⟩
abbrev cX5_hasPhase : ByteArray := prog_7_method_5_code
def yX5_hasPhase : MethodName := ⟨RX5, "hasPhase", "(I)Z"⟩
abbrev cX5_hasContour : ByteArray := prog_7_method_6_code
def yX5_hasContour : MethodName := ⟨RX5, "hasContour", "(II)Z"⟩
abbrev cX5_hasSide : ByteArray := prog_7_method_7_code
def yX5_hasSide : MethodName := ⟨RX5, "hasSide", "(III)Z"⟩
abbrev cX5_measure : ByteArray := prog_7_method_8_code
def yX5_measure : MethodName := ⟨RX5, "measure", "(LRectilinearRoof$Region;)V"⟩
abbrev cX5_loadLayer : ByteArray := prog_7_method_9_code
def yX5_loadLayer : MethodName := ⟨RX5, "loadLayer", "(LRectilinearRoof$Region;)V"⟩
abbrev cX5_layerCells : ByteArray := prog_7_method_10_code
def yX5_layerCells : MethodName := ⟨RX5, "layerCells", "()I"⟩
abbrev cX5_noteSamples : ByteArray := prog_7_method_11_code
def yX5_noteSamples : MethodName := ⟨RX5, "noteSamples", "(I)V"⟩
abbrev cX5_copyLayer : ByteArray := prog_7_method_12_code
def yX5_copyLayer : MethodName := ⟨RX5, "copyLayer", "(LRectilinearRoof$Phase;)V"⟩
abbrev cX5_shrinkLayer : ByteArray := prog_7_method_13_code
def yX5_shrinkLayer : MethodName := ⟨RX5, "shrinkLayer", "()V"⟩
abbrev cX5_areaAt : ByteArray := prog_7_method_14_code
def yX5_areaAt : MethodName := ⟨RX5, "areaAt", "(I)I"⟩
abbrev cX5_volumeBelow : ByteArray := prog_7_method_15_code
def yX5_volumeBelow : MethodName := ⟨RX5, "volumeBelow", "()I"⟩
abbrev cX5_findFaces : ByteArray := prog_7_method_16_code
def yX5_findFaces : MethodName := ⟨RX5, "findFaces", "()V"⟩
abbrev cX5_lowestTouched : ByteArray := prog_7_method_17_code
def yX5_lowestTouched : MethodName := ⟨RX5, "lowestTouched", "(I)I"⟩
abbrev cX5_faceOf : ByteArray := prog_7_method_18_code
def yX5_faceOf : MethodName := ⟨RX5, "faceOf", "(II)I"⟩
abbrev cX5_edgeProperty : ByteArray := prog_7_method_19_code
def yX5_edgeProperty : MethodName := ⟨RX5, "edgeProperty", "(II)I"⟩
abbrev cX5_faceSize : ByteArray := prog_7_method_20_code
def yX5_faceSize : MethodName := ⟨RX5, "faceSize", "(I)I"⟩
abbrev cX5_extinction : ByteArray := prog_7_method_21_code
def yX5_extinction : MethodName := ⟨RX5, "extinction", "(I)I"⟩
abbrev cX5_drives : ByteArray := prog_7_method_22_code
def yX5_drives : MethodName := ⟨RX5, "drives", "(II)Z"⟩
abbrev cX5_originOf : ByteArray := prog_7_method_23_code
def yX5_originOf : MethodName := ⟨RX5, "originOf", "(III)I"⟩
abbrev cX5_phaseProperty : ByteArray := prog_7_method_24_code
def yX5_phaseProperty : MethodName := ⟨RX5, "phaseProperty", "(II)I"⟩
abbrev cX5_mergedSides : ByteArray := prog_7_method_25_code
def yX5_mergedSides : MethodName := ⟨RX5, "mergedSides", "(I)I"⟩
abbrev cX5_isEvent : ByteArray := prog_7_method_26_code
def yX5_isEvent : MethodName := ⟨RX5, "isEvent", "(I)Z"⟩
abbrev cX5_eventCount : ByteArray := prog_7_method_27_code
def yX5_eventCount : MethodName := ⟨RX5, "eventCount", "()I"⟩
abbrev cX5_eventPhase : ByteArray := prog_7_method_28_code
def yX5_eventPhase : MethodName := ⟨RX5, "eventPhase", "(I)I"⟩
abbrev cX5_eventProperty : ByteArray := prog_7_method_29_code
def yX5_eventProperty : MethodName := ⟨RX5, "eventProperty", "(II)I"⟩
abbrev cX5_lastCommonPhase : ByteArray := prog_7_method_30_code
def yX5_lastCommonPhase : MethodName := ⟨RX5, "lastCommonPhase", "(II)I"⟩
abbrev cX5_stepsBetween : ByteArray := prog_7_method_31_code
def yX5_stepsBetween : MethodName := ⟨RX5, "stepsBetween", "(III)I"⟩
def RX6 : String := "RectilinearRoof$Script"
def TX6 : u_T := fun k => match k with
  | 0 => ("RectilinearRoof$Script", "text", "[I", true)
  | 1 => ("RectilinearRoof$Script", "commands", "[I", true)
  | 2 => ("RectilinearRoof$Script", "position", "I", false)
  | 3 => ("RectilinearRoof$Script", "length", "I", false)
  | 4 => ("RectilinearRoof$Script", "failure", "I", false)
  | _ => ("RectilinearRoof$Script", "commandCount", "I", false)
def tyX6 : Nat → FieldType := fun k => match k with
  | 0 => .array .int
  | 1 => .array .int
  | 2 => .int
  | 3 => .int
  | 4 => .int
  | _ => .int
abbrev wsX60 : List Cond := u_ws RX6 TX6 6
theorem nmX6 : ∀ a, a < 6 → ∀ b, b < 6 → a ≠ b → (TX6 a).2.1 ≠ (TX6 b).2.1 := by decide +kernel
theorem tyX6_ok : ∀ k, k < 6 → parseFieldDescriptor (TX6 k).2.2.1 = some (tyX6 k) := by decide +kernel
abbrev cX6_init : ByteArray := prog_8_method_1_code
def yX6_init : MethodName := ⟨RX6, "<init>", "()V"⟩
abbrev cX6_isText : ByteArray := prog_8_method_2_code
def yX6_isText : MethodName := ⟨RX6, "isText", "(I)Z"⟩
abbrev cX6_signsIn : ByteArray := prog_8_method_3_code
def yX6_signsIn : MethodName := ⟨RX6, "signsIn", "(I)I"⟩
abbrev cX6_take : ByteArray := prog_8_method_4_code
def yX6_take : MethodName := ⟨RX6, "take", "(I)V"⟩
abbrev cX6_read : ByteArray := prog_8_method_5_code
def yX6_read : MethodName := ⟨RX6, "read", "()Z"⟩
abbrev cX6_readCommand : ByteArray := prog_8_method_6_code
def yX6_readCommand : MethodName := ⟨RX6, "readCommand", "()V"⟩
abbrev cX6_kindOf : ByteArray := prog_8_method_7_code
def yX6_kindOf : MethodName := ⟨RX6, "kindOf", "(I)I"⟩
abbrev cX6_readRectangle : ByteArray := prog_8_method_8_code
def yX6_readRectangle : MethodName := ⟨RX6, "readRectangle", "()V"⟩
abbrev cX6_readNumber : ByteArray := prog_8_method_9_code
def yX6_readNumber : MethodName := ⟨RX6, "readNumber", "(II)I"⟩
abbrev cX6_readSign : ByteArray := prog_8_method_10_code
def yX6_readSign : MethodName := ⟨RX6, "readSign", "(C)V"⟩
abbrev cX6_digit : ByteArray := prog_8_method_11_code
def yX6_digit : MethodName := ⟨RX6, "digit", "()I"⟩
abbrev cX6_sign : ByteArray := prog_8_method_12_code
def yX6_sign : MethodName := ⟨RX6, "sign", "()I"⟩
abbrev cX6_run : ByteArray := prog_8_method_13_code
def yX6_run : MethodName := ⟨RX6, "run", "(LRectilinearRoof$Region;)V"⟩
def RX7 : String := "RectilinearRoof$Tree"
def TX7 : u_T := fun k => match k with
  | 0 => ("RectilinearRoof$Tree", "firstPhases", "[I", true)
  | 1 => ("RectilinearRoof$Tree", "lastPhases", "[I", true)
  | 2 => ("RectilinearRoof$Tree", "firstComponents", "[I", true)
  | 3 => ("RectilinearRoof$Tree", "parents", "[I", true)
  | 4 => ("RectilinearRoof$Tree", "splits", "[I", true)
  | 5 => ("RectilinearRoof$Tree", "ways", "[I", true)
  | 6 => ("RectilinearRoof$Tree", "waitingPhases", "[I", true)
  | 7 => ("RectilinearRoof$Tree", "waitingComponents", "[I", true)
  | 8 => ("RectilinearRoof$Tree", "waitingParents", "[I", true)
  | 9 => ("RectilinearRoof$Tree", "waiting", "I", false)
  | _ => ("RectilinearRoof$Tree", "size", "I", false)
def tyX7 : Nat → FieldType := fun k => match k with
  | 0 => .array .int
  | 1 => .array .int
  | 2 => .array .int
  | 3 => .array .int
  | 4 => .array .int
  | 5 => .array .int
  | 6 => .array .int
  | 7 => .array .int
  | 8 => .array .int
  | 9 => .int
  | _ => .int
abbrev wsX70 : List Cond := u_ws RX7 TX7 11
theorem nmX7 : ∀ a, a < 11 → ∀ b, b < 11 → a ≠ b → (TX7 a).2.1 ≠ (TX7 b).2.1 := by decide +kernel
theorem tyX7_ok : ∀ k, k < 11 → parseFieldDescriptor (TX7 k).2.2.1 = some (tyX7 k) := by decide +kernel
abbrev cX7_init : ByteArray := prog_9_method_1_code
def yX7_init : MethodName := ⟨RX7, "<init>", "()V"⟩
abbrev cX7_grow : ByteArray := prog_9_method_2_code
def yX7_grow : MethodName := ⟨RX7, "grow", "(LRectilinearRoof$Roof;)V"⟩
abbrev cX7_pushChildren : ByteArray := prog_9_method_3_code
def yX7_pushChildren : MethodName := ⟨RX7, "pushChildren", "(LRectilinearRoof$Phase;III)V"⟩
abbrev cX7_growBranch : ByteArray := prog_9_method_4_code
def yX7_growBranch : MethodName := ⟨RX7, "growBranch", "(LRectilinearRoof$Roof;III)V"⟩
abbrev cX7_measureWays : ByteArray := prog_9_method_5_code
def yX7_measureWays : MethodName := ⟨RX7, "measureWays", "()V"⟩
abbrev cX7_branchProperty : ByteArray := prog_9_method_6_code
def yX7_branchProperty : MethodName := ⟨RX7, "branchProperty", "(II)I"⟩
def RX8 : String := "RectilinearRoof$Walk"
def TX8 : u_T := fun k => match k with
  | 0 => ("RectilinearRoof$Walk", "queue", "[I", true)
  | _ => ("RectilinearRoof$Walk", "steps", "[I", true)
def tyX8 : Nat → FieldType := fun k => match k with
  | 0 => .array .int
  | _ => .array .int
abbrev wsX80 : List Cond := u_ws RX8 TX8 2
theorem nmX8 : ∀ a, a < 2 → ∀ b, b < 2 → a ≠ b → (TX8 a).2.1 ≠ (TX8 b).2.1 := by decide +kernel
theorem tyX8_ok : ∀ k, k < 2 → parseFieldDescriptor (TX8 k).2.2.1 = some (tyX8 k) := by decide +kernel
abbrev cX8_init : ByteArray := prog_10_method_1_code
def yX8_init : MethodName := ⟨RX8, "<init>", "()V"⟩
abbrev cX8_length : ByteArray := prog_10_method_2_code
def yX8_length : MethodName := ⟨RX8, "length", "(LRectilinearRoof$Phase;II)I"⟩
def RX9 : String := "RectilinearRoof"
def TX9 : u_T := fun k => match k with
  | 0 => ("RectilinearRoof", "region", "LRectilinearRoof$Region;", true)
  | 1 => ("RectilinearRoof", "saved", "LRectilinearRoof$Region;", true)
  | 2 => ("RectilinearRoof", "image", "LRectilinearRoof$Region;", true)
  | 3 => ("RectilinearRoof", "history", "LRectilinearRoof$History;", true)
  | 4 => ("RectilinearRoof", "script", "LRectilinearRoof$Script;", true)
  | 5 => ("RectilinearRoof", "roof", "LRectilinearRoof$Roof;", true)
  | _ => ("RectilinearRoof", "hasSaved", "Z", false)
def tyX9 : Nat → FieldType := fun k => match k with
  | 0 => .object "RectilinearRoof$Region"
  | 1 => .object "RectilinearRoof$Region"
  | 2 => .object "RectilinearRoof$Region"
  | 3 => .object "RectilinearRoof$History"
  | 4 => .object "RectilinearRoof$Script"
  | 5 => .object "RectilinearRoof$Roof"
  | _ => .boolean
abbrev wsX90 : List Cond := u_ws RX9 TX9 7
theorem nmX9 : ∀ a, a < 7 → ∀ b, b < 7 → a ≠ b → (TX9 a).2.1 ≠ (TX9 b).2.1 := by decide +kernel
theorem tyX9_ok : ∀ k, k < 7 → parseFieldDescriptor (TX9 k).2.2.1 = some (tyX9 k) := by decide +kernel
abbrev cX9_init : ByteArray := prog_1_method_1_code
def yX9_init : MethodName := ⟨RX9, "<init>", "()V"⟩
abbrev cX9_rectangle : ByteArray := prog_1_method_2_code
def yX9_rectangle : MethodName := ⟨RX9, "rectangle", "(IIIII)I"⟩
abbrev cX9_clear : ByteArray := prog_1_method_3_code
def yX9_clear : MethodName := ⟨RX9, "clear", "()I"⟩
abbrev cX9_append : ByteArray := prog_1_method_4_code
def yX9_append : MethodName := ⟨RX9, "append", "(I)I"⟩
abbrev cX9_execute : ByteArray := prog_1_method_5_code
def yX9_execute : MethodName := ⟨RX9, "execute", "()I"⟩
abbrev cX9_errorPosition : ByteArray := prog_1_method_6_code
def yX9_errorPosition : MethodName := ⟨RX9, "errorPosition", "()I"⟩
abbrev cX9_undo : ByteArray := prog_1_method_7_code
def yX9_undo : MethodName := ⟨RX9, "undo", "()I"⟩
abbrev cX9_redo : ByteArray := prog_1_method_8_code
def yX9_redo : MethodName := ⟨RX9, "redo", "()I"⟩
abbrev cX9_save : ByteArray := prog_1_method_9_code
def yX9_save : MethodName := ⟨RX9, "save", "()I"⟩
abbrev cX9_restore : ByteArray := prog_1_method_10_code
def yX9_restore : MethodName := ⟨RX9, "restore", "()I"⟩
abbrev cX9_contains : ByteArray := prog_1_method_11_code
def yX9_contains : MethodName := ⟨RX9, "contains", "(II)Z"⟩
abbrev cX9_edges : ByteArray := prog_1_method_12_code
def yX9_edges : MethodName := ⟨RX9, "edges", "()I"⟩
abbrev cX9_edge : ByteArray := prog_1_method_13_code
def yX9_edge : MethodName := ⟨RX9, "edge", "(II)I"⟩
abbrev cX9_corners : ByteArray := prog_1_method_14_code
def yX9_corners : MethodName := ⟨RX9, "corners", "()I"⟩
abbrev cX9_groups : ByteArray := prog_1_method_15_code
def yX9_groups : MethodName := ⟨RX9, "groups", "()I"⟩
abbrev cX9_group : ByteArray := prog_1_method_16_code
def yX9_group : MethodName := ⟨RX9, "group", "(II)I"⟩
abbrev cX9_symmetries : ByteArray := prog_1_method_17_code
def yX9_symmetries : MethodName := ⟨RX9, "symmetries", "()I"⟩
abbrev cX9_height : ByteArray := prog_1_method_18_code
def yX9_height : MethodName := ⟨RX9, "height", "(II)I"⟩
abbrev cX9_face : ByteArray := prog_1_method_19_code
def yX9_face : MethodName := ⟨RX9, "face", "(II)I"⟩
abbrev cX9_area : ByteArray := prog_1_method_20_code
def yX9_area : MethodName := ⟨RX9, "area", "(I)I"⟩
abbrev cX9_volume : ByteArray := prog_1_method_21_code
def yX9_volume : MethodName := ⟨RX9, "volume", "()I"⟩
abbrev cX9_phases : ByteArray := prog_1_method_22_code
def yX9_phases : MethodName := ⟨RX9, "phases", "()I"⟩
abbrev cX9_phase : ByteArray := prog_1_method_23_code
def yX9_phase : MethodName := ⟨RX9, "phase", "(II)I"⟩
abbrev cX9_contour : ByteArray := prog_1_method_24_code
def yX9_contour : MethodName := ⟨RX9, "contour", "(III)I"⟩
abbrev cX9_vertex : ByteArray := prog_1_method_25_code
def yX9_vertex : MethodName := ⟨RX9, "vertex", "(IIII)I"⟩
abbrev cX9_origin : ByteArray := prog_1_method_26_code
def yX9_origin : MethodName := ⟨RX9, "origin", "(IIII)I"⟩
abbrev cX9_component : ByteArray := prog_1_method_27_code
def yX9_component : MethodName := ⟨RX9, "component", "(III)I"⟩
abbrev cX9_events : ByteArray := prog_1_method_28_code
def yX9_events : MethodName := ⟨RX9, "events", "()I"⟩
abbrev cX9_event : ByteArray := prog_1_method_29_code
def yX9_event : MethodName := ⟨RX9, "event", "(II)I"⟩
abbrev cX9_branches : ByteArray := prog_1_method_30_code
def yX9_branches : MethodName := ⟨RX9, "branches", "()I"⟩
abbrev cX9_branch : ByteArray := prog_1_method_31_code
def yX9_branch : MethodName := ⟨RX9, "branch", "(II)I"⟩
abbrev cX9_clearance : ByteArray := prog_1_method_32_code
def yX9_clearance : MethodName := ⟨RX9, "clearance", "(IIII)I"⟩
abbrev cX9_path : ByteArray := prog_1_method_33_code
def yX9_path : MethodName := ⟨RX9, "path", "(IIIII)I"⟩
abbrev cX9_count : ByteArray := prog_1_method_34_code
def yX9_count : MethodName := ⟨RX9, "count", "(I)I"⟩
abbrev cX9_recordChange : ByteArray := prog_1_method_35_code
def yX9_recordChange : MethodName := ⟨RX9, "recordChange", "()V"⟩
abbrev cX9_isCell : ByteArray := prog_1_method_36_code
def yX9_isCell : MethodName := ⟨RX9, "isCell", "(II)Z"⟩
abbrev cX9_sampleOf : ByteArray := prog_1_method_37_code
def yX9_sampleOf : MethodName := ⟨RX9, "sampleOf", "(II)I"⟩
abbrev cX9_at : ByteArray := prog_1_method_38_code
def yX9_at : MethodName := ⟨RX9, "at", "([II)I"⟩
abbrev cX9_put : ByteArray := prog_1_method_39_code
def yX9_put : MethodName := ⟨RX9, "put", "([III)V"⟩
abbrev cX9_rowAt : ByteArray := prog_1_method_40_code
def yX9_rowAt : MethodName := ⟨RX9, "rowAt", "([JI)J"⟩
abbrev cX9_stepX : ByteArray := prog_1_method_41_code
def yX9_stepX : MethodName := ⟨RX9, "stepX", "(I)I"⟩
abbrev cX9_stepY : ByteArray := prog_1_method_42_code
def yX9_stepY : MethodName := ⟨RX9, "stepY", "(I)I"⟩
abbrev cX9_facesUp : ByteArray := prog_1_method_43_code
def yX9_facesUp : MethodName := ⟨RX9, "facesUp", "(I)Z"⟩
abbrev cX9_isLevel : ByteArray := prog_1_method_44_code
def yX9_isLevel : MethodName := ⟨RX9, "isLevel", "(I)Z"⟩
abbrev cX9_unit : ByteArray := prog_1_method_45_code
def yX9_unit : MethodName := ⟨RX9, "unit", "(I)I"⟩
abbrev cX9_lowestBit : ByteArray := prog_1_method_46_code
def yX9_lowestBit : MethodName := ⟨RX9, "lowestBit", "(J)I"⟩
def RX10 : String := "RectilinearRoofModel"
def TX10 : u_T := fun k => match k with
  | 0 => ("RectilinearRoofModel", "thrown", "I", false)
  | 1 => ("RectilinearRoofModel", "region", "[I", true)
  | 2 => ("RectilinearRoofModel", "past", "[I", true)
  | 3 => ("RectilinearRoofModel", "future", "[I", true)
  | 4 => ("RectilinearRoofModel", "kept", "[I", true)
  | 5 => ("RectilinearRoofModel", "next", "[I", true)
  | 6 => ("RectilinearRoofModel", "pastMany", "I", false)
  | 7 => ("RectilinearRoofModel", "futureMany", "I", false)
  | 8 => ("RectilinearRoofModel", "isKept", "Z", false)
  | 9 => ("RectilinearRoofModel", "isWorked", "Z", false)
  | 10 => ("RectilinearRoofModel", "letters", "[I", true)
  | 11 => ("RectilinearRoofModel", "letterMany", "I", false)
  | 12 => ("RectilinearRoofModel", "errorAt", "I", false)
  | 13 => ("RectilinearRoofModel", "at", "I", false)
  | 14 => ("RectilinearRoofModel", "fault", "I", false)
  | 15 => ("RectilinearRoofModel", "turned", "[I", true)
  | 16 => ("RectilinearRoofModel", "rows", "[J", true)
  | 17 => ("RectilinearRoofModel", "worn", "[J", true)
  | 18 => ("RectilinearRoofModel", "phaseMany", "I", false)
  | 19 => ("RectilinearRoofModel", "parts", "[I", true)
  | 20 => ("RectilinearRoofModel", "partMany", "[I", true)
  | 21 => ("RectilinearRoofModel", "parents", "[I", true)
  | 22 => ("RectilinearRoofModel", "childMany", "[I", true)
  | 23 => ("RectilinearRoofModel", "queue", "[I", true)
  | 24 => ("RectilinearRoofModel", "curveMany", "[I", true)
  | 25 => ("RectilinearRoofModel", "starts", "[I", true)
  | 26 => ("RectilinearRoofModel", "holes", "[I", true)
  | 27 => ("RectilinearRoofModel", "xs", "[I", true)
  | 28 => ("RectilinearRoofModel", "ys", "[I", true)
  | 29 => ("RectilinearRoofModel", "seen", "[Z", true)
  | 30 => ("RectilinearRoofModel", "sideDirection", "I", false)
  | 31 => ("RectilinearRoofModel", "sideLine", "I", false)
  | 32 => ("RectilinearRoofModel", "sideLow", "I", false)
  | 33 => ("RectilinearRoofModel", "sideHigh", "I", false)
  | 34 => ("RectilinearRoofModel", "edgeMany", "I", false)
  | 35 => ("RectilinearRoofModel", "directions", "[I", true)
  | 36 => ("RectilinearRoofModel", "lines", "[I", true)
  | 37 => ("RectilinearRoofModel", "lows", "[I", true)
  | 38 => ("RectilinearRoofModel", "highs", "[I", true)
  | 39 => ("RectilinearRoofModel", "curveOf", "[I", true)
  | 40 => ("RectilinearRoofModel", "faces", "[I", true)
  | 41 => ("RectilinearRoofModel", "originMany", "I", false)
  | 42 => ("RectilinearRoofModel", "originFirst", "I", false)
  | 43 => ("RectilinearRoofModel", "originLast", "I", false)
  | 44 => ("RectilinearRoofModel", "branchMany", "I", false)
  | 45 => ("RectilinearRoofModel", "branchFrom", "[I", true)
  | 46 => ("RectilinearRoofModel", "branchTill", "[I", true)
  | 47 => ("RectilinearRoofModel", "branchPart", "[I", true)
  | 48 => ("RectilinearRoofModel", "branchParent", "[I", true)
  | 49 => ("RectilinearRoofModel", "branchSplits", "[I", true)
  | 50 => ("RectilinearRoofModel", "branchDeep", "[I", true)
  | 51 => ("RectilinearRoofModel", "halves", "[I", true)
  | 52 => ("RectilinearRoofModel", "groupMany", "I", false)
  | _ => ("RectilinearRoofModel", "steps", "[I", true)
def tyX10 : Nat → FieldType := fun k => match k with
  | 0 => .int
  | 1 => .array .int
  | 2 => .array .int
  | 3 => .array .int
  | 4 => .array .int
  | 5 => .array .int
  | 6 => .int
  | 7 => .int
  | 8 => .boolean
  | 9 => .boolean
  | 10 => .array .int
  | 11 => .int
  | 12 => .int
  | 13 => .int
  | 14 => .int
  | 15 => .array .int
  | 16 => .array .long
  | 17 => .array .long
  | 18 => .int
  | 19 => .array .int
  | 20 => .array .int
  | 21 => .array .int
  | 22 => .array .int
  | 23 => .array .int
  | 24 => .array .int
  | 25 => .array .int
  | 26 => .array .int
  | 27 => .array .int
  | 28 => .array .int
  | 29 => .array .boolean
  | 30 => .int
  | 31 => .int
  | 32 => .int
  | 33 => .int
  | 34 => .int
  | 35 => .array .int
  | 36 => .array .int
  | 37 => .array .int
  | 38 => .array .int
  | 39 => .array .int
  | 40 => .array .int
  | 41 => .int
  | 42 => .int
  | 43 => .int
  | 44 => .int
  | 45 => .array .int
  | 46 => .array .int
  | 47 => .array .int
  | 48 => .array .int
  | 49 => .array .int
  | 50 => .array .int
  | 51 => .array .int
  | 52 => .int
  | _ => .array .int
abbrev wsX100 : List Cond := u_ws RX10 TX10 54
theorem nmX10 : ∀ a, a < 54 → ∀ b, b < 54 → a ≠ b → (TX10 a).2.1 ≠ (TX10 b).2.1 := by decide +kernel
theorem tyX10_ok : ∀ k, k < 54 → parseFieldDescriptor (TX10 k).2.2.1 = some (tyX10 k) := by decide +kernel
abbrev cX10_init : ByteArray := prog_12_method_1_code
def yX10_init : MethodName := ⟨RX10, "<init>", "()V"⟩
abbrev cX10_thrown : ByteArray := prog_12_method_2_code
def yX10_thrown : MethodName := ⟨RX10, "thrown", "()I"⟩
abbrev cX10_in : ByteArray := prog_12_method_3_code
def yX10_in : MethodName := ⟨RX10, "in", "(III)Z"⟩
abbrev cX10_bits : ByteArray := prog_12_method_4_code
def yX10_bits : MethodName := ⟨RX10, "bits", "(J)I"⟩
abbrev cX10_has : ByteArray := prog_12_method_5_code
def yX10_has : MethodName := ⟨RX10, "has", "(II)Z"⟩
abbrev cX10_cells : ByteArray := prog_12_method_6_code
def yX10_cells : MethodName := ⟨RX10, "cells", "()I"⟩
abbrev cX10_copies : ByteArray := prog_12_method_7_code
def yX10_copies : MethodName := ⟨RX10, "copies", "([II[II)V"⟩
abbrev cX10_pushes : ByteArray := prog_12_method_8_code
def yX10_pushes : MethodName := ⟨RX10, "pushes", "([II)V"⟩
abbrev cX10_changes : ByteArray := prog_12_method_9_code
def yX10_changes : MethodName := ⟨RX10, "changes", "()V"⟩
abbrev cX10_draws : ByteArray := prog_12_method_10_code
def yX10_draws : MethodName := ⟨RX10, "draws", "(IIIII)V"⟩
abbrev cX10_rectangle : ByteArray := prog_12_method_11_code
def yX10_rectangle : MethodName := ⟨RX10, "rectangle", "(IIIII)I"⟩
abbrev cX10_clear : ByteArray := prog_12_method_12_code
def yX10_clear : MethodName := ⟨RX10, "clear", "()I"⟩
abbrev cX10_undo : ByteArray := prog_12_method_13_code
def yX10_undo : MethodName := ⟨RX10, "undo", "()I"⟩
abbrev cX10_redo : ByteArray := prog_12_method_14_code
def yX10_redo : MethodName := ⟨RX10, "redo", "()I"⟩
abbrev cX10_save : ByteArray := prog_12_method_15_code
def yX10_save : MethodName := ⟨RX10, "save", "()I"⟩
abbrev cX10_restore : ByteArray := prog_12_method_16_code
def yX10_restore : MethodName := ⟨RX10, "restore", "()I"⟩
abbrev cX10_append : ByteArray := prog_12_method_17_code
def yX10_append : MethodName := ⟨RX10, "append", "(I)I"⟩
abbrev cX10_letter : ByteArray := prog_12_method_18_code
def yX10_letter : MethodName := ⟨RX10, "letter", "()I"⟩
abbrev cX10_takes : ByteArray := prog_12_method_19_code
def yX10_takes : MethodName := ⟨RX10, "takes", "(I)V"⟩
abbrev cX10_number : ByteArray := prog_12_method_20_code
def yX10_number : MethodName := ⟨RX10, "number", "(II)I"⟩
abbrev cX10_turns : ByteArray := prog_12_method_21_code
def yX10_turns : MethodName := ⟨RX10, "turns", "(Z)V"⟩
abbrev cX10_command : ByteArray := prog_12_method_22_code
def yX10_command : MethodName := ⟨RX10, "command", "()V"⟩
abbrev cX10_execute : ByteArray := prog_12_method_23_code
def yX10_execute : MethodName := ⟨RX10, "execute", "()I"⟩
abbrev cX10_errorPosition : ByteArray := prog_12_method_24_code
def yX10_errorPosition : MethodName := ⟨RX10, "errorPosition", "()I"⟩
abbrev cX10_contains : ByteArray := prog_12_method_25_code
def yX10_contains : MethodName := ⟨RX10, "contains", "(II)Z"⟩
abbrev cX10_isFine : ByteArray := prog_12_method_26_code
def yX10_isFine : MethodName := ⟨RX10, "isFine", "(II)Z"⟩
abbrev cX10_is : ByteArray := prog_12_method_27_code
def yX10_is : MethodName := ⟨RX10, "is", "(III)Z"⟩
abbrev cX10_wears : ByteArray := prog_12_method_28_code
def yX10_wears : MethodName := ⟨RX10, "wears", "(I)V"⟩
abbrev cX10_refines : ByteArray := prog_12_method_29_code
def yX10_refines : MethodName := ⟨RX10, "refines", "(I)V"⟩
abbrev cX10_isWorn : ByteArray := prog_12_method_30_code
def yX10_isWorn : MethodName := ⟨RX10, "isWorn", "(I)Z"⟩
abbrev cX10_spreads : ByteArray := prog_12_method_31_code
def yX10_spreads : MethodName := ⟨RX10, "spreads", "(III)V"⟩
abbrev cX10_labels : ByteArray := prog_12_method_32_code
def yX10_labels : MethodName := ⟨RX10, "labels", "(I)V"⟩
abbrev cX10_leaves : ByteArray := prog_12_method_33_code
def yX10_leaves : MethodName := ⟨RX10, "leaves", "(III)I"⟩
abbrev cX10_isCorner : ByteArray := prog_12_method_34_code
def yX10_isCorner : MethodName := ⟨RX10, "isCorner", "(III)Z"⟩
abbrev cX10_curves : ByteArray := prog_12_method_35_code
def yX10_curves : MethodName := ⟨RX10, "curves", "(I)V"⟩
abbrev cX10_start : ByteArray := prog_12_method_36_code
def yX10_start : MethodName := ⟨RX10, "start", "(II)I"⟩
abbrev cX10_sizeOf : ByteArray := prog_12_method_37_code
def yX10_sizeOf : MethodName := ⟨RX10, "sizeOf", "(II)I"⟩
abbrev cX10_pointMany : ByteArray := prog_12_method_38_code
def yX10_pointMany : MethodName := ⟨RX10, "pointMany", "(I)I"⟩
abbrev cX10_holeMany : ByteArray := prog_12_method_39_code
def yX10_holeMany : MethodName := ⟨RX10, "holeMany", "(I)I"⟩
abbrev cX10_side : ByteArray := prog_12_method_40_code
def yX10_side : MethodName := ⟨RX10, "side", "(III)V"⟩
abbrev cX10_lengthOf : ByteArray := prog_12_method_41_code
def yX10_lengthOf : MethodName := ⟨RX10, "lengthOf", "(II)I"⟩
abbrev cX10_isUp : ByteArray := prog_12_method_42_code
def yX10_isUp : MethodName := ⟨RX10, "isUp", "(I)Z"⟩
abbrev cX10_edgesWorked : ByteArray := prog_12_method_43_code
def yX10_edgesWorked : MethodName := ⟨RX10, "edgesWorked", "()V"⟩
abbrev cX10_heightOf : ByteArray := prog_12_method_44_code
def yX10_heightOf : MethodName := ⟨RX10, "heightOf", "(II)I"⟩
abbrev cX10_faceOf : ByteArray := prog_12_method_45_code
def yX10_faceOf : MethodName := ⟨RX10, "faceOf", "(II)I"⟩
abbrev cX10_comes : ByteArray := prog_12_method_46_code
def yX10_comes : MethodName := ⟨RX10, "comes", "(II)Z"⟩
abbrev cX10_origins : ByteArray := prog_12_method_47_code
def yX10_origins : MethodName := ⟨RX10, "origins", "(III)V"⟩
abbrev cX10_extinct : ByteArray := prog_12_method_48_code
def yX10_extinct : MethodName := ⟨RX10, "extinct", "(I)I"⟩
abbrev cX10_childOf : ByteArray := prog_12_method_49_code
def yX10_childOf : MethodName := ⟨RX10, "childOf", "(II)I"⟩
abbrev cX10_branches : ByteArray := prog_12_method_50_code
def yX10_branches : MethodName := ⟨RX10, "branches", "(III)V"⟩
abbrev cX10_works : ByteArray := prog_12_method_51_code
def yX10_works : MethodName := ⟨RX10, "works", "()V"⟩
abbrev cX10_edges : ByteArray := prog_12_method_52_code
def yX10_edges : MethodName := ⟨RX10, "edges", "()I"⟩
abbrev cX10_edge : ByteArray := prog_12_method_53_code
def yX10_edge : MethodName := ⟨RX10, "edge", "(II)I"⟩
abbrev cX10_corners : ByteArray := prog_12_method_54_code
def yX10_corners : MethodName := ⟨RX10, "corners", "()I"⟩
abbrev cX10_areLike : ByteArray := prog_12_method_55_code
def yX10_areLike : MethodName := ⟨RX10, "areLike", "(II)Z"⟩
abbrev cX10_firstOf : ByteArray := prog_12_method_56_code
def yX10_firstOf : MethodName := ⟨RX10, "firstOf", "(I)I"⟩
abbrev cX10_groups : ByteArray := prog_12_method_57_code
def yX10_groups : MethodName := ⟨RX10, "groups", "()I"⟩
abbrev cX10_group : ByteArray := prog_12_method_58_code
def yX10_group : MethodName := ⟨RX10, "group", "(II)I"⟩
abbrev cX10_turnedX : ByteArray := prog_12_method_59_code
def yX10_turnedX : MethodName := ⟨RX10, "turnedX", "(III)I"⟩
abbrev cX10_turnedY : ByteArray := prog_12_method_60_code
def yX10_turnedY : MethodName := ⟨RX10, "turnedY", "(III)I"⟩
abbrev cX10_isSame : ByteArray := prog_12_method_61_code
def yX10_isSame : MethodName := ⟨RX10, "isSame", "(I)Z"⟩
abbrev cX10_symmetries : ByteArray := prog_12_method_62_code
def yX10_symmetries : MethodName := ⟨RX10, "symmetries", "()I"⟩
abbrev cX10_height : ByteArray := prog_12_method_63_code
def yX10_height : MethodName := ⟨RX10, "height", "(II)I"⟩
abbrev cX10_face : ByteArray := prog_12_method_64_code
def yX10_face : MethodName := ⟨RX10, "face", "(II)I"⟩
abbrev cX10_area : ByteArray := prog_12_method_65_code
def yX10_area : MethodName := ⟨RX10, "area", "(I)I"⟩
abbrev cX10_fineMany : ByteArray := prog_12_method_66_code
def yX10_fineMany : MethodName := ⟨RX10, "fineMany", "(I)I"⟩
abbrev cX10_volume : ByteArray := prog_12_method_67_code
def yX10_volume : MethodName := ⟨RX10, "volume", "()I"⟩
abbrev cX10_phases : ByteArray := prog_12_method_68_code
def yX10_phases : MethodName := ⟨RX10, "phases", "()I"⟩
abbrev cX10_phase : ByteArray := prog_12_method_69_code
def yX10_phase : MethodName := ⟨RX10, "phase", "(II)I"⟩
abbrev cX10_summed : ByteArray := prog_12_method_70_code
def yX10_summed : MethodName := ⟨RX10, "summed", "(II)I"⟩
abbrev cX10_isCurve : ByteArray := prog_12_method_71_code
def yX10_isCurve : MethodName := ⟨RX10, "isCurve", "(II)Z"⟩
abbrev cX10_contour : ByteArray := prog_12_method_72_code
def yX10_contour : MethodName := ⟨RX10, "contour", "(III)I"⟩
abbrev cX10_vertex : ByteArray := prog_12_method_73_code
def yX10_vertex : MethodName := ⟨RX10, "vertex", "(IIII)I"⟩
abbrev cX10_origin : ByteArray := prog_12_method_74_code
def yX10_origin : MethodName := ⟨RX10, "origin", "(IIII)I"⟩
abbrev cX10_partAt : ByteArray := prog_12_method_75_code
def yX10_partAt : MethodName := ⟨RX10, "partAt", "(III)I"⟩
abbrev cX10_component : ByteArray := prog_12_method_76_code
def yX10_component : MethodName := ⟨RX10, "component", "(III)I"⟩
abbrev cX10_isEvent : ByteArray := prog_12_method_77_code
def yX10_isEvent : MethodName := ⟨RX10, "isEvent", "(I)Z"⟩
abbrev cX10_eventMany : ByteArray := prog_12_method_78_code
def yX10_eventMany : MethodName := ⟨RX10, "eventMany", "(I)I"⟩
abbrev cX10_events : ByteArray := prog_12_method_79_code
def yX10_events : MethodName := ⟨RX10, "events", "()I"⟩
abbrev cX10_endings : ByteArray := prog_12_method_80_code
def yX10_endings : MethodName := ⟨RX10, "endings", "(IZ)I"⟩
abbrev cX10_event : ByteArray := prog_12_method_81_code
def yX10_event : MethodName := ⟨RX10, "event", "(II)I"⟩
abbrev cX10_branches_ : ByteArray := prog_12_method_82_code
def yX10_branches_ : MethodName := ⟨RX10, "branches", "()I"⟩
abbrev cX10_branch : ByteArray := prog_12_method_83_code
def yX10_branch : MethodName := ⟨RX10, "branch", "(II)I"⟩
abbrev cX10_areCells : ByteArray := prog_12_method_84_code
def yX10_areCells : MethodName := ⟨RX10, "areCells", "(IIII)Z"⟩
abbrev cX10_clearance : ByteArray := prog_12_method_85_code
def yX10_clearance : MethodName := ⟨RX10, "clearance", "(IIII)I"⟩
abbrev cX10_path : ByteArray := prog_12_method_86_code
def yX10_path : MethodName := ⟨RX10, "path", "(IIIII)I"⟩
abbrev cX10_count : ByteArray := prog_12_method_87_code
def yX10_count : MethodName := ⟨RX10, "count", "(I)I"⟩
def RJ6 : String := "java/lang/Integer"
def TJ6 : u_T := fun k => match k with
  | _ => ("", "", "", false)
def tyJ6 : Nat → FieldType := fun k => match k with
  | _ => .int
abbrev wsJ60 : List Cond := u_ws RJ6 TJ6 0
theorem nmJ6 : ∀ a, a < 0 → ∀ b, b < 0 → a ≠ b → (TJ6 a).2.1 ≠ (TJ6 b).2.1 := by decide +kernel
theorem tyJ6_ok : ∀ k, k < 0 → parseFieldDescriptor (TJ6 k).2.2.1 = some (tyJ6 k) := by decide +kernel
abbrev cJ6_bitCount_0f7a4 : ByteArray := prog_17_method_49_code
def yJ6_bitCount_0f7a4 : MethodName := ⟨RJ6, "bitCount", "(I)I"⟩
def RJ13 : String := "java/lang/Long"
def TJ13 : u_T := fun k => match k with
  | _ => ("", "", "", false)
def tyJ13 : Nat → FieldType := fun k => match k with
  | _ => .int
abbrev wsJ130 : List Cond := u_ws RJ13 TJ13 0
theorem nmJ13 : ∀ a, a < 0 → ∀ b, b < 0 → a ≠ b → (TJ13 a).2.1 ≠ (TJ13 b).2.1 := by decide +kernel
theorem tyJ13_ok : ∀ k, k < 0 → parseFieldDescriptor (TJ13 k).2.2.1 = some (tyJ13 k) := by decide +kernel
abbrev cJ13_bitCount_95d88 : ByteArray := prog_18_method_50_code
def yJ13_bitCount_95d88 : MethodName := ⟨RJ13, "bitCount", "(J)I"⟩
def RJ9 : String := "java/lang/Math"
def TJ9 : u_T := fun k => match k with
  | _ => ("", "", "", false)
def tyJ9 : Nat → FieldType := fun k => match k with
  | _ => .int
abbrev wsJ90 : List Cond := u_ws RJ9 TJ9 0
theorem nmJ9 : ∀ a, a < 0 → ∀ b, b < 0 → a ≠ b → (TJ9 a).2.1 ≠ (TJ9 b).2.1 := by decide +kernel
theorem tyJ9_ok : ∀ k, k < 0 → parseFieldDescriptor (TJ9 k).2.2.1 = some (tyJ9 k) := by decide +kernel
abbrev cJ9_max_7cf53 : ByteArray := prog_19_method_65_code
def yJ9_max_7cf53 : MethodName := ⟨RJ9, "max", "(II)I"⟩
abbrev cJ9_min_7cf53 : ByteArray := prog_19_method_69_code
def yJ9_min_7cf53 : MethodName := ⟨RJ9, "min", "(II)I"⟩
def RJ0 : String := "java/lang/String"
def TJ0 : u_T := fun k => match k with
  | _ => ("", "", "", false)
def tyJ0 : Nat → FieldType := fun k => match k with
  | _ => .int
abbrev wsJ00 : List Cond := u_ws RJ0 TJ0 0
theorem nmJ0 : ∀ a, a < 0 → ∀ b, b < 0 → a ≠ b → (TJ0 a).2.1 ≠ (TJ0 b).2.1 := by decide +kernel
theorem tyJ0_ok : ∀ k, k < 0 → parseFieldDescriptor (TJ0 k).2.2.1 = some (tyJ0 k) := by decide +kernel
def RJ7 : String := "java/util/Arrays"
def TJ7 : u_T := fun k => match k with
  | _ => ("", "", "", false)
def tyJ7 : Nat → FieldType := fun k => match k with
  | _ => .int
abbrev wsJ70 : List Cond := u_ws RJ7 TJ7 0
theorem nmJ7 : ∀ a, a < 0 → ∀ b, b < 0 → a ≠ b → (TJ7 a).2.1 ≠ (TJ7 b).2.1 := by decide +kernel
theorem tyJ7_ok : ∀ k, k < 0 → parseFieldDescriptor (TJ7 k).2.2.1 = some (tyJ7 k) := by decide +kernel
abbrev cJ7_fill_53178 : ByteArray := prog_23_method_103_code
def yJ7_fill_53178 : MethodName := ⟨RJ7, "fill", "([II)V"⟩
def RL : String := "RectilinearRoofLaw"
abbrev cL_rectangle : ByteArray := method_3_code
def yL_rectangle : MethodName := ⟨RL, "rectangle", "(LRectilinearRoof;IIIII[J)I"⟩
abbrev cL_append : ByteArray := method_4_code
def yL_append : MethodName := ⟨RL, "append", "(LRectilinearRoof;I[J)I"⟩
abbrev cL_execute : ByteArray := method_5_code
def yL_execute : MethodName := ⟨RL, "execute", "(LRectilinearRoof;[J)I"⟩
abbrev cL_undo : ByteArray := method_6_code
def yL_undo : MethodName := ⟨RL, "undo", "(LRectilinearRoof;[J)I"⟩
abbrev cL_redo : ByteArray := method_7_code
def yL_redo : MethodName := ⟨RL, "redo", "(LRectilinearRoof;[J)I"⟩
abbrev cL_restore : ByteArray := method_8_code
def yL_restore : MethodName := ⟨RL, "restore", "(LRectilinearRoof;[J)I"⟩
abbrev cL_contains : ByteArray := method_9_code
def yL_contains : MethodName := ⟨RL, "contains", "(LRectilinearRoof;II[J)I"⟩
abbrev cL_edge : ByteArray := method_10_code
def yL_edge : MethodName := ⟨RL, "edge", "(LRectilinearRoof;II[J)I"⟩
abbrev cL_group : ByteArray := method_11_code
def yL_group : MethodName := ⟨RL, "group", "(LRectilinearRoof;II[J)I"⟩
abbrev cL_height : ByteArray := method_12_code
def yL_height : MethodName := ⟨RL, "height", "(LRectilinearRoof;II[J)I"⟩
abbrev cL_face : ByteArray := method_13_code
def yL_face : MethodName := ⟨RL, "face", "(LRectilinearRoof;II[J)I"⟩
abbrev cL_area : ByteArray := method_14_code
def yL_area : MethodName := ⟨RL, "area", "(LRectilinearRoof;I[J)I"⟩
abbrev cL_phase : ByteArray := method_15_code
def yL_phase : MethodName := ⟨RL, "phase", "(LRectilinearRoof;II[J)I"⟩
abbrev cL_contour : ByteArray := method_16_code
def yL_contour : MethodName := ⟨RL, "contour", "(LRectilinearRoof;III[J)I"⟩
abbrev cL_vertex : ByteArray := method_17_code
def yL_vertex : MethodName := ⟨RL, "vertex", "(LRectilinearRoof;IIII[J)I"⟩
abbrev cL_origin : ByteArray := method_18_code
def yL_origin : MethodName := ⟨RL, "origin", "(LRectilinearRoof;IIII[J)I"⟩
abbrev cL_component : ByteArray := method_19_code
def yL_component : MethodName := ⟨RL, "component", "(LRectilinearRoof;III[J)I"⟩
abbrev cL_event : ByteArray := method_20_code
def yL_event : MethodName := ⟨RL, "event", "(LRectilinearRoof;II[J)I"⟩
abbrev cL_branch : ByteArray := method_21_code
def yL_branch : MethodName := ⟨RL, "branch", "(LRectilinearRoof;II[J)I"⟩
abbrev cL_clearance : ByteArray := method_22_code
def yL_clearance : MethodName := ⟨RL, "clearance", "(LRectilinearRoof;IIII[J)I"⟩
abbrev cL_path : ByteArray := method_23_code
def yL_path : MethodName := ⟨RL, "path", "(LRectilinearRoof;IIIII[J)I"⟩
abbrev cL_count : ByteArray := method_24_code
def yL_count : MethodName := ⟨RL, "count", "(LRectilinearRoof;I[J)I"⟩
abbrev cL_law : ByteArray := code
def yL_law : MethodName := ⟨RL, "law", "([I)Z"⟩
abbrev vwCl : List vw_C := [(RX0, TX0, 10), (RX1, TX1, 4), (RX2, TX2, 16), (RX3, TX3, 11), (RX4, TX4, 2), (RX5, TX5, 12), (RX6, TX6, 6), (RX7, TX7, 11), (RX8, TX8, 2), (RX9, TX9, 7), (RX10, TX10, 54)]
