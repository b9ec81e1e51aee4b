-- ===== PART A: goes FIRST, ahead of the names: the tables' words, and 'selects' of the private methods out of them =====
/-- a private method of a class that the tables say can be made, by its rows of tables_1 -/
def lw_okq (q : MethodName × Nat) : Prop := (q.1.cls ≠ "java/lang/invoke/MethodHandle" ∧ q.1.cls ≠ "java/lang/invoke/VarHandle") ∧ Cond.instantiable q.1.cls q.2 ∈ tables_1 ∧ Cond.privateMethod q.1 ∈ tables_1 ∧ Cond.instanceMethod q.1 ∈ tables_1
theorem lw_p0 : lw_okq (⟨"RectilinearRoof", "recordChange", "()V"⟩, 7) := ⟨⟨by decide +kernel, by decide +kernel⟩, List.mem_of_getElem? (i := 21) (by decide +kernel), List.mem_of_getElem? (i := 377) (by decide +kernel), List.mem_of_getElem? (i := 378) (by decide +kernel)⟩
theorem lw_p1 : lw_okq (⟨"java/lang/Throwable", "fillInStackTrace", "(I)Ljava/lang/Throwable;"⟩, 6) := ⟨⟨by decide +kernel, by decide +kernel⟩, List.mem_of_getElem? (i := 446) (by decide +kernel), List.mem_of_getElem? (i := 444) (by decide +kernel), List.mem_of_getElem? (i := 445) (by decide +kernel)⟩
theorem lw_p2 : lw_okq (⟨"RectilinearRoof$Roof", "measure", "(LRectilinearRoof$Region;)V"⟩, 12) := ⟨⟨by decide +kernel, by decide +kernel⟩, List.mem_of_getElem? (i := 89) (by decide +kernel), List.mem_of_getElem? (i := 488) (by decide +kernel), List.mem_of_getElem? (i := 489) (by decide +kernel)⟩
theorem lw_p3 : lw_okq (⟨"RectilinearRoof$Roof", "loadLayer", "(LRectilinearRoof$Region;)V"⟩, 12) := ⟨⟨by decide +kernel, by decide +kernel⟩, List.mem_of_getElem? (i := 89) (by decide +kernel), List.mem_of_getElem? (i := 493) (by decide +kernel), List.mem_of_getElem? (i := 494) (by decide +kernel)⟩
theorem lw_p4 : lw_okq (⟨"RectilinearRoof$Roof", "layerCells", "()I"⟩, 12) := ⟨⟨by decide +kernel, by decide +kernel⟩, List.mem_of_getElem? (i := 89) (by decide +kernel), List.mem_of_getElem? (i := 499) (by decide +kernel), List.mem_of_getElem? (i := 500) (by decide +kernel)⟩
theorem lw_p5 : lw_okq (⟨"RectilinearRoof$Roof", "noteSamples", "(I)V"⟩, 12) := ⟨⟨by decide +kernel, by decide +kernel⟩, List.mem_of_getElem? (i := 89) (by decide +kernel), List.mem_of_getElem? (i := 509) (by decide +kernel), List.mem_of_getElem? (i := 510) (by decide +kernel)⟩
theorem lw_p6 : lw_okq (⟨"RectilinearRoof$Roof", "copyLayer", "(LRectilinearRoof$Phase;)V"⟩, 12) := ⟨⟨by decide +kernel, by decide +kernel⟩, List.mem_of_getElem? (i := 89) (by decide +kernel), List.mem_of_getElem? (i := 520) (by decide +kernel), List.mem_of_getElem? (i := 521) (by decide +kernel)⟩
theorem lw_p7 : lw_okq (⟨"RectilinearRoof$Roof", "shrinkLayer", "()V"⟩, 12) := ⟨⟨by decide +kernel, by decide +kernel⟩, List.mem_of_getElem? (i := 89) (by decide +kernel), List.mem_of_getElem? (i := 528) (by decide +kernel), List.mem_of_getElem? (i := 529) (by decide +kernel)⟩
theorem lw_p8 : lw_okq (⟨"RectilinearRoof$Phase", "findRuns", "()V"⟩, 11) := ⟨⟨by decide +kernel, by decide +kernel⟩, List.mem_of_getElem? (i := 175) (by decide +kernel), List.mem_of_getElem? (i := 536) (by decide +kernel), List.mem_of_getElem? (i := 537) (by decide +kernel)⟩
theorem lw_p9 : lw_okq (⟨"RectilinearRoof$Phase", "addRun", "(JI)V"⟩, 11) := ⟨⟨by decide +kernel, by decide +kernel⟩, List.mem_of_getElem? (i := 175) (by decide +kernel), List.mem_of_getElem? (i := 542) (by decide +kernel), List.mem_of_getElem? (i := 543) (by decide +kernel)⟩
theorem lw_p10 : lw_okq (⟨"RectilinearRoof$Phase", "labelFrom", "(I)V"⟩, 11) := ⟨⟨by decide +kernel, by decide +kernel⟩, List.mem_of_getElem? (i := 175) (by decide +kernel), List.mem_of_getElem? (i := 548) (by decide +kernel), List.mem_of_getElem? (i := 549) (by decide +kernel)⟩
theorem lw_p11 : lw_okq (⟨"RectilinearRoof$Phase", "labelBeside", "(III)I"⟩, 11) := ⟨⟨by decide +kernel, by decide +kernel⟩, List.mem_of_getElem? (i := 175) (by decide +kernel), List.mem_of_getElem? (i := 552) (by decide +kernel), List.mem_of_getElem? (i := 553) (by decide +kernel)⟩
theorem lw_p12 : lw_okq (⟨"RectilinearRoof$Phase", "link", "(LRectilinearRoof$Phase;I)V"⟩, 11) := ⟨⟨by decide +kernel, by decide +kernel⟩, List.mem_of_getElem? (i := 175) (by decide +kernel), List.mem_of_getElem? (i := 557) (by decide +kernel), List.mem_of_getElem? (i := 558) (by decide +kernel)⟩
theorem lw_p13 : lw_okq (⟨"RectilinearRoof$Outline", "findBends", "(LRectilinearRoof$Phase;)V"⟩, 16) := ⟨⟨by decide +kernel, by decide +kernel⟩, List.mem_of_getElem? (i := 181) (by decide +kernel), List.mem_of_getElem? (i := 581) (by decide +kernel), List.mem_of_getElem? (i := 582) (by decide +kernel)⟩
theorem lw_p14 : lw_okq (⟨"RectilinearRoof$Outline", "follow", "(LRectilinearRoof$Phase;II)V"⟩, 16) := ⟨⟨by decide +kernel, by decide +kernel⟩, List.mem_of_getElem? (i := 181) (by decide +kernel), List.mem_of_getElem? (i := 591) (by decide +kernel), List.mem_of_getElem? (i := 592) (by decide +kernel)⟩
theorem lw_p15 : lw_okq (⟨"RectilinearRoof$Outline", "stepsToBend", "(III)I"⟩, 16) := ⟨⟨by decide +kernel, by decide +kernel⟩, List.mem_of_getElem? (i := 181) (by decide +kernel), List.mem_of_getElem? (i := 596) (by decide +kernel), List.mem_of_getElem? (i := 597) (by decide +kernel)⟩
def lw_privs_1 : List (MethodName × Nat) := [(⟨"RectilinearRoof", "recordChange", "()V"⟩, 7), (⟨"java/lang/Throwable", "fillInStackTrace", "(I)Ljava/lang/Throwable;"⟩, 6), (⟨"RectilinearRoof$Roof", "measure", "(LRectilinearRoof$Region;)V"⟩, 12), (⟨"RectilinearRoof$Roof", "loadLayer", "(LRectilinearRoof$Region;)V"⟩, 12), (⟨"RectilinearRoof$Roof", "layerCells", "()I"⟩, 12), (⟨"RectilinearRoof$Roof", "noteSamples", "(I)V"⟩, 12), (⟨"RectilinearRoof$Roof", "copyLayer", "(LRectilinearRoof$Phase;)V"⟩, 12), (⟨"RectilinearRoof$Roof", "shrinkLayer", "()V"⟩, 12), (⟨"RectilinearRoof$Phase", "findRuns", "()V"⟩, 11), (⟨"RectilinearRoof$Phase", "addRun", "(JI)V"⟩, 11), (⟨"RectilinearRoof$Phase", "labelFrom", "(I)V"⟩, 11), (⟨"RectilinearRoof$Phase", "labelBeside", "(III)I"⟩, 11), (⟨"RectilinearRoof$Phase", "link", "(LRectilinearRoof$Phase;I)V"⟩, 11), (⟨"RectilinearRoof$Outline", "findBends", "(LRectilinearRoof$Phase;)V"⟩, 16), (⟨"RectilinearRoof$Outline", "follow", "(LRectilinearRoof$Phase;II)V"⟩, 16), (⟨"RectilinearRoof$Outline", "stepsToBend", "(III)I"⟩, 16)]
theorem lw_r1 : ∀ q ∈ lw_privs_1, lw_okq q := List.forall_mem_cons.mpr ⟨lw_p0, List.forall_mem_cons.mpr ⟨lw_p1, List.forall_mem_cons.mpr ⟨lw_p2, List.forall_mem_cons.mpr ⟨lw_p3, List.forall_mem_cons.mpr ⟨lw_p4, List.forall_mem_cons.mpr ⟨lw_p5, List.forall_mem_cons.mpr ⟨lw_p6, List.forall_mem_cons.mpr ⟨lw_p7, List.forall_mem_cons.mpr ⟨lw_p8, List.forall_mem_cons.mpr ⟨lw_p9, List.forall_mem_cons.mpr ⟨lw_p10, List.forall_mem_cons.mpr ⟨lw_p11, List.forall_mem_cons.mpr ⟨lw_p12, List.forall_mem_cons.mpr ⟨lw_p13, List.forall_mem_cons.mpr ⟨lw_p14, List.forall_mem_cons.mpr ⟨lw_p15, fun _ h => absurd h List.not_mem_nil⟩⟩⟩⟩⟩⟩⟩⟩⟩⟩⟩⟩⟩⟩⟩⟩
theorem lw_p16 : lw_okq (⟨"RectilinearRoof$Outline", "isBend", "(II)Z"⟩, 16) := ⟨⟨by decide +kernel, by decide +kernel⟩, List.mem_of_getElem? (i := 181) (by decide +kernel), List.mem_of_getElem? (i := 606) (by decide +kernel), List.mem_of_getElem? (i := 607) (by decide +kernel)⟩
theorem lw_p17 : lw_okq (⟨"RectilinearRoof$Outline", "addSide", "(IIII)V"⟩, 16) := ⟨⟨by decide +kernel, by decide +kernel⟩, List.mem_of_getElem? (i := 181) (by decide +kernel), List.mem_of_getElem? (i := 610) (by decide +kernel), List.mem_of_getElem? (i := 611) (by decide +kernel)⟩
theorem lw_p18 : lw_okq (⟨"RectilinearRoof$Edges", "keyOf", "(I)I"⟩, 10) := ⟨⟨by decide +kernel, by decide +kernel⟩, List.mem_of_getElem? (i := 95) (by decide +kernel), List.mem_of_getElem? (i := 649) (by decide +kernel), List.mem_of_getElem? (i := 650) (by decide +kernel)⟩
theorem lw_p19 : lw_okq (⟨"RectilinearRoof$Edges", "sortIn", "(I)V"⟩, 10) := ⟨⟨by decide +kernel, by decide +kernel⟩, List.mem_of_getElem? (i := 95) (by decide +kernel), List.mem_of_getElem? (i := 662) (by decide +kernel), List.mem_of_getElem? (i := 663) (by decide +kernel)⟩
theorem lw_p20 : lw_okq (⟨"RectilinearRoof$Tree", "pushChildren", "(LRectilinearRoof$Phase;III)V"⟩, 11) := ⟨⟨by decide +kernel, by decide +kernel⟩, List.mem_of_getElem? (i := 134) (by decide +kernel), List.mem_of_getElem? (i := 671) (by decide +kernel), List.mem_of_getElem? (i := 672) (by decide +kernel)⟩
theorem lw_p21 : lw_okq (⟨"RectilinearRoof$Tree", "growBranch", "(LRectilinearRoof$Roof;III)V"⟩, 11) := ⟨⟨by decide +kernel, by decide +kernel⟩, List.mem_of_getElem? (i := 134) (by decide +kernel), List.mem_of_getElem? (i := 681) (by decide +kernel), List.mem_of_getElem? (i := 682) (by decide +kernel)⟩
theorem lw_p22 : lw_okq (⟨"RectilinearRoof$Tree", "measureWays", "()V"⟩, 11) := ⟨⟨by decide +kernel, by decide +kernel⟩, List.mem_of_getElem? (i := 134) (by decide +kernel), List.mem_of_getElem? (i := 691) (by decide +kernel), List.mem_of_getElem? (i := 692) (by decide +kernel)⟩
theorem lw_p23 : lw_okq (⟨"RectilinearRoof$Roof", "findFaces", "()V"⟩, 12) := ⟨⟨by decide +kernel, by decide +kernel⟩, List.mem_of_getElem? (i := 89) (by decide +kernel), List.mem_of_getElem? (i := 699) (by decide +kernel), List.mem_of_getElem? (i := 700) (by decide +kernel)⟩
theorem lw_p24 : lw_okq (⟨"RectilinearRoof$Roof", "lowestTouched", "(I)I"⟩, 12) := ⟨⟨by decide +kernel, by decide +kernel⟩, List.mem_of_getElem? (i := 89) (by decide +kernel), List.mem_of_getElem? (i := 704) (by decide +kernel), List.mem_of_getElem? (i := 705) (by decide +kernel)⟩
theorem lw_p25 : lw_okq (⟨"RectilinearRoof$Roof", "faceSize", "(I)I"⟩, 12) := ⟨⟨by decide +kernel, by decide +kernel⟩, List.mem_of_getElem? (i := 89) (by decide +kernel), List.mem_of_getElem? (i := 759) (by decide +kernel), List.mem_of_getElem? (i := 760) (by decide +kernel)⟩
theorem lw_p26 : lw_okq (⟨"RectilinearRoof$Roof", "extinction", "(I)I"⟩, 12) := ⟨⟨by decide +kernel, by decide +kernel⟩, List.mem_of_getElem? (i := 89) (by decide +kernel), List.mem_of_getElem? (i := 763) (by decide +kernel), List.mem_of_getElem? (i := 764) (by decide +kernel)⟩
theorem lw_p27 : lw_okq (⟨"RectilinearRoof$Roof", "drives", "(II)Z"⟩, 12) := ⟨⟨by decide +kernel, by decide +kernel⟩, List.mem_of_getElem? (i := 89) (by decide +kernel), List.mem_of_getElem? (i := 767) (by decide +kernel), List.mem_of_getElem? (i := 768) (by decide +kernel)⟩
theorem lw_p28 : lw_okq (⟨"RectilinearRoof$Region", "isCorner", "(II)Z"⟩, 2) := ⟨⟨by decide +kernel, by decide +kernel⟩, List.mem_of_getElem? (i := 29) (by decide +kernel), List.mem_of_getElem? (i := 784) (by decide +kernel), List.mem_of_getElem? (i := 785) (by decide +kernel)⟩
theorem lw_p29 : lw_okq (⟨"RectilinearRoof$Edges", "lengthOfKey", "(I)I"⟩, 10) := ⟨⟨by decide +kernel, by decide +kernel⟩, List.mem_of_getElem? (i := 95) (by decide +kernel), List.mem_of_getElem? (i := 803) (by decide +kernel), List.mem_of_getElem? (i := 804) (by decide +kernel)⟩
theorem lw_p30 : lw_okq (⟨"RectilinearRoof$Region", "hasShapeOf", "(LRectilinearRoof$Region;)Z"⟩, 2) := ⟨⟨by decide +kernel, by decide +kernel⟩, List.mem_of_getElem? (i := 29) (by decide +kernel), List.mem_of_getElem? (i := 822) (by decide +kernel), List.mem_of_getElem? (i := 823) (by decide +kernel)⟩
theorem lw_p31 : lw_okq (⟨"RectilinearRoof$Region", "leastX", "()I"⟩, 2) := ⟨⟨by decide +kernel, by decide +kernel⟩, List.mem_of_getElem? (i := 29) (by decide +kernel), List.mem_of_getElem? (i := 826) (by decide +kernel), List.mem_of_getElem? (i := 827) (by decide +kernel)⟩
def lw_privs_2 : List (MethodName × Nat) := [(⟨"RectilinearRoof$Outline", "isBend", "(II)Z"⟩, 16), (⟨"RectilinearRoof$Outline", "addSide", "(IIII)V"⟩, 16), (⟨"RectilinearRoof$Edges", "keyOf", "(I)I"⟩, 10), (⟨"RectilinearRoof$Edges", "sortIn", "(I)V"⟩, 10), (⟨"RectilinearRoof$Tree", "pushChildren", "(LRectilinearRoof$Phase;III)V"⟩, 11), (⟨"RectilinearRoof$Tree", "growBranch", "(LRectilinearRoof$Roof;III)V"⟩, 11), (⟨"RectilinearRoof$Tree", "measureWays", "()V"⟩, 11), (⟨"RectilinearRoof$Roof", "findFaces", "()V"⟩, 12), (⟨"RectilinearRoof$Roof", "lowestTouched", "(I)I"⟩, 12), (⟨"RectilinearRoof$Roof", "faceSize", "(I)I"⟩, 12), (⟨"RectilinearRoof$Roof", "extinction", "(I)I"⟩, 12), (⟨"RectilinearRoof$Roof", "drives", "(II)Z"⟩, 12), (⟨"RectilinearRoof$Region", "isCorner", "(II)Z"⟩, 2), (⟨"RectilinearRoof$Edges", "lengthOfKey", "(I)I"⟩, 10), (⟨"RectilinearRoof$Region", "hasShapeOf", "(LRectilinearRoof$Region;)Z"⟩, 2), (⟨"RectilinearRoof$Region", "leastX", "()I"⟩, 2)]
theorem lw_r2 : ∀ q ∈ lw_privs_2, lw_okq q := List.forall_mem_cons.mpr ⟨lw_p16, List.forall_mem_cons.mpr ⟨lw_p17, List.forall_mem_cons.mpr ⟨lw_p18, List.forall_mem_cons.mpr ⟨lw_p19, List.forall_mem_cons.mpr ⟨lw_p20, List.forall_mem_cons.mpr ⟨lw_p21, List.forall_mem_cons.mpr ⟨lw_p22, List.forall_mem_cons.mpr ⟨lw_p23, List.forall_mem_cons.mpr ⟨lw_p24, List.forall_mem_cons.mpr ⟨lw_p25, List.forall_mem_cons.mpr ⟨lw_p26, List.forall_mem_cons.mpr ⟨lw_p27, List.forall_mem_cons.mpr ⟨lw_p28, List.forall_mem_cons.mpr ⟨lw_p29, List.forall_mem_cons.mpr ⟨lw_p30, List.forall_mem_cons.mpr ⟨lw_p31, fun _ h => absurd h List.not_mem_nil⟩⟩⟩⟩⟩⟩⟩⟩⟩⟩⟩⟩⟩⟩⟩⟩
theorem lw_p32 : lw_okq (⟨"RectilinearRoof$Region", "leastY", "()I"⟩, 2) := ⟨⟨by decide +kernel, by decide +kernel⟩, List.mem_of_getElem? (i := 29) (by decide +kernel), List.mem_of_getElem? (i := 830) (by decide +kernel), List.mem_of_getElem? (i := 831) (by decide +kernel)⟩
theorem lw_p33 : lw_okq (⟨"RectilinearRoof$Roof", "mergedSides", "(I)I"⟩, 12) := ⟨⟨by decide +kernel, by decide +kernel⟩, List.mem_of_getElem? (i := 89) (by decide +kernel), List.mem_of_getElem? (i := 900) (by decide +kernel), List.mem_of_getElem? (i := 901) (by decide +kernel)⟩
theorem lw_p34 : lw_okq (⟨"RectilinearRoof$Roof", "isEvent", "(I)Z"⟩, 12) := ⟨⟨by decide +kernel, by decide +kernel⟩, List.mem_of_getElem? (i := 89) (by decide +kernel), List.mem_of_getElem? (i := 963) (by decide +kernel), List.mem_of_getElem? (i := 964) (by decide +kernel)⟩
def lw_privs_3 : List (MethodName × Nat) := [(⟨"RectilinearRoof$Region", "leastY", "()I"⟩, 2), (⟨"RectilinearRoof$Roof", "mergedSides", "(I)I"⟩, 12), (⟨"RectilinearRoof$Roof", "isEvent", "(I)Z"⟩, 12)]
theorem lw_r3 : ∀ q ∈ lw_privs_3, lw_okq q := List.forall_mem_cons.mpr ⟨lw_p32, List.forall_mem_cons.mpr ⟨lw_p33, List.forall_mem_cons.mpr ⟨lw_p34, fun _ h => absurd h List.not_mem_nil⟩⟩⟩
def lw_privs : List (MethodName × Nat) := lw_privs_1 ++ (lw_privs_2 ++ (lw_privs_3))
def lw_tbl : List Cond := k2_sels lw_privs ++ tables_1
theorem lw_privs_ok : ∀ q ∈ lw_privs, lw_okq q := by
  show ∀ q ∈ lw_privs_1 ++ (lw_privs_2 ++ (lw_privs_3)), lw_okq q
  exact List.forall_mem_append.mpr ⟨lw_r1, List.forall_mem_append.mpr ⟨lw_r2, lw_r3⟩⟩
-- ===== end of PART A; then your names; then what follows =====
def RX0 : String := "RectilinearRoof$Edges"
def TX0 : u_T := fun k => match k with
  | 0 => ("RectilinearRoof$Edges", "directions", "[I", true)
  | 1 => ("RectilinearRoof$Edges", "lines", "[I", true)
  | 2 => ("RectilinearRoof$Edges", "lows", "[I", true)
  | 3 => ("RectilinearRoof$Edges", "highs", "[I", true)
  | 4 => ("RectilinearRoof$Edges", "sorted", "[I", true)
  | 5 => ("RectilinearRoof$Edges", "starts", "[I", true)
  | 6 => ("RectilinearRoof$Edges", "ends", "[I", true)
  | 7 => ("RectilinearRoof$Edges", "groupKeys", "[I", true)
  | 8 => ("RectilinearRoof$Edges", "size", "I", false)
  | _ => ("RectilinearRoof$Edges", "groupCount", "I", false)
def tyX0 : Nat → FieldType := fun k => match k with
  | 0 => .array .int
  | 1 => .array .int
  | 2 => .array .int
  | 3 => .array .int
  | 4 => .array .int
  | 5 => .array .int
  | 6 => .array .int
  | 7 => .array .int
  | 8 => .int
  | _ => .int
abbrev wsX00 : List Cond := u_ws RX0 TX0 10
theorem nmX0 : ∀ a, a < 10 → ∀ b, b < 10 → a ≠ b → (TX0 a).2.1 ≠ (TX0 b).2.1 := by decide +kernel
theorem tyX0_ok : ∀ k, k < 10 → parseFieldDescriptor (TX0 k).2.2.1 = some (tyX0 k) := by decide +kernel
abbrev cX0_init : ByteArray := prog_2_method_1_code
def yX0_init : MethodName := ⟨RX0, "<init>", "()V"⟩
abbrev cX0_build : ByteArray := prog_2_method_2_code
def yX0_build : MethodName := ⟨RX0, "build", "(LRectilinearRoof$Outline;)V"⟩
abbrev cX0_keyOf : ByteArray := prog_2_method_3_code
def yX0_keyOf : MethodName := ⟨RX0, "keyOf", "(I)I"⟩
abbrev cX0_sortIn : ByteArray := prog_2_method_4_code
def yX0_sortIn : MethodName := ⟨RX0, "sortIn", "(I)V"⟩
abbrev cX0_directionOf : ByteArray := prog_2_method_5_code
def yX0_directionOf : MethodName := ⟨RX0, "directionOf", "(I)I"⟩
abbrev cX0_lineOf : ByteArray := prog_2_method_6_code
def yX0_lineOf : MethodName := ⟨RX0, "lineOf", "(I)I"⟩
abbrev cX0_lowOf : ByteArray := prog_2_method_7_code
def yX0_lowOf : MethodName := ⟨RX0, "lowOf", "(I)I"⟩
abbrev cX0_highOf : ByteArray := prog_2_method_8_code
def yX0_highOf : MethodName := ⟨RX0, "highOf", "(I)I"⟩
abbrev cX0_overlaps : ByteArray := prog_2_method_9_code
def yX0_overlaps : MethodName := ⟨RX0, "overlaps", "(III)Z"⟩
abbrev cX0_along : ByteArray := prog_2_method_10_code
def yX0_along : MethodName := ⟨RX0, "along", "(IIIII)I"⟩
abbrev cX0_groupProperty : ByteArray := prog_2_method_11_code
def yX0_groupProperty : MethodName := ⟨RX0, "groupProperty", "(II)I"⟩
abbrev cX0_lengthOfKey : ByteArray := prog_2_method_12_code
def yX0_lengthOfKey : MethodName := ⟨RX0, "lengthOfKey", "(I)I"⟩
def RX1 : String := "RectilinearRoof$History"
def TX1 : u_T := fun k => match k with
  | 0 => ("RectilinearRoof$History", "states", "[I", true)
  | 1 => ("RectilinearRoof$History", "slot", "I", false)
  | 2 => ("RectilinearRoof$History", "undoable", "I", false)
  | _ => ("RectilinearRoof$History", "redoable", "I", false)
def tyX1 : Nat → FieldType := fun k => match k with
  | 0 => .array .int
  | 1 => .int
  | 2 => .int
  | _ => .int
abbrev wsX10 : List Cond := u_ws RX1 TX1 4
theorem nmX1 : ∀ a, a < 4 → ∀ b, b < 4 → a ≠ b → (TX1 a).2.1 ≠ (TX1 b).2.1 := by decide +kernel
theorem tyX1_ok : ∀ k, k < 4 → parseFieldDescriptor (TX1 k).2.2.1 = some (tyX1 k) := by decide +kernel
abbrev cX1_init : ByteArray := prog_3_method_1_code
def yX1_init : MethodName := ⟨RX1, "<init>", "()V"⟩
abbrev cX1_record : ByteArray := prog_3_method_2_code
def yX1_record : MethodName := ⟨RX1, "record", "(LRectilinearRoof$Region;)V"⟩
def RX2 : String := "RectilinearRoof$Outline"
def TX2 : u_T := fun k => match k with
  | 0 => ("RectilinearRoof$Outline", "starts", "[I", true)
  | 1 => ("RectilinearRoof$Outline", "sizes", "[I", true)
  | 2 => ("RectilinearRoof$Outline", "holeFlags", "[I", true)
  | 3 => ("RectilinearRoof$Outline", "parts", "[I", true)
  | 4 => ("RectilinearRoof$Outline", "lengths", "[I", true)
  | 5 => ("RectilinearRoof$Outline", "directions", "[I", true)
  | 6 => ("RectilinearRoof$Outline", "lines", "[I", true)
  | 7 => ("RectilinearRoof$Outline", "lows", "[I", true)
  | 8 => ("RectilinearRoof$Outline", "highs", "[I", true)
  | 9 => ("RectilinearRoof$Outline", "bends", "[J", true)
  | 10 => ("RectilinearRoof$Outline", "unseen", "[J", true)
  | 11 => ("RectilinearRoof$Outline", "contours", "I", false)
  | 12 => ("RectilinearRoof$Outline", "holes", "I", false)
  | 13 => ("RectilinearRoof$Outline", "vertices", "I", false)
  | 14 => ("RectilinearRoof$Outline", "leftTurns", "I", false)
  | _ => ("RectilinearRoof$Outline", "length", "I", false)
def tyX2 : Nat → FieldType := fun k => match k with
  | 0 => .array .int
  | 1 => .array .int
  | 2 => .array .int
  | 3 => .array .int
  | 4 => .array .int
  | 5 => .array .int
  | 6 => .array .int
  | 7 => .array .int
  | 8 => .array .int
  | 9 => .array .long
  | 10 => .array .long
  | 11 => .int
  | 12 => .int
  | 13 => .int
  | 14 => .int
  | _ => .int
abbrev wsX20 : List Cond := u_ws RX2 TX2 16
theorem nmX2 : ∀ a, a < 16 → ∀ b, b < 16 → a ≠ b → (TX2 a).2.1 ≠ (TX2 b).2.1 := by decide +kernel
theorem tyX2_ok : ∀ k, k < 16 → parseFieldDescriptor (TX2 k).2.2.1 = some (tyX2 k) := by decide +kernel
abbrev cX2_init : ByteArray := prog_4_method_1_code
def yX2_init : MethodName := ⟨RX2, "<init>", "()V"⟩
abbrev cX2_trace : ByteArray := prog_4_method_2_code
def yX2_trace : MethodName := ⟨RX2, "trace", "(LRectilinearRoof$Phase;)V"⟩
abbrev cX2_findBends : ByteArray := prog_4_method_3_code
def yX2_findBends : MethodName := ⟨RX2, "findBends", "(LRectilinearRoof$Phase;)V"⟩
abbrev cX2_follow : ByteArray := prog_4_method_4_code
def yX2_follow : MethodName := ⟨RX2, "follow", "(LRectilinearRoof$Phase;II)V"⟩
abbrev cX2_addSide : ByteArray := prog_4_method_5_code
def yX2_addSide : MethodName := ⟨RX2, "addSide", "(IIII)V"⟩
abbrev cX2_stepsToBend : ByteArray := prog_4_method_6_code
def yX2_stepsToBend : MethodName := ⟨RX2, "stepsToBend", "(III)I"⟩
abbrev cX2_isBend : ByteArray := prog_4_method_7_code
def yX2_isBend : MethodName := ⟨RX2, "isBend", "(II)Z"⟩
abbrev cX2_cellsAround : ByteArray := prog_4_method_8_code
def yX2_cellsAround : MethodName := ⟨RX2, "cellsAround", "(LRectilinearRoof$Phase;II)I"⟩
abbrev cX2_contourProperty : ByteArray := prog_4_method_9_code
def yX2_contourProperty : MethodName := ⟨RX2, "contourProperty", "(II)I"⟩
abbrev cX2_sidesOf : ByteArray := prog_4_method_10_code
def yX2_sidesOf : MethodName := ⟨RX2, "sidesOf", "(I)I"⟩
abbrev cX2_sideIndex : ByteArray := prog_4_method_11_code
def yX2_sideIndex : MethodName := ⟨RX2, "sideIndex", "(II)I"⟩
abbrev cX2_contourOf : ByteArray := prog_4_method_12_code
def yX2_contourOf : MethodName := ⟨RX2, "contourOf", "(I)I"⟩
abbrev cX2_directionOf : ByteArray := prog_4_method_13_code
def yX2_directionOf : MethodName := ⟨RX2, "directionOf", "(I)I"⟩
abbrev cX2_lineOf : ByteArray := prog_4_method_14_code
def yX2_lineOf : MethodName := ⟨RX2, "lineOf", "(I)I"⟩
abbrev cX2_lowOf : ByteArray := prog_4_method_15_code
def yX2_lowOf : MethodName := ⟨RX2, "lowOf", "(I)I"⟩
abbrev cX2_highOf : ByteArray := prog_4_method_16_code
def yX2_highOf : MethodName := ⟨RX2, "highOf", "(I)I"⟩
abbrev cX2_vertexX : ByteArray := prog_4_method_17_code
def yX2_vertexX : MethodName := ⟨RX2, "vertexX", "(I)I"⟩
abbrev cX2_vertexY : ByteArray := prog_4_method_18_code
def yX2_vertexY : MethodName := ⟨RX2, "vertexY", "(I)I"⟩
def RX3 : String := "RectilinearRoof$Phase"
def TX3 : u_T := fun k => match k with
  | 0 => ("RectilinearRoof$Phase", "outline", "LRectilinearRoof$Outline;", true)
  | 1 => ("RectilinearRoof$Phase", "rows", "[J", true)
  | 2 => ("RectilinearRoof$Phase", "rowStarts", "[I", true)
  | 3 => ("RectilinearRoof$Phase", "runs", "[J", true)
  | 4 => ("RectilinearRoof$Phase", "runRows", "[I", true)
  | 5 => ("RectilinearRoof$Phase", "labels", "[I", true)
  | 6 => ("RectilinearRoof$Phase", "waiting", "[I", true)
  | 7 => ("RectilinearRoof$Phase", "parents", "[I", true)
  | 8 => ("RectilinearRoof$Phase", "children", "[I", true)
  | 9 => ("RectilinearRoof$Phase", "runCount", "I", false)
  | _ => ("RectilinearRoof$Phase", "components", "I", false)
def tyX3 : Nat → FieldType := fun k => match k with
  | 0 => .object "RectilinearRoof$Outline"
  | 1 => .array .long
  | 2 => .array .int
  | 3 => .array .long
  | 4 => .array .int
  | 5 => .array .int
  | 6 => .array .int
  | 7 => .array .int
  | 8 => .array .int
  | 9 => .int
  | _ => .int
abbrev wsX30 : List Cond := u_ws RX3 TX3 11
theorem nmX3 : ∀ a, a < 11 → ∀ b, b < 11 → a ≠ b → (TX3 a).2.1 ≠ (TX3 b).2.1 := by decide +kernel
theorem tyX3_ok : ∀ k, k < 11 → parseFieldDescriptor (TX3 k).2.2.1 = some (tyX3 k) := by decide +kernel
abbrev cX3_init : ByteArray := prog_5_method_1_code
def yX3_init : MethodName := ⟨RX3, "<init>", "()V"⟩
abbrev cX3_covers : ByteArray := prog_5_method_2_code
def yX3_covers : MethodName := ⟨RX3, "covers", "(II)Z"⟩
abbrev cX3_row : ByteArray := prog_5_method_3_code
def yX3_row : MethodName := ⟨RX3, "row", "(I)J"⟩
abbrev cX3_setRow : ByteArray := prog_5_method_4_code
def yX3_setRow : MethodName := ⟨RX3, "setRow", "(IJ)V"⟩
abbrev cX3_build : ByteArray := prog_5_method_5_code
def yX3_build : MethodName := ⟨RX3, "build", "(LRectilinearRoof$Phase;)V"⟩
abbrev cX3_findRuns : ByteArray := prog_5_method_6_code
def yX3_findRuns : MethodName := ⟨RX3, "findRuns", "()V"⟩
abbrev cX3_addRun : ByteArray := prog_5_method_7_code
def yX3_addRun : MethodName := ⟨RX3, "addRun", "(JI)V"⟩
abbrev cX3_labelFrom : ByteArray := prog_5_method_8_code
def yX3_labelFrom : MethodName := ⟨RX3, "labelFrom", "(I)V"⟩
abbrev cX3_labelBeside : ByteArray := prog_5_method_9_code
def yX3_labelBeside : MethodName := ⟨RX3, "labelBeside", "(III)I"⟩
abbrev cX3_link : ByteArray := prog_5_method_10_code
def yX3_link : MethodName := ⟨RX3, "link", "(LRectilinearRoof$Phase;I)V"⟩
abbrev cX3_labelOf : ByteArray := prog_5_method_11_code
def yX3_labelOf : MethodName := ⟨RX3, "labelOf", "(I)I"⟩
abbrev cX3_parentOf : ByteArray := prog_5_method_12_code
def yX3_parentOf : MethodName := ⟨RX3, "parentOf", "(I)I"⟩
abbrev cX3_childCount : ByteArray := prog_5_method_13_code
def yX3_childCount : MethodName := ⟨RX3, "childCount", "(I)I"⟩
abbrev cX3_firstChildOf : ByteArray := prog_5_method_14_code
def yX3_firstChildOf : MethodName := ⟨RX3, "firstChildOf", "(I)I"⟩
def RX4 : String := "RectilinearRoof$Region"
def TX4 : u_T := fun k => match k with
  | 0 => ("RectilinearRoof$Region", "rows", "[I", true)
  | _ => ("RectilinearRoof$Region", "turned", "[I", true)
def tyX4 : Nat → FieldType := fun k => match k with
  | 0 => .array .int
  | _ => .array .int
abbrev wsX40 : List Cond := u_ws RX4 TX4 2
theorem nmX4 : ∀ a, a < 2 → ∀ b, b < 2 → a ≠ b → (TX4 a).2.1 ≠ (TX4 b).2.1 := by decide +kernel
theorem tyX4_ok : ∀ k, k < 2 → parseFieldDescriptor (TX4 k).2.2.1 = some (tyX4 k) := by decide +kernel
abbrev cX4_init : ByteArray := prog_6_method_1_code
def yX4_init : MethodName := ⟨RX4, "<init>", "()V"⟩
abbrev cX4_has : ByteArray := prog_6_method_2_code
def yX4_has : MethodName := ⟨RX4, "has", "(II)Z"⟩
abbrev cX4_size : ByteArray := prog_6_method_3_code
def yX4_size : MethodName := ⟨RX4, "size", "()I"⟩
abbrev cX4_wipe : ByteArray := prog_6_method_4_code
def yX4_wipe : MethodName := ⟨RX4, "wipe", "()V"⟩
abbrev cX4_copy : ByteArray := prog_6_method_5_code
def yX4_copy : MethodName := ⟨RX4, "copy", "(LRectilinearRoof$Region;)V"⟩
abbrev cX4_change : ByteArray := prog_6_method_6_code
def yX4_change : MethodName := ⟨RX4, "change", "(IIIII)V"⟩
abbrev cX4_combined : ByteArray := prog_6_method_7_code
def yX4_combined : MethodName := ⟨RX4, "combined", "(III)I"⟩
abbrev cX4_turn : ByteArray := prog_6_method_8_code
def yX4_turn : MethodName := ⟨RX4, "turn", "()V"⟩
abbrev cX4_mirror : ByteArray := prog_6_method_9_code
def yX4_mirror : MethodName := ⟨RX4, "mirror", "()V"⟩
abbrev cX4_selfMaps : ByteArray := prog_6_method_10_code
def yX4_selfMaps : MethodName := ⟨RX4, "selfMaps", "(LRectilinearRoof$Region;)I"⟩
abbrev cX4_hasShapeOf : ByteArray := prog_6_method_11_code
def yX4_hasShapeOf : MethodName := ⟨RX4, "hasShapeOf", "(LRectilinearRoof$Region;)Z"⟩
abbrev cX4_leastX : ByteArray := prog_6_method_12_code
def yX4_leastX : MethodName := ⟨RX4, "leastX", "()I"⟩
abbrev cX4_leastY : ByteArray := prog_6_method_13_code
def yX4_leastY : MethodName := ⟨RX4, "leastY", "()I"⟩
abbrev cX4_cornerPoints : ByteArray := prog_6_method_14_code
def yX4_cornerPoints : MethodName := ⟨RX4, "cornerPoints", "()I"⟩
abbrev cX4_isCorner : ByteArray := prog_6_method_15_code
def yX4_isCorner : MethodName := ⟨RX4, "isCorner", "(II)Z"⟩
abbrev cX4_heightAt : ByteArray := prog_6_method_16_code
def yX4_heightAt : MethodName := ⟨RX4, "heightAt", "(II)I"⟩
abbrev cX4_gap : ByteArray := prog_6_method_17_code
def yX4_gap : MethodName := ⟨RX4, "gap", "(II)I"⟩
def RX5 : String := "RectilinearRoof$Roof"
def TX5 : u_T := fun k => match k with
  | 0 => ("RectilinearRoof$Roof", "edgeList", "LRectilinearRoof$Edges;", true)
  | 1 => ("RectilinearRoof$Roof", "tree", "LRectilinearRoof$Tree;", true)
  | 2 => ("RectilinearRoof$Roof", "nothing", "LRectilinearRoof$Phase;", true)
  | 3 => ("RectilinearRoof$Roof", "phaseList", "[LRectilinearRoof$Phase;", true)
  | 4 => ("RectilinearRoof$Roof", "walk", "LRectilinearRoof$Walk;", true)
  | 5 => ("RectilinearRoof$Roof", "layer", "[J", true)
  | 6 => ("RectilinearRoof$Roof", "narrowed", "[J", true)
  | 7 => ("RectilinearRoof$Roof", "tally", "[I", true)
  | 8 => ("RectilinearRoof$Roof", "sampleDepths", "[I", true)
  | 9 => ("RectilinearRoof$Roof", "faces", "[I", true)
  | 10 => ("RectilinearRoof$Roof", "fresh", "Z", false)
  | _ => ("RectilinearRoof$Roof", "phaseCount", "I", false)
def tyX5 : Nat → FieldType := fun k => match k with
  | 0 => .object "RectilinearRoof$Edges"
  | 1 => .object "RectilinearRoof$Tree"
  | 2 => .object "RectilinearRoof$Phase"
  | 3 => .array (.object "RectilinearRoof$Phase")
  | 4 => .object "RectilinearRoof$Walk"
  | 5 => .array .long
  | 6 => .array .long
  | 7 => .array .int
  | 8 => .array .int
  | 9 => .array .int
  | 10 => .boolean
  | _ => .int
abbrev wsX50 : List Cond := u_ws RX5 TX5 12
theorem nmX5 : ∀ a, a < 12 → ∀ b, b < 12 → a ≠ b → (TX5 a).2.1 ≠ (TX5 b).2.1 := by decide +kernel
theorem tyX5_ok : ∀ k, k < 12 → parseFieldDescriptor (TX5 k).2.2.1 = some (tyX5 k) := by decide +kernel
abbrev cX5_init : ByteArray := prog_7_method_1_code
def yX5_init : MethodName := ⟨RX5, "<init>", "()V"⟩
abbrev cX5_spoil : ByteArray := prog_7_method_2_code
def yX5_spoil : MethodName := ⟨RX5, "spoil", "()V"⟩
abbrev cX5_refresh : ByteArray := prog_7_method_3_code
def yX5_refresh : MethodName := ⟨RX5, "refresh", "(LRectilinearRoof$Region;)V"⟩
abbrev cX5_phaseAt : ByteArray := prog_7_method_4_code
def yX5_phaseAt : MethodName := ⟨RX5, "phaseAt", "(I)LRectilinearRoof$Phase;"⟩
abbrev cX5_hasPhase : ByteArray := prog_7_method_5_code
def yX5_hasPhase : MethodName := ⟨RX5, "hasPhase", "(I)Z"⟩
abbrev cX5_hasContour : ByteArray := prog_7_method_6_code
def yX5_hasContour : MethodName := ⟨RX5, "hasContour", "(II)Z"⟩
abbrev cX5_hasSide : ByteArray := prog_7_method_7_code
def yX5_hasSide : MethodName := ⟨RX5, "hasSide", "(III)Z"⟩
abbrev cX5_measure : ByteArray := prog_7_method_8_code
def yX5_measure : MethodName := ⟨RX5, "measure", "(LRectilinearRoof$Region;)V"⟩
abbrev cX5_loadLayer : ByteArray := prog_7_method_9_code
def yX5_loadLayer : MethodName := ⟨RX5, "loadLayer", "(LRectilinearRoof$Region;)V"⟩
abbrev cX5_layerCells : ByteArray := prog_7_method_10_code
def yX5_layerCells : MethodName := ⟨RX5, "layerCells", "()I"⟩
abbrev cX5_noteSamples : ByteArray := prog_7_method_11_code
def yX5_noteSamples : MethodName := ⟨RX5, "noteSamples", "(I)V"⟩
abbrev cX5_copyLayer : ByteArray := prog_7_method_12_code
def yX5_copyLayer : MethodName := ⟨RX5, "copyLayer", "(LRectilinearRoof$Phase;)V"⟩
abbrev cX5_shrinkLayer : ByteArray := prog_7_method_13_code
def yX5_shrinkLayer : MethodName := ⟨RX5, "shrinkLayer", "()V"⟩
abbrev cX5_areaAt : ByteArray := prog_7_method_14_code
def yX5_areaAt : MethodName := ⟨RX5, "areaAt", "(I)I"⟩
abbrev cX5_volumeBelow : ByteArray := prog_7_method_15_code
def yX5_volumeBelow : MethodName := ⟨RX5, "volumeBelow", "()I"⟩
abbrev cX5_findFaces : ByteArray := prog_7_method_16_code
def yX5_findFaces : MethodName := ⟨RX5, "findFaces", "()V"⟩
abbrev cX5_lowestTouched : ByteArray := prog_7_method_17_code
def yX5_lowestTouched : MethodName := ⟨RX5, "lowestTouched", "(I)I"⟩
abbrev cX5_faceOf : ByteArray := prog_7_method_18_code
def yX5_faceOf : MethodName := ⟨RX5, "faceOf", "(II)I"⟩
abbrev cX5_edgeProperty : ByteArray := prog_7_method_19_code
def yX5_edgeProperty : MethodName := ⟨RX5, "edgeProperty", "(II)I"⟩
abbrev cX5_faceSize : ByteArray := prog_7_method_20_code
def yX5_faceSize : MethodName := ⟨RX5, "faceSize", "(I)I"⟩
abbrev cX5_extinction : ByteArray := prog_7_method_21_code
def yX5_extinction : MethodName := ⟨RX5, "extinction", "(I)I"⟩
abbrev cX5_drives : ByteArray := prog_7_method_22_code
def yX5_drives : MethodName := ⟨RX5, "drives", "(II)Z"⟩
abbrev cX5_originOf : ByteArray := prog_7_method_23_code
def yX5_originOf : MethodName := ⟨RX5, "originOf", "(III)I"⟩
abbrev cX5_phaseProperty : ByteArray := prog_7_method_24_code
def yX5_phaseProperty : MethodName := ⟨RX5, "phaseProperty", "(II)I"⟩
abbrev cX5_mergedSides : ByteArray := prog_7_method_25_code
def yX5_mergedSides : MethodName := ⟨RX5, "mergedSides", "(I)I"⟩
abbrev cX5_isEvent : ByteArray := prog_7_method_26_code
def yX5_isEvent : MethodName := ⟨RX5, "isEvent", "(I)Z"⟩
abbrev cX5_eventCount : ByteArray := prog_7_method_27_code
def yX5_eventCount : MethodName := ⟨RX5, "eventCount", "()I"⟩
def RX6 : String := "RectilinearRoof$Script"
def TX6 : u_T := fun k => match k with
  | 0 => ("RectilinearRoof$Script", "text", "[I", true)
  | 1 => ("RectilinearRoof$Script", "commands", "[I", true)
  | 2 => ("RectilinearRoof$Script", "position", "I", false)
  | 3 => ("RectilinearRoof$Script", "length", "I", false)
  | 4 => ("RectilinearRoof$Script", "failure", "I", false)
  | _ => ("RectilinearRoof$Script", "commandCount", "I", false)
def tyX6 : Nat → FieldType := fun k => match k with
  | 0 => .array .int
  | 1 => .array .int
  | 2 => .int
  | 3 => .int
  | 4 => .int
  | _ => .int
abbrev wsX60 : List Cond := u_ws RX6 TX6 6
theorem nmX6 : ∀ a, a < 6 → ∀ b, b < 6 → a ≠ b → (TX6 a).2.1 ≠ (TX6 b).2.1 := by decide +kernel
theorem tyX6_ok : ∀ k, k < 6 → parseFieldDescriptor (TX6 k).2.2.1 = some (tyX6 k) := by decide +kernel
abbrev cX6_init : ByteArray := prog_8_method_1_code
def yX6_init : MethodName := ⟨RX6, "<init>", "()V"⟩
def RX7 : String := "RectilinearRoof$Tree"
def TX7 : u_T := fun k => match k with
  | 0 => ("RectilinearRoof$Tree", "firstPhases", "[I", true)
  | 1 => ("RectilinearRoof$Tree", "lastPhases", "[I", true)
  | 2 => ("RectilinearRoof$Tree", "firstComponents", "[I", true)
  | 3 => ("RectilinearRoof$Tree", "parents", "[I", true)
  | 4 => ("RectilinearRoof$Tree", "splits", "[I", true)
  | 5 => ("RectilinearRoof$Tree", "ways", "[I", true)
  | 6 => ("RectilinearRoof$Tree", "waitingPhases", "[I", true)
  | 7 => ("RectilinearRoof$Tree", "waitingComponents", "[I", true)
  | 8 => ("RectilinearRoof$Tree", "waitingParents", "[I", true)
  | 9 => ("RectilinearRoof$Tree", "waiting", "I", false)
  | _ => ("RectilinearRoof$Tree", "size", "I", false)
def tyX7 : Nat → FieldType := fun k => match k with
  | 0 => .array .int
  | 1 => .array .int
  | 2 => .array .int
  | 3 => .array .int
  | 4 => .array .int
  | 5 => .array .int
  | 6 => .array .int
  | 7 => .array .int
  | 8 => .array .int
  | 9 => .int
  | _ => .int
abbrev wsX70 : List Cond := u_ws RX7 TX7 11
theorem nmX7 : ∀ a, a < 11 → ∀ b, b < 11 → a ≠ b → (TX7 a).2.1 ≠ (TX7 b).2.1 := by decide +kernel
theorem tyX7_ok : ∀ k, k < 11 → parseFieldDescriptor (TX7 k).2.2.1 = some (tyX7 k) := by decide +kernel
abbrev cX7_init : ByteArray := prog_9_method_1_code
def yX7_init : MethodName := ⟨RX7, "<init>", "()V"⟩
abbrev cX7_grow : ByteArray := prog_9_method_2_code
def yX7_grow : MethodName := ⟨RX7, "grow", "(LRectilinearRoof$Roof;)V"⟩
abbrev cX7_pushChildren : ByteArray := prog_9_method_3_code
def yX7_pushChildren : MethodName := ⟨RX7, "pushChildren", "(LRectilinearRoof$Phase;III)V"⟩
abbrev cX7_growBranch : ByteArray := prog_9_method_4_code
def yX7_growBranch : MethodName := ⟨RX7, "growBranch", "(LRectilinearRoof$Roof;III)V"⟩
abbrev cX7_measureWays : ByteArray := prog_9_method_5_code
def yX7_measureWays : MethodName := ⟨RX7, "measureWays", "()V"⟩
def RX8 : String := "RectilinearRoof$Walk"
def TX8 : u_T := fun k => match k with
  | 0 => ("RectilinearRoof$Walk", "queue", "[I", true)
  | _ => ("RectilinearRoof$Walk", "steps", "[I", true)
def tyX8 : Nat → FieldType := fun k => match k with
  | 0 => .array .int
  | _ => .array .int
abbrev wsX80 : List Cond := u_ws RX8 TX8 2
theorem nmX8 : ∀ a, a < 2 → ∀ b, b < 2 → a ≠ b → (TX8 a).2.1 ≠ (TX8 b).2.1 := by decide +kernel
theorem tyX8_ok : ∀ k, k < 2 → parseFieldDescriptor (TX8 k).2.2.1 = some (tyX8 k) := by decide +kernel
abbrev cX8_init : ByteArray := prog_10_method_1_code
def yX8_init : MethodName := ⟨RX8, "<init>", "()V"⟩
def RX9 : String := "RectilinearRoof"
def TX9 : u_T := fun k => match k with
  | 0 => ("RectilinearRoof", "region", "LRectilinearRoof$Region;", true)
  | 1 => ("RectilinearRoof", "saved", "LRectilinearRoof$Region;", true)
  | 2 => ("RectilinearRoof", "image", "LRectilinearRoof$Region;", true)
  | 3 => ("RectilinearRoof", "history", "LRectilinearRoof$History;", true)
  | 4 => ("RectilinearRoof", "script", "LRectilinearRoof$Script;", true)
  | 5 => ("RectilinearRoof", "roof", "LRectilinearRoof$Roof;", true)
  | _ => ("RectilinearRoof", "hasSaved", "Z", false)
def tyX9 : Nat → FieldType := fun k => match k with
  | 0 => .object "RectilinearRoof$Region"
  | 1 => .object "RectilinearRoof$Region"
  | 2 => .object "RectilinearRoof$Region"
  | 3 => .object "RectilinearRoof$History"
  | 4 => .object "RectilinearRoof$Script"
  | 5 => .object "RectilinearRoof$Roof"
  | _ => .boolean
abbrev wsX90 : List Cond := u_ws RX9 TX9 7
theorem nmX9 : ∀ a, a < 7 → ∀ b, b < 7 → a ≠ b → (TX9 a).2.1 ≠ (TX9 b).2.1 := by decide +kernel
theorem tyX9_ok : ∀ k, k < 7 → parseFieldDescriptor (TX9 k).2.2.1 = some (tyX9 k) := by decide +kernel
abbrev cX9_init : ByteArray := prog_1_method_1_code
def yX9_init : MethodName := ⟨RX9, "<init>", "()V"⟩
abbrev cX9_rectangle : ByteArray := prog_1_method_2_code
def yX9_rectangle : MethodName := ⟨RX9, "rectangle", "(IIIII)I"⟩
abbrev cX9_clear : ByteArray := prog_1_method_3_code
def yX9_clear : MethodName := ⟨RX9, "clear", "()I"⟩
abbrev cX9_errorPosition : ByteArray := prog_1_method_6_code
def yX9_errorPosition : MethodName := ⟨RX9, "errorPosition", "()I"⟩
abbrev cX9_contains : ByteArray := prog_1_method_11_code
def yX9_contains : MethodName := ⟨RX9, "contains", "(II)Z"⟩
abbrev cX9_edges : ByteArray := prog_1_method_12_code
def yX9_edges : MethodName := ⟨RX9, "edges", "()I"⟩
abbrev cX9_edge : ByteArray := prog_1_method_13_code
def yX9_edge : MethodName := ⟨RX9, "edge", "(II)I"⟩
abbrev cX9_corners : ByteArray := prog_1_method_14_code
def yX9_corners : MethodName := ⟨RX9, "corners", "()I"⟩
abbrev cX9_groups : ByteArray := prog_1_method_15_code
def yX9_groups : MethodName := ⟨RX9, "groups", "()I"⟩
abbrev cX9_group : ByteArray := prog_1_method_16_code
def yX9_group : MethodName := ⟨RX9, "group", "(II)I"⟩
abbrev cX9_symmetries : ByteArray := prog_1_method_17_code
def yX9_symmetries : MethodName := ⟨RX9, "symmetries", "()I"⟩
abbrev cX9_height : ByteArray := prog_1_method_18_code
def yX9_height : MethodName := ⟨RX9, "height", "(II)I"⟩
abbrev cX9_face : ByteArray := prog_1_method_19_code
def yX9_face : MethodName := ⟨RX9, "face", "(II)I"⟩
abbrev cX9_area : ByteArray := prog_1_method_20_code
def yX9_area : MethodName := ⟨RX9, "area", "(I)I"⟩
abbrev cX9_volume : ByteArray := prog_1_method_21_code
def yX9_volume : MethodName := ⟨RX9, "volume", "()I"⟩
abbrev cX9_phases : ByteArray := prog_1_method_22_code
def yX9_phases : MethodName := ⟨RX9, "phases", "()I"⟩
abbrev cX9_phase : ByteArray := prog_1_method_23_code
def yX9_phase : MethodName := ⟨RX9, "phase", "(II)I"⟩
abbrev cX9_contour : ByteArray := prog_1_method_24_code
def yX9_contour : MethodName := ⟨RX9, "contour", "(III)I"⟩
abbrev cX9_vertex : ByteArray := prog_1_method_25_code
def yX9_vertex : MethodName := ⟨RX9, "vertex", "(IIII)I"⟩
abbrev cX9_events : ByteArray := prog_1_method_28_code
def yX9_events : MethodName := ⟨RX9, "events", "()I"⟩
abbrev cX9_branches : ByteArray := prog_1_method_30_code
def yX9_branches : MethodName := ⟨RX9, "branches", "()I"⟩
abbrev cX9_count : ByteArray := prog_1_method_34_code
def yX9_count : MethodName := ⟨RX9, "count", "(I)I"⟩
abbrev cX9_recordChange : ByteArray := prog_1_method_35_code
def yX9_recordChange : MethodName := ⟨RX9, "recordChange", "()V"⟩
abbrev cX9_isCell : ByteArray := prog_1_method_36_code
def yX9_isCell : MethodName := ⟨RX9, "isCell", "(II)Z"⟩
abbrev cX9_at : ByteArray := prog_1_method_38_code
def yX9_at : MethodName := ⟨RX9, "at", "([II)I"⟩
abbrev cX9_put : ByteArray := prog_1_method_39_code
def yX9_put : MethodName := ⟨RX9, "put", "([III)V"⟩
abbrev cX9_rowAt : ByteArray := prog_1_method_40_code
def yX9_rowAt : MethodName := ⟨RX9, "rowAt", "([JI)J"⟩
abbrev cX9_stepX : ByteArray := prog_1_method_41_code
def yX9_stepX : MethodName := ⟨RX9, "stepX", "(I)I"⟩
abbrev cX9_stepY : ByteArray := prog_1_method_42_code
def yX9_stepY : MethodName := ⟨RX9, "stepY", "(I)I"⟩
abbrev cX9_facesUp : ByteArray := prog_1_method_43_code
def yX9_facesUp : MethodName := ⟨RX9, "facesUp", "(I)Z"⟩
abbrev cX9_isLevel : ByteArray := prog_1_method_44_code
def yX9_isLevel : MethodName := ⟨RX9, "isLevel", "(I)Z"⟩
abbrev cX9_unit : ByteArray := prog_1_method_45_code
def yX9_unit : MethodName := ⟨RX9, "unit", "(I)I"⟩
abbrev cX9_lowestBit : ByteArray := prog_1_method_46_code
def yX9_lowestBit : MethodName := ⟨RX9, "lowestBit", "(J)I"⟩
def RX10 : String := "RectilinearRoofModel"
def TX10 : u_T := fun k => match k with
  | _ => ("", "", "", false)
def tyX10 : Nat → FieldType := fun k => match k with
  | _ => .int
abbrev wsX100 : List Cond := u_ws RX10 TX10 0
theorem nmX10 : ∀ a, a < 0 → ∀ b, b < 0 → a ≠ b → (TX10 a).2.1 ≠ (TX10 b).2.1 := by decide +kernel
theorem tyX10_ok : ∀ k, k < 0 → parseFieldDescriptor (TX10 k).2.2.1 = some (tyX10 k) := by decide +kernel
def RJ6 : String := "java/lang/Integer"
def TJ6 : u_T := fun k => match k with
  | _ => ("", "", "", false)
def tyJ6 : Nat → FieldType := fun k => match k with
  | _ => .int
abbrev wsJ60 : List Cond := u_ws RJ6 TJ6 0
theorem nmJ6 : ∀ a, a < 0 → ∀ b, b < 0 → a ≠ b → (TJ6 a).2.1 ≠ (TJ6 b).2.1 := by decide +kernel
theorem tyJ6_ok : ∀ k, k < 0 → parseFieldDescriptor (TJ6 k).2.2.1 = some (tyJ6 k) := by decide +kernel
abbrev cJ6_bitCount_0f7a4 : ByteArray := prog_16_method_49_code
def yJ6_bitCount_0f7a4 : MethodName := ⟨RJ6, "bitCount", "(I)I"⟩
def RJ13 : String := "java/lang/Long"
def TJ13 : u_T := fun k => match k with
  | _ => ("", "", "", false)
def tyJ13 : Nat → FieldType := fun k => match k with
  | _ => .int
abbrev wsJ130 : List Cond := u_ws RJ13 TJ13 0
theorem nmJ13 : ∀ a, a < 0 → ∀ b, b < 0 → a ≠ b → (TJ13 a).2.1 ≠ (TJ13 b).2.1 := by decide +kernel
theorem tyJ13_ok : ∀ k, k < 0 → parseFieldDescriptor (TJ13 k).2.2.1 = some (tyJ13 k) := by decide +kernel
abbrev cJ13_bitCount_95d88 : ByteArray := prog_17_method_50_code
def yJ13_bitCount_95d88 : MethodName := ⟨RJ13, "bitCount", "(J)I"⟩
def RJ9 : String := "java/lang/Math"
def TJ9 : u_T := fun k => match k with
  | _ => ("", "", "", false)
def tyJ9 : Nat → FieldType := fun k => match k with
  | _ => .int
abbrev wsJ90 : List Cond := u_ws RJ9 TJ9 0
theorem nmJ9 : ∀ a, a < 0 → ∀ b, b < 0 → a ≠ b → (TJ9 a).2.1 ≠ (TJ9 b).2.1 := by decide +kernel
theorem tyJ9_ok : ∀ k, k < 0 → parseFieldDescriptor (TJ9 k).2.2.1 = some (tyJ9 k) := by decide +kernel
abbrev cJ9_abs_0f7a4 : ByteArray := prog_18_method_59_code
def yJ9_abs_0f7a4 : MethodName := ⟨RJ9, "abs", "(I)I"⟩
abbrev cJ9_max_7cf53 : ByteArray := prog_18_method_65_code
def yJ9_max_7cf53 : MethodName := ⟨RJ9, "max", "(II)I"⟩
abbrev cJ9_min_7cf53 : ByteArray := prog_18_method_69_code
def yJ9_min_7cf53 : MethodName := ⟨RJ9, "min", "(II)I"⟩
def RJ0 : String := "java/lang/String"
def TJ0 : u_T := fun k => match k with
  | _ => ("", "", "", false)
def tyJ0 : Nat → FieldType := fun k => match k with
  | _ => .int
abbrev wsJ00 : List Cond := u_ws RJ0 TJ0 0
theorem nmJ0 : ∀ a, a < 0 → ∀ b, b < 0 → a ≠ b → (TJ0 a).2.1 ≠ (TJ0 b).2.1 := by decide +kernel
theorem tyJ0_ok : ∀ k, k < 0 → parseFieldDescriptor (TJ0 k).2.2.1 = some (tyJ0 k) := by decide +kernel
def RJ7 : String := "java/util/Arrays"
def TJ7 : u_T := fun k => match k with
  | _ => ("", "", "", false)
def tyJ7 : Nat → FieldType := fun k => match k with
  | _ => .int
abbrev wsJ70 : List Cond := u_ws RJ7 TJ7 0
theorem nmJ7 : ∀ a, a < 0 → ∀ b, b < 0 → a ≠ b → (TJ7 a).2.1 ≠ (TJ7 b).2.1 := by decide +kernel
theorem tyJ7_ok : ∀ k, k < 0 → parseFieldDescriptor (TJ7 k).2.2.1 = some (tyJ7 k) := by decide +kernel
abbrev cJ7_fill_53178 : ByteArray := prog_22_method_103_code
def yJ7_fill_53178 : MethodName := ⟨RJ7, "fill", "([II)V"⟩
def RL : String := "RectilinearRoofLaw"
abbrev cL_cell : ByteArray := method_2_code
def yL_cell : MethodName := ⟨RL, "cell", "([II)I"⟩
abbrev cL_some : ByteArray := method_3_code
def yL_some : MethodName := ⟨RL, "some", "([III)I"⟩
abbrev cL_region : ByteArray := method_4_code
def yL_region : MethodName := ⟨RL, "region", "(LRectilinearRoof;[II)V"⟩
abbrev cL_law : ByteArray := code
def yL_law : MethodName := ⟨RL, "law", "([I)Z"⟩
abbrev vwCl : List vw_C := [(RX0, TX0, 10), (RX1, TX1, 4), (RX2, TX2, 16), (RX3, TX3, 11), (RX4, TX4, 2), (RX5, TX5, 12), (RX6, TX6, 6), (RX7, TX7, 11), (RX8, TX8, 2), (RX9, TX9, 7)]
