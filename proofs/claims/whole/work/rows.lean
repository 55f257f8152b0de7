section
-- ===== PART A: goes FIRST, ahead of the names: the tables' words, and 'selects' of the private methods out of them =====
/-- a private method of a class that the tables say can be made, by its rows of tables_1 -/
def lw_okq (q : MethodName × Nat) : Prop := (q.1.cls ≠ "java/lang/invoke/MethodHandle" ∧ q.1.cls ≠ "java/lang/invoke/VarHandle") ∧ Cond.instantiable q.1.cls q.2 ∈ tables_1 ∧ Cond.privateMethod q.1 ∈ tables_1 ∧ Cond.instanceMethod q.1 ∈ tables_1
theorem lw_p0 : lw_okq (⟨"CraigBench$Reader", "nextToken", "()V"⟩, 15) := ⟨⟨by decide +kernel, by decide +kernel⟩, List.mem_of_getElem? (i := 106) (by decide +kernel), List.mem_of_getElem? (i := 302) (by decide +kernel), List.mem_of_getElem? (i := 303) (by decide +kernel)⟩
theorem lw_p1 : lw_okq (⟨"CraigBench$Reader", "skipBlanks", "()V"⟩, 15) := ⟨⟨by decide +kernel, by decide +kernel⟩, List.mem_of_getElem? (i := 106) (by decide +kernel), List.mem_of_getElem? (i := 306) (by decide +kernel), List.mem_of_getElem? (i := 307) (by decide +kernel)⟩
theorem lw_p2 : lw_okq (⟨"CraigBench$Reader", "takeDigits", "()V"⟩, 15) := ⟨⟨by decide +kernel, by decide +kernel⟩, List.mem_of_getElem? (i := 106) (by decide +kernel), List.mem_of_getElem? (i := 320) (by decide +kernel), List.mem_of_getElem? (i := 321) (by decide +kernel)⟩
theorem lw_p3 : lw_okq (⟨"CraigBench$Reader", "takeToken", "()V"⟩, 15) := ⟨⟨by decide +kernel, by decide +kernel⟩, List.mem_of_getElem? (i := 106) (by decide +kernel), List.mem_of_getElem? (i := 327) (by decide +kernel), List.mem_of_getElem? (i := 328) (by decide +kernel)⟩
theorem lw_p4 : lw_okq (⟨"CraigBench$Reader", "takeStart", "()V"⟩, 15) := ⟨⟨by decide +kernel, by decide +kernel⟩, List.mem_of_getElem? (i := 106) (by decide +kernel), List.mem_of_getElem? (i := 331) (by decide +kernel), List.mem_of_getElem? (i := 332) (by decide +kernel)⟩
theorem lw_p5 : lw_okq (⟨"CraigBench$Reader", "openGiven", "()V"⟩, 15) := ⟨⟨by decide +kernel, by decide +kernel⟩, List.mem_of_getElem? (i := 106) (by decide +kernel), List.mem_of_getElem? (i := 335) (by decide +kernel), List.mem_of_getElem? (i := 336) (by decide +kernel)⟩
theorem lw_p6 : lw_okq (⟨"CraigBench$Reader", "fail", "(I)V"⟩, 15) := ⟨⟨by decide +kernel, by decide +kernel⟩, List.mem_of_getElem? (i := 106) (by decide +kernel), List.mem_of_getElem? (i := 347) (by decide +kernel), List.mem_of_getElem? (i := 348) (by decide +kernel)⟩
theorem lw_p7 : lw_okq (⟨"CraigBench$Reader", "openResolvent", "()V"⟩, 15) := ⟨⟨by decide +kernel, by decide +kernel⟩, List.mem_of_getElem? (i := 106) (by decide +kernel), List.mem_of_getElem? (i := 351) (by decide +kernel), List.mem_of_getElem? (i := 352) (by decide +kernel)⟩
theorem lw_p8 : lw_okq (⟨"CraigBench$Reader", "takeColon", "()V"⟩, 15) := ⟨⟨by decide +kernel, by decide +kernel⟩, List.mem_of_getElem? (i := 106) (by decide +kernel), List.mem_of_getElem? (i := 356) (by decide +kernel), List.mem_of_getElem? (i := 357) (by decide +kernel)⟩
theorem lw_p9 : lw_okq (⟨"CraigBench$Reader", "takeInsideClause", "()V"⟩, 15) := ⟨⟨by decide +kernel, by decide +kernel⟩, List.mem_of_getElem? (i := 106) (by decide +kernel), List.mem_of_getElem? (i := 360) (by decide +kernel), List.mem_of_getElem? (i := 361) (by decide +kernel)⟩
theorem lw_p10 : lw_okq (⟨"CraigBench$Clauses", "draft", "(II)V"⟩, 13) := ⟨⟨by decide +kernel, by decide +kernel⟩, List.mem_of_getElem? (i := 38) (by decide +kernel), List.mem_of_getElem? (i := 369) (by decide +kernel), List.mem_of_getElem? (i := 370) (by decide +kernel)⟩
theorem lw_p11 : lw_okq (⟨"CraigBench$Reader", "takeNumber", "()V"⟩, 15) := ⟨⟨by decide +kernel, by decide +kernel⟩, List.mem_of_getElem? (i := 106) (by decide +kernel), List.mem_of_getElem? (i := 373) (by decide +kernel), List.mem_of_getElem? (i := 374) (by decide +kernel)⟩
theorem lw_p12 : lw_okq (⟨"CraigBench$Reader", "takeBlock", "()V"⟩, 15) := ⟨⟨by decide +kernel, by decide +kernel⟩, List.mem_of_getElem? (i := 106) (by decide +kernel), List.mem_of_getElem? (i := 377) (by decide +kernel), List.mem_of_getElem? (i := 378) (by decide +kernel)⟩
theorem lw_p13 : lw_okq (⟨"CraigBench$Reader", "takeLeft", "()V"⟩, 15) := ⟨⟨by decide +kernel, by decide +kernel⟩, List.mem_of_getElem? (i := 106) (by decide +kernel), List.mem_of_getElem? (i := 381) (by decide +kernel), List.mem_of_getElem? (i := 382) (by decide +kernel)⟩
theorem lw_p14 : lw_okq (⟨"CraigBench$Reader", "takeRight", "()V"⟩, 15) := ⟨⟨by decide +kernel, by decide +kernel⟩, List.mem_of_getElem? (i := 106) (by decide +kernel), List.mem_of_getElem? (i := 389) (by decide +kernel), List.mem_of_getElem? (i := 390) (by decide +kernel)⟩
theorem lw_p15 : lw_okq (⟨"CraigBench$Reader", "takePivot", "()V"⟩, 15) := ⟨⟨by decide +kernel, by decide +kernel⟩, List.mem_of_getElem? (i := 106) (by decide +kernel), List.mem_of_getElem? (i := 393) (by decide +kernel), List.mem_of_getElem? (i := 394) (by decide +kernel)⟩
def lw_privs_1 : List (MethodName × Nat) := [(⟨"CraigBench$Reader", "nextToken", "()V"⟩, 15), (⟨"CraigBench$Reader", "skipBlanks", "()V"⟩, 15), (⟨"CraigBench$Reader", "takeDigits", "()V"⟩, 15), (⟨"CraigBench$Reader", "takeToken", "()V"⟩, 15), (⟨"CraigBench$Reader", "takeStart", "()V"⟩, 15), (⟨"CraigBench$Reader", "openGiven", "()V"⟩, 15), (⟨"CraigBench$Reader", "fail", "(I)V"⟩, 15), (⟨"CraigBench$Reader", "openResolvent", "()V"⟩, 15), (⟨"CraigBench$Reader", "takeColon", "()V"⟩, 15), (⟨"CraigBench$Reader", "takeInsideClause", "()V"⟩, 15), (⟨"CraigBench$Clauses", "draft", "(II)V"⟩, 13), (⟨"CraigBench$Reader", "takeNumber", "()V"⟩, 15), (⟨"CraigBench$Reader", "takeBlock", "()V"⟩, 15), (⟨"CraigBench$Reader", "takeLeft", "()V"⟩, 15), (⟨"CraigBench$Reader", "takeRight", "()V"⟩, 15), (⟨"CraigBench$Reader", "takePivot", "()V"⟩, 15)]
theorem lw_r1 : ∀ q ∈ lw_privs_1, lw_okq q := List.forall_mem_cons.mpr ⟨lw_p0, List.forall_mem_cons.mpr ⟨lw_p1, List.forall_mem_cons.mpr ⟨lw_p2, List.forall_mem_cons.mpr ⟨lw_p3, List.forall_mem_cons.mpr ⟨lw_p4, List.forall_mem_cons.mpr ⟨lw_p5, List.forall_mem_cons.mpr ⟨lw_p6, List.forall_mem_cons.mpr ⟨lw_p7, List.forall_mem_cons.mpr ⟨lw_p8, List.forall_mem_cons.mpr ⟨lw_p9, List.forall_mem_cons.mpr ⟨lw_p10, List.forall_mem_cons.mpr ⟨lw_p11, List.forall_mem_cons.mpr ⟨lw_p12, List.forall_mem_cons.mpr ⟨lw_p13, List.forall_mem_cons.mpr ⟨lw_p14, List.forall_mem_cons.mpr ⟨lw_p15, fun _ h => absurd h List.not_mem_nil⟩⟩⟩⟩⟩⟩⟩⟩⟩⟩⟩⟩⟩⟩⟩⟩
theorem lw_p16 : lw_okq (⟨"CraigBench$Clauses", "positiveRest", "(III)I"⟩, 13) := ⟨⟨by decide +kernel, by decide +kernel⟩, List.mem_of_getElem? (i := 38) (by decide +kernel), List.mem_of_getElem? (i := 411) (by decide +kernel), List.mem_of_getElem? (i := 412) (by decide +kernel)⟩
theorem lw_p17 : lw_okq (⟨"CraigBench$Clauses", "negativeRest", "(III)I"⟩, 13) := ⟨⟨by decide +kernel, by decide +kernel⟩, List.mem_of_getElem? (i := 38) (by decide +kernel), List.mem_of_getElem? (i := 415) (by decide +kernel), List.mem_of_getElem? (i := 416) (by decide +kernel)⟩
theorem lw_p18 : lw_okq (⟨"CraigBench$Reader", "takeLiteral", "()V"⟩, 15) := ⟨⟨by decide +kernel, by decide +kernel⟩, List.mem_of_getElem? (i := 106) (by decide +kernel), List.mem_of_getElem? (i := 419) (by decide +kernel), List.mem_of_getElem? (i := 420) (by decide +kernel)⟩
theorem lw_p19 : lw_okq (⟨"CraigBench$Reader", "takeClose", "()V"⟩, 15) := ⟨⟨by decide +kernel, by decide +kernel⟩, List.mem_of_getElem? (i := 106) (by decide +kernel), List.mem_of_getElem? (i := 424) (by decide +kernel), List.mem_of_getElem? (i := 425) (by decide +kernel)⟩
theorem lw_p20 : lw_okq (⟨"CraigBench$Clauses", "findEmpty", "()V"⟩, 13) := ⟨⟨by decide +kernel, by decide +kernel⟩, List.mem_of_getElem? (i := 38) (by decide +kernel), List.mem_of_getElem? (i := 437) (by decide +kernel), List.mem_of_getElem? (i := 438) (by decide +kernel)⟩
theorem lw_p21 : lw_okq (⟨"CraigBench$Clauses", "markNeeded", "()V"⟩, 13) := ⟨⟨by decide +kernel, by decide +kernel⟩, List.mem_of_getElem? (i := 38) (by decide +kernel), List.mem_of_getElem? (i := 441) (by decide +kernel), List.mem_of_getElem? (i := 442) (by decide +kernel)⟩
theorem lw_p22 : lw_okq (⟨"CraigBench$Clauses", "isNews", "(III)Z"⟩, 13) := ⟨⟨by decide +kernel, by decide +kernel⟩, List.mem_of_getElem? (i := 38) (by decide +kernel), List.mem_of_getElem? (i := 480) (by decide +kernel), List.mem_of_getElem? (i := 481) (by decide +kernel)⟩
theorem lw_p23 : lw_okq (⟨"CraigBench$Clauses", "retire", "(I)V"⟩, 13) := ⟨⟨by decide +kernel, by decide +kernel⟩, List.mem_of_getElem? (i := 38) (by decide +kernel), List.mem_of_getElem? (i := 486) (by decide +kernel), List.mem_of_getElem? (i := 487) (by decide +kernel)⟩
theorem lw_p24 : lw_okq (⟨"CraigBench$Clauses", "isGivenOf", "(III)Z"⟩, 13) := ⟨⟨by decide +kernel, by decide +kernel⟩, List.mem_of_getElem? (i := 38) (by decide +kernel), List.mem_of_getElem? (i := 510) (by decide +kernel), List.mem_of_getElem? (i := 511) (by decide +kernel)⟩
theorem lw_p25 : lw_okq (⟨"CraigBench$Formulas", "sharedHaving", "(II)I"⟩, 6) := ⟨⟨by decide +kernel, by decide +kernel⟩, List.mem_of_getElem? (i := 173) (by decide +kernel), List.mem_of_getElem? (i := 526) (by decide +kernel), List.mem_of_getElem? (i := 527) (by decide +kernel)⟩
theorem lw_p26 : lw_okq (⟨"CraigBench$Formulas", "ofResolvent", "(II)J"⟩, 6) := ⟨⟨by decide +kernel, by decide +kernel⟩, List.mem_of_getElem? (i := 173) (by decide +kernel), List.mem_of_getElem? (i := 543) (by decide +kernel), List.mem_of_getElem? (i := 544) (by decide +kernel)⟩
theorem lw_p27 : lw_okq (⟨"CraigBench$Formulas", "ofGiven", "(II)J"⟩, 6) := ⟨⟨by decide +kernel, by decide +kernel⟩, List.mem_of_getElem? (i := 173) (by decide +kernel), List.mem_of_getElem? (i := 555) (by decide +kernel), List.mem_of_getElem? (i := 556) (by decide +kernel)⟩
theorem lw_p28 : lw_okq (⟨"CraigBench$Graph", "join", "(IIII)I"⟩, 8) := ⟨⟨by decide +kernel, by decide +kernel⟩, List.mem_of_getElem? (i := 206) (by decide +kernel), List.mem_of_getElem? (i := 572) (by decide +kernel), List.mem_of_getElem? (i := 573) (by decide +kernel)⟩
theorem lw_p29 : lw_okq (⟨"CraigBench$Graph", "numberFrom", "(I)V"⟩, 8) := ⟨⟨by decide +kernel, by decide +kernel⟩, List.mem_of_getElem? (i := 206) (by decide +kernel), List.mem_of_getElem? (i := 576) (by decide +kernel), List.mem_of_getElem? (i := 577) (by decide +kernel)⟩
theorem lw_p30 : lw_okq (⟨"CraigBench$Graph", "sideNumber", "(I)I"⟩, 8) := ⟨⟨by decide +kernel, by decide +kernel⟩, List.mem_of_getElem? (i := 206) (by decide +kernel), List.mem_of_getElem? (i := 619) (by decide +kernel), List.mem_of_getElem? (i := 620) (by decide +kernel)⟩
theorem lw_p31 : lw_okq (⟨"CraigBench", "nextInterpolant", "(II)V"⟩, 8) := ⟨⟨by decide +kernel, by decide +kernel⟩, List.mem_of_getElem? (i := 14) (by decide +kernel), List.mem_of_getElem? (i := 638) (by decide +kernel), List.mem_of_getElem? (i := 639) (by decide +kernel)⟩
def lw_privs_2 : List (MethodName × Nat) := [(⟨"CraigBench$Clauses", "positiveRest", "(III)I"⟩, 13), (⟨"CraigBench$Clauses", "negativeRest", "(III)I"⟩, 13), (⟨"CraigBench$Reader", "takeLiteral", "()V"⟩, 15), (⟨"CraigBench$Reader", "takeClose", "()V"⟩, 15), (⟨"CraigBench$Clauses", "findEmpty", "()V"⟩, 13), (⟨"CraigBench$Clauses", "markNeeded", "()V"⟩, 13), (⟨"CraigBench$Clauses", "isNews", "(III)Z"⟩, 13), (⟨"CraigBench$Clauses", "retire", "(I)V"⟩, 13), (⟨"CraigBench$Clauses", "isGivenOf", "(III)Z"⟩, 13), (⟨"CraigBench$Formulas", "sharedHaving", "(II)I"⟩, 6), (⟨"CraigBench$Formulas", "ofResolvent", "(II)J"⟩, 6), (⟨"CraigBench$Formulas", "ofGiven", "(II)J"⟩, 6), (⟨"CraigBench$Graph", "join", "(IIII)I"⟩, 8), (⟨"CraigBench$Graph", "numberFrom", "(I)V"⟩, 8), (⟨"CraigBench$Graph", "sideNumber", "(I)I"⟩, 8), (⟨"CraigBench", "nextInterpolant", "(II)V"⟩, 8)]
theorem lw_r2 : ∀ q ∈ lw_privs_2, lw_okq q := List.forall_mem_cons.mpr ⟨lw_p16, List.forall_mem_cons.mpr ⟨lw_p17, List.forall_mem_cons.mpr ⟨lw_p18, List.forall_mem_cons.mpr ⟨lw_p19, List.forall_mem_cons.mpr ⟨lw_p20, List.forall_mem_cons.mpr ⟨lw_p21, List.forall_mem_cons.mpr ⟨lw_p22, List.forall_mem_cons.mpr ⟨lw_p23, List.forall_mem_cons.mpr ⟨lw_p24, List.forall_mem_cons.mpr ⟨lw_p25, List.forall_mem_cons.mpr ⟨lw_p26, List.forall_mem_cons.mpr ⟨lw_p27, List.forall_mem_cons.mpr ⟨lw_p28, List.forall_mem_cons.mpr ⟨lw_p29, List.forall_mem_cons.mpr ⟨lw_p30, List.forall_mem_cons.mpr ⟨lw_p31, fun _ h => absurd h List.not_mem_nil⟩⟩⟩⟩⟩⟩⟩⟩⟩⟩⟩⟩⟩⟩⟩⟩
theorem lw_p32 : lw_okq (⟨"CraigBench", "gapWord", "(III)J"⟩, 8) := ⟨⟨by decide +kernel, by decide +kernel⟩, List.mem_of_getElem? (i := 14) (by decide +kernel), List.mem_of_getElem? (i := 645) (by decide +kernel), List.mem_of_getElem? (i := 646) (by decide +kernel)⟩
theorem lw_p33 : lw_okq (⟨"CraigBenchModel", "cut", "()V"⟩, 34) := ⟨⟨by decide +kernel, by decide +kernel⟩, List.mem_of_getElem? (i := 668) (by decide +kernel), List.mem_of_getElem? (i := 789) (by decide +kernel), List.mem_of_getElem? (i := 790) (by decide +kernel)⟩
theorem lw_p34 : lw_okq (⟨"CraigBenchModel", "readGiven", "()V"⟩, 34) := ⟨⟨by decide +kernel, by decide +kernel⟩, List.mem_of_getElem? (i := 668) (by decide +kernel), List.mem_of_getElem? (i := 796) (by decide +kernel), List.mem_of_getElem? (i := 797) (by decide +kernel)⟩
theorem lw_p35 : lw_okq (⟨"CraigBenchModel", "need", "(ZI)Z"⟩, 34) := ⟨⟨by decide +kernel, by decide +kernel⟩, List.mem_of_getElem? (i := 668) (by decide +kernel), List.mem_of_getElem? (i := 800) (by decide +kernel), List.mem_of_getElem? (i := 801) (by decide +kernel)⟩
theorem lw_p36 : lw_okq (⟨"CraigBenchModel", "takes", "(I)Z"⟩, 34) := ⟨⟨by decide +kernel, by decide +kernel⟩, List.mem_of_getElem? (i := 668) (by decide +kernel), List.mem_of_getElem? (i := 804) (by decide +kernel), List.mem_of_getElem? (i := 805) (by decide +kernel)⟩
theorem lw_p37 : lw_okq (⟨"CraigBenchModel", "add", "(IIIIII)V"⟩, 34) := ⟨⟨by decide +kernel, by decide +kernel⟩, List.mem_of_getElem? (i := 668) (by decide +kernel), List.mem_of_getElem? (i := 808) (by decide +kernel), List.mem_of_getElem? (i := 809) (by decide +kernel)⟩
theorem lw_p38 : lw_okq (⟨"CraigBenchModel", "readResolvent", "()V"⟩, 34) := ⟨⟨by decide +kernel, by decide +kernel⟩, List.mem_of_getElem? (i := 668) (by decide +kernel), List.mem_of_getElem? (i := 812) (by decide +kernel), List.mem_of_getElem? (i := 813) (by decide +kernel)⟩
theorem lw_p39 : lw_okq (⟨"CraigBenchModel", "clauseHere", "()I"⟩, 34) := ⟨⟨by decide +kernel, by decide +kernel⟩, List.mem_of_getElem? (i := 668) (by decide +kernel), List.mem_of_getElem? (i := 816) (by decide +kernel), List.mem_of_getElem? (i := 817) (by decide +kernel)⟩
theorem lw_p40 : lw_okq (⟨"CraigBenchModel", "find", "()V"⟩, 34) := ⟨⟨by decide +kernel, by decide +kernel⟩, List.mem_of_getElem? (i := 668) (by decide +kernel), List.mem_of_getElem? (i := 820) (by decide +kernel), List.mem_of_getElem? (i := 821) (by decide +kernel)⟩
theorem lw_p41 : lw_okq (⟨"CraigBenchModel", "empty", "()I"⟩, 34) := ⟨⟨by decide +kernel, by decide +kernel⟩, List.mem_of_getElem? (i := 668) (by decide +kernel), List.mem_of_getElem? (i := 824) (by decide +kernel), List.mem_of_getElem? (i := 825) (by decide +kernel)⟩
theorem lw_p42 : lw_okq (⟨"CraigBenchModel", "isThere", "(II)Z"⟩, 34) := ⟨⟨by decide +kernel, by decide +kernel⟩, List.mem_of_getElem? (i := 668) (by decide +kernel), List.mem_of_getElem? (i := 851) (by decide +kernel), List.mem_of_getElem? (i := 852) (by decide +kernel)⟩
theorem lw_p43 : lw_okq (⟨"CraigBenchModel", "variablesOf", "(ZI)I"⟩, 34) := ⟨⟨by decide +kernel, by decide +kernel⟩, List.mem_of_getElem? (i := 668) (by decide +kernel), List.mem_of_getElem? (i := 863) (by decide +kernel), List.mem_of_getElem? (i := 864) (by decide +kernel)⟩
theorem lw_p44 : lw_okq (⟨"CraigBenchModel", "partials", "(II)V"⟩, 34) := ⟨⟨by decide +kernel, by decide +kernel⟩, List.mem_of_getElem? (i := 668) (by decide +kernel), List.mem_of_getElem? (i := 871) (by decide +kernel), List.mem_of_getElem? (i := 872) (by decide +kernel)⟩
theorem lw_p45 : lw_okq (⟨"CraigBenchModel", "sum", "(IIIIII)J"⟩, 34) := ⟨⟨by decide +kernel, by decide +kernel⟩, List.mem_of_getElem? (i := 668) (by decide +kernel), List.mem_of_getElem? (i := 875) (by decide +kernel), List.mem_of_getElem? (i := 876) (by decide +kernel)⟩
theorem lw_p46 : lw_okq (⟨"CraigBenchModel", "labelOf", "(IIII)I"⟩, 34) := ⟨⟨by decide +kernel, by decide +kernel⟩, List.mem_of_getElem? (i := 668) (by decide +kernel), List.mem_of_getElem? (i := 879) (by decide +kernel), List.mem_of_getElem? (i := 880) (by decide +kernel)⟩
theorem lw_p47 : lw_okq (⟨"CraigBenchModel", "draw", "()V"⟩, 34) := ⟨⟨by decide +kernel, by decide +kernel⟩, List.mem_of_getElem? (i := 668) (by decide +kernel), List.mem_of_getElem? (i := 893) (by decide +kernel), List.mem_of_getElem? (i := 894) (by decide +kernel)⟩
def lw_privs_3 : List (MethodName × Nat) := [(⟨"CraigBench", "gapWord", "(III)J"⟩, 8), (⟨"CraigBenchModel", "cut", "()V"⟩, 34), (⟨"CraigBenchModel", "readGiven", "()V"⟩, 34), (⟨"CraigBenchModel", "need", "(ZI)Z"⟩, 34), (⟨"CraigBenchModel", "takes", "(I)Z"⟩, 34), (⟨"CraigBenchModel", "add", "(IIIIII)V"⟩, 34), (⟨"CraigBenchModel", "readResolvent", "()V"⟩, 34), (⟨"CraigBenchModel", "clauseHere", "()I"⟩, 34), (⟨"CraigBenchModel", "find", "()V"⟩, 34), (⟨"CraigBenchModel", "empty", "()I"⟩, 34), (⟨"CraigBenchModel", "isThere", "(II)Z"⟩, 34), (⟨"CraigBenchModel", "variablesOf", "(ZI)I"⟩, 34), (⟨"CraigBenchModel", "partials", "(II)V"⟩, 34), (⟨"CraigBenchModel", "sum", "(IIIIII)J"⟩, 34), (⟨"CraigBenchModel", "labelOf", "(IIII)I"⟩, 34), (⟨"CraigBenchModel", "draw", "()V"⟩, 34)]
theorem lw_r3 : ∀ q ∈ lw_privs_3, lw_okq q := List.forall_mem_cons.mpr ⟨lw_p32, List.forall_mem_cons.mpr ⟨lw_p33, List.forall_mem_cons.mpr ⟨lw_p34, List.forall_mem_cons.mpr ⟨lw_p35, List.forall_mem_cons.mpr ⟨lw_p36, List.forall_mem_cons.mpr ⟨lw_p37, List.forall_mem_cons.mpr ⟨lw_p38, List.forall_mem_cons.mpr ⟨lw_p39, List.forall_mem_cons.mpr ⟨lw_p40, List.forall_mem_cons.mpr ⟨lw_p41, List.forall_mem_cons.mpr ⟨lw_p42, List.forall_mem_cons.mpr ⟨lw_p43, List.forall_mem_cons.mpr ⟨lw_p44, List.forall_mem_cons.mpr ⟨lw_p45, List.forall_mem_cons.mpr ⟨lw_p46, List.forall_mem_cons.mpr ⟨lw_p47, fun _ h => absurd h List.not_mem_nil⟩⟩⟩⟩⟩⟩⟩⟩⟩⟩⟩⟩⟩⟩⟩⟩
theorem lw_p48 : lw_okq (⟨"CraigBenchModel", "nodeOf", "()I"⟩, 34) := ⟨⟨by decide +kernel, by decide +kernel⟩, List.mem_of_getElem? (i := 668) (by decide +kernel), List.mem_of_getElem? (i := 897) (by decide +kernel), List.mem_of_getElem? (i := 898) (by decide +kernel)⟩
theorem lw_p49 : lw_okq (⟨"CraigBenchModel", "leastVariable", "(I)I"⟩, 34) := ⟨⟨by decide +kernel, by decide +kernel⟩, List.mem_of_getElem? (i := 668) (by decide +kernel), List.mem_of_getElem? (i := 901) (by decide +kernel), List.mem_of_getElem? (i := 902) (by decide +kernel)⟩
theorem lw_p50 : lw_okq (⟨"CraigBenchModel", "side", "(IIZ)J"⟩, 34) := ⟨⟨by decide +kernel, by decide +kernel⟩, List.mem_of_getElem? (i := 668) (by decide +kernel), List.mem_of_getElem? (i := 905) (by decide +kernel), List.mem_of_getElem? (i := 906) (by decide +kernel)⟩
theorem lw_p51 : lw_okq (⟨"CraigBenchModel", "product", "(III)J"⟩, 34) := ⟨⟨by decide +kernel, by decide +kernel⟩, List.mem_of_getElem? (i := 668) (by decide +kernel), List.mem_of_getElem? (i := 936) (by decide +kernel), List.mem_of_getElem? (i := 937) (by decide +kernel)⟩
def lw_privs_4 : List (MethodName × Nat) := [(⟨"CraigBenchModel", "nodeOf", "()I"⟩, 34), (⟨"CraigBenchModel", "leastVariable", "(I)I"⟩, 34), (⟨"CraigBenchModel", "side", "(IIZ)J"⟩, 34), (⟨"CraigBenchModel", "product", "(III)J"⟩, 34)]
theorem lw_r4 : ∀ q ∈ lw_privs_4, lw_okq q := List.forall_mem_cons.mpr ⟨lw_p48, List.forall_mem_cons.mpr ⟨lw_p49, List.forall_mem_cons.mpr ⟨lw_p50, List.forall_mem_cons.mpr ⟨lw_p51, fun _ h => absurd h List.not_mem_nil⟩⟩⟩⟩
def lw_privs : List (MethodName × Nat) := lw_privs_1 ++ (lw_privs_2 ++ (lw_privs_3 ++ (lw_privs_4)))
def lw_tbl : List Cond := k2_sels lw_privs ++ tables_1
theorem lw_privs_ok : ∀ q ∈ lw_privs, lw_okq q := by
  show ∀ q ∈ lw_privs_1 ++ (lw_privs_2 ++ (lw_privs_3 ++ (lw_privs_4))), lw_okq q
  exact List.forall_mem_append.mpr ⟨lw_r1, List.forall_mem_append.mpr ⟨lw_r2, List.forall_mem_append.mpr ⟨lw_r3, lw_r4⟩⟩⟩
end
section
def R_A : String := "CraigBench$Answer"
def R_C : String := "CraigBench$Clauses"
def R_F : String := "CraigBench$Formulas"
def R_G : String := "CraigBench$Graph"
def R_L : String := "CraigBench$Labels"
def R_R : String := "CraigBench$Reader"
def R_T : String := "CraigBench$Tape"
def R_B : String := "CraigBench"
def R_M : String := "CraigBenchModel"
def R_U : String := "CraigBench$Truth"
def R_W : String := "CraigBenchLaw"
def R_J : String := "java/util/Arrays"
def R_K : String := "java/lang/Long"
def F_A : u_T := fun k => match k with
  | 0 => ("CraigBench$Answer", "words", "[J", true)
  | 1 => ("CraigBench$Answer", "known", "[Z", true)
  | 2 => ("CraigBench$Answer", "graph", "LCraigBench$Graph;", true)
  | _ => ("CraigBench$Answer", "root", "I", false)
def ty_A : Nat → FieldType := fun k => match k with
  | 0 => .array .long
  | 1 => .array .boolean
  | 2 => .object "CraigBench$Graph"
  | _ => .int
theorem n_A : ∀ a, a < 4 → ∀ b, b < 4 → a ≠ b → (F_A a).2.1 ≠ (F_A b).2.1 := by decide +kernel
theorem tk_A : ∀ k, k < 4 → parseFieldDescriptor (F_A k).2.2.1 = some (ty_A k) := by decide +kernel
def F_C : u_T := fun k => match k with
  | 0 => ("CraigBench$Clauses", "block", "[I", true)
  | 1 => ("CraigBench$Clauses", "left", "[I", true)
  | 2 => ("CraigBench$Clauses", "right", "[I", true)
  | 3 => ("CraigBench$Clauses", "pivot", "[I", true)
  | 4 => ("CraigBench$Clauses", "positive", "[I", true)
  | 5 => ("CraigBench$Clauses", "negative", "[I", true)
  | 6 => ("CraigBench$Clauses", "live", "[Z", true)
  | 7 => ("CraigBench$Clauses", "needed", "[Z", true)
  | 8 => ("CraigBench$Clauses", "size", "I", false)
  | 9 => ("CraigBench$Clauses", "given", "I", false)
  | 10 => ("CraigBench$Clauses", "empty", "I", false)
  | 11 => ("CraigBench$Clauses", "drafted", "I", false)
  | _ => ("CraigBench$Clauses", "draftedGiven", "I", false)
def ty_C : Nat → FieldType := fun k => match k with
  | 0 => .array .int
  | 1 => .array .int
  | 2 => .array .int
  | 3 => .array .int
  | 4 => .array .int
  | 5 => .array .int
  | 6 => .array .boolean
  | 7 => .array .boolean
  | 8 => .int
  | 9 => .int
  | 10 => .int
  | 11 => .int
  | _ => .int
theorem n_C : ∀ a, a < 13 → ∀ b, b < 13 → a ≠ b → (F_C a).2.1 ≠ (F_C b).2.1 := by decide +kernel
theorem tk_C : ∀ k, k < 13 → parseFieldDescriptor (F_C k).2.2.1 = some (ty_C k) := by decide +kernel
def F_F : u_T := fun k => match k with
  | 0 => ("CraigBench$Formulas", "clauses", "LCraigBench$Clauses;", true)
  | 1 => ("CraigBench$Formulas", "labels", "LCraigBench$Labels;", true)
  | 2 => ("CraigBench$Formulas", "row", "[J", true)
  | 3 => ("CraigBench$Formulas", "cut", "I", false)
  | 4 => ("CraigBench$Formulas", "labelledA", "I", false)
  | _ => ("CraigBench$Formulas", "labelledB", "I", false)
def ty_F : Nat → FieldType := fun k => match k with
  | 0 => .object "CraigBench$Clauses"
  | 1 => .object "CraigBench$Labels"
  | 2 => .array .long
  | 3 => .int
  | 4 => .int
  | _ => .int
theorem n_F : ∀ a, a < 6 → ∀ b, b < 6 → a ≠ b → (F_F a).2.1 ≠ (F_F b).2.1 := by decide +kernel
theorem tk_F : ∀ k, k < 6 → parseFieldDescriptor (F_F k).2.2.1 = some (ty_F k) := by decide +kernel
def F_G : u_T := fun k => match k with
  | 0 => ("CraigBench$Graph", "variable", "[I", true)
  | 1 => ("CraigBench$Graph", "low", "[I", true)
  | 2 => ("CraigBench$Graph", "high", "[I", true)
  | 3 => ("CraigBench$Graph", "numberOf", "[I", true)
  | 4 => ("CraigBench$Graph", "nodeOf", "[I", true)
  | 5 => ("CraigBench$Graph", "sides", "[I", true)
  | 6 => ("CraigBench$Graph", "waiting", "[I", true)
  | _ => ("CraigBench$Graph", "size", "I", false)
def ty_G : Nat → FieldType := fun k => match k with
  | 0 => .array .int
  | 1 => .array .int
  | 2 => .array .int
  | 3 => .array .int
  | 4 => .array .int
  | 5 => .array .int
  | 6 => .array .int
  | _ => .int
theorem n_G : ∀ a, a < 8 → ∀ b, b < 8 → a ≠ b → (F_G a).2.1 ≠ (F_G b).2.1 := by decide +kernel
theorem tk_G : ∀ k, k < 8 → parseFieldDescriptor (F_G k).2.2.1 = some (ty_G k) := by decide +kernel
def F_L : u_T := fun k => match k with
  | _ => ("CraigBench$Labels", "of", "[I", true)
def ty_L : Nat → FieldType := fun k => match k with
  | _ => .array .int
theorem n_L : ∀ a, a < 1 → ∀ b, b < 1 → a ≠ b → (F_L a).2.1 ≠ (F_L b).2.1 := by decide +kernel
theorem tk_L : ∀ k, k < 1 → parseFieldDescriptor (F_L k).2.2.1 = some (ty_L k) := by decide +kernel
def F_R : u_T := fun k => match k with
  | 0 => ("CraigBench$Reader", "tape", "LCraigBench$Tape;", true)
  | 1 => ("CraigBench$Reader", "clauses", "LCraigBench$Clauses;", true)
  | 2 => ("CraigBench$Reader", "kind", "I", false)
  | 3 => ("CraigBench$Reader", "place", "I", false)
  | 4 => ("CraigBench$Reader", "at", "I", false)
  | 5 => ("CraigBench$Reader", "token", "I", false)
  | 6 => ("CraigBench$Reader", "tokenPlace", "I", false)
  | 7 => ("CraigBench$Reader", "number", "I", false)
  | 8 => ("CraigBench$Reader", "state", "I", false)
  | 9 => ("CraigBench$Reader", "block", "I", false)
  | 10 => ("CraigBench$Reader", "positive", "I", false)
  | 11 => ("CraigBench$Reader", "negative", "I", false)
  | 12 => ("CraigBench$Reader", "left", "I", false)
  | 13 => ("CraigBench$Reader", "right", "I", false)
  | _ => ("CraigBench$Reader", "pivot", "I", false)
def ty_R : Nat → FieldType := fun k => match k with
  | 0 => .object "CraigBench$Tape"
  | 1 => .object "CraigBench$Clauses"
  | 2 => .int
  | 3 => .int
  | 4 => .int
  | 5 => .int
  | 6 => .int
  | 7 => .int
  | 8 => .int
  | 9 => .int
  | 10 => .int
  | 11 => .int
  | 12 => .int
  | 13 => .int
  | _ => .int
theorem n_R : ∀ a, a < 15 → ∀ b, b < 15 → a ≠ b → (F_R a).2.1 ≠ (F_R b).2.1 := by decide +kernel
theorem tk_R : ∀ k, k < 15 → parseFieldDescriptor (F_R k).2.2.1 = some (ty_R k) := by decide +kernel
def F_T : u_T := fun k => match k with
  | 0 => ("CraigBench$Tape", "bytes", "[B", true)
  | _ => ("CraigBench$Tape", "length", "I", false)
def ty_T : Nat → FieldType := fun k => match k with
  | 0 => .array .byte
  | _ => .int
theorem n_T : ∀ a, a < 2 → ∀ b, b < 2 → a ≠ b → (F_T a).2.1 ≠ (F_T b).2.1 := by decide +kernel
theorem tk_T : ∀ k, k < 2 → parseFieldDescriptor (F_T k).2.2.1 = some (ty_T k) := by decide +kernel
def F_B : u_T := fun k => match k with
  | 0 => ("CraigBench", "tape", "LCraigBench$Tape;", true)
  | 1 => ("CraigBench", "clauses", "LCraigBench$Clauses;", true)
  | 2 => ("CraigBench", "reader", "LCraigBench$Reader;", true)
  | 3 => ("CraigBench", "labels", "LCraigBench$Labels;", true)
  | 4 => ("CraigBench", "formulas", "LCraigBench$Formulas;", true)
  | 5 => ("CraigBench", "answer", "LCraigBench$Answer;", true)
  | 6 => ("CraigBench", "table", "[J", true)
  | _ => ("CraigBench", "nextTable", "[J", true)
def ty_B : Nat → FieldType := fun k => match k with
  | 0 => .object "CraigBench$Tape"
  | 1 => .object "CraigBench$Clauses"
  | 2 => .object "CraigBench$Reader"
  | 3 => .object "CraigBench$Labels"
  | 4 => .object "CraigBench$Formulas"
  | 5 => .object "CraigBench$Answer"
  | 6 => .array .long
  | _ => .array .long
theorem n_B : ∀ a, a < 8 → ∀ b, b < 8 → a ≠ b → (F_B a).2.1 ≠ (F_B b).2.1 := by decide +kernel
theorem tk_B : ∀ k, k < 8 → parseFieldDescriptor (F_B k).2.2.1 = some (ty_B k) := by decide +kernel
def F_M : u_T := fun k => match k with
  | 0 => ("CraigBenchModel", "plain", "[I", true)
  | 1 => ("CraigBenchModel", "minus", "[I", true)
  | 2 => ("CraigBenchModel", "block", "[I", true)
  | 3 => ("CraigBenchModel", "left", "[I", true)
  | 4 => ("CraigBenchModel", "right", "[I", true)
  | 5 => ("CraigBenchModel", "pivot", "[I", true)
  | 6 => ("CraigBenchModel", "live", "[Z", true)
  | 7 => ("CraigBenchModel", "needed", "[Z", true)
  | 8 => ("CraigBenchModel", "clauses", "I", false)
  | 9 => ("CraigBenchModel", "given", "I", false)
  | 10 => ("CraigBenchModel", "end", "I", false)
  | 11 => ("CraigBenchModel", "label", "[I", true)
  | 12 => ("CraigBenchModel", "tape", "[B", true)
  | 13 => ("CraigBenchModel", "taped", "I", false)
  | 14 => ("CraigBenchModel", "size", "I", false)
  | 15 => ("CraigBenchModel", "at", "I", false)
  | 16 => ("CraigBenchModel", "to", "I", false)
  | 17 => ("CraigBenchModel", "sort", "I", false)
  | 18 => ("CraigBenchModel", "worth", "I", false)
  | 19 => ("CraigBenchModel", "faultKind", "I", false)
  | 20 => ("CraigBenchModel", "faultPlace", "I", false)
  | 21 => ("CraigBenchModel", "of", "[J", true)
  | 22 => ("CraigBenchModel", "kept", "[J", true)
  | 23 => ("CraigBenchModel", "had", "[Z", true)
  | 24 => ("CraigBenchModel", "told", "[J", true)
  | 25 => ("CraigBenchModel", "isTold", "Z", false)
  | 26 => ("CraigBenchModel", "first", "[J", true)
  | 27 => ("CraigBenchModel", "second", "[J", true)
  | 28 => ("CraigBenchModel", "node", "[J", true)
  | 29 => ("CraigBenchModel", "nodeVariable", "[I", true)
  | 30 => ("CraigBenchModel", "nodeLow", "[I", true)
  | 31 => ("CraigBenchModel", "nodeHigh", "[I", true)
  | 32 => ("CraigBenchModel", "nodes", "I", false)
  | _ => ("CraigBenchModel", "wait", "[I", true)
def ty_M : Nat → FieldType := fun k => match k with
  | 0 => .array .int
  | 1 => .array .int
  | 2 => .array .int
  | 3 => .array .int
  | 4 => .array .int
  | 5 => .array .int
  | 6 => .array .boolean
  | 7 => .array .boolean
  | 8 => .int
  | 9 => .int
  | 10 => .int
  | 11 => .array .int
  | 12 => .array .byte
  | 13 => .int
  | 14 => .int
  | 15 => .int
  | 16 => .int
  | 17 => .int
  | 18 => .int
  | 19 => .int
  | 20 => .int
  | 21 => .array .long
  | 22 => .array .long
  | 23 => .array .boolean
  | 24 => .array .long
  | 25 => .boolean
  | 26 => .array .long
  | 27 => .array .long
  | 28 => .array .long
  | 29 => .array .int
  | 30 => .array .int
  | 31 => .array .int
  | 32 => .int
  | _ => .array .int
theorem n_M : ∀ a, a < 34 → ∀ b, b < 34 → a ≠ b → (F_M a).2.1 ≠ (F_M b).2.1 := by decide +kernel
theorem tk_M : ∀ k, k < 34 → parseFieldDescriptor (F_M k).2.2.1 = some (ty_M k) := by decide +kernel
abbrev classes : List vw_C := [(R_A, F_A, 4), (R_C, F_C, 13), (R_F, F_F, 6), (R_G, F_G, 8), (R_L, F_L, 1), (R_R, F_R, 15), (R_T, F_T, 2), (R_B, F_B, 8), (R_M, F_M, 34)]
abbrev b_B_init : ByteArray := prog_1_method_1_code
def y_B_init : MethodName := ⟨R_B, "<init>", "()V"⟩
abbrev b_B_feed : ByteArray := prog_1_method_2_code
def y_B_feed : MethodName := ⟨R_B, "feed", "(IIIII)I"⟩
abbrev b_B_end_ : ByteArray := prog_1_method_3_code
def y_B_end_ : MethodName := ⟨R_B, "end", "(I)I"⟩
abbrev b_B_read : ByteArray := prog_1_method_4_code
def y_B_read : MethodName := ⟨R_B, "read", "()I"⟩
abbrev b_B_fault : ByteArray := prog_1_method_5_code
def y_B_fault : MethodName := ⟨R_B, "fault", "(I)I"⟩
abbrev b_B_clear : ByteArray := prog_1_method_6_code
def y_B_clear : MethodName := ⟨R_B, "clear", "()I"⟩
abbrev b_B_clause : ByteArray := prog_1_method_7_code
def y_B_clause : MethodName := ⟨R_B, "clause", "(II)I"⟩
abbrev b_B_refutation : ByteArray := prog_1_method_8_code
def y_B_refutation : MethodName := ⟨R_B, "refutation", "()I"⟩
abbrev b_B_eliminate : ByteArray := prog_1_method_9_code
def y_B_eliminate : MethodName := ⟨R_B, "eliminate", "(I)I"⟩
abbrev b_B_label : ByteArray := prog_1_method_10_code
def y_B_label : MethodName := ⟨R_B, "label", "(II)I"⟩
abbrev b_B_variables : ByteArray := prog_1_method_11_code
def y_B_variables : MethodName := ⟨R_B, "variables", "(II)I"⟩
abbrev b_B_interpolate : ByteArray := prog_1_method_12_code
def y_B_interpolate : MethodName := ⟨R_B, "interpolate", "(II)I"⟩
abbrev b_B_value : ByteArray := prog_1_method_13_code
def y_B_value : MethodName := ⟨R_B, "value", "(I)I"⟩
abbrev b_B_prt : ByteArray := prog_1_method_14_code
def y_B_prt : MethodName := ⟨R_B, "partial", "(II)I"⟩
abbrev b_B_told : ByteArray := prog_1_method_15_code
def y_B_told : MethodName := ⟨R_B, "told", "(I)I"⟩
abbrev b_B_graph : ByteArray := prog_1_method_16_code
def y_B_graph : MethodName := ⟨R_B, "graph", "(II)I"⟩
abbrev b_B_follows : ByteArray := prog_1_method_17_code
def y_B_follows : MethodName := ⟨R_B, "follows", "(III)I"⟩
abbrev b_B_gap : ByteArray := prog_1_method_18_code
def y_B_gap : MethodName := ⟨R_B, "gap", "(III)I"⟩
abbrev b_B_count : ByteArray := prog_1_method_19_code
def y_B_count : MethodName := ⟨R_B, "count", "(I)I"⟩
abbrev b_B_nextInterpolant : ByteArray := prog_1_method_20_code
def y_B_nextInterpolant : MethodName := ⟨R_B, "nextInterpolant", "(II)V"⟩
abbrev b_B_gapWord : ByteArray := prog_1_method_21_code
def y_B_gapWord : MethodName := ⟨R_B, "gapWord", "(III)J"⟩
abbrev b_B_isVariable : ByteArray := prog_1_method_22_code
def y_B_isVariable : MethodName := ⟨R_B, "isVariable", "(I)Z"⟩
abbrev b_B_isCut : ByteArray := prog_1_method_23_code
def y_B_isCut : MethodName := ⟨R_B, "isCut", "(I)Z"⟩
abbrev b_B_isSystem : ByteArray := prog_1_method_24_code
def y_B_isSystem : MethodName := ⟨R_B, "isSystem", "(I)Z"⟩
abbrev b_B_bitOf : ByteArray := prog_1_method_25_code
def y_B_bitOf : MethodName := ⟨R_B, "bitOf", "(I)I"⟩
abbrev b_M_init : ByteArray := prog_11_method_1_code
def y_M_init : MethodName := ⟨R_M, "<init>", "()V"⟩
abbrev b_M_feed : ByteArray := prog_11_method_3_code
def y_M_feed : MethodName := ⟨R_M, "feed", "(IIIII)I"⟩
abbrev b_M_end_ : ByteArray := prog_11_method_4_code
def y_M_end_ : MethodName := ⟨R_M, "end", "(I)I"⟩
abbrev b_M_isDigit : ByteArray := prog_11_method_5_code
def y_M_isDigit : MethodName := ⟨R_M, "isDigit", "(I)Z"⟩
abbrev b_M_cut : ByteArray := prog_11_method_6_code
def y_M_cut : MethodName := ⟨R_M, "cut", "()V"⟩
abbrev b_M_need : ByteArray := prog_11_method_7_code
def y_M_need : MethodName := ⟨R_M, "need", "(ZI)Z"⟩
abbrev b_M_takes : ByteArray := prog_11_method_8_code
def y_M_takes : MethodName := ⟨R_M, "takes", "(I)Z"⟩
abbrev b_M_empty : ByteArray := prog_11_method_9_code
def y_M_empty : MethodName := ⟨R_M, "empty", "()I"⟩
abbrev b_M_add : ByteArray := prog_11_method_10_code
def y_M_add : MethodName := ⟨R_M, "add", "(IIIIII)V"⟩
abbrev b_M_readGiven : ByteArray := prog_11_method_11_code
def y_M_readGiven : MethodName := ⟨R_M, "readGiven", "()V"⟩
abbrev b_M_clauseHere : ByteArray := prog_11_method_12_code
def y_M_clauseHere : MethodName := ⟨R_M, "clauseHere", "()I"⟩
abbrev b_M_readResolvent : ByteArray := prog_11_method_13_code
def y_M_readResolvent : MethodName := ⟨R_M, "readResolvent", "()V"⟩
abbrev b_M_read : ByteArray := prog_11_method_14_code
def y_M_read : MethodName := ⟨R_M, "read", "()I"⟩
abbrev b_M_fault : ByteArray := prog_11_method_15_code
def y_M_fault : MethodName := ⟨R_M, "fault", "(I)I"⟩
abbrev b_M_clear : ByteArray := prog_11_method_16_code
def y_M_clear : MethodName := ⟨R_M, "clear", "()I"⟩
abbrev b_M_find : ByteArray := prog_11_method_17_code
def y_M_find : MethodName := ⟨R_M, "find", "()V"⟩
abbrev b_M_in : ByteArray := prog_11_method_18_code
def y_M_in : MethodName := ⟨R_M, "in", "(III)Z"⟩
abbrev b_M_clause : ByteArray := prog_11_method_19_code
def y_M_clause : MethodName := ⟨R_M, "clause", "(II)I"⟩
abbrev b_M_refutation : ByteArray := prog_11_method_20_code
def y_M_refutation : MethodName := ⟨R_M, "refutation", "()I"⟩
abbrev b_M_isThere : ByteArray := prog_11_method_21_code
def y_M_isThere : MethodName := ⟨R_M, "isThere", "(II)Z"⟩
abbrev b_M_eliminate : ByteArray := prog_11_method_22_code
def y_M_eliminate : MethodName := ⟨R_M, "eliminate", "(I)I"⟩
abbrev b_M_label : ByteArray := prog_11_method_23_code
def y_M_label : MethodName := ⟨R_M, "label", "(II)I"⟩
abbrev b_M_variablesOf : ByteArray := prog_11_method_24_code
def y_M_variablesOf : MethodName := ⟨R_M, "variablesOf", "(ZI)I"⟩
abbrev b_M_variables : ByteArray := prog_11_method_25_code
def y_M_variables : MethodName := ⟨R_M, "variables", "(II)I"⟩
abbrev b_M_word : ByteArray := prog_11_method_26_code
def y_M_word : MethodName := ⟨R_M, "word", "(II)J"⟩
abbrev b_M_labelOf : ByteArray := prog_11_method_27_code
def y_M_labelOf : MethodName := ⟨R_M, "labelOf", "(IIII)I"⟩
abbrev b_M_sum : ByteArray := prog_11_method_28_code
def y_M_sum : MethodName := ⟨R_M, "sum", "(IIIIII)J"⟩
abbrev b_M_partials : ByteArray := prog_11_method_29_code
def y_M_partials : MethodName := ⟨R_M, "partials", "(II)V"⟩
abbrev b_M_side : ByteArray := prog_11_method_30_code
def y_M_side : MethodName := ⟨R_M, "side", "(IIZ)J"⟩
abbrev b_M_leastVariable : ByteArray := prog_11_method_31_code
def y_M_leastVariable : MethodName := ⟨R_M, "leastVariable", "(I)I"⟩
abbrev b_M_nodeOf : ByteArray := prog_11_method_32_code
def y_M_nodeOf : MethodName := ⟨R_M, "nodeOf", "()I"⟩
abbrev b_M_draw : ByteArray := prog_11_method_33_code
def y_M_draw : MethodName := ⟨R_M, "draw", "()V"⟩
abbrev b_M_interpolate : ByteArray := prog_11_method_34_code
def y_M_interpolate : MethodName := ⟨R_M, "interpolate", "(II)I"⟩
abbrev b_M_value : ByteArray := prog_11_method_35_code
def y_M_value : MethodName := ⟨R_M, "value", "(I)I"⟩
abbrev b_M_prt : ByteArray := prog_11_method_36_code
def y_M_prt : MethodName := ⟨R_M, "partial", "(II)I"⟩
abbrev b_M_ones : ByteArray := prog_11_method_37_code
def y_M_ones : MethodName := ⟨R_M, "ones", "(J)I"⟩
abbrev b_M_told : ByteArray := prog_11_method_38_code
def y_M_told : MethodName := ⟨R_M, "told", "(I)I"⟩
abbrev b_M_graph : ByteArray := prog_11_method_39_code
def y_M_graph : MethodName := ⟨R_M, "graph", "(II)I"⟩
abbrev b_M_follows : ByteArray := prog_11_method_40_code
def y_M_follows : MethodName := ⟨R_M, "follows", "(III)I"⟩
abbrev b_M_product : ByteArray := prog_11_method_41_code
def y_M_product : MethodName := ⟨R_M, "product", "(III)J"⟩
abbrev b_M_gap : ByteArray := prog_11_method_42_code
def y_M_gap : MethodName := ⟨R_M, "gap", "(III)I"⟩
abbrev b_M_count : ByteArray := prog_11_method_43_code
def y_M_count : MethodName := ⟨R_M, "count", "(I)I"⟩
abbrev b_A_init : ByteArray := prog_2_method_1_code
def y_A_init : MethodName := ⟨R_A, "<init>", "()V"⟩
abbrev b_A_take : ByteArray := prog_2_method_2_code
def y_A_take : MethodName := ⟨R_A, "take", "(LCraigBench$Formulas;LCraigBench$Clauses;)V"⟩
abbrev b_A_truth : ByteArray := prog_2_method_3_code
def y_A_truth : MethodName := ⟨R_A, "truth", "(II)I"⟩
abbrev b_A_trueValuations : ByteArray := prog_2_method_4_code
def y_A_trueValuations : MethodName := ⟨R_A, "trueValuations", "()I"⟩
abbrev b_C_init : ByteArray := prog_3_method_1_code
def y_C_init : MethodName := ⟨R_C, "<init>", "()V"⟩
abbrev b_C_startDraft : ByteArray := prog_3_method_2_code
def y_C_startDraft : MethodName := ⟨R_C, "startDraft", "()V"⟩
abbrev b_C_hasRoom : ByteArray := prog_3_method_3_code
def y_C_hasRoom : MethodName := ⟨R_C, "hasRoom", "()Z"⟩
abbrev b_C_hasRoomForGiven : ByteArray := prog_3_method_4_code
def y_C_hasRoomForGiven : MethodName := ⟨R_C, "hasRoomForGiven", "()Z"⟩
abbrev b_C_isDrafted : ByteArray := prog_3_method_5_code
def y_C_isDrafted : MethodName := ⟨R_C, "isDrafted", "(I)Z"⟩
abbrev b_C_draftGiven : ByteArray := prog_3_method_6_code
def y_C_draftGiven : MethodName := ⟨R_C, "draftGiven", "(III)V"⟩
abbrev b_C_draftResolvent : ByteArray := prog_3_method_7_code
def y_C_draftResolvent : MethodName := ⟨R_C, "draftResolvent", "(III)V"⟩
abbrev b_C_draft : ByteArray := prog_3_method_8_code
def y_C_draft : MethodName := ⟨R_C, "draft", "(II)V"⟩
abbrev b_C_keepDraft : ByteArray := prog_3_method_9_code
def y_C_keepDraft : MethodName := ⟨R_C, "keepDraft", "()I"⟩
abbrev b_C_removeAll : ByteArray := prog_3_method_10_code
def y_C_removeAll : MethodName := ⟨R_C, "removeAll", "()V"⟩
abbrev b_C_findEmpty : ByteArray := prog_3_method_11_code
def y_C_findEmpty : MethodName := ⟨R_C, "findEmpty", "()V"⟩
abbrev b_C_markNeeded : ByteArray := prog_3_method_12_code
def y_C_markNeeded : MethodName := ⟨R_C, "markNeeded", "()V"⟩
abbrev b_C_resolves : ByteArray := prog_3_method_13_code
def y_C_resolves : MethodName := ⟨R_C, "resolves", "(III)Z"⟩
abbrev b_C_clashes : ByteArray := prog_3_method_14_code
def y_C_clashes : MethodName := ⟨R_C, "clashes", "(III)Z"⟩
abbrev b_C_positiveRest : ByteArray := prog_3_method_15_code
def y_C_positiveRest : MethodName := ⟨R_C, "positiveRest", "(III)I"⟩
abbrev b_C_negativeRest : ByteArray := prog_3_method_16_code
def y_C_negativeRest : MethodName := ⟨R_C, "negativeRest", "(III)I"⟩
abbrev b_C_resolveAway : ByteArray := prog_3_method_17_code
def y_C_resolveAway : MethodName := ⟨R_C, "resolveAway", "(I)I"⟩
abbrev b_C_isNews : ByteArray := prog_3_method_18_code
def y_C_isNews : MethodName := ⟨R_C, "isNews", "(III)Z"⟩
abbrev b_C_retire : ByteArray := prog_3_method_19_code
def y_C_retire : MethodName := ⟨R_C, "retire", "(I)V"⟩
abbrev b_C_isGivenOf : ByteArray := prog_3_method_20_code
def y_C_isGivenOf : MethodName := ⟨R_C, "isGivenOf", "(III)Z"⟩
abbrev b_C_occurring : ByteArray := prog_3_method_21_code
def y_C_occurring : MethodName := ⟨R_C, "occurring", "(II)I"⟩
abbrev b_C_allTrue : ByteArray := prog_3_method_22_code
def y_C_allTrue : MethodName := ⟨R_C, "allTrue", "(III)J"⟩
abbrev b_C_liveOnes : ByteArray := prog_3_method_23_code
def y_C_liveOnes : MethodName := ⟨R_C, "liveOnes", "()I"⟩
abbrev b_C_neededOnes : ByteArray := prog_3_method_24_code
def y_C_neededOnes : MethodName := ⟨R_C, "neededOnes", "()I"⟩
abbrev b_F_init : ByteArray := prog_4_method_1_code
def y_F_init : MethodName := ⟨R_F, "<init>", "(LCraigBench$Clauses;LCraigBench$Labels;)V"⟩
abbrev b_F_choose : ByteArray := prog_4_method_2_code
def y_F_choose : MethodName := ⟨R_F, "choose", "(II)V"⟩
abbrev b_F_sharedHaving : ByteArray := prog_4_method_3_code
def y_F_sharedHaving : MethodName := ⟨R_F, "sharedHaving", "(II)I"⟩
abbrev b_F_workOut : ByteArray := prog_4_method_4_code
def y_F_workOut : MethodName := ⟨R_F, "workOut", "(I)V"⟩
abbrev b_F_ofGiven : ByteArray := prog_4_method_5_code
def y_F_ofGiven : MethodName := ⟨R_F, "ofGiven", "(II)J"⟩
abbrev b_F_ofResolvent : ByteArray := prog_4_method_6_code
def y_F_ofResolvent : MethodName := ⟨R_F, "ofResolvent", "(II)J"⟩
abbrev b_F_interpolant : ByteArray := prog_4_method_7_code
def y_F_interpolant : MethodName := ⟨R_F, "interpolant", "(II[J)V"⟩
abbrev b_G_init : ByteArray := prog_5_method_1_code
def y_G_init : MethodName := ⟨R_G, "<init>", "()V"⟩
abbrev b_G_bitAt : ByteArray := prog_5_method_2_code
def y_G_bitAt : MethodName := ⟨R_G, "bitAt", "([JII)I"⟩
abbrev b_G_build : ByteArray := prog_5_method_3_code
def y_G_build : MethodName := ⟨R_G, "build", "([JI)V"⟩
abbrev b_G_join : ByteArray := prog_5_method_4_code
def y_G_join : MethodName := ⟨R_G, "join", "(IIII)I"⟩
abbrev b_G_numberFrom : ByteArray := prog_5_method_5_code
def y_G_numberFrom : MethodName := ⟨R_G, "numberFrom", "(I)V"⟩
abbrev b_G_support : ByteArray := prog_5_method_6_code
def y_G_support : MethodName := ⟨R_G, "support", "()I"⟩
abbrev b_G_tell : ByteArray := prog_5_method_7_code
def y_G_tell : MethodName := ⟨R_G, "tell", "(II)I"⟩
abbrev b_G_sideNumber : ByteArray := prog_5_method_8_code
def y_G_sideNumber : MethodName := ⟨R_G, "sideNumber", "(I)I"⟩
abbrev b_L_init : ByteArray := prog_6_method_1_code
def y_L_init : MethodName := ⟨R_L, "<init>", "()V"⟩
abbrev b_L_reset : ByteArray := prog_6_method_2_code
def y_L_reset : MethodName := ⟨R_L, "reset", "()V"⟩
abbrev b_L_exchange : ByteArray := prog_6_method_3_code
def y_L_exchange : MethodName := ⟨R_L, "exchange", "(II)I"⟩
abbrev b_L_having : ByteArray := prog_6_method_4_code
def y_L_having : MethodName := ⟨R_L, "having", "(I)I"⟩
abbrev b_R_init : ByteArray := prog_7_method_1_code
def y_R_init : MethodName := ⟨R_R, "<init>", "(LCraigBench$Tape;LCraigBench$Clauses;)V"⟩
abbrev b_R_readText : ByteArray := prog_7_method_2_code
def y_R_readText : MethodName := ⟨R_R, "readText", "()V"⟩
abbrev b_R_fail : ByteArray := prog_7_method_3_code
def y_R_fail : MethodName := ⟨R_R, "fail", "(I)V"⟩
abbrev b_R_nextToken : ByteArray := prog_7_method_4_code
def y_R_nextToken : MethodName := ⟨R_R, "nextToken", "()V"⟩
abbrev b_R_skipBlanks : ByteArray := prog_7_method_5_code
def y_R_skipBlanks : MethodName := ⟨R_R, "skipBlanks", "()V"⟩
abbrev b_R_takeDigits : ByteArray := prog_7_method_6_code
def y_R_takeDigits : MethodName := ⟨R_R, "takeDigits", "()V"⟩
abbrev b_R_isBlank : ByteArray := prog_7_method_7_code
def y_R_isBlank : MethodName := ⟨R_R, "isBlank", "(I)Z"⟩
abbrev b_R_isDigit : ByteArray := prog_7_method_8_code
def y_R_isDigit : MethodName := ⟨R_R, "isDigit", "(I)Z"⟩
abbrev b_R_isSign : ByteArray := prog_7_method_9_code
def y_R_isSign : MethodName := ⟨R_R, "isSign", "(I)Z"⟩
abbrev b_R_takeToken : ByteArray := prog_7_method_10_code
def y_R_takeToken : MethodName := ⟨R_R, "takeToken", "()V"⟩
abbrev b_R_takeStart : ByteArray := prog_7_method_11_code
def y_R_takeStart : MethodName := ⟨R_R, "takeStart", "()V"⟩
abbrev b_R_openGiven : ByteArray := prog_7_method_12_code
def y_R_openGiven : MethodName := ⟨R_R, "openGiven", "()V"⟩
abbrev b_R_openResolvent : ByteArray := prog_7_method_13_code
def y_R_openResolvent : MethodName := ⟨R_R, "openResolvent", "()V"⟩
abbrev b_R_takeColon : ByteArray := prog_7_method_14_code
def y_R_takeColon : MethodName := ⟨R_R, "takeColon", "()V"⟩
abbrev b_R_takeInsideClause : ByteArray := prog_7_method_15_code
def y_R_takeInsideClause : MethodName := ⟨R_R, "takeInsideClause", "()V"⟩
abbrev b_R_takeClose : ByteArray := prog_7_method_16_code
def y_R_takeClose : MethodName := ⟨R_R, "takeClose", "()V"⟩
abbrev b_R_takeNumber : ByteArray := prog_7_method_17_code
def y_R_takeNumber : MethodName := ⟨R_R, "takeNumber", "()V"⟩
abbrev b_R_takeBlock : ByteArray := prog_7_method_18_code
def y_R_takeBlock : MethodName := ⟨R_R, "takeBlock", "()V"⟩
abbrev b_R_takeLiteral : ByteArray := prog_7_method_19_code
def y_R_takeLiteral : MethodName := ⟨R_R, "takeLiteral", "()V"⟩
abbrev b_R_takeLeft : ByteArray := prog_7_method_20_code
def y_R_takeLeft : MethodName := ⟨R_R, "takeLeft", "()V"⟩
abbrev b_R_takeRight : ByteArray := prog_7_method_21_code
def y_R_takeRight : MethodName := ⟨R_R, "takeRight", "()V"⟩
abbrev b_R_takePivot : ByteArray := prog_7_method_22_code
def y_R_takePivot : MethodName := ⟨R_R, "takePivot", "()V"⟩
abbrev b_T_init : ByteArray := prog_8_method_1_code
def y_T_init : MethodName := ⟨R_T, "<init>", "()V"⟩
abbrev b_T_append : ByteArray := prog_8_method_2_code
def y_T_append : MethodName := ⟨R_T, "append", "(I)V"⟩
abbrev b_T_byteAt : ByteArray := prog_8_method_3_code
def y_T_byteAt : MethodName := ⟨R_T, "byteAt", "(I)I"⟩
abbrev b_U_ofVariable : ByteArray := prog_9_method_2_code
def y_U_ofVariable : MethodName := ⟨R_U, "ofVariable", "(II)J"⟩
abbrev b_U_ofAny : ByteArray := prog_9_method_3_code
def y_U_ofAny : MethodName := ⟨R_U, "ofAny", "(III)J"⟩
abbrev b_K_bitCount : ByteArray := prog_12_method_50_code
def y_K_bitCount : MethodName := ⟨R_K, "bitCount", "(J)I"⟩
abbrev b_J_fillI : ByteArray := prog_13_method_103_code
def y_J_fillI : MethodName := ⟨R_J, "fill", "([II)V"⟩
abbrev b_J_fillL : ByteArray := prog_13_method_101_code
def y_J_fillL : MethodName := ⟨R_J, "fill", "([JJ)V"⟩
end
section
def isNest : Cond → Bool
  | .fieldLinkNest .. => true
  | .methodLinkNest .. => true
  | _ => false
def gw_tbl : List Cond := lw_tbl.filter goodWord
def nw_tbl : List Cond := lw_tbl.filter isNest
theorem gw_mem {w : Cond} (i : Nat) (h : lw_tbl[i]? = some w) (hg : goodWord w = true) : w ∈ gw_tbl := List.mem_filter.mpr ⟨List.mem_of_getElem? h, hg⟩
theorem nw_mem {w : Cond} (i : Nat) (h : lw_tbl[i]? = some w) (hg : isNest w = true) : w ∈ nw_tbl := List.mem_filter.mpr ⟨List.mem_of_getElem? h, hg⟩
theorem gw_mems {ws : List Cond} (ps : List Nat) (hp : ws = ps.filterMap (fun i => lw_tbl[i]?)) (h : ws.all goodWord = true) : ∀ w ∈ ws, w ∈ gw_tbl := by
  intro w hw
  have h1 := List.all_eq_true.mp h w hw
  rw [hp] at hw
  obtain ⟨i, -, hi⟩ := List.mem_filterMap.mp hw
  exact gw_mem i hi h1
theorem wm_0 : Cond.selects R_R y_R_nextToken y_R_nextToken ∈ gw_tbl := gw_mem 0 (by decide +kernel) (by decide)
theorem wm_1 : Cond.selects R_R y_R_skipBlanks y_R_skipBlanks ∈ gw_tbl := gw_mem 1 (by decide +kernel) (by decide)
theorem wm_2 : Cond.selects R_R y_R_takeDigits y_R_takeDigits ∈ gw_tbl := gw_mem 2 (by decide +kernel) (by decide)
theorem wm_3 : Cond.selects R_R y_R_takeToken y_R_takeToken ∈ gw_tbl := gw_mem 3 (by decide +kernel) (by decide)
theorem wm_4 : Cond.selects R_R y_R_takeStart y_R_takeStart ∈ gw_tbl := gw_mem 4 (by decide +kernel) (by decide)
theorem wm_5 : Cond.selects R_R y_R_openGiven y_R_openGiven ∈ gw_tbl := gw_mem 5 (by decide +kernel) (by decide)
theorem wm_6 : Cond.selects R_R y_R_fail y_R_fail ∈ gw_tbl := gw_mem 6 (by decide +kernel) (by decide)
theorem wm_7 : Cond.selects R_R y_R_openResolvent y_R_openResolvent ∈ gw_tbl := gw_mem 7 (by decide +kernel) (by decide)
theorem wm_8 : Cond.selects R_R y_R_takeColon y_R_takeColon ∈ gw_tbl := gw_mem 8 (by decide +kernel) (by decide)
theorem wm_9 : Cond.selects R_R y_R_takeInsideClause y_R_takeInsideClause ∈ gw_tbl := gw_mem 9 (by decide +kernel) (by decide)
theorem wm_10 : Cond.selects R_C y_C_draft y_C_draft ∈ gw_tbl := gw_mem 10 (by decide +kernel) (by decide)
theorem wm_11 : Cond.selects R_R y_R_takeNumber y_R_takeNumber ∈ gw_tbl := gw_mem 11 (by decide +kernel) (by decide)
theorem wm_12 : Cond.selects R_R y_R_takeBlock y_R_takeBlock ∈ gw_tbl := gw_mem 12 (by decide +kernel) (by decide)
theorem wm_13 : Cond.selects R_R y_R_takeLeft y_R_takeLeft ∈ gw_tbl := gw_mem 13 (by decide +kernel) (by decide)
theorem wm_14 : Cond.selects R_R y_R_takeRight y_R_takeRight ∈ gw_tbl := gw_mem 14 (by decide +kernel) (by decide)
theorem wm_15 : Cond.selects R_R y_R_takePivot y_R_takePivot ∈ gw_tbl := gw_mem 15 (by decide +kernel) (by decide)
theorem wm_16 : Cond.selects R_C y_C_positiveRest y_C_positiveRest ∈ gw_tbl := gw_mem 16 (by decide +kernel) (by decide)
theorem wm_17 : Cond.selects R_C y_C_negativeRest y_C_negativeRest ∈ gw_tbl := gw_mem 17 (by decide +kernel) (by decide)
theorem wm_18 : Cond.selects R_R y_R_takeLiteral y_R_takeLiteral ∈ gw_tbl := gw_mem 18 (by decide +kernel) (by decide)
theorem wm_19 : Cond.selects R_R y_R_takeClose y_R_takeClose ∈ gw_tbl := gw_mem 19 (by decide +kernel) (by decide)
theorem wm_20 : Cond.selects R_C y_C_findEmpty y_C_findEmpty ∈ gw_tbl := gw_mem 20 (by decide +kernel) (by decide)
theorem wm_21 : Cond.selects R_C y_C_markNeeded y_C_markNeeded ∈ gw_tbl := gw_mem 21 (by decide +kernel) (by decide)
theorem wm_22 : Cond.selects R_C y_C_isNews y_C_isNews ∈ gw_tbl := gw_mem 22 (by decide +kernel) (by decide)
theorem wm_23 : Cond.selects R_C y_C_retire y_C_retire ∈ gw_tbl := gw_mem 23 (by decide +kernel) (by decide)
theorem wm_24 : Cond.selects R_C y_C_isGivenOf y_C_isGivenOf ∈ gw_tbl := gw_mem 24 (by decide +kernel) (by decide)
theorem wm_25 : Cond.selects R_F y_F_sharedHaving y_F_sharedHaving ∈ gw_tbl := gw_mem 25 (by decide +kernel) (by decide)
theorem wm_26 : Cond.selects R_F y_F_ofResolvent y_F_ofResolvent ∈ gw_tbl := gw_mem 26 (by decide +kernel) (by decide)
theorem wm_27 : Cond.selects R_F y_F_ofGiven y_F_ofGiven ∈ gw_tbl := gw_mem 27 (by decide +kernel) (by decide)
theorem wm_28 : Cond.selects R_G y_G_join y_G_join ∈ gw_tbl := gw_mem 28 (by decide +kernel) (by decide)
theorem wm_29 : Cond.selects R_G y_G_numberFrom y_G_numberFrom ∈ gw_tbl := gw_mem 29 (by decide +kernel) (by decide)
theorem wm_30 : Cond.selects R_G y_G_sideNumber y_G_sideNumber ∈ gw_tbl := gw_mem 30 (by decide +kernel) (by decide)
theorem wm_31 : Cond.selects R_B y_B_nextInterpolant y_B_nextInterpolant ∈ gw_tbl := gw_mem 31 (by decide +kernel) (by decide)
theorem wm_32 : Cond.selects R_B y_B_gapWord y_B_gapWord ∈ gw_tbl := gw_mem 32 (by decide +kernel) (by decide)
theorem wm_33 : Cond.selects R_M y_M_cut y_M_cut ∈ gw_tbl := gw_mem 33 (by decide +kernel) (by decide)
theorem wm_34 : Cond.selects R_M y_M_readGiven y_M_readGiven ∈ gw_tbl := gw_mem 34 (by decide +kernel) (by decide)
theorem wm_35 : Cond.selects R_M y_M_need y_M_need ∈ gw_tbl := gw_mem 35 (by decide +kernel) (by decide)
theorem wm_36 : Cond.selects R_M y_M_takes y_M_takes ∈ gw_tbl := gw_mem 36 (by decide +kernel) (by decide)
theorem wm_37 : Cond.selects R_M y_M_add y_M_add ∈ gw_tbl := gw_mem 37 (by decide +kernel) (by decide)
theorem wm_38 : Cond.selects R_M y_M_readResolvent y_M_readResolvent ∈ gw_tbl := gw_mem 38 (by decide +kernel) (by decide)
theorem wm_39 : Cond.selects R_M y_M_clauseHere y_M_clauseHere ∈ gw_tbl := gw_mem 39 (by decide +kernel) (by decide)
theorem wm_40 : Cond.selects R_M y_M_find y_M_find ∈ gw_tbl := gw_mem 40 (by decide +kernel) (by decide)
theorem wm_41 : Cond.selects R_M y_M_empty y_M_empty ∈ gw_tbl := gw_mem 41 (by decide +kernel) (by decide)
theorem wm_42 : Cond.selects R_M y_M_isThere y_M_isThere ∈ gw_tbl := gw_mem 42 (by decide +kernel) (by decide)
theorem wm_43 : Cond.selects R_M y_M_variablesOf y_M_variablesOf ∈ gw_tbl := gw_mem 43 (by decide +kernel) (by decide)
theorem wm_44 : Cond.selects R_M y_M_partials y_M_partials ∈ gw_tbl := gw_mem 44 (by decide +kernel) (by decide)
theorem wm_45 : Cond.selects R_M y_M_sum y_M_sum ∈ gw_tbl := gw_mem 45 (by decide +kernel) (by decide)
theorem wm_46 : Cond.selects R_M y_M_labelOf y_M_labelOf ∈ gw_tbl := gw_mem 46 (by decide +kernel) (by decide)
theorem wm_47 : Cond.selects R_M y_M_draw y_M_draw ∈ gw_tbl := gw_mem 47 (by decide +kernel) (by decide)
theorem wm_48 : Cond.selects R_M y_M_nodeOf y_M_nodeOf ∈ gw_tbl := gw_mem 48 (by decide +kernel) (by decide)
theorem wm_49 : Cond.selects R_M y_M_leastVariable y_M_leastVariable ∈ gw_tbl := gw_mem 49 (by decide +kernel) (by decide)
theorem wm_50 : Cond.selects R_M y_M_side y_M_side ∈ gw_tbl := gw_mem 50 (by decide +kernel) (by decide)
theorem wm_51 : Cond.selects R_M y_M_product y_M_product ∈ gw_tbl := gw_mem 51 (by decide +kernel) (by decide)
theorem wm_52 : Cond.initialized R_W ∈ gw_tbl := gw_mem 52 (by decide +kernel) (by decide)
theorem wm_53 : Cond.initialized R_B ∈ gw_tbl := gw_mem 53 (by decide +kernel) (by decide)
theorem wm_54 : Cond.initialized R_T ∈ gw_tbl := gw_mem 54 (by decide +kernel) (by decide)
theorem wm_55 : Cond.initialized R_C ∈ gw_tbl := gw_mem 55 (by decide +kernel) (by decide)
theorem wm_56 : Cond.initialized R_R ∈ gw_tbl := gw_mem 56 (by decide +kernel) (by decide)
theorem wm_57 : Cond.initialized R_L ∈ gw_tbl := gw_mem 57 (by decide +kernel) (by decide)
theorem wm_58 : Cond.initialized R_J ∈ gw_tbl := gw_mem 58 (by decide +kernel) (by decide)
theorem wm_59 : Cond.initialized R_F ∈ gw_tbl := gw_mem 59 (by decide +kernel) (by decide)
theorem wm_60 : Cond.initialized R_A ∈ gw_tbl := gw_mem 60 (by decide +kernel) (by decide)
theorem wm_61 : Cond.initialized R_G ∈ gw_tbl := gw_mem 61 (by decide +kernel) (by decide)
theorem wm_62 : Cond.initialized R_M ∈ gw_tbl := gw_mem 62 (by decide +kernel) (by decide)
theorem wm_63 : Cond.initialized R_U ∈ gw_tbl := gw_mem 63 (by decide +kernel) (by decide)
theorem wm_64 : Cond.initialized R_K ∈ gw_tbl := gw_mem 64 (by decide +kernel) (by decide)
theorem wm_65 : Cond.classLink R_W 7 R_B ∈ gw_tbl := gw_mem 65 (by decide +kernel) (by decide)
theorem wm_66 : Cond.instantiable R_B 8 ∈ gw_tbl := gw_mem 66 (by decide +kernel) (by decide)
theorem wm_67 : Cond.methodLink R_W 9 y_B_init ∈ gw_tbl := gw_mem 67 (by decide +kernel) (by decide)
theorem wm_68 : Cond.instanceMethod y_B_init ∈ gw_tbl := gw_mem 68 (by decide +kernel) (by decide)
theorem wm_69 : Cond.code y_B_init b_B_init 1 none ∈ gw_tbl := gw_mem 69 (by decide +kernel) (by decide)
theorem wm_70 : Cond.methodLink R_B 3 objectInit ∈ gw_tbl := gw_mem 70 (by decide +kernel) (by decide)
theorem wm_71 : Cond.instanceMethod objectInit ∈ gw_tbl := gw_mem 71 (by decide +kernel) (by decide)
theorem wm_72 : Cond.code objectInit ⟨#[0xb1]⟩ 1 none ∈ gw_tbl := gw_mem 72 (by decide +kernel) (by decide)
theorem wm_73 : Cond.classLink R_B 9 R_T ∈ gw_tbl := gw_mem 73 (by decide +kernel) (by decide)
theorem wm_74 : Cond.instantiable R_T 2 ∈ gw_tbl := gw_mem 74 (by decide +kernel) (by decide)
theorem wm_75 : Cond.methodLinkNest R_B 11 y_T_init "CraigBench" ∈ nw_tbl := nw_mem 75 (by decide +kernel) (by decide)
theorem wm_76 : Cond.instanceMethod y_T_init ∈ gw_tbl := gw_mem 76 (by decide +kernel) (by decide)
theorem wm_77 : Cond.code y_T_init b_T_init 1 none ∈ gw_tbl := gw_mem 77 (by decide +kernel) (by decide)
theorem wm_78 : Cond.methodLink R_T 3 objectInit ∈ gw_tbl := gw_mem 78 (by decide +kernel) (by decide)
theorem wm_79 : Cond.fieldLink R_T 9 "CraigBench$Tape" "bytes" "[B" ∈ gw_tbl := gw_mem 79 (by decide +kernel) (by decide)
theorem wm_80 : Cond.fieldLinkNest R_B 62 "CraigBench$Tape" "length" "I" "CraigBench" ∈ nw_tbl := nw_mem 80 (by decide +kernel) (by decide)
theorem wm_81 : Cond.fieldLink R_T 15 "CraigBench$Tape" "length" "I" ∈ gw_tbl := gw_mem 81 (by decide +kernel) (by decide)
theorem wm_82 : Cond.fieldLinkNest R_R 68 "CraigBench$Tape" "length" "I" "CraigBench" ∈ nw_tbl := nw_mem 82 (by decide +kernel) (by decide)
theorem wm_88 : Cond.arrayClass .byte ∈ gw_tbl := gw_mem 88 (by decide +kernel) (by decide)
theorem wm_89 : Cond.classLink R_B 16 R_C ∈ gw_tbl := gw_mem 89 (by decide +kernel) (by decide)
theorem wm_90 : Cond.instantiable R_C 13 ∈ gw_tbl := gw_mem 90 (by decide +kernel) (by decide)
theorem wm_91 : Cond.methodLinkNest R_B 18 y_C_init "CraigBench" ∈ nw_tbl := nw_mem 91 (by decide +kernel) (by decide)
theorem wm_92 : Cond.instanceMethod y_C_init ∈ gw_tbl := gw_mem 92 (by decide +kernel) (by decide)
theorem wm_93 : Cond.code y_C_init b_C_init 1 none ∈ gw_tbl := gw_mem 93 (by decide +kernel) (by decide)
theorem wm_94 : Cond.methodLink R_C 3 objectInit ∈ gw_tbl := gw_mem 94 (by decide +kernel) (by decide)
theorem wm_95 : Cond.fieldLink R_C 9 "CraigBench$Clauses" "block" "[I" ∈ gw_tbl := gw_mem 95 (by decide +kernel) (by decide)
theorem wm_96 : Cond.fieldLinkNest R_F 55 "CraigBench$Clauses" "block" "[I" "CraigBench" ∈ nw_tbl := nw_mem 96 (by decide +kernel) (by decide)
theorem wm_97 : Cond.fieldLinkNest R_B 92 "CraigBench$Clauses" "block" "[I" "CraigBench" ∈ nw_tbl := nw_mem 97 (by decide +kernel) (by decide)
theorem wm_98 : Cond.fieldLink R_C 15 "CraigBench$Clauses" "left" "[I" ∈ gw_tbl := gw_mem 98 (by decide +kernel) (by decide)
theorem wm_99 : Cond.fieldLinkNest R_F 80 "CraigBench$Clauses" "left" "[I" "CraigBench" ∈ nw_tbl := nw_mem 99 (by decide +kernel) (by decide)
theorem wm_100 : Cond.fieldLinkNest R_B 96 "CraigBench$Clauses" "left" "[I" "CraigBench" ∈ nw_tbl := nw_mem 100 (by decide +kernel) (by decide)
theorem wm_101 : Cond.fieldLink R_C 18 "CraigBench$Clauses" "right" "[I" ∈ gw_tbl := gw_mem 101 (by decide +kernel) (by decide)
theorem wm_102 : Cond.fieldLinkNest R_F 83 "CraigBench$Clauses" "right" "[I" "CraigBench" ∈ nw_tbl := nw_mem 102 (by decide +kernel) (by decide)
theorem wm_103 : Cond.fieldLinkNest R_B 99 "CraigBench$Clauses" "right" "[I" "CraigBench" ∈ nw_tbl := nw_mem 103 (by decide +kernel) (by decide)
theorem wm_104 : Cond.fieldLink R_C 21 "CraigBench$Clauses" "pivot" "[I" ∈ gw_tbl := gw_mem 104 (by decide +kernel) (by decide)
theorem wm_105 : Cond.fieldLinkNest R_F 86 "CraigBench$Clauses" "pivot" "[I" "CraigBench" ∈ nw_tbl := nw_mem 105 (by decide +kernel) (by decide)
theorem wm_106 : Cond.fieldLinkNest R_B 102 "CraigBench$Clauses" "pivot" "[I" "CraigBench" ∈ nw_tbl := nw_mem 106 (by decide +kernel) (by decide)
theorem wm_107 : Cond.fieldLink R_C 24 "CraigBench$Clauses" "positive" "[I" ∈ gw_tbl := gw_mem 107 (by decide +kernel) (by decide)
theorem wm_108 : Cond.fieldLinkNest R_F 66 "CraigBench$Clauses" "positive" "[I" "CraigBench" ∈ nw_tbl := nw_mem 108 (by decide +kernel) (by decide)
theorem wm_109 : Cond.fieldLinkNest R_B 105 "CraigBench$Clauses" "positive" "[I" "CraigBench" ∈ nw_tbl := nw_mem 109 (by decide +kernel) (by decide)
theorem wm_110 : Cond.fieldLink R_C 27 "CraigBench$Clauses" "negative" "[I" ∈ gw_tbl := gw_mem 110 (by decide +kernel) (by decide)
theorem wm_111 : Cond.fieldLinkNest R_F 69 "CraigBench$Clauses" "negative" "[I" "CraigBench" ∈ nw_tbl := nw_mem 111 (by decide +kernel) (by decide)
theorem wm_112 : Cond.fieldLinkNest R_B 108 "CraigBench$Clauses" "negative" "[I" "CraigBench" ∈ nw_tbl := nw_mem 112 (by decide +kernel) (by decide)
theorem wm_113 : Cond.fieldLink R_C 30 "CraigBench$Clauses" "live" "[Z" ∈ gw_tbl := gw_mem 113 (by decide +kernel) (by decide)
theorem wm_114 : Cond.fieldLink R_C 34 "CraigBench$Clauses" "needed" "[Z" ∈ gw_tbl := gw_mem 114 (by decide +kernel) (by decide)
theorem wm_115 : Cond.fieldLinkNest R_A 35 "CraigBench$Clauses" "needed" "[Z" "CraigBench" ∈ nw_tbl := nw_mem 115 (by decide +kernel) (by decide)
theorem wm_116 : Cond.fieldLinkNest R_F 51 "CraigBench$Clauses" "needed" "[Z" "CraigBench" ∈ nw_tbl := nw_mem 116 (by decide +kernel) (by decide)
theorem wm_117 : Cond.fieldLinkNest R_B 111 "CraigBench$Clauses" "needed" "[Z" "CraigBench" ∈ nw_tbl := nw_mem 117 (by decide +kernel) (by decide)
theorem wm_118 : Cond.fieldLink R_C 37 "CraigBench$Clauses" "size" "I" ∈ gw_tbl := gw_mem 118 (by decide +kernel) (by decide)
theorem wm_119 : Cond.fieldLinkNest R_B 83 "CraigBench$Clauses" "size" "I" "CraigBench" ∈ nw_tbl := nw_mem 119 (by decide +kernel) (by decide)
theorem wm_120 : Cond.fieldLink R_C 44 "CraigBench$Clauses" "given" "I" ∈ gw_tbl := gw_mem 120 (by decide +kernel) (by decide)
theorem wm_121 : Cond.fieldLinkNest R_B 188 "CraigBench$Clauses" "given" "I" "CraigBench" ∈ nw_tbl := nw_mem 121 (by decide +kernel) (by decide)
theorem wm_122 : Cond.fieldLinkNest R_A 26 "CraigBench$Clauses" "empty" "I" "CraigBench" ∈ nw_tbl := nw_mem 122 (by decide +kernel) (by decide)
theorem wm_123 : Cond.fieldLinkNest R_F 48 "CraigBench$Clauses" "empty" "I" "CraigBench" ∈ nw_tbl := nw_mem 123 (by decide +kernel) (by decide)
theorem wm_124 : Cond.fieldLinkNest R_B 115 "CraigBench$Clauses" "empty" "I" "CraigBench" ∈ nw_tbl := nw_mem 124 (by decide +kernel) (by decide)
theorem wm_125 : Cond.fieldLink R_C 78 "CraigBench$Clauses" "empty" "I" ∈ gw_tbl := gw_mem 125 (by decide +kernel) (by decide)
theorem wm_126 : Cond.fieldLink R_C 41 "CraigBench$Clauses" "drafted" "I" ∈ gw_tbl := gw_mem 126 (by decide +kernel) (by decide)
theorem wm_127 : Cond.fieldLink R_C 47 "CraigBench$Clauses" "draftedGiven" "I" ∈ gw_tbl := gw_mem 127 (by decide +kernel) (by decide)
theorem wm_155 : Cond.arrayClass .int ∈ gw_tbl := gw_mem 155 (by decide +kernel) (by decide)
theorem wm_156 : Cond.arrayClass .boolean ∈ gw_tbl := gw_mem 156 (by decide +kernel) (by decide)
theorem wm_157 : Cond.classLink R_B 23 R_R ∈ gw_tbl := gw_mem 157 (by decide +kernel) (by decide)
theorem wm_158 : Cond.instantiable R_R 15 ∈ gw_tbl := gw_mem 158 (by decide +kernel) (by decide)
theorem wm_159 : Cond.methodLink R_B 25 y_R_init ∈ gw_tbl := gw_mem 159 (by decide +kernel) (by decide)
theorem wm_160 : Cond.instanceMethod y_R_init ∈ gw_tbl := gw_mem 160 (by decide +kernel) (by decide)
theorem wm_161 : Cond.code y_R_init b_R_init 3 none ∈ gw_tbl := gw_mem 161 (by decide +kernel) (by decide)
theorem wm_162 : Cond.methodLink R_R 3 objectInit ∈ gw_tbl := gw_mem 162 (by decide +kernel) (by decide)
theorem wm_163 : Cond.fieldLink R_R 9 "CraigBench$Reader" "tape" "LCraigBench$Tape;" ∈ gw_tbl := gw_mem 163 (by decide +kernel) (by decide)
theorem wm_164 : Cond.fieldLink R_R 15 "CraigBench$Reader" "clauses" "LCraigBench$Clauses;" ∈ gw_tbl := gw_mem 164 (by decide +kernel) (by decide)
theorem wm_165 : Cond.fieldLink R_R 28 "CraigBench$Reader" "kind" "I" ∈ gw_tbl := gw_mem 165 (by decide +kernel) (by decide)
theorem wm_166 : Cond.fieldLinkNest R_B 73 "CraigBench$Reader" "kind" "I" "CraigBench" ∈ nw_tbl := nw_mem 166 (by decide +kernel) (by decide)
theorem wm_167 : Cond.fieldLink R_R 19 "CraigBench$Reader" "place" "I" ∈ gw_tbl := gw_mem 167 (by decide +kernel) (by decide)
theorem wm_168 : Cond.fieldLinkNest R_B 80 "CraigBench$Reader" "place" "I" "CraigBench" ∈ nw_tbl := nw_mem 168 (by decide +kernel) (by decide)
theorem wm_169 : Cond.fieldLink R_R 31 "CraigBench$Reader" "at" "I" ∈ gw_tbl := gw_mem 169 (by decide +kernel) (by decide)
theorem wm_170 : Cond.fieldLink R_R 37 "CraigBench$Reader" "token" "I" ∈ gw_tbl := gw_mem 170 (by decide +kernel) (by decide)
theorem wm_171 : Cond.fieldLink R_R 46 "CraigBench$Reader" "tokenPlace" "I" ∈ gw_tbl := gw_mem 171 (by decide +kernel) (by decide)
theorem wm_172 : Cond.fieldLink R_R 74 "CraigBench$Reader" "number" "I" ∈ gw_tbl := gw_mem 172 (by decide +kernel) (by decide)
theorem wm_173 : Cond.fieldLink R_R 34 "CraigBench$Reader" "state" "I" ∈ gw_tbl := gw_mem 173 (by decide +kernel) (by decide)
theorem wm_174 : Cond.fieldLink R_R 115 "CraigBench$Reader" "block" "I" ∈ gw_tbl := gw_mem 174 (by decide +kernel) (by decide)
theorem wm_175 : Cond.fieldLink R_R 109 "CraigBench$Reader" "positive" "I" ∈ gw_tbl := gw_mem 175 (by decide +kernel) (by decide)
theorem wm_176 : Cond.fieldLink R_R 112 "CraigBench$Reader" "negative" "I" ∈ gw_tbl := gw_mem 176 (by decide +kernel) (by decide)
theorem wm_177 : Cond.fieldLink R_R 122 "CraigBench$Reader" "left" "I" ∈ gw_tbl := gw_mem 177 (by decide +kernel) (by decide)
theorem wm_178 : Cond.fieldLink R_R 125 "CraigBench$Reader" "right" "I" ∈ gw_tbl := gw_mem 178 (by decide +kernel) (by decide)
theorem wm_179 : Cond.fieldLink R_R 128 "CraigBench$Reader" "pivot" "I" ∈ gw_tbl := gw_mem 179 (by decide +kernel) (by decide)
theorem wm_211 : Cond.classLink R_B 32 R_L ∈ gw_tbl := gw_mem 211 (by decide +kernel) (by decide)
theorem wm_212 : Cond.instantiable R_L 1 ∈ gw_tbl := gw_mem 212 (by decide +kernel) (by decide)
theorem wm_213 : Cond.methodLink R_B 34 y_L_init ∈ gw_tbl := gw_mem 213 (by decide +kernel) (by decide)
theorem wm_214 : Cond.instanceMethod y_L_init ∈ gw_tbl := gw_mem 214 (by decide +kernel) (by decide)
theorem wm_215 : Cond.code y_L_init b_L_init 1 none ∈ gw_tbl := gw_mem 215 (by decide +kernel) (by decide)
theorem wm_216 : Cond.methodLink R_L 3 objectInit ∈ gw_tbl := gw_mem 216 (by decide +kernel) (by decide)
theorem wm_217 : Cond.methodLink R_L 15 y_J_fillI ∈ gw_tbl := gw_mem 217 (by decide +kernel) (by decide)
theorem wm_218 : Cond.static y_J_fillI ∈ gw_tbl := gw_mem 218 (by decide +kernel) (by decide)
theorem wm_219 : Cond.code y_J_fillI b_J_fillI 4 none ∈ gw_tbl := gw_mem 219 (by decide +kernel) (by decide)
theorem wm_220 : Cond.fieldLink R_L 9 "CraigBench$Labels" "of" "[I" ∈ gw_tbl := gw_mem 220 (by decide +kernel) (by decide)
theorem wm_224 : Cond.classLink R_B 39 R_F ∈ gw_tbl := gw_mem 224 (by decide +kernel) (by decide)
theorem wm_225 : Cond.instantiable R_F 6 ∈ gw_tbl := gw_mem 225 (by decide +kernel) (by decide)
theorem wm_226 : Cond.methodLink R_B 41 y_F_init ∈ gw_tbl := gw_mem 226 (by decide +kernel) (by decide)
theorem wm_227 : Cond.instanceMethod y_F_init ∈ gw_tbl := gw_mem 227 (by decide +kernel) (by decide)
theorem wm_228 : Cond.code y_F_init b_F_init 3 none ∈ gw_tbl := gw_mem 228 (by decide +kernel) (by decide)
theorem wm_229 : Cond.methodLink R_F 3 objectInit ∈ gw_tbl := gw_mem 229 (by decide +kernel) (by decide)
theorem wm_230 : Cond.fieldLink R_F 15 "CraigBench$Formulas" "clauses" "LCraigBench$Clauses;" ∈ gw_tbl := gw_mem 230 (by decide +kernel) (by decide)
theorem wm_231 : Cond.fieldLink R_F 19 "CraigBench$Formulas" "labels" "LCraigBench$Labels;" ∈ gw_tbl := gw_mem 231 (by decide +kernel) (by decide)
theorem wm_232 : Cond.fieldLink R_F 9 "CraigBench$Formulas" "row" "[J" ∈ gw_tbl := gw_mem 232 (by decide +kernel) (by decide)
theorem wm_233 : Cond.fieldLinkNest R_A 44 "CraigBench$Formulas" "row" "[J" "CraigBench" ∈ nw_tbl := nw_mem 233 (by decide +kernel) (by decide)
theorem wm_234 : Cond.fieldLink R_F 29 "CraigBench$Formulas" "cut" "I" ∈ gw_tbl := gw_mem 234 (by decide +kernel) (by decide)
theorem wm_235 : Cond.fieldLink R_F 36 "CraigBench$Formulas" "labelledA" "I" ∈ gw_tbl := gw_mem 235 (by decide +kernel) (by decide)
theorem wm_236 : Cond.fieldLink R_F 39 "CraigBench$Formulas" "labelledB" "I" ∈ gw_tbl := gw_mem 236 (by decide +kernel) (by decide)
theorem wm_250 : Cond.arrayClass .long ∈ gw_tbl := gw_mem 250 (by decide +kernel) (by decide)
theorem wm_251 : Cond.classLink R_B 48 R_A ∈ gw_tbl := gw_mem 251 (by decide +kernel) (by decide)
theorem wm_252 : Cond.instantiable R_A 4 ∈ gw_tbl := gw_mem 252 (by decide +kernel) (by decide)
theorem wm_253 : Cond.methodLinkNest R_B 50 y_A_init "CraigBench" ∈ nw_tbl := nw_mem 253 (by decide +kernel) (by decide)
theorem wm_254 : Cond.instanceMethod y_A_init ∈ gw_tbl := gw_mem 254 (by decide +kernel) (by decide)
theorem wm_255 : Cond.code y_A_init b_A_init 1 none ∈ gw_tbl := gw_mem 255 (by decide +kernel) (by decide)
theorem wm_256 : Cond.methodLink R_A 3 objectInit ∈ gw_tbl := gw_mem 256 (by decide +kernel) (by decide)
theorem wm_257 : Cond.classLink R_A 19 R_G ∈ gw_tbl := gw_mem 257 (by decide +kernel) (by decide)
theorem wm_258 : Cond.instantiable R_G 8 ∈ gw_tbl := gw_mem 258 (by decide +kernel) (by decide)
theorem wm_259 : Cond.methodLinkNest R_A 21 y_G_init "CraigBench" ∈ nw_tbl := nw_mem 259 (by decide +kernel) (by decide)
theorem wm_260 : Cond.instanceMethod y_G_init ∈ gw_tbl := gw_mem 260 (by decide +kernel) (by decide)
theorem wm_261 : Cond.code y_G_init b_G_init 1 none ∈ gw_tbl := gw_mem 261 (by decide +kernel) (by decide)
theorem wm_262 : Cond.methodLink R_G 3 objectInit ∈ gw_tbl := gw_mem 262 (by decide +kernel) (by decide)
theorem wm_263 : Cond.fieldLink R_G 11 "CraigBench$Graph" "variable" "[I" ∈ gw_tbl := gw_mem 263 (by decide +kernel) (by decide)
theorem wm_264 : Cond.fieldLink R_G 15 "CraigBench$Graph" "low" "[I" ∈ gw_tbl := gw_mem 264 (by decide +kernel) (by decide)
theorem wm_265 : Cond.fieldLink R_G 18 "CraigBench$Graph" "high" "[I" ∈ gw_tbl := gw_mem 265 (by decide +kernel) (by decide)
theorem wm_266 : Cond.fieldLink R_G 21 "CraigBench$Graph" "numberOf" "[I" ∈ gw_tbl := gw_mem 266 (by decide +kernel) (by decide)
theorem wm_267 : Cond.fieldLink R_G 24 "CraigBench$Graph" "nodeOf" "[I" ∈ gw_tbl := gw_mem 267 (by decide +kernel) (by decide)
theorem wm_268 : Cond.fieldLink R_G 27 "CraigBench$Graph" "sides" "[I" ∈ gw_tbl := gw_mem 268 (by decide +kernel) (by decide)
theorem wm_269 : Cond.fieldLink R_G 30 "CraigBench$Graph" "waiting" "[I" ∈ gw_tbl := gw_mem 269 (by decide +kernel) (by decide)
theorem wm_270 : Cond.fieldLink R_G 33 "CraigBench$Graph" "size" "I" ∈ gw_tbl := gw_mem 270 (by decide +kernel) (by decide)
theorem wm_271 : Cond.fieldLinkNest R_B 151 "CraigBench$Graph" "size" "I" "CraigBench" ∈ nw_tbl := nw_mem 271 (by decide +kernel) (by decide)
theorem wm_289 : Cond.fieldLink R_A 9 "CraigBench$Answer" "words" "[J" ∈ gw_tbl := gw_mem 289 (by decide +kernel) (by decide)
theorem wm_290 : Cond.fieldLink R_A 15 "CraigBench$Answer" "known" "[Z" ∈ gw_tbl := gw_mem 290 (by decide +kernel) (by decide)
theorem wm_291 : Cond.fieldLink R_A 22 "CraigBench$Answer" "graph" "LCraigBench$Graph;" ∈ gw_tbl := gw_mem 291 (by decide +kernel) (by decide)
theorem wm_292 : Cond.fieldLinkNest R_B 147 "CraigBench$Answer" "graph" "LCraigBench$Graph;" "CraigBench" ∈ nw_tbl := nw_mem 292 (by decide +kernel) (by decide)
theorem wm_293 : Cond.fieldLink R_A 32 "CraigBench$Answer" "root" "I" ∈ gw_tbl := gw_mem 293 (by decide +kernel) (by decide)
theorem wm_294 : Cond.fieldLinkNest R_B 154 "CraigBench$Answer" "root" "I" "CraigBench" ∈ nw_tbl := nw_mem 294 (by decide +kernel) (by decide)
theorem wm_304 : Cond.fieldLink R_B 12 "CraigBench" "tape" "LCraigBench$Tape;" ∈ gw_tbl := gw_mem 304 (by decide +kernel) (by decide)
theorem wm_305 : Cond.fieldLink R_B 19 "CraigBench" "clauses" "LCraigBench$Clauses;" ∈ gw_tbl := gw_mem 305 (by decide +kernel) (by decide)
theorem wm_306 : Cond.fieldLink R_B 28 "CraigBench" "reader" "LCraigBench$Reader;" ∈ gw_tbl := gw_mem 306 (by decide +kernel) (by decide)
theorem wm_307 : Cond.fieldLink R_B 35 "CraigBench" "labels" "LCraigBench$Labels;" ∈ gw_tbl := gw_mem 307 (by decide +kernel) (by decide)
theorem wm_308 : Cond.fieldLink R_B 44 "CraigBench" "formulas" "LCraigBench$Formulas;" ∈ gw_tbl := gw_mem 308 (by decide +kernel) (by decide)
theorem wm_309 : Cond.fieldLink R_B 51 "CraigBench" "answer" "LCraigBench$Answer;" ∈ gw_tbl := gw_mem 309 (by decide +kernel) (by decide)
theorem wm_310 : Cond.fieldLink R_B 55 "CraigBench" "table" "[J" ∈ gw_tbl := gw_mem 310 (by decide +kernel) (by decide)
theorem wm_311 : Cond.fieldLink R_B 59 "CraigBench" "nextTable" "[J" ∈ gw_tbl := gw_mem 311 (by decide +kernel) (by decide)
theorem wm_329 : Cond.methodLink R_W 13 y_B_feed ∈ gw_tbl := gw_mem 329 (by decide +kernel) (by decide)
theorem wm_330 : Cond.instanceMethod y_B_feed ∈ gw_tbl := gw_mem 330 (by decide +kernel) (by decide)
theorem wm_331 : Cond.selects R_B y_B_feed y_B_feed ∈ gw_tbl := gw_mem 331 (by decide +kernel) (by decide)
theorem wm_332 : Cond.code y_B_feed b_B_feed 6 (some .int) ∈ gw_tbl := gw_mem 332 (by decide +kernel) (by decide)
theorem wm_333 : Cond.methodLink R_B 66 y_T_append ∈ gw_tbl := gw_mem 333 (by decide +kernel) (by decide)
theorem wm_334 : Cond.instanceMethod y_T_append ∈ gw_tbl := gw_mem 334 (by decide +kernel) (by decide)
theorem wm_335 : Cond.selects R_T y_T_append y_T_append ∈ gw_tbl := gw_mem 335 (by decide +kernel) (by decide)
theorem wm_336 : Cond.code y_T_append b_T_append 3 none ∈ gw_tbl := gw_mem 336 (by decide +kernel) (by decide)
theorem wm_337 : Cond.methodLink R_W 18 y_B_end_ ∈ gw_tbl := gw_mem 337 (by decide +kernel) (by decide)
theorem wm_338 : Cond.instanceMethod y_B_end_ ∈ gw_tbl := gw_mem 338 (by decide +kernel) (by decide)
theorem wm_339 : Cond.selects R_B y_B_end_ y_B_end_ ∈ gw_tbl := gw_mem 339 (by decide +kernel) (by decide)
theorem wm_340 : Cond.code y_B_end_ b_B_end_ 2 (some .int) ∈ gw_tbl := gw_mem 340 (by decide +kernel) (by decide)
theorem wm_341 : Cond.methodLink R_W 23 y_B_read ∈ gw_tbl := gw_mem 341 (by decide +kernel) (by decide)
theorem wm_342 : Cond.instanceMethod y_B_read ∈ gw_tbl := gw_mem 342 (by decide +kernel) (by decide)
theorem wm_343 : Cond.selects R_B y_B_read y_B_read ∈ gw_tbl := gw_mem 343 (by decide +kernel) (by decide)
theorem wm_344 : Cond.code y_B_read b_B_read 1 (some .int) ∈ gw_tbl := gw_mem 344 (by decide +kernel) (by decide)
theorem wm_345 : Cond.methodLink R_B 70 y_R_readText ∈ gw_tbl := gw_mem 345 (by decide +kernel) (by decide)
theorem wm_346 : Cond.instanceMethod y_R_readText ∈ gw_tbl := gw_mem 346 (by decide +kernel) (by decide)
theorem wm_347 : Cond.selects R_R y_R_readText y_R_readText ∈ gw_tbl := gw_mem 347 (by decide +kernel) (by decide)
theorem wm_348 : Cond.code y_R_readText b_R_readText 2 none ∈ gw_tbl := gw_mem 348 (by decide +kernel) (by decide)
theorem wm_349 : Cond.methodLink R_R 23 y_C_startDraft ∈ gw_tbl := gw_mem 349 (by decide +kernel) (by decide)
theorem wm_350 : Cond.instanceMethod y_C_startDraft ∈ gw_tbl := gw_mem 350 (by decide +kernel) (by decide)
theorem wm_351 : Cond.selects R_C y_C_startDraft y_C_startDraft ∈ gw_tbl := gw_mem 351 (by decide +kernel) (by decide)
theorem wm_352 : Cond.code y_C_startDraft b_C_startDraft 1 none ∈ gw_tbl := gw_mem 352 (by decide +kernel) (by decide)
theorem wm_353 : Cond.methodLink R_R 40 y_R_nextToken ∈ gw_tbl := gw_mem 353 (by decide +kernel) (by decide)
theorem wm_355 : Cond.instanceMethod y_R_nextToken ∈ gw_tbl := gw_mem 355 (by decide +kernel) (by decide)
theorem wm_356 : Cond.code y_R_nextToken b_R_nextToken 2 none ∈ gw_tbl := gw_mem 356 (by decide +kernel) (by decide)
theorem wm_357 : Cond.methodLink R_R 49 y_R_skipBlanks ∈ gw_tbl := gw_mem 357 (by decide +kernel) (by decide)
theorem wm_359 : Cond.instanceMethod y_R_skipBlanks ∈ gw_tbl := gw_mem 359 (by decide +kernel) (by decide)
theorem wm_360 : Cond.code y_R_skipBlanks b_R_skipBlanks 1 none ∈ gw_tbl := gw_mem 360 (by decide +kernel) (by decide)
theorem wm_361 : Cond.methodLink R_R 52 y_T_byteAt ∈ gw_tbl := gw_mem 361 (by decide +kernel) (by decide)
theorem wm_362 : Cond.instanceMethod y_T_byteAt ∈ gw_tbl := gw_mem 362 (by decide +kernel) (by decide)
theorem wm_363 : Cond.selects R_T y_T_byteAt y_T_byteAt ∈ gw_tbl := gw_mem 363 (by decide +kernel) (by decide)
theorem wm_364 : Cond.code y_T_byteAt b_T_byteAt 2 (some .int) ∈ gw_tbl := gw_mem 364 (by decide +kernel) (by decide)
theorem wm_365 : Cond.methodLink R_R 71 y_R_isBlank ∈ gw_tbl := gw_mem 365 (by decide +kernel) (by decide)
theorem wm_366 : Cond.static y_R_isBlank ∈ gw_tbl := gw_mem 366 (by decide +kernel) (by decide)
theorem wm_367 : Cond.code y_R_isBlank b_R_isBlank 1 (some .boolean) ∈ gw_tbl := gw_mem 367 (by decide +kernel) (by decide)
theorem wm_368 : Cond.methodLink R_R 58 y_R_isDigit ∈ gw_tbl := gw_mem 368 (by decide +kernel) (by decide)
theorem wm_369 : Cond.static y_R_isDigit ∈ gw_tbl := gw_mem 369 (by decide +kernel) (by decide)
theorem wm_370 : Cond.code y_R_isDigit b_R_isDigit 1 (some .boolean) ∈ gw_tbl := gw_mem 370 (by decide +kernel) (by decide)
theorem wm_371 : Cond.methodLink R_R 62 y_R_takeDigits ∈ gw_tbl := gw_mem 371 (by decide +kernel) (by decide)
theorem wm_373 : Cond.instanceMethod y_R_takeDigits ∈ gw_tbl := gw_mem 373 (by decide +kernel) (by decide)
theorem wm_374 : Cond.code y_R_takeDigits b_R_takeDigits 1 none ∈ gw_tbl := gw_mem 374 (by decide +kernel) (by decide)
theorem wm_375 : Cond.methodLink R_R 65 y_R_isSign ∈ gw_tbl := gw_mem 375 (by decide +kernel) (by decide)
theorem wm_376 : Cond.static y_R_isSign ∈ gw_tbl := gw_mem 376 (by decide +kernel) (by decide)
theorem wm_377 : Cond.code y_R_isSign b_R_isSign 1 (some .boolean) ∈ gw_tbl := gw_mem 377 (by decide +kernel) (by decide)
theorem wm_378 : Cond.methodLink R_R 43 y_R_takeToken ∈ gw_tbl := gw_mem 378 (by decide +kernel) (by decide)
theorem wm_380 : Cond.instanceMethod y_R_takeToken ∈ gw_tbl := gw_mem 380 (by decide +kernel) (by decide)
theorem wm_381 : Cond.code y_R_takeToken b_R_takeToken 1 none ∈ gw_tbl := gw_mem 381 (by decide +kernel) (by decide)
theorem wm_382 : Cond.methodLink R_R 77 y_R_takeStart ∈ gw_tbl := gw_mem 382 (by decide +kernel) (by decide)
theorem wm_384 : Cond.instanceMethod y_R_takeStart ∈ gw_tbl := gw_mem 384 (by decide +kernel) (by decide)
theorem wm_385 : Cond.code y_R_takeStart b_R_takeStart 1 none ∈ gw_tbl := gw_mem 385 (by decide +kernel) (by decide)
theorem wm_386 : Cond.methodLink R_R 92 y_R_openGiven ∈ gw_tbl := gw_mem 386 (by decide +kernel) (by decide)
theorem wm_388 : Cond.instanceMethod y_R_openGiven ∈ gw_tbl := gw_mem 388 (by decide +kernel) (by decide)
theorem wm_389 : Cond.code y_R_openGiven b_R_openGiven 1 none ∈ gw_tbl := gw_mem 389 (by decide +kernel) (by decide)
theorem wm_390 : Cond.methodLink R_R 102 y_C_hasRoomForGiven ∈ gw_tbl := gw_mem 390 (by decide +kernel) (by decide)
theorem wm_391 : Cond.instanceMethod y_C_hasRoomForGiven ∈ gw_tbl := gw_mem 391 (by decide +kernel) (by decide)
theorem wm_392 : Cond.selects R_C y_C_hasRoomForGiven y_C_hasRoomForGiven ∈ gw_tbl := gw_mem 392 (by decide +kernel) (by decide)
theorem wm_393 : Cond.code y_C_hasRoomForGiven b_C_hasRoomForGiven 1 (some .boolean) ∈ gw_tbl := gw_mem 393 (by decide +kernel) (by decide)
theorem wm_394 : Cond.methodLink R_C 50 y_C_hasRoom ∈ gw_tbl := gw_mem 394 (by decide +kernel) (by decide)
theorem wm_395 : Cond.instanceMethod y_C_hasRoom ∈ gw_tbl := gw_mem 395 (by decide +kernel) (by decide)
theorem wm_396 : Cond.selects R_C y_C_hasRoom y_C_hasRoom ∈ gw_tbl := gw_mem 396 (by decide +kernel) (by decide)
theorem wm_397 : Cond.code y_C_hasRoom b_C_hasRoom 1 (some .boolean) ∈ gw_tbl := gw_mem 397 (by decide +kernel) (by decide)
theorem wm_398 : Cond.methodLink R_R 98 y_R_fail ∈ gw_tbl := gw_mem 398 (by decide +kernel) (by decide)
theorem wm_400 : Cond.instanceMethod y_R_fail ∈ gw_tbl := gw_mem 400 (by decide +kernel) (by decide)
theorem wm_401 : Cond.code y_R_fail b_R_fail 2 none ∈ gw_tbl := gw_mem 401 (by decide +kernel) (by decide)
theorem wm_402 : Cond.methodLink R_R 95 y_R_openResolvent ∈ gw_tbl := gw_mem 402 (by decide +kernel) (by decide)
theorem wm_404 : Cond.instanceMethod y_R_openResolvent ∈ gw_tbl := gw_mem 404 (by decide +kernel) (by decide)
theorem wm_405 : Cond.code y_R_openResolvent b_R_openResolvent 1 none ∈ gw_tbl := gw_mem 405 (by decide +kernel) (by decide)
theorem wm_406 : Cond.methodLink R_R 106 y_C_hasRoom ∈ gw_tbl := gw_mem 406 (by decide +kernel) (by decide)
theorem wm_407 : Cond.methodLink R_R 80 y_R_takeColon ∈ gw_tbl := gw_mem 407 (by decide +kernel) (by decide)
theorem wm_409 : Cond.instanceMethod y_R_takeColon ∈ gw_tbl := gw_mem 409 (by decide +kernel) (by decide)
theorem wm_410 : Cond.code y_R_takeColon b_R_takeColon 1 none ∈ gw_tbl := gw_mem 410 (by decide +kernel) (by decide)
theorem wm_411 : Cond.methodLink R_R 83 y_R_takeInsideClause ∈ gw_tbl := gw_mem 411 (by decide +kernel) (by decide)
theorem wm_413 : Cond.instanceMethod y_R_takeInsideClause ∈ gw_tbl := gw_mem 413 (by decide +kernel) (by decide)
theorem wm_414 : Cond.code y_R_takeInsideClause b_R_takeInsideClause 1 none ∈ gw_tbl := gw_mem 414 (by decide +kernel) (by decide)
theorem wm_415 : Cond.methodLink R_R 118 y_C_draftGiven ∈ gw_tbl := gw_mem 415 (by decide +kernel) (by decide)
theorem wm_416 : Cond.instanceMethod y_C_draftGiven ∈ gw_tbl := gw_mem 416 (by decide +kernel) (by decide)
theorem wm_417 : Cond.selects R_C y_C_draftGiven y_C_draftGiven ∈ gw_tbl := gw_mem 417 (by decide +kernel) (by decide)
theorem wm_418 : Cond.code y_C_draftGiven b_C_draftGiven 4 none ∈ gw_tbl := gw_mem 418 (by decide +kernel) (by decide)
theorem wm_419 : Cond.methodLink R_C 54 y_C_hasRoomForGiven ∈ gw_tbl := gw_mem 419 (by decide +kernel) (by decide)
theorem wm_420 : Cond.methodLink R_C 57 y_C_draft ∈ gw_tbl := gw_mem 420 (by decide +kernel) (by decide)
theorem wm_422 : Cond.instanceMethod y_C_draft ∈ gw_tbl := gw_mem 422 (by decide +kernel) (by decide)
theorem wm_423 : Cond.code y_C_draft b_C_draft 3 none ∈ gw_tbl := gw_mem 423 (by decide +kernel) (by decide)
theorem wm_424 : Cond.methodLink R_R 89 y_R_takeNumber ∈ gw_tbl := gw_mem 424 (by decide +kernel) (by decide)
theorem wm_426 : Cond.instanceMethod y_R_takeNumber ∈ gw_tbl := gw_mem 426 (by decide +kernel) (by decide)
theorem wm_427 : Cond.code y_R_takeNumber b_R_takeNumber 1 none ∈ gw_tbl := gw_mem 427 (by decide +kernel) (by decide)
theorem wm_428 : Cond.methodLink R_R 134 y_R_takeBlock ∈ gw_tbl := gw_mem 428 (by decide +kernel) (by decide)
theorem wm_430 : Cond.instanceMethod y_R_takeBlock ∈ gw_tbl := gw_mem 430 (by decide +kernel) (by decide)
theorem wm_431 : Cond.code y_R_takeBlock b_R_takeBlock 1 none ∈ gw_tbl := gw_mem 431 (by decide +kernel) (by decide)
theorem wm_432 : Cond.methodLink R_R 137 y_R_takeLeft ∈ gw_tbl := gw_mem 432 (by decide +kernel) (by decide)
theorem wm_434 : Cond.instanceMethod y_R_takeLeft ∈ gw_tbl := gw_mem 434 (by decide +kernel) (by decide)
theorem wm_435 : Cond.code y_R_takeLeft b_R_takeLeft 1 none ∈ gw_tbl := gw_mem 435 (by decide +kernel) (by decide)
theorem wm_436 : Cond.methodLink R_R 155 y_C_isDrafted ∈ gw_tbl := gw_mem 436 (by decide +kernel) (by decide)
theorem wm_437 : Cond.instanceMethod y_C_isDrafted ∈ gw_tbl := gw_mem 437 (by decide +kernel) (by decide)
theorem wm_438 : Cond.selects R_C y_C_isDrafted y_C_isDrafted ∈ gw_tbl := gw_mem 438 (by decide +kernel) (by decide)
theorem wm_439 : Cond.code y_C_isDrafted b_C_isDrafted 2 (some .boolean) ∈ gw_tbl := gw_mem 439 (by decide +kernel) (by decide)
theorem wm_440 : Cond.methodLink R_R 140 y_R_takeRight ∈ gw_tbl := gw_mem 440 (by decide +kernel) (by decide)
theorem wm_442 : Cond.instanceMethod y_R_takeRight ∈ gw_tbl := gw_mem 442 (by decide +kernel) (by decide)
theorem wm_443 : Cond.code y_R_takeRight b_R_takeRight 1 none ∈ gw_tbl := gw_mem 443 (by decide +kernel) (by decide)
theorem wm_444 : Cond.methodLink R_R 143 y_R_takePivot ∈ gw_tbl := gw_mem 444 (by decide +kernel) (by decide)
theorem wm_446 : Cond.instanceMethod y_R_takePivot ∈ gw_tbl := gw_mem 446 (by decide +kernel) (by decide)
theorem wm_447 : Cond.code y_R_takePivot b_R_takePivot 1 none ∈ gw_tbl := gw_mem 447 (by decide +kernel) (by decide)
theorem wm_448 : Cond.methodLinkNest R_R 149 y_B_isVariable "CraigBench" ∈ nw_tbl := nw_mem 448 (by decide +kernel) (by decide)
theorem wm_449 : Cond.static y_B_isVariable ∈ gw_tbl := gw_mem 449 (by decide +kernel) (by decide)
theorem wm_450 : Cond.code y_B_isVariable b_B_isVariable 1 (some .boolean) ∈ gw_tbl := gw_mem 450 (by decide +kernel) (by decide)
theorem wm_451 : Cond.methodLink R_R 158 y_C_resolves ∈ gw_tbl := gw_mem 451 (by decide +kernel) (by decide)
theorem wm_452 : Cond.instanceMethod y_C_resolves ∈ gw_tbl := gw_mem 452 (by decide +kernel) (by decide)
theorem wm_453 : Cond.selects R_C y_C_resolves y_C_resolves ∈ gw_tbl := gw_mem 453 (by decide +kernel) (by decide)
theorem wm_454 : Cond.code y_C_resolves b_C_resolves 4 (some .boolean) ∈ gw_tbl := gw_mem 454 (by decide +kernel) (by decide)
theorem wm_455 : Cond.methodLinkNest R_C 81 y_B_bitOf "CraigBench" ∈ nw_tbl := nw_mem 455 (by decide +kernel) (by decide)
theorem wm_456 : Cond.static y_B_bitOf ∈ gw_tbl := gw_mem 456 (by decide +kernel) (by decide)
theorem wm_457 : Cond.code y_B_bitOf b_B_bitOf 1 (some .int) ∈ gw_tbl := gw_mem 457 (by decide +kernel) (by decide)
theorem wm_458 : Cond.methodLink R_R 162 y_C_clashes ∈ gw_tbl := gw_mem 458 (by decide +kernel) (by decide)
theorem wm_459 : Cond.instanceMethod y_C_clashes ∈ gw_tbl := gw_mem 459 (by decide +kernel) (by decide)
theorem wm_460 : Cond.selects R_C y_C_clashes y_C_clashes ∈ gw_tbl := gw_mem 460 (by decide +kernel) (by decide)
theorem wm_461 : Cond.code y_C_clashes b_C_clashes 4 (some .boolean) ∈ gw_tbl := gw_mem 461 (by decide +kernel) (by decide)
theorem wm_462 : Cond.methodLink R_C 65 y_C_positiveRest ∈ gw_tbl := gw_mem 462 (by decide +kernel) (by decide)
theorem wm_464 : Cond.instanceMethod y_C_positiveRest ∈ gw_tbl := gw_mem 464 (by decide +kernel) (by decide)
theorem wm_465 : Cond.code y_C_positiveRest b_C_positiveRest 4 (some .int) ∈ gw_tbl := gw_mem 465 (by decide +kernel) (by decide)
theorem wm_466 : Cond.methodLink R_C 69 y_C_negativeRest ∈ gw_tbl := gw_mem 466 (by decide +kernel) (by decide)
theorem wm_468 : Cond.instanceMethod y_C_negativeRest ∈ gw_tbl := gw_mem 468 (by decide +kernel) (by decide)
theorem wm_469 : Cond.code y_C_negativeRest b_C_negativeRest 4 (some .int) ∈ gw_tbl := gw_mem 469 (by decide +kernel) (by decide)
theorem wm_470 : Cond.methodLink R_R 146 y_R_takeLiteral ∈ gw_tbl := gw_mem 470 (by decide +kernel) (by decide)
theorem wm_472 : Cond.instanceMethod y_R_takeLiteral ∈ gw_tbl := gw_mem 472 (by decide +kernel) (by decide)
theorem wm_473 : Cond.code y_R_takeLiteral b_R_takeLiteral 2 none ∈ gw_tbl := gw_mem 473 (by decide +kernel) (by decide)
theorem wm_474 : Cond.methodLinkNest R_R 152 y_B_bitOf "CraigBench" ∈ nw_tbl := nw_mem 474 (by decide +kernel) (by decide)
theorem wm_475 : Cond.methodLink R_R 86 y_R_takeClose ∈ gw_tbl := gw_mem 475 (by decide +kernel) (by decide)
theorem wm_477 : Cond.instanceMethod y_R_takeClose ∈ gw_tbl := gw_mem 477 (by decide +kernel) (by decide)
theorem wm_478 : Cond.code y_R_takeClose b_R_takeClose 1 none ∈ gw_tbl := gw_mem 478 (by decide +kernel) (by decide)
theorem wm_479 : Cond.methodLink R_R 131 y_C_draftResolvent ∈ gw_tbl := gw_mem 479 (by decide +kernel) (by decide)
theorem wm_480 : Cond.instanceMethod y_C_draftResolvent ∈ gw_tbl := gw_mem 480 (by decide +kernel) (by decide)
theorem wm_481 : Cond.selects R_C y_C_draftResolvent y_C_draftResolvent ∈ gw_tbl := gw_mem 481 (by decide +kernel) (by decide)
theorem wm_482 : Cond.code y_C_draftResolvent b_C_draftResolvent 4 none ∈ gw_tbl := gw_mem 482 (by decide +kernel) (by decide)
theorem wm_483 : Cond.methodLink R_C 61 y_C_isDrafted ∈ gw_tbl := gw_mem 483 (by decide +kernel) (by decide)
theorem wm_484 : Cond.methodLink R_B 76 y_C_keepDraft ∈ gw_tbl := gw_mem 484 (by decide +kernel) (by decide)
theorem wm_485 : Cond.instanceMethod y_C_keepDraft ∈ gw_tbl := gw_mem 485 (by decide +kernel) (by decide)
theorem wm_486 : Cond.selects R_C y_C_keepDraft y_C_keepDraft ∈ gw_tbl := gw_mem 486 (by decide +kernel) (by decide)
theorem wm_487 : Cond.code y_C_keepDraft b_C_keepDraft 2 (some .int) ∈ gw_tbl := gw_mem 487 (by decide +kernel) (by decide)
theorem wm_488 : Cond.methodLink R_C 72 y_C_findEmpty ∈ gw_tbl := gw_mem 488 (by decide +kernel) (by decide)
theorem wm_490 : Cond.instanceMethod y_C_findEmpty ∈ gw_tbl := gw_mem 490 (by decide +kernel) (by decide)
theorem wm_491 : Cond.code y_C_findEmpty b_C_findEmpty 2 none ∈ gw_tbl := gw_mem 491 (by decide +kernel) (by decide)
theorem wm_492 : Cond.methodLink R_C 75 y_C_markNeeded ∈ gw_tbl := gw_mem 492 (by decide +kernel) (by decide)
theorem wm_494 : Cond.instanceMethod y_C_markNeeded ∈ gw_tbl := gw_mem 494 (by decide +kernel) (by decide)
theorem wm_495 : Cond.code y_C_markNeeded b_C_markNeeded 2 none ∈ gw_tbl := gw_mem 495 (by decide +kernel) (by decide)
theorem wm_496 : Cond.methodLink R_W 28 y_B_fault ∈ gw_tbl := gw_mem 496 (by decide +kernel) (by decide)
theorem wm_497 : Cond.instanceMethod y_B_fault ∈ gw_tbl := gw_mem 497 (by decide +kernel) (by decide)
theorem wm_498 : Cond.selects R_B y_B_fault y_B_fault ∈ gw_tbl := gw_mem 498 (by decide +kernel) (by decide)
theorem wm_499 : Cond.code y_B_fault b_B_fault 2 (some .int) ∈ gw_tbl := gw_mem 499 (by decide +kernel) (by decide)
theorem wm_500 : Cond.methodLink R_W 32 y_B_clear ∈ gw_tbl := gw_mem 500 (by decide +kernel) (by decide)
theorem wm_501 : Cond.instanceMethod y_B_clear ∈ gw_tbl := gw_mem 501 (by decide +kernel) (by decide)
theorem wm_502 : Cond.selects R_B y_B_clear y_B_clear ∈ gw_tbl := gw_mem 502 (by decide +kernel) (by decide)
theorem wm_503 : Cond.code y_B_clear b_B_clear 2 (some .int) ∈ gw_tbl := gw_mem 503 (by decide +kernel) (by decide)
theorem wm_504 : Cond.methodLink R_B 86 y_C_removeAll ∈ gw_tbl := gw_mem 504 (by decide +kernel) (by decide)
theorem wm_505 : Cond.instanceMethod y_C_removeAll ∈ gw_tbl := gw_mem 505 (by decide +kernel) (by decide)
theorem wm_506 : Cond.selects R_C y_C_removeAll y_C_removeAll ∈ gw_tbl := gw_mem 506 (by decide +kernel) (by decide)
theorem wm_507 : Cond.code y_C_removeAll b_C_removeAll 1 none ∈ gw_tbl := gw_mem 507 (by decide +kernel) (by decide)
theorem wm_508 : Cond.methodLink R_B 89 y_L_reset ∈ gw_tbl := gw_mem 508 (by decide +kernel) (by decide)
theorem wm_509 : Cond.instanceMethod y_L_reset ∈ gw_tbl := gw_mem 509 (by decide +kernel) (by decide)
theorem wm_510 : Cond.selects R_L y_L_reset y_L_reset ∈ gw_tbl := gw_mem 510 (by decide +kernel) (by decide)
theorem wm_511 : Cond.code y_L_reset b_L_reset 1 none ∈ gw_tbl := gw_mem 511 (by decide +kernel) (by decide)
theorem wm_512 : Cond.methodLink R_W 36 y_B_clause ∈ gw_tbl := gw_mem 512 (by decide +kernel) (by decide)
theorem wm_513 : Cond.instanceMethod y_B_clause ∈ gw_tbl := gw_mem 513 (by decide +kernel) (by decide)
theorem wm_514 : Cond.selects R_B y_B_clause y_B_clause ∈ gw_tbl := gw_mem 514 (by decide +kernel) (by decide)
theorem wm_515 : Cond.code y_B_clause b_B_clause 3 (some .int) ∈ gw_tbl := gw_mem 515 (by decide +kernel) (by decide)
theorem wm_516 : Cond.methodLink R_W 41 y_B_refutation ∈ gw_tbl := gw_mem 516 (by decide +kernel) (by decide)
theorem wm_517 : Cond.instanceMethod y_B_refutation ∈ gw_tbl := gw_mem 517 (by decide +kernel) (by decide)
theorem wm_518 : Cond.selects R_B y_B_refutation y_B_refutation ∈ gw_tbl := gw_mem 518 (by decide +kernel) (by decide)
theorem wm_519 : Cond.code y_B_refutation b_B_refutation 1 (some .int) ∈ gw_tbl := gw_mem 519 (by decide +kernel) (by decide)
theorem wm_520 : Cond.methodLink R_W 45 y_B_eliminate ∈ gw_tbl := gw_mem 520 (by decide +kernel) (by decide)
theorem wm_521 : Cond.instanceMethod y_B_eliminate ∈ gw_tbl := gw_mem 521 (by decide +kernel) (by decide)
theorem wm_522 : Cond.selects R_B y_B_eliminate y_B_eliminate ∈ gw_tbl := gw_mem 522 (by decide +kernel) (by decide)
theorem wm_523 : Cond.code y_B_eliminate b_B_eliminate 2 (some .int) ∈ gw_tbl := gw_mem 523 (by decide +kernel) (by decide)
theorem wm_524 : Cond.methodLink R_B 118 y_B_isVariable ∈ gw_tbl := gw_mem 524 (by decide +kernel) (by decide)
theorem wm_525 : Cond.methodLink R_B 122 y_C_resolveAway ∈ gw_tbl := gw_mem 525 (by decide +kernel) (by decide)
theorem wm_526 : Cond.instanceMethod y_C_resolveAway ∈ gw_tbl := gw_mem 526 (by decide +kernel) (by decide)
theorem wm_527 : Cond.selects R_C y_C_resolveAway y_C_resolveAway ∈ gw_tbl := gw_mem 527 (by decide +kernel) (by decide)
theorem wm_528 : Cond.code y_C_resolveAway b_C_resolveAway 4 (some .int) ∈ gw_tbl := gw_mem 528 (by decide +kernel) (by decide)
theorem wm_529 : Cond.methodLink R_C 85 y_C_startDraft ∈ gw_tbl := gw_mem 529 (by decide +kernel) (by decide)
theorem wm_530 : Cond.methodLink R_C 88 y_C_resolves ∈ gw_tbl := gw_mem 530 (by decide +kernel) (by decide)
theorem wm_531 : Cond.methodLink R_C 92 y_C_isNews ∈ gw_tbl := gw_mem 531 (by decide +kernel) (by decide)
theorem wm_533 : Cond.instanceMethod y_C_isNews ∈ gw_tbl := gw_mem 533 (by decide +kernel) (by decide)
theorem wm_534 : Cond.code y_C_isNews b_C_isNews 7 (some .boolean) ∈ gw_tbl := gw_mem 534 (by decide +kernel) (by decide)
theorem wm_535 : Cond.methodLink R_C 107 y_C_clashes ∈ gw_tbl := gw_mem 535 (by decide +kernel) (by decide)
theorem wm_536 : Cond.methodLink R_C 95 y_C_draftResolvent ∈ gw_tbl := gw_mem 536 (by decide +kernel) (by decide)
theorem wm_537 : Cond.methodLink R_C 99 y_C_retire ∈ gw_tbl := gw_mem 537 (by decide +kernel) (by decide)
theorem wm_539 : Cond.instanceMethod y_C_retire ∈ gw_tbl := gw_mem 539 (by decide +kernel) (by decide)
theorem wm_540 : Cond.code y_C_retire b_C_retire 3 none ∈ gw_tbl := gw_mem 540 (by decide +kernel) (by decide)
theorem wm_541 : Cond.methodLink R_C 103 y_C_keepDraft ∈ gw_tbl := gw_mem 541 (by decide +kernel) (by decide)
theorem wm_542 : Cond.methodLink R_W 49 y_B_label ∈ gw_tbl := gw_mem 542 (by decide +kernel) (by decide)
theorem wm_543 : Cond.instanceMethod y_B_label ∈ gw_tbl := gw_mem 543 (by decide +kernel) (by decide)
theorem wm_544 : Cond.selects R_B y_B_label y_B_label ∈ gw_tbl := gw_mem 544 (by decide +kernel) (by decide)
theorem wm_545 : Cond.code y_B_label b_B_label 3 (some .int) ∈ gw_tbl := gw_mem 545 (by decide +kernel) (by decide)
theorem wm_546 : Cond.methodLink R_B 126 y_L_exchange ∈ gw_tbl := gw_mem 546 (by decide +kernel) (by decide)
theorem wm_547 : Cond.instanceMethod y_L_exchange ∈ gw_tbl := gw_mem 547 (by decide +kernel) (by decide)
theorem wm_548 : Cond.selects R_L y_L_exchange y_L_exchange ∈ gw_tbl := gw_mem 548 (by decide +kernel) (by decide)
theorem wm_549 : Cond.code y_L_exchange b_L_exchange 4 (some .int) ∈ gw_tbl := gw_mem 549 (by decide +kernel) (by decide)
theorem wm_550 : Cond.methodLink R_W 53 y_B_variables ∈ gw_tbl := gw_mem 550 (by decide +kernel) (by decide)
theorem wm_551 : Cond.instanceMethod y_B_variables ∈ gw_tbl := gw_mem 551 (by decide +kernel) (by decide)
theorem wm_552 : Cond.selects R_B y_B_variables y_B_variables ∈ gw_tbl := gw_mem 552 (by decide +kernel) (by decide)
theorem wm_553 : Cond.code y_B_variables b_B_variables 5 (some .int) ∈ gw_tbl := gw_mem 553 (by decide +kernel) (by decide)
theorem wm_554 : Cond.methodLink R_B 130 y_B_isCut ∈ gw_tbl := gw_mem 554 (by decide +kernel) (by decide)
theorem wm_555 : Cond.static y_B_isCut ∈ gw_tbl := gw_mem 555 (by decide +kernel) (by decide)
theorem wm_556 : Cond.code y_B_isCut b_B_isCut 1 (some .boolean) ∈ gw_tbl := gw_mem 556 (by decide +kernel) (by decide)
theorem wm_557 : Cond.methodLink R_B 133 y_C_occurring ∈ gw_tbl := gw_mem 557 (by decide +kernel) (by decide)
theorem wm_558 : Cond.instanceMethod y_C_occurring ∈ gw_tbl := gw_mem 558 (by decide +kernel) (by decide)
theorem wm_559 : Cond.selects R_C y_C_occurring y_C_occurring ∈ gw_tbl := gw_mem 559 (by decide +kernel) (by decide)
theorem wm_560 : Cond.code y_C_occurring b_C_occurring 5 (some .int) ∈ gw_tbl := gw_mem 560 (by decide +kernel) (by decide)
theorem wm_561 : Cond.methodLink R_C 110 y_C_isGivenOf ∈ gw_tbl := gw_mem 561 (by decide +kernel) (by decide)
theorem wm_563 : Cond.instanceMethod y_C_isGivenOf ∈ gw_tbl := gw_mem 563 (by decide +kernel) (by decide)
theorem wm_564 : Cond.code y_C_isGivenOf b_C_isGivenOf 4 (some .boolean) ∈ gw_tbl := gw_mem 564 (by decide +kernel) (by decide)
theorem wm_565 : Cond.methodLink R_W 57 y_B_interpolate ∈ gw_tbl := gw_mem 565 (by decide +kernel) (by decide)
theorem wm_566 : Cond.instanceMethod y_B_interpolate ∈ gw_tbl := gw_mem 566 (by decide +kernel) (by decide)
theorem wm_567 : Cond.selects R_B y_B_interpolate y_B_interpolate ∈ gw_tbl := gw_mem 567 (by decide +kernel) (by decide)
theorem wm_568 : Cond.code y_B_interpolate b_B_interpolate 3 (some .int) ∈ gw_tbl := gw_mem 568 (by decide +kernel) (by decide)
theorem wm_569 : Cond.methodLink R_B 136 y_B_isSystem ∈ gw_tbl := gw_mem 569 (by decide +kernel) (by decide)
theorem wm_570 : Cond.static y_B_isSystem ∈ gw_tbl := gw_mem 570 (by decide +kernel) (by decide)
theorem wm_571 : Cond.code y_B_isSystem b_B_isSystem 1 (some .boolean) ∈ gw_tbl := gw_mem 571 (by decide +kernel) (by decide)
theorem wm_572 : Cond.methodLink R_B 139 y_F_choose ∈ gw_tbl := gw_mem 572 (by decide +kernel) (by decide)
theorem wm_573 : Cond.instanceMethod y_F_choose ∈ gw_tbl := gw_mem 573 (by decide +kernel) (by decide)
theorem wm_574 : Cond.selects R_F y_F_choose y_F_choose ∈ gw_tbl := gw_mem 574 (by decide +kernel) (by decide)
theorem wm_575 : Cond.code y_F_choose b_F_choose 6 none ∈ gw_tbl := gw_mem 575 (by decide +kernel) (by decide)
theorem wm_576 : Cond.methodLink R_F 23 y_C_occurring ∈ gw_tbl := gw_mem 576 (by decide +kernel) (by decide)
theorem wm_577 : Cond.methodLink R_F 33 y_F_sharedHaving ∈ gw_tbl := gw_mem 577 (by decide +kernel) (by decide)
theorem wm_579 : Cond.instanceMethod y_F_sharedHaving ∈ gw_tbl := gw_mem 579 (by decide +kernel) (by decide)
theorem wm_580 : Cond.code y_F_sharedHaving b_F_sharedHaving 3 (some .int) ∈ gw_tbl := gw_mem 580 (by decide +kernel) (by decide)
theorem wm_581 : Cond.methodLink R_F 42 y_L_having ∈ gw_tbl := gw_mem 581 (by decide +kernel) (by decide)
theorem wm_582 : Cond.instanceMethod y_L_having ∈ gw_tbl := gw_mem 582 (by decide +kernel) (by decide)
theorem wm_583 : Cond.selects R_L y_L_having y_L_having ∈ gw_tbl := gw_mem 583 (by decide +kernel) (by decide)
theorem wm_584 : Cond.code y_L_having b_L_having 4 (some .int) ∈ gw_tbl := gw_mem 584 (by decide +kernel) (by decide)
theorem wm_585 : Cond.methodLinkNest R_L 21 y_B_bitOf "CraigBench" ∈ nw_tbl := nw_mem 585 (by decide +kernel) (by decide)
theorem wm_586 : Cond.methodLink R_B 143 y_A_take ∈ gw_tbl := gw_mem 586 (by decide +kernel) (by decide)
theorem wm_587 : Cond.instanceMethod y_A_take ∈ gw_tbl := gw_mem 587 (by decide +kernel) (by decide)
theorem wm_588 : Cond.selects R_A y_A_take y_A_take ∈ gw_tbl := gw_mem 588 (by decide +kernel) (by decide)
theorem wm_589 : Cond.code y_A_take b_A_take 5 none ∈ gw_tbl := gw_mem 589 (by decide +kernel) (by decide)
theorem wm_590 : Cond.methodLink R_A 38 y_F_workOut ∈ gw_tbl := gw_mem 590 (by decide +kernel) (by decide)
theorem wm_591 : Cond.instanceMethod y_F_workOut ∈ gw_tbl := gw_mem 591 (by decide +kernel) (by decide)
theorem wm_592 : Cond.selects R_F y_F_workOut y_F_workOut ∈ gw_tbl := gw_mem 592 (by decide +kernel) (by decide)
theorem wm_593 : Cond.code y_F_workOut b_F_workOut 3 none ∈ gw_tbl := gw_mem 593 (by decide +kernel) (by decide)
theorem wm_594 : Cond.methodLink R_F 59 y_F_ofResolvent ∈ gw_tbl := gw_mem 594 (by decide +kernel) (by decide)
theorem wm_596 : Cond.instanceMethod y_F_ofResolvent ∈ gw_tbl := gw_mem 596 (by decide +kernel) (by decide)
theorem wm_597 : Cond.code y_F_ofResolvent b_F_ofResolvent 10 (some .long) ∈ gw_tbl := gw_mem 597 (by decide +kernel) (by decide)
theorem wm_598 : Cond.methodLinkNest R_F 89 y_B_bitOf "CraigBench" ∈ nw_tbl := nw_mem 598 (by decide +kernel) (by decide)
theorem wm_599 : Cond.methodLink R_F 92 y_U_ofVariable ∈ gw_tbl := gw_mem 599 (by decide +kernel) (by decide)
theorem wm_600 : Cond.static y_U_ofVariable ∈ gw_tbl := gw_mem 600 (by decide +kernel) (by decide)
theorem wm_601 : Cond.code y_U_ofVariable b_U_ofVariable 2 (some .long) ∈ gw_tbl := gw_mem 601 (by decide +kernel) (by decide)
theorem wm_602 : Cond.fieldLink R_U 11 "CraigBench$Truth" "PATTERNS" "[J" ∈ gw_tbl := gw_mem 602 (by decide +kernel) (by decide)
theorem wm_604 : Cond.constantLong R_U 15 (-1) ∈ gw_tbl := gw_mem 604 (by decide +kernel) (by decide)
theorem wm_605 : Cond.constantLong R_F 78 (-1) ∈ gw_tbl := gw_mem 605 (by decide +kernel) (by decide)
theorem wm_606 : Cond.methodLink R_F 63 y_F_ofGiven ∈ gw_tbl := gw_mem 606 (by decide +kernel) (by decide)
theorem wm_608 : Cond.instanceMethod y_F_ofGiven ∈ gw_tbl := gw_mem 608 (by decide +kernel) (by decide)
theorem wm_609 : Cond.code y_F_ofGiven b_F_ofGiven 5 (some .long) ∈ gw_tbl := gw_mem 609 (by decide +kernel) (by decide)
theorem wm_610 : Cond.methodLink R_F 72 y_U_ofAny ∈ gw_tbl := gw_mem 610 (by decide +kernel) (by decide)
theorem wm_611 : Cond.static y_U_ofAny ∈ gw_tbl := gw_mem 611 (by decide +kernel) (by decide)
theorem wm_612 : Cond.code y_U_ofAny b_U_ofAny 6 (some .long) ∈ gw_tbl := gw_mem 612 (by decide +kernel) (by decide)
theorem wm_613 : Cond.methodLinkNest R_U 17 y_B_bitOf "CraigBench" ∈ nw_tbl := nw_mem 613 (by decide +kernel) (by decide)
theorem wm_614 : Cond.methodLink R_U 21 y_U_ofVariable ∈ gw_tbl := gw_mem 614 (by decide +kernel) (by decide)
theorem wm_615 : Cond.methodLink R_A 47 y_G_build ∈ gw_tbl := gw_mem 615 (by decide +kernel) (by decide)
theorem wm_616 : Cond.instanceMethod y_G_build ∈ gw_tbl := gw_mem 616 (by decide +kernel) (by decide)
theorem wm_617 : Cond.selects R_G y_G_build y_G_build ∈ gw_tbl := gw_mem 617 (by decide +kernel) (by decide)
theorem wm_618 : Cond.code y_G_build b_G_build 6 none ∈ gw_tbl := gw_mem 618 (by decide +kernel) (by decide)
theorem wm_619 : Cond.methodLink R_G 37 y_G_bitAt ∈ gw_tbl := gw_mem 619 (by decide +kernel) (by decide)
theorem wm_620 : Cond.static y_G_bitAt ∈ gw_tbl := gw_mem 620 (by decide +kernel) (by decide)
theorem wm_621 : Cond.code y_G_bitAt b_G_bitAt 4 (some .int) ∈ gw_tbl := gw_mem 621 (by decide +kernel) (by decide)
theorem wm_622 : Cond.methodLinkNest R_G 41 y_B_bitOf "CraigBench" ∈ nw_tbl := nw_mem 622 (by decide +kernel) (by decide)
theorem wm_623 : Cond.methodLink R_G 45 y_G_join ∈ gw_tbl := gw_mem 623 (by decide +kernel) (by decide)
theorem wm_625 : Cond.instanceMethod y_G_join ∈ gw_tbl := gw_mem 625 (by decide +kernel) (by decide)
theorem wm_626 : Cond.code y_G_join b_G_join 6 (some .int) ∈ gw_tbl := gw_mem 626 (by decide +kernel) (by decide)
theorem wm_627 : Cond.methodLink R_G 49 y_G_numberFrom ∈ gw_tbl := gw_mem 627 (by decide +kernel) (by decide)
theorem wm_629 : Cond.instanceMethod y_G_numberFrom ∈ gw_tbl := gw_mem 629 (by decide +kernel) (by decide)
theorem wm_630 : Cond.code y_G_numberFrom b_G_numberFrom 6 none ∈ gw_tbl := gw_mem 630 (by decide +kernel) (by decide)
theorem wm_631 : Cond.methodLink R_W 61 y_B_value ∈ gw_tbl := gw_mem 631 (by decide +kernel) (by decide)
theorem wm_632 : Cond.instanceMethod y_B_value ∈ gw_tbl := gw_mem 632 (by decide +kernel) (by decide)
theorem wm_633 : Cond.selects R_B y_B_value y_B_value ∈ gw_tbl := gw_mem 633 (by decide +kernel) (by decide)
theorem wm_634 : Cond.code y_B_value b_B_value 2 (some .int) ∈ gw_tbl := gw_mem 634 (by decide +kernel) (by decide)
theorem wm_635 : Cond.methodLink R_B 157 y_A_truth ∈ gw_tbl := gw_mem 635 (by decide +kernel) (by decide)
theorem wm_636 : Cond.instanceMethod y_A_truth ∈ gw_tbl := gw_mem 636 (by decide +kernel) (by decide)
theorem wm_637 : Cond.selects R_A y_A_truth y_A_truth ∈ gw_tbl := gw_mem 637 (by decide +kernel) (by decide)
theorem wm_638 : Cond.code y_A_truth b_A_truth 3 (some .int) ∈ gw_tbl := gw_mem 638 (by decide +kernel) (by decide)
theorem wm_639 : Cond.methodLink R_A 51 y_G_bitAt ∈ gw_tbl := gw_mem 639 (by decide +kernel) (by decide)
theorem wm_640 : Cond.methodLink R_W 65 y_B_prt ∈ gw_tbl := gw_mem 640 (by decide +kernel) (by decide)
theorem wm_641 : Cond.instanceMethod y_B_prt ∈ gw_tbl := gw_mem 641 (by decide +kernel) (by decide)
theorem wm_642 : Cond.selects R_B y_B_prt y_B_prt ∈ gw_tbl := gw_mem 642 (by decide +kernel) (by decide)
theorem wm_643 : Cond.code y_B_prt b_B_prt 3 (some .int) ∈ gw_tbl := gw_mem 643 (by decide +kernel) (by decide)
theorem wm_644 : Cond.methodLink R_W 69 y_B_told ∈ gw_tbl := gw_mem 644 (by decide +kernel) (by decide)
theorem wm_645 : Cond.instanceMethod y_B_told ∈ gw_tbl := gw_mem 645 (by decide +kernel) (by decide)
theorem wm_646 : Cond.selects R_B y_B_told y_B_told ∈ gw_tbl := gw_mem 646 (by decide +kernel) (by decide)
theorem wm_647 : Cond.code y_B_told b_B_told 2 (some .int) ∈ gw_tbl := gw_mem 647 (by decide +kernel) (by decide)
theorem wm_648 : Cond.methodLink R_B 160 y_A_trueValuations ∈ gw_tbl := gw_mem 648 (by decide +kernel) (by decide)
theorem wm_649 : Cond.instanceMethod y_A_trueValuations ∈ gw_tbl := gw_mem 649 (by decide +kernel) (by decide)
theorem wm_650 : Cond.selects R_A y_A_trueValuations y_A_trueValuations ∈ gw_tbl := gw_mem 650 (by decide +kernel) (by decide)
theorem wm_651 : Cond.code y_A_trueValuations b_A_trueValuations 3 (some .int) ∈ gw_tbl := gw_mem 651 (by decide +kernel) (by decide)
theorem wm_652 : Cond.methodLink R_A 55 y_K_bitCount ∈ gw_tbl := gw_mem 652 (by decide +kernel) (by decide)
theorem wm_653 : Cond.static y_K_bitCount ∈ gw_tbl := gw_mem 653 (by decide +kernel) (by decide)
theorem wm_654 : Cond.code y_K_bitCount b_K_bitCount 2 (some .int) ∈ gw_tbl := gw_mem 654 (by decide +kernel) (by decide)
theorem wm_655 : Cond.constantLong R_K 314 (6148914691236517205) ∈ gw_tbl := gw_mem 655 (by decide +kernel) (by decide)
theorem wm_656 : Cond.constantLong R_K 316 (3689348814741910323) ∈ gw_tbl := gw_mem 656 (by decide +kernel) (by decide)
theorem wm_657 : Cond.constantLong R_K 318 (1085102592571150095) ∈ gw_tbl := gw_mem 657 (by decide +kernel) (by decide)
theorem wm_658 : Cond.methodLink R_B 163 y_G_support ∈ gw_tbl := gw_mem 658 (by decide +kernel) (by decide)
theorem wm_659 : Cond.instanceMethod y_G_support ∈ gw_tbl := gw_mem 659 (by decide +kernel) (by decide)
theorem wm_660 : Cond.selects R_G y_G_support y_G_support ∈ gw_tbl := gw_mem 660 (by decide +kernel) (by decide)
theorem wm_661 : Cond.code y_G_support b_G_support 3 (some .int) ∈ gw_tbl := gw_mem 661 (by decide +kernel) (by decide)
theorem wm_662 : Cond.methodLink R_W 73 y_B_graph ∈ gw_tbl := gw_mem 662 (by decide +kernel) (by decide)
theorem wm_663 : Cond.instanceMethod y_B_graph ∈ gw_tbl := gw_mem 663 (by decide +kernel) (by decide)
theorem wm_664 : Cond.selects R_B y_B_graph y_B_graph ∈ gw_tbl := gw_mem 664 (by decide +kernel) (by decide)
theorem wm_665 : Cond.code y_B_graph b_B_graph 3 (some .int) ∈ gw_tbl := gw_mem 665 (by decide +kernel) (by decide)
theorem wm_666 : Cond.methodLink R_B 166 y_G_tell ∈ gw_tbl := gw_mem 666 (by decide +kernel) (by decide)
theorem wm_667 : Cond.instanceMethod y_G_tell ∈ gw_tbl := gw_mem 667 (by decide +kernel) (by decide)
theorem wm_668 : Cond.selects R_G y_G_tell y_G_tell ∈ gw_tbl := gw_mem 668 (by decide +kernel) (by decide)
theorem wm_669 : Cond.code y_G_tell b_G_tell 4 (some .int) ∈ gw_tbl := gw_mem 669 (by decide +kernel) (by decide)
theorem wm_670 : Cond.methodLink R_G 53 y_G_sideNumber ∈ gw_tbl := gw_mem 670 (by decide +kernel) (by decide)
theorem wm_672 : Cond.instanceMethod y_G_sideNumber ∈ gw_tbl := gw_mem 672 (by decide +kernel) (by decide)
theorem wm_673 : Cond.code y_G_sideNumber b_G_sideNumber 2 (some .int) ∈ gw_tbl := gw_mem 673 (by decide +kernel) (by decide)
theorem wm_674 : Cond.methodLink R_W 77 y_B_follows ∈ gw_tbl := gw_mem 674 (by decide +kernel) (by decide)
theorem wm_675 : Cond.instanceMethod y_B_follows ∈ gw_tbl := gw_mem 675 (by decide +kernel) (by decide)
theorem wm_676 : Cond.selects R_B y_B_follows y_B_follows ∈ gw_tbl := gw_mem 676 (by decide +kernel) (by decide)
theorem wm_677 : Cond.code y_B_follows b_B_follows 5 (some .int) ∈ gw_tbl := gw_mem 677 (by decide +kernel) (by decide)
theorem wm_678 : Cond.methodLink R_B 169 y_F_interpolant ∈ gw_tbl := gw_mem 678 (by decide +kernel) (by decide)
theorem wm_679 : Cond.instanceMethod y_F_interpolant ∈ gw_tbl := gw_mem 679 (by decide +kernel) (by decide)
theorem wm_680 : Cond.selects R_F y_F_interpolant y_F_interpolant ∈ gw_tbl := gw_mem 680 (by decide +kernel) (by decide)
theorem wm_681 : Cond.code y_F_interpolant b_F_interpolant 5 none ∈ gw_tbl := gw_mem 681 (by decide +kernel) (by decide)
theorem wm_682 : Cond.methodLink R_F 95 y_F_choose ∈ gw_tbl := gw_mem 682 (by decide +kernel) (by decide)
theorem wm_683 : Cond.methodLink R_F 99 y_F_workOut ∈ gw_tbl := gw_mem 683 (by decide +kernel) (by decide)
theorem wm_684 : Cond.constantLong R_B 173 (-1) ∈ gw_tbl := gw_mem 684 (by decide +kernel) (by decide)
theorem wm_685 : Cond.methodLink R_W 82 y_B_gap ∈ gw_tbl := gw_mem 685 (by decide +kernel) (by decide)
theorem wm_686 : Cond.instanceMethod y_B_gap ∈ gw_tbl := gw_mem 686 (by decide +kernel) (by decide)
theorem wm_687 : Cond.selects R_B y_B_gap y_B_gap ∈ gw_tbl := gw_mem 687 (by decide +kernel) (by decide)
theorem wm_688 : Cond.code y_B_gap b_B_gap 6 (some .int) ∈ gw_tbl := gw_mem 688 (by decide +kernel) (by decide)
theorem wm_689 : Cond.methodLink R_B 175 y_B_nextInterpolant ∈ gw_tbl := gw_mem 689 (by decide +kernel) (by decide)
theorem wm_691 : Cond.instanceMethod y_B_nextInterpolant ∈ gw_tbl := gw_mem 691 (by decide +kernel) (by decide)
theorem wm_692 : Cond.code y_B_nextInterpolant b_B_nextInterpolant 3 none ∈ gw_tbl := gw_mem 692 (by decide +kernel) (by decide)
theorem wm_693 : Cond.methodLink R_B 197 y_J_fillL ∈ gw_tbl := gw_mem 693 (by decide +kernel) (by decide)
theorem wm_694 : Cond.static y_J_fillL ∈ gw_tbl := gw_mem 694 (by decide +kernel) (by decide)
theorem wm_695 : Cond.code y_J_fillL b_J_fillL 5 none ∈ gw_tbl := gw_mem 695 (by decide +kernel) (by decide)
theorem wm_696 : Cond.methodLink R_B 178 y_B_gapWord ∈ gw_tbl := gw_mem 696 (by decide +kernel) (by decide)
theorem wm_698 : Cond.instanceMethod y_B_gapWord ∈ gw_tbl := gw_mem 698 (by decide +kernel) (by decide)
theorem wm_699 : Cond.code y_B_gapWord b_B_gapWord 4 (some .long) ∈ gw_tbl := gw_mem 699 (by decide +kernel) (by decide)
theorem wm_700 : Cond.methodLink R_B 203 y_C_allTrue ∈ gw_tbl := gw_mem 700 (by decide +kernel) (by decide)
theorem wm_701 : Cond.instanceMethod y_C_allTrue ∈ gw_tbl := gw_mem 701 (by decide +kernel) (by decide)
theorem wm_702 : Cond.selects R_C y_C_allTrue y_C_allTrue ∈ gw_tbl := gw_mem 702 (by decide +kernel) (by decide)
theorem wm_703 : Cond.code y_C_allTrue b_C_allTrue 7 (some .long) ∈ gw_tbl := gw_mem 703 (by decide +kernel) (by decide)
theorem wm_704 : Cond.constantLong R_C 113 (-1) ∈ gw_tbl := gw_mem 704 (by decide +kernel) (by decide)
theorem wm_705 : Cond.methodLink R_C 115 y_U_ofAny ∈ gw_tbl := gw_mem 705 (by decide +kernel) (by decide)
theorem wm_706 : Cond.methodLink R_B 182 y_K_bitCount ∈ gw_tbl := gw_mem 706 (by decide +kernel) (by decide)
theorem wm_707 : Cond.methodLink R_W 86 y_B_count ∈ gw_tbl := gw_mem 707 (by decide +kernel) (by decide)
theorem wm_708 : Cond.instanceMethod y_B_count ∈ gw_tbl := gw_mem 708 (by decide +kernel) (by decide)
theorem wm_709 : Cond.selects R_B y_B_count y_B_count ∈ gw_tbl := gw_mem 709 (by decide +kernel) (by decide)
theorem wm_710 : Cond.code y_B_count b_B_count 2 (some .int) ∈ gw_tbl := gw_mem 710 (by decide +kernel) (by decide)
theorem wm_711 : Cond.methodLink R_B 191 y_C_liveOnes ∈ gw_tbl := gw_mem 711 (by decide +kernel) (by decide)
theorem wm_712 : Cond.instanceMethod y_C_liveOnes ∈ gw_tbl := gw_mem 712 (by decide +kernel) (by decide)
theorem wm_713 : Cond.selects R_C y_C_liveOnes y_C_liveOnes ∈ gw_tbl := gw_mem 713 (by decide +kernel) (by decide)
theorem wm_714 : Cond.code y_C_liveOnes b_C_liveOnes 3 (some .int) ∈ gw_tbl := gw_mem 714 (by decide +kernel) (by decide)
theorem wm_715 : Cond.methodLink R_B 194 y_C_neededOnes ∈ gw_tbl := gw_mem 715 (by decide +kernel) (by decide)
theorem wm_716 : Cond.instanceMethod y_C_neededOnes ∈ gw_tbl := gw_mem 716 (by decide +kernel) (by decide)
theorem wm_717 : Cond.selects R_C y_C_neededOnes y_C_neededOnes ∈ gw_tbl := gw_mem 717 (by decide +kernel) (by decide)
theorem wm_718 : Cond.code y_C_neededOnes b_C_neededOnes 3 (some .int) ∈ gw_tbl := gw_mem 718 (by decide +kernel) (by decide)
theorem wm_719 : Cond.classLink R_W 10 R_M ∈ gw_tbl := gw_mem 719 (by decide +kernel) (by decide)
theorem wm_720 : Cond.instantiable R_M 34 ∈ gw_tbl := gw_mem 720 (by decide +kernel) (by decide)
theorem wm_721 : Cond.methodLink R_W 12 y_M_init ∈ gw_tbl := gw_mem 721 (by decide +kernel) (by decide)
theorem wm_722 : Cond.instanceMethod y_M_init ∈ gw_tbl := gw_mem 722 (by decide +kernel) (by decide)
theorem wm_723 : Cond.code y_M_init b_M_init 1 none ∈ gw_tbl := gw_mem 723 (by decide +kernel) (by decide)
theorem wm_724 : Cond.methodLink R_M 1 objectInit ∈ gw_tbl := gw_mem 724 (by decide +kernel) (by decide)
theorem wm_725 : Cond.fieldLink R_M 7 "CraigBenchModel" "plain" "[I" ∈ gw_tbl := gw_mem 725 (by decide +kernel) (by decide)
theorem wm_726 : Cond.fieldLink R_M 13 "CraigBenchModel" "minus" "[I" ∈ gw_tbl := gw_mem 726 (by decide +kernel) (by decide)
theorem wm_727 : Cond.fieldLink R_M 16 "CraigBenchModel" "block" "[I" ∈ gw_tbl := gw_mem 727 (by decide +kernel) (by decide)
theorem wm_728 : Cond.fieldLink R_M 19 "CraigBenchModel" "left" "[I" ∈ gw_tbl := gw_mem 728 (by decide +kernel) (by decide)
theorem wm_729 : Cond.fieldLink R_M 22 "CraigBenchModel" "right" "[I" ∈ gw_tbl := gw_mem 729 (by decide +kernel) (by decide)
theorem wm_730 : Cond.fieldLink R_M 25 "CraigBenchModel" "pivot" "[I" ∈ gw_tbl := gw_mem 730 (by decide +kernel) (by decide)
theorem wm_731 : Cond.fieldLink R_M 28 "CraigBenchModel" "live" "[Z" ∈ gw_tbl := gw_mem 731 (by decide +kernel) (by decide)
theorem wm_732 : Cond.fieldLink R_M 32 "CraigBenchModel" "needed" "[Z" ∈ gw_tbl := gw_mem 732 (by decide +kernel) (by decide)
theorem wm_733 : Cond.fieldLink R_M 115 "CraigBenchModel" "clauses" "I" ∈ gw_tbl := gw_mem 733 (by decide +kernel) (by decide)
theorem wm_734 : Cond.fieldLink R_M 118 "CraigBenchModel" "given" "I" ∈ gw_tbl := gw_mem 734 (by decide +kernel) (by decide)
theorem wm_735 : Cond.fieldLink R_M 35 "CraigBenchModel" "end" "I" ∈ gw_tbl := gw_mem 735 (by decide +kernel) (by decide)
theorem wm_736 : Cond.fieldLink R_M 39 "CraigBenchModel" "label" "[I" ∈ gw_tbl := gw_mem 736 (by decide +kernel) (by decide)
theorem wm_737 : Cond.fieldLink R_M 42 "CraigBenchModel" "tape" "[B" ∈ gw_tbl := gw_mem 737 (by decide +kernel) (by decide)
theorem wm_738 : Cond.fieldLink R_M 83 "CraigBenchModel" "taped" "I" ∈ gw_tbl := gw_mem 738 (by decide +kernel) (by decide)
theorem wm_739 : Cond.fieldLink R_M 89 "CraigBenchModel" "size" "I" ∈ gw_tbl := gw_mem 739 (by decide +kernel) (by decide)
theorem wm_740 : Cond.fieldLink R_M 92 "CraigBenchModel" "at" "I" ∈ gw_tbl := gw_mem 740 (by decide +kernel) (by decide)
theorem wm_741 : Cond.fieldLink R_M 86 "CraigBenchModel" "to" "I" ∈ gw_tbl := gw_mem 741 (by decide +kernel) (by decide)
theorem wm_742 : Cond.fieldLink R_M 95 "CraigBenchModel" "sort" "I" ∈ gw_tbl := gw_mem 742 (by decide +kernel) (by decide)
theorem wm_743 : Cond.fieldLink R_M 102 "CraigBenchModel" "worth" "I" ∈ gw_tbl := gw_mem 743 (by decide +kernel) (by decide)
theorem wm_744 : Cond.fieldLink R_M 105 "CraigBenchModel" "faultKind" "I" ∈ gw_tbl := gw_mem 744 (by decide +kernel) (by decide)
theorem wm_745 : Cond.fieldLink R_M 46 "CraigBenchModel" "faultPlace" "I" ∈ gw_tbl := gw_mem 745 (by decide +kernel) (by decide)
theorem wm_746 : Cond.fieldLink R_M 49 "CraigBenchModel" "of" "[J" ∈ gw_tbl := gw_mem 746 (by decide +kernel) (by decide)
theorem wm_747 : Cond.fieldLink R_M 53 "CraigBenchModel" "kept" "[J" ∈ gw_tbl := gw_mem 747 (by decide +kernel) (by decide)
theorem wm_748 : Cond.fieldLink R_M 56 "CraigBenchModel" "had" "[Z" ∈ gw_tbl := gw_mem 748 (by decide +kernel) (by decide)
theorem wm_749 : Cond.fieldLink R_M 59 "CraigBenchModel" "told" "[J" ∈ gw_tbl := gw_mem 749 (by decide +kernel) (by decide)
theorem wm_750 : Cond.fieldLink R_M 200 "CraigBenchModel" "isTold" "Z" ∈ gw_tbl := gw_mem 750 (by decide +kernel) (by decide)
theorem wm_751 : Cond.fieldLink R_M 62 "CraigBenchModel" "first" "[J" ∈ gw_tbl := gw_mem 751 (by decide +kernel) (by decide)
theorem wm_752 : Cond.fieldLink R_M 65 "CraigBenchModel" "second" "[J" ∈ gw_tbl := gw_mem 752 (by decide +kernel) (by decide)
theorem wm_753 : Cond.fieldLink R_M 68 "CraigBenchModel" "node" "[J" ∈ gw_tbl := gw_mem 753 (by decide +kernel) (by decide)
theorem wm_754 : Cond.fieldLink R_M 71 "CraigBenchModel" "nodeVariable" "[I" ∈ gw_tbl := gw_mem 754 (by decide +kernel) (by decide)
theorem wm_755 : Cond.fieldLink R_M 74 "CraigBenchModel" "nodeLow" "[I" ∈ gw_tbl := gw_mem 755 (by decide +kernel) (by decide)
theorem wm_756 : Cond.fieldLink R_M 77 "CraigBenchModel" "nodeHigh" "[I" ∈ gw_tbl := gw_mem 756 (by decide +kernel) (by decide)
theorem wm_757 : Cond.fieldLink R_M 186 "CraigBenchModel" "nodes" "I" ∈ gw_tbl := gw_mem 757 (by decide +kernel) (by decide)
theorem wm_758 : Cond.fieldLink R_M 80 "CraigBenchModel" "wait" "[I" ∈ gw_tbl := gw_mem 758 (by decide +kernel) (by decide)
theorem wm_828 : Cond.methodLink R_W 17 y_M_feed ∈ gw_tbl := gw_mem 828 (by decide +kernel) (by decide)
theorem wm_829 : Cond.instanceMethod y_M_feed ∈ gw_tbl := gw_mem 829 (by decide +kernel) (by decide)
theorem wm_830 : Cond.selects R_M y_M_feed y_M_feed ∈ gw_tbl := gw_mem 830 (by decide +kernel) (by decide)
theorem wm_831 : Cond.code y_M_feed b_M_feed 9 (some .int) ∈ gw_tbl := gw_mem 831 (by decide +kernel) (by decide)
theorem wm_832 : Cond.methodLink R_W 22 y_M_end_ ∈ gw_tbl := gw_mem 832 (by decide +kernel) (by decide)
theorem wm_833 : Cond.instanceMethod y_M_end_ ∈ gw_tbl := gw_mem 833 (by decide +kernel) (by decide)
theorem wm_834 : Cond.selects R_M y_M_end_ y_M_end_ ∈ gw_tbl := gw_mem 834 (by decide +kernel) (by decide)
theorem wm_835 : Cond.code y_M_end_ b_M_end_ 2 (some .int) ∈ gw_tbl := gw_mem 835 (by decide +kernel) (by decide)
theorem wm_836 : Cond.methodLink R_W 27 y_M_read ∈ gw_tbl := gw_mem 836 (by decide +kernel) (by decide)
theorem wm_837 : Cond.instanceMethod y_M_read ∈ gw_tbl := gw_mem 837 (by decide +kernel) (by decide)
theorem wm_838 : Cond.selects R_M y_M_read y_M_read ∈ gw_tbl := gw_mem 838 (by decide +kernel) (by decide)
theorem wm_839 : Cond.code y_M_read b_M_read 3 (some .int) ∈ gw_tbl := gw_mem 839 (by decide +kernel) (by decide)
theorem wm_840 : Cond.methodLink R_M 112 y_M_cut ∈ gw_tbl := gw_mem 840 (by decide +kernel) (by decide)
theorem wm_842 : Cond.instanceMethod y_M_cut ∈ gw_tbl := gw_mem 842 (by decide +kernel) (by decide)
theorem wm_843 : Cond.code y_M_cut b_M_cut 4 none ∈ gw_tbl := gw_mem 843 (by decide +kernel) (by decide)
theorem wm_844 : Cond.methodLink R_M 98 y_M_isDigit ∈ gw_tbl := gw_mem 844 (by decide +kernel) (by decide)
theorem wm_845 : Cond.static y_M_isDigit ∈ gw_tbl := gw_mem 845 (by decide +kernel) (by decide)
theorem wm_846 : Cond.code y_M_isDigit b_M_isDigit 1 (some .boolean) ∈ gw_tbl := gw_mem 846 (by decide +kernel) (by decide)
theorem wm_847 : Cond.methodLink R_M 132 y_M_readGiven ∈ gw_tbl := gw_mem 847 (by decide +kernel) (by decide)
theorem wm_849 : Cond.instanceMethod y_M_readGiven ∈ gw_tbl := gw_mem 849 (by decide +kernel) (by decide)
theorem wm_850 : Cond.code y_M_readGiven b_M_readGiven 6 none ∈ gw_tbl := gw_mem 850 (by decide +kernel) (by decide)
theorem wm_851 : Cond.methodLink R_M 108 y_M_need ∈ gw_tbl := gw_mem 851 (by decide +kernel) (by decide)
theorem wm_853 : Cond.instanceMethod y_M_need ∈ gw_tbl := gw_mem 853 (by decide +kernel) (by decide)
theorem wm_854 : Cond.code y_M_need b_M_need 3 (some .boolean) ∈ gw_tbl := gw_mem 854 (by decide +kernel) (by decide)
theorem wm_855 : Cond.methodLink R_M 121 y_M_takes ∈ gw_tbl := gw_mem 855 (by decide +kernel) (by decide)
theorem wm_857 : Cond.instanceMethod y_M_takes ∈ gw_tbl := gw_mem 857 (by decide +kernel) (by decide)
theorem wm_858 : Cond.code y_M_takes b_M_takes 2 (some .boolean) ∈ gw_tbl := gw_mem 858 (by decide +kernel) (by decide)
theorem wm_859 : Cond.methodLink R_M 124 y_M_add ∈ gw_tbl := gw_mem 859 (by decide +kernel) (by decide)
theorem wm_861 : Cond.instanceMethod y_M_add ∈ gw_tbl := gw_mem 861 (by decide +kernel) (by decide)
theorem wm_862 : Cond.code y_M_add b_M_add 7 none ∈ gw_tbl := gw_mem 862 (by decide +kernel) (by decide)
theorem wm_863 : Cond.methodLink R_M 135 y_M_readResolvent ∈ gw_tbl := gw_mem 863 (by decide +kernel) (by decide)
theorem wm_865 : Cond.instanceMethod y_M_readResolvent ∈ gw_tbl := gw_mem 865 (by decide +kernel) (by decide)
theorem wm_866 : Cond.code y_M_readResolvent b_M_readResolvent 7 none ∈ gw_tbl := gw_mem 866 (by decide +kernel) (by decide)
theorem wm_867 : Cond.methodLink R_M 128 y_M_clauseHere ∈ gw_tbl := gw_mem 867 (by decide +kernel) (by decide)
theorem wm_869 : Cond.instanceMethod y_M_clauseHere ∈ gw_tbl := gw_mem 869 (by decide +kernel) (by decide)
theorem wm_870 : Cond.code y_M_clauseHere b_M_clauseHere 2 (some .int) ∈ gw_tbl := gw_mem 870 (by decide +kernel) (by decide)
theorem wm_871 : Cond.methodLink R_M 138 y_M_find ∈ gw_tbl := gw_mem 871 (by decide +kernel) (by decide)
theorem wm_873 : Cond.instanceMethod y_M_find ∈ gw_tbl := gw_mem 873 (by decide +kernel) (by decide)
theorem wm_874 : Cond.code y_M_find b_M_find 2 none ∈ gw_tbl := gw_mem 874 (by decide +kernel) (by decide)
theorem wm_875 : Cond.methodLink R_M 141 y_M_empty ∈ gw_tbl := gw_mem 875 (by decide +kernel) (by decide)
theorem wm_877 : Cond.instanceMethod y_M_empty ∈ gw_tbl := gw_mem 877 (by decide +kernel) (by decide)
theorem wm_878 : Cond.code y_M_empty b_M_empty 2 (some .int) ∈ gw_tbl := gw_mem 878 (by decide +kernel) (by decide)
theorem wm_879 : Cond.methodLink R_W 31 y_M_fault ∈ gw_tbl := gw_mem 879 (by decide +kernel) (by decide)
theorem wm_880 : Cond.instanceMethod y_M_fault ∈ gw_tbl := gw_mem 880 (by decide +kernel) (by decide)
theorem wm_881 : Cond.selects R_M y_M_fault y_M_fault ∈ gw_tbl := gw_mem 881 (by decide +kernel) (by decide)
theorem wm_882 : Cond.code y_M_fault b_M_fault 2 (some .int) ∈ gw_tbl := gw_mem 882 (by decide +kernel) (by decide)
theorem wm_883 : Cond.methodLink R_W 35 y_M_clear ∈ gw_tbl := gw_mem 883 (by decide +kernel) (by decide)
theorem wm_884 : Cond.instanceMethod y_M_clear ∈ gw_tbl := gw_mem 884 (by decide +kernel) (by decide)
theorem wm_885 : Cond.selects R_M y_M_clear y_M_clear ∈ gw_tbl := gw_mem 885 (by decide +kernel) (by decide)
theorem wm_886 : Cond.code y_M_clear b_M_clear 3 (some .int) ∈ gw_tbl := gw_mem 886 (by decide +kernel) (by decide)
theorem wm_887 : Cond.methodLink R_W 40 y_M_clause ∈ gw_tbl := gw_mem 887 (by decide +kernel) (by decide)
theorem wm_888 : Cond.instanceMethod y_M_clause ∈ gw_tbl := gw_mem 888 (by decide +kernel) (by decide)
theorem wm_889 : Cond.selects R_M y_M_clause y_M_clause ∈ gw_tbl := gw_mem 889 (by decide +kernel) (by decide)
theorem wm_890 : Cond.code y_M_clause b_M_clause 3 (some .int) ∈ gw_tbl := gw_mem 890 (by decide +kernel) (by decide)
theorem wm_891 : Cond.methodLink R_M 144 y_M_in ∈ gw_tbl := gw_mem 891 (by decide +kernel) (by decide)
theorem wm_892 : Cond.static y_M_in ∈ gw_tbl := gw_mem 892 (by decide +kernel) (by decide)
theorem wm_893 : Cond.code y_M_in b_M_in 3 (some .boolean) ∈ gw_tbl := gw_mem 893 (by decide +kernel) (by decide)
theorem wm_894 : Cond.methodLink R_W 44 y_M_refutation ∈ gw_tbl := gw_mem 894 (by decide +kernel) (by decide)
theorem wm_895 : Cond.instanceMethod y_M_refutation ∈ gw_tbl := gw_mem 895 (by decide +kernel) (by decide)
theorem wm_896 : Cond.selects R_M y_M_refutation y_M_refutation ∈ gw_tbl := gw_mem 896 (by decide +kernel) (by decide)
theorem wm_897 : Cond.code y_M_refutation b_M_refutation 1 (some .int) ∈ gw_tbl := gw_mem 897 (by decide +kernel) (by decide)
theorem wm_898 : Cond.methodLink R_W 48 y_M_eliminate ∈ gw_tbl := gw_mem 898 (by decide +kernel) (by decide)
theorem wm_899 : Cond.instanceMethod y_M_eliminate ∈ gw_tbl := gw_mem 899 (by decide +kernel) (by decide)
theorem wm_900 : Cond.selects R_M y_M_eliminate y_M_eliminate ∈ gw_tbl := gw_mem 900 (by decide +kernel) (by decide)
theorem wm_901 : Cond.code y_M_eliminate b_M_eliminate 9 (some .int) ∈ gw_tbl := gw_mem 901 (by decide +kernel) (by decide)
theorem wm_902 : Cond.methodLink R_M 148 y_M_isThere ∈ gw_tbl := gw_mem 902 (by decide +kernel) (by decide)
theorem wm_904 : Cond.instanceMethod y_M_isThere ∈ gw_tbl := gw_mem 904 (by decide +kernel) (by decide)
theorem wm_905 : Cond.code y_M_isThere b_M_isThere 4 (some .boolean) ∈ gw_tbl := gw_mem 905 (by decide +kernel) (by decide)
theorem wm_906 : Cond.methodLink R_W 52 y_M_label ∈ gw_tbl := gw_mem 906 (by decide +kernel) (by decide)
theorem wm_907 : Cond.instanceMethod y_M_label ∈ gw_tbl := gw_mem 907 (by decide +kernel) (by decide)
theorem wm_908 : Cond.selects R_M y_M_label y_M_label ∈ gw_tbl := gw_mem 908 (by decide +kernel) (by decide)
theorem wm_909 : Cond.code y_M_label b_M_label 4 (some .int) ∈ gw_tbl := gw_mem 909 (by decide +kernel) (by decide)
theorem wm_910 : Cond.methodLink R_W 56 y_M_variables ∈ gw_tbl := gw_mem 910 (by decide +kernel) (by decide)
theorem wm_911 : Cond.instanceMethod y_M_variables ∈ gw_tbl := gw_mem 911 (by decide +kernel) (by decide)
theorem wm_912 : Cond.selects R_M y_M_variables y_M_variables ∈ gw_tbl := gw_mem 912 (by decide +kernel) (by decide)
theorem wm_913 : Cond.code y_M_variables b_M_variables 5 (some .int) ∈ gw_tbl := gw_mem 913 (by decide +kernel) (by decide)
theorem wm_914 : Cond.methodLink R_M 152 y_M_variablesOf ∈ gw_tbl := gw_mem 914 (by decide +kernel) (by decide)
theorem wm_916 : Cond.instanceMethod y_M_variablesOf ∈ gw_tbl := gw_mem 916 (by decide +kernel) (by decide)
theorem wm_917 : Cond.code y_M_variablesOf b_M_variablesOf 5 (some .int) ∈ gw_tbl := gw_mem 917 (by decide +kernel) (by decide)
theorem wm_918 : Cond.methodLink R_W 60 y_M_interpolate ∈ gw_tbl := gw_mem 918 (by decide +kernel) (by decide)
theorem wm_919 : Cond.instanceMethod y_M_interpolate ∈ gw_tbl := gw_mem 919 (by decide +kernel) (by decide)
theorem wm_920 : Cond.selects R_M y_M_interpolate y_M_interpolate ∈ gw_tbl := gw_mem 920 (by decide +kernel) (by decide)
theorem wm_921 : Cond.code y_M_interpolate b_M_interpolate 5 (some .int) ∈ gw_tbl := gw_mem 921 (by decide +kernel) (by decide)
theorem wm_922 : Cond.methodLink R_M 196 y_M_partials ∈ gw_tbl := gw_mem 922 (by decide +kernel) (by decide)
theorem wm_924 : Cond.instanceMethod y_M_partials ∈ gw_tbl := gw_mem 924 (by decide +kernel) (by decide)
theorem wm_925 : Cond.code y_M_partials b_M_partials 16 none ∈ gw_tbl := gw_mem 925 (by decide +kernel) (by decide)
theorem wm_926 : Cond.methodLink R_M 178 y_M_sum ∈ gw_tbl := gw_mem 926 (by decide +kernel) (by decide)
theorem wm_928 : Cond.instanceMethod y_M_sum ∈ gw_tbl := gw_mem 928 (by decide +kernel) (by decide)
theorem wm_929 : Cond.code y_M_sum b_M_sum 10 (some .long) ∈ gw_tbl := gw_mem 929 (by decide +kernel) (by decide)
theorem wm_930 : Cond.methodLink R_M 170 y_M_labelOf ∈ gw_tbl := gw_mem 930 (by decide +kernel) (by decide)
theorem wm_932 : Cond.instanceMethod y_M_labelOf ∈ gw_tbl := gw_mem 932 (by decide +kernel) (by decide)
theorem wm_933 : Cond.code y_M_labelOf b_M_labelOf 6 (some .int) ∈ gw_tbl := gw_mem 933 (by decide +kernel) (by decide)
theorem wm_934 : Cond.methodLink R_M 174 y_M_word ∈ gw_tbl := gw_mem 934 (by decide +kernel) (by decide)
theorem wm_935 : Cond.static y_M_word ∈ gw_tbl := gw_mem 935 (by decide +kernel) (by decide)
theorem wm_936 : Cond.code y_M_word b_M_word 2 (some .long) ∈ gw_tbl := gw_mem 936 (by decide +kernel) (by decide)
theorem wm_937 : Cond.constantLong R_M 156 (-6148914691236517206) ∈ gw_tbl := gw_mem 937 (by decide +kernel) (by decide)
theorem wm_938 : Cond.constantLong R_M 158 (-3689348814741910324) ∈ gw_tbl := gw_mem 938 (by decide +kernel) (by decide)
theorem wm_939 : Cond.constantLong R_M 160 (-1085102592571150096) ∈ gw_tbl := gw_mem 939 (by decide +kernel) (by decide)
theorem wm_940 : Cond.constantLong R_M 162 (-71777214294589696) ∈ gw_tbl := gw_mem 940 (by decide +kernel) (by decide)
theorem wm_941 : Cond.constantLong R_M 164 (-281470681808896) ∈ gw_tbl := gw_mem 941 (by decide +kernel) (by decide)
theorem wm_942 : Cond.constantLong R_M 166 (-4294967296) ∈ gw_tbl := gw_mem 942 (by decide +kernel) (by decide)
theorem wm_943 : Cond.constantLong R_M 168 (-1) ∈ gw_tbl := gw_mem 943 (by decide +kernel) (by decide)
theorem wm_944 : Cond.methodLink R_M 204 y_M_draw ∈ gw_tbl := gw_mem 944 (by decide +kernel) (by decide)
theorem wm_946 : Cond.instanceMethod y_M_draw ∈ gw_tbl := gw_mem 946 (by decide +kernel) (by decide)
theorem wm_947 : Cond.code y_M_draw b_M_draw 6 none ∈ gw_tbl := gw_mem 947 (by decide +kernel) (by decide)
theorem wm_948 : Cond.methodLink R_M 193 y_M_nodeOf ∈ gw_tbl := gw_mem 948 (by decide +kernel) (by decide)
theorem wm_950 : Cond.instanceMethod y_M_nodeOf ∈ gw_tbl := gw_mem 950 (by decide +kernel) (by decide)
theorem wm_951 : Cond.code y_M_nodeOf b_M_nodeOf 6 (some .int) ∈ gw_tbl := gw_mem 951 (by decide +kernel) (by decide)
theorem wm_952 : Cond.methodLink R_M 189 y_M_leastVariable ∈ gw_tbl := gw_mem 952 (by decide +kernel) (by decide)
theorem wm_954 : Cond.instanceMethod y_M_leastVariable ∈ gw_tbl := gw_mem 954 (by decide +kernel) (by decide)
theorem wm_955 : Cond.code y_M_leastVariable b_M_leastVariable 4 (some .int) ∈ gw_tbl := gw_mem 955 (by decide +kernel) (by decide)
theorem wm_956 : Cond.methodLink R_M 182 y_M_side ∈ gw_tbl := gw_mem 956 (by decide +kernel) (by decide)
theorem wm_958 : Cond.instanceMethod y_M_side ∈ gw_tbl := gw_mem 958 (by decide +kernel) (by decide)
theorem wm_959 : Cond.code y_M_side b_M_side 12 (some .long) ∈ gw_tbl := gw_mem 959 (by decide +kernel) (by decide)
theorem wm_960 : Cond.methodLink R_W 64 y_M_value ∈ gw_tbl := gw_mem 960 (by decide +kernel) (by decide)
theorem wm_961 : Cond.instanceMethod y_M_value ∈ gw_tbl := gw_mem 961 (by decide +kernel) (by decide)
theorem wm_962 : Cond.selects R_M y_M_value y_M_value ∈ gw_tbl := gw_mem 962 (by decide +kernel) (by decide)
theorem wm_963 : Cond.code y_M_value b_M_value 2 (some .int) ∈ gw_tbl := gw_mem 963 (by decide +kernel) (by decide)
theorem wm_964 : Cond.methodLink R_W 68 y_M_prt ∈ gw_tbl := gw_mem 964 (by decide +kernel) (by decide)
theorem wm_965 : Cond.instanceMethod y_M_prt ∈ gw_tbl := gw_mem 965 (by decide +kernel) (by decide)
theorem wm_966 : Cond.selects R_M y_M_prt y_M_prt ∈ gw_tbl := gw_mem 966 (by decide +kernel) (by decide)
theorem wm_967 : Cond.code y_M_prt b_M_prt 3 (some .int) ∈ gw_tbl := gw_mem 967 (by decide +kernel) (by decide)
theorem wm_968 : Cond.methodLink R_W 72 y_M_told ∈ gw_tbl := gw_mem 968 (by decide +kernel) (by decide)
theorem wm_969 : Cond.instanceMethod y_M_told ∈ gw_tbl := gw_mem 969 (by decide +kernel) (by decide)
theorem wm_970 : Cond.selects R_M y_M_told y_M_told ∈ gw_tbl := gw_mem 970 (by decide +kernel) (by decide)
theorem wm_971 : Cond.code y_M_told b_M_told 4 (some .int) ∈ gw_tbl := gw_mem 971 (by decide +kernel) (by decide)
theorem wm_972 : Cond.methodLink R_M 207 y_M_ones ∈ gw_tbl := gw_mem 972 (by decide +kernel) (by decide)
theorem wm_973 : Cond.static y_M_ones ∈ gw_tbl := gw_mem 973 (by decide +kernel) (by decide)
theorem wm_974 : Cond.code y_M_ones b_M_ones 5 (some .int) ∈ gw_tbl := gw_mem 974 (by decide +kernel) (by decide)
theorem wm_975 : Cond.methodLink R_W 76 y_M_graph ∈ gw_tbl := gw_mem 975 (by decide +kernel) (by decide)
theorem wm_976 : Cond.instanceMethod y_M_graph ∈ gw_tbl := gw_mem 976 (by decide +kernel) (by decide)
theorem wm_977 : Cond.selects R_M y_M_graph y_M_graph ∈ gw_tbl := gw_mem 977 (by decide +kernel) (by decide)
theorem wm_978 : Cond.code y_M_graph b_M_graph 3 (some .int) ∈ gw_tbl := gw_mem 978 (by decide +kernel) (by decide)
theorem wm_979 : Cond.methodLink R_W 81 y_M_follows ∈ gw_tbl := gw_mem 979 (by decide +kernel) (by decide)
theorem wm_980 : Cond.instanceMethod y_M_follows ∈ gw_tbl := gw_mem 980 (by decide +kernel) (by decide)
theorem wm_981 : Cond.selects R_M y_M_follows y_M_follows ∈ gw_tbl := gw_mem 981 (by decide +kernel) (by decide)
theorem wm_982 : Cond.code y_M_follows b_M_follows 5 (some .int) ∈ gw_tbl := gw_mem 982 (by decide +kernel) (by decide)
theorem wm_983 : Cond.methodLink R_W 85 y_M_gap ∈ gw_tbl := gw_mem 983 (by decide +kernel) (by decide)
theorem wm_984 : Cond.instanceMethod y_M_gap ∈ gw_tbl := gw_mem 984 (by decide +kernel) (by decide)
theorem wm_985 : Cond.selects R_M y_M_gap y_M_gap ∈ gw_tbl := gw_mem 985 (by decide +kernel) (by decide)
theorem wm_986 : Cond.code y_M_gap b_M_gap 8 (some .int) ∈ gw_tbl := gw_mem 986 (by decide +kernel) (by decide)
theorem wm_987 : Cond.methodLink R_M 211 y_M_product ∈ gw_tbl := gw_mem 987 (by decide +kernel) (by decide)
theorem wm_989 : Cond.instanceMethod y_M_product ∈ gw_tbl := gw_mem 989 (by decide +kernel) (by decide)
theorem wm_990 : Cond.code y_M_product b_M_product 7 (some .long) ∈ gw_tbl := gw_mem 990 (by decide +kernel) (by decide)
theorem wm_991 : Cond.methodLink R_W 89 y_M_count ∈ gw_tbl := gw_mem 991 (by decide +kernel) (by decide)
theorem wm_992 : Cond.instanceMethod y_M_count ∈ gw_tbl := gw_mem 992 (by decide +kernel) (by decide)
theorem wm_993 : Cond.selects R_M y_M_count y_M_count ∈ gw_tbl := gw_mem 993 (by decide +kernel) (by decide)
theorem wm_994 : Cond.code y_M_count b_M_count 4 (some .int) ∈ gw_tbl := gw_mem 994 (by decide +kernel) (by decide)
theorem i_A : ∀ w ∈ u_ws R_A F_A 4, w ∈ gw_tbl := gw_mems [295, 297, 299, 301] (by decide +kernel) (by decide +kernel)
theorem i_C : ∀ w ∈ u_ws R_C F_C 13, w ∈ gw_tbl := gw_mems [128, 130, 132, 134, 136, 138, 140, 142, 144, 146, 148, 150, 152] (by decide +kernel) (by decide +kernel)
theorem i_F : ∀ w ∈ u_ws R_F F_F 6, w ∈ gw_tbl := gw_mems [237, 239, 241, 243, 245, 247] (by decide +kernel) (by decide +kernel)
theorem i_G : ∀ w ∈ u_ws R_G F_G 8, w ∈ gw_tbl := gw_mems [272, 274, 276, 278, 280, 282, 284, 286] (by decide +kernel) (by decide +kernel)
theorem i_L : ∀ w ∈ u_ws R_L F_L 1, w ∈ gw_tbl := gw_mems [221] (by decide +kernel) (by decide +kernel)
theorem i_R : ∀ w ∈ u_ws R_R F_R 15, w ∈ gw_tbl := gw_mems [180, 182, 184, 186, 188, 190, 192, 194, 196, 198, 200, 202, 204, 206, 208] (by decide +kernel) (by decide +kernel)
theorem i_T : ∀ w ∈ u_ws R_T F_T 2, w ∈ gw_tbl := gw_mems [83, 85] (by decide +kernel) (by decide +kernel)
theorem i_B : ∀ w ∈ u_ws R_B F_B 8, w ∈ gw_tbl := gw_mems [312, 314, 316, 318, 320, 322, 324, 326] (by decide +kernel) (by decide +kernel)
theorem i_M : ∀ w ∈ u_ws R_M F_M 34, w ∈ gw_tbl := gw_mems [759, 761, 763, 765, 767, 769, 771, 773, 775, 777, 779, 781, 783, 785, 787, 789, 791, 793, 795, 797, 799, 801, 803, 805, 807, 809, 811, 813, 815, 817, 819, 821, 823, 825] (by decide +kernel) (by decide +kernel)
end
section
theorem d_C_init_0 : decode b_C_init 0 = .ok (.aload_n 0, 1) := by decide +kernel
theorem d_C_init_1 : decode b_C_init 1 = .ok (.invokespecial 3, 3) := by decide +kernel
theorem d_C_init_4 : decode b_C_init 4 = .ok (.aload_n 0, 1) := by decide +kernel
theorem d_C_init_5 : decode b_C_init 5 = .ok (.sipush 201, 3) := by decide +kernel
theorem d_C_init_8 : decode b_C_init 8 = .ok (.newarray .int, 2) := by decide +kernel
theorem d_C_init_10 : decode b_C_init 10 = .ok (.putfield 9, 3) := by decide +kernel
theorem d_C_init_13 : decode b_C_init 13 = .ok (.aload_n 0, 1) := by decide +kernel
theorem d_C_init_14 : decode b_C_init 14 = .ok (.sipush 201, 3) := by decide +kernel
theorem d_C_init_17 : decode b_C_init 17 = .ok (.newarray .int, 2) := by decide +kernel
theorem d_C_init_19 : decode b_C_init 19 = .ok (.putfield 15, 3) := by decide +kernel
theorem d_C_init_22 : decode b_C_init 22 = .ok (.aload_n 0, 1) := by decide +kernel
theorem d_C_init_23 : decode b_C_init 23 = .ok (.sipush 201, 3) := by decide +kernel
theorem d_C_init_26 : decode b_C_init 26 = .ok (.newarray .int, 2) := by decide +kernel
theorem d_C_init_28 : decode b_C_init 28 = .ok (.putfield 18, 3) := by decide +kernel
theorem d_C_init_31 : decode b_C_init 31 = .ok (.aload_n 0, 1) := by decide +kernel
theorem d_C_init_32 : decode b_C_init 32 = .ok (.sipush 201, 3) := by decide +kernel
theorem d_C_init_35 : decode b_C_init 35 = .ok (.newarray .int, 2) := by decide +kernel
theorem d_C_init_37 : decode b_C_init 37 = .ok (.putfield 21, 3) := by decide +kernel
theorem d_C_init_40 : decode b_C_init 40 = .ok (.aload_n 0, 1) := by decide +kernel
theorem d_C_init_41 : decode b_C_init 41 = .ok (.sipush 201, 3) := by decide +kernel
theorem d_C_init_44 : decode b_C_init 44 = .ok (.newarray .int, 2) := by decide +kernel
theorem d_C_init_46 : decode b_C_init 46 = .ok (.putfield 24, 3) := by decide +kernel
theorem d_C_init_49 : decode b_C_init 49 = .ok (.aload_n 0, 1) := by decide +kernel
theorem d_C_init_50 : decode b_C_init 50 = .ok (.sipush 201, 3) := by decide +kernel
theorem d_C_init_53 : decode b_C_init 53 = .ok (.newarray .int, 2) := by decide +kernel
theorem d_C_init_55 : decode b_C_init 55 = .ok (.putfield 27, 3) := by decide +kernel
theorem d_C_init_58 : decode b_C_init 58 = .ok (.aload_n 0, 1) := by decide +kernel
theorem d_C_init_59 : decode b_C_init 59 = .ok (.sipush 201, 3) := by decide +kernel
theorem d_C_init_62 : decode b_C_init 62 = .ok (.newarray .boolean, 2) := by decide +kernel
theorem d_C_init_64 : decode b_C_init 64 = .ok (.putfield 30, 3) := by decide +kernel
theorem d_C_init_67 : decode b_C_init 67 = .ok (.aload_n 0, 1) := by decide +kernel
theorem d_C_init_68 : decode b_C_init 68 = .ok (.sipush 201, 3) := by decide +kernel
theorem d_C_init_71 : decode b_C_init 71 = .ok (.newarray .boolean, 2) := by decide +kernel
theorem d_C_init_73 : decode b_C_init 73 = .ok (.putfield 34, 3) := by decide +kernel
theorem d_C_init_76 : decode b_C_init 76 = .ok (.return_, 1) := by decide +kernel
theorem d_C_startDraft_0 : decode b_C_startDraft 0 = .ok (.aload_n 0, 1) := by decide +kernel
theorem d_C_startDraft_1 : decode b_C_startDraft 1 = .ok (.aload_n 0, 1) := by decide +kernel
theorem d_C_startDraft_2 : decode b_C_startDraft 2 = .ok (.getfield 37, 3) := by decide +kernel
theorem d_C_startDraft_5 : decode b_C_startDraft 5 = .ok (.putfield 41, 3) := by decide +kernel
theorem d_C_startDraft_8 : decode b_C_startDraft 8 = .ok (.aload_n 0, 1) := by decide +kernel
theorem d_C_startDraft_9 : decode b_C_startDraft 9 = .ok (.aload_n 0, 1) := by decide +kernel
theorem d_C_startDraft_10 : decode b_C_startDraft 10 = .ok (.getfield 44, 3) := by decide +kernel
theorem d_C_startDraft_13 : decode b_C_startDraft 13 = .ok (.putfield 47, 3) := by decide +kernel
theorem d_C_startDraft_16 : decode b_C_startDraft 16 = .ok (.return_, 1) := by decide +kernel
theorem d_C_hasRoom_0 : decode b_C_hasRoom 0 = .ok (.aload_n 0, 1) := by decide +kernel
theorem d_C_hasRoom_1 : decode b_C_hasRoom 1 = .ok (.getfield 41, 3) := by decide +kernel
theorem d_C_hasRoom_4 : decode b_C_hasRoom 4 = .ok (.sipush 200, 3) := by decide +kernel
theorem d_C_hasRoom_7 : decode b_C_hasRoom 7 = .ok (.if_icmp .ge 7, 3) := by decide +kernel
theorem d_C_hasRoom_10 : decode b_C_hasRoom 10 = .ok (.iconst 1, 1) := by decide +kernel
theorem d_C_hasRoom_11 : decode b_C_hasRoom 11 = .ok (.goto 4, 3) := by decide +kernel
theorem d_C_hasRoom_14 : decode b_C_hasRoom 14 = .ok (.iconst 0, 1) := by decide +kernel
theorem d_C_hasRoom_15 : decode b_C_hasRoom 15 = .ok (.ireturn, 1) := by decide +kernel
theorem d_C_hasRoomForGiven_0 : decode b_C_hasRoomForGiven 0 = .ok (.aload_n 0, 1) := by decide +kernel
theorem d_C_hasRoomForGiven_1 : decode b_C_hasRoomForGiven 1 = .ok (.invokevirtual 50, 3) := by decide +kernel
theorem d_C_hasRoomForGiven_4 : decode b_C_hasRoomForGiven 4 = .ok (.ifCond .eq 16, 3) := by decide +kernel
theorem d_C_hasRoomForGiven_7 : decode b_C_hasRoomForGiven 7 = .ok (.aload_n 0, 1) := by decide +kernel
theorem d_C_hasRoomForGiven_8 : decode b_C_hasRoomForGiven 8 = .ok (.getfield 47, 3) := by decide +kernel
theorem d_C_hasRoomForGiven_11 : decode b_C_hasRoomForGiven 11 = .ok (.bipush 60, 2) := by decide +kernel
theorem d_C_hasRoomForGiven_13 : decode b_C_hasRoomForGiven 13 = .ok (.if_icmp .ge 7, 3) := by decide +kernel
theorem d_C_hasRoomForGiven_16 : decode b_C_hasRoomForGiven 16 = .ok (.iconst 1, 1) := by decide +kernel
theorem d_C_hasRoomForGiven_17 : decode b_C_hasRoomForGiven 17 = .ok (.goto 4, 3) := by decide +kernel
theorem d_C_hasRoomForGiven_20 : decode b_C_hasRoomForGiven 20 = .ok (.iconst 0, 1) := by decide +kernel
theorem d_C_hasRoomForGiven_21 : decode b_C_hasRoomForGiven 21 = .ok (.ireturn, 1) := by decide +kernel
theorem d_C_isDrafted_0 : decode b_C_isDrafted 0 = .ok (.iload_n 1, 1) := by decide +kernel
theorem d_C_isDrafted_1 : decode b_C_isDrafted 1 = .ok (.iconst 1, 1) := by decide +kernel
theorem d_C_isDrafted_2 : decode b_C_isDrafted 2 = .ok (.if_icmp .lt 22, 3) := by decide +kernel
theorem d_C_isDrafted_5 : decode b_C_isDrafted 5 = .ok (.iload_n 1, 1) := by decide +kernel
theorem d_C_isDrafted_6 : decode b_C_isDrafted 6 = .ok (.aload_n 0, 1) := by decide +kernel
theorem d_C_isDrafted_7 : decode b_C_isDrafted 7 = .ok (.getfield 41, 3) := by decide +kernel
theorem d_C_isDrafted_10 : decode b_C_isDrafted 10 = .ok (.if_icmp .gt 14, 3) := by decide +kernel
theorem d_C_isDrafted_13 : decode b_C_isDrafted 13 = .ok (.iload_n 1, 1) := by decide +kernel
theorem d_C_isDrafted_14 : decode b_C_isDrafted 14 = .ok (.sipush 200, 3) := by decide +kernel
theorem d_C_isDrafted_17 : decode b_C_isDrafted 17 = .ok (.if_icmp .gt 7, 3) := by decide +kernel
theorem d_C_isDrafted_20 : decode b_C_isDrafted 20 = .ok (.iconst 1, 1) := by decide +kernel
theorem d_C_isDrafted_21 : decode b_C_isDrafted 21 = .ok (.goto 4, 3) := by decide +kernel
theorem d_C_isDrafted_24 : decode b_C_isDrafted 24 = .ok (.iconst 0, 1) := by decide +kernel
theorem d_C_isDrafted_25 : decode b_C_isDrafted 25 = .ok (.ireturn, 1) := by decide +kernel
theorem d_C_draftGiven_0 : decode b_C_draftGiven 0 = .ok (.aload_n 0, 1) := by decide +kernel
theorem d_C_draftGiven_1 : decode b_C_draftGiven 1 = .ok (.invokevirtual 54, 3) := by decide +kernel
theorem d_C_draftGiven_4 : decode b_C_draftGiven 4 = .ok (.ifCond .eq 59, 3) := by decide +kernel
theorem d_C_draftGiven_7 : decode b_C_draftGiven 7 = .ok (.aload_n 0, 1) := by decide +kernel
theorem d_C_draftGiven_8 : decode b_C_draftGiven 8 = .ok (.iload_n 2, 1) := by decide +kernel
theorem d_C_draftGiven_9 : decode b_C_draftGiven 9 = .ok (.iload_n 3, 1) := by decide +kernel
theorem d_C_draftGiven_10 : decode b_C_draftGiven 10 = .ok (.invokevirtual 57, 3) := by decide +kernel
theorem d_C_draftGiven_13 : decode b_C_draftGiven 13 = .ok (.aload_n 0, 1) := by decide +kernel
theorem d_C_draftGiven_14 : decode b_C_draftGiven 14 = .ok (.getfield 9, 3) := by decide +kernel
theorem d_C_draftGiven_17 : decode b_C_draftGiven 17 = .ok (.aload_n 0, 1) := by decide +kernel
theorem d_C_draftGiven_18 : decode b_C_draftGiven 18 = .ok (.getfield 41, 3) := by decide +kernel
theorem d_C_draftGiven_21 : decode b_C_draftGiven 21 = .ok (.iload_n 1, 1) := by decide +kernel
theorem d_C_draftGiven_22 : decode b_C_draftGiven 22 = .ok (.iastore, 1) := by decide +kernel
theorem d_C_draftGiven_23 : decode b_C_draftGiven 23 = .ok (.aload_n 0, 1) := by decide +kernel
theorem d_C_draftGiven_24 : decode b_C_draftGiven 24 = .ok (.getfield 15, 3) := by decide +kernel
theorem d_C_draftGiven_27 : decode b_C_draftGiven 27 = .ok (.aload_n 0, 1) := by decide +kernel
theorem d_C_draftGiven_28 : decode b_C_draftGiven 28 = .ok (.getfield 41, 3) := by decide +kernel
theorem d_C_draftGiven_31 : decode b_C_draftGiven 31 = .ok (.iconst 0, 1) := by decide +kernel
theorem d_C_draftGiven_32 : decode b_C_draftGiven 32 = .ok (.iastore, 1) := by decide +kernel
theorem d_C_draftGiven_33 : decode b_C_draftGiven 33 = .ok (.aload_n 0, 1) := by decide +kernel
theorem d_C_draftGiven_34 : decode b_C_draftGiven 34 = .ok (.getfield 18, 3) := by decide +kernel
theorem d_C_draftGiven_37 : decode b_C_draftGiven 37 = .ok (.aload_n 0, 1) := by decide +kernel
theorem d_C_draftGiven_38 : decode b_C_draftGiven 38 = .ok (.getfield 41, 3) := by decide +kernel
theorem d_C_draftGiven_41 : decode b_C_draftGiven 41 = .ok (.iconst 0, 1) := by decide +kernel
theorem d_C_draftGiven_42 : decode b_C_draftGiven 42 = .ok (.iastore, 1) := by decide +kernel
theorem d_C_draftGiven_43 : decode b_C_draftGiven 43 = .ok (.aload_n 0, 1) := by decide +kernel
theorem d_C_draftGiven_44 : decode b_C_draftGiven 44 = .ok (.getfield 21, 3) := by decide +kernel
theorem d_C_draftGiven_47 : decode b_C_draftGiven 47 = .ok (.aload_n 0, 1) := by decide +kernel
theorem d_C_draftGiven_48 : decode b_C_draftGiven 48 = .ok (.getfield 41, 3) := by decide +kernel
theorem d_C_draftGiven_51 : decode b_C_draftGiven 51 = .ok (.iconst 0, 1) := by decide +kernel
theorem d_C_draftGiven_52 : decode b_C_draftGiven 52 = .ok (.iastore, 1) := by decide +kernel
theorem d_C_draftGiven_53 : decode b_C_draftGiven 53 = .ok (.aload_n 0, 1) := by decide +kernel
theorem d_C_draftGiven_54 : decode b_C_draftGiven 54 = .ok (.dup, 1) := by decide +kernel
theorem d_C_draftGiven_55 : decode b_C_draftGiven 55 = .ok (.getfield 47, 3) := by decide +kernel
theorem d_C_draftGiven_58 : decode b_C_draftGiven 58 = .ok (.iconst 1, 1) := by decide +kernel
theorem d_C_draftGiven_59 : decode b_C_draftGiven 59 = .ok (.iadd, 1) := by decide +kernel
theorem d_C_draftGiven_60 : decode b_C_draftGiven 60 = .ok (.putfield 47, 3) := by decide +kernel
theorem d_C_draftGiven_63 : decode b_C_draftGiven 63 = .ok (.return_, 1) := by decide +kernel
theorem d_C_draftResolvent_0 : decode b_C_draftResolvent 0 = .ok (.aload_n 0, 1) := by decide +kernel
theorem d_C_draftResolvent_1 : decode b_C_draftResolvent 1 = .ok (.invokevirtual 50, 3) := by decide +kernel
theorem d_C_draftResolvent_4 : decode b_C_draftResolvent 4 = .ok (.ifCond .eq 77, 3) := by decide +kernel
theorem d_C_draftResolvent_7 : decode b_C_draftResolvent 7 = .ok (.aload_n 0, 1) := by decide +kernel
theorem d_C_draftResolvent_8 : decode b_C_draftResolvent 8 = .ok (.iload_n 1, 1) := by decide +kernel
theorem d_C_draftResolvent_9 : decode b_C_draftResolvent 9 = .ok (.invokevirtual 61, 3) := by decide +kernel
theorem d_C_draftResolvent_12 : decode b_C_draftResolvent 12 = .ok (.ifCond .eq 69, 3) := by decide +kernel
theorem d_C_draftResolvent_15 : decode b_C_draftResolvent 15 = .ok (.aload_n 0, 1) := by decide +kernel
theorem d_C_draftResolvent_16 : decode b_C_draftResolvent 16 = .ok (.iload_n 2, 1) := by decide +kernel
theorem d_C_draftResolvent_17 : decode b_C_draftResolvent 17 = .ok (.invokevirtual 61, 3) := by decide +kernel
theorem d_C_draftResolvent_20 : decode b_C_draftResolvent 20 = .ok (.ifCond .eq 61, 3) := by decide +kernel
theorem d_C_draftResolvent_23 : decode b_C_draftResolvent 23 = .ok (.aload_n 0, 1) := by decide +kernel
theorem d_C_draftResolvent_24 : decode b_C_draftResolvent 24 = .ok (.aload_n 0, 1) := by decide +kernel
theorem d_C_draftResolvent_25 : decode b_C_draftResolvent 25 = .ok (.iload_n 1, 1) := by decide +kernel
theorem d_C_draftResolvent_26 : decode b_C_draftResolvent 26 = .ok (.iload_n 2, 1) := by decide +kernel
theorem d_C_draftResolvent_27 : decode b_C_draftResolvent 27 = .ok (.iload_n 3, 1) := by decide +kernel
theorem d_C_draftResolvent_28 : decode b_C_draftResolvent 28 = .ok (.invokevirtual 65, 3) := by decide +kernel
theorem d_C_draftResolvent_31 : decode b_C_draftResolvent 31 = .ok (.aload_n 0, 1) := by decide +kernel
theorem d_C_draftResolvent_32 : decode b_C_draftResolvent 32 = .ok (.iload_n 1, 1) := by decide +kernel
theorem d_C_draftResolvent_33 : decode b_C_draftResolvent 33 = .ok (.iload_n 2, 1) := by decide +kernel
theorem d_C_draftResolvent_34 : decode b_C_draftResolvent 34 = .ok (.iload_n 3, 1) := by decide +kernel
theorem d_C_draftResolvent_35 : decode b_C_draftResolvent 35 = .ok (.invokevirtual 69, 3) := by decide +kernel
theorem d_C_draftResolvent_38 : decode b_C_draftResolvent 38 = .ok (.invokevirtual 57, 3) := by decide +kernel
theorem d_C_draftResolvent_41 : decode b_C_draftResolvent 41 = .ok (.aload_n 0, 1) := by decide +kernel
theorem d_C_draftResolvent_42 : decode b_C_draftResolvent 42 = .ok (.getfield 9, 3) := by decide +kernel
theorem d_C_draftResolvent_45 : decode b_C_draftResolvent 45 = .ok (.aload_n 0, 1) := by decide +kernel
theorem d_C_draftResolvent_46 : decode b_C_draftResolvent 46 = .ok (.getfield 41, 3) := by decide +kernel
theorem d_C_draftResolvent_49 : decode b_C_draftResolvent 49 = .ok (.iconst 0, 1) := by decide +kernel
theorem d_C_draftResolvent_50 : decode b_C_draftResolvent 50 = .ok (.iastore, 1) := by decide +kernel
theorem d_C_draftResolvent_51 : decode b_C_draftResolvent 51 = .ok (.aload_n 0, 1) := by decide +kernel
theorem d_C_draftResolvent_52 : decode b_C_draftResolvent 52 = .ok (.getfield 15, 3) := by decide +kernel
theorem d_C_draftResolvent_55 : decode b_C_draftResolvent 55 = .ok (.aload_n 0, 1) := by decide +kernel
theorem d_C_draftResolvent_56 : decode b_C_draftResolvent 56 = .ok (.getfield 41, 3) := by decide +kernel
theorem d_C_draftResolvent_59 : decode b_C_draftResolvent 59 = .ok (.iload_n 1, 1) := by decide +kernel
theorem d_C_draftResolvent_60 : decode b_C_draftResolvent 60 = .ok (.iastore, 1) := by decide +kernel
theorem d_C_draftResolvent_61 : decode b_C_draftResolvent 61 = .ok (.aload_n 0, 1) := by decide +kernel
theorem d_C_draftResolvent_62 : decode b_C_draftResolvent 62 = .ok (.getfield 18, 3) := by decide +kernel
theorem d_C_draftResolvent_65 : decode b_C_draftResolvent 65 = .ok (.aload_n 0, 1) := by decide +kernel
theorem d_C_draftResolvent_66 : decode b_C_draftResolvent 66 = .ok (.getfield 41, 3) := by decide +kernel
theorem d_C_draftResolvent_69 : decode b_C_draftResolvent 69 = .ok (.iload_n 2, 1) := by decide +kernel
theorem d_C_draftResolvent_70 : decode b_C_draftResolvent 70 = .ok (.iastore, 1) := by decide +kernel
theorem d_C_draftResolvent_71 : decode b_C_draftResolvent 71 = .ok (.aload_n 0, 1) := by decide +kernel
theorem d_C_draftResolvent_72 : decode b_C_draftResolvent 72 = .ok (.getfield 21, 3) := by decide +kernel
theorem d_C_draftResolvent_75 : decode b_C_draftResolvent 75 = .ok (.aload_n 0, 1) := by decide +kernel
theorem d_C_draftResolvent_76 : decode b_C_draftResolvent 76 = .ok (.getfield 41, 3) := by decide +kernel
theorem d_C_draftResolvent_79 : decode b_C_draftResolvent 79 = .ok (.iload_n 3, 1) := by decide +kernel
theorem d_C_draftResolvent_80 : decode b_C_draftResolvent 80 = .ok (.iastore, 1) := by decide +kernel
theorem d_C_draftResolvent_81 : decode b_C_draftResolvent 81 = .ok (.return_, 1) := by decide +kernel
theorem d_C_draft_0 : decode b_C_draft 0 = .ok (.aload_n 0, 1) := by decide +kernel
theorem d_C_draft_1 : decode b_C_draft 1 = .ok (.dup, 1) := by decide +kernel
theorem d_C_draft_2 : decode b_C_draft 2 = .ok (.getfield 41, 3) := by decide +kernel
theorem d_C_draft_5 : decode b_C_draft 5 = .ok (.iconst 1, 1) := by decide +kernel
theorem d_C_draft_6 : decode b_C_draft 6 = .ok (.iadd, 1) := by decide +kernel
theorem d_C_draft_7 : decode b_C_draft 7 = .ok (.putfield 41, 3) := by decide +kernel
theorem d_C_draft_10 : decode b_C_draft 10 = .ok (.aload_n 0, 1) := by decide +kernel
theorem d_C_draft_11 : decode b_C_draft 11 = .ok (.getfield 24, 3) := by decide +kernel
theorem d_C_draft_14 : decode b_C_draft 14 = .ok (.aload_n 0, 1) := by decide +kernel
theorem d_C_draft_15 : decode b_C_draft 15 = .ok (.getfield 41, 3) := by decide +kernel
theorem d_C_draft_18 : decode b_C_draft 18 = .ok (.iload_n 1, 1) := by decide +kernel
theorem d_C_draft_19 : decode b_C_draft 19 = .ok (.iastore, 1) := by decide +kernel
theorem d_C_draft_20 : decode b_C_draft 20 = .ok (.aload_n 0, 1) := by decide +kernel
theorem d_C_draft_21 : decode b_C_draft 21 = .ok (.getfield 27, 3) := by decide +kernel
theorem d_C_draft_24 : decode b_C_draft 24 = .ok (.aload_n 0, 1) := by decide +kernel
theorem d_C_draft_25 : decode b_C_draft 25 = .ok (.getfield 41, 3) := by decide +kernel
theorem d_C_draft_28 : decode b_C_draft 28 = .ok (.iload_n 2, 1) := by decide +kernel
theorem d_C_draft_29 : decode b_C_draft 29 = .ok (.iastore, 1) := by decide +kernel
theorem d_C_draft_30 : decode b_C_draft 30 = .ok (.aload_n 0, 1) := by decide +kernel
theorem d_C_draft_31 : decode b_C_draft 31 = .ok (.getfield 30, 3) := by decide +kernel
theorem d_C_draft_34 : decode b_C_draft 34 = .ok (.aload_n 0, 1) := by decide +kernel
theorem d_C_draft_35 : decode b_C_draft 35 = .ok (.getfield 41, 3) := by decide +kernel
theorem d_C_draft_38 : decode b_C_draft 38 = .ok (.iconst 1, 1) := by decide +kernel
theorem d_C_draft_39 : decode b_C_draft 39 = .ok (.bastore, 1) := by decide +kernel
theorem d_C_draft_40 : decode b_C_draft 40 = .ok (.return_, 1) := by decide +kernel
theorem d_C_keepDraft_0 : decode b_C_keepDraft 0 = .ok (.aload_n 0, 1) := by decide +kernel
theorem d_C_keepDraft_1 : decode b_C_keepDraft 1 = .ok (.getfield 41, 3) := by decide +kernel
theorem d_C_keepDraft_4 : decode b_C_keepDraft 4 = .ok (.aload_n 0, 1) := by decide +kernel
theorem d_C_keepDraft_5 : decode b_C_keepDraft 5 = .ok (.getfield 37, 3) := by decide +kernel
theorem d_C_keepDraft_8 : decode b_C_keepDraft 8 = .ok (.isub, 1) := by decide +kernel
theorem d_C_keepDraft_9 : decode b_C_keepDraft 9 = .ok (.istore_n 1, 1) := by decide +kernel
theorem d_C_keepDraft_10 : decode b_C_keepDraft 10 = .ok (.aload_n 0, 1) := by decide +kernel
theorem d_C_keepDraft_11 : decode b_C_keepDraft 11 = .ok (.aload_n 0, 1) := by decide +kernel
theorem d_C_keepDraft_12 : decode b_C_keepDraft 12 = .ok (.getfield 41, 3) := by decide +kernel
theorem d_C_keepDraft_15 : decode b_C_keepDraft 15 = .ok (.putfield 37, 3) := by decide +kernel
theorem d_C_keepDraft_18 : decode b_C_keepDraft 18 = .ok (.aload_n 0, 1) := by decide +kernel
theorem d_C_keepDraft_19 : decode b_C_keepDraft 19 = .ok (.aload_n 0, 1) := by decide +kernel
theorem d_C_keepDraft_20 : decode b_C_keepDraft 20 = .ok (.getfield 47, 3) := by decide +kernel
theorem d_C_keepDraft_23 : decode b_C_keepDraft 23 = .ok (.putfield 44, 3) := by decide +kernel
theorem d_C_keepDraft_26 : decode b_C_keepDraft 26 = .ok (.aload_n 0, 1) := by decide +kernel
theorem d_C_keepDraft_27 : decode b_C_keepDraft 27 = .ok (.invokevirtual 72, 3) := by decide +kernel
theorem d_C_keepDraft_30 : decode b_C_keepDraft 30 = .ok (.aload_n 0, 1) := by decide +kernel
theorem d_C_keepDraft_31 : decode b_C_keepDraft 31 = .ok (.invokevirtual 75, 3) := by decide +kernel
theorem d_C_keepDraft_34 : decode b_C_keepDraft 34 = .ok (.iload_n 1, 1) := by decide +kernel
theorem d_C_keepDraft_35 : decode b_C_keepDraft 35 = .ok (.ireturn, 1) := by decide +kernel
theorem d_C_removeAll_0 : decode b_C_removeAll 0 = .ok (.aload_n 0, 1) := by decide +kernel
theorem d_C_removeAll_1 : decode b_C_removeAll 1 = .ok (.iconst 0, 1) := by decide +kernel
theorem d_C_removeAll_2 : decode b_C_removeAll 2 = .ok (.putfield 37, 3) := by decide +kernel
theorem d_C_removeAll_5 : decode b_C_removeAll 5 = .ok (.aload_n 0, 1) := by decide +kernel
theorem d_C_removeAll_6 : decode b_C_removeAll 6 = .ok (.iconst 0, 1) := by decide +kernel
theorem d_C_removeAll_7 : decode b_C_removeAll 7 = .ok (.putfield 44, 3) := by decide +kernel
theorem d_C_removeAll_10 : decode b_C_removeAll 10 = .ok (.aload_n 0, 1) := by decide +kernel
theorem d_C_removeAll_11 : decode b_C_removeAll 11 = .ok (.iconst 0, 1) := by decide +kernel
theorem d_C_removeAll_12 : decode b_C_removeAll 12 = .ok (.putfield 78, 3) := by decide +kernel
theorem d_C_removeAll_15 : decode b_C_removeAll 15 = .ok (.return_, 1) := by decide +kernel
theorem d_C_findEmpty_0 : decode b_C_findEmpty 0 = .ok (.iconst 1, 1) := by decide +kernel
theorem d_C_findEmpty_1 : decode b_C_findEmpty 1 = .ok (.istore_n 1, 1) := by decide +kernel
theorem d_C_findEmpty_2 : decode b_C_findEmpty 2 = .ok (.iload_n 1, 1) := by decide +kernel
theorem d_C_findEmpty_3 : decode b_C_findEmpty 3 = .ok (.aload_n 0, 1) := by decide +kernel
theorem d_C_findEmpty_4 : decode b_C_findEmpty 4 = .ok (.getfield 37, 3) := by decide +kernel
theorem d_C_findEmpty_7 : decode b_C_findEmpty 7 = .ok (.if_icmp .gt 37, 3) := by decide +kernel
theorem d_C_findEmpty_10 : decode b_C_findEmpty 10 = .ok (.aload_n 0, 1) := by decide +kernel
theorem d_C_findEmpty_11 : decode b_C_findEmpty 11 = .ok (.getfield 78, 3) := by decide +kernel
theorem d_C_findEmpty_14 : decode b_C_findEmpty 14 = .ok (.ifCond .ne 30, 3) := by decide +kernel
theorem d_C_findEmpty_17 : decode b_C_findEmpty 17 = .ok (.aload_n 0, 1) := by decide +kernel
theorem d_C_findEmpty_18 : decode b_C_findEmpty 18 = .ok (.getfield 24, 3) := by decide +kernel
theorem d_C_findEmpty_21 : decode b_C_findEmpty 21 = .ok (.iload_n 1, 1) := by decide +kernel
theorem d_C_findEmpty_22 : decode b_C_findEmpty 22 = .ok (.iaload, 1) := by decide +kernel
theorem d_C_findEmpty_23 : decode b_C_findEmpty 23 = .ok (.aload_n 0, 1) := by decide +kernel
theorem d_C_findEmpty_24 : decode b_C_findEmpty 24 = .ok (.getfield 27, 3) := by decide +kernel
theorem d_C_findEmpty_27 : decode b_C_findEmpty 27 = .ok (.iload_n 1, 1) := by decide +kernel
theorem d_C_findEmpty_28 : decode b_C_findEmpty 28 = .ok (.iaload, 1) := by decide +kernel
theorem d_C_findEmpty_29 : decode b_C_findEmpty 29 = .ok (.ior, 1) := by decide +kernel
theorem d_C_findEmpty_30 : decode b_C_findEmpty 30 = .ok (.ifCond .ne 8, 3) := by decide +kernel
theorem d_C_findEmpty_33 : decode b_C_findEmpty 33 = .ok (.aload_n 0, 1) := by decide +kernel
theorem d_C_findEmpty_34 : decode b_C_findEmpty 34 = .ok (.iload_n 1, 1) := by decide +kernel
theorem d_C_findEmpty_35 : decode b_C_findEmpty 35 = .ok (.putfield 78, 3) := by decide +kernel
theorem d_C_findEmpty_38 : decode b_C_findEmpty 38 = .ok (.iinc 1 1, 3) := by decide +kernel
theorem d_C_findEmpty_41 : decode b_C_findEmpty 41 = .ok (.goto (-39), 3) := by decide +kernel
theorem d_C_findEmpty_44 : decode b_C_findEmpty 44 = .ok (.return_, 1) := by decide +kernel
theorem d_C_markNeeded_0 : decode b_C_markNeeded 0 = .ok (.iconst 0, 1) := by decide +kernel
theorem d_C_markNeeded_1 : decode b_C_markNeeded 1 = .ok (.istore_n 1, 1) := by decide +kernel
theorem d_C_markNeeded_2 : decode b_C_markNeeded 2 = .ok (.iload_n 1, 1) := by decide +kernel
theorem d_C_markNeeded_3 : decode b_C_markNeeded 3 = .ok (.sipush 200, 3) := by decide +kernel
theorem d_C_markNeeded_6 : decode b_C_markNeeded 6 = .ok (.if_icmp .gt 32, 3) := by decide +kernel
theorem d_C_markNeeded_9 : decode b_C_markNeeded 9 = .ok (.aload_n 0, 1) := by decide +kernel
theorem d_C_markNeeded_10 : decode b_C_markNeeded 10 = .ok (.getfield 34, 3) := by decide +kernel
theorem d_C_markNeeded_13 : decode b_C_markNeeded 13 = .ok (.iload_n 1, 1) := by decide +kernel
theorem d_C_markNeeded_14 : decode b_C_markNeeded 14 = .ok (.iload_n 1, 1) := by decide +kernel
theorem d_C_markNeeded_15 : decode b_C_markNeeded 15 = .ok (.ifCond .eq 15, 3) := by decide +kernel
theorem d_C_markNeeded_18 : decode b_C_markNeeded 18 = .ok (.iload_n 1, 1) := by decide +kernel
theorem d_C_markNeeded_19 : decode b_C_markNeeded 19 = .ok (.aload_n 0, 1) := by decide +kernel
theorem d_C_markNeeded_20 : decode b_C_markNeeded 20 = .ok (.getfield 78, 3) := by decide +kernel
theorem d_C_markNeeded_23 : decode b_C_markNeeded 23 = .ok (.if_icmp .ne 7, 3) := by decide +kernel
theorem d_C_markNeeded_26 : decode b_C_markNeeded 26 = .ok (.iconst 1, 1) := by decide +kernel
theorem d_C_markNeeded_27 : decode b_C_markNeeded 27 = .ok (.goto 4, 3) := by decide +kernel
theorem d_C_markNeeded_30 : decode b_C_markNeeded 30 = .ok (.iconst 0, 1) := by decide +kernel
theorem d_C_markNeeded_31 : decode b_C_markNeeded 31 = .ok (.bastore, 1) := by decide +kernel
theorem d_C_markNeeded_32 : decode b_C_markNeeded 32 = .ok (.iinc 1 1, 3) := by decide +kernel
theorem d_C_markNeeded_35 : decode b_C_markNeeded 35 = .ok (.goto (-33), 3) := by decide +kernel
theorem d_C_markNeeded_38 : decode b_C_markNeeded 38 = .ok (.aload_n 0, 1) := by decide +kernel
theorem d_C_markNeeded_39 : decode b_C_markNeeded 39 = .ok (.getfield 78, 3) := by decide +kernel
theorem d_C_markNeeded_42 : decode b_C_markNeeded 42 = .ok (.istore_n 1, 1) := by decide +kernel
theorem d_C_markNeeded_43 : decode b_C_markNeeded 43 = .ok (.iload_n 1, 1) := by decide +kernel
theorem d_C_markNeeded_44 : decode b_C_markNeeded 44 = .ok (.iconst 1, 1) := by decide +kernel
theorem d_C_markNeeded_45 : decode b_C_markNeeded 45 = .ok (.if_icmp .lt 51, 3) := by decide +kernel
theorem d_C_markNeeded_48 : decode b_C_markNeeded 48 = .ok (.aload_n 0, 1) := by decide +kernel
theorem d_C_markNeeded_49 : decode b_C_markNeeded 49 = .ok (.getfield 34, 3) := by decide +kernel
theorem d_C_markNeeded_52 : decode b_C_markNeeded 52 = .ok (.iload_n 1, 1) := by decide +kernel
theorem d_C_markNeeded_53 : decode b_C_markNeeded 53 = .ok (.baload, 1) := by decide +kernel
theorem d_C_markNeeded_54 : decode b_C_markNeeded 54 = .ok (.ifCond .eq 36, 3) := by decide +kernel
theorem d_C_markNeeded_57 : decode b_C_markNeeded 57 = .ok (.aload_n 0, 1) := by decide +kernel
theorem d_C_markNeeded_58 : decode b_C_markNeeded 58 = .ok (.getfield 9, 3) := by decide +kernel
theorem d_C_markNeeded_61 : decode b_C_markNeeded 61 = .ok (.iload_n 1, 1) := by decide +kernel
theorem d_C_markNeeded_62 : decode b_C_markNeeded 62 = .ok (.iaload, 1) := by decide +kernel
theorem d_C_markNeeded_63 : decode b_C_markNeeded 63 = .ok (.ifCond .ne 27, 3) := by decide +kernel
theorem d_C_markNeeded_66 : decode b_C_markNeeded 66 = .ok (.aload_n 0, 1) := by decide +kernel
theorem d_C_markNeeded_67 : decode b_C_markNeeded 67 = .ok (.getfield 34, 3) := by decide +kernel
theorem d_C_markNeeded_70 : decode b_C_markNeeded 70 = .ok (.aload_n 0, 1) := by decide +kernel
theorem d_C_markNeeded_71 : decode b_C_markNeeded 71 = .ok (.getfield 15, 3) := by decide +kernel
theorem d_C_markNeeded_74 : decode b_C_markNeeded 74 = .ok (.iload_n 1, 1) := by decide +kernel
theorem d_C_markNeeded_75 : decode b_C_markNeeded 75 = .ok (.iaload, 1) := by decide +kernel
theorem d_C_markNeeded_76 : decode b_C_markNeeded 76 = .ok (.iconst 1, 1) := by decide +kernel
theorem d_C_markNeeded_77 : decode b_C_markNeeded 77 = .ok (.bastore, 1) := by decide +kernel
theorem d_C_markNeeded_78 : decode b_C_markNeeded 78 = .ok (.aload_n 0, 1) := by decide +kernel
theorem d_C_markNeeded_79 : decode b_C_markNeeded 79 = .ok (.getfield 34, 3) := by decide +kernel
theorem d_C_markNeeded_82 : decode b_C_markNeeded 82 = .ok (.aload_n 0, 1) := by decide +kernel
theorem d_C_markNeeded_83 : decode b_C_markNeeded 83 = .ok (.getfield 18, 3) := by decide +kernel
theorem d_C_markNeeded_86 : decode b_C_markNeeded 86 = .ok (.iload_n 1, 1) := by decide +kernel
theorem d_C_markNeeded_87 : decode b_C_markNeeded 87 = .ok (.iaload, 1) := by decide +kernel
theorem d_C_markNeeded_88 : decode b_C_markNeeded 88 = .ok (.iconst 1, 1) := by decide +kernel
theorem d_C_markNeeded_89 : decode b_C_markNeeded 89 = .ok (.bastore, 1) := by decide +kernel
theorem d_C_markNeeded_90 : decode b_C_markNeeded 90 = .ok (.iinc 1 (-1), 3) := by decide +kernel
theorem d_C_markNeeded_93 : decode b_C_markNeeded 93 = .ok (.goto (-50), 3) := by decide +kernel
theorem d_C_markNeeded_96 : decode b_C_markNeeded 96 = .ok (.return_, 1) := by decide +kernel
theorem d_C_resolves_0 : decode b_C_resolves 0 = .ok (.aload_n 0, 1) := by decide +kernel
theorem d_C_resolves_1 : decode b_C_resolves 1 = .ok (.getfield 24, 3) := by decide +kernel
theorem d_C_resolves_4 : decode b_C_resolves 4 = .ok (.iload_n 1, 1) := by decide +kernel
theorem d_C_resolves_5 : decode b_C_resolves 5 = .ok (.iaload, 1) := by decide +kernel
theorem d_C_resolves_6 : decode b_C_resolves 6 = .ok (.iload_n 3, 1) := by decide +kernel
theorem d_C_resolves_7 : decode b_C_resolves 7 = .ok (.invokestatic 81, 3) := by decide +kernel
theorem d_C_resolves_10 : decode b_C_resolves 10 = .ok (.iand, 1) := by decide +kernel
theorem d_C_resolves_11 : decode b_C_resolves 11 = .ok (.ifCond .eq 21, 3) := by decide +kernel
theorem d_C_resolves_14 : decode b_C_resolves 14 = .ok (.aload_n 0, 1) := by decide +kernel
theorem d_C_resolves_15 : decode b_C_resolves 15 = .ok (.getfield 27, 3) := by decide +kernel
theorem d_C_resolves_18 : decode b_C_resolves 18 = .ok (.iload_n 2, 1) := by decide +kernel
theorem d_C_resolves_19 : decode b_C_resolves 19 = .ok (.iaload, 1) := by decide +kernel
theorem d_C_resolves_20 : decode b_C_resolves 20 = .ok (.iload_n 3, 1) := by decide +kernel
theorem d_C_resolves_21 : decode b_C_resolves 21 = .ok (.invokestatic 81, 3) := by decide +kernel
theorem d_C_resolves_24 : decode b_C_resolves 24 = .ok (.iand, 1) := by decide +kernel
theorem d_C_resolves_25 : decode b_C_resolves 25 = .ok (.ifCond .eq 7, 3) := by decide +kernel
theorem d_C_resolves_28 : decode b_C_resolves 28 = .ok (.iconst 1, 1) := by decide +kernel
theorem d_C_resolves_29 : decode b_C_resolves 29 = .ok (.goto 4, 3) := by decide +kernel
theorem d_C_resolves_32 : decode b_C_resolves 32 = .ok (.iconst 0, 1) := by decide +kernel
theorem d_C_resolves_33 : decode b_C_resolves 33 = .ok (.ireturn, 1) := by decide +kernel
theorem d_C_clashes_0 : decode b_C_clashes 0 = .ok (.aload_n 0, 1) := by decide +kernel
theorem d_C_clashes_1 : decode b_C_clashes 1 = .ok (.iload_n 1, 1) := by decide +kernel
theorem d_C_clashes_2 : decode b_C_clashes 2 = .ok (.iload_n 2, 1) := by decide +kernel
theorem d_C_clashes_3 : decode b_C_clashes 3 = .ok (.iload_n 3, 1) := by decide +kernel
theorem d_C_clashes_4 : decode b_C_clashes 4 = .ok (.invokevirtual 65, 3) := by decide +kernel
theorem d_C_clashes_7 : decode b_C_clashes 7 = .ok (.aload_n 0, 1) := by decide +kernel
theorem d_C_clashes_8 : decode b_C_clashes 8 = .ok (.iload_n 1, 1) := by decide +kernel
theorem d_C_clashes_9 : decode b_C_clashes 9 = .ok (.iload_n 2, 1) := by decide +kernel
theorem d_C_clashes_10 : decode b_C_clashes 10 = .ok (.iload_n 3, 1) := by decide +kernel
theorem d_C_clashes_11 : decode b_C_clashes 11 = .ok (.invokevirtual 69, 3) := by decide +kernel
theorem d_C_clashes_14 : decode b_C_clashes 14 = .ok (.iand, 1) := by decide +kernel
theorem d_C_clashes_15 : decode b_C_clashes 15 = .ok (.ifCond .eq 7, 3) := by decide +kernel
theorem d_C_clashes_18 : decode b_C_clashes 18 = .ok (.iconst 1, 1) := by decide +kernel
theorem d_C_clashes_19 : decode b_C_clashes 19 = .ok (.goto 4, 3) := by decide +kernel
theorem d_C_clashes_22 : decode b_C_clashes 22 = .ok (.iconst 0, 1) := by decide +kernel
theorem d_C_clashes_23 : decode b_C_clashes 23 = .ok (.ireturn, 1) := by decide +kernel
theorem d_C_positiveRest_0 : decode b_C_positiveRest 0 = .ok (.aload_n 0, 1) := by decide +kernel
theorem d_C_positiveRest_1 : decode b_C_positiveRest 1 = .ok (.getfield 24, 3) := by decide +kernel
theorem d_C_positiveRest_4 : decode b_C_positiveRest 4 = .ok (.iload_n 1, 1) := by decide +kernel
theorem d_C_positiveRest_5 : decode b_C_positiveRest 5 = .ok (.iaload, 1) := by decide +kernel
theorem d_C_positiveRest_6 : decode b_C_positiveRest 6 = .ok (.aload_n 0, 1) := by decide +kernel
theorem d_C_positiveRest_7 : decode b_C_positiveRest 7 = .ok (.getfield 24, 3) := by decide +kernel
theorem d_C_positiveRest_10 : decode b_C_positiveRest 10 = .ok (.iload_n 2, 1) := by decide +kernel
theorem d_C_positiveRest_11 : decode b_C_positiveRest 11 = .ok (.iaload, 1) := by decide +kernel
theorem d_C_positiveRest_12 : decode b_C_positiveRest 12 = .ok (.ior, 1) := by decide +kernel
theorem d_C_positiveRest_13 : decode b_C_positiveRest 13 = .ok (.iload_n 3, 1) := by decide +kernel
theorem d_C_positiveRest_14 : decode b_C_positiveRest 14 = .ok (.invokestatic 81, 3) := by decide +kernel
theorem d_C_positiveRest_17 : decode b_C_positiveRest 17 = .ok (.iconst (-1), 1) := by decide +kernel
theorem d_C_positiveRest_18 : decode b_C_positiveRest 18 = .ok (.ixor, 1) := by decide +kernel
theorem d_C_positiveRest_19 : decode b_C_positiveRest 19 = .ok (.iand, 1) := by decide +kernel
theorem d_C_positiveRest_20 : decode b_C_positiveRest 20 = .ok (.ireturn, 1) := by decide +kernel
theorem d_C_negativeRest_0 : decode b_C_negativeRest 0 = .ok (.aload_n 0, 1) := by decide +kernel
theorem d_C_negativeRest_1 : decode b_C_negativeRest 1 = .ok (.getfield 27, 3) := by decide +kernel
theorem d_C_negativeRest_4 : decode b_C_negativeRest 4 = .ok (.iload_n 1, 1) := by decide +kernel
theorem d_C_negativeRest_5 : decode b_C_negativeRest 5 = .ok (.iaload, 1) := by decide +kernel
theorem d_C_negativeRest_6 : decode b_C_negativeRest 6 = .ok (.aload_n 0, 1) := by decide +kernel
theorem d_C_negativeRest_7 : decode b_C_negativeRest 7 = .ok (.getfield 27, 3) := by decide +kernel
theorem d_C_negativeRest_10 : decode b_C_negativeRest 10 = .ok (.iload_n 2, 1) := by decide +kernel
theorem d_C_negativeRest_11 : decode b_C_negativeRest 11 = .ok (.iaload, 1) := by decide +kernel
theorem d_C_negativeRest_12 : decode b_C_negativeRest 12 = .ok (.ior, 1) := by decide +kernel
theorem d_C_negativeRest_13 : decode b_C_negativeRest 13 = .ok (.iload_n 3, 1) := by decide +kernel
theorem d_C_negativeRest_14 : decode b_C_negativeRest 14 = .ok (.invokestatic 81, 3) := by decide +kernel
theorem d_C_negativeRest_17 : decode b_C_negativeRest 17 = .ok (.iconst (-1), 1) := by decide +kernel
theorem d_C_negativeRest_18 : decode b_C_negativeRest 18 = .ok (.ixor, 1) := by decide +kernel
theorem d_C_negativeRest_19 : decode b_C_negativeRest 19 = .ok (.iand, 1) := by decide +kernel
theorem d_C_negativeRest_20 : decode b_C_negativeRest 20 = .ok (.ireturn, 1) := by decide +kernel
theorem d_C_resolveAway_0 : decode b_C_resolveAway 0 = .ok (.aload_n 0, 1) := by decide +kernel
theorem d_C_resolveAway_1 : decode b_C_resolveAway 1 = .ok (.invokevirtual 85, 3) := by decide +kernel
theorem d_C_resolveAway_4 : decode b_C_resolveAway 4 = .ok (.iconst 1, 1) := by decide +kernel
theorem d_C_resolveAway_5 : decode b_C_resolveAway 5 = .ok (.istore_n 2, 1) := by decide +kernel
theorem d_C_resolveAway_6 : decode b_C_resolveAway 6 = .ok (.iload_n 2, 1) := by decide +kernel
theorem d_C_resolveAway_7 : decode b_C_resolveAway 7 = .ok (.aload_n 0, 1) := by decide +kernel
theorem d_C_resolveAway_8 : decode b_C_resolveAway 8 = .ok (.getfield 37, 3) := by decide +kernel
theorem d_C_resolveAway_11 : decode b_C_resolveAway 11 = .ok (.if_icmp .gt 80, 3) := by decide +kernel
theorem d_C_resolveAway_14 : decode b_C_resolveAway 14 = .ok (.iconst 1, 1) := by decide +kernel
theorem d_C_resolveAway_15 : decode b_C_resolveAway 15 = .ok (.istore_n 3, 1) := by decide +kernel
theorem d_C_resolveAway_16 : decode b_C_resolveAway 16 = .ok (.iload_n 3, 1) := by decide +kernel
theorem d_C_resolveAway_17 : decode b_C_resolveAway 17 = .ok (.aload_n 0, 1) := by decide +kernel
theorem d_C_resolveAway_18 : decode b_C_resolveAway 18 = .ok (.getfield 37, 3) := by decide +kernel
theorem d_C_resolveAway_21 : decode b_C_resolveAway 21 = .ok (.if_icmp .gt 64, 3) := by decide +kernel
theorem d_C_resolveAway_24 : decode b_C_resolveAway 24 = .ok (.aload_n 0, 1) := by decide +kernel
theorem d_C_resolveAway_25 : decode b_C_resolveAway 25 = .ok (.getfield 30, 3) := by decide +kernel
theorem d_C_resolveAway_28 : decode b_C_resolveAway 28 = .ok (.iload_n 2, 1) := by decide +kernel
theorem d_C_resolveAway_29 : decode b_C_resolveAway 29 = .ok (.baload, 1) := by decide +kernel
theorem d_C_resolveAway_30 : decode b_C_resolveAway 30 = .ok (.ifCond .eq 49, 3) := by decide +kernel
theorem d_C_resolveAway_33 : decode b_C_resolveAway 33 = .ok (.aload_n 0, 1) := by decide +kernel
theorem d_C_resolveAway_34 : decode b_C_resolveAway 34 = .ok (.getfield 30, 3) := by decide +kernel
theorem d_C_resolveAway_37 : decode b_C_resolveAway 37 = .ok (.iload_n 3, 1) := by decide +kernel
theorem d_C_resolveAway_38 : decode b_C_resolveAway 38 = .ok (.baload, 1) := by decide +kernel
theorem d_C_resolveAway_39 : decode b_C_resolveAway 39 = .ok (.ifCond .eq 40, 3) := by decide +kernel
theorem d_C_resolveAway_42 : decode b_C_resolveAway 42 = .ok (.aload_n 0, 1) := by decide +kernel
theorem d_C_resolveAway_43 : decode b_C_resolveAway 43 = .ok (.iload_n 2, 1) := by decide +kernel
theorem d_C_resolveAway_44 : decode b_C_resolveAway 44 = .ok (.iload_n 3, 1) := by decide +kernel
theorem d_C_resolveAway_45 : decode b_C_resolveAway 45 = .ok (.iload_n 1, 1) := by decide +kernel
theorem d_C_resolveAway_46 : decode b_C_resolveAway 46 = .ok (.invokevirtual 88, 3) := by decide +kernel
theorem d_C_resolveAway_49 : decode b_C_resolveAway 49 = .ok (.ifCond .eq 30, 3) := by decide +kernel
theorem d_C_resolveAway_52 : decode b_C_resolveAway 52 = .ok (.aload_n 0, 1) := by decide +kernel
theorem d_C_resolveAway_53 : decode b_C_resolveAway 53 = .ok (.iload_n 2, 1) := by decide +kernel
theorem d_C_resolveAway_54 : decode b_C_resolveAway 54 = .ok (.iload_n 3, 1) := by decide +kernel
theorem d_C_resolveAway_55 : decode b_C_resolveAway 55 = .ok (.iload_n 1, 1) := by decide +kernel
theorem d_C_resolveAway_56 : decode b_C_resolveAway 56 = .ok (.invokevirtual 92, 3) := by decide +kernel
theorem d_C_resolveAway_59 : decode b_C_resolveAway 59 = .ok (.ifCond .eq 20, 3) := by decide +kernel
theorem d_C_resolveAway_62 : decode b_C_resolveAway 62 = .ok (.aload_n 0, 1) := by decide +kernel
theorem d_C_resolveAway_63 : decode b_C_resolveAway 63 = .ok (.invokevirtual 50, 3) := by decide +kernel
theorem d_C_resolveAway_66 : decode b_C_resolveAway 66 = .ok (.ifCond .ne 6, 3) := by decide +kernel
theorem d_C_resolveAway_69 : decode b_C_resolveAway 69 = .ok (.bipush (-3), 2) := by decide +kernel
theorem d_C_resolveAway_71 : decode b_C_resolveAway 71 = .ok (.ireturn, 1) := by decide +kernel
theorem d_C_resolveAway_72 : decode b_C_resolveAway 72 = .ok (.aload_n 0, 1) := by decide +kernel
theorem d_C_resolveAway_73 : decode b_C_resolveAway 73 = .ok (.iload_n 2, 1) := by decide +kernel
theorem d_C_resolveAway_74 : decode b_C_resolveAway 74 = .ok (.iload_n 3, 1) := by decide +kernel
theorem d_C_resolveAway_75 : decode b_C_resolveAway 75 = .ok (.iload_n 1, 1) := by decide +kernel
theorem d_C_resolveAway_76 : decode b_C_resolveAway 76 = .ok (.invokevirtual 95, 3) := by decide +kernel
theorem d_C_resolveAway_79 : decode b_C_resolveAway 79 = .ok (.iinc 3 1, 3) := by decide +kernel
theorem d_C_resolveAway_82 : decode b_C_resolveAway 82 = .ok (.goto (-66), 3) := by decide +kernel
theorem d_C_resolveAway_85 : decode b_C_resolveAway 85 = .ok (.iinc 2 1, 3) := by decide +kernel
theorem d_C_resolveAway_88 : decode b_C_resolveAway 88 = .ok (.goto (-82), 3) := by decide +kernel
theorem d_C_resolveAway_91 : decode b_C_resolveAway 91 = .ok (.aload_n 0, 1) := by decide +kernel
theorem d_C_resolveAway_92 : decode b_C_resolveAway 92 = .ok (.iload_n 1, 1) := by decide +kernel
theorem d_C_resolveAway_93 : decode b_C_resolveAway 93 = .ok (.invokevirtual 99, 3) := by decide +kernel
theorem d_C_resolveAway_96 : decode b_C_resolveAway 96 = .ok (.aload_n 0, 1) := by decide +kernel
theorem d_C_resolveAway_97 : decode b_C_resolveAway 97 = .ok (.invokevirtual 103, 3) := by decide +kernel
theorem d_C_resolveAway_100 : decode b_C_resolveAway 100 = .ok (.ireturn, 1) := by decide +kernel
theorem d_C_isNews_0 : decode b_C_isNews 0 = .ok (.aload_n 0, 1) := by decide +kernel
theorem d_C_isNews_1 : decode b_C_isNews 1 = .ok (.iload_n 1, 1) := by decide +kernel
theorem d_C_isNews_2 : decode b_C_isNews 2 = .ok (.iload_n 2, 1) := by decide +kernel
theorem d_C_isNews_3 : decode b_C_isNews 3 = .ok (.iload_n 3, 1) := by decide +kernel
theorem d_C_isNews_4 : decode b_C_isNews 4 = .ok (.invokevirtual 107, 3) := by decide +kernel
theorem d_C_isNews_7 : decode b_C_isNews 7 = .ok (.ifCond .eq 5, 3) := by decide +kernel
theorem d_C_isNews_10 : decode b_C_isNews 10 = .ok (.iconst 0, 1) := by decide +kernel
theorem d_C_isNews_11 : decode b_C_isNews 11 = .ok (.ireturn, 1) := by decide +kernel
theorem d_C_isNews_12 : decode b_C_isNews 12 = .ok (.aload_n 0, 1) := by decide +kernel
theorem d_C_isNews_13 : decode b_C_isNews 13 = .ok (.iload_n 1, 1) := by decide +kernel
theorem d_C_isNews_14 : decode b_C_isNews 14 = .ok (.iload_n 2, 1) := by decide +kernel
theorem d_C_isNews_15 : decode b_C_isNews 15 = .ok (.iload_n 3, 1) := by decide +kernel
theorem d_C_isNews_16 : decode b_C_isNews 16 = .ok (.invokevirtual 65, 3) := by decide +kernel
theorem d_C_isNews_19 : decode b_C_isNews 19 = .ok (.istore 4, 2) := by decide +kernel
theorem d_C_isNews_21 : decode b_C_isNews 21 = .ok (.aload_n 0, 1) := by decide +kernel
theorem d_C_isNews_22 : decode b_C_isNews 22 = .ok (.iload_n 1, 1) := by decide +kernel
theorem d_C_isNews_23 : decode b_C_isNews 23 = .ok (.iload_n 2, 1) := by decide +kernel
theorem d_C_isNews_24 : decode b_C_isNews 24 = .ok (.iload_n 3, 1) := by decide +kernel
theorem d_C_isNews_25 : decode b_C_isNews 25 = .ok (.invokevirtual 69, 3) := by decide +kernel
theorem d_C_isNews_28 : decode b_C_isNews 28 = .ok (.istore 5, 2) := by decide +kernel
theorem d_C_isNews_30 : decode b_C_isNews 30 = .ok (.iconst 1, 1) := by decide +kernel
theorem d_C_isNews_31 : decode b_C_isNews 31 = .ok (.istore 6, 2) := by decide +kernel
theorem d_C_isNews_33 : decode b_C_isNews 33 = .ok (.iload 6, 2) := by decide +kernel
theorem d_C_isNews_35 : decode b_C_isNews 35 = .ok (.aload_n 0, 1) := by decide +kernel
theorem d_C_isNews_36 : decode b_C_isNews 36 = .ok (.getfield 41, 3) := by decide +kernel
theorem d_C_isNews_39 : decode b_C_isNews 39 = .ok (.if_icmp .gt 35, 3) := by decide +kernel
theorem d_C_isNews_42 : decode b_C_isNews 42 = .ok (.aload_n 0, 1) := by decide +kernel
theorem d_C_isNews_43 : decode b_C_isNews 43 = .ok (.getfield 24, 3) := by decide +kernel
theorem d_C_isNews_46 : decode b_C_isNews 46 = .ok (.iload 6, 2) := by decide +kernel
theorem d_C_isNews_48 : decode b_C_isNews 48 = .ok (.iaload, 1) := by decide +kernel
theorem d_C_isNews_49 : decode b_C_isNews 49 = .ok (.iload 4, 2) := by decide +kernel
theorem d_C_isNews_51 : decode b_C_isNews 51 = .ok (.if_icmp .ne 17, 3) := by decide +kernel
theorem d_C_isNews_54 : decode b_C_isNews 54 = .ok (.aload_n 0, 1) := by decide +kernel
theorem d_C_isNews_55 : decode b_C_isNews 55 = .ok (.getfield 27, 3) := by decide +kernel
theorem d_C_isNews_58 : decode b_C_isNews 58 = .ok (.iload 6, 2) := by decide +kernel
theorem d_C_isNews_60 : decode b_C_isNews 60 = .ok (.iaload, 1) := by decide +kernel
theorem d_C_isNews_61 : decode b_C_isNews 61 = .ok (.iload 5, 2) := by decide +kernel
theorem d_C_isNews_63 : decode b_C_isNews 63 = .ok (.if_icmp .ne 5, 3) := by decide +kernel
theorem d_C_isNews_66 : decode b_C_isNews 66 = .ok (.iconst 0, 1) := by decide +kernel
theorem d_C_isNews_67 : decode b_C_isNews 67 = .ok (.ireturn, 1) := by decide +kernel
theorem d_C_isNews_68 : decode b_C_isNews 68 = .ok (.iinc 6 1, 3) := by decide +kernel
theorem d_C_isNews_71 : decode b_C_isNews 71 = .ok (.goto (-38), 3) := by decide +kernel
theorem d_C_isNews_74 : decode b_C_isNews 74 = .ok (.iconst 1, 1) := by decide +kernel
theorem d_C_isNews_75 : decode b_C_isNews 75 = .ok (.ireturn, 1) := by decide +kernel
theorem d_C_retire_0 : decode b_C_retire 0 = .ok (.iconst 1, 1) := by decide +kernel
theorem d_C_retire_1 : decode b_C_retire 1 = .ok (.istore_n 2, 1) := by decide +kernel
theorem d_C_retire_2 : decode b_C_retire 2 = .ok (.iload_n 2, 1) := by decide +kernel
theorem d_C_retire_3 : decode b_C_retire 3 = .ok (.aload_n 0, 1) := by decide +kernel
theorem d_C_retire_4 : decode b_C_retire 4 = .ok (.getfield 37, 3) := by decide +kernel
theorem d_C_retire_7 : decode b_C_retire 7 = .ok (.if_icmp .gt 37, 3) := by decide +kernel
theorem d_C_retire_10 : decode b_C_retire 10 = .ok (.aload_n 0, 1) := by decide +kernel
theorem d_C_retire_11 : decode b_C_retire 11 = .ok (.getfield 24, 3) := by decide +kernel
theorem d_C_retire_14 : decode b_C_retire 14 = .ok (.iload_n 2, 1) := by decide +kernel
theorem d_C_retire_15 : decode b_C_retire 15 = .ok (.iaload, 1) := by decide +kernel
theorem d_C_retire_16 : decode b_C_retire 16 = .ok (.aload_n 0, 1) := by decide +kernel
theorem d_C_retire_17 : decode b_C_retire 17 = .ok (.getfield 27, 3) := by decide +kernel
theorem d_C_retire_20 : decode b_C_retire 20 = .ok (.iload_n 2, 1) := by decide +kernel
theorem d_C_retire_21 : decode b_C_retire 21 = .ok (.iaload, 1) := by decide +kernel
theorem d_C_retire_22 : decode b_C_retire 22 = .ok (.ior, 1) := by decide +kernel
theorem d_C_retire_23 : decode b_C_retire 23 = .ok (.iload_n 1, 1) := by decide +kernel
theorem d_C_retire_24 : decode b_C_retire 24 = .ok (.invokestatic 81, 3) := by decide +kernel
theorem d_C_retire_27 : decode b_C_retire 27 = .ok (.iand, 1) := by decide +kernel
theorem d_C_retire_28 : decode b_C_retire 28 = .ok (.ifCond .eq 10, 3) := by decide +kernel
theorem d_C_retire_31 : decode b_C_retire 31 = .ok (.aload_n 0, 1) := by decide +kernel
theorem d_C_retire_32 : decode b_C_retire 32 = .ok (.getfield 30, 3) := by decide +kernel
theorem d_C_retire_35 : decode b_C_retire 35 = .ok (.iload_n 2, 1) := by decide +kernel
theorem d_C_retire_36 : decode b_C_retire 36 = .ok (.iconst 0, 1) := by decide +kernel
theorem d_C_retire_37 : decode b_C_retire 37 = .ok (.bastore, 1) := by decide +kernel
theorem d_C_retire_38 : decode b_C_retire 38 = .ok (.iinc 2 1, 3) := by decide +kernel
theorem d_C_retire_41 : decode b_C_retire 41 = .ok (.goto (-39), 3) := by decide +kernel
theorem d_C_retire_44 : decode b_C_retire 44 = .ok (.return_, 1) := by decide +kernel
theorem d_C_isGivenOf_0 : decode b_C_isGivenOf 0 = .ok (.aload_n 0, 1) := by decide +kernel
theorem d_C_isGivenOf_1 : decode b_C_isGivenOf 1 = .ok (.getfield 9, 3) := by decide +kernel
theorem d_C_isGivenOf_4 : decode b_C_isGivenOf 4 = .ok (.iload_n 1, 1) := by decide +kernel
theorem d_C_isGivenOf_5 : decode b_C_isGivenOf 5 = .ok (.iaload, 1) := by decide +kernel
theorem d_C_isGivenOf_6 : decode b_C_isGivenOf 6 = .ok (.ifCond .eq 27, 3) := by decide +kernel
theorem d_C_isGivenOf_9 : decode b_C_isGivenOf 9 = .ok (.aload_n 0, 1) := by decide +kernel
theorem d_C_isGivenOf_10 : decode b_C_isGivenOf 10 = .ok (.getfield 9, 3) := by decide +kernel
theorem d_C_isGivenOf_13 : decode b_C_isGivenOf 13 = .ok (.iload_n 1, 1) := by decide +kernel
theorem d_C_isGivenOf_14 : decode b_C_isGivenOf 14 = .ok (.iaload, 1) := by decide +kernel
theorem d_C_isGivenOf_15 : decode b_C_isGivenOf 15 = .ok (.iload_n 2, 1) := by decide +kernel
theorem d_C_isGivenOf_16 : decode b_C_isGivenOf 16 = .ok (.if_icmp .lt 17, 3) := by decide +kernel
theorem d_C_isGivenOf_19 : decode b_C_isGivenOf 19 = .ok (.aload_n 0, 1) := by decide +kernel
theorem d_C_isGivenOf_20 : decode b_C_isGivenOf 20 = .ok (.getfield 9, 3) := by decide +kernel
theorem d_C_isGivenOf_23 : decode b_C_isGivenOf 23 = .ok (.iload_n 1, 1) := by decide +kernel
theorem d_C_isGivenOf_24 : decode b_C_isGivenOf 24 = .ok (.iaload, 1) := by decide +kernel
theorem d_C_isGivenOf_25 : decode b_C_isGivenOf 25 = .ok (.iload_n 3, 1) := by decide +kernel
theorem d_C_isGivenOf_26 : decode b_C_isGivenOf 26 = .ok (.if_icmp .gt 7, 3) := by decide +kernel
theorem d_C_isGivenOf_29 : decode b_C_isGivenOf 29 = .ok (.iconst 1, 1) := by decide +kernel
theorem d_C_isGivenOf_30 : decode b_C_isGivenOf 30 = .ok (.goto 4, 3) := by decide +kernel
theorem d_C_isGivenOf_33 : decode b_C_isGivenOf 33 = .ok (.iconst 0, 1) := by decide +kernel
theorem d_C_isGivenOf_34 : decode b_C_isGivenOf 34 = .ok (.ireturn, 1) := by decide +kernel
theorem d_C_occurring_0 : decode b_C_occurring 0 = .ok (.iconst 0, 1) := by decide +kernel
theorem d_C_occurring_1 : decode b_C_occurring 1 = .ok (.istore_n 3, 1) := by decide +kernel
theorem d_C_occurring_2 : decode b_C_occurring 2 = .ok (.iconst 1, 1) := by decide +kernel
theorem d_C_occurring_3 : decode b_C_occurring 3 = .ok (.istore 4, 2) := by decide +kernel
theorem d_C_occurring_5 : decode b_C_occurring 5 = .ok (.iload 4, 2) := by decide +kernel
theorem d_C_occurring_7 : decode b_C_occurring 7 = .ok (.aload_n 0, 1) := by decide +kernel
theorem d_C_occurring_8 : decode b_C_occurring 8 = .ok (.getfield 37, 3) := by decide +kernel
theorem d_C_occurring_11 : decode b_C_occurring 11 = .ok (.if_icmp .gt 38, 3) := by decide +kernel
theorem d_C_occurring_14 : decode b_C_occurring 14 = .ok (.aload_n 0, 1) := by decide +kernel
theorem d_C_occurring_15 : decode b_C_occurring 15 = .ok (.iload 4, 2) := by decide +kernel
theorem d_C_occurring_17 : decode b_C_occurring 17 = .ok (.iload_n 1, 1) := by decide +kernel
theorem d_C_occurring_18 : decode b_C_occurring 18 = .ok (.iload_n 2, 1) := by decide +kernel
theorem d_C_occurring_19 : decode b_C_occurring 19 = .ok (.invokevirtual 110, 3) := by decide +kernel
theorem d_C_occurring_22 : decode b_C_occurring 22 = .ok (.ifCond .eq 21, 3) := by decide +kernel
theorem d_C_occurring_25 : decode b_C_occurring 25 = .ok (.iload_n 3, 1) := by decide +kernel
theorem d_C_occurring_26 : decode b_C_occurring 26 = .ok (.aload_n 0, 1) := by decide +kernel
theorem d_C_occurring_27 : decode b_C_occurring 27 = .ok (.getfield 24, 3) := by decide +kernel
theorem d_C_occurring_30 : decode b_C_occurring 30 = .ok (.iload 4, 2) := by decide +kernel
theorem d_C_occurring_32 : decode b_C_occurring 32 = .ok (.iaload, 1) := by decide +kernel
theorem d_C_occurring_33 : decode b_C_occurring 33 = .ok (.aload_n 0, 1) := by decide +kernel
theorem d_C_occurring_34 : decode b_C_occurring 34 = .ok (.getfield 27, 3) := by decide +kernel
theorem d_C_occurring_37 : decode b_C_occurring 37 = .ok (.iload 4, 2) := by decide +kernel
theorem d_C_occurring_39 : decode b_C_occurring 39 = .ok (.iaload, 1) := by decide +kernel
theorem d_C_occurring_40 : decode b_C_occurring 40 = .ok (.ior, 1) := by decide +kernel
theorem d_C_occurring_41 : decode b_C_occurring 41 = .ok (.ior, 1) := by decide +kernel
theorem d_C_occurring_42 : decode b_C_occurring 42 = .ok (.istore_n 3, 1) := by decide +kernel
theorem d_C_occurring_43 : decode b_C_occurring 43 = .ok (.iinc 4 1, 3) := by decide +kernel
theorem d_C_occurring_46 : decode b_C_occurring 46 = .ok (.goto (-41), 3) := by decide +kernel
theorem d_C_occurring_49 : decode b_C_occurring 49 = .ok (.iload_n 3, 1) := by decide +kernel
theorem d_C_occurring_50 : decode b_C_occurring 50 = .ok (.ireturn, 1) := by decide +kernel
theorem d_C_allTrue_0 : decode b_C_allTrue 0 = .ok (.ldc2_w 113, 3) := by decide +kernel
theorem d_C_allTrue_3 : decode b_C_allTrue 3 = .ok (.lstore 4, 2) := by decide +kernel
theorem d_C_allTrue_5 : decode b_C_allTrue 5 = .ok (.iconst 1, 1) := by decide +kernel
theorem d_C_allTrue_6 : decode b_C_allTrue 6 = .ok (.istore 6, 2) := by decide +kernel
theorem d_C_allTrue_8 : decode b_C_allTrue 8 = .ok (.iload 6, 2) := by decide +kernel
theorem d_C_allTrue_10 : decode b_C_allTrue 10 = .ok (.aload_n 0, 1) := by decide +kernel
theorem d_C_allTrue_11 : decode b_C_allTrue 11 = .ok (.getfield 37, 3) := by decide +kernel
theorem d_C_allTrue_14 : decode b_C_allTrue 14 = .ok (.if_icmp .gt 43, 3) := by decide +kernel
theorem d_C_allTrue_17 : decode b_C_allTrue 17 = .ok (.aload_n 0, 1) := by decide +kernel
theorem d_C_allTrue_18 : decode b_C_allTrue 18 = .ok (.iload 6, 2) := by decide +kernel
theorem d_C_allTrue_20 : decode b_C_allTrue 20 = .ok (.iload_n 1, 1) := by decide +kernel
theorem d_C_allTrue_21 : decode b_C_allTrue 21 = .ok (.iload_n 2, 1) := by decide +kernel
theorem d_C_allTrue_22 : decode b_C_allTrue 22 = .ok (.invokevirtual 110, 3) := by decide +kernel
theorem d_C_allTrue_25 : decode b_C_allTrue 25 = .ok (.ifCond .eq 26, 3) := by decide +kernel
theorem d_C_allTrue_28 : decode b_C_allTrue 28 = .ok (.lload 4, 2) := by decide +kernel
theorem d_C_allTrue_30 : decode b_C_allTrue 30 = .ok (.aload_n 0, 1) := by decide +kernel
theorem d_C_allTrue_31 : decode b_C_allTrue 31 = .ok (.getfield 24, 3) := by decide +kernel
theorem d_C_allTrue_34 : decode b_C_allTrue 34 = .ok (.iload 6, 2) := by decide +kernel
theorem d_C_allTrue_36 : decode b_C_allTrue 36 = .ok (.iaload, 1) := by decide +kernel
theorem d_C_allTrue_37 : decode b_C_allTrue 37 = .ok (.aload_n 0, 1) := by decide +kernel
theorem d_C_allTrue_38 : decode b_C_allTrue 38 = .ok (.getfield 27, 3) := by decide +kernel
theorem d_C_allTrue_41 : decode b_C_allTrue 41 = .ok (.iload 6, 2) := by decide +kernel
theorem d_C_allTrue_43 : decode b_C_allTrue 43 = .ok (.iaload, 1) := by decide +kernel
theorem d_C_allTrue_44 : decode b_C_allTrue 44 = .ok (.iload_n 3, 1) := by decide +kernel
theorem d_C_allTrue_45 : decode b_C_allTrue 45 = .ok (.invokestatic 115, 3) := by decide +kernel
theorem d_C_allTrue_48 : decode b_C_allTrue 48 = .ok (.land, 1) := by decide +kernel
theorem d_C_allTrue_49 : decode b_C_allTrue 49 = .ok (.lstore 4, 2) := by decide +kernel
theorem d_C_allTrue_51 : decode b_C_allTrue 51 = .ok (.iinc 6 1, 3) := by decide +kernel
theorem d_C_allTrue_54 : decode b_C_allTrue 54 = .ok (.goto (-46), 3) := by decide +kernel
theorem d_C_allTrue_57 : decode b_C_allTrue 57 = .ok (.lload 4, 2) := by decide +kernel
theorem d_C_allTrue_59 : decode b_C_allTrue 59 = .ok (.lreturn, 1) := by decide +kernel
theorem d_C_liveOnes_0 : decode b_C_liveOnes 0 = .ok (.iconst 0, 1) := by decide +kernel
theorem d_C_liveOnes_1 : decode b_C_liveOnes 1 = .ok (.istore_n 1, 1) := by decide +kernel
theorem d_C_liveOnes_2 : decode b_C_liveOnes 2 = .ok (.iconst 1, 1) := by decide +kernel
theorem d_C_liveOnes_3 : decode b_C_liveOnes 3 = .ok (.istore_n 2, 1) := by decide +kernel
theorem d_C_liveOnes_4 : decode b_C_liveOnes 4 = .ok (.iload_n 2, 1) := by decide +kernel
theorem d_C_liveOnes_5 : decode b_C_liveOnes 5 = .ok (.aload_n 0, 1) := by decide +kernel
theorem d_C_liveOnes_6 : decode b_C_liveOnes 6 = .ok (.getfield 37, 3) := by decide +kernel
theorem d_C_liveOnes_9 : decode b_C_liveOnes 9 = .ok (.if_icmp .gt 26, 3) := by decide +kernel
theorem d_C_liveOnes_12 : decode b_C_liveOnes 12 = .ok (.iload_n 1, 1) := by decide +kernel
theorem d_C_liveOnes_13 : decode b_C_liveOnes 13 = .ok (.aload_n 0, 1) := by decide +kernel
theorem d_C_liveOnes_14 : decode b_C_liveOnes 14 = .ok (.getfield 30, 3) := by decide +kernel
theorem d_C_liveOnes_17 : decode b_C_liveOnes 17 = .ok (.iload_n 2, 1) := by decide +kernel
theorem d_C_liveOnes_18 : decode b_C_liveOnes 18 = .ok (.baload, 1) := by decide +kernel
theorem d_C_liveOnes_19 : decode b_C_liveOnes 19 = .ok (.ifCond .eq 7, 3) := by decide +kernel
theorem d_C_liveOnes_22 : decode b_C_liveOnes 22 = .ok (.iconst 1, 1) := by decide +kernel
theorem d_C_liveOnes_23 : decode b_C_liveOnes 23 = .ok (.goto 4, 3) := by decide +kernel
theorem d_C_liveOnes_26 : decode b_C_liveOnes 26 = .ok (.iconst 0, 1) := by decide +kernel
theorem d_C_liveOnes_27 : decode b_C_liveOnes 27 = .ok (.iadd, 1) := by decide +kernel
theorem d_C_liveOnes_28 : decode b_C_liveOnes 28 = .ok (.istore_n 1, 1) := by decide +kernel
theorem d_C_liveOnes_29 : decode b_C_liveOnes 29 = .ok (.iinc 2 1, 3) := by decide +kernel
theorem d_C_liveOnes_32 : decode b_C_liveOnes 32 = .ok (.goto (-28), 3) := by decide +kernel
theorem d_C_liveOnes_35 : decode b_C_liveOnes 35 = .ok (.iload_n 1, 1) := by decide +kernel
theorem d_C_liveOnes_36 : decode b_C_liveOnes 36 = .ok (.ireturn, 1) := by decide +kernel
theorem d_C_neededOnes_0 : decode b_C_neededOnes 0 = .ok (.iconst 0, 1) := by decide +kernel
theorem d_C_neededOnes_1 : decode b_C_neededOnes 1 = .ok (.istore_n 1, 1) := by decide +kernel
theorem d_C_neededOnes_2 : decode b_C_neededOnes 2 = .ok (.iconst 1, 1) := by decide +kernel
theorem d_C_neededOnes_3 : decode b_C_neededOnes 3 = .ok (.istore_n 2, 1) := by decide +kernel
theorem d_C_neededOnes_4 : decode b_C_neededOnes 4 = .ok (.iload_n 2, 1) := by decide +kernel
theorem d_C_neededOnes_5 : decode b_C_neededOnes 5 = .ok (.aload_n 0, 1) := by decide +kernel
theorem d_C_neededOnes_6 : decode b_C_neededOnes 6 = .ok (.getfield 78, 3) := by decide +kernel
theorem d_C_neededOnes_9 : decode b_C_neededOnes 9 = .ok (.if_icmp .gt 26, 3) := by decide +kernel
theorem d_C_neededOnes_12 : decode b_C_neededOnes 12 = .ok (.iload_n 1, 1) := by decide +kernel
theorem d_C_neededOnes_13 : decode b_C_neededOnes 13 = .ok (.aload_n 0, 1) := by decide +kernel
theorem d_C_neededOnes_14 : decode b_C_neededOnes 14 = .ok (.getfield 34, 3) := by decide +kernel
theorem d_C_neededOnes_17 : decode b_C_neededOnes 17 = .ok (.iload_n 2, 1) := by decide +kernel
theorem d_C_neededOnes_18 : decode b_C_neededOnes 18 = .ok (.baload, 1) := by decide +kernel
theorem d_C_neededOnes_19 : decode b_C_neededOnes 19 = .ok (.ifCond .eq 7, 3) := by decide +kernel
theorem d_C_neededOnes_22 : decode b_C_neededOnes 22 = .ok (.iconst 1, 1) := by decide +kernel
theorem d_C_neededOnes_23 : decode b_C_neededOnes 23 = .ok (.goto 4, 3) := by decide +kernel
theorem d_C_neededOnes_26 : decode b_C_neededOnes 26 = .ok (.iconst 0, 1) := by decide +kernel
theorem d_C_neededOnes_27 : decode b_C_neededOnes 27 = .ok (.iadd, 1) := by decide +kernel
theorem d_C_neededOnes_28 : decode b_C_neededOnes 28 = .ok (.istore_n 1, 1) := by decide +kernel
theorem d_C_neededOnes_29 : decode b_C_neededOnes 29 = .ok (.iinc 2 1, 3) := by decide +kernel
theorem d_C_neededOnes_32 : decode b_C_neededOnes 32 = .ok (.goto (-28), 3) := by decide +kernel
theorem d_C_neededOnes_35 : decode b_C_neededOnes 35 = .ok (.iload_n 1, 1) := by decide +kernel
theorem d_C_neededOnes_36 : decode b_C_neededOnes 36 = .ok (.ireturn, 1) := by decide +kernel
end
section
/-! THE WALK'S OWN ROWS: what every walk has (CX), the world that it stands in (WH), contracts (MTi, MTl, MTv), and the kit's rows over them -/
def pt6 (j : Nat) : Int64 := if j = 0 then -6148914691236517206 else if j = 1 then -3689348814741910324 else if j = 2 then -1085102592571150096 else if j = 3 then -71777214294589696 else if j = 4 then -281470681808896 else -4294967296
def pat (j : Nat) : Value := .long (pt6 j)
abbrev TYS (ca : Nat → ClassId) : List (ClassId × FieldType) := [(ca 0, .int), (ca 1, .long), (ca 2, .boolean), (ca 3, .byte)]
def NW (U : State) : Prop := ∀ w ∈ nw_tbl, va_Nw w U
def EN (D : va_G) (ca : Nat → ClassId) (tp : Nat) (A : Nat → Prop) (U : State) (H : Heap) : Prop :=
  va_K D classes (TYS ca) U ∧ NW U ∧ va_Z R_U "PATTERNS" "[J" (.ref tp) A U H ∧ va_T .long tp 6 pat A U H
def WH (D : va_G) (A : Nat → Prop) (s : State) (ws : va_W) (H : Heap) (locs : List Loc) : Prop := va_P D classes ws H ∧ va_D A ws ∧ va_S A s.heap H locs
theorem NW.warm {s U : State} (hW : s.WarmedH U.vm) (h : NW s) : NW U := by
  intro w hw
  have h1 := h w hw
  have h2 : isNest w = true := (List.mem_filter.mp hw).2
  cases w <;> first | exact va_Nw.warmF hW h1 | exact va_Nw.warmM hW h1 | (simp [isNest] at h2)
theorem NW.same {u U : State} (hvm : u.vm = U.vm) (h : NW u) : NW U := by
  intro w hw
  have h1 := h w hw
  have h2 : isNest w = true := (List.mem_filter.mp hw).2
  cases w <;> first | exact va_Nw.same rfl hvm h1 | (simp [isNest] at h2)
theorem EN.same {D : va_G} {ca : Nat → ClassId} {tp : Nat} {A : Nat → Prop} {u U : State} {H : Heap} (hvm : u.vm = U.vm) (hv : u.vm.Alike U.vm) (h : EN D ca tp A u H) : EN D ca tp A U H :=
  ⟨va_K.moved hv h.1, NW.same hvm h.2.1, h.2.2.1.moved hv, h.2.2.2.moved hv⟩
theorem EN.call {D : va_G} {ca : Nat → ClassId} {tp : Nat} {A A' : Nat → Prop} {s U : State} {H : Heap} {locs : List Loc} (hE : EN D ca tp A s s.heap) (hS : va_S A s.heap H locs) (hF : ∀ q, A' q → A q) (hU : U.heap = H) (hW : s.WarmedH U.vm) : EN D ca tp A' U U.heap := by
  rw [hU]
  exact ⟨va_K.moved hW.alike hE.1, NW.warm hW hE.2.1, ((hE.2.2.1.kept hS.2.1).narrow hF).moved hW.alike, ((hE.2.2.2.kept hS.2.1).narrow hF).moved hW.alike⟩
def CX (p : Program) (s : State) (m : MethodId) (args : Array Value) (meth : Method) (c : Code) (cc : ByteArray) (nL : Nat) (rt : Option FieldType) (own nm : String) (D : va_G) (ca : Nat → ClassId) (tp : Nat) (A : Nat → Prop) : Prop :=
  p.tables.exec = Jvm.exec ∧ c.code = cc ∧ c.maxLocals = nL ∧ meth.sig.returnType = rt ∧ s.vm.findClass own = some m.cls ∧ (∀ w ∈ gw_tbl, w.before args s = true) ∧ meth.locks = false ∧ meth.name = nm ∧ EN D ca tp A s s.heap ∧ (∀ q, s.heap.size ≤ q → A q)
def PC (D : va_G) (ca : Nat → ClassId) (tp : Nat) (av : List Value) (ws : va_W) (sz : Nat) : Array Value → State → Prop :=
  va_Pc av (fun U => U.heap.size = sz ∧ EN D ca tp (va_A ws sz) U U.heap ∧ va_P D classes ws U.heap ∧ va_D (fun _ => True) ws)
def BW {S : Type} (D : va_G) (A : Nat → Prop) (W' : S → va_W) (u : S) (t : State) : Prop := va_P D classes (W' u) t.heap ∧ va_D A (W' u)
abbrev CW (y : MethodName) (cc : ByteArray) (nL : Nat) (rt : Option FieldType) : List Cond := Cond.code y cc nL rt :: gw_tbl
def MTi (l : Launch) (y : MethodName) (cc : ByteArray) (nL : Nat) (rt : Option FieldType) (rm : Room) (D : va_G) (ca : Nat → ClassId) (tp : Nat) (av : List Value) (ws : va_W) {S : Type} (post : Int32 → S → Prop) (W' : S → va_W) (mc ms : Nat) : Prop :=
  ∀ sz : Nat, Met l y (CW y cc nL rt) rm (PC D ca tp av ws sz) (va_Qi post (BW D (va_A ws sz) W') (va_A ws sz)) mc ms (va_A ws sz)
def MTl (l : Launch) (y : MethodName) (cc : ByteArray) (nL : Nat) (rt : Option FieldType) (rm : Room) (D : va_G) (ca : Nat → ClassId) (tp : Nat) (av : List Value) (ws : va_W) {S : Type} (post : Int64 → S → Prop) (W' : S → va_W) (mc ms : Nat) : Prop :=
  ∀ sz : Nat, Met l y (CW y cc nL rt) rm (PC D ca tp av ws sz) (va_Ql post (BW D (va_A ws sz) W') (va_A ws sz)) mc ms (va_A ws sz)
def MTv (l : Launch) (y : MethodName) (cc : ByteArray) (nL : Nat) (rt : Option FieldType) (rm : Room) (D : va_G) (ca : Nat → ClassId) (tp : Nat) (av : List Value) (ws : va_W) {S : Type} (post : S → Prop) (W' : S → va_W) (mc ms : Nat) : Prop :=
  ∀ sz : Nat, Met l y (CW y cc nL rt) rm (PC D ca tp av ws sz) (va_Qv post (BW D (va_A ws sz) W') (va_A ws sz)) mc ms (va_A ws sz)
abbrev QI {S : Type} (D : va_G) (A : Nat → Prop) (below : List Frame) (args : Array Value) (s : State) (post : Int32 → S → Prop) (W' : S → va_W) (mc ms : Nat) : State → Prop := MQ below (va_Qi post (BW D A W') A) args s mc ms A
abbrev QL {S : Type} (D : va_G) (A : Nat → Prop) (below : List Frame) (args : Array Value) (s : State) (post : Int64 → S → Prop) (W' : S → va_W) (mc ms : Nat) : State → Prop := MQ below (va_Ql post (BW D A W') A) args s mc ms A
abbrev QV {S : Type} (D : va_G) (A : Nat → Prop) (below : List Frame) (args : Array Value) (s : State) (post : S → Prop) (W' : S → va_W) (mc ms : Nat) : State → Prop := MQ below (va_Qv post (BW D A W') A) args s mc ms A
section XE
variable {l : Launch} {y : MethodName} {cc : ByteArray} {nL : Nat} {rt : Option FieldType} {rm : Room} {D : va_G} {ca : Nat → ClassId} {tp : Nat} {av : List Value} {ws : va_W} {S : Type} {W' : S → va_W} {mc ms : Nat} {own nm : String}
theorem x_entry {Qc : Nat → Array Value → State → Outcome → State → Prop} (hy : plainName y.cls = true) (ho : y.cls = own) (hn : y.name = nm) (hlen : (lg_sl av).length ≤ nL)
    (body : ∀ (p : Program) (e : Env) (s : State) (m : MethodId) (below : List Frame) (meth : Method) (c : Code) (A : Nat → Prop) (ls : Array Slot), A = va_A ws s.heap.size → CX p s m av.toArray meth c cc nL rt own nm D ca tp A → WH D A s ws s.heap [] → lv_has ls nL (lv_args 0 av) →
      W p l e rm s m av.toArray below meth c s.heap [] 0 0 (MQ below (Qc s.heap.size) av.toArray s mc ms A) (F0 m 0 ls [])) :
    ∀ sz : Nat, Met l y (CW y cc nL rt) rm (PC D ca tp av ws sz) (Qc sz) mc ms (va_A ws sz) := by
  intro sz
  refine Met.ofW (cc := cc) (maxL := nL) (ret := rt) hy rfl ?_
  intro p e s m args below meth c s₁ B hml hv
  obtain ⟨rfl, hsz, hE, hP, hD0⟩ := hv
  subst hsz; subst ho; subst hn
  have hts := atoms_spec (ws := CW y cc nL rt) B.pre
  have hD := hD0.self (sz := s.heap.size)
  rw [lg_entry_eq]
  exact body p e s m below meth c (va_A ws s.heap.size) _ rfl ⟨B.exec, B.bytes, hml, B.returns, findClass_of_methodNamed B.named, fun w hw => hts w (List.mem_cons_of_mem _ hw), B.notSynchronized, (name_of_methodNamed B.named B.method).1, hE, fun q h => Or.inr h⟩ ⟨hP, hD, va_S.rf⟩ (lv_entry av hlen)
theorem x_entryi {post : Int32 → S → Prop} (hy : plainName y.cls = true) (ho : y.cls = own) (hn : y.name = nm) (hlen : (lg_sl av).length ≤ nL)
    (body : ∀ (p : Program) (e : Env) (s : State) (m : MethodId) (below : List Frame) (meth : Method) (c : Code) (A : Nat → Prop) (ls : Array Slot), CX p s m av.toArray meth c cc nL rt own nm D ca tp A → WH D A s ws s.heap [] → lv_has ls nL (lv_args 0 av) →
      W p l e rm s m av.toArray below meth c s.heap [] 0 0 (QI D A below av.toArray s post W' mc ms) (F0 m 0 ls [])) : MTi l y cc nL rt rm D ca tp av ws post W' mc ms :=
  x_entry (Qc := fun sz => va_Qi post (BW D (va_A ws sz) W') (va_A ws sz)) hy ho hn hlen (fun p e s m below meth c A ls hAe C0 hw hl => by subst hAe; exact body p e s m below meth c _ ls C0 hw hl)
theorem x_entryl {post : Int64 → S → Prop} (hy : plainName y.cls = true) (ho : y.cls = own) (hn : y.name = nm) (hlen : (lg_sl av).length ≤ nL)
    (body : ∀ (p : Program) (e : Env) (s : State) (m : MethodId) (below : List Frame) (meth : Method) (c : Code) (A : Nat → Prop) (ls : Array Slot), CX p s m av.toArray meth c cc nL rt own nm D ca tp A → WH D A s ws s.heap [] → lv_has ls nL (lv_args 0 av) →
      W p l e rm s m av.toArray below meth c s.heap [] 0 0 (QL D A below av.toArray s post W' mc ms) (F0 m 0 ls [])) : MTl l y cc nL rt rm D ca tp av ws post W' mc ms :=
  x_entry (Qc := fun sz => va_Ql post (BW D (va_A ws sz) W') (va_A ws sz)) hy ho hn hlen (fun p e s m below meth c A ls hAe C0 hw hl => by subst hAe; exact body p e s m below meth c _ ls C0 hw hl)
theorem x_entryv {post : S → Prop} (hy : plainName y.cls = true) (ho : y.cls = own) (hn : y.name = nm) (hlen : (lg_sl av).length ≤ nL)
    (body : ∀ (p : Program) (e : Env) (s : State) (m : MethodId) (below : List Frame) (meth : Method) (c : Code) (A : Nat → Prop) (ls : Array Slot), CX p s m av.toArray meth c cc nL rt own nm D ca tp A → WH D A s ws s.heap [] → lv_has ls nL (lv_args 0 av) →
      W p l e rm s m av.toArray below meth c s.heap [] 0 0 (QV D A below av.toArray s post W' mc ms) (F0 m 0 ls [])) : MTv l y cc nL rt rm D ca tp av ws post W' mc ms :=
  x_entry (Qc := fun sz => va_Qv post (BW D (va_A ws sz) W') (va_A ws sz)) hy ho hn hlen (fun p e s m below meth c A ls hAe C0 hw hl => by subst hAe; exact body p e s m below meth c _ ls C0 hw hl)
end XE
section XR
variable {p : Program} {l : Launch} {e : Env} {R : Room} {s : State} {m : MethodId} {args : Array Value} {below : List Frame} {meth : Method} {c : Code} {H : Heap} {locs : List Loc} {cells slots : Nat} {Q : State → Prop} {cc : ByteArray} {pc : Nat} {ls : Array Slot} {rest : List Value} {D : va_G} {A : Nat → Prop} {a : Nat} {ws : va_W} {nL : Nat} {rt : Option FieldType} {own nm : String} {ca : Nat → ClassId} {tp : Nat}
theorem CX.hr (C0 : CX p s m args meth c cc nL rt own nm D ca tp A) : meth.sig.returnType = rt := C0.2.2.2.1
theorem CX.ho (C0 : CX p s m args meth c cc nL rt own nm D ca tp A) : s.vm.findClass own = some m.cls := C0.2.2.2.2.1
theorem CX.ts (C0 : CX p s m args meth c cc nL rt own nm D ca tp A) : ∀ w ∈ gw_tbl, w.before args s = true := C0.2.2.2.2.2.1
theorem CX.lk (C0 : CX p s m args meth c cc nL rt own nm D ca tp A) : meth.locks = false := C0.2.2.2.2.2.2.1
theorem CX.nme (C0 : CX p s m args meth c cc nL rt own nm D ca tp A) : meth.name = nm := C0.2.2.2.2.2.2.2.1
theorem CX.en (C0 : CX p s m args meth c cc nL rt own nm D ca tp A) : EN D ca tp A s s.heap := C0.2.2.2.2.2.2.2.2.1
theorem CX.ha (C0 : CX p s m args meth c cc nL rt own nm D ca tp A) : ∀ q, s.heap.size ≤ q → A q := C0.2.2.2.2.2.2.2.2.2
theorem WH.fr (C0 : CX p s m args meth c cc nL rt own nm D ca tp A) (hw : WH D A s ws H locs) : ∀ q, va_A ws H.size q → A q := by
  intro q h
  rcases h with ⟨k, e, h⟩ | h
  · exact hw.2.1.2 k (q, e) h
  · exact C0.ha q (Nat.le_trans hw.2.2.1 h)
theorem x_get (C0 : CX p s m args meth c cc nL rt own nm D ca tp A) (hw : WH D A s ws H locs) (q0 : Nat) {ci : Nat} {fs : List Value} (he : ws[q0]? = some (a, .inr (ci, fs))) {C : String} {T : u_T} {N : Nat} (hc : classes[ci]? = some (C, T, N)) (hin : ∀ w ∈ u_ws C T N, w ∈ gw_tbl) (k : Nat) (hk : k < N) {ref : String} {index : Nat} (hlink : Cond.fieldLink own index ref (T k).2.1 (T k).2.2.1 ∈ gw_tbl) (href : (T k).1 = ref) {v : Value} (hv : fs[k]? = some v) (hdg : decode cc pc = .ok (.getfield index, 3))
    (kk : W p l e R s m args below meth c H locs cells slots Q (F0 m (pc + 3) ls (v :: rest))) : W p l e R s m args below meth c H locs cells slots Q (F0 m pc ls (.ref a :: rest)) :=
  va_get C0.1 C0.2.1 C0.ts hin C0.ho C0.en.1 hw.1 q0 he hc k hk (C0.ts _ hlink) (fun x h => by rw [← href]; exact h) hv hdg kk
theorem x_getN (C0 : CX p s m args meth c cc nL rt own nm D ca tp A) (hw : WH D A s ws H locs) (q0 : Nat) {ci : Nat} {fs : List Value} (he : ws[q0]? = some (a, .inr (ci, fs))) {C : String} {T : u_T} {N : Nat} (hc : classes[ci]? = some (C, T, N)) (hin : ∀ w ∈ u_ws C T N, w ∈ gw_tbl) (k : Nat) (hk : k < N) {ref host : String} {index : Nat} (hlink : Cond.fieldLinkNest own index ref (T k).2.1 (T k).2.2.1 host ∈ nw_tbl) (href : (T k).1 = ref) {v : Value} (hv : fs[k]? = some v) (hdg : decode cc pc = .ok (.getfield index, 3))
    (kk : W p l e R s m args below meth c H locs cells slots Q (F0 m (pc + 3) ls (v :: rest))) : W p l e R s m args below meth c H locs cells slots Q (F0 m pc ls (.ref a :: rest)) :=
  va_getN C0.1 C0.2.1 C0.ts hin C0.ho C0.en.1 hw.1 q0 he hc k hk (va_Nw.use rfl (C0.en.2.1 _ hlink)) (fun x h => by rw [← href]; exact h) hv hdg kk
theorem x_put (C0 : CX p s m args meth c cc nL rt own nm D ca tp A) (hw : WH D A s ws H locs) (q0 : Nat) {ci : Nat} {fs : List Value} (he : ws[q0]? = some (a, .inr (ci, fs))) {C : String} {T : u_T} {N : Nat} (hc : classes[ci]? = some (C, T, N)) (hin : ∀ w ∈ u_ws C T N, w ∈ gw_tbl) {ty0 : Nat → FieldType} (hty : ∀ k, k < N → parseFieldDescriptor (T k).2.2.1 = some (ty0 k)) (hnm : ∀ a, a < N → ∀ b, b < N → a ≠ b → (T a).2.1 ≠ (T b).2.1) (k : Nat) (hk : k < N) {ref : String} {index : Nat} (hlink : Cond.fieldLink own index ref (T k).2.1 (T k).2.2.1 ∈ gw_tbl) (href : (T k).1 = ref) (hfin : (T k).2.2.2 = false) {v : Value} (hn : narrow (ty0 k) v = v) (hfit : fits (ty0 k) v = true) (hl : k < fs.length) {ws' : va_W} (hws : ws.set q0 (a, .inr (ci, fs.set k v)) = ws') (hdg : decode cc pc = .ok (.putfield index, 3))
    (kk : ∀ (H1 : Heap) (locs1 : List Loc), WH D A s ws' H1 locs1 → W p l e R s m args below meth c H1 locs1 cells slots Q (F0 m (pc + 3) ls rest)) : W p l e R s m args below meth c H locs cells slots Q (F0 m pc ls (v :: .ref a :: rest)) :=
  va_put C0.1 C0.2.1 C0.ts hin ty0 hty hnm C0.ho C0.en.1 hw.1 hw.2.1 hw.2.2 q0 he hc k hk (C0.ts _ hlink) (fun x h => by rw [← href]; exact h) hfin (hty k hk) hn hfit hl hdg (fun H1 locs1 h1 h2 h3 => kk H1 locs1 ⟨hws ▸ h1, hws ▸ h2, h3⟩)
theorem x_putN (C0 : CX p s m args meth c cc nL rt own nm D ca tp A) (hw : WH D A s ws H locs) (q0 : Nat) {ci : Nat} {fs : List Value} (he : ws[q0]? = some (a, .inr (ci, fs))) {C : String} {T : u_T} {N : Nat} (hc : classes[ci]? = some (C, T, N)) (hin : ∀ w ∈ u_ws C T N, w ∈ gw_tbl) {ty0 : Nat → FieldType} (hty : ∀ k, k < N → parseFieldDescriptor (T k).2.2.1 = some (ty0 k)) (hnm : ∀ a, a < N → ∀ b, b < N → a ≠ b → (T a).2.1 ≠ (T b).2.1) (k : Nat) (hk : k < N) {ref host : String} {index : Nat} (hlink : Cond.fieldLinkNest own index ref (T k).2.1 (T k).2.2.1 host ∈ nw_tbl) (href : (T k).1 = ref) (hfin : (T k).2.2.2 = false) {v : Value} (hn : narrow (ty0 k) v = v) (hfit : fits (ty0 k) v = true) (hl : k < fs.length) {ws' : va_W} (hws : ws.set q0 (a, .inr (ci, fs.set k v)) = ws') (hdg : decode cc pc = .ok (.putfield index, 3))
    (kk : ∀ (H1 : Heap) (locs1 : List Loc), WH D A s ws' H1 locs1 → W p l e R s m args below meth c H1 locs1 cells slots Q (F0 m (pc + 3) ls rest)) : W p l e R s m args below meth c H locs cells slots Q (F0 m pc ls (v :: .ref a :: rest)) :=
  va_putN C0.1 C0.2.1 C0.ts hin ty0 hty hnm C0.ho C0.en.1 hw.1 hw.2.1 hw.2.2 q0 he hc k hk (va_Nw.use rfl (C0.en.2.1 _ hlink)) (fun x h => by rw [← href]; exact h) hfin (hty k hk) hn hfit hl hdg (fun H1 locs1 h1 h2 h3 => kk H1 locs1 ⟨hws ▸ h1, hws ▸ h2, h3⟩)
theorem x_iald (C0 : CX p s m args meth c cc nL rt own nm D ca tp A) (hw : WH D A s ws H locs) (q0 : Nat) {n : Nat} {f : Nat → Int32} (ha : ws[q0]? = some (a, .inl (ca 0, n, .inl f))) {i : Int32} (hin : vp_in i n) (hdg : decode cc pc = .ok (.iaload, 1))
    (kk : W p l e R s m args below meth c H locs cells slots Q (F0 m (pc + 1) ls (.int (f i.toNatClampNeg) :: rest))) : W p l e R s m args below meth c H locs cells slots Q (F0 m pc ls (.int i :: .ref a :: rest)) :=
  va_iald C0.1 C0.2.1 C0.en.1 hw.1 q0 0 ha rfl hin hdg kk
theorem x_zald (C0 : CX p s m args meth c cc nL rt own nm D ca tp A) (hw : WH D A s ws H locs) (q0 : Nat) {n : Nat} {f : Nat → Int32} (ha : ws[q0]? = some (a, .inl (ca 2, n, .inl f))) {i : Int32} (hin : vp_in i n) (hdg : decode cc pc = .ok (.baload, 1))
    (kk : W p l e R s m args below meth c H locs cells slots Q (F0 m (pc + 1) ls (.int (f i.toNatClampNeg) :: rest))) : W p l e R s m args below meth c H locs cells slots Q (F0 m pc ls (.int i :: .ref a :: rest)) :=
  va_zald C0.1 C0.2.1 C0.en.1 hw.1 q0 2 ha rfl hin hdg kk
theorem x_bald (C0 : CX p s m args meth c cc nL rt own nm D ca tp A) (hw : WH D A s ws H locs) (q0 : Nat) {n : Nat} {f : Nat → Int32} (ha : ws[q0]? = some (a, .inl (ca 3, n, .inl f))) {i : Int32} (hin : vp_in i n) (hdg : decode cc pc = .ok (.baload, 1))
    (kk : W p l e R s m args below meth c H locs cells slots Q (F0 m (pc + 1) ls (.int (f i.toNatClampNeg) :: rest))) : W p l e R s m args below meth c H locs cells slots Q (F0 m pc ls (.int i :: .ref a :: rest)) :=
  va_bald C0.1 C0.2.1 C0.en.1 hw.1 q0 3 ha rfl hin hdg kk
theorem x_lald (C0 : CX p s m args meth c cc nL rt own nm D ca tp A) (hw : WH D A s ws H locs) (q0 : Nat) {n : Nat} {f : Nat → Int64} (ha : ws[q0]? = some (a, .inl (ca 1, n, .inr (.inl f)))) {i : Int32} (hin : vp_in i n) (hdg : decode cc pc = .ok (.laload, 1))
    (kk : W p l e R s m args below meth c H locs cells slots Q (F0 m (pc + 1) ls (.long (f i.toNatClampNeg) :: rest))) : W p l e R s m args below meth c H locs cells slots Q (F0 m pc ls (.int i :: .ref a :: rest)) :=
  va_lald C0.1 C0.2.1 C0.en.1 hw.1 q0 1 ha rfl hin hdg kk
theorem x_iast (C0 : CX p s m args meth c cc nL rt own nm D ca tp A) (hw : WH D A s ws H locs) (q0 : Nat) {n : Nat} {f : Nat → Int32} (ha : ws[q0]? = some (a, .inl (ca 0, n, .inl f))) {i x : Int32} (hin : vp_in i n) {ws' : va_W} (hws : ws.set q0 (a, .inl (ca 0, n, .inl (upd f i.toNatClampNeg x))) = ws') (hdg : decode cc pc = .ok (.iastore, 1))
    (kk : ∀ (H1 : Heap) (locs1 : List Loc), WH D A s ws' H1 locs1 → W p l e R s m args below meth c H1 locs1 cells slots Q (F0 m (pc + 1) ls rest)) : W p l e R s m args below meth c H locs cells slots Q (F0 m pc ls (.int x :: .int i :: .ref a :: rest)) :=
  va_iast C0.1 C0.2.1 C0.en.1 hw.1 hw.2.1 hw.2.2 q0 0 ha rfl hin hdg (fun H1 locs1 h1 h2 h3 => kk H1 locs1 ⟨hws ▸ h1, hws ▸ h2, h3⟩)
theorem x_zast (C0 : CX p s m args meth c cc nL rt own nm D ca tp A) (hw : WH D A s ws H locs) (q0 : Nat) {n : Nat} {f : Nat → Int32} (ha : ws[q0]? = some (a, .inl (ca 2, n, .inl f))) {i x : Int32} (hin : vp_in i n) {ws' : va_W} (hws : ws.set q0 (a, .inl (ca 2, n, .inl (upd f i.toNatClampNeg (vp_nar .boolean x)))) = ws') (hdg : decode cc pc = .ok (.bastore, 1))
    (kk : ∀ (H1 : Heap) (locs1 : List Loc), WH D A s ws' H1 locs1 → W p l e R s m args below meth c H1 locs1 cells slots Q (F0 m (pc + 1) ls rest)) : W p l e R s m args below meth c H locs cells slots Q (F0 m pc ls (.int x :: .int i :: .ref a :: rest)) :=
  va_zast C0.1 C0.2.1 C0.en.1 hw.1 hw.2.1 hw.2.2 q0 2 ha rfl hin hdg (fun H1 locs1 h1 h2 h3 => kk H1 locs1 ⟨hws ▸ h1, hws ▸ h2, h3⟩)
theorem x_bast (C0 : CX p s m args meth c cc nL rt own nm D ca tp A) (hw : WH D A s ws H locs) (q0 : Nat) {n : Nat} {f : Nat → Int32} (ha : ws[q0]? = some (a, .inl (ca 3, n, .inl f))) {i x : Int32} (hin : vp_in i n) {ws' : va_W} (hws : ws.set q0 (a, .inl (ca 3, n, .inl (upd f i.toNatClampNeg (vp_nar .byte x)))) = ws') (hdg : decode cc pc = .ok (.bastore, 1))
    (kk : ∀ (H1 : Heap) (locs1 : List Loc), WH D A s ws' H1 locs1 → W p l e R s m args below meth c H1 locs1 cells slots Q (F0 m (pc + 1) ls rest)) : W p l e R s m args below meth c H locs cells slots Q (F0 m pc ls (.int x :: .int i :: .ref a :: rest)) :=
  va_bast C0.1 C0.2.1 C0.en.1 hw.1 hw.2.1 hw.2.2 q0 3 ha rfl hin hdg (fun H1 locs1 h1 h2 h3 => kk H1 locs1 ⟨hws ▸ h1, hws ▸ h2, h3⟩)
theorem x_last (C0 : CX p s m args meth c cc nL rt own nm D ca tp A) (hw : WH D A s ws H locs) (q0 : Nat) {n : Nat} {f : Nat → Int64} (ha : ws[q0]? = some (a, .inl (ca 1, n, .inr (.inl f)))) {i : Int32} {x : Int64} (hin : vp_in i n) {ws' : va_W} (hws : ws.set q0 (a, .inl (ca 1, n, .inr (.inl (vp_updL f i.toNatClampNeg x)))) = ws') (hdg : decode cc pc = .ok (.lastore, 1))
    (kk : ∀ (H1 : Heap) (locs1 : List Loc), WH D A s ws' H1 locs1 → W p l e R s m args below meth c H1 locs1 cells slots Q (F0 m (pc + 1) ls rest)) : W p l e R s m args below meth c H locs cells slots Q (F0 m pc ls (.long x :: .int i :: .ref a :: rest)) :=
  va_last C0.1 C0.2.1 C0.en.1 hw.1 hw.2.1 hw.2.2 q0 1 ha rfl hin hdg (fun H1 locs1 h1 h2 h3 => kk H1 locs1 ⟨hws ▸ h1, hws ▸ h2, h3⟩)
theorem x_alen (C0 : CX p s m args meth c cc nL rt own nm D ca tp A) (hw : WH D A s ws H locs) (q0 t0 : Nat) {cA : ClassId} {x : vp_A} (ha : ws[q0]? = some (a, .inl (cA, x))) {ty : FieldType} (ht : (TYS ca)[t0]? = some (cA, ty)) {v : Int32} (hv : Int32.ofNat x.1 = v) (hdg : decode cc pc = .ok (.arraylength, 1))
    (kk : W p l e R s m args below meth c H locs cells slots Q (F0 m (pc + 1) ls (.int v :: rest))) : W p l e R s m args below meth c H locs cells slots Q (F0 m pc ls (.ref a :: rest)) :=
  va_alen C0.1 C0.2.1 C0.en.1 hw.1 q0 t0 ha ht hv hdg kk
theorem x_pats (C0 : CX p s m args meth c cc nL rt own nm D ca tp A) (hw : WH D A s ws H locs) {index : Nat} (hlink : Cond.fieldLink own index R_U "PATTERNS" "[J" ∈ gw_tbl) (hdg : decode cc pc = .ok (.getstatic index, 3))
    (kk : W p l e R s m args below meth c H locs cells slots Q (F0 m (pc + 3) ls (.ref tp :: rest))) : W p l e R s m args below meth c H locs cells slots Q (F0 m pc ls rest) :=
  va_gets C0.1 C0.2.1 C0.en.2.2.1 hw.2.2 C0.ho (C0.ts _ hlink) (fun _ h => h) hdg kk
theorem x_pat (C0 : CX p s m args meth c cc nL rt own nm D ca tp A) (hw : WH D A s ws H locs) {i : Int32} (hin : vp_in i 6) (hdg : decode cc pc = .ok (.laload, 1))
    (kk : W p l e R s m args below meth c H locs cells slots Q (F0 m (pc + 1) ls (.long (pt6 i.toNatClampNeg) :: rest))) : W p l e R s m args below meth c H locs cells slots Q (F0 m pc ls (.int i :: .ref tp :: rest)) :=
  va_tl C0.1 C0.2.1 C0.en.2.2.2 hw.2.2 hin (v := .long (pt6 i.toNatClampNeg)) rfl hdg kk
theorem x_ldc2 (C0 : CX p s m args meth c cc nL rt own nm D ca tp A) {index : Nat} {v : Int64} (hlink : Cond.constantLong own index v ∈ gw_tbl) (hdg : decode cc pc = .ok (.ldc2_w index, 3))
    (k : W p l e R s m args below meth c H locs cells slots Q (F0 m (pc + 3) ls (.long v :: rest))) : W p l e R s m args below meth c H locs cells slots Q (F0 m pc ls rest) :=
  lv_ldc2 C0.1 C0.2.1 C0.ho (C0.ts _ hlink) hdg k
/-! returns -/
theorem x_iret {S : Type} {post : Int32 → S → Prop} {W' : S → va_W} {v : Int32} (C0 : CX p s m args meth c cc nL (some .int) own nm D ca tp A) (hw : WH D A s ws H locs) (u : S) (hk : post v u) (hws : ws = W' u) (hdg : decode cc pc = .ok (.ireturn, 1)) :
    W p l e R s m args below meth c H locs cells slots (QI D A below args s post W' cells slots) (F0 m pc ls [.int v]) :=
  W.iret C0.1 C0.2.1 C0.hr (fun t ht hW => ⟨⟨v, u, rfl, hk, by rw [ht]; exact hws ▸ hw.1, hws ▸ hw.2.1⟩, hw.2.2.F ht⟩) hw.2.2.2.2 hdg C0.lk
theorem x_zret {S : Type} {post : Int32 → S → Prop} {W' : S → va_W} {v : Int32} (C0 : CX p s m args meth c cc nL (some .boolean) own nm D ca tp A) (hw : WH D A s ws H locs) (hn : narrow .boolean (.int v) = .int v) (u : S) (hk : post v u) (hws : ws = W' u) (hdg : decode cc pc = .ok (.ireturn, 1)) :
    W p l e R s m args below meth c H locs cells slots (QI D A below args s post W' cells slots) (F0 m pc ls [.int v]) :=
  W.zret C0.1 C0.2.1 C0.hr hn (fun t ht hW => ⟨⟨v, u, rfl, hk, by rw [ht]; exact hws ▸ hw.1, hws ▸ hw.2.1⟩, hw.2.2.F ht⟩) hw.2.2.2.2 hdg C0.lk
theorem x_lret {S : Type} {post : Int64 → S → Prop} {W' : S → va_W} {v : Int64} (C0 : CX p s m args meth c cc nL (some .long) own nm D ca tp A) (hw : WH D A s ws H locs) (u : S) (hk : post v u) (hws : ws = W' u) (hdg : decode cc pc = .ok (.lreturn, 1)) :
    W p l e R s m args below meth c H locs cells slots (QL D A below args s post W' cells slots) (F0 m pc ls [.long v]) :=
  W.lret C0.1 C0.2.1 C0.hr (fun t ht hW => ⟨⟨v, u, rfl, hk, by rw [ht]; exact hws ▸ hw.1, hws ▸ hw.2.1⟩, hw.2.2.F ht⟩) hw.2.2.2.2 hdg C0.lk
theorem x_vret {S : Type} {post : S → Prop} {W' : S → va_W} (C0 : CX p s m args meth c cc nL none own nm D ca tp A) (hw : WH D A s ws H locs) (u : S) (hk : post u) (hws : ws = W' u) (hdg : decode cc pc = .ok (.return_, 1)) :
    W p l e R s m args below meth c H locs cells slots (QV D A below args s post W' cells slots) (F0 m pc ls []) :=
  W.vret C0.1 C0.2.1 C0.hr (fun t ht hW => ⟨⟨u, rfl, hk, by rw [ht]; exact hws ▸ hw.1, hws ▸ hw.2.1⟩, hw.2.2.F ht⟩) hw.2.2.2.2 hdg C0.lk
/-! calls -/
def GY (y : MethodName) (cc : ByteArray) (nL : Nat) (rt : Option FieldType) (n : Nat) : Prop :=
  Cond.code y cc nL rt ∈ gw_tbl ∧ Cond.initialized y.cls ∈ gw_tbl ∧ y.cls ≠ "java/lang/invoke/MethodHandle" ∧ y.cls ≠ "java/lang/invoke/VarHandle" ∧ (parseMethodDescriptor y.desc).map (fun d => d.parameters.length) = some n
theorem GY.good {y : MethodName} {b : ByteArray} {k n : Nat} {rt' : Option FieldType} (G : GY y b k rt' n) : GoodIn gw_tbl (CW y b k rt') := by
  intro w hw
  have h : w ∈ gw_tbl := (List.mem_cons.mp hw).elim (fun e => e ▸ G.1) id
  exact ⟨h, good_of_word (List.mem_filter.mp h).2⟩
variable {y : MethodName} {b' : ByteArray} {k' n mc ms index : Nat} {rt' : Option FieldType} {rm : Room} {As st0 : List Value} {b : Nat} {lv : List (Nat × Value)} {Qc : Nat → Array Value → State → Outcome → State → Prop}
theorem PC.blind {av : List Value} {sz : Nat} : FrameBlind (PC D ca tp av ws sz) := fun a U g mk q => by
  obtain ⟨q0, q1, qE, qP, qD⟩ := q
  exact ⟨q0, q1, EN.same (u := U) (U := U.calling g mk a) rfl (Vm.Alike.refl U.vm) qE, qP, qD⟩
theorem PC.of {av : List Value} (C0 : CX p s m args meth c cc nL rt own nm D ca tp A) (hw : WH D A s ws H locs) (U : State) (hU : U.heap = H) (hW : s.WarmedH U.vm) : PC D ca tp av ws H.size av.toArray U :=
  ⟨rfl, by rw [hU], EN.call C0.en hw.2.2 (WH.fr C0 hw) hU hW, by rw [hU]; exact hw.1, hw.2.1.weaken (fun _ _ _ _ => trivial)⟩
theorem x_runV (C0 : CX p s m args meth c cc nL rt own nm D ca tp A) (hw : WH D A s ws H locs) (hl : lv_has ls nL lv) (hM : ∀ sz : Nat, Met l y (CW y b' k' rt') rm (PC D ca tp (.ref b :: As) ws sz) (Qc sz) mc ms (va_A ws sz)) (G : GY y b' k' rt' n) (hlink : Cond.methodLink own index y ∈ gw_tbl) (hsel : Cond.selects y.cls y y ∈ gw_tbl ∧ Cond.instanceMethod y ∈ gw_tbl) (q0 : Nat) {ci : Nat} {q : vw_C} {fs : List Value} (he : ws[q0]? = some (b, .inr (ci, fs))) (hc : classes[ci]? = some q) (hq : q.1 = y.cls) (hn : As.length = n) (hst : st0 = As.reverse ++ .ref b :: rest) (hW : (rest.map fun v => v.category).sum ≤ 8) (h0 : rm.cells = mc ∧ rm.slots = ms) (hR : rm.frames + 1 ≤ R.frames ∧ 8 + (k' + 11) + rm.locals ≤ R.locals) (hf : cells + mc ≤ R.cells ∧ slots + ms ≤ R.slots) (hdg : decode cc pc = .ok (.invokevirtual index, 3)) :
    va_Run p l e R s m args below meth c H locs cells slots mc ms (F0 m pc ls st0) rest (Qc H.size (Value.ref b :: As).toArray) (va_A ws H.size) :=
  va_runV ⟨C0.1, C0.2.1, C0.2.2.1, C0.ho, C0.ts⟩ (hM H.size) (C := y.cls) ⟨callB_of n C0.ts G.good rfl h0.1 h0.2 (C0.ts _ G.2.1) (C0.ts _ hlink) G.2.2 hR, C0.ts _ hsel.2, C0.ts _ hsel.1⟩
    ⟨PC.blind, hq ▸ va_recv C0.en.1 hw.1 hc he, fun U hU hW => PC.of C0 hw U hU hW⟩ rfl hn hl.1 hst (lv_room hW) hdg hf
theorem x_runS (C0 : CX p s m args meth c cc nL rt own nm D ca tp A) (hw : WH D A s ws H locs) (hl : lv_has ls nL lv) (hM : ∀ sz : Nat, Met l y (CW y b' k' rt') rm (PC D ca tp As ws sz) (Qc sz) mc ms (va_A ws sz)) (G : GY y b' k' rt' n) (hlink : Cond.methodLink own index y ∈ gw_tbl) (hsel : Cond.static y ∈ gw_tbl) (hn : As.length = n) (hst : st0 = As.reverse ++ rest) (hW : (rest.map fun v => v.category).sum ≤ 8) (h0 : rm.cells = mc ∧ rm.slots = ms) (hR : rm.frames + 1 ≤ R.frames ∧ 8 + (k' + 11) + rm.locals ≤ R.locals) (hf : cells + mc ≤ R.cells ∧ slots + ms ≤ R.slots) (hdg : decode cc pc = .ok (.invokestatic index, 3)) :
    va_Run p l e R s m args below meth c H locs cells slots mc ms (F0 m pc ls st0) rest (Qc H.size As.toArray) (va_A ws H.size) :=
  va_runS ⟨C0.1, C0.2.1, C0.2.2.1, C0.ho, C0.ts⟩ (hM H.size) ⟨callB_of n C0.ts G.good rfl h0.1 h0.2 (C0.ts _ G.2.1) (C0.ts _ hlink) G.2.2 hR, C0.ts _ hsel⟩
    ⟨PC.blind, fun U hU hW => PC.of C0 hw U hU hW⟩ rfl hn hl.1 hst (lv_room hW) hdg hf
theorem x_runSN {host : String} (C0 : CX p s m args meth c cc nL rt own nm D ca tp A) (hw : WH D A s ws H locs) (hl : lv_has ls nL lv) (hM : ∀ sz : Nat, Met l y (CW y b' k' rt') rm (PC D ca tp As ws sz) (Qc sz) mc ms (va_A ws sz)) (G : GY y b' k' rt' n) (hlink : Cond.methodLinkNest own index y host ∈ nw_tbl) (hsel : Cond.static y ∈ gw_tbl) (hn : As.length = n) (hst : st0 = As.reverse ++ rest) (hW : (rest.map fun v => v.category).sum ≤ 8) (h0 : rm.cells = mc ∧ rm.slots = ms) (hR : rm.frames + 1 ≤ R.frames ∧ 8 + (k' + 11) + rm.locals ≤ R.locals) (hf : cells + mc ≤ R.cells ∧ slots + ms ≤ R.slots) (hdg : decode cc pc = .ok (.invokestatic index, 3)) :
    va_Run p l e R s m args below meth c H locs cells slots mc ms (F0 m pc ls st0) rest (Qc H.size As.toArray) (va_A ws H.size) :=
  va_runSN ⟨C0.1, C0.2.1, C0.2.2.1, C0.ho, C0.ts⟩ (hM H.size) ⟨va_cnB n C0.ts G.good rfl h0.1 h0.2 (C0.en.2.1 _ hlink) (C0.ts _ G.2.1) G.2.2 hR, C0.ts _ hsel, trivial⟩
    ⟨PC.blind, fun U hU hW => PC.of C0 hw U hU hW⟩ rfl hn hl.1 hst (lv_room hW) hdg hf
theorem x_runI (C0 : CX p s m args meth c cc nL rt own nm D ca tp A) (hw : WH D A s ws H locs) (hl : lv_has ls nL lv) (hM : ∀ sz : Nat, Met l y (CW y b' k' none) rm (PC D ca tp (.ref b :: As) ws sz) (Qc sz) mc ms (va_A ws sz)) (G : GY y b' k' none n) (hlink : Cond.methodLink own index y ∈ gw_tbl) (hsel : Cond.instanceMethod y ∈ gw_tbl) (hy : y.name = "<init>") (hn : As.length = n) (hst : st0 = As.reverse ++ .ref b :: rest) (hW : (rest.map fun v => v.category).sum ≤ 8) (h0 : rm.cells = mc ∧ rm.slots = ms) (hR : rm.frames + 1 ≤ R.frames ∧ 8 + (k' + 11) + rm.locals ≤ R.locals) (hf : cells + mc ≤ R.cells ∧ slots + ms ≤ R.slots) (hdg : decode cc pc = .ok (.invokespecial index, 3)) :
    va_Run p l e R s m args below meth c H locs cells slots mc ms (F0 m pc ls st0) rest (Qc H.size (Value.ref b :: As).toArray) (va_A ws H.size) :=
  va_runI ⟨C0.1, C0.2.1, C0.2.2.1, C0.ho, C0.ts⟩ (hM H.size) ⟨callB_of n C0.ts G.good rfl h0.1 h0.2 (C0.ts _ G.2.1) (C0.ts _ hlink) G.2.2 hR, hy, C0.ts _ hsel⟩
    ⟨PC.blind, fun U hU hW => PC.of C0 hw U hU hW⟩ rfl hn hl.1 hst (lv_room hW) hdg hf
theorem x_runIN {host : String} (C0 : CX p s m args meth c cc nL rt own nm D ca tp A) (hw : WH D A s ws H locs) (hl : lv_has ls nL lv) (hM : ∀ sz : Nat, Met l y (CW y b' k' none) rm (PC D ca tp (.ref b :: As) ws sz) (Qc sz) mc ms (va_A ws sz)) (G : GY y b' k' none n) (hlink : Cond.methodLinkNest own index y host ∈ nw_tbl) (hsel : Cond.instanceMethod y ∈ gw_tbl) (hy : y.name = "<init>") (hn : As.length = n) (hst : st0 = As.reverse ++ .ref b :: rest) (hW : (rest.map fun v => v.category).sum ≤ 8) (h0 : rm.cells = mc ∧ rm.slots = ms) (hR : rm.frames + 1 ≤ R.frames ∧ 8 + (k' + 11) + rm.locals ≤ R.locals) (hf : cells + mc ≤ R.cells ∧ slots + ms ≤ R.slots) (hdg : decode cc pc = .ok (.invokespecial index, 3)) :
    va_Run p l e R s m args below meth c H locs cells slots mc ms (F0 m pc ls st0) rest (Qc H.size (Value.ref b :: As).toArray) (va_A ws H.size) :=
  va_runIN ⟨C0.1, C0.2.1, C0.2.2.1, C0.ho, C0.ts⟩ (hM H.size) ⟨va_cnB n C0.ts G.good rfl h0.1 h0.2 (C0.en.2.1 _ hlink) (C0.ts _ G.2.1) G.2.2 hR, hy, C0.ts _ hsel⟩
    ⟨PC.blind, fun U hU hW => PC.of C0 hw U hU hW⟩ rfl hn hl.1 hst (lv_room hW) hdg hf
theorem x_calli {S : Type} {post : Int32 → S → Prop} {W' : S → va_W} {av : Array Value} (C0 : CX p s m args meth c cc nL rt own nm D ca tp A) (hw : WH D A s ws H locs)
    (hr : va_Run p l e R s m args below meth c H locs cells slots mc ms (F0 m pc ls st0) rest (va_Qi post (BW D (va_A ws H.size) W') (va_A ws H.size) av) (va_A ws H.size))
    (kk : ∀ (r : Int32) (u : S) (H1 : Heap) (locs1 : List Loc), post r u → WH D A s (W' u) H1 locs1 → W p l e R s m args below meth c H1 locs1 (cells + mc) (slots + ms) Q (F0 m (pc + 3) ls (.int r :: rest))) : W p l e R s m args below meth c H locs cells slots Q (F0 m pc ls st0) :=
  va_calli hr hw.2.2 (fun q _ h => WH.fr C0 hw q h) (WH.fr C0 hw) (fun r u t H1 locs1 ht _ hp hB _ _ hS => kk r u H1 locs1 hp ⟨ht ▸ hB.1, hB.2.weaken (fun _ q _ h => WH.fr C0 hw q.1 h), hS⟩)
theorem x_calll {S : Type} {post : Int64 → S → Prop} {W' : S → va_W} {av : Array Value} (C0 : CX p s m args meth c cc nL rt own nm D ca tp A) (hw : WH D A s ws H locs)
    (hr : va_Run p l e R s m args below meth c H locs cells slots mc ms (F0 m pc ls st0) rest (va_Ql post (BW D (va_A ws H.size) W') (va_A ws H.size) av) (va_A ws H.size))
    (kk : ∀ (r : Int64) (u : S) (H1 : Heap) (locs1 : List Loc), post r u → WH D A s (W' u) H1 locs1 → W p l e R s m args below meth c H1 locs1 (cells + mc) (slots + ms) Q (F0 m (pc + 3) ls (.long r :: rest))) : W p l e R s m args below meth c H locs cells slots Q (F0 m pc ls st0) :=
  va_calll hr hw.2.2 (fun q _ h => WH.fr C0 hw q h) (WH.fr C0 hw) (fun r u t H1 locs1 ht _ hp hB _ _ hS => kk r u H1 locs1 hp ⟨ht ▸ hB.1, hB.2.weaken (fun _ q _ h => WH.fr C0 hw q.1 h), hS⟩)
theorem x_callv {S : Type} {post : S → Prop} {W' : S → va_W} {av : Array Value} (C0 : CX p s m args meth c cc nL rt own nm D ca tp A) (hw : WH D A s ws H locs)
    (hr : va_Run p l e R s m args below meth c H locs cells slots mc ms (F0 m pc ls st0) rest (va_Qv post (BW D (va_A ws H.size) W') (va_A ws H.size) av) (va_A ws H.size))
    (kk : ∀ (u : S) (H1 : Heap) (locs1 : List Loc), post u → WH D A s (W' u) H1 locs1 → W p l e R s m args below meth c H1 locs1 (cells + mc) (slots + ms) Q (F0 m (pc + 3) ls rest)) : W p l e R s m args below meth c H locs cells slots Q (F0 m pc ls st0) :=
  va_callv hr hw.2.2 (fun q _ h => WH.fr C0 hw q h) (WH.fr C0 hw) (fun u t H1 locs1 ht _ hp hB _ _ hS => kk u H1 locs1 hp ⟨ht ▸ hB.1, hB.2.weaken (fun _ q _ h => WH.fr C0 hw q.1 h), hS⟩)
end XR
/-! shifts by name -/
def J_iushr (x y : Int32) : Int32 := (x.toUInt32 >>> (y.toUInt32 &&& Int32.toUInt32 31)).toInt32
def J_lushr (x : Int64) (y : Int32) : Int64 := (x.toUInt64 >>> (y.toInt64.toUInt64 &&& Int64.toUInt64 63)).toInt64
def J_lshl (x : Int64) (y : Int32) : Int64 := x <<< (y.toInt64 &&& 63)
def J_lshr (x : Int64) (y : Int32) : Int64 := x >>> (y.toInt64 &&& 63)
end
