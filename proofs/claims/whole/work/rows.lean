section
-- ===== PART A: goes FIRST, ahead of the names: the tables' words, and 'selects' of the private methods out of them =====
/-- a private method of a class that the tables say can be made, by its rows of tables_1 -/
def lw_okq (q : MethodName × Nat) : Prop := (q.1.cls ≠ "java/lang/invoke/MethodHandle" ∧ q.1.cls ≠ "java/lang/invoke/VarHandle") ∧ Cond.instantiable q.1.cls q.2 ∈ tables_1 ∧ Cond.privateMethod q.1 ∈ tables_1 ∧ Cond.instanceMethod q.1 ∈ tables_1
theorem lw_p0 : lw_okq (⟨"CraigBench$Reader", "nextToken", "()V"⟩, 15) := ⟨⟨by decide +kernel, by decide +kernel⟩, List.mem_of_getElem? (i := 106) (by decide +kernel), List.mem_of_getElem? (i := 302) (by decide +kernel), List.mem_of_getElem? (i := 303) (by decide +kernel)⟩
theorem lw_p1 : lw_okq (⟨"CraigBench$Reader", "skipBlanks", "()V"⟩, 15) := ⟨⟨by decide +kernel, by decide +kernel⟩, List.mem_of_getElem? (i := 106) (by decide +kernel), List.mem_of_getElem? (i := 306) (by decide +kernel), List.mem_of_getElem? (i := 307) (by decide +kernel)⟩
theorem lw_p2 : lw_okq (⟨"CraigBench$Reader", "takeDigits", "()V"⟩, 15) := ⟨⟨by decide +kernel, by decide +kernel⟩, List.mem_of_getElem? (i := 106) (by decide +kernel), List.mem_of_getElem? (i := 320) (by decide +kernel), List.mem_of_getElem? (i := 321) (by decide +kernel)⟩
theorem lw_p3 : lw_okq (⟨"CraigBench$Reader", "takeToken", "()V"⟩, 15) := ⟨⟨by decide +kernel, by decide +kernel⟩, List.mem_of_getElem? (i := 106) (by decide +kernel), List.mem_of_getElem? (i := 327) (by decide +kernel), List.mem_of_getElem? (i := 328) (by decide +kernel)⟩
theorem lw_p4 : lw_okq (⟨"CraigBench$Reader", "takeStart", "()V"⟩, 15) := ⟨⟨by decide +kernel, by decide +kernel⟩, List.mem_of_getElem? (i := 106) (by decide +kernel), List.mem_of_getElem? (i := 331) (by decide +kernel), List.mem_of_getElem? (i := 332) (by decide +kernel)⟩
theorem lw_p5 : lw_okq (⟨"CraigBench$Reader", "openGiven", "()V"⟩, 15) := ⟨⟨by decide +kernel, by decide +kernel⟩, List.mem_of_getElem? (i := 106) (by decide +kernel), List.mem_of_getElem? (i := 335) (by decide +kernel), List.mem_of_getElem? (i := 336) (by decide +kernel)⟩
theorem lw_p6 : lw_okq (⟨"CraigBench$Reader", "fail", "(I)V"⟩, 15) := ⟨⟨by decide +kernel, by decide +kernel⟩, List.mem_of_getElem? (i := 106) (by decide +kernel), List.mem_of_getElem? (i := 347) (by decide +kernel), List.mem_of_getElem? (i := 348) (by decide +kernel)⟩
theorem lw_p7 : lw_okq (⟨"CraigBench$Reader", "openResolvent", "()V"⟩, 15) := ⟨⟨by decide +kernel, by decide +kernel⟩, List.mem_of_getElem? (i := 106) (by decide +kernel), List.mem_of_getElem? (i := 351) (by decide +kernel), List.mem_of_getElem? (i := 352) (by decide +kernel)⟩
theorem lw_p8 : lw_okq (⟨"CraigBench$Reader", "takeColon", "()V"⟩, 15) := ⟨⟨by decide +kernel, by decide +kernel⟩, List.mem_of_getElem? (i := 106) (by decide +kernel), List.mem_of_getElem? (i := 356) (by decide +kernel), List.mem_of_getElem? (i := 357) (by decide +kernel)⟩
theorem lw_p9 : lw_okq (⟨"CraigBench$Reader", "takeInsideClause", "()V"⟩, 15) := ⟨⟨by decide +kernel, by decide +kernel⟩, List.mem_of_getElem? (i := 106) (by decide +kernel), List.mem_of_getElem? (i := 360) (by decide +kernel), List.mem_of_getElem? (i := 361) (by decide +kernel)⟩
theorem lw_p10 : lw_okq (⟨"CraigBench$Clauses", "draft", "(II)V"⟩, 13) := ⟨⟨by decide +kernel, by decide +kernel⟩, List.mem_of_getElem? (i := 38) (by decide +kernel), List.mem_of_getElem? (i := 369) (by decide +kernel), List.mem_of_getElem? (i := 370) (by decide +kernel)⟩
theorem lw_p11 : lw_okq (⟨"CraigBench$Reader", "takeNumber", "()V"⟩, 15) := ⟨⟨by decide +kernel, by decide +kernel⟩, List.mem_of_getElem? (i := 106) (by decide +kernel), List.mem_of_getElem? (i := 373) (by decide +kernel), List.mem_of_getElem? (i := 374) (by decide +kernel)⟩
theorem lw_p12 : lw_okq (⟨"CraigBench$Reader", "takeBlock", "()V"⟩, 15) := ⟨⟨by decide +kernel, by decide +kernel⟩, List.mem_of_getElem? (i := 106) (by decide +kernel), List.mem_of_getElem? (i := 377) (by decide +kernel), List.mem_of_getElem? (i := 378) (by decide +kernel)⟩
theorem lw_p13 : lw_okq (⟨"CraigBench$Reader", "takeLeft", "()V"⟩, 15) := ⟨⟨by decide +kernel, by decide +kernel⟩, List.mem_of_getElem? (i := 106) (by decide +kernel), List.mem_of_getElem? (i := 381) (by decide +kernel), List.mem_of_getElem? (i := 382) (by decide +kernel)⟩
theorem lw_p14 : lw_okq (⟨"CraigBench$Reader", "takeRight", "()V"⟩, 15) := ⟨⟨by decide +kernel, by decide +kernel⟩, List.mem_of_getElem? (i := 106) (by decide +kernel), List.mem_of_getElem? (i := 389) (by decide +kernel), List.mem_of_getElem? (i := 390) (by decide +kernel)⟩
theorem lw_p15 : lw_okq (⟨"CraigBench$Reader", "takePivot", "()V"⟩, 15) := ⟨⟨by decide +kernel, by decide +kernel⟩, List.mem_of_getElem? (i := 106) (by decide +kernel), List.mem_of_getElem? (i := 393) (by decide +kernel), List.mem_of_getElem? (i := 394) (by decide +kernel)⟩
def lw_privs_1 : List (MethodName × Nat) := [(⟨"CraigBench$Reader", "nextToken", "()V"⟩, 15), (⟨"CraigBench$Reader", "skipBlanks", "()V"⟩, 15), (⟨"CraigBench$Reader", "takeDigits", "()V"⟩, 15), (⟨"CraigBench$Reader", "takeToken", "()V"⟩, 15), (⟨"CraigBench$Reader", "takeStart", "()V"⟩, 15), (⟨"CraigBench$Reader", "openGiven", "()V"⟩, 15), (⟨"CraigBench$Reader", "fail", "(I)V"⟩, 15), (⟨"CraigBench$Reader", "openResolvent", "()V"⟩, 15), (⟨"CraigBench$Reader", "takeColon", "()V"⟩, 15), (⟨"CraigBench$Reader", "takeInsideClause", "()V"⟩, 15), (⟨"CraigBench$Clauses", "draft", "(II)V"⟩, 13), (⟨"CraigBench$Reader", "takeNumber", "()V"⟩, 15), (⟨"CraigBench$Reader", "takeBlock", "()V"⟩, 15), (⟨"CraigBench$Reader", "takeLeft", "()V"⟩, 15), (⟨"CraigBench$Reader", "takeRight", "()V"⟩, 15), (⟨"CraigBench$Reader", "takePivot", "()V"⟩, 15)]
theorem lw_r1 : ∀ q ∈ lw_privs_1, lw_okq q := List.forall_mem_cons.mpr ⟨lw_p0, List.forall_mem_cons.mpr ⟨lw_p1, List.forall_mem_cons.mpr ⟨lw_p2, List.forall_mem_cons.mpr ⟨lw_p3, List.forall_mem_cons.mpr ⟨lw_p4, List.forall_mem_cons.mpr ⟨lw_p5, List.forall_mem_cons.mpr ⟨lw_p6, List.forall_mem_cons.mpr ⟨lw_p7, List.forall_mem_cons.mpr ⟨lw_p8, List.forall_mem_cons.mpr ⟨lw_p9, List.forall_mem_cons.mpr ⟨lw_p10, List.forall_mem_cons.mpr ⟨lw_p11, List.forall_mem_cons.mpr ⟨lw_p12, List.forall_mem_cons.mpr ⟨lw_p13, List.forall_mem_cons.mpr ⟨lw_p14, List.forall_mem_cons.mpr ⟨lw_p15, fun _ h => absurd h List.not_mem_nil⟩⟩⟩⟩⟩⟩⟩⟩⟩⟩⟩⟩⟩⟩⟩⟩
theorem lw_p16 : lw_okq (⟨"CraigBench$Clauses", "positiveRest", "(III)I"⟩, 13) := ⟨⟨by decide +kernel, by decide +kernel⟩, List.mem_of_getElem? (i := 38) (by decide +kernel), List.mem_of_getElem? (i := 411) (by decide +kernel), List.mem_of_getElem? (i := 412) (by decide +kernel)⟩
theorem lw_p17 : lw_okq (⟨"CraigBench$Clauses", "negativeRest", "(III)I"⟩, 13) := ⟨⟨by decide +kernel, by decide +kernel⟩, List.mem_of_getElem? (i := 38) (by decide +kernel), List.mem_of_getElem? (i := 415) (by decide +kernel), List.mem_of_getElem? (i := 416) (by decide +kernel)⟩
theorem lw_p18 : lw_okq (⟨"CraigBench$Reader", "takeLiteral", "()V"⟩, 15) := ⟨⟨by decide +kernel, by decide +kernel⟩, List.mem_of_getElem? (i := 106) (by decide +kernel), List.mem_of_getElem? (i := 419) (by decide +kernel), List.mem_of_getElem? (i := 420) (by decide +kernel)⟩
theorem lw_p19 : lw_okq (⟨"CraigBench$Reader", "takeClose", "()V"⟩, 15) := ⟨⟨by decide +kernel, by decide +kernel⟩, List.mem_of_getElem? (i := 106) (by decide +kernel), List.mem_of_getElem? (i := 424) (by decide +kernel), List.mem_of_getElem? (i := 425) (by decide +kernel)⟩
theorem lw_p20 : lw_okq (⟨"CraigBench$Clauses", "findEmpty", "()V"⟩, 13) := ⟨⟨by decide +kernel, by decide +kernel⟩, List.mem_of_getElem? (i := 38) (by decide +kernel), List.mem_of_getElem? (i := 437) (by decide +kernel), List.mem_of_getElem? (i := 438) (by decide +kernel)⟩
theorem lw_p21 : lw_okq (⟨"CraigBench$Clauses", "markNeeded", "()V"⟩, 13) := ⟨⟨by decide +kernel, by decide +kernel⟩, List.mem_of_getElem? (i := 38) (by decide +kernel), List.mem_of_getElem? (i := 441) (by decide +kernel), List.mem_of_getElem? (i := 442) (by decide +kernel)⟩
theorem lw_p22 : lw_okq (⟨"CraigBench$Clauses", "isNews", "(III)Z"⟩, 13) := ⟨⟨by decide +kernel, by decide +kernel⟩, List.mem_of_getElem? (i := 38) (by decide +kernel), List.mem_of_getElem? (i := 480) (by decide +kernel), List.mem_of_getElem? (i := 481) (by decide +kernel)⟩
theorem lw_p23 : lw_okq (⟨"CraigBench$Clauses", "retire", "(I)V"⟩, 13) := ⟨⟨by decide +kernel, by decide +kernel⟩, List.mem_of_getElem? (i := 38) (by decide +kernel), List.mem_of_getElem? (i := 486) (by decide +kernel), List.mem_of_getElem? (i := 487) (by decide +kernel)⟩
theorem lw_p24 : lw_okq (⟨"CraigBench$Clauses", "isGivenOf", "(III)Z"⟩, 13) := ⟨⟨by decide +kernel, by decide +kernel⟩, List.mem_of_getElem? (i := 38) (by decide +kernel), List.mem_of_getElem? (i := 510) (by decide +kernel), List.mem_of_getElem? (i := 511) (by decide +kernel)⟩
theorem lw_p25 : lw_okq (⟨"CraigBench$Formulas", "sharedHaving", "(II)I"⟩, 6) := ⟨⟨by decide +kernel, by decide +kernel⟩, List.mem_of_getElem? (i := 173) (by decide +kernel), List.mem_of_getElem? (i := 526) (by decide +kernel), List.mem_of_getElem? (i := 527) (by decide +kernel)⟩
theorem lw_p26 : lw_okq (⟨"CraigBench$Formulas", "ofResolvent", "(II)J"⟩, 6) := ⟨⟨by decide +kernel, by decide +kernel⟩, List.mem_of_getElem? (i := 173) (by decide +kernel), List.mem_of_getElem? (i := 543) (by decide +kernel), List.mem_of_getElem? (i := 544) (by decide +kernel)⟩
theorem lw_p27 : lw_okq (⟨"CraigBench$Formulas", "ofGiven", "(II)J"⟩, 6) := ⟨⟨by decide +kernel, by decide +kernel⟩, List.mem_of_getElem? (i := 173) (by decide +kernel), List.mem_of_getElem? (i := 555) (by decide +kernel), List.mem_of_getElem? (i := 556) (by decide +kernel)⟩
theorem lw_p28 : lw_okq (⟨"CraigBench$Graph", "join", "(IIII)I"⟩, 8) := ⟨⟨by decide +kernel, by decide +kernel⟩, List.mem_of_getElem? (i := 206) (by decide +kernel), List.mem_of_getElem? (i := 572) (by decide +kernel), List.mem_of_getElem? (i := 573) (by decide +kernel)⟩
theorem lw_p29 : lw_okq (⟨"CraigBench$Graph", "numberFrom", "(I)V"⟩, 8) := ⟨⟨by decide +kernel, by decide +kernel⟩, List.mem_of_getElem? (i := 206) (by decide +kernel), List.mem_of_getElem? (i := 576) (by decide +kernel), List.mem_of_getElem? (i := 577) (by decide +kernel)⟩
theorem lw_p30 : lw_okq (⟨"CraigBench$Graph", "sideNumber", "(I)I"⟩, 8) := ⟨⟨by decide +kernel, by decide +kernel⟩, List.mem_of_getElem? (i := 206) (by decide +kernel), List.mem_of_getElem? (i := 619) (by decide +kernel), List.mem_of_getElem? (i := 620) (by decide +kernel)⟩
theorem lw_p31 : lw_okq (⟨"CraigBench", "nextInterpolant", "(II)V"⟩, 8) := ⟨⟨by decide +kernel, by decide +kernel⟩, List.mem_of_getElem? (i := 14) (by decide +kernel), List.mem_of_getElem? (i := 638) (by decide +kernel), List.mem_of_getElem? (i := 639) (by decide +kernel)⟩
def lw_privs_2 : List (MethodName × Nat) := [(⟨"CraigBench$Clauses", "positiveRest", "(III)I"⟩, 13), (⟨"CraigBench$Clauses", "negativeRest", "(III)I"⟩, 13), (⟨"CraigBench$Reader", "takeLiteral", "()V"⟩, 15), (⟨"CraigBench$Reader", "takeClose", "()V"⟩, 15), (⟨"CraigBench$Clauses", "findEmpty", "()V"⟩, 13), (⟨"CraigBench$Clauses", "markNeeded", "()V"⟩, 13), (⟨"CraigBench$Clauses", "isNews", "(III)Z"⟩, 13), (⟨"CraigBench$Clauses", "retire", "(I)V"⟩, 13), (⟨"CraigBench$Clauses", "isGivenOf", "(III)Z"⟩, 13), (⟨"CraigBench$Formulas", "sharedHaving", "(II)I"⟩, 6), (⟨"CraigBench$Formulas", "ofResolvent", "(II)J"⟩, 6), (⟨"CraigBench$Formulas", "ofGiven", "(II)J"⟩, 6), (⟨"CraigBench$Graph", "join", "(IIII)I"⟩, 8), (⟨"CraigBench$Graph", "numberFrom", "(I)V"⟩, 8), (⟨"CraigBench$Graph", "sideNumber", "(I)I"⟩, 8), (⟨"CraigBench", "nextInterpolant", "(II)V"⟩, 8)]
theorem lw_r2 : ∀ q ∈ lw_privs_2, lw_okq q := List.forall_mem_cons.mpr ⟨lw_p16, List.forall_mem_cons.mpr ⟨lw_p17, List.forall_mem_cons.mpr ⟨lw_p18, List.forall_mem_cons.mpr ⟨lw_p19, List.forall_mem_cons.mpr ⟨lw_p20, List.forall_mem_cons.mpr ⟨lw_p21, List.forall_mem_cons.mpr ⟨lw_p22, List.forall_mem_cons.mpr ⟨lw_p23, List.forall_mem_cons.mpr ⟨lw_p24, List.forall_mem_cons.mpr ⟨lw_p25, List.forall_mem_cons.mpr ⟨lw_p26, List.forall_mem_cons.mpr ⟨lw_p27, List.forall_mem_cons.mpr ⟨lw_p28, List.forall_mem_cons.mpr ⟨lw_p29, List.forall_mem_cons.mpr ⟨lw_p30, List.forall_mem_cons.mpr ⟨lw_p31, fun _ h => absurd h List.not_mem_nil⟩⟩⟩⟩⟩⟩⟩⟩⟩⟩⟩⟩⟩⟩⟩⟩
theorem lw_p32 : lw_okq (⟨"CraigBench", "gapWord", "(III)J"⟩, 8) := ⟨⟨by decide +kernel, by decide +kernel⟩, List.mem_of_getElem? (i := 14) (by decide +kernel), List.mem_of_getElem? (i := 645) (by decide +kernel), List.mem_of_getElem? (i := 646) (by decide +kernel)⟩
theorem lw_p33 : lw_okq (⟨"CraigBenchModel", "cut", "()V"⟩, 34) := ⟨⟨by decide +kernel, by decide +kernel⟩, List.mem_of_getElem? (i := 668) (by decide +kernel), List.mem_of_getElem? (i := 789) (by decide +kernel), List.mem_of_getElem? (i := 790) (by decide +kernel)⟩
theorem lw_p34 : lw_okq (⟨"CraigBenchModel", "readGiven", "()V"⟩, 34) := ⟨⟨by decide +kernel, by decide +kernel⟩, List.mem_of_getElem? (i := 668) (by decide +kernel), List.mem_of_getElem? (i := 796) (by decide +kernel), List.mem_of_getElem? (i := 797) (by decide +kernel)⟩
theorem lw_p35 : lw_okq (⟨"CraigBenchModel", "need", "(ZI)Z"⟩, 34) := ⟨⟨by decide +kernel, by decide +kernel⟩, List.mem_of_getElem? (i := 668) (by decide +kernel), List.mem_of_getElem? (i := 800) (by decide +kernel), List.mem_of_getElem? (i := 801) (by decide +kernel)⟩
theorem lw_p36 : lw_okq (⟨"CraigBenchModel", "takes", "(I)Z"⟩, 34) := ⟨⟨by decide +kernel, by decide +kernel⟩, List.mem_of_getElem? (i := 668) (by decide +kernel), List.mem_of_getElem? (i := 804) (by decide +kernel), List.mem_of_getElem? (i := 805) (by decide +kernel)⟩
theorem lw_p37 : lw_okq (⟨"CraigBenchModel", "add", "(IIIIII)V"⟩, 34) := ⟨⟨by decide +kernel, by decide +kernel⟩, List.mem_of_getElem? (i := 668) (by decide +kernel), List.mem_of_getElem? (i := 808) (by decide +kernel), List.mem_of_getElem? (i := 809) (by decide +kernel)⟩
theorem lw_p38 : lw_okq (⟨"CraigBenchModel", "readResolvent", "()V"⟩, 34) := ⟨⟨by decide +kernel, by decide +kernel⟩, List.mem_of_getElem? (i := 668) (by decide +kernel), List.mem_of_getElem? (i := 812) (by decide +kernel), List.mem_of_getElem? (i := 813) (by decide +kernel)⟩
theorem lw_p39 : lw_okq (⟨"CraigBenchModel", "clauseHere", "()I"⟩, 34) := ⟨⟨by decide +kernel, by decide +kernel⟩, List.mem_of_getElem? (i := 668) (by decide +kernel), List.mem_of_getElem? (i := 816) (by decide +kernel), List.mem_of_getElem? (i := 817) (by decide +kernel)⟩
theorem lw_p40 : lw_okq (⟨"CraigBenchModel", "find", "()V"⟩, 34) := ⟨⟨by decide +kernel, by decide +kernel⟩, List.mem_of_getElem? (i := 668) (by decide +kernel), List.mem_of_getElem? (i := 820) (by decide +kernel), List.mem_of_getElem? (i := 821) (by decide +kernel)⟩
theorem lw_p41 : lw_okq (⟨"CraigBenchModel", "empty", "()I"⟩, 34) := ⟨⟨by decide +kernel, by decide +kernel⟩, List.mem_of_getElem? (i := 668) (by decide +kernel), List.mem_of_getElem? (i := 824) (by decide +kernel), List.mem_of_getElem? (i := 825) (by decide +kernel)⟩
theorem lw_p42 : lw_okq (⟨"CraigBenchModel", "isThere", "(II)Z"⟩, 34) := ⟨⟨by decide +kernel, by decide +kernel⟩, List.mem_of_getElem? (i := 668) (by decide +kernel), List.mem_of_getElem? (i := 851) (by decide +kernel), List.mem_of_getElem? (i := 852) (by decide +kernel)⟩
theorem lw_p43 : lw_okq (⟨"CraigBenchModel", "variablesOf", "(ZI)I"⟩, 34) := ⟨⟨by decide +kernel, by decide +kernel⟩, List.mem_of_getElem? (i := 668) (by decide +kernel), List.mem_of_getElem? (i := 863) (by decide +kernel), List.mem_of_getElem? (i := 864) (by decide +kernel)⟩
theorem lw_p44 : lw_okq (⟨"CraigBenchModel", "partials", "(II)V"⟩, 34) := ⟨⟨by decide +kernel, by decide +kernel⟩, List.mem_of_getElem? (i := 668) (by decide +kernel), List.mem_of_getElem? (i := 871) (by decide +kernel), List.mem_of_getElem? (i := 872) (by decide +kernel)⟩
theorem lw_p45 : lw_okq (⟨"CraigBenchModel", "sum", "(IIIIII)J"⟩, 34) := ⟨⟨by decide +kernel, by decide +kernel⟩, List.mem_of_getElem? (i := 668) (by decide +kernel), List.mem_of_getElem? (i := 875) (by decide +kernel), List.mem_of_getElem? (i := 876) (by decide +kernel)⟩
theorem lw_p46 : lw_okq (⟨"CraigBenchModel", "labelOf", "(IIII)I"⟩, 34) := ⟨⟨by decide +kernel, by decide +kernel⟩, List.mem_of_getElem? (i := 668) (by decide +kernel), List.mem_of_getElem? (i := 879) (by decide +kernel), List.mem_of_getElem? (i := 880) (by decide +kernel)⟩
theorem lw_p47 : lw_okq (⟨"CraigBenchModel", "draw", "()V"⟩, 34) := ⟨⟨by decide +kernel, by decide +kernel⟩, List.mem_of_getElem? (i := 668) (by decide +kernel), List.mem_of_getElem? (i := 893) (by decide +kernel), List.mem_of_getElem? (i := 894) (by decide +kernel)⟩
def lw_privs_3 : List (MethodName × Nat) := [(⟨"CraigBench", "gapWord", "(III)J"⟩, 8), (⟨"CraigBenchModel", "cut", "()V"⟩, 34), (⟨"CraigBenchModel", "readGiven", "()V"⟩, 34), (⟨"CraigBenchModel", "need", "(ZI)Z"⟩, 34), (⟨"CraigBenchModel", "takes", "(I)Z"⟩, 34), (⟨"CraigBenchModel", "add", "(IIIIII)V"⟩, 34), (⟨"CraigBenchModel", "readResolvent", "()V"⟩, 34), (⟨"CraigBenchModel", "clauseHere", "()I"⟩, 34), (⟨"CraigBenchModel", "find", "()V"⟩, 34), (⟨"CraigBenchModel", "empty", "()I"⟩, 34), (⟨"CraigBenchModel", "isThere", "(II)Z"⟩, 34), (⟨"CraigBenchModel", "variablesOf", "(ZI)I"⟩, 34), (⟨"CraigBenchModel", "partials", "(II)V"⟩, 34), (⟨"CraigBenchModel", "sum", "(IIIIII)J"⟩, 34), (⟨"CraigBenchModel", "labelOf", "(IIII)I"⟩, 34), (⟨"CraigBenchModel", "draw", "()V"⟩, 34)]
theorem lw_r3 : ∀ q ∈ lw_privs_3, lw_okq q := List.forall_mem_cons.mpr ⟨lw_p32, List.forall_mem_cons.mpr ⟨lw_p33, List.forall_mem_cons.mpr ⟨lw_p34, List.forall_mem_cons.mpr ⟨lw_p35, List.forall_mem_cons.mpr ⟨lw_p36, List.forall_mem_cons.mpr ⟨lw_p37, List.forall_mem_cons.mpr ⟨lw_p38, List.forall_mem_cons.mpr ⟨lw_p39, List.forall_mem_cons.mpr ⟨lw_p40, List.forall_mem_cons.mpr ⟨lw_p41, List.forall_mem_cons.mpr ⟨lw_p42, List.forall_mem_cons.mpr ⟨lw_p43, List.forall_mem_cons.mpr ⟨lw_p44, List.forall_mem_cons.mpr ⟨lw_p45, List.forall_mem_cons.mpr ⟨lw_p46, List.forall_mem_cons.mpr ⟨lw_p47, fun _ h => absurd h List.not_mem_nil⟩⟩⟩⟩⟩⟩⟩⟩⟩⟩⟩⟩⟩⟩⟩⟩
theorem lw_p48 : lw_okq (⟨"CraigBenchModel", "nodeOf", "()I"⟩, 34) := ⟨⟨by decide +kernel, by decide +kernel⟩, List.mem_of_getElem? (i := 668) (by decide +kernel), List.mem_of_getElem? (i := 897) (by decide +kernel), List.mem_of_getElem? (i := 898) (by decide +kernel)⟩
theorem lw_p49 : lw_okq (⟨"CraigBenchModel", "leastVariable", "(I)I"⟩, 34) := ⟨⟨by decide +kernel, by decide +kernel⟩, List.mem_of_getElem? (i := 668) (by decide +kernel), List.mem_of_getElem? (i := 901) (by decide +kernel), List.mem_of_getElem? (i := 902) (by decide +kernel)⟩
theorem lw_p50 : lw_okq (⟨"CraigBenchModel", "side", "(IIZ)J"⟩, 34) := ⟨⟨by decide +kernel, by decide +kernel⟩, List.mem_of_getElem? (i := 668) (by decide +kernel), List.mem_of_getElem? (i := 905) (by decide +kernel), List.mem_of_getElem? (i := 906) (by decide +kernel)⟩
theorem lw_p51 : lw_okq (⟨"CraigBenchModel", "product", "(III)J"⟩, 34) := ⟨⟨by decide +kernel, by decide +kernel⟩, List.mem_of_getElem? (i := 668) (by decide +kernel), List.mem_of_getElem? (i := 936) (by decide +kernel), List.mem_of_getElem? (i := 937) (by decide +kernel)⟩
def lw_privs_4 : List (MethodName × Nat) := [(⟨"CraigBenchModel", "nodeOf", "()I"⟩, 34), (⟨"CraigBenchModel", "leastVariable", "(I)I"⟩, 34), (⟨"CraigBenchModel", "side", "(IIZ)J"⟩, 34), (⟨"CraigBenchModel", "product", "(III)J"⟩, 34)]
theorem lw_r4 : ∀ q ∈ lw_privs_4, lw_okq q := List.forall_mem_cons.mpr ⟨lw_p48, List.forall_mem_cons.mpr ⟨lw_p49, List.forall_mem_cons.mpr ⟨lw_p50, List.forall_mem_cons.mpr ⟨lw_p51, fun _ h => absurd h List.not_mem_nil⟩⟩⟩⟩
def lw_privs : List (MethodName × Nat) := lw_privs_1 ++ (lw_privs_2 ++ (lw_privs_3 ++ (lw_privs_4)))
def lw_tbl : List Cond := k2_sels lw_privs ++ tables_1
theorem lw_privs_ok : ∀ q ∈ lw_privs, lw_okq q := by
  show ∀ q ∈ lw_privs_1 ++ (lw_privs_2 ++ (lw_privs_3 ++ (lw_privs_4))), lw_okq q
  exact List.forall_mem_append.mpr ⟨lw_r1, List.forall_mem_append.mpr ⟨lw_r2, List.forall_mem_append.mpr ⟨lw_r3, lw_r4⟩⟩⟩
end
section
def R_A : String := "CraigBench$Answer"
def R_C : String := "CraigBench$Clauses"
def R_F : String := "CraigBench$Formulas"
def R_G : String := "CraigBench$Graph"
def R_L : String := "CraigBench$Labels"
def R_R : String := "CraigBench$Reader"
def R_T : String := "CraigBench$Tape"
def R_B : String := "CraigBench"
def R_M : String := "CraigBenchModel"
def R_U : String := "CraigBench$Truth"
def R_W : String := "CraigBenchLaw"
def R_J : String := "java/util/Arrays"
def R_K : String := "java/lang/Long"
def F_A : u_T := fun k => match k with
  | 0 => ("CraigBench$Answer", "words", "[J", true)
  | 1 => ("CraigBench$Answer", "known", "[Z", true)
  | 2 => ("CraigBench$Answer", "graph", "LCraigBench$Graph;", true)
  | _ => ("CraigBench$Answer", "root", "I", false)
def ty_A : Nat → FieldType := fun k => match k with
  | 0 => .array .long
  | 1 => .array .boolean
  | 2 => .object "CraigBench$Graph"
  | _ => .int
theorem n_A : ∀ a, a < 4 → ∀ b, b < 4 → a ≠ b → (F_A a).2.1 ≠ (F_A b).2.1 := by decide +kernel
theorem tk_A : ∀ k, k < 4 → parseFieldDescriptor (F_A k).2.2.1 = some (ty_A k) := by decide +kernel
def F_C : u_T := fun k => match k with
  | 0 => ("CraigBench$Clauses", "block", "[I", true)
  | 1 => ("CraigBench$Clauses", "left", "[I", true)
  | 2 => ("CraigBench$Clauses", "right", "[I", true)
  | 3 => ("CraigBench$Clauses", "pivot", "[I", true)
  | 4 => ("CraigBench$Clauses", "positive", "[I", true)
  | 5 => ("CraigBench$Clauses", "negative", "[I", true)
  | 6 => ("CraigBench$Clauses", "live", "[Z", true)
  | 7 => ("CraigBench$Clauses", "needed", "[Z", true)
  | 8 => ("CraigBench$Clauses", "size", "I", false)
  | 9 => ("CraigBench$Clauses", "given", "I", false)
  | 10 => ("CraigBench$Clauses", "empty", "I", false)
  | 11 => ("CraigBench$Clauses", "drafted", "I", false)
  | _ => ("CraigBench$Clauses", "draftedGiven", "I", false)
def ty_C : Nat → FieldType := fun k => match k with
  | 0 => .array .int
  | 1 => .array .int
  | 2 => .array .int
  | 3 => .array .int
  | 4 => .array .int
  | 5 => .array .int
  | 6 => .array .boolean
  | 7 => .array .boolean
  | 8 => .int
  | 9 => .int
  | 10 => .int
  | 11 => .int
  | _ => .int
theorem n_C : ∀ a, a < 13 → ∀ b, b < 13 → a ≠ b → (F_C a).2.1 ≠ (F_C b).2.1 := by decide +kernel
theorem tk_C : ∀ k, k < 13 → parseFieldDescriptor (F_C k).2.2.1 = some (ty_C k) := by decide +kernel
def F_F : u_T := fun k => match k with
  | 0 => ("CraigBench$Formulas", "clauses", "LCraigBench$Clauses;", true)
  | 1 => ("CraigBench$Formulas", "labels", "LCraigBench$Labels;", true)
  | 2 => ("CraigBench$Formulas", "row", "[J", true)
  | 3 => ("CraigBench$Formulas", "cut", "I", false)
  | 4 => ("CraigBench$Formulas", "labelledA", "I", false)
  | _ => ("CraigBench$Formulas", "labelledB", "I", false)
def ty_F : Nat → FieldType := fun k => match k with
  | 0 => .object "CraigBench$Clauses"
  | 1 => .object "CraigBench$Labels"
  | 2 => .array .long
  | 3 => .int
  | 4 => .int
  | _ => .int
theorem n_F : ∀ a, a < 6 → ∀ b, b < 6 → a ≠ b → (F_F a).2.1 ≠ (F_F b).2.1 := by decide +kernel
theorem tk_F : ∀ k, k < 6 → parseFieldDescriptor (F_F k).2.2.1 = some (ty_F k) := by decide +kernel
def F_G : u_T := fun k => match k with
  | 0 => ("CraigBench$Graph", "variable", "[I", true)
  | 1 => ("CraigBench$Graph", "low", "[I", true)
  | 2 => ("CraigBench$Graph", "high", "[I", true)
  | 3 => ("CraigBench$Graph", "numberOf", "[I", true)
  | 4 => ("CraigBench$Graph", "nodeOf", "[I", true)
  | 5 => ("CraigBench$Graph", "sides", "[I", true)
  | 6 => ("CraigBench$Graph", "waiting", "[I", true)
  | _ => ("CraigBench$Graph", "size", "I", false)
def ty_G : Nat → FieldType := fun k => match k with
  | 0 => .array .int
  | 1 => .array .int
  | 2 => .array .int
  | 3 => .array .int
  | 4 => .array .int
  | 5 => .array .int
  | 6 => .array .int
  | _ => .int
theorem n_G : ∀ a, a < 8 → ∀ b, b < 8 → a ≠ b → (F_G a).2.1 ≠ (F_G b).2.1 := by decide +kernel
theorem tk_G : ∀ k, k < 8 → parseFieldDescriptor (F_G k).2.2.1 = some (ty_G k) := by decide +kernel
def F_L : u_T := fun k => match k with
  | _ => ("CraigBench$Labels", "of", "[I", true)
def ty_L : Nat → FieldType := fun k => match k with
  | _ => .array .int
theorem n_L : ∀ a, a < 1 → ∀ b, b < 1 → a ≠ b → (F_L a).2.1 ≠ (F_L b).2.1 := by decide +kernel
theorem tk_L : ∀ k, k < 1 → parseFieldDescriptor (F_L k).2.2.1 = some (ty_L k) := by decide +kernel
def F_R : u_T := fun k => match k with
  | 0 => ("CraigBench$Reader", "tape", "LCraigBench$Tape;", true)
  | 1 => ("CraigBench$Reader", "clauses", "LCraigBench$Clauses;", true)
  | 2 => ("CraigBench$Reader", "kind", "I", false)
  | 3 => ("CraigBench$Reader", "place", "I", false)
  | 4 => ("CraigBench$Reader", "at", "I", false)
  | 5 => ("CraigBench$Reader", "token", "I", false)
  | 6 => ("CraigBench$Reader", "tokenPlace", "I", false)
  | 7 => ("CraigBench$Reader", "number", "I", false)
  | 8 => ("CraigBench$Reader", "state", "I", false)
  | 9 => ("CraigBench$Reader", "block", "I", false)
  | 10 => ("CraigBench$Reader", "positive", "I", false)
  | 11 => ("CraigBench$Reader", "negative", "I", false)
  | 12 => ("CraigBench$Reader", "left", "I", false)
  | 13 => ("CraigBench$Reader", "right", "I", false)
  | _ => ("CraigBench$Reader", "pivot", "I", false)
def ty_R : Nat → FieldType := fun k => match k with
  | 0 => .object "CraigBench$Tape"
  | 1 => .object "CraigBench$Clauses"
  | 2 => .int
  | 3 => .int
  | 4 => .int
  | 5 => .int
  | 6 => .int
  | 7 => .int
  | 8 => .int
  | 9 => .int
  | 10 => .int
  | 11 => .int
  | 12 => .int
  | 13 => .int
  | _ => .int
theorem n_R : ∀ a, a < 15 → ∀ b, b < 15 → a ≠ b → (F_R a).2.1 ≠ (F_R b).2.1 := by decide +kernel
theorem tk_R : ∀ k, k < 15 → parseFieldDescriptor (F_R k).2.2.1 = some (ty_R k) := by decide +kernel
def F_T : u_T := fun k => match k with
  | 0 => ("CraigBench$Tape", "bytes", "[B", true)
  | _ => ("CraigBench$Tape", "length", "I", false)
def ty_T : Nat → FieldType := fun k => match k with
  | 0 => .array .byte
  | _ => .int
theorem n_T : ∀ a, a < 2 → ∀ b, b < 2 → a ≠ b → (F_T a).2.1 ≠ (F_T b).2.1 := by decide +kernel
theorem tk_T : ∀ k, k < 2 → parseFieldDescriptor (F_T k).2.2.1 = some (ty_T k) := by decide +kernel
def F_B : u_T := fun k => match k with
  | 0 => ("CraigBench", "tape", "LCraigBench$Tape;", true)
  | 1 => ("CraigBench", "clauses", "LCraigBench$Clauses;", true)
  | 2 => ("CraigBench", "reader", "LCraigBench$Reader;", true)
  | 3 => ("CraigBench", "labels", "LCraigBench$Labels;", true)
  | 4 => ("CraigBench", "formulas", "LCraigBench$Formulas;", true)
  | 5 => ("CraigBench", "answer", "LCraigBench$Answer;", true)
  | 6 => ("CraigBench", "table", "[J", true)
  | _ => ("CraigBench", "nextTable", "[J", true)
def ty_B : Nat → FieldType := fun k => match k with
  | 0 => .object "CraigBench$Tape"
  | 1 => .object "CraigBench$Clauses"
  | 2 => .object "CraigBench$Reader"
  | 3 => .object "CraigBench$Labels"
  | 4 => .object "CraigBench$Formulas"
  | 5 => .object "CraigBench$Answer"
  | 6 => .array .long
  | _ => .array .long
theorem n_B : ∀ a, a < 8 → ∀ b, b < 8 → a ≠ b → (F_B a).2.1 ≠ (F_B b).2.1 := by decide +kernel
theorem tk_B : ∀ k, k < 8 → parseFieldDescriptor (F_B k).2.2.1 = some (ty_B k) := by decide +kernel
def F_M : u_T := fun k => match k with
  | 0 => ("CraigBenchModel", "plain", "[I", true)
  | 1 => ("CraigBenchModel", "minus", "[I", true)
  | 2 => ("CraigBenchModel", "block", "[I", true)
  | 3 => ("CraigBenchModel", "left", "[I", true)
  | 4 => ("CraigBenchModel", "right", "[I", true)
  | 5 => ("CraigBenchModel", "pivot", "[I", true)
  | 6 => ("CraigBenchModel", "live", "[Z", true)
  | 7 => ("CraigBenchModel", "needed", "[Z", true)
  | 8 => ("CraigBenchModel", "clauses", "I", false)
  | 9 => ("CraigBenchModel", "given", "I", false)
  | 10 => ("CraigBenchModel", "end", "I", false)
  | 11 => ("CraigBenchModel", "label", "[I", true)
  | 12 => ("CraigBenchModel", "tape", "[B", true)
  | 13 => ("CraigBenchModel", "taped", "I", false)
  | 14 => ("CraigBenchModel", "size", "I", false)
  | 15 => ("CraigBenchModel", "at", "I", false)
  | 16 => ("CraigBenchModel", "to", "I", false)
  | 17 => ("CraigBenchModel", "sort", "I", false)
  | 18 => ("CraigBenchModel", "worth", "I", false)
  | 19 => ("CraigBenchModel", "faultKind", "I", false)
  | 20 => ("CraigBenchModel", "faultPlace", "I", false)
  | 21 => ("CraigBenchModel", "of", "[J", true)
  | 22 => ("CraigBenchModel", "kept", "[J", true)
  | 23 => ("CraigBenchModel", "had", "[Z", true)
  | 24 => ("CraigBenchModel", "told", "[J", true)
  | 25 => ("CraigBenchModel", "isTold", "Z", false)
  | 26 => ("CraigBenchModel", "first", "[J", true)
  | 27 => ("CraigBenchModel", "second", "[J", true)
  | 28 => ("CraigBenchModel", "node", "[J", true)
  | 29 => ("CraigBenchModel", "nodeVariable", "[I", true)
  | 30 => ("CraigBenchModel", "nodeLow", "[I", true)
  | 31 => ("CraigBenchModel", "nodeHigh", "[I", true)
  | 32 => ("CraigBenchModel", "nodes", "I", false)
  | _ => ("CraigBenchModel", "wait", "[I", true)
def ty_M : Nat → FieldType := fun k => match k with
  | 0 => .array .int
  | 1 => .array .int
  | 2 => .array .int
  | 3 => .array .int
  | 4 => .array .int
  | 5 => .array .int
  | 6 => .array .boolean
  | 7 => .array .boolean
  | 8 => .int
  | 9 => .int
  | 10 => .int
  | 11 => .array .int
  | 12 => .array .byte
  | 13 => .int
  | 14 => .int
  | 15 => .int
  | 16 => .int
  | 17 => .int
  | 18 => .int
  | 19 => .int
  | 20 => .int
  | 21 => .array .long
  | 22 => .array .long
  | 23 => .array .boolean
  | 24 => .array .long
  | 25 => .boolean
  | 26 => .array .long
  | 27 => .array .long
  | 28 => .array .long
  | 29 => .array .int
  | 30 => .array .int
  | 31 => .array .int
  | 32 => .int
  | _ => .array .int
theorem n_M : ∀ a, a < 34 → ∀ b, b < 34 → a ≠ b → (F_M a).2.1 ≠ (F_M b).2.1 := by decide +kernel
theorem tk_M : ∀ k, k < 34 → parseFieldDescriptor (F_M k).2.2.1 = some (ty_M k) := by decide +kernel
abbrev classes : List vw_C := [(R_A, F_A, 4), (R_C, F_C, 13), (R_F, F_F, 6), (R_G, F_G, 8), (R_L, F_L, 1), (R_R, F_R, 15), (R_T, F_T, 2), (R_B, F_B, 8), (R_M, F_M, 34)]
abbrev b_B_init : ByteArray := prog_1_method_1_code
def y_B_init : MethodName := ⟨R_B, "<init>", "()V"⟩
abbrev b_B_feed : ByteArray := prog_1_method_2_code
def y_B_feed : MethodName := ⟨R_B, "feed", "(IIIII)I"⟩
abbrev b_B_end_ : ByteArray := prog_1_method_3_code
def y_B_end_ : MethodName := ⟨R_B, "end", "(I)I"⟩
abbrev b_B_read : ByteArray := prog_1_method_4_code
def y_B_read : MethodName := ⟨R_B, "read", "()I"⟩
abbrev b_B_fault : ByteArray := prog_1_method_5_code
def y_B_fault : MethodName := ⟨R_B, "fault", "(I)I"⟩
abbrev b_B_clear : ByteArray := prog_1_method_6_code
def y_B_clear : MethodName := ⟨R_B, "clear", "()I"⟩
abbrev b_B_clause : ByteArray := prog_1_method_7_code
def y_B_clause : MethodName := ⟨R_B, "clause", "(II)I"⟩
abbrev b_B_refutation : ByteArray := prog_1_method_8_code
def y_B_refutation : MethodName := ⟨R_B, "refutation", "()I"⟩
abbrev b_B_eliminate : ByteArray := prog_1_method_9_code
def y_B_eliminate : MethodName := ⟨R_B, "eliminate", "(I)I"⟩
abbrev b_B_label : ByteArray := prog_1_method_10_code
def y_B_label : MethodName := ⟨R_B, "label", "(II)I"⟩
abbrev b_B_variables : ByteArray := prog_1_method_11_code
def y_B_variables : MethodName := ⟨R_B, "variables", "(II)I"⟩
abbrev b_B_interpolate : ByteArray := prog_1_method_12_code
def y_B_interpolate : MethodName := ⟨R_B, "interpolate", "(II)I"⟩
abbrev b_B_value : ByteArray := prog_1_method_13_code
def y_B_value : MethodName := ⟨R_B, "value", "(I)I"⟩
abbrev b_B_prt : ByteArray := prog_1_method_14_code
def y_B_prt : MethodName := ⟨R_B, "partial", "(II)I"⟩
abbrev b_B_told : ByteArray := prog_1_method_15_code
def y_B_told : MethodName := ⟨R_B, "told", "(I)I"⟩
abbrev b_B_graph : ByteArray := prog_1_method_16_code
def y_B_graph : MethodName := ⟨R_B, "graph", "(II)I"⟩
abbrev b_B_follows : ByteArray := prog_1_method_17_code
def y_B_follows : MethodName := ⟨R_B, "follows", "(III)I"⟩
abbrev b_B_gap : ByteArray := prog_1_method_18_code
def y_B_gap : MethodName := ⟨R_B, "gap", "(III)I"⟩
abbrev b_B_count : ByteArray := prog_1_method_19_code
def y_B_count : MethodName := ⟨R_B, "count", "(I)I"⟩
abbrev b_B_nextInterpolant : ByteArray := prog_1_method_20_code
def y_B_nextInterpolant : MethodName := ⟨R_B, "nextInterpolant", "(II)V"⟩
abbrev b_B_gapWord : ByteArray := prog_1_method_21_code
def y_B_gapWord : MethodName := ⟨R_B, "gapWord", "(III)J"⟩
abbrev b_B_isVariable : ByteArray := prog_1_method_22_code
def y_B_isVariable : MethodName := ⟨R_B, "isVariable", "(I)Z"⟩
abbrev b_B_isCut : ByteArray := prog_1_method_23_code
def y_B_isCut : MethodName := ⟨R_B, "isCut", "(I)Z"⟩
abbrev b_B_isSystem : ByteArray := prog_1_method_24_code
def y_B_isSystem : MethodName := ⟨R_B, "isSystem", "(I)Z"⟩
abbrev b_B_bitOf : ByteArray := prog_1_method_25_code
def y_B_bitOf : MethodName := ⟨R_B, "bitOf", "(I)I"⟩
abbrev b_M_init : ByteArray := prog_11_method_1_code
def y_M_init : MethodName := ⟨R_M, "<init>", "()V"⟩
abbrev b_M_feed : ByteArray := prog_11_method_3_code
def y_M_feed : MethodName := ⟨R_M, "feed", "(IIIII)I"⟩
abbrev b_M_end_ : ByteArray := prog_11_method_4_code
def y_M_end_ : MethodName := ⟨R_M, "end", "(I)I"⟩
abbrev b_M_isDigit : ByteArray := prog_11_method_5_code
def y_M_isDigit : MethodName := ⟨R_M, "isDigit", "(I)Z"⟩
abbrev b_M_cut : ByteArray := prog_11_method_6_code
def y_M_cut : MethodName := ⟨R_M, "cut", "()V"⟩
abbrev b_M_need : ByteArray := prog_11_method_7_code
def y_M_need : MethodName := ⟨R_M, "need", "(ZI)Z"⟩
abbrev b_M_takes : ByteArray := prog_11_method_8_code
def y_M_takes : MethodName := ⟨R_M, "takes", "(I)Z"⟩
abbrev b_M_empty : ByteArray := prog_11_method_9_code
def y_M_empty : MethodName := ⟨R_M, "empty", "()I"⟩
abbrev b_M_add : ByteArray := prog_11_method_10_code
def y_M_add : MethodName := ⟨R_M, "add", "(IIIIII)V"⟩
abbrev b_M_readGiven : ByteArray := prog_11_method_11_code
def y_M_readGiven : MethodName := ⟨R_M, "readGiven", "()V"⟩
abbrev b_M_clauseHere : ByteArray := prog_11_method_12_code
def y_M_clauseHere : MethodName := ⟨R_M, "clauseHere", "()I"⟩
abbrev b_M_readResolvent : ByteArray := prog_11_method_13_code
def y_M_readResolvent : MethodName := ⟨R_M, "readResolvent", "()V"⟩
abbrev b_M_read : ByteArray := prog_11_method_14_code
def y_M_read : MethodName := ⟨R_M, "read", "()I"⟩
abbrev b_M_fault : ByteArray := prog_11_method_15_code
def y_M_fault : MethodName := ⟨R_M, "fault", "(I)I"⟩
abbrev b_M_clear : ByteArray := prog_11_method_16_code
def y_M_clear : MethodName := ⟨R_M, "clear", "()I"⟩
abbrev b_M_find : ByteArray := prog_11_method_17_code
def y_M_find : MethodName := ⟨R_M, "find", "()V"⟩
abbrev b_M_in : ByteArray := prog_11_method_18_code
def y_M_in : MethodName := ⟨R_M, "in", "(III)Z"⟩
abbrev b_M_clause : ByteArray := prog_11_method_19_code
def y_M_clause : MethodName := ⟨R_M, "clause", "(II)I"⟩
abbrev b_M_refutation : ByteArray := prog_11_method_20_code
def y_M_refutation : MethodName := ⟨R_M, "refutation", "()I"⟩
abbrev b_M_isThere : ByteArray := prog_11_method_21_code
def y_M_isThere : MethodName := ⟨R_M, "isThere", "(II)Z"⟩
abbrev b_M_eliminate : ByteArray := prog_11_method_22_code
def y_M_eliminate : MethodName := ⟨R_M, "eliminate", "(I)I"⟩
abbrev b_M_label : ByteArray := prog_11_method_23_code
def y_M_label : MethodName := ⟨R_M, "label", "(II)I"⟩
abbrev b_M_variablesOf : ByteArray := prog_11_method_24_code
def y_M_variablesOf : MethodName := ⟨R_M, "variablesOf", "(ZI)I"⟩
abbrev b_M_variables : ByteArray := prog_11_method_25_code
def y_M_variables : MethodName := ⟨R_M, "variables", "(II)I"⟩
abbrev b_M_word : ByteArray := prog_11_method_26_code
def y_M_word : MethodName := ⟨R_M, "word", "(II)J"⟩
abbrev b_M_labelOf : ByteArray := prog_11_method_27_code
def y_M_labelOf : MethodName := ⟨R_M, "labelOf", "(IIII)I"⟩
abbrev b_M_sum : ByteArray := prog_11_method_28_code
def y_M_sum : MethodName := ⟨R_M, "sum", "(IIIIII)J"⟩
abbrev b_M_partials : ByteArray := prog_11_method_29_code
def y_M_partials : MethodName := ⟨R_M, "partials", "(II)V"⟩
abbrev b_M_side : ByteArray := prog_11_method_30_code
def y_M_side : MethodName := ⟨R_M, "side", "(IIZ)J"⟩
abbrev b_M_leastVariable : ByteArray := prog_11_method_31_code
def y_M_leastVariable : MethodName := ⟨R_M, "leastVariable", "(I)I"⟩
abbrev b_M_nodeOf : ByteArray := prog_11_method_32_code
def y_M_nodeOf : MethodName := ⟨R_M, "nodeOf", "()I"⟩
abbrev b_M_draw : ByteArray := prog_11_method_33_code
def y_M_draw : MethodName := ⟨R_M, "draw", "()V"⟩
abbrev b_M_interpolate : ByteArray := prog_11_method_34_code
def y_M_interpolate : MethodName := ⟨R_M, "interpolate", "(II)I"⟩
abbrev b_M_value : ByteArray := prog_11_method_35_code
def y_M_value : MethodName := ⟨R_M, "value", "(I)I"⟩
abbrev b_M_prt : ByteArray := prog_11_method_36_code
def y_M_prt : MethodName := ⟨R_M, "partial", "(II)I"⟩
abbrev b_M_ones : ByteArray := prog_11_method_37_code
def y_M_ones : MethodName := ⟨R_M, "ones", "(J)I"⟩
abbrev b_M_told : ByteArray := prog_11_method_38_code
def y_M_told : MethodName := ⟨R_M, "told", "(I)I"⟩
abbrev b_M_graph : ByteArray := prog_11_method_39_code
def y_M_graph : MethodName := ⟨R_M, "graph", "(II)I"⟩
abbrev b_M_follows : ByteArray := prog_11_method_40_code
def y_M_follows : MethodName := ⟨R_M, "follows", "(III)I"⟩
abbrev b_M_product : ByteArray := prog_11_method_41_code
def y_M_product : MethodName := ⟨R_M, "product", "(III)J"⟩
abbrev b_M_gap : ByteArray := prog_11_method_42_code
def y_M_gap : MethodName := ⟨R_M, "gap", "(III)I"⟩
abbrev b_M_count : ByteArray := prog_11_method_43_code
def y_M_count : MethodName := ⟨R_M, "count", "(I)I"⟩
abbrev b_A_init : ByteArray := prog_2_method_1_code
def y_A_init : MethodName := ⟨R_A, "<init>", "()V"⟩
abbrev b_A_take : ByteArray := prog_2_method_2_code
def y_A_take : MethodName := ⟨R_A, "take", "(LCraigBench$Formulas;LCraigBench$Clauses;)V"⟩
abbrev b_A_truth : ByteArray := prog_2_method_3_code
def y_A_truth : MethodName := ⟨R_A, "truth", "(II)I"⟩
abbrev b_A_trueValuations : ByteArray := prog_2_method_4_code
def y_A_trueValuations : MethodName := ⟨R_A, "trueValuations", "()I"⟩
abbrev b_C_init : ByteArray := prog_3_method_1_code
def y_C_init : MethodName := ⟨R_C, "<init>", "()V"⟩
abbrev b_C_startDraft : ByteArray := prog_3_method_2_code
def y_C_startDraft : MethodName := ⟨R_C, "startDraft", "()V"⟩
abbrev b_C_hasRoom : ByteArray := prog_3_method_3_code
def y_C_hasRoom : MethodName := ⟨R_C, "hasRoom", "()Z"⟩
abbrev b_C_hasRoomForGiven : ByteArray := prog_3_method_4_code
def y_C_hasRoomForGiven : MethodName := ⟨R_C, "hasRoomForGiven", "()Z"⟩
abbrev b_C_isDrafted : ByteArray := prog_3_method_5_code
def y_C_isDrafted : MethodName := ⟨R_C, "isDrafted", "(I)Z"⟩
abbrev b_C_draftGiven : ByteArray := prog_3_method_6_code
def y_C_draftGiven : MethodName := ⟨R_C, "draftGiven", "(III)V"⟩
abbrev b_C_draftResolvent : ByteArray := prog_3_method_7_code
def y_C_draftResolvent : MethodName := ⟨R_C, "draftResolvent", "(III)V"⟩
abbrev b_C_draft : ByteArray := prog_3_method_8_code
def y_C_draft : MethodName := ⟨R_C, "draft", "(II)V"⟩
abbrev b_C_keepDraft : ByteArray := prog_3_method_9_code
def y_C_keepDraft : MethodName := ⟨R_C, "keepDraft", "()I"⟩
abbrev b_C_removeAll : ByteArray := prog_3_method_10_code
def y_C_removeAll : MethodName := ⟨R_C, "removeAll", "()V"⟩
abbrev b_C_findEmpty : ByteArray := prog_3_method_11_code
def y_C_findEmpty : MethodName := ⟨R_C, "findEmpty", "()V"⟩
abbrev b_C_markNeeded : ByteArray := prog_3_method_12_code
def y_C_markNeeded : MethodName := ⟨R_C, "markNeeded", "()V"⟩
abbrev b_C_resolves : ByteArray := prog_3_method_13_code
def y_C_resolves : MethodName := ⟨R_C, "resolves", "(III)Z"⟩
abbrev b_C_clashes : ByteArray := prog_3_method_14_code
def y_C_clashes : MethodName := ⟨R_C, "clashes", "(III)Z"⟩
abbrev b_C_positiveRest : ByteArray := prog_3_method_15_code
def y_C_positiveRest : MethodName := ⟨R_C, "positiveRest", "(III)I"⟩
abbrev b_C_negativeRest : ByteArray := prog_3_method_16_code
def y_C_negativeRest : MethodName := ⟨R_C, "negativeRest", "(III)I"⟩
abbrev b_C_resolveAway : ByteArray := prog_3_method_17_code
def y_C_resolveAway : MethodName := ⟨R_C, "resolveAway", "(I)I"⟩
abbrev b_C_isNews : ByteArray := prog_3_method_18_code
def y_C_isNews : MethodName := ⟨R_C, "isNews", "(III)Z"⟩
abbrev b_C_retire : ByteArray := prog_3_method_19_code
def y_C_retire : MethodName := ⟨R_C, "retire", "(I)V"⟩
abbrev b_C_isGivenOf : ByteArray := prog_3_method_20_code
def y_C_isGivenOf : MethodName := ⟨R_C, "isGivenOf", "(III)Z"⟩
abbrev b_C_occurring : ByteArray := prog_3_method_21_code
def y_C_occurring : MethodName := ⟨R_C, "occurring", "(II)I"⟩
abbrev b_C_allTrue : ByteArray := prog_3_method_22_code
def y_C_allTrue : MethodName := ⟨R_C, "allTrue", "(III)J"⟩
abbrev b_C_liveOnes : ByteArray := prog_3_method_23_code
def y_C_liveOnes : MethodName := ⟨R_C, "liveOnes", "()I"⟩
abbrev b_C_neededOnes : ByteArray := prog_3_method_24_code
def y_C_neededOnes : MethodName := ⟨R_C, "neededOnes", "()I"⟩
abbrev b_F_init : ByteArray := prog_4_method_1_code
def y_F_init : MethodName := ⟨R_F, "<init>", "(LCraigBench$Clauses;LCraigBench$Labels;)V"⟩
abbrev b_F_choose : ByteArray := prog_4_method_2_code
def y_F_choose : MethodName := ⟨R_F, "choose", "(II)V"⟩
abbrev b_F_sharedHaving : ByteArray := prog_4_method_3_code
def y_F_sharedHaving : MethodName := ⟨R_F, "sharedHaving", "(II)I"⟩
abbrev b_F_workOut : ByteArray := prog_4_method_4_code
def y_F_workOut : MethodName := ⟨R_F, "workOut", "(I)V"⟩
abbrev b_F_ofGiven : ByteArray := prog_4_method_5_code
def y_F_ofGiven : MethodName := ⟨R_F, "ofGiven", "(II)J"⟩
abbrev b_F_ofResolvent : ByteArray := prog_4_method_6_code
def y_F_ofResolvent : MethodName := ⟨R_F, "ofResolvent", "(II)J"⟩
abbrev b_F_interpolant : ByteArray := prog_4_method_7_code
def y_F_interpolant : MethodName := ⟨R_F, "interpolant", "(II[J)V"⟩
abbrev b_G_init : ByteArray := prog_5_method_1_code
def y_G_init : MethodName := ⟨R_G, "<init>", "()V"⟩
abbrev b_G_bitAt : ByteArray := prog_5_method_2_code
def y_G_bitAt : MethodName := ⟨R_G, "bitAt", "([JII)I"⟩
abbrev b_G_build : ByteArray := prog_5_method_3_code
def y_G_build : MethodName := ⟨R_G, "build", "([JI)V"⟩
abbrev b_G_join : ByteArray := prog_5_method_4_code
def y_G_join : MethodName := ⟨R_G, "join", "(IIII)I"⟩
abbrev b_G_numberFrom : ByteArray := prog_5_method_5_code
def y_G_numberFrom : MethodName := ⟨R_G, "numberFrom", "(I)V"⟩
abbrev b_G_support : ByteArray := prog_5_method_6_code
def y_G_support : MethodName := ⟨R_G, "support", "()I"⟩
abbrev b_G_tell : ByteArray := prog_5_method_7_code
def y_G_tell : MethodName := ⟨R_G, "tell", "(II)I"⟩
abbrev b_G_sideNumber : ByteArray := prog_5_method_8_code
def y_G_sideNumber : MethodName := ⟨R_G, "sideNumber", "(I)I"⟩
abbrev b_L_init : ByteArray := prog_6_method_1_code
def y_L_init : MethodName := ⟨R_L, "<init>", "()V"⟩
abbrev b_L_reset : ByteArray := prog_6_method_2_code
def y_L_reset : MethodName := ⟨R_L, "reset", "()V"⟩
abbrev b_L_exchange : ByteArray := prog_6_method_3_code
def y_L_exchange : MethodName := ⟨R_L, "exchange", "(II)I"⟩
abbrev b_L_having : ByteArray := prog_6_method_4_code
def y_L_having : MethodName := ⟨R_L, "having", "(I)I"⟩
abbrev b_R_init : ByteArray := prog_7_method_1_code
def y_R_init : MethodName := ⟨R_R, "<init>", "(LCraigBench$Tape;LCraigBench$Clauses;)V"⟩
abbrev b_R_readText : ByteArray := prog_7_method_2_code
def y_R_readText : MethodName := ⟨R_R, "readText", "()V"⟩
abbrev b_R_fail : ByteArray := prog_7_method_3_code
def y_R_fail : MethodName := ⟨R_R, "fail", "(I)V"⟩
abbrev b_R_nextToken : ByteArray := prog_7_method_4_code
def y_R_nextToken : MethodName := ⟨R_R, "nextToken", "()V"⟩
abbrev b_R_skipBlanks : ByteArray := prog_7_method_5_code
def y_R_skipBlanks : MethodName := ⟨R_R, "skipBlanks", "()V"⟩
abbrev b_R_takeDigits : ByteArray := prog_7_method_6_code
def y_R_takeDigits : MethodName := ⟨R_R, "takeDigits", "()V"⟩
abbrev b_R_isBlank : ByteArray := prog_7_method_7_code
def y_R_isBlank : MethodName := ⟨R_R, "isBlank", "(I)Z"⟩
abbrev b_R_isDigit : ByteArray := prog_7_method_8_code
def y_R_isDigit : MethodName := ⟨R_R, "isDigit", "(I)Z"⟩
abbrev b_R_isSign : ByteArray := prog_7_method_9_code
def y_R_isSign : MethodName := ⟨R_R, "isSign", "(I)Z"⟩
abbrev b_R_takeToken : ByteArray := prog_7_method_10_code
def y_R_takeToken : MethodName := ⟨R_R, "takeToken", "()V"⟩
abbrev b_R_takeStart : ByteArray := prog_7_method_11_code
def y_R_takeStart : MethodName := ⟨R_R, "takeStart", "()V"⟩
abbrev b_R_openGiven : ByteArray := prog_7_method_12_code
def y_R_openGiven : MethodName := ⟨R_R, "openGiven", "()V"⟩
abbrev b_R_openResolvent : ByteArray := prog_7_method_13_code
def y_R_openResolvent : MethodName := ⟨R_R, "openResolvent", "()V"⟩
abbrev b_R_takeColon : ByteArray := prog_7_method_14_code
def y_R_takeColon : MethodName := ⟨R_R, "takeColon", "()V"⟩
abbrev b_R_takeInsideClause : ByteArray := prog_7_method_15_code
def y_R_takeInsideClause : MethodName := ⟨R_R, "takeInsideClause", "()V"⟩
abbrev b_R_takeClose : ByteArray := prog_7_method_16_code
def y_R_takeClose : MethodName := ⟨R_R, "takeClose", "()V"⟩
abbrev b_R_takeNumber : ByteArray := prog_7_method_17_code
def y_R_takeNumber : MethodName := ⟨R_R, "takeNumber", "()V"⟩
abbrev b_R_takeBlock : ByteArray := prog_7_method_18_code
def y_R_takeBlock : MethodName := ⟨R_R, "takeBlock", "()V"⟩
abbrev b_R_takeLiteral : ByteArray := prog_7_method_19_code
def y_R_takeLiteral : MethodName := ⟨R_R, "takeLiteral", "()V"⟩
abbrev b_R_takeLeft : ByteArray := prog_7_method_20_code
def y_R_takeLeft : MethodName := ⟨R_R, "takeLeft", "()V"⟩
abbrev b_R_takeRight : ByteArray := prog_7_method_21_code
def y_R_takeRight : MethodName := ⟨R_R, "takeRight", "()V"⟩
abbrev b_R_takePivot : ByteArray := prog_7_method_22_code
def y_R_takePivot : MethodName := ⟨R_R, "takePivot", "()V"⟩
abbrev b_T_init : ByteArray := prog_8_method_1_code
def y_T_init : MethodName := ⟨R_T, "<init>", "()V"⟩
abbrev b_T_append : ByteArray := prog_8_method_2_code
def y_T_append : MethodName := ⟨R_T, "append", "(I)V"⟩
abbrev b_T_byteAt : ByteArray := prog_8_method_3_code
def y_T_byteAt : MethodName := ⟨R_T, "byteAt", "(I)I"⟩
abbrev b_U_ofVariable : ByteArray := prog_9_method_2_code
def y_U_ofVariable : MethodName := ⟨R_U, "ofVariable", "(II)J"⟩
abbrev b_U_ofAny : ByteArray := prog_9_method_3_code
def y_U_ofAny : MethodName := ⟨R_U, "ofAny", "(III)J"⟩
abbrev b_K_bitCount : ByteArray := prog_12_method_50_code
def y_K_bitCount : MethodName := ⟨R_K, "bitCount", "(J)I"⟩
abbrev b_J_fillI : ByteArray := prog_13_method_103_code
def y_J_fillI : MethodName := ⟨R_J, "fill", "([II)V"⟩
abbrev b_J_fillL : ByteArray := prog_13_method_101_code
def y_J_fillL : MethodName := ⟨R_J, "fill", "([JJ)V"⟩
end
section
def isNest : Cond → Bool
  | .fieldLinkNest .. => true
  | .methodLinkNest .. => true
  | _ => false
def gw_tbl : List Cond := lw_tbl.filter goodWord
def nw_tbl : List Cond := lw_tbl.filter isNest
theorem gw_mem {w : Cond} (i : Nat) (h : lw_tbl[i]? = some w) (hg : goodWord w = true) : w ∈ gw_tbl := List.mem_filter.mpr ⟨List.mem_of_getElem? h, hg⟩
theorem nw_mem {w : Cond} (i : Nat) (h : lw_tbl[i]? = some w) (hg : isNest w = true) : w ∈ nw_tbl := List.mem_filter.mpr ⟨List.mem_of_getElem? h, hg⟩
theorem gw_mems {ws : List Cond} (ps : List Nat) (hp : ws = ps.filterMap (fun i => lw_tbl[i]?)) (h : ws.all goodWord = true) : ∀ w ∈ ws, w ∈ gw_tbl := by
  intro w hw
  have h1 := List.all_eq_true.mp h w hw
  rw [hp] at hw
  obtain ⟨i, -, hi⟩ := List.mem_filterMap.mp hw
  exact gw_mem i hi h1
theorem wm_0 : Cond.selects R_R y_R_nextToken y_R_nextToken ∈ gw_tbl := gw_mem 0 (by decide +kernel) (by decide)
theorem wm_1 : Cond.selects R_R y_R_skipBlanks y_R_skipBlanks ∈ gw_tbl := gw_mem 1 (by decide +kernel) (by decide)
theorem wm_2 : Cond.selects R_R y_R_takeDigits y_R_takeDigits ∈ gw_tbl := gw_mem 2 (by decide +kernel) (by decide)
theorem wm_3 : Cond.selects R_R y_R_takeToken y_R_takeToken ∈ gw_tbl := gw_mem 3 (by decide +kernel) (by decide)
theorem wm_4 : Cond.selects R_R y_R_takeStart y_R_takeStart ∈ gw_tbl := gw_mem 4 (by decide +kernel) (by decide)
theorem wm_5 : Cond.selects R_R y_R_openGiven y_R_openGiven ∈ gw_tbl := gw_mem 5 (by decide +kernel) (by decide)
theorem wm_6 : Cond.selects R_R y_R_fail y_R_fail ∈ gw_tbl := gw_mem 6 (by decide +kernel) (by decide)
theorem wm_7 : Cond.selects R_R y_R_openResolvent y_R_openResolvent ∈ gw_tbl := gw_mem 7 (by decide +kernel) (by decide)
theorem wm_8 : Cond.selects R_R y_R_takeColon y_R_takeColon ∈ gw_tbl := gw_mem 8 (by decide +kernel) (by decide)
theorem wm_9 : Cond.selects R_R y_R_takeInsideClause y_R_takeInsideClause ∈ gw_tbl := gw_mem 9 (by decide +kernel) (by decide)
theorem wm_10 : Cond.selects R_C y_C_draft y_C_draft ∈ gw_tbl := gw_mem 10 (by decide +kernel) (by decide)
theorem wm_11 : Cond.selects R_R y_R_takeNumber y_R_takeNumber ∈ gw_tbl := gw_mem 11 (by decide +kernel) (by decide)
theorem wm_12 : Cond.selects R_R y_R_takeBlock y_R_takeBlock ∈ gw_tbl := gw_mem 12 (by decide +kernel) (by decide)
theorem wm_13 : Cond.selects R_R y_R_takeLeft y_R_takeLeft ∈ gw_tbl := gw_mem 13 (by decide +kernel) (by decide)
theorem wm_14 : Cond.selects R_R y_R_takeRight y_R_takeRight ∈ gw_tbl := gw_mem 14 (by decide +kernel) (by decide)
theorem wm_15 : Cond.selects R_R y_R_takePivot y_R_takePivot ∈ gw_tbl := gw_mem 15 (by decide +kernel) (by decide)
theorem wm_16 : Cond.selects R_C y_C_positiveRest y_C_positiveRest ∈ gw_tbl := gw_mem 16 (by decide +kernel) (by decide)
theorem wm_17 : Cond.selects R_C y_C_negativeRest y_C_negativeRest ∈ gw_tbl := gw_mem 17 (by decide +kernel) (by decide)
theorem wm_18 : Cond.selects R_R y_R_takeLiteral y_R_takeLiteral ∈ gw_tbl := gw_mem 18 (by decide +kernel) (by decide)
theorem wm_19 : Cond.selects R_R y_R_takeClose y_R_takeClose ∈ gw_tbl := gw_mem 19 (by decide +kernel) (by decide)
theorem wm_20 : Cond.selects R_C y_C_findEmpty y_C_findEmpty ∈ gw_tbl := gw_mem 20 (by decide +kernel) (by decide)
theorem wm_21 : Cond.selects R_C y_C_markNeeded y_C_markNeeded ∈ gw_tbl := gw_mem 21 (by decide +kernel) (by decide)
theorem wm_22 : Cond.selects R_C y_C_isNews y_C_isNews ∈ gw_tbl := gw_mem 22 (by decide +kernel) (by decide)
theorem wm_23 : Cond.selects R_C y_C_retire y_C_retire ∈ gw_tbl := gw_mem 23 (by decide +kernel) (by decide)
theorem wm_24 : Cond.selects R_C y_C_isGivenOf y_C_isGivenOf ∈ gw_tbl := gw_mem 24 (by decide +kernel) (by decide)
theorem wm_25 : Cond.selects R_F y_F_sharedHaving y_F_sharedHaving ∈ gw_tbl := gw_mem 25 (by decide +kernel) (by decide)
theorem wm_26 : Cond.selects R_F y_F_ofResolvent y_F_ofResolvent ∈ gw_tbl := gw_mem 26 (by decide +kernel) (by decide)
theorem wm_27 : Cond.selects R_F y_F_ofGiven y_F_ofGiven ∈ gw_tbl := gw_mem 27 (by decide +kernel) (by decide)
theorem wm_28 : Cond.selects R_G y_G_join y_G_join ∈ gw_tbl := gw_mem 28 (by decide +kernel) (by decide)
theorem wm_29 : Cond.selects R_G y_G_numberFrom y_G_numberFrom ∈ gw_tbl := gw_mem 29 (by decide +kernel) (by decide)
theorem wm_30 : Cond.selects R_G y_G_sideNumber y_G_sideNumber ∈ gw_tbl := gw_mem 30 (by decide +kernel) (by decide)
theorem wm_31 : Cond.selects R_B y_B_nextInterpolant y_B_nextInterpolant ∈ gw_tbl := gw_mem 31 (by decide +kernel) (by decide)
theorem wm_32 : Cond.selects R_B y_B_gapWord y_B_gapWord ∈ gw_tbl := gw_mem 32 (by decide +kernel) (by decide)
theorem wm_33 : Cond.selects R_M y_M_cut y_M_cut ∈ gw_tbl := gw_mem 33 (by decide +kernel) (by decide)
theorem wm_34 : Cond.selects R_M y_M_readGiven y_M_readGiven ∈ gw_tbl := gw_mem 34 (by decide +kernel) (by decide)
theorem wm_35 : Cond.selects R_M y_M_need y_M_need ∈ gw_tbl := gw_mem 35 (by decide +kernel) (by decide)
theorem wm_36 : Cond.selects R_M y_M_takes y_M_takes ∈ gw_tbl := gw_mem 36 (by decide +kernel) (by decide)
theorem wm_37 : Cond.selects R_M y_M_add y_M_add ∈ gw_tbl := gw_mem 37 (by decide +kernel) (by decide)
theorem wm_38 : Cond.selects R_M y_M_readResolvent y_M_readResolvent ∈ gw_tbl := gw_mem 38 (by decide +kernel) (by decide)
theorem wm_39 : Cond.selects R_M y_M_clauseHere y_M_clauseHere ∈ gw_tbl := gw_mem 39 (by decide +kernel) (by decide)
theorem wm_40 : Cond.selects R_M y_M_find y_M_find ∈ gw_tbl := gw_mem 40 (by decide +kernel) (by decide)
theorem wm_41 : Cond.selects R_M y_M_empty y_M_empty ∈ gw_tbl := gw_mem 41 (by decide +kernel) (by decide)
theorem wm_42 : Cond.selects R_M y_M_isThere y_M_isThere ∈ gw_tbl := gw_mem 42 (by decide +kernel) (by decide)
theorem wm_43 : Cond.selects R_M y_M_variablesOf y_M_variablesOf ∈ gw_tbl := gw_mem 43 (by decide +kernel) (by decide)
theorem wm_44 : Cond.selects R_M y_M_partials y_M_partials ∈ gw_tbl := gw_mem 44 (by decide +kernel) (by decide)
theorem wm_45 : Cond.selects R_M y_M_sum y_M_sum ∈ gw_tbl := gw_mem 45 (by decide +kernel) (by decide)
theorem wm_46 : Cond.selects R_M y_M_labelOf y_M_labelOf ∈ gw_tbl := gw_mem 46 (by decide +kernel) (by decide)
theorem wm_47 : Cond.selects R_M y_M_draw y_M_draw ∈ gw_tbl := gw_mem 47 (by decide +kernel) (by decide)
theorem wm_48 : Cond.selects R_M y_M_nodeOf y_M_nodeOf ∈ gw_tbl := gw_mem 48 (by decide +kernel) (by decide)
theorem wm_49 : Cond.selects R_M y_M_leastVariable y_M_leastVariable ∈ gw_tbl := gw_mem 49 (by decide +kernel) (by decide)
theorem wm_50 : Cond.selects R_M y_M_side y_M_side ∈ gw_tbl := gw_mem 50 (by decide +kernel) (by decide)
theorem wm_51 : Cond.selects R_M y_M_product y_M_product ∈ gw_tbl := gw_mem 51 (by decide +kernel) (by decide)
theorem wm_52 : Cond.initialized R_W ∈ gw_tbl := gw_mem 52 (by decide +kernel) (by decide)
theorem wm_53 : Cond.initialized R_B ∈ gw_tbl := gw_mem 53 (by decide +kernel) (by decide)
theorem wm_54 : Cond.initialized R_T ∈ gw_tbl := gw_mem 54 (by decide +kernel) (by decide)
theorem wm_55 : Cond.initialized R_C ∈ gw_tbl := gw_mem 55 (by decide +kernel) (by decide)
theorem wm_56 : Cond.initialized R_R ∈ gw_tbl := gw_mem 56 (by decide +kernel) (by decide)
theorem wm_57 : Cond.initialized R_L ∈ gw_tbl := gw_mem 57 (by decide +kernel) (by decide)
theorem wm_58 : Cond.initialized R_J ∈ gw_tbl := gw_mem 58 (by decide +kernel) (by decide)
theorem wm_59 : Cond.initialized R_F ∈ gw_tbl := gw_mem 59 (by decide +kernel) (by decide)
theorem wm_60 : Cond.initialized R_A ∈ gw_tbl := gw_mem 60 (by decide +kernel) (by decide)
theorem wm_61 : Cond.initialized R_G ∈ gw_tbl := gw_mem 61 (by decide +kernel) (by decide)
theorem wm_62 : Cond.initialized R_M ∈ gw_tbl := gw_mem 62 (by decide +kernel) (by decide)
theorem wm_63 : Cond.initialized R_U ∈ gw_tbl := gw_mem 63 (by decide +kernel) (by decide)
theorem wm_64 : Cond.initialized R_K ∈ gw_tbl := gw_mem 64 (by decide +kernel) (by decide)
theorem wm_65 : Cond.classLink R_W 7 R_B ∈ gw_tbl := gw_mem 65 (by decide +kernel) (by decide)
theorem wm_66 : Cond.instantiable R_B 8 ∈ gw_tbl := gw_mem 66 (by decide +kernel) (by decide)
theorem wm_67 : Cond.methodLink R_W 9 y_B_init ∈ gw_tbl := gw_mem 67 (by decide +kernel) (by decide)
theorem wm_68 : Cond.instanceMethod y_B_init ∈ gw_tbl := gw_mem 68 (by decide +kernel) (by decide)
theorem wm_69 : Cond.code y_B_init b_B_init 1 none ∈ gw_tbl := gw_mem 69 (by decide +kernel) (by decide)
theorem wm_70 : Cond.methodLink R_B 3 objectInit ∈ gw_tbl := gw_mem 70 (by decide +kernel) (by decide)
theorem wm_71 : Cond.instanceMethod objectInit ∈ gw_tbl := gw_mem 71 (by decide +kernel) (by decide)
theorem wm_72 : Cond.code objectInit ⟨#[0xb1]⟩ 1 none ∈ gw_tbl := gw_mem 72 (by decide +kernel) (by decide)
theorem wm_73 : Cond.classLink R_B 9 R_T ∈ gw_tbl := gw_mem 73 (by decide +kernel) (by decide)
theorem wm_74 : Cond.instantiable R_T 2 ∈ gw_tbl := gw_mem 74 (by decide +kernel) (by decide)
theorem wm_75 : Cond.methodLinkNest R_B 11 y_T_init "CraigBench" ∈ nw_tbl := nw_mem 75 (by decide +kernel) (by decide)
theorem wm_76 : Cond.instanceMethod y_T_init ∈ gw_tbl := gw_mem 76 (by decide +kernel) (by decide)
theorem wm_77 : Cond.code y_T_init b_T_init 1 none ∈ gw_tbl := gw_mem 77 (by decide +kernel) (by decide)
theorem wm_78 : Cond.methodLink R_T 3 objectInit ∈ gw_tbl := gw_mem 78 (by decide +kernel) (by decide)
theorem wm_79 : Cond.fieldLink R_T 9 "CraigBench$Tape" "bytes" "[B" ∈ gw_tbl := gw_mem 79 (by decide +kernel) (by decide)
theorem wm_80 : Cond.fieldLinkNest R_B 62 "CraigBench$Tape" "length" "I" "CraigBench" ∈ nw_tbl := nw_mem 80 (by decide +kernel) (by decide)
theorem wm_81 : Cond.fieldLink R_T 15 "CraigBench$Tape" "length" "I" ∈ gw_tbl := gw_mem 81 (by decide +kernel) (by decide)
theorem wm_82 : Cond.fieldLinkNest R_R 68 "CraigBench$Tape" "length" "I" "CraigBench" ∈ nw_tbl := nw_mem 82 (by decide +kernel) (by decide)
theorem wm_88 : Cond.arrayClass .byte ∈ gw_tbl := gw_mem 88 (by decide +kernel) (by decide)
theorem wm_89 : Cond.classLink R_B 16 R_C ∈ gw_tbl := gw_mem 89 (by decide +kernel) (by decide)
theorem wm_90 : Cond.instantiable R_C 13 ∈ gw_tbl := gw_mem 90 (by decide +kernel) (by decide)
theorem wm_91 : Cond.methodLinkNest R_B 18 y_C_init "CraigBench" ∈ nw_tbl := nw_mem 91 (by decide +kernel) (by decide)
theorem wm_92 : Cond.instanceMethod y_C_init ∈ gw_tbl := gw_mem 92 (by decide +kernel) (by decide)
theorem wm_93 : Cond.code y_C_init b_C_init 1 none ∈ gw_tbl := gw_mem 93 (by decide +kernel) (by decide)
theorem wm_94 : Cond.methodLink R_C 3 objectInit ∈ gw_tbl := gw_mem 94 (by decide +kernel) (by decide)
theorem wm_95 : Cond.fieldLink R_C 9 "CraigBench$Clauses" "block" "[I" ∈ gw_tbl := gw_mem 95 (by decide +kernel) (by decide)
theorem wm_96 : Cond.fieldLinkNest R_F 55 "CraigBench$Clauses" "block" "[I" "CraigBench" ∈ nw_tbl := nw_mem 96 (by decide +kernel) (by decide)
theorem wm_97 : Cond.fieldLinkNest R_B 92 "CraigBench$Clauses" "block" "[I" "CraigBench" ∈ nw_tbl := nw_mem 97 (by decide +kernel) (by decide)
theorem wm_98 : Cond.fieldLink R_C 15 "CraigBench$Clauses" "left" "[I" ∈ gw_tbl := gw_mem 98 (by decide +kernel) (by decide)
theorem wm_99 : Cond.fieldLinkNest R_F 80 "CraigBench$Clauses" "left" "[I" "CraigBench" ∈ nw_tbl := nw_mem 99 (by decide +kernel) (by decide)
theorem wm_100 : Cond.fieldLinkNest R_B 96 "CraigBench$Clauses" "left" "[I" "CraigBench" ∈ nw_tbl := nw_mem 100 (by decide +kernel) (by decide)
theorem wm_101 : Cond.fieldLink R_C 18 "CraigBench$Clauses" "right" "[I" ∈ gw_tbl := gw_mem 101 (by decide +kernel) (by decide)
theorem wm_102 : Cond.fieldLinkNest R_F 83 "CraigBench$Clauses" "right" "[I" "CraigBench" ∈ nw_tbl := nw_mem 102 (by decide +kernel) (by decide)
theorem wm_103 : Cond.fieldLinkNest R_B 99 "CraigBench$Clauses" "right" "[I" "CraigBench" ∈ nw_tbl := nw_mem 103 (by decide +kernel) (by decide)
theorem wm_104 : Cond.fieldLink R_C 21 "CraigBench$Clauses" "pivot" "[I" ∈ gw_tbl := gw_mem 104 (by decide +kernel) (by decide)
theorem wm_105 : Cond.fieldLinkNest R_F 86 "CraigBench$Clauses" "pivot" "[I" "CraigBench" ∈ nw_tbl := nw_mem 105 (by decide +kernel) (by decide)
theorem wm_106 : Cond.fieldLinkNest R_B 102 "CraigBench$Clauses" "pivot" "[I" "CraigBench" ∈ nw_tbl := nw_mem 106 (by decide +kernel) (by decide)
theorem wm_107 : Cond.fieldLink R_C 24 "CraigBench$Clauses" "positive" "[I" ∈ gw_tbl := gw_mem 107 (by decide +kernel) (by decide)
theorem wm_108 : Cond.fieldLinkNest R_F 66 "CraigBench$Clauses" "positive" "[I" "CraigBench" ∈ nw_tbl := nw_mem 108 (by decide +kernel) (by decide)
theorem wm_109 : Cond.fieldLinkNest R_B 105 "CraigBench$Clauses" "positive" "[I" "CraigBench" ∈ nw_tbl := nw_mem 109 (by decide +kernel) (by decide)
theorem wm_110 : Cond.fieldLink R_C 27 "CraigBench$Clauses" "negative" "[I" ∈ gw_tbl := gw_mem 110 (by decide +kernel) (by decide)
theorem wm_111 : Cond.fieldLinkNest R_F 69 "CraigBench$Clauses" "negative" "[I" "CraigBench" ∈ nw_tbl := nw_mem 111 (by decide +kernel) (by decide)
theorem wm_112 : Cond.fieldLinkNest R_B 108 "CraigBench$Clauses" "negative" "[I" "CraigBench" ∈ nw_tbl := nw_mem 112 (by decide +kernel) (by decide)
theorem wm_113 : Cond.fieldLink R_C 30 "CraigBench$Clauses" "live" "[Z" ∈ gw_tbl := gw_mem 113 (by decide +kernel) (by decide)
theorem wm_114 : Cond.fieldLink R_C 34 "CraigBench$Clauses" "needed" "[Z" ∈ gw_tbl := gw_mem 114 (by decide +kernel) (by decide)
theorem wm_115 : Cond.fieldLinkNest R_A 35 "CraigBench$Clauses" "needed" "[Z" "CraigBench" ∈ nw_tbl := nw_mem 115 (by decide +kernel) (by decide)
theorem wm_116 : Cond.fieldLinkNest R_F 51 "CraigBench$Clauses" "needed" "[Z" "CraigBench" ∈ nw_tbl := nw_mem 116 (by decide +kernel) (by decide)
theorem wm_117 : Cond.fieldLinkNest R_B 111 "CraigBench$Clauses" "needed" "[Z" "CraigBench" ∈ nw_tbl := nw_mem 117 (by decide +kernel) (by decide)
theorem wm_118 : Cond.fieldLink R_C 37 "CraigBench$Clauses" "size" "I" ∈ gw_tbl := gw_mem 118 (by decide +kernel) (by decide)
theorem wm_119 : Cond.fieldLinkNest R_B 83 "CraigBench$Clauses" "size" "I" "CraigBench" ∈ nw_tbl := nw_mem 119 (by decide +kernel) (by decide)
theorem wm_120 : Cond.fieldLink R_C 44 "CraigBench$Clauses" "given" "I" ∈ gw_tbl := gw_mem 120 (by decide +kernel) (by decide)
theorem wm_121 : Cond.fieldLinkNest R_B 188 "CraigBench$Clauses" "given" "I" "CraigBench" ∈ nw_tbl := nw_mem 121 (by decide +kernel) (by decide)
theorem wm_122 : Cond.fieldLinkNest R_A 26 "CraigBench$Clauses" "empty" "I" "CraigBench" ∈ nw_tbl := nw_mem 122 (by decide +kernel) (by decide)
theorem wm_123 : Cond.fieldLinkNest R_F 48 "CraigBench$Clauses" "empty" "I" "CraigBench" ∈ nw_tbl := nw_mem 123 (by decide +kernel) (by decide)
theorem wm_124 : Cond.fieldLinkNest R_B 115 "CraigBench$Clauses" "empty" "I" "CraigBench" ∈ nw_tbl := nw_mem 124 (by decide +kernel) (by decide)
theorem wm_125 : Cond.fieldLink R_C 78 "CraigBench$Clauses" "empty" "I" ∈ gw_tbl := gw_mem 125 (by decide +kernel) (by decide)
theorem wm_126 : Cond.fieldLink R_C 41 "CraigBench$Clauses" "drafted" "I" ∈ gw_tbl := gw_mem 126 (by decide +kernel) (by decide)
theorem wm_127 : Cond.fieldLink R_C 47 "CraigBench$Clauses" "draftedGiven" "I" ∈ gw_tbl := gw_mem 127 (by decide +kernel) (by decide)
theorem wm_155 : Cond.arrayClass .int ∈ gw_tbl := gw_mem 155 (by decide +kernel) (by decide)
theorem wm_156 : Cond.arrayClass .boolean ∈ gw_tbl := gw_mem 156 (by decide +kernel) (by decide)
theorem wm_157 : Cond.classLink R_B 23 R_R ∈ gw_tbl := gw_mem 157 (by decide +kernel) (by decide)
theorem wm_158 : Cond.instantiable R_R 15 ∈ gw_tbl := gw_mem 158 (by decide +kernel) (by decide)
theorem wm_159 : Cond.methodLink R_B 25 y_R_init ∈ gw_tbl := gw_mem 159 (by decide +kernel) (by decide)
theorem wm_160 : Cond.instanceMethod y_R_init ∈ gw_tbl := gw_mem 160 (by decide +kernel) (by decide)
theorem wm_161 : Cond.code y_R_init b_R_init 3 none ∈ gw_tbl := gw_mem 161 (by decide +kernel) (by decide)
theorem wm_162 : Cond.methodLink R_R 3 objectInit ∈ gw_tbl := gw_mem 162 (by decide +kernel) (by decide)
theorem wm_163 : Cond.fieldLink R_R 9 "CraigBench$Reader" "tape" "LCraigBench$Tape;" ∈ gw_tbl := gw_mem 163 (by decide +kernel) (by decide)
theorem wm_164 : Cond.fieldLink R_R 15 "CraigBench$Reader" "clauses" "LCraigBench$Clauses;" ∈ gw_tbl := gw_mem 164 (by decide +kernel) (by decide)
theorem wm_165 : Cond.fieldLink R_R 28 "CraigBench$Reader" "kind" "I" ∈ gw_tbl := gw_mem 165 (by decide +kernel) (by decide)
theorem wm_166 : Cond.fieldLinkNest R_B 73 "CraigBench$Reader" "kind" "I" "CraigBench" ∈ nw_tbl := nw_mem 166 (by decide +kernel) (by decide)
theorem wm_167 : Cond.fieldLink R_R 19 "CraigBench$Reader" "place" "I" ∈ gw_tbl := gw_mem 167 (by decide +kernel) (by decide)
theorem wm_168 : Cond.fieldLinkNest R_B 80 "CraigBench$Reader" "place" "I" "CraigBench" ∈ nw_tbl := nw_mem 168 (by decide +kernel) (by decide)
theorem wm_169 : Cond.fieldLink R_R 31 "CraigBench$Reader" "at" "I" ∈ gw_tbl := gw_mem 169 (by decide +kernel) (by decide)
theorem wm_170 : Cond.fieldLink R_R 37 "CraigBench$Reader" "token" "I" ∈ gw_tbl := gw_mem 170 (by decide +kernel) (by decide)
theorem wm_171 : Cond.fieldLink R_R 46 "CraigBench$Reader" "tokenPlace" "I" ∈ gw_tbl := gw_mem 171 (by decide +kernel) (by decide)
theorem wm_172 : Cond.fieldLink R_R 74 "CraigBench$Reader" "number" "I" ∈ gw_tbl := gw_mem 172 (by decide +kernel) (by decide)
theorem wm_173 : Cond.fieldLink R_R 34 "CraigBench$Reader" "state" "I" ∈ gw_tbl := gw_mem 173 (by decide +kernel) (by decide)
theorem wm_174 : Cond.fieldLink R_R 115 "CraigBench$Reader" "block" "I" ∈ gw_tbl := gw_mem 174 (by decide +kernel) (by decide)
theorem wm_175 : Cond.fieldLink R_R 109 "CraigBench$Reader" "positive" "I" ∈ gw_tbl := gw_mem 175 (by decide +kernel) (by decide)
theorem wm_176 : Cond.fieldLink R_R 112 "CraigBench$Reader" "negative" "I" ∈ gw_tbl := gw_mem 176 (by decide +kernel) (by decide)
theorem wm_177 : Cond.fieldLink R_R 122 "CraigBench$Reader" "left" "I" ∈ gw_tbl := gw_mem 177 (by decide +kernel) (by decide)
theorem wm_178 : Cond.fieldLink R_R 125 "CraigBench$Reader" "right" "I" ∈ gw_tbl := gw_mem 178 (by decide +kernel) (by decide)
theorem wm_179 : Cond.fieldLink R_R 128 "CraigBench$Reader" "pivot" "I" ∈ gw_tbl := gw_mem 179 (by decide +kernel) (by decide)
theorem wm_211 : Cond.classLink R_B 32 R_L ∈ gw_tbl := gw_mem 211 (by decide +kernel) (by decide)
theorem wm_212 : Cond.instantiable R_L 1 ∈ gw_tbl := gw_mem 212 (by decide +kernel) (by decide)
theorem wm_213 : Cond.methodLink R_B 34 y_L_init ∈ gw_tbl := gw_mem 213 (by decide +kernel) (by decide)
theorem wm_214 : Cond.instanceMethod y_L_init ∈ gw_tbl := gw_mem 214 (by decide +kernel) (by decide)
theorem wm_215 : Cond.code y_L_init b_L_init 1 none ∈ gw_tbl := gw_mem 215 (by decide +kernel) (by decide)
theorem wm_216 : Cond.methodLink R_L 3 objectInit ∈ gw_tbl := gw_mem 216 (by decide +kernel) (by decide)
theorem wm_217 : Cond.methodLink R_L 15 y_J_fillI ∈ gw_tbl := gw_mem 217 (by decide +kernel) (by decide)
theorem wm_218 : Cond.static y_J_fillI ∈ gw_tbl := gw_mem 218 (by decide +kernel) (by decide)
theorem wm_219 : Cond.code y_J_fillI b_J_fillI 4 none ∈ gw_tbl := gw_mem 219 (by decide +kernel) (by decide)
theorem wm_220 : Cond.fieldLink R_L 9 "CraigBench$Labels" "of" "[I" ∈ gw_tbl := gw_mem 220 (by decide +kernel) (by decide)
theorem wm_224 : Cond.classLink R_B 39 R_F ∈ gw_tbl := gw_mem 224 (by decide +kernel) (by decide)
theorem wm_225 : Cond.instantiable R_F 6 ∈ gw_tbl := gw_mem 225 (by decide +kernel) (by decide)
theorem wm_226 : Cond.methodLink R_B 41 y_F_init ∈ gw_tbl := gw_mem 226 (by decide +kernel) (by decide)
theorem wm_227 : Cond.instanceMethod y_F_init ∈ gw_tbl := gw_mem 227 (by decide +kernel) (by decide)
theorem wm_228 : Cond.code y_F_init b_F_init 3 none ∈ gw_tbl := gw_mem 228 (by decide +kernel) (by decide)
theorem wm_229 : Cond.methodLink R_F 3 objectInit ∈ gw_tbl := gw_mem 229 (by decide +kernel) (by decide)
theorem wm_230 : Cond.fieldLink R_F 15 "CraigBench$Formulas" "clauses" "LCraigBench$Clauses;" ∈ gw_tbl := gw_mem 230 (by decide +kernel) (by decide)
theorem wm_231 : Cond.fieldLink R_F 19 "CraigBench$Formulas" "labels" "LCraigBench$Labels;" ∈ gw_tbl := gw_mem 231 (by decide +kernel) (by decide)
theorem wm_232 : Cond.fieldLink R_F 9 "CraigBench$Formulas" "row" "[J" ∈ gw_tbl := gw_mem 232 (by decide +kernel) (by decide)
theorem wm_233 : Cond.fieldLinkNest R_A 44 "CraigBench$Formulas" "row" "[J" "CraigBench" ∈ nw_tbl := nw_mem 233 (by decide +kernel) (by decide)
theorem wm_234 : Cond.fieldLink R_F 29 "CraigBench$Formulas" "cut" "I" ∈ gw_tbl := gw_mem 234 (by decide +kernel) (by decide)
theorem wm_235 : Cond.fieldLink R_F 36 "CraigBench$Formulas" "labelledA" "I" ∈ gw_tbl := gw_mem 235 (by decide +kernel) (by decide)
theorem wm_236 : Cond.fieldLink R_F 39 "CraigBench$Formulas" "labelledB" "I" ∈ gw_tbl := gw_mem 236 (by decide +kernel) (by decide)
theorem wm_250 : Cond.arrayClass .long ∈ gw_tbl := gw_mem 250 (by decide +kernel) (by decide)
theorem wm_251 : Cond.classLink R_B 48 R_A ∈ gw_tbl := gw_mem 251 (by decide +kernel) (by decide)
theorem wm_252 : Cond.instantiable R_A 4 ∈ gw_tbl := gw_mem 252 (by decide +kernel) (by decide)
theorem wm_253 : Cond.methodLinkNest R_B 50 y_A_init "CraigBench" ∈ nw_tbl := nw_mem 253 (by decide +kernel) (by decide)
theorem wm_254 : Cond.instanceMethod y_A_init ∈ gw_tbl := gw_mem 254 (by decide +kernel) (by decide)
theorem wm_255 : Cond.code y_A_init b_A_init 1 none ∈ gw_tbl := gw_mem 255 (by decide +kernel) (by decide)
theorem wm_256 : Cond.methodLink R_A 3 objectInit ∈ gw_tbl := gw_mem 256 (by decide +kernel) (by decide)
theorem wm_257 : Cond.classLink R_A 19 R_G ∈ gw_tbl := gw_mem 257 (by decide +kernel) (by decide)
theorem wm_258 : Cond.instantiable R_G 8 ∈ gw_tbl := gw_mem 258 (by decide +kernel) (by decide)
theorem wm_259 : Cond.methodLinkNest R_A 21 y_G_init "CraigBench" ∈ nw_tbl := nw_mem 259 (by decide +kernel) (by decide)
theorem wm_260 : Cond.instanceMethod y_G_init ∈ gw_tbl := gw_mem 260 (by decide +kernel) (by decide)
theorem wm_261 : Cond.code y_G_init b_G_init 1 none ∈ gw_tbl := gw_mem 261 (by decide +kernel) (by decide)
theorem wm_262 : Cond.methodLink R_G 3 objectInit ∈ gw_tbl := gw_mem 262 (by decide +kernel) (by decide)
theorem wm_263 : Cond.fieldLink R_G 11 "CraigBench$Graph" "variable" "[I" ∈ gw_tbl := gw_mem 263 (by decide +kernel) (by decide)
theorem wm_264 : Cond.fieldLink R_G 15 "CraigBench$Graph" "low" "[I" ∈ gw_tbl := gw_mem 264 (by decide +kernel) (by decide)
theorem wm_265 : Cond.fieldLink R_G 18 "CraigBench$Graph" "high" "[I" ∈ gw_tbl := gw_mem 265 (by decide +kernel) (by decide)
theorem wm_266 : Cond.fieldLink R_G 21 "CraigBench$Graph" "numberOf" "[I" ∈ gw_tbl := gw_mem 266 (by decide +kernel) (by decide)
theorem wm_267 : Cond.fieldLink R_G 24 "CraigBench$Graph" "nodeOf" "[I" ∈ gw_tbl := gw_mem 267 (by decide +kernel) (by decide)
theorem wm_268 : Cond.fieldLink R_G 27 "CraigBench$Graph" "sides" "[I" ∈ gw_tbl := gw_mem 268 (by decide +kernel) (by decide)
theorem wm_269 : Cond.fieldLink R_G 30 "CraigBench$Graph" "waiting" "[I" ∈ gw_tbl := gw_mem 269 (by decide +kernel) (by decide)
theorem wm_270 : Cond.fieldLink R_G 33 "CraigBench$Graph" "size" "I" ∈ gw_tbl := gw_mem 270 (by decide +kernel) (by decide)
theorem wm_271 : Cond.fieldLinkNest R_B 151 "CraigBench$Graph" "size" "I" "CraigBench" ∈ nw_tbl := nw_mem 271 (by decide +kernel) (by decide)
theorem wm_289 : Cond.fieldLink R_A 9 "CraigBench$Answer" "words" "[J" ∈ gw_tbl := gw_mem 289 (by decide +kernel) (by decide)
theorem wm_290 : Cond.fieldLink R_A 15 "CraigBench$Answer" "known" "[Z" ∈ gw_tbl := gw_mem 290 (by decide +kernel) (by decide)
theorem wm_291 : Cond.fieldLink R_A 22 "CraigBench$Answer" "graph" "LCraigBench$Graph;" ∈ gw_tbl := gw_mem 291 (by decide +kernel) (by decide)
theorem wm_292 : Cond.fieldLinkNest R_B 147 "CraigBench$Answer" "graph" "LCraigBench$Graph;" "CraigBench" ∈ nw_tbl := nw_mem 292 (by decide +kernel) (by decide)
theorem wm_293 : Cond.fieldLink R_A 32 "CraigBench$Answer" "root" "I" ∈ gw_tbl := gw_mem 293 (by decide +kernel) (by decide)
theorem wm_294 : Cond.fieldLinkNest R_B 154 "CraigBench$Answer" "root" "I" "CraigBench" ∈ nw_tbl := nw_mem 294 (by decide +kernel) (by decide)
theorem wm_304 : Cond.fieldLink R_B 12 "CraigBench" "tape" "LCraigBench$Tape;" ∈ gw_tbl := gw_mem 304 (by decide +kernel) (by decide)
theorem wm_305 : Cond.fieldLink R_B 19 "CraigBench" "clauses" "LCraigBench$Clauses;" ∈ gw_tbl := gw_mem 305 (by decide +kernel) (by decide)
theorem wm_306 : Cond.fieldLink R_B 28 "CraigBench" "reader" "LCraigBench$Reader;" ∈ gw_tbl := gw_mem 306 (by decide +kernel) (by decide)
theorem wm_307 : Cond.fieldLink R_B 35 "CraigBench" "labels" "LCraigBench$Labels;" ∈ gw_tbl := gw_mem 307 (by decide +kernel) (by decide)
theorem wm_308 : Cond.fieldLink R_B 44 "CraigBench" "formulas" "LCraigBench$Formulas;" ∈ gw_tbl := gw_mem 308 (by decide +kernel) (by decide)
theorem wm_309 : Cond.fieldLink R_B 51 "CraigBench" "answer" "LCraigBench$Answer;" ∈ gw_tbl := gw_mem 309 (by decide +kernel) (by decide)
theorem wm_310 : Cond.fieldLink R_B 55 "CraigBench" "table" "[J" ∈ gw_tbl := gw_mem 310 (by decide +kernel) (by decide)
theorem wm_311 : Cond.fieldLink R_B 59 "CraigBench" "nextTable" "[J" ∈ gw_tbl := gw_mem 311 (by decide +kernel) (by decide)
theorem wm_329 : Cond.methodLink R_W 13 y_B_feed ∈ gw_tbl := gw_mem 329 (by decide +kernel) (by decide)
theorem wm_330 : Cond.instanceMethod y_B_feed ∈ gw_tbl := gw_mem 330 (by decide +kernel) (by decide)
theorem wm_331 : Cond.selects R_B y_B_feed y_B_feed ∈ gw_tbl := gw_mem 331 (by decide +kernel) (by decide)
theorem wm_332 : Cond.code y_B_feed b_B_feed 6 (some .int) ∈ gw_tbl := gw_mem 332 (by decide +kernel) (by decide)
theorem wm_333 : Cond.methodLink R_B 66 y_T_append ∈ gw_tbl := gw_mem 333 (by decide +kernel) (by decide)
theorem wm_334 : Cond.instanceMethod y_T_append ∈ gw_tbl := gw_mem 334 (by decide +kernel) (by decide)
theorem wm_335 : Cond.selects R_T y_T_append y_T_append ∈ gw_tbl := gw_mem 335 (by decide +kernel) (by decide)
theorem wm_336 : Cond.code y_T_append b_T_append 3 none ∈ gw_tbl := gw_mem 336 (by decide +kernel) (by decide)
theorem wm_337 : Cond.methodLink R_W 18 y_B_end_ ∈ gw_tbl := gw_mem 337 (by decide +kernel) (by decide)
theorem wm_338 : Cond.instanceMethod y_B_end_ ∈ gw_tbl := gw_mem 338 (by decide +kernel) (by decide)
theorem wm_339 : Cond.selects R_B y_B_end_ y_B_end_ ∈ gw_tbl := gw_mem 339 (by decide +kernel) (by decide)
theorem wm_340 : Cond.code y_B_end_ b_B_end_ 2 (some .int) ∈ gw_tbl := gw_mem 340 (by decide +kernel) (by decide)
theorem wm_341 : Cond.methodLink R_W 23 y_B_read ∈ gw_tbl := gw_mem 341 (by decide +kernel) (by decide)
theorem wm_342 : Cond.instanceMethod y_B_read ∈ gw_tbl := gw_mem 342 (by decide +kernel) (by decide)
theorem wm_343 : Cond.selects R_B y_B_read y_B_read ∈ gw_tbl := gw_mem 343 (by decide +kernel) (by decide)
theorem wm_344 : Cond.code y_B_read b_B_read 1 (some .int) ∈ gw_tbl := gw_mem 344 (by decide +kernel) (by decide)
theorem wm_345 : Cond.methodLink R_B 70 y_R_readText ∈ gw_tbl := gw_mem 345 (by decide +kernel) (by decide)
theorem wm_346 : Cond.instanceMethod y_R_readText ∈ gw_tbl := gw_mem 346 (by decide +kernel) (by decide)
theorem wm_347 : Cond.selects R_R y_R_readText y_R_readText ∈ gw_tbl := gw_mem 347 (by decide +kernel) (by decide)
theorem wm_348 : Cond.code y_R_readText b_R_readText 2 none ∈ gw_tbl := gw_mem 348 (by decide +kernel) (by decide)
theorem wm_349 : Cond.methodLink R_R 23 y_C_startDraft ∈ gw_tbl := gw_mem 349 (by decide +kernel) (by decide)
theorem wm_350 : Cond.instanceMethod y_C_startDraft ∈ gw_tbl := gw_mem 350 (by decide +kernel) (by decide)
theorem wm_351 : Cond.selects R_C y_C_startDraft y_C_startDraft ∈ gw_tbl := gw_mem 351 (by decide +kernel) (by decide)
theorem wm_352 : Cond.code y_C_startDraft b_C_startDraft 1 none ∈ gw_tbl := gw_mem 352 (by decide +kernel) (by decide)
theorem wm_353 : Cond.methodLink R_R 40 y_R_nextToken ∈ gw_tbl := gw_mem 353 (by decide +kernel) (by decide)
theorem wm_355 : Cond.instanceMethod y_R_nextToken ∈ gw_tbl := gw_mem 355 (by decide +kernel) (by decide)
theorem wm_356 : Cond.code y_R_nextToken b_R_nextToken 2 none ∈ gw_tbl := gw_mem 356 (by decide +kernel) (by decide)
theorem wm_357 : Cond.methodLink R_R 49 y_R_skipBlanks ∈ gw_tbl := gw_mem 357 (by decide +kernel) (by decide)
theorem wm_359 : Cond.instanceMethod y_R_skipBlanks ∈ gw_tbl := gw_mem 359 (by decide +kernel) (by decide)
theorem wm_360 : Cond.code y_R_skipBlanks b_R_skipBlanks 1 none ∈ gw_tbl := gw_mem 360 (by decide +kernel) (by decide)
theorem wm_361 : Cond.methodLink R_R 52 y_T_byteAt ∈ gw_tbl := gw_mem 361 (by decide +kernel) (by decide)
theorem wm_362 : Cond.instanceMethod y_T_byteAt ∈ gw_tbl := gw_mem 362 (by decide +kernel) (by decide)
theorem wm_363 : Cond.selects R_T y_T_byteAt y_T_byteAt ∈ gw_tbl := gw_mem 363 (by decide +kernel) (by decide)
theorem wm_364 : Cond.code y_T_byteAt b_T_byteAt 2 (some .int) ∈ gw_tbl := gw_mem 364 (by decide +kernel) (by decide)
theorem wm_365 : Cond.methodLink R_R 71 y_R_isBlank ∈ gw_tbl := gw_mem 365 (by decide +kernel) (by decide)
theorem wm_366 : Cond.static y_R_isBlank ∈ gw_tbl := gw_mem 366 (by decide +kernel) (by decide)
theorem wm_367 : Cond.code y_R_isBlank b_R_isBlank 1 (some .boolean) ∈ gw_tbl := gw_mem 367 (by decide +kernel) (by decide)
theorem wm_368 : Cond.methodLink R_R 58 y_R_isDigit ∈ gw_tbl := gw_mem 368 (by decide +kernel) (by decide)
theorem wm_369 : Cond.static y_R_isDigit ∈ gw_tbl := gw_mem 369 (by decide +kernel) (by decide)
theorem wm_370 : Cond.code y_R_isDigit b_R_isDigit 1 (some .boolean) ∈ gw_tbl := gw_mem 370 (by decide +kernel) (by decide)
theorem wm_371 : Cond.methodLink R_R 62 y_R_takeDigits ∈ gw_tbl := gw_mem 371 (by decide +kernel) (by decide)
theorem wm_373 : Cond.instanceMethod y_R_takeDigits ∈ gw_tbl := gw_mem 373 (by decide +kernel) (by decide)
theorem wm_374 : Cond.code y_R_takeDigits b_R_takeDigits 1 none ∈ gw_tbl := gw_mem 374 (by decide +kernel) (by decide)
theorem wm_375 : Cond.methodLink R_R 65 y_R_isSign ∈ gw_tbl := gw_mem 375 (by decide +kernel) (by decide)
theorem wm_376 : Cond.static y_R_isSign ∈ gw_tbl := gw_mem 376 (by decide +kernel) (by decide)
theorem wm_377 : Cond.code y_R_isSign b_R_isSign 1 (some .boolean) ∈ gw_tbl := gw_mem 377 (by decide +kernel) (by decide)
theorem wm_378 : Cond.methodLink R_R 43 y_R_takeToken ∈ gw_tbl := gw_mem 378 (by decide +kernel) (by decide)
theorem wm_380 : Cond.instanceMethod y_R_takeToken ∈ gw_tbl := gw_mem 380 (by decide +kernel) (by decide)
theorem wm_381 : Cond.code y_R_takeToken b_R_takeToken 1 none ∈ gw_tbl := gw_mem 381 (by decide +kernel) (by decide)
theorem wm_382 : Cond.methodLink R_R 77 y_R_takeStart ∈ gw_tbl := gw_mem 382 (by decide +kernel) (by decide)
theorem wm_384 : Cond.instanceMethod y_R_takeStart ∈ gw_tbl := gw_mem 384 (by decide +kernel) (by decide)
theorem wm_385 : Cond.code y_R_takeStart b_R_takeStart 1 none ∈ gw_tbl := gw_mem 385 (by decide +kernel) (by decide)
theorem wm_386 : Cond.methodLink R_R 92 y_R_openGiven ∈ gw_tbl := gw_mem 386 (by decide +kernel) (by decide)
theorem wm_388 : Cond.instanceMethod y_R_openGiven ∈ gw_tbl := gw_mem 388 (by decide +kernel) (by decide)
theorem wm_389 : Cond.code y_R_openGiven b_R_openGiven 1 none ∈ gw_tbl := gw_mem 389 (by decide +kernel) (by decide)
theorem wm_390 : Cond.methodLink R_R 102 y_C_hasRoomForGiven ∈ gw_tbl := gw_mem 390 (by decide +kernel) (by decide)
theorem wm_391 : Cond.instanceMethod y_C_hasRoomForGiven ∈ gw_tbl := gw_mem 391 (by decide +kernel) (by decide)
theorem wm_392 : Cond.selects R_C y_C_hasRoomForGiven y_C_hasRoomForGiven ∈ gw_tbl := gw_mem 392 (by decide +kernel) (by decide)
theorem wm_393 : Cond.code y_C_hasRoomForGiven b_C_hasRoomForGiven 1 (some .boolean) ∈ gw_tbl := gw_mem 393 (by decide +kernel) (by decide)
theorem wm_394 : Cond.methodLink R_C 50 y_C_hasRoom ∈ gw_tbl := gw_mem 394 (by decide +kernel) (by decide)
theorem wm_395 : Cond.instanceMethod y_C_hasRoom ∈ gw_tbl := gw_mem 395 (by decide +kernel) (by decide)
theorem wm_396 : Cond.selects R_C y_C_hasRoom y_C_hasRoom ∈ gw_tbl := gw_mem 396 (by decide +kernel) (by decide)
theorem wm_397 : Cond.code y_C_hasRoom b_C_hasRoom 1 (some .boolean) ∈ gw_tbl := gw_mem 397 (by decide +kernel) (by decide)
theorem wm_398 : Cond.methodLink R_R 98 y_R_fail ∈ gw_tbl := gw_mem 398 (by decide +kernel) (by decide)
theorem wm_400 : Cond.instanceMethod y_R_fail ∈ gw_tbl := gw_mem 400 (by decide +kernel) (by decide)
theorem wm_401 : Cond.code y_R_fail b_R_fail 2 none ∈ gw_tbl := gw_mem 401 (by decide +kernel) (by decide)
theorem wm_402 : Cond.methodLink R_R 95 y_R_openResolvent ∈ gw_tbl := gw_mem 402 (by decide +kernel) (by decide)
theorem wm_404 : Cond.instanceMethod y_R_openResolvent ∈ gw_tbl := gw_mem 404 (by decide +kernel) (by decide)
theorem wm_405 : Cond.code y_R_openResolvent b_R_openResolvent 1 none ∈ gw_tbl := gw_mem 405 (by decide +kernel) (by decide)
theorem wm_406 : Cond.methodLink R_R 106 y_C_hasRoom ∈ gw_tbl := gw_mem 406 (by decide +kernel) (by decide)
theorem wm_407 : Cond.methodLink R_R 80 y_R_takeColon ∈ gw_tbl := gw_mem 407 (by decide +kernel) (by decide)
theorem wm_409 : Cond.instanceMethod y_R_takeColon ∈ gw_tbl := gw_mem 409 (by decide +kernel) (by decide)
theorem wm_410 : Cond.code y_R_takeColon b_R_takeColon 1 none ∈ gw_tbl := gw_mem 410 (by decide +kernel) (by decide)
theorem wm_411 : Cond.methodLink R_R 83 y_R_takeInsideClause ∈ gw_tbl := gw_mem 411 (by decide +kernel) (by decide)
theorem wm_413 : Cond.instanceMethod y_R_takeInsideClause ∈ gw_tbl := gw_mem 413 (by decide +kernel) (by decide)
theorem wm_414 : Cond.code y_R_takeInsideClause b_R_takeInsideClause 1 none ∈ gw_tbl := gw_mem 414 (by decide +kernel) (by decide)
theorem wm_415 : Cond.methodLink R_R 118 y_C_draftGiven ∈ gw_tbl := gw_mem 415 (by decide +kernel) (by decide)
theorem wm_416 : Cond.instanceMethod y_C_draftGiven ∈ gw_tbl := gw_mem 416 (by decide +kernel) (by decide)
theorem wm_417 : Cond.selects R_C y_C_draftGiven y_C_draftGiven ∈ gw_tbl := gw_mem 417 (by decide +kernel) (by decide)
theorem wm_418 : Cond.code y_C_draftGiven b_C_draftGiven 4 none ∈ gw_tbl := gw_mem 418 (by decide +kernel) (by decide)
theorem wm_419 : Cond.methodLink R_C 54 y_C_hasRoomForGiven ∈ gw_tbl := gw_mem 419 (by decide +kernel) (by decide)
theorem wm_420 : Cond.methodLink R_C 57 y_C_draft ∈ gw_tbl := gw_mem 420 (by decide +kernel) (by decide)
theorem wm_422 : Cond.instanceMethod y_C_draft ∈ gw_tbl := gw_mem 422 (by decide +kernel) (by decide)
theorem wm_423 : Cond.code y_C_draft b_C_draft 3 none ∈ gw_tbl := gw_mem 423 (by decide +kernel) (by decide)
theorem wm_424 : Cond.methodLink R_R 89 y_R_takeNumber ∈ gw_tbl := gw_mem 424 (by decide +kernel) (by decide)
theorem wm_426 : Cond.instanceMethod y_R_takeNumber ∈ gw_tbl := gw_mem 426 (by decide +kernel) (by decide)
theorem wm_427 : Cond.code y_R_takeNumber b_R_takeNumber 1 none ∈ gw_tbl := gw_mem 427 (by decide +kernel) (by decide)
theorem wm_428 : Cond.methodLink R_R 134 y_R_takeBlock ∈ gw_tbl := gw_mem 428 (by decide +kernel) (by decide)
theorem wm_430 : Cond.instanceMethod y_R_takeBlock ∈ gw_tbl := gw_mem 430 (by decide +kernel) (by decide)
theorem wm_431 : Cond.code y_R_takeBlock b_R_takeBlock 1 none ∈ gw_tbl := gw_mem 431 (by decide +kernel) (by decide)
theorem wm_432 : Cond.methodLink R_R 137 y_R_takeLeft ∈ gw_tbl := gw_mem 432 (by decide +kernel) (by decide)
theorem wm_434 : Cond.instanceMethod y_R_takeLeft ∈ gw_tbl := gw_mem 434 (by decide +kernel) (by decide)
theorem wm_435 : Cond.code y_R_takeLeft b_R_takeLeft 1 none ∈ gw_tbl := gw_mem 435 (by decide +kernel) (by decide)
theorem wm_436 : Cond.methodLink R_R 155 y_C_isDrafted ∈ gw_tbl := gw_mem 436 (by decide +kernel) (by decide)
theorem wm_437 : Cond.instanceMethod y_C_isDrafted ∈ gw_tbl := gw_mem 437 (by decide +kernel) (by decide)
theorem wm_438 : Cond.selects R_C y_C_isDrafted y_C_isDrafted ∈ gw_tbl := gw_mem 438 (by decide +kernel) (by decide)
theorem wm_439 : Cond.code y_C_isDrafted b_C_isDrafted 2 (some .boolean) ∈ gw_tbl := gw_mem 439 (by decide +kernel) (by decide)
theorem wm_440 : Cond.methodLink R_R 140 y_R_takeRight ∈ gw_tbl := gw_mem 440 (by decide +kernel) (by decide)
theorem wm_442 : Cond.instanceMethod y_R_takeRight ∈ gw_tbl := gw_mem 442 (by decide +kernel) (by decide)
theorem wm_443 : Cond.code y_R_takeRight b_R_takeRight 1 none ∈ gw_tbl := gw_mem 443 (by decide +kernel) (by decide)
theorem wm_444 : Cond.methodLink R_R 143 y_R_takePivot ∈ gw_tbl := gw_mem 444 (by decide +kernel) (by decide)
theorem wm_446 : Cond.instanceMethod y_R_takePivot ∈ gw_tbl := gw_mem 446 (by decide +kernel) (by decide)
theorem wm_447 : Cond.code y_R_takePivot b_R_takePivot 1 none ∈ gw_tbl := gw_mem 447 (by decide +kernel) (by decide)
theorem wm_448 : Cond.methodLinkNest R_R 149 y_B_isVariable "CraigBench" ∈ nw_tbl := nw_mem 448 (by decide +kernel) (by decide)
theorem wm_449 : Cond.static y_B_isVariable ∈ gw_tbl := gw_mem 449 (by decide +kernel) (by decide)
theorem wm_450 : Cond.code y_B_isVariable b_B_isVariable 1 (some .boolean) ∈ gw_tbl := gw_mem 450 (by decide +kernel) (by decide)
theorem wm_451 : Cond.methodLink R_R 158 y_C_resolves ∈ gw_tbl := gw_mem 451 (by decide +kernel) (by decide)
theorem wm_452 : Cond.instanceMethod y_C_resolves ∈ gw_tbl := gw_mem 452 (by decide +kernel) (by decide)
theorem wm_453 : Cond.selects R_C y_C_resolves y_C_resolves ∈ gw_tbl := gw_mem 453 (by decide +kernel) (by decide)
theorem wm_454 : Cond.code y_C_resolves b_C_resolves 4 (some .boolean) ∈ gw_tbl := gw_mem 454 (by decide +kernel) (by decide)
theorem wm_455 : Cond.methodLinkNest R_C 81 y_B_bitOf "CraigBench" ∈ nw_tbl := nw_mem 455 (by decide +kernel) (by decide)
theorem wm_456 : Cond.static y_B_bitOf ∈ gw_tbl := gw_mem 456 (by decide +kernel) (by decide)
theorem wm_457 : Cond.code y_B_bitOf b_B_bitOf 1 (some .int) ∈ gw_tbl := gw_mem 457 (by decide +kernel) (by decide)
theorem wm_458 : Cond.methodLink R_R 162 y_C_clashes ∈ gw_tbl := gw_mem 458 (by decide +kernel) (by decide)
theorem wm_459 : Cond.instanceMethod y_C_clashes ∈ gw_tbl := gw_mem 459 (by decide +kernel) (by decide)
theorem wm_460 : Cond.selects R_C y_C_clashes y_C_clashes ∈ gw_tbl := gw_mem 460 (by decide +kernel) (by decide)
theorem wm_461 : Cond.code y_C_clashes b_C_clashes 4 (some .boolean) ∈ gw_tbl := gw_mem 461 (by decide +kernel) (by decide)
theorem wm_462 : Cond.methodLink R_C 65 y_C_positiveRest ∈ gw_tbl := gw_mem 462 (by decide +kernel) (by decide)
theorem wm_464 : Cond.instanceMethod y_C_positiveRest ∈ gw_tbl := gw_mem 464 (by decide +kernel) (by decide)
theorem wm_465 : Cond.code y_C_positiveRest b_C_positiveRest 4 (some .int) ∈ gw_tbl := gw_mem 465 (by decide +kernel) (by decide)
theorem wm_466 : Cond.methodLink R_C 69 y_C_negativeRest ∈ gw_tbl := gw_mem 466 (by decide +kernel) (by decide)
theorem wm_468 : Cond.instanceMethod y_C_negativeRest ∈ gw_tbl := gw_mem 468 (by decide +kernel) (by decide)
theorem wm_469 : Cond.code y_C_negativeRest b_C_negativeRest 4 (some .int) ∈ gw_tbl := gw_mem 469 (by decide +kernel) (by decide)
theorem wm_470 : Cond.methodLink R_R 146 y_R_takeLiteral ∈ gw_tbl := gw_mem 470 (by decide +kernel) (by decide)
theorem wm_472 : Cond.instanceMethod y_R_takeLiteral ∈ gw_tbl := gw_mem 472 (by decide +kernel) (by decide)
theorem wm_473 : Cond.code y_R_takeLiteral b_R_takeLiteral 2 none ∈ gw_tbl := gw_mem 473 (by decide +kernel) (by decide)
theorem wm_474 : Cond.methodLinkNest R_R 152 y_B_bitOf "CraigBench" ∈ nw_tbl := nw_mem 474 (by decide +kernel) (by decide)
theorem wm_475 : Cond.methodLink R_R 86 y_R_takeClose ∈ gw_tbl := gw_mem 475 (by decide +kernel) (by decide)
theorem wm_477 : Cond.instanceMethod y_R_takeClose ∈ gw_tbl := gw_mem 477 (by decide +kernel) (by decide)
theorem wm_478 : Cond.code y_R_takeClose b_R_takeClose 1 none ∈ gw_tbl := gw_mem 478 (by decide +kernel) (by decide)
theorem wm_479 : Cond.methodLink R_R 131 y_C_draftResolvent ∈ gw_tbl := gw_mem 479 (by decide +kernel) (by decide)
theorem wm_480 : Cond.instanceMethod y_C_draftResolvent ∈ gw_tbl := gw_mem 480 (by decide +kernel) (by decide)
theorem wm_481 : Cond.selects R_C y_C_draftResolvent y_C_draftResolvent ∈ gw_tbl := gw_mem 481 (by decide +kernel) (by decide)
theorem wm_482 : Cond.code y_C_draftResolvent b_C_draftResolvent 4 none ∈ gw_tbl := gw_mem 482 (by decide +kernel) (by decide)
theorem wm_483 : Cond.methodLink R_C 61 y_C_isDrafted ∈ gw_tbl := gw_mem 483 (by decide +kernel) (by decide)
theorem wm_484 : Cond.methodLink R_B 76 y_C_keepDraft ∈ gw_tbl := gw_mem 484 (by decide +kernel) (by decide)
theorem wm_485 : Cond.instanceMethod y_C_keepDraft ∈ gw_tbl := gw_mem 485 (by decide +kernel) (by decide)
theorem wm_486 : Cond.selects R_C y_C_keepDraft y_C_keepDraft ∈ gw_tbl := gw_mem 486 (by decide +kernel) (by decide)
theorem wm_487 : Cond.code y_C_keepDraft b_C_keepDraft 2 (some .int) ∈ gw_tbl := gw_mem 487 (by decide +kernel) (by decide)
theorem wm_488 : Cond.methodLink R_C 72 y_C_findEmpty ∈ gw_tbl := gw_mem 488 (by decide +kernel) (by decide)
theorem wm_490 : Cond.instanceMethod y_C_findEmpty ∈ gw_tbl := gw_mem 490 (by decide +kernel) (by decide)
theorem wm_491 : Cond.code y_C_findEmpty b_C_findEmpty 2 none ∈ gw_tbl := gw_mem 491 (by decide +kernel) (by decide)
theorem wm_492 : Cond.methodLink R_C 75 y_C_markNeeded ∈ gw_tbl := gw_mem 492 (by decide +kernel) (by decide)
theorem wm_494 : Cond.instanceMethod y_C_markNeeded ∈ gw_tbl := gw_mem 494 (by decide +kernel) (by decide)
theorem wm_495 : Cond.code y_C_markNeeded b_C_markNeeded 2 none ∈ gw_tbl := gw_mem 495 (by decide +kernel) (by decide)
theorem wm_496 : Cond.methodLink R_W 28 y_B_fault ∈ gw_tbl := gw_mem 496 (by decide +kernel) (by decide)
theorem wm_497 : Cond.instanceMethod y_B_fault ∈ gw_tbl := gw_mem 497 (by decide +kernel) (by decide)
theorem wm_498 : Cond.selects R_B y_B_fault y_B_fault ∈ gw_tbl := gw_mem 498 (by decide +kernel) (by decide)
theorem wm_499 : Cond.code y_B_fault b_B_fault 2 (some .int) ∈ gw_tbl := gw_mem 499 (by decide +kernel) (by decide)
theorem wm_500 : Cond.methodLink R_W 32 y_B_clear ∈ gw_tbl := gw_mem 500 (by decide +kernel) (by decide)
theorem wm_501 : Cond.instanceMethod y_B_clear ∈ gw_tbl := gw_mem 501 (by decide +kernel) (by decide)
theorem wm_502 : Cond.selects R_B y_B_clear y_B_clear ∈ gw_tbl := gw_mem 502 (by decide +kernel) (by decide)
theorem wm_503 : Cond.code y_B_clear b_B_clear 2 (some .int) ∈ gw_tbl := gw_mem 503 (by decide +kernel) (by decide)
theorem wm_504 : Cond.methodLink R_B 86 y_C_removeAll ∈ gw_tbl := gw_mem 504 (by decide +kernel) (by decide)
theorem wm_505 : Cond.instanceMethod y_C_removeAll ∈ gw_tbl := gw_mem 505 (by decide +kernel) (by decide)
theorem wm_506 : Cond.selects R_C y_C_removeAll y_C_removeAll ∈ gw_tbl := gw_mem 506 (by decide +kernel) (by decide)
theorem wm_507 : Cond.code y_C_removeAll b_C_removeAll 1 none ∈ gw_tbl := gw_mem 507 (by decide +kernel) (by decide)
theorem wm_508 : Cond.methodLink R_B 89 y_L_reset ∈ gw_tbl := gw_mem 508 (by decide +kernel) (by decide)
theorem wm_509 : Cond.instanceMethod y_L_reset ∈ gw_tbl := gw_mem 509 (by decide +kernel) (by decide)
theorem wm_510 : Cond.selects R_L y_L_reset y_L_reset ∈ gw_tbl := gw_mem 510 (by decide +kernel) (by decide)
theorem wm_511 : Cond.code y_L_reset b_L_reset 1 none ∈ gw_tbl := gw_mem 511 (by decide +kernel) (by decide)
theorem wm_512 : Cond.methodLink R_W 36 y_B_clause ∈ gw_tbl := gw_mem 512 (by decide +kernel) (by decide)
theorem wm_513 : Cond.instanceMethod y_B_clause ∈ gw_tbl := gw_mem 513 (by decide +kernel) (by decide)
theorem wm_514 : Cond.selects R_B y_B_clause y_B_clause ∈ gw_tbl := gw_mem 514 (by decide +kernel) (by decide)
theorem wm_515 : Cond.code y_B_clause b_B_clause 3 (some .int) ∈ gw_tbl := gw_mem 515 (by decide +kernel) (by decide)
theorem wm_516 : Cond.methodLink R_W 41 y_B_refutation ∈ gw_tbl := gw_mem 516 (by decide +kernel) (by decide)
theorem wm_517 : Cond.instanceMethod y_B_refutation ∈ gw_tbl := gw_mem 517 (by decide +kernel) (by decide)
theorem wm_518 : Cond.selects R_B y_B_refutation y_B_refutation ∈ gw_tbl := gw_mem 518 (by decide +kernel) (by decide)
theorem wm_519 : Cond.code y_B_refutation b_B_refutation 1 (some .int) ∈ gw_tbl := gw_mem 519 (by decide +kernel) (by decide)
theorem wm_520 : Cond.methodLink R_W 45 y_B_eliminate ∈ gw_tbl := gw_mem 520 (by decide +kernel) (by decide)
theorem wm_521 : Cond.instanceMethod y_B_eliminate ∈ gw_tbl := gw_mem 521 (by decide +kernel) (by decide)
theorem wm_522 : Cond.selects R_B y_B_eliminate y_B_eliminate ∈ gw_tbl := gw_mem 522 (by decide +kernel) (by decide)
theorem wm_523 : Cond.code y_B_eliminate b_B_eliminate 2 (some .int) ∈ gw_tbl := gw_mem 523 (by decide +kernel) (by decide)
theorem wm_524 : Cond.methodLink R_B 118 y_B_isVariable ∈ gw_tbl := gw_mem 524 (by decide +kernel) (by decide)
theorem wm_525 : Cond.methodLink R_B 122 y_C_resolveAway ∈ gw_tbl := gw_mem 525 (by decide +kernel) (by decide)
theorem wm_526 : Cond.instanceMethod y_C_resolveAway ∈ gw_tbl := gw_mem 526 (by decide +kernel) (by decide)
theorem wm_527 : Cond.selects R_C y_C_resolveAway y_C_resolveAway ∈ gw_tbl := gw_mem 527 (by decide +kernel) (by decide)
theorem wm_528 : Cond.code y_C_resolveAway b_C_resolveAway 4 (some .int) ∈ gw_tbl := gw_mem 528 (by decide +kernel) (by decide)
theorem wm_529 : Cond.methodLink R_C 85 y_C_startDraft ∈ gw_tbl := gw_mem 529 (by decide +kernel) (by decide)
theorem wm_530 : Cond.methodLink R_C 88 y_C_resolves ∈ gw_tbl := gw_mem 530 (by decide +kernel) (by decide)
theorem wm_531 : Cond.methodLink R_C 92 y_C_isNews ∈ gw_tbl := gw_mem 531 (by decide +kernel) (by decide)
theorem wm_533 : Cond.instanceMethod y_C_isNews ∈ gw_tbl := gw_mem 533 (by decide +kernel) (by decide)
theorem wm_534 : Cond.code y_C_isNews b_C_isNews 7 (some .boolean) ∈ gw_tbl := gw_mem 534 (by decide +kernel) (by decide)
theorem wm_535 : Cond.methodLink R_C 107 y_C_clashes ∈ gw_tbl := gw_mem 535 (by decide +kernel) (by decide)
theorem wm_536 : Cond.methodLink R_C 95 y_C_draftResolvent ∈ gw_tbl := gw_mem 536 (by decide +kernel) (by decide)
theorem wm_537 : Cond.methodLink R_C 99 y_C_retire ∈ gw_tbl := gw_mem 537 (by decide +kernel) (by decide)
theorem wm_539 : Cond.instanceMethod y_C_retire ∈ gw_tbl := gw_mem 539 (by decide +kernel) (by decide)
theorem wm_540 : Cond.code y_C_retire b_C_retire 3 none ∈ gw_tbl := gw_mem 540 (by decide +kernel) (by decide)
theorem wm_541 : Cond.methodLink R_C 103 y_C_keepDraft ∈ gw_tbl := gw_mem 541 (by decide +kernel) (by decide)
theorem wm_542 : Cond.methodLink R_W 49 y_B_label ∈ gw_tbl := gw_mem 542 (by decide +kernel) (by decide)
theorem wm_543 : Cond.instanceMethod y_B_label ∈ gw_tbl := gw_mem 543 (by decide +kernel) (by decide)
theorem wm_544 : Cond.selects R_B y_B_label y_B_label ∈ gw_tbl := gw_mem 544 (by decide +kernel) (by decide)
theorem wm_545 : Cond.code y_B_label b_B_label 3 (some .int) ∈ gw_tbl := gw_mem 545 (by decide +kernel) (by decide)
theorem wm_546 : Cond.methodLink R_B 126 y_L_exchange ∈ gw_tbl := gw_mem 546 (by decide +kernel) (by decide)
theorem wm_547 : Cond.instanceMethod y_L_exchange ∈ gw_tbl := gw_mem 547 (by decide +kernel) (by decide)
theorem wm_548 : Cond.selects R_L y_L_exchange y_L_exchange ∈ gw_tbl := gw_mem 548 (by decide +kernel) (by decide)
theorem wm_549 : Cond.code y_L_exchange b_L_exchange 4 (some .int) ∈ gw_tbl := gw_mem 549 (by decide +kernel) (by decide)
theorem wm_550 : Cond.methodLink R_W 53 y_B_variables ∈ gw_tbl := gw_mem 550 (by decide +kernel) (by decide)
theorem wm_551 : Cond.instanceMethod y_B_variables ∈ gw_tbl := gw_mem 551 (by decide +kernel) (by decide)
theorem wm_552 : Cond.selects R_B y_B_variables y_B_variables ∈ gw_tbl := gw_mem 552 (by decide +kernel) (by decide)
theorem wm_553 : Cond.code y_B_variables b_B_variables 5 (some .int) ∈ gw_tbl := gw_mem 553 (by decide +kernel) (by decide)
theorem wm_554 : Cond.methodLink R_B 130 y_B_isCut ∈ gw_tbl := gw_mem 554 (by decide +kernel) (by decide)
theorem wm_555 : Cond.static y_B_isCut ∈ gw_tbl := gw_mem 555 (by decide +kernel) (by decide)
theorem wm_556 : Cond.code y_B_isCut b_B_isCut 1 (some .boolean) ∈ gw_tbl := gw_mem 556 (by decide +kernel) (by decide)
theorem wm_557 : Cond.methodLink R_B 133 y_C_occurring ∈ gw_tbl := gw_mem 557 (by decide +kernel) (by decide)
theorem wm_558 : Cond.instanceMethod y_C_occurring ∈ gw_tbl := gw_mem 558 (by decide +kernel) (by decide)
theorem wm_559 : Cond.selects R_C y_C_occurring y_C_occurring ∈ gw_tbl := gw_mem 559 (by decide +kernel) (by decide)
theorem wm_560 : Cond.code y_C_occurring b_C_occurring 5 (some .int) ∈ gw_tbl := gw_mem 560 (by decide +kernel) (by decide)
theorem wm_561 : Cond.methodLink R_C 110 y_C_isGivenOf ∈ gw_tbl := gw_mem 561 (by decide +kernel) (by decide)
theorem wm_563 : Cond.instanceMethod y_C_isGivenOf ∈ gw_tbl := gw_mem 563 (by decide +kernel) (by decide)
theorem wm_564 : Cond.code y_C_isGivenOf b_C_isGivenOf 4 (some .boolean) ∈ gw_tbl := gw_mem 564 (by decide +kernel) (by decide)
theorem wm_565 : Cond.methodLink R_W 57 y_B_interpolate ∈ gw_tbl := gw_mem 565 (by decide +kernel) (by decide)
theorem wm_566 : Cond.instanceMethod y_B_interpolate ∈ gw_tbl := gw_mem 566 (by decide +kernel) (by decide)
theorem wm_567 : Cond.selects R_B y_B_interpolate y_B_interpolate ∈ gw_tbl := gw_mem 567 (by decide +kernel) (by decide)
theorem wm_568 : Cond.code y_B_interpolate b_B_interpolate 3 (some .int) ∈ gw_tbl := gw_mem 568 (by decide +kernel) (by decide)
theorem wm_569 : Cond.methodLink R_B 136 y_B_isSystem ∈ gw_tbl := gw_mem 569 (by decide +kernel) (by decide)
theorem wm_570 : Cond.static y_B_isSystem ∈ gw_tbl := gw_mem 570 (by decide +kernel) (by decide)
theorem wm_571 : Cond.code y_B_isSystem b_B_isSystem 1 (some .boolean) ∈ gw_tbl := gw_mem 571 (by decide +kernel) (by decide)
theorem wm_572 : Cond.methodLink R_B 139 y_F_choose ∈ gw_tbl := gw_mem 572 (by decide +kernel) (by decide)
theorem wm_573 : Cond.instanceMethod y_F_choose ∈ gw_tbl := gw_mem 573 (by decide +kernel) (by decide)
theorem wm_574 : Cond.selects R_F y_F_choose y_F_choose ∈ gw_tbl := gw_mem 574 (by decide +kernel) (by decide)
theorem wm_575 : Cond.code y_F_choose b_F_choose 6 none ∈ gw_tbl := gw_mem 575 (by decide +kernel) (by decide)
theorem wm_576 : Cond.methodLink R_F 23 y_C_occurring ∈ gw_tbl := gw_mem 576 (by decide +kernel) (by decide)
theorem wm_577 : Cond.methodLink R_F 33 y_F_sharedHaving ∈ gw_tbl := gw_mem 577 (by decide +kernel) (by decide)
theorem wm_579 : Cond.instanceMethod y_F_sharedHaving ∈ gw_tbl := gw_mem 579 (by decide +kernel) (by decide)
theorem wm_580 : Cond.code y_F_sharedHaving b_F_sharedHaving 3 (some .int) ∈ gw_tbl := gw_mem 580 (by decide +kernel) (by decide)
theorem wm_581 : Cond.methodLink R_F 42 y_L_having ∈ gw_tbl := gw_mem 581 (by decide +kernel) (by decide)
theorem wm_582 : Cond.instanceMethod y_L_having ∈ gw_tbl := gw_mem 582 (by decide +kernel) (by decide)
theorem wm_583 : Cond.selects R_L y_L_having y_L_having ∈ gw_tbl := gw_mem 583 (by decide +kernel) (by decide)
theorem wm_584 : Cond.code y_L_having b_L_having 4 (some .int) ∈ gw_tbl := gw_mem 584 (by decide +kernel) (by decide)
theorem wm_585 : Cond.methodLinkNest R_L 21 y_B_bitOf "CraigBench" ∈ nw_tbl := nw_mem 585 (by decide +kernel) (by decide)
theorem wm_586 : Cond.methodLink R_B 143 y_A_take ∈ gw_tbl := gw_mem 586 (by decide +kernel) (by decide)
theorem wm_587 : Cond.instanceMethod y_A_take ∈ gw_tbl := gw_mem 587 (by decide +kernel) (by decide)
theorem wm_588 : Cond.selects R_A y_A_take y_A_take ∈ gw_tbl := gw_mem 588 (by decide +kernel) (by decide)
theorem wm_589 : Cond.code y_A_take b_A_take 5 none ∈ gw_tbl := gw_mem 589 (by decide +kernel) (by decide)
theorem wm_590 : Cond.methodLink R_A 38 y_F_workOut ∈ gw_tbl := gw_mem 590 (by decide +kernel) (by decide)
theorem wm_591 : Cond.instanceMethod y_F_workOut ∈ gw_tbl := gw_mem 591 (by decide +kernel) (by decide)
theorem wm_592 : Cond.selects R_F y_F_workOut y_F_workOut ∈ gw_tbl := gw_mem 592 (by decide +kernel) (by decide)
theorem wm_593 : Cond.code y_F_workOut b_F_workOut 3 none ∈ gw_tbl := gw_mem 593 (by decide +kernel) (by decide)
theorem wm_594 : Cond.methodLink R_F 59 y_F_ofResolvent ∈ gw_tbl := gw_mem 594 (by decide +kernel) (by decide)
theorem wm_596 : Cond.instanceMethod y_F_ofResolvent ∈ gw_tbl := gw_mem 596 (by decide +kernel) (by decide)
theorem wm_597 : Cond.code y_F_ofResolvent b_F_ofResolvent 10 (some .long) ∈ gw_tbl := gw_mem 597 (by decide +kernel) (by decide)
theorem wm_598 : Cond.methodLinkNest R_F 89 y_B_bitOf "CraigBench" ∈ nw_tbl := nw_mem 598 (by decide +kernel) (by decide)
theorem wm_599 : Cond.methodLink R_F 92 y_U_ofVariable ∈ gw_tbl := gw_mem 599 (by decide +kernel) (by decide)
theorem wm_600 : Cond.static y_U_ofVariable ∈ gw_tbl := gw_mem 600 (by decide +kernel) (by decide)
theorem wm_601 : Cond.code y_U_ofVariable b_U_ofVariable 2 (some .long) ∈ gw_tbl := gw_mem 601 (by decide +kernel) (by decide)
theorem wm_602 : Cond.fieldLink R_U 11 "CraigBench$Truth" "PATTERNS" "[J" ∈ gw_tbl := gw_mem 602 (by decide +kernel) (by decide)
theorem wm_604 : Cond.constantLong R_U 15 (-1) ∈ gw_tbl := gw_mem 604 (by decide +kernel) (by decide)
theorem wm_605 : Cond.constantLong R_F 78 (-1) ∈ gw_tbl := gw_mem 605 (by decide +kernel) (by decide)
theorem wm_606 : Cond.methodLink R_F 63 y_F_ofGiven ∈ gw_tbl := gw_mem 606 (by decide +kernel) (by decide)
theorem wm_608 : Cond.instanceMethod y_F_ofGiven ∈ gw_tbl := gw_mem 608 (by decide +kernel) (by decide)
theorem wm_609 : Cond.code y_F_ofGiven b_F_ofGiven 5 (some .long) ∈ gw_tbl := gw_mem 609 (by decide +kernel) (by decide)
theorem wm_610 : Cond.methodLink R_F 72 y_U_ofAny ∈ gw_tbl := gw_mem 610 (by decide +kernel) (by decide)
theorem wm_611 : Cond.static y_U_ofAny ∈ gw_tbl := gw_mem 611 (by decide +kernel) (by decide)
theorem wm_612 : Cond.code y_U_ofAny b_U_ofAny 6 (some .long) ∈ gw_tbl := gw_mem 612 (by decide +kernel) (by decide)
theorem wm_613 : Cond.methodLinkNest R_U 17 y_B_bitOf "CraigBench" ∈ nw_tbl := nw_mem 613 (by decide +kernel) (by decide)
theorem wm_614 : Cond.methodLink R_U 21 y_U_ofVariable ∈ gw_tbl := gw_mem 614 (by decide +kernel) (by decide)
theorem wm_615 : Cond.methodLink R_A 47 y_G_build ∈ gw_tbl := gw_mem 615 (by decide +kernel) (by decide)
theorem wm_616 : Cond.instanceMethod y_G_build ∈ gw_tbl := gw_mem 616 (by decide +kernel) (by decide)
theorem wm_617 : Cond.selects R_G y_G_build y_G_build ∈ gw_tbl := gw_mem 617 (by decide +kernel) (by decide)
theorem wm_618 : Cond.code y_G_build b_G_build 6 none ∈ gw_tbl := gw_mem 618 (by decide +kernel) (by decide)
theorem wm_619 : Cond.methodLink R_G 37 y_G_bitAt ∈ gw_tbl := gw_mem 619 (by decide +kernel) (by decide)
theorem wm_620 : Cond.static y_G_bitAt ∈ gw_tbl := gw_mem 620 (by decide +kernel) (by decide)
theorem wm_621 : Cond.code y_G_bitAt b_G_bitAt 4 (some .int) ∈ gw_tbl := gw_mem 621 (by decide +kernel) (by decide)
theorem wm_622 : Cond.methodLinkNest R_G 41 y_B_bitOf "CraigBench" ∈ nw_tbl := nw_mem 622 (by decide +kernel) (by decide)
theorem wm_623 : Cond.methodLink R_G 45 y_G_join ∈ gw_tbl := gw_mem 623 (by decide +kernel) (by decide)
theorem wm_625 : Cond.instanceMethod y_G_join ∈ gw_tbl := gw_mem 625 (by decide +kernel) (by decide)
theorem wm_626 : Cond.code y_G_join b_G_join 6 (some .int) ∈ gw_tbl := gw_mem 626 (by decide +kernel) (by decide)
theorem wm_627 : Cond.methodLink R_G 49 y_G_numberFrom ∈ gw_tbl := gw_mem 627 (by decide +kernel) (by decide)
theorem wm_629 : Cond.instanceMethod y_G_numberFrom ∈ gw_tbl := gw_mem 629 (by decide +kernel) (by decide)
theorem wm_630 : Cond.code y_G_numberFrom b_G_numberFrom 6 none ∈ gw_tbl := gw_mem 630 (by decide +kernel) (by decide)
theorem wm_631 : Cond.methodLink R_W 61 y_B_value ∈ gw_tbl := gw_mem 631 (by decide +kernel) (by decide)
theorem wm_632 : Cond.instanceMethod y_B_value ∈ gw_tbl := gw_mem 632 (by decide +kernel) (by decide)
theorem wm_633 : Cond.selects R_B y_B_value y_B_value ∈ gw_tbl := gw_mem 633 (by decide +kernel) (by decide)
theorem wm_634 : Cond.code y_B_value b_B_value 2 (some .int) ∈ gw_tbl := gw_mem 634 (by decide +kernel) (by decide)
theorem wm_635 : Cond.methodLink R_B 157 y_A_truth ∈ gw_tbl := gw_mem 635 (by decide +kernel) (by decide)
theorem wm_636 : Cond.instanceMethod y_A_truth ∈ gw_tbl := gw_mem 636 (by decide +kernel) (by decide)
theorem wm_637 : Cond.selects R_A y_A_truth y_A_truth ∈ gw_tbl := gw_mem 637 (by decide +kernel) (by decide)
theorem wm_638 : Cond.code y_A_truth b_A_truth 3 (some .int) ∈ gw_tbl := gw_mem 638 (by decide +kernel) (by decide)
theorem wm_639 : Cond.methodLink R_A 51 y_G_bitAt ∈ gw_tbl := gw_mem 639 (by decide +kernel) (by decide)
theorem wm_640 : Cond.methodLink R_W 65 y_B_prt ∈ gw_tbl := gw_mem 640 (by decide +kernel) (by decide)
theorem wm_641 : Cond.instanceMethod y_B_prt ∈ gw_tbl := gw_mem 641 (by decide +kernel) (by decide)
theorem wm_642 : Cond.selects R_B y_B_prt y_B_prt ∈ gw_tbl := gw_mem 642 (by decide +kernel) (by decide)
theorem wm_643 : Cond.code y_B_prt b_B_prt 3 (some .int) ∈ gw_tbl := gw_mem 643 (by decide +kernel) (by decide)
theorem wm_644 : Cond.methodLink R_W 69 y_B_told ∈ gw_tbl := gw_mem 644 (by decide +kernel) (by decide)
theorem wm_645 : Cond.instanceMethod y_B_told ∈ gw_tbl := gw_mem 645 (by decide +kernel) (by decide)
theorem wm_646 : Cond.selects R_B y_B_told y_B_told ∈ gw_tbl := gw_mem 646 (by decide +kernel) (by decide)
theorem wm_647 : Cond.code y_B_told b_B_told 2 (some .int) ∈ gw_tbl := gw_mem 647 (by decide +kernel) (by decide)
theorem wm_648 : Cond.methodLink R_B 160 y_A_trueValuations ∈ gw_tbl := gw_mem 648 (by decide +kernel) (by decide)
theorem wm_649 : Cond.instanceMethod y_A_trueValuations ∈ gw_tbl := gw_mem 649 (by decide +kernel) (by decide)
theorem wm_650 : Cond.selects R_A y_A_trueValuations y_A_trueValuations ∈ gw_tbl := gw_mem 650 (by decide +kernel) (by decide)
theorem wm_651 : Cond.code y_A_trueValuations b_A_trueValuations 3 (some .int) ∈ gw_tbl := gw_mem 651 (by decide +kernel) (by decide)
theorem wm_652 : Cond.methodLink R_A 55 y_K_bitCount ∈ gw_tbl := gw_mem 652 (by decide +kernel) (by decide)
theorem wm_653 : Cond.static y_K_bitCount ∈ gw_tbl := gw_mem 653 (by decide +kernel) (by decide)
theorem wm_654 : Cond.code y_K_bitCount b_K_bitCount 2 (some .int) ∈ gw_tbl := gw_mem 654 (by decide +kernel) (by decide)
theorem wm_655 : Cond.constantLong R_K 314 (6148914691236517205) ∈ gw_tbl := gw_mem 655 (by decide +kernel) (by decide)
theorem wm_656 : Cond.constantLong R_K 316 (3689348814741910323) ∈ gw_tbl := gw_mem 656 (by decide +kernel) (by decide)
theorem wm_657 : Cond.constantLong R_K 318 (1085102592571150095) ∈ gw_tbl := gw_mem 657 (by decide +kernel) (by decide)
theorem wm_658 : Cond.methodLink R_B 163 y_G_support ∈ gw_tbl := gw_mem 658 (by decide +kernel) (by decide)
theorem wm_659 : Cond.instanceMethod y_G_support ∈ gw_tbl := gw_mem 659 (by decide +kernel) (by decide)
theorem wm_660 : Cond.selects R_G y_G_support y_G_support ∈ gw_tbl := gw_mem 660 (by decide +kernel) (by decide)
theorem wm_661 : Cond.code y_G_support b_G_support 3 (some .int) ∈ gw_tbl := gw_mem 661 (by decide +kernel) (by decide)
theorem wm_662 : Cond.methodLink R_W 73 y_B_graph ∈ gw_tbl := gw_mem 662 (by decide +kernel) (by decide)
theorem wm_663 : Cond.instanceMethod y_B_graph ∈ gw_tbl := gw_mem 663 (by decide +kernel) (by decide)
theorem wm_664 : Cond.selects R_B y_B_graph y_B_graph ∈ gw_tbl := gw_mem 664 (by decide +kernel) (by decide)
theorem wm_665 : Cond.code y_B_graph b_B_graph 3 (some .int) ∈ gw_tbl := gw_mem 665 (by decide +kernel) (by decide)
theorem wm_666 : Cond.methodLink R_B 166 y_G_tell ∈ gw_tbl := gw_mem 666 (by decide +kernel) (by decide)
theorem wm_667 : Cond.instanceMethod y_G_tell ∈ gw_tbl := gw_mem 667 (by decide +kernel) (by decide)
theorem wm_668 : Cond.selects R_G y_G_tell y_G_tell ∈ gw_tbl := gw_mem 668 (by decide +kernel) (by decide)
theorem wm_669 : Cond.code y_G_tell b_G_tell 4 (some .int) ∈ gw_tbl := gw_mem 669 (by decide +kernel) (by decide)
theorem wm_670 : Cond.methodLink R_G 53 y_G_sideNumber ∈ gw_tbl := gw_mem 670 (by decide +kernel) (by decide)
theorem wm_672 : Cond.instanceMethod y_G_sideNumber ∈ gw_tbl := gw_mem 672 (by decide +kernel) (by decide)
theorem wm_673 : Cond.code y_G_sideNumber b_G_sideNumber 2 (some .int) ∈ gw_tbl := gw_mem 673 (by decide +kernel) (by decide)
theorem wm_674 : Cond.methodLink R_W 77 y_B_follows ∈ gw_tbl := gw_mem 674 (by decide +kernel) (by decide)
theorem wm_675 : Cond.instanceMethod y_B_follows ∈ gw_tbl := gw_mem 675 (by decide +kernel) (by decide)
theorem wm_676 : Cond.selects R_B y_B_follows y_B_follows ∈ gw_tbl := gw_mem 676 (by decide +kernel) (by decide)
theorem wm_677 : Cond.code y_B_follows b_B_follows 5 (some .int) ∈ gw_tbl := gw_mem 677 (by decide +kernel) (by decide)
theorem wm_678 : Cond.methodLink R_B 169 y_F_interpolant ∈ gw_tbl := gw_mem 678 (by decide +kernel) (by decide)
theorem wm_679 : Cond.instanceMethod y_F_interpolant ∈ gw_tbl := gw_mem 679 (by decide +kernel) (by decide)
theorem wm_680 : Cond.selects R_F y_F_interpolant y_F_interpolant ∈ gw_tbl := gw_mem 680 (by decide +kernel) (by decide)
theorem wm_681 : Cond.code y_F_interpolant b_F_interpolant 5 none ∈ gw_tbl := gw_mem 681 (by decide +kernel) (by decide)
theorem wm_682 : Cond.methodLink R_F 95 y_F_choose ∈ gw_tbl := gw_mem 682 (by decide +kernel) (by decide)
theorem wm_683 : Cond.methodLink R_F 99 y_F_workOut ∈ gw_tbl := gw_mem 683 (by decide +kernel) (by decide)
theorem wm_684 : Cond.constantLong R_B 173 (-1) ∈ gw_tbl := gw_mem 684 (by decide +kernel) (by decide)
theorem wm_685 : Cond.methodLink R_W 82 y_B_gap ∈ gw_tbl := gw_mem 685 (by decide +kernel) (by decide)
theorem wm_686 : Cond.instanceMethod y_B_gap ∈ gw_tbl := gw_mem 686 (by decide +kernel) (by decide)
theorem wm_687 : Cond.selects R_B y_B_gap y_B_gap ∈ gw_tbl := gw_mem 687 (by decide +kernel) (by decide)
theorem wm_688 : Cond.code y_B_gap b_B_gap 6 (some .int) ∈ gw_tbl := gw_mem 688 (by decide +kernel) (by decide)
theorem wm_689 : Cond.methodLink R_B 175 y_B_nextInterpolant ∈ gw_tbl := gw_mem 689 (by decide +kernel) (by decide)
theorem wm_691 : Cond.instanceMethod y_B_nextInterpolant ∈ gw_tbl := gw_mem 691 (by decide +kernel) (by decide)
theorem wm_692 : Cond.code y_B_nextInterpolant b_B_nextInterpolant 3 none ∈ gw_tbl := gw_mem 692 (by decide +kernel) (by decide)
theorem wm_693 : Cond.methodLink R_B 197 y_J_fillL ∈ gw_tbl := gw_mem 693 (by decide +kernel) (by decide)
theorem wm_694 : Cond.static y_J_fillL ∈ gw_tbl := gw_mem 694 (by decide +kernel) (by decide)
theorem wm_695 : Cond.code y_J_fillL b_J_fillL 5 none ∈ gw_tbl := gw_mem 695 (by decide +kernel) (by decide)
theorem wm_696 : Cond.methodLink R_B 178 y_B_gapWord ∈ gw_tbl := gw_mem 696 (by decide +kernel) (by decide)
theorem wm_698 : Cond.instanceMethod y_B_gapWord ∈ gw_tbl := gw_mem 698 (by decide +kernel) (by decide)
theorem wm_699 : Cond.code y_B_gapWord b_B_gapWord 4 (some .long) ∈ gw_tbl := gw_mem 699 (by decide +kernel) (by decide)
theorem wm_700 : Cond.methodLink R_B 203 y_C_allTrue ∈ gw_tbl := gw_mem 700 (by decide +kernel) (by decide)
theorem wm_701 : Cond.instanceMethod y_C_allTrue ∈ gw_tbl := gw_mem 701 (by decide +kernel) (by decide)
theorem wm_702 : Cond.selects R_C y_C_allTrue y_C_allTrue ∈ gw_tbl := gw_mem 702 (by decide +kernel) (by decide)
theorem wm_703 : Cond.code y_C_allTrue b_C_allTrue 7 (some .long) ∈ gw_tbl := gw_mem 703 (by decide +kernel) (by decide)
theorem wm_704 : Cond.constantLong R_C 113 (-1) ∈ gw_tbl := gw_mem 704 (by decide +kernel) (by decide)
theorem wm_705 : Cond.methodLink R_C 115 y_U_ofAny ∈ gw_tbl := gw_mem 705 (by decide +kernel) (by decide)
theorem wm_706 : Cond.methodLink R_B 182 y_K_bitCount ∈ gw_tbl := gw_mem 706 (by decide +kernel) (by decide)
theorem wm_707 : Cond.methodLink R_W 86 y_B_count ∈ gw_tbl := gw_mem 707 (by decide +kernel) (by decide)
theorem wm_708 : Cond.instanceMethod y_B_count ∈ gw_tbl := gw_mem 708 (by decide +kernel) (by decide)
theorem wm_709 : Cond.selects R_B y_B_count y_B_count ∈ gw_tbl := gw_mem 709 (by decide +kernel) (by decide)
theorem wm_710 : Cond.code y_B_count b_B_count 2 (some .int) ∈ gw_tbl := gw_mem 710 (by decide +kernel) (by decide)
theorem wm_711 : Cond.methodLink R_B 191 y_C_liveOnes ∈ gw_tbl := gw_mem 711 (by decide +kernel) (by decide)
theorem wm_712 : Cond.instanceMethod y_C_liveOnes ∈ gw_tbl := gw_mem 712 (by decide +kernel) (by decide)
theorem wm_713 : Cond.selects R_C y_C_liveOnes y_C_liveOnes ∈ gw_tbl := gw_mem 713 (by decide +kernel) (by decide)
theorem wm_714 : Cond.code y_C_liveOnes b_C_liveOnes 3 (some .int) ∈ gw_tbl := gw_mem 714 (by decide +kernel) (by decide)
theorem wm_715 : Cond.methodLink R_B 194 y_C_neededOnes ∈ gw_tbl := gw_mem 715 (by decide +kernel) (by decide)
theorem wm_716 : Cond.instanceMethod y_C_neededOnes ∈ gw_tbl := gw_mem 716 (by decide +kernel) (by decide)
theorem wm_717 : Cond.selects R_C y_C_neededOnes y_C_neededOnes ∈ gw_tbl := gw_mem 717 (by decide +kernel) (by decide)
theorem wm_718 : Cond.code y_C_neededOnes b_C_neededOnes 3 (some .int) ∈ gw_tbl := gw_mem 718 (by decide +kernel) (by decide)
theorem wm_719 : Cond.classLink R_W 10 R_M ∈ gw_tbl := gw_mem 719 (by decide +kernel) (by decide)
theorem wm_720 : Cond.instantiable R_M 34 ∈ gw_tbl := gw_mem 720 (by decide +kernel) (by decide)
theorem wm_721 : Cond.methodLink R_W 12 y_M_init ∈ gw_tbl := gw_mem 721 (by decide +kernel) (by decide)
theorem wm_722 : Cond.instanceMethod y_M_init ∈ gw_tbl := gw_mem 722 (by decide +kernel) (by decide)
theorem wm_723 : Cond.code y_M_init b_M_init 1 none ∈ gw_tbl := gw_mem 723 (by decide +kernel) (by decide)
theorem wm_724 : Cond.methodLink R_M 1 objectInit ∈ gw_tbl := gw_mem 724 (by decide +kernel) (by decide)
theorem wm_725 : Cond.fieldLink R_M 7 "CraigBenchModel" "plain" "[I" ∈ gw_tbl := gw_mem 725 (by decide +kernel) (by decide)
theorem wm_726 : Cond.fieldLink R_M 13 "CraigBenchModel" "minus" "[I" ∈ gw_tbl := gw_mem 726 (by decide +kernel) (by decide)
theorem wm_727 : Cond.fieldLink R_M 16 "CraigBenchModel" "block" "[I" ∈ gw_tbl := gw_mem 727 (by decide +kernel) (by decide)
theorem wm_728 : Cond.fieldLink R_M 19 "CraigBenchModel" "left" "[I" ∈ gw_tbl := gw_mem 728 (by decide +kernel) (by decide)
theorem wm_729 : Cond.fieldLink R_M 22 "CraigBenchModel" "right" "[I" ∈ gw_tbl := gw_mem 729 (by decide +kernel) (by decide)
theorem wm_730 : Cond.fieldLink R_M 25 "CraigBenchModel" "pivot" "[I" ∈ gw_tbl := gw_mem 730 (by decide +kernel) (by decide)
theorem wm_731 : Cond.fieldLink R_M 28 "CraigBenchModel" "live" "[Z" ∈ gw_tbl := gw_mem 731 (by decide +kernel) (by decide)
theorem wm_732 : Cond.fieldLink R_M 32 "CraigBenchModel" "needed" "[Z" ∈ gw_tbl := gw_mem 732 (by decide +kernel) (by decide)
theorem wm_733 : Cond.fieldLink R_M 115 "CraigBenchModel" "clauses" "I" ∈ gw_tbl := gw_mem 733 (by decide +kernel) (by decide)
theorem wm_734 : Cond.fieldLink R_M 118 "CraigBenchModel" "given" "I" ∈ gw_tbl := gw_mem 734 (by decide +kernel) (by decide)
theorem wm_735 : Cond.fieldLink R_M 35 "CraigBenchModel" "end" "I" ∈ gw_tbl := gw_mem 735 (by decide +kernel) (by decide)
theorem wm_736 : Cond.fieldLink R_M 39 "CraigBenchModel" "label" "[I" ∈ gw_tbl := gw_mem 736 (by decide +kernel) (by decide)
theorem wm_737 : Cond.fieldLink R_M 42 "CraigBenchModel" "tape" "[B" ∈ gw_tbl := gw_mem 737 (by decide +kernel) (by decide)
theorem wm_738 : Cond.fieldLink R_M 83 "CraigBenchModel" "taped" "I" ∈ gw_tbl := gw_mem 738 (by decide +kernel) (by decide)
theorem wm_739 : Cond.fieldLink R_M 89 "CraigBenchModel" "size" "I" ∈ gw_tbl := gw_mem 739 (by decide +kernel) (by decide)
theorem wm_740 : Cond.fieldLink R_M 92 "CraigBenchModel" "at" "I" ∈ gw_tbl := gw_mem 740 (by decide +kernel) (by decide)
theorem wm_741 : Cond.fieldLink R_M 86 "CraigBenchModel" "to" "I" ∈ gw_tbl := gw_mem 741 (by decide +kernel) (by decide)
theorem wm_742 : Cond.fieldLink R_M 95 "CraigBenchModel" "sort" "I" ∈ gw_tbl := gw_mem 742 (by decide +kernel) (by decide)
theorem wm_743 : Cond.fieldLink R_M 102 "CraigBenchModel" "worth" "I" ∈ gw_tbl := gw_mem 743 (by decide +kernel) (by decide)
theorem wm_744 : Cond.fieldLink R_M 105 "CraigBenchModel" "faultKind" "I" ∈ gw_tbl := gw_mem 744 (by decide +kernel) (by decide)
theorem wm_745 : Cond.fieldLink R_M 46 "CraigBenchModel" "faultPlace" "I" ∈ gw_tbl := gw_mem 745 (by decide +kernel) (by decide)
theorem wm_746 : Cond.fieldLink R_M 49 "CraigBenchModel" "of" "[J" ∈ gw_tbl := gw_mem 746 (by decide +kernel) (by decide)
theorem wm_747 : Cond.fieldLink R_M 53 "CraigBenchModel" "kept" "[J" ∈ gw_tbl := gw_mem 747 (by decide +kernel) (by decide)
theorem wm_748 : Cond.fieldLink R_M 56 "CraigBenchModel" "had" "[Z" ∈ gw_tbl := gw_mem 748 (by decide +kernel) (by decide)
theorem wm_749 : Cond.fieldLink R_M 59 "CraigBenchModel" "told" "[J" ∈ gw_tbl := gw_mem 749 (by decide +kernel) (by decide)
theorem wm_750 : Cond.fieldLink R_M 200 "CraigBenchModel" "isTold" "Z" ∈ gw_tbl := gw_mem 750 (by decide +kernel) (by decide)
theorem wm_751 : Cond.fieldLink R_M 62 "CraigBenchModel" "first" "[J" ∈ gw_tbl := gw_mem 751 (by decide +kernel) (by decide)
theorem wm_752 : Cond.fieldLink R_M 65 "CraigBenchModel" "second" "[J" ∈ gw_tbl := gw_mem 752 (by decide +kernel) (by decide)
theorem wm_753 : Cond.fieldLink R_M 68 "CraigBenchModel" "node" "[J" ∈ gw_tbl := gw_mem 753 (by decide +kernel) (by decide)
theorem wm_754 : Cond.fieldLink R_M 71 "CraigBenchModel" "nodeVariable" "[I" ∈ gw_tbl := gw_mem 754 (by decide +kernel) (by decide)
theorem wm_755 : Cond.fieldLink R_M 74 "CraigBenchModel" "nodeLow" "[I" ∈ gw_tbl := gw_mem 755 (by decide +kernel) (by decide)
theorem wm_756 : Cond.fieldLink R_M 77 "CraigBenchModel" "nodeHigh" "[I" ∈ gw_tbl := gw_mem 756 (by decide +kernel) (by decide)
theorem wm_757 : Cond.fieldLink R_M 186 "CraigBenchModel" "nodes" "I" ∈ gw_tbl := gw_mem 757 (by decide +kernel) (by decide)
theorem wm_758 : Cond.fieldLink R_M 80 "CraigBenchModel" "wait" "[I" ∈ gw_tbl := gw_mem 758 (by decide +kernel) (by decide)
theorem wm_828 : Cond.methodLink R_W 17 y_M_feed ∈ gw_tbl := gw_mem 828 (by decide +kernel) (by decide)
theorem wm_829 : Cond.instanceMethod y_M_feed ∈ gw_tbl := gw_mem 829 (by decide +kernel) (by decide)
theorem wm_830 : Cond.selects R_M y_M_feed y_M_feed ∈ gw_tbl := gw_mem 830 (by decide +kernel) (by decide)
theorem wm_831 : Cond.code y_M_feed b_M_feed 9 (some .int) ∈ gw_tbl := gw_mem 831 (by decide +kernel) (by decide)
theorem wm_832 : Cond.methodLink R_W 22 y_M_end_ ∈ gw_tbl := gw_mem 832 (by decide +kernel) (by decide)
theorem wm_833 : Cond.instanceMethod y_M_end_ ∈ gw_tbl := gw_mem 833 (by decide +kernel) (by decide)
theorem wm_834 : Cond.selects R_M y_M_end_ y_M_end_ ∈ gw_tbl := gw_mem 834 (by decide +kernel) (by decide)
theorem wm_835 : Cond.code y_M_end_ b_M_end_ 2 (some .int) ∈ gw_tbl := gw_mem 835 (by decide +kernel) (by decide)
theorem wm_836 : Cond.methodLink R_W 27 y_M_read ∈ gw_tbl := gw_mem 836 (by decide +kernel) (by decide)
theorem wm_837 : Cond.instanceMethod y_M_read ∈ gw_tbl := gw_mem 837 (by decide +kernel) (by decide)
theorem wm_838 : Cond.selects R_M y_M_read y_M_read ∈ gw_tbl := gw_mem 838 (by decide +kernel) (by decide)
theorem wm_839 : Cond.code y_M_read b_M_read 3 (some .int) ∈ gw_tbl := gw_mem 839 (by decide +kernel) (by decide)
theorem wm_840 : Cond.methodLink R_M 112 y_M_cut ∈ gw_tbl := gw_mem 840 (by decide +kernel) (by decide)
theorem wm_842 : Cond.instanceMethod y_M_cut ∈ gw_tbl := gw_mem 842 (by decide +kernel) (by decide)
theorem wm_843 : Cond.code y_M_cut b_M_cut 4 none ∈ gw_tbl := gw_mem 843 (by decide +kernel) (by decide)
theorem wm_844 : Cond.methodLink R_M 98 y_M_isDigit ∈ gw_tbl := gw_mem 844 (by decide +kernel) (by decide)
theorem wm_845 : Cond.static y_M_isDigit ∈ gw_tbl := gw_mem 845 (by decide +kernel) (by decide)
theorem wm_846 : Cond.code y_M_isDigit b_M_isDigit 1 (some .boolean) ∈ gw_tbl := gw_mem 846 (by decide +kernel) (by decide)
theorem wm_847 : Cond.methodLink R_M 132 y_M_readGiven ∈ gw_tbl := gw_mem 847 (by decide +kernel) (by decide)
theorem wm_849 : Cond.instanceMethod y_M_readGiven ∈ gw_tbl := gw_mem 849 (by decide +kernel) (by decide)
theorem wm_850 : Cond.code y_M_readGiven b_M_readGiven 6 none ∈ gw_tbl := gw_mem 850 (by decide +kernel) (by decide)
theorem wm_851 : Cond.methodLink R_M 108 y_M_need ∈ gw_tbl := gw_mem 851 (by decide +kernel) (by decide)
theorem wm_853 : Cond.instanceMethod y_M_need ∈ gw_tbl := gw_mem 853 (by decide +kernel) (by decide)
theorem wm_854 : Cond.code y_M_need b_M_need 3 (some .boolean) ∈ gw_tbl := gw_mem 854 (by decide +kernel) (by decide)
theorem wm_855 : Cond.methodLink R_M 121 y_M_takes ∈ gw_tbl := gw_mem 855 (by decide +kernel) (by decide)
theorem wm_857 : Cond.instanceMethod y_M_takes ∈ gw_tbl := gw_mem 857 (by decide +kernel) (by decide)
theorem wm_858 : Cond.code y_M_takes b_M_takes 2 (some .boolean) ∈ gw_tbl := gw_mem 858 (by decide +kernel) (by decide)
theorem wm_859 : Cond.methodLink R_M 124 y_M_add ∈ gw_tbl := gw_mem 859 (by decide +kernel) (by decide)
theorem wm_861 : Cond.instanceMethod y_M_add ∈ gw_tbl := gw_mem 861 (by decide +kernel) (by decide)
theorem wm_862 : Cond.code y_M_add b_M_add 7 none ∈ gw_tbl := gw_mem 862 (by decide +kernel) (by decide)
theorem wm_863 : Cond.methodLink R_M 135 y_M_readResolvent ∈ gw_tbl := gw_mem 863 (by decide +kernel) (by decide)
theorem wm_865 : Cond.instanceMethod y_M_readResolvent ∈ gw_tbl := gw_mem 865 (by decide +kernel) (by decide)
theorem wm_866 : Cond.code y_M_readResolvent b_M_readResolvent 7 none ∈ gw_tbl := gw_mem 866 (by decide +kernel) (by decide)
theorem wm_867 : Cond.methodLink R_M 128 y_M_clauseHere ∈ gw_tbl := gw_mem 867 (by decide +kernel) (by decide)
theorem wm_869 : Cond.instanceMethod y_M_clauseHere ∈ gw_tbl := gw_mem 869 (by decide +kernel) (by decide)
theorem wm_870 : Cond.code y_M_clauseHere b_M_clauseHere 2 (some .int) ∈ gw_tbl := gw_mem 870 (by decide +kernel) (by decide)
theorem wm_871 : Cond.methodLink R_M 138 y_M_find ∈ gw_tbl := gw_mem 871 (by decide +kernel) (by decide)
theorem wm_873 : Cond.instanceMethod y_M_find ∈ gw_tbl := gw_mem 873 (by decide +kernel) (by decide)
theorem wm_874 : Cond.code y_M_find b_M_find 2 none ∈ gw_tbl := gw_mem 874 (by decide +kernel) (by decide)
theorem wm_875 : Cond.methodLink R_M 141 y_M_empty ∈ gw_tbl := gw_mem 875 (by decide +kernel) (by decide)
theorem wm_877 : Cond.instanceMethod y_M_empty ∈ gw_tbl := gw_mem 877 (by decide +kernel) (by decide)
theorem wm_878 : Cond.code y_M_empty b_M_empty 2 (some .int) ∈ gw_tbl := gw_mem 878 (by decide +kernel) (by decide)
theorem wm_879 : Cond.methodLink R_W 31 y_M_fault ∈ gw_tbl := gw_mem 879 (by decide +kernel) (by decide)
theorem wm_880 : Cond.instanceMethod y_M_fault ∈ gw_tbl := gw_mem 880 (by decide +kernel) (by decide)
theorem wm_881 : Cond.selects R_M y_M_fault y_M_fault ∈ gw_tbl := gw_mem 881 (by decide +kernel) (by decide)
theorem wm_882 : Cond.code y_M_fault b_M_fault 2 (some .int) ∈ gw_tbl := gw_mem 882 (by decide +kernel) (by decide)
theorem wm_883 : Cond.methodLink R_W 35 y_M_clear ∈ gw_tbl := gw_mem 883 (by decide +kernel) (by decide)
theorem wm_884 : Cond.instanceMethod y_M_clear ∈ gw_tbl := gw_mem 884 (by decide +kernel) (by decide)
theorem wm_885 : Cond.selects R_M y_M_clear y_M_clear ∈ gw_tbl := gw_mem 885 (by decide +kernel) (by decide)
theorem wm_886 : Cond.code y_M_clear b_M_clear 3 (some .int) ∈ gw_tbl := gw_mem 886 (by decide +kernel) (by decide)
theorem wm_887 : Cond.methodLink R_W 40 y_M_clause ∈ gw_tbl := gw_mem 887 (by decide +kernel) (by decide)
theorem wm_888 : Cond.instanceMethod y_M_clause ∈ gw_tbl := gw_mem 888 (by decide +kernel) (by decide)
theorem wm_889 : Cond.selects R_M y_M_clause y_M_clause ∈ gw_tbl := gw_mem 889 (by decide +kernel) (by decide)
theorem wm_890 : Cond.code y_M_clause b_M_clause 3 (some .int) ∈ gw_tbl := gw_mem 890 (by decide +kernel) (by decide)
theorem wm_891 : Cond.methodLink R_M 144 y_M_in ∈ gw_tbl := gw_mem 891 (by decide +kernel) (by decide)
theorem wm_892 : Cond.static y_M_in ∈ gw_tbl := gw_mem 892 (by decide +kernel) (by decide)
theorem wm_893 : Cond.code y_M_in b_M_in 3 (some .boolean) ∈ gw_tbl := gw_mem 893 (by decide +kernel) (by decide)
theorem wm_894 : Cond.methodLink R_W 44 y_M_refutation ∈ gw_tbl := gw_mem 894 (by decide +kernel) (by decide)
theorem wm_895 : Cond.instanceMethod y_M_refutation ∈ gw_tbl := gw_mem 895 (by decide +kernel) (by decide)
theorem wm_896 : Cond.selects R_M y_M_refutation y_M_refutation ∈ gw_tbl := gw_mem 896 (by decide +kernel) (by decide)
theorem wm_897 : Cond.code y_M_refutation b_M_refutation 1 (some .int) ∈ gw_tbl := gw_mem 897 (by decide +kernel) (by decide)
theorem wm_898 : Cond.methodLink R_W 48 y_M_eliminate ∈ gw_tbl := gw_mem 898 (by decide +kernel) (by decide)
theorem wm_899 : Cond.instanceMethod y_M_eliminate ∈ gw_tbl := gw_mem 899 (by decide +kernel) (by decide)
theorem wm_900 : Cond.selects R_M y_M_eliminate y_M_eliminate ∈ gw_tbl := gw_mem 900 (by decide +kernel) (by decide)
theorem wm_901 : Cond.code y_M_eliminate b_M_eliminate 9 (some .int) ∈ gw_tbl := gw_mem 901 (by decide +kernel) (by decide)
theorem wm_902 : Cond.methodLink R_M 148 y_M_isThere ∈ gw_tbl := gw_mem 902 (by decide +kernel) (by decide)
theorem wm_904 : Cond.instanceMethod y_M_isThere ∈ gw_tbl := gw_mem 904 (by decide +kernel) (by decide)
theorem wm_905 : Cond.code y_M_isThere b_M_isThere 4 (some .boolean) ∈ gw_tbl := gw_mem 905 (by decide +kernel) (by decide)
theorem wm_906 : Cond.methodLink R_W 52 y_M_label ∈ gw_tbl := gw_mem 906 (by decide +kernel) (by decide)
theorem wm_907 : Cond.instanceMethod y_M_label ∈ gw_tbl := gw_mem 907 (by decide +kernel) (by decide)
theorem wm_908 : Cond.selects R_M y_M_label y_M_label ∈ gw_tbl := gw_mem 908 (by decide +kernel) (by decide)
theorem wm_909 : Cond.code y_M_label b_M_label 4 (some .int) ∈ gw_tbl := gw_mem 909 (by decide +kernel) (by decide)
theorem wm_910 : Cond.methodLink R_W 56 y_M_variables ∈ gw_tbl := gw_mem 910 (by decide +kernel) (by decide)
theorem wm_911 : Cond.instanceMethod y_M_variables ∈ gw_tbl := gw_mem 911 (by decide +kernel) (by decide)
theorem wm_912 : Cond.selects R_M y_M_variables y_M_variables ∈ gw_tbl := gw_mem 912 (by decide +kernel) (by decide)
theorem wm_913 : Cond.code y_M_variables b_M_variables 5 (some .int) ∈ gw_tbl := gw_mem 913 (by decide +kernel) (by decide)
theorem wm_914 : Cond.methodLink R_M 152 y_M_variablesOf ∈ gw_tbl := gw_mem 914 (by decide +kernel) (by decide)
theorem wm_916 : Cond.instanceMethod y_M_variablesOf ∈ gw_tbl := gw_mem 916 (by decide +kernel) (by decide)
theorem wm_917 : Cond.code y_M_variablesOf b_M_variablesOf 5 (some .int) ∈ gw_tbl := gw_mem 917 (by decide +kernel) (by decide)
theorem wm_918 : Cond.methodLink R_W 60 y_M_interpolate ∈ gw_tbl := gw_mem 918 (by decide +kernel) (by decide)
theorem wm_919 : Cond.instanceMethod y_M_interpolate ∈ gw_tbl := gw_mem 919 (by decide +kernel) (by decide)
theorem wm_920 : Cond.selects R_M y_M_interpolate y_M_interpolate ∈ gw_tbl := gw_mem 920 (by decide +kernel) (by decide)
theorem wm_921 : Cond.code y_M_interpolate b_M_interpolate 5 (some .int) ∈ gw_tbl := gw_mem 921 (by decide +kernel) (by decide)
theorem wm_922 : Cond.methodLink R_M 196 y_M_partials ∈ gw_tbl := gw_mem 922 (by decide +kernel) (by decide)
theorem wm_924 : Cond.instanceMethod y_M_partials ∈ gw_tbl := gw_mem 924 (by decide +kernel) (by decide)
theorem wm_925 : Cond.code y_M_partials b_M_partials 16 none ∈ gw_tbl := gw_mem 925 (by decide +kernel) (by decide)
theorem wm_926 : Cond.methodLink R_M 178 y_M_sum ∈ gw_tbl := gw_mem 926 (by decide +kernel) (by decide)
theorem wm_928 : Cond.instanceMethod y_M_sum ∈ gw_tbl := gw_mem 928 (by decide +kernel) (by decide)
theorem wm_929 : Cond.code y_M_sum b_M_sum 10 (some .long) ∈ gw_tbl := gw_mem 929 (by decide +kernel) (by decide)
theorem wm_930 : Cond.methodLink R_M 170 y_M_labelOf ∈ gw_tbl := gw_mem 930 (by decide +kernel) (by decide)
theorem wm_932 : Cond.instanceMethod y_M_labelOf ∈ gw_tbl := gw_mem 932 (by decide +kernel) (by decide)
theorem wm_933 : Cond.code y_M_labelOf b_M_labelOf 6 (some .int) ∈ gw_tbl := gw_mem 933 (by decide +kernel) (by decide)
theorem wm_934 : Cond.methodLink R_M 174 y_M_word ∈ gw_tbl := gw_mem 934 (by decide +kernel) (by decide)
theorem wm_935 : Cond.static y_M_word ∈ gw_tbl := gw_mem 935 (by decide +kernel) (by decide)
theorem wm_936 : Cond.code y_M_word b_M_word 2 (some .long) ∈ gw_tbl := gw_mem 936 (by decide +kernel) (by decide)
theorem wm_937 : Cond.constantLong R_M 156 (-6148914691236517206) ∈ gw_tbl := gw_mem 937 (by decide +kernel) (by decide)
theorem wm_938 : Cond.constantLong R_M 158 (-3689348814741910324) ∈ gw_tbl := gw_mem 938 (by decide +kernel) (by decide)
theorem wm_939 : Cond.constantLong R_M 160 (-1085102592571150096) ∈ gw_tbl := gw_mem 939 (by decide +kernel) (by decide)
theorem wm_940 : Cond.constantLong R_M 162 (-71777214294589696) ∈ gw_tbl := gw_mem 940 (by decide +kernel) (by decide)
theorem wm_941 : Cond.constantLong R_M 164 (-281470681808896) ∈ gw_tbl := gw_mem 941 (by decide +kernel) (by decide)
theorem wm_942 : Cond.constantLong R_M 166 (-4294967296) ∈ gw_tbl := gw_mem 942 (by decide +kernel) (by decide)
theorem wm_943 : Cond.constantLong R_M 168 (-1) ∈ gw_tbl := gw_mem 943 (by decide +kernel) (by decide)
theorem wm_944 : Cond.methodLink R_M 204 y_M_draw ∈ gw_tbl := gw_mem 944 (by decide +kernel) (by decide)
theorem wm_946 : Cond.instanceMethod y_M_draw ∈ gw_tbl := gw_mem 946 (by decide +kernel) (by decide)
theorem wm_947 : Cond.code y_M_draw b_M_draw 6 none ∈ gw_tbl := gw_mem 947 (by decide +kernel) (by decide)
theorem wm_948 : Cond.methodLink R_M 193 y_M_nodeOf ∈ gw_tbl := gw_mem 948 (by decide +kernel) (by decide)
theorem wm_950 : Cond.instanceMethod y_M_nodeOf ∈ gw_tbl := gw_mem 950 (by decide +kernel) (by decide)
theorem wm_951 : Cond.code y_M_nodeOf b_M_nodeOf 6 (some .int) ∈ gw_tbl := gw_mem 951 (by decide +kernel) (by decide)
theorem wm_952 : Cond.methodLink R_M 189 y_M_leastVariable ∈ gw_tbl := gw_mem 952 (by decide +kernel) (by decide)
theorem wm_954 : Cond.instanceMethod y_M_leastVariable ∈ gw_tbl := gw_mem 954 (by decide +kernel) (by decide)
theorem wm_955 : Cond.code y_M_leastVariable b_M_leastVariable 4 (some .int) ∈ gw_tbl := gw_mem 955 (by decide +kernel) (by decide)
theorem wm_956 : Cond.methodLink R_M 182 y_M_side ∈ gw_tbl := gw_mem 956 (by decide +kernel) (by decide)
theorem wm_958 : Cond.instanceMethod y_M_side ∈ gw_tbl := gw_mem 958 (by decide +kernel) (by decide)
theorem wm_959 : Cond.code y_M_side b_M_side 12 (some .long) ∈ gw_tbl := gw_mem 959 (by decide +kernel) (by decide)
theorem wm_960 : Cond.methodLink R_W 64 y_M_value ∈ gw_tbl := gw_mem 960 (by decide +kernel) (by decide)
theorem wm_961 : Cond.instanceMethod y_M_value ∈ gw_tbl := gw_mem 961 (by decide +kernel) (by decide)
theorem wm_962 : Cond.selects R_M y_M_value y_M_value ∈ gw_tbl := gw_mem 962 (by decide +kernel) (by decide)
theorem wm_963 : Cond.code y_M_value b_M_value 2 (some .int) ∈ gw_tbl := gw_mem 963 (by decide +kernel) (by decide)
theorem wm_964 : Cond.methodLink R_W 68 y_M_prt ∈ gw_tbl := gw_mem 964 (by decide +kernel) (by decide)
theorem wm_965 : Cond.instanceMethod y_M_prt ∈ gw_tbl := gw_mem 965 (by decide +kernel) (by decide)
theorem wm_966 : Cond.selects R_M y_M_prt y_M_prt ∈ gw_tbl := gw_mem 966 (by decide +kernel) (by decide)
theorem wm_967 : Cond.code y_M_prt b_M_prt 3 (some .int) ∈ gw_tbl := gw_mem 967 (by decide +kernel) (by decide)
theorem wm_968 : Cond.methodLink R_W 72 y_M_told ∈ gw_tbl := gw_mem 968 (by decide +kernel) (by decide)
theorem wm_969 : Cond.instanceMethod y_M_told ∈ gw_tbl := gw_mem 969 (by decide +kernel) (by decide)
theorem wm_970 : Cond.selects R_M y_M_told y_M_told ∈ gw_tbl := gw_mem 970 (by decide +kernel) (by decide)
theorem wm_971 : Cond.code y_M_told b_M_told 4 (some .int) ∈ gw_tbl := gw_mem 971 (by decide +kernel) (by decide)
theorem wm_972 : Cond.methodLink R_M 207 y_M_ones ∈ gw_tbl := gw_mem 972 (by decide +kernel) (by decide)
theorem wm_973 : Cond.static y_M_ones ∈ gw_tbl := gw_mem 973 (by decide +kernel) (by decide)
theorem wm_974 : Cond.code y_M_ones b_M_ones 5 (some .int) ∈ gw_tbl := gw_mem 974 (by decide +kernel) (by decide)
theorem wm_975 : Cond.methodLink R_W 76 y_M_graph ∈ gw_tbl := gw_mem 975 (by decide +kernel) (by decide)
theorem wm_976 : Cond.instanceMethod y_M_graph ∈ gw_tbl := gw_mem 976 (by decide +kernel) (by decide)
theorem wm_977 : Cond.selects R_M y_M_graph y_M_graph ∈ gw_tbl := gw_mem 977 (by decide +kernel) (by decide)
theorem wm_978 : Cond.code y_M_graph b_M_graph 3 (some .int) ∈ gw_tbl := gw_mem 978 (by decide +kernel) (by decide)
theorem wm_979 : Cond.methodLink R_W 81 y_M_follows ∈ gw_tbl := gw_mem 979 (by decide +kernel) (by decide)
theorem wm_980 : Cond.instanceMethod y_M_follows ∈ gw_tbl := gw_mem 980 (by decide +kernel) (by decide)
theorem wm_981 : Cond.selects R_M y_M_follows y_M_follows ∈ gw_tbl := gw_mem 981 (by decide +kernel) (by decide)
theorem wm_982 : Cond.code y_M_follows b_M_follows 5 (some .int) ∈ gw_tbl := gw_mem 982 (by decide +kernel) (by decide)
theorem wm_983 : Cond.methodLink R_W 85 y_M_gap ∈ gw_tbl := gw_mem 983 (by decide +kernel) (by decide)
theorem wm_984 : Cond.instanceMethod y_M_gap ∈ gw_tbl := gw_mem 984 (by decide +kernel) (by decide)
theorem wm_985 : Cond.selects R_M y_M_gap y_M_gap ∈ gw_tbl := gw_mem 985 (by decide +kernel) (by decide)
theorem wm_986 : Cond.code y_M_gap b_M_gap 8 (some .int) ∈ gw_tbl := gw_mem 986 (by decide +kernel) (by decide)
theorem wm_987 : Cond.methodLink R_M 211 y_M_product ∈ gw_tbl := gw_mem 987 (by decide +kernel) (by decide)
theorem wm_989 : Cond.instanceMethod y_M_product ∈ gw_tbl := gw_mem 989 (by decide +kernel) (by decide)
theorem wm_990 : Cond.code y_M_product b_M_product 7 (some .long) ∈ gw_tbl := gw_mem 990 (by decide +kernel) (by decide)
theorem wm_991 : Cond.methodLink R_W 89 y_M_count ∈ gw_tbl := gw_mem 991 (by decide +kernel) (by decide)
theorem wm_992 : Cond.instanceMethod y_M_count ∈ gw_tbl := gw_mem 992 (by decide +kernel) (by decide)
theorem wm_993 : Cond.selects R_M y_M_count y_M_count ∈ gw_tbl := gw_mem 993 (by decide +kernel) (by decide)
theorem wm_994 : Cond.code y_M_count b_M_count 4 (some .int) ∈ gw_tbl := gw_mem 994 (by decide +kernel) (by decide)
theorem i_A : ∀ w ∈ u_ws R_A F_A 4, w ∈ gw_tbl := gw_mems [295, 297, 299, 301] (by decide +kernel) (by decide +kernel)
theorem i_C : ∀ w ∈ u_ws R_C F_C 13, w ∈ gw_tbl := gw_mems [128, 130, 132, 134, 136, 138, 140, 142, 144, 146, 148, 150, 152] (by decide +kernel) (by decide +kernel)
theorem i_F : ∀ w ∈ u_ws R_F F_F 6, w ∈ gw_tbl := gw_mems [237, 239, 241, 243, 245, 247] (by decide +kernel) (by decide +kernel)
theorem i_G : ∀ w ∈ u_ws R_G F_G 8, w ∈ gw_tbl := gw_mems [272, 274, 276, 278, 280, 282, 284, 286] (by decide +kernel) (by decide +kernel)
theorem i_L : ∀ w ∈ u_ws R_L F_L 1, w ∈ gw_tbl := gw_mems [221] (by decide +kernel) (by decide +kernel)
theorem i_R : ∀ w ∈ u_ws R_R F_R 15, w ∈ gw_tbl := gw_mems [180, 182, 184, 186, 188, 190, 192, 194, 196, 198, 200, 202, 204, 206, 208] (by decide +kernel) (by decide +kernel)
theorem i_T : ∀ w ∈ u_ws R_T F_T 2, w ∈ gw_tbl := gw_mems [83, 85] (by decide +kernel) (by decide +kernel)
theorem i_B : ∀ w ∈ u_ws R_B F_B 8, w ∈ gw_tbl := gw_mems [312, 314, 316, 318, 320, 322, 324, 326] (by decide +kernel) (by decide +kernel)
theorem i_M : ∀ w ∈ u_ws R_M F_M 34, w ∈ gw_tbl := gw_mems [759, 761, 763, 765, 767, 769, 771, 773, 775, 777, 779, 781, 783, 785, 787, 789, 791, 793, 795, 797, 799, 801, 803, 805, 807, 809, 811, 813, 815, 817, 819, 821, 823, 825] (by decide +kernel) (by decide +kernel)
end
section
theorem d_C_init_0 : decode b_C_init 0 = .ok (.aload_n 0, 1) := by decide +kernel
theorem d_C_init_1 : decode b_C_init 1 = .ok (.invokespecial 3, 3) := by decide +kernel
theorem d_C_init_4 : decode b_C_init 4 = .ok (.aload_n 0, 1) := by decide +kernel
theorem d_C_init_5 : decode b_C_init 5 = .ok (.sipush 201, 3) := by decide +kernel
theorem d_C_init_8 : decode b_C_init 8 = .ok (.newarray .int, 2) := by decide +kernel
theorem d_C_init_10 : decode b_C_init 10 = .ok (.putfield 9, 3) := by decide +kernel
theorem d_C_init_13 : decode b_C_init 13 = .ok (.aload_n 0, 1) := by decide +kernel
theorem d_C_init_14 : decode b_C_init 14 = .ok (.sipush 201, 3) := by decide +kernel
theorem d_C_init_17 : decode b_C_init 17 = .ok (.newarray .int, 2) := by decide +kernel
theorem d_C_init_19 : decode b_C_init 19 = .ok (.putfield 15, 3) := by decide +kernel
theorem d_C_init_22 : decode b_C_init 22 = .ok (.aload_n 0, 1) := by decide +kernel
theorem d_C_init_23 : decode b_C_init 23 = .ok (.sipush 201, 3) := by decide +kernel
theorem d_C_init_26 : decode b_C_init 26 = .ok (.newarray .int, 2) := by decide +kernel
theorem d_C_init_28 : decode b_C_init 28 = .ok (.putfield 18, 3) := by decide +kernel
theorem d_C_init_31 : decode b_C_init 31 = .ok (.aload_n 0, 1) := by decide +kernel
theorem d_C_init_32 : decode b_C_init 32 = .ok (.sipush 201, 3) := by decide +kernel
theorem d_C_init_35 : decode b_C_init 35 = .ok (.newarray .int, 2) := by decide +kernel
theorem d_C_init_37 : decode b_C_init 37 = .ok (.putfield 21, 3) := by decide +kernel
theorem d_C_init_40 : decode b_C_init 40 = .ok (.aload_n 0, 1) := by decide +kernel
theorem d_C_init_41 : decode b_C_init 41 = .ok (.sipush 201, 3) := by decide +kernel
theorem d_C_init_44 : decode b_C_init 44 = .ok (.newarray .int, 2) := by decide +kernel
theorem d_C_init_46 : decode b_C_init 46 = .ok (.putfield 24, 3) := by decide +kernel
theorem d_C_init_49 : decode b_C_init 49 = .ok (.aload_n 0, 1) := by decide +kernel
theorem d_C_init_50 : decode b_C_init 50 = .ok (.sipush 201, 3) := by decide +kernel
theorem d_C_init_53 : decode b_C_init 53 = .ok (.newarray .int, 2) := by decide +kernel
theorem d_C_init_55 : decode b_C_init 55 = .ok (.putfield 27, 3) := by decide +kernel
theorem d_C_init_58 : decode b_C_init 58 = .ok (.aload_n 0, 1) := by decide +kernel
theorem d_C_init_59 : decode b_C_init 59 = .ok (.sipush 201, 3) := by decide +kernel
theorem d_C_init_62 : decode b_C_init 62 = .ok (.newarray .boolean, 2) := by decide +kernel
theorem d_C_init_64 : decode b_C_init 64 = .ok (.putfield 30, 3) := by decide +kernel
theorem d_C_init_67 : decode b_C_init 67 = .ok (.aload_n 0, 1) := by decide +kernel
theorem d_C_init_68 : decode b_C_init 68 = .ok (.sipush 201, 3) := by decide +kernel
theorem d_C_init_71 : decode b_C_init 71 = .ok (.newarray .boolean, 2) := by decide +kernel
theorem d_C_init_73 : decode b_C_init 73 = .ok (.putfield 34, 3) := by decide +kernel
theorem d_C_init_76 : decode b_C_init 76 = .ok (.return_, 1) := by decide +kernel
theorem d_C_startDraft_0 : decode b_C_startDraft 0 = .ok (.aload_n 0, 1) := by decide +kernel
theorem d_C_startDraft_1 : decode b_C_startDraft 1 = .ok (.aload_n 0, 1) := by decide +kernel
theorem d_C_startDraft_2 : decode b_C_startDraft 2 = .ok (.getfield 37, 3) := by decide +kernel
theorem d_C_startDraft_5 : decode b_C_startDraft 5 = .ok (.putfield 41, 3) := by decide +kernel
theorem d_C_startDraft_8 : decode b_C_startDraft 8 = .ok (.aload_n 0, 1) := by decide +kernel
theorem d_C_startDraft_9 : decode b_C_startDraft 9 = .ok (.aload_n 0, 1) := by decide +kernel
theorem d_C_startDraft_10 : decode b_C_startDraft 10 = .ok (.getfield 44, 3) := by decide +kernel
theorem d_C_startDraft_13 : decode b_C_startDraft 13 = .ok (.putfield 47, 3) := by decide +kernel
theorem d_C_startDraft_16 : decode b_C_startDraft 16 = .ok (.return_, 1) := by decide +kernel
theorem d_C_hasRoom_0 : decode b_C_hasRoom 0 = .ok (.aload_n 0, 1) := by decide +kernel
theorem d_C_hasRoom_1 : decode b_C_hasRoom 1 = .ok (.getfield 41, 3) := by decide +kernel
theorem d_C_hasRoom_4 : decode b_C_hasRoom 4 = .ok (.sipush 200, 3) := by decide +kernel
theorem d_C_hasRoom_7 : decode b_C_hasRoom 7 = .ok (.if_icmp .ge 7, 3) := by decide +kernel
theorem d_C_hasRoom_10 : decode b_C_hasRoom 10 = .ok (.iconst 1, 1) := by decide +kernel
theorem d_C_hasRoom_11 : decode b_C_hasRoom 11 = .ok (.goto 4, 3) := by decide +kernel
theorem d_C_hasRoom_14 : decode b_C_hasRoom 14 = .ok (.iconst 0, 1) := by decide +kernel
theorem d_C_hasRoom_15 : decode b_C_hasRoom 15 = .ok (.ireturn, 1) := by decide +kernel
theorem d_C_hasRoomForGiven_0 : decode b_C_hasRoomForGiven 0 = .ok (.aload_n 0, 1) := by decide +kernel
theorem d_C_hasRoomForGiven_1 : decode b_C_hasRoomForGiven 1 = .ok (.invokevirtual 50, 3) := by decide +kernel
theorem d_C_hasRoomForGiven_4 : decode b_C_hasRoomForGiven 4 = .ok (.ifCond .eq 16, 3) := by decide +kernel
theorem d_C_hasRoomForGiven_7 : decode b_C_hasRoomForGiven 7 = .ok (.aload_n 0, 1) := by decide +kernel
theorem d_C_hasRoomForGiven_8 : decode b_C_hasRoomForGiven 8 = .ok (.getfield 47, 3) := by decide +kernel
theorem d_C_hasRoomForGiven_11 : decode b_C_hasRoomForGiven 11 = .ok (.bipush 60, 2) := by decide +kernel
theorem d_C_hasRoomForGiven_13 : decode b_C_hasRoomForGiven 13 = .ok (.if_icmp .ge 7, 3) := by decide +kernel
theorem d_C_hasRoomForGiven_16 : decode b_C_hasRoomForGiven 16 = .ok (.iconst 1, 1) := by decide +kernel
theorem d_C_hasRoomForGiven_17 : decode b_C_hasRoomForGiven 17 = .ok (.goto 4, 3) := by decide +kernel
theorem d_C_hasRoomForGiven_20 : decode b_C_hasRoomForGiven 20 = .ok (.iconst 0, 1) := by decide +kernel
theorem d_C_hasRoomForGiven_21 : decode b_C_hasRoomForGiven 21 = .ok (.ireturn, 1) := by decide +kernel
theorem d_C_isDrafted_0 : decode b_C_isDrafted 0 = .ok (.iload_n 1, 1) := by decide +kernel
theorem d_C_isDrafted_1 : decode b_C_isDrafted 1 = .ok (.iconst 1, 1) := by decide +kernel
theorem d_C_isDrafted_2 : decode b_C_isDrafted 2 = .ok (.if_icmp .lt 22, 3) := by decide +kernel
theorem d_C_isDrafted_5 : decode b_C_isDrafted 5 = .ok (.iload_n 1, 1) := by decide +kernel
theorem d_C_isDrafted_6 : decode b_C_isDrafted 6 = .ok (.aload_n 0, 1) := by decide +kernel
theorem d_C_isDrafted_7 : decode b_C_isDrafted 7 = .ok (.getfield 41, 3) := by decide +kernel
theorem d_C_isDrafted_10 : decode b_C_isDrafted 10 = .ok (.if_icmp .gt 14, 3) := by decide +kernel
theorem d_C_isDrafted_13 : decode b_C_isDrafted 13 = .ok (.iload_n 1, 1) := by decide +kernel
theorem d_C_isDrafted_14 : decode b_C_isDrafted 14 = .ok (.sipush 200, 3) := by decide +kernel
theorem d_C_isDrafted_17 : decode b_C_isDrafted 17 = .ok (.if_icmp .gt 7, 3) := by decide +kernel
theorem d_C_isDrafted_20 : decode b_C_isDrafted 20 = .ok (.iconst 1, 1) := by decide +kernel
theorem d_C_isDrafted_21 : decode b_C_isDrafted 21 = .ok (.goto 4, 3) := by decide +kernel
theorem d_C_isDrafted_24 : decode b_C_isDrafted 24 = .ok (.iconst 0, 1) := by decide +kernel
theorem d_C_isDrafted_25 : decode b_C_isDrafted 25 = .ok (.ireturn, 1) := by decide +kernel
theorem d_C_draftGiven_0 : decode b_C_draftGiven 0 = .ok (.aload_n 0, 1) := by decide +kernel
theorem d_C_draftGiven_1 : decode b_C_draftGiven 1 = .ok (.invokevirtual 54, 3) := by decide +kernel
theorem d_C_draftGiven_4 : decode b_C_draftGiven 4 = .ok (.ifCond .eq 59, 3) := by decide +kernel
theorem d_C_draftGiven_7 : decode b_C_draftGiven 7 = .ok (.aload_n 0, 1) := by decide +kernel
theorem d_C_draftGiven_8 : decode b_C_draftGiven 8 = .ok (.iload_n 2, 1) := by decide +kernel
theorem d_C_draftGiven_9 : decode b_C_draftGiven 9 = .ok (.iload_n 3, 1) := by decide +kernel
theorem d_C_draftGiven_10 : decode b_C_draftGiven 10 = .ok (.invokevirtual 57, 3) := by decide +kernel
theorem d_C_draftGiven_13 : decode b_C_draftGiven 13 = .ok (.aload_n 0, 1) := by decide +kernel
theorem d_C_draftGiven_14 : decode b_C_draftGiven 14 = .ok (.getfield 9, 3) := by decide +kernel
theorem d_C_draftGiven_17 : decode b_C_draftGiven 17 = .ok (.aload_n 0, 1) := by decide +kernel
theorem d_C_draftGiven_18 : decode b_C_draftGiven 18 = .ok (.getfield 41, 3) := by decide +kernel
theorem d_C_draftGiven_21 : decode b_C_draftGiven 21 = .ok (.iload_n 1, 1) := by decide +kernel
theorem d_C_draftGiven_22 : decode b_C_draftGiven 22 = .ok (.iastore, 1) := by decide +kernel
theorem d_C_draftGiven_23 : decode b_C_draftGiven 23 = .ok (.aload_n 0, 1) := by decide +kernel
theorem d_C_draftGiven_24 : decode b_C_draftGiven 24 = .ok (.getfield 15, 3) := by decide +kernel
theorem d_C_draftGiven_27 : decode b_C_draftGiven 27 = .ok (.aload_n 0, 1) := by decide +kernel
theorem d_C_draftGiven_28 : decode b_C_draftGiven 28 = .ok (.getfield 41, 3) := by decide +kernel
theorem d_C_draftGiven_31 : decode b_C_draftGiven 31 = .ok (.iconst 0, 1) := by decide +kernel
theorem d_C_draftGiven_32 : decode b_C_draftGiven 32 = .ok (.iastore, 1) := by decide +kernel
theorem d_C_draftGiven_33 : decode b_C_draftGiven 33 = .ok (.aload_n 0, 1) := by decide +kernel
theorem d_C_draftGiven_34 : decode b_C_draftGiven 34 = .ok (.getfield 18, 3) := by decide +kernel
theorem d_C_draftGiven_37 : decode b_C_draftGiven 37 = .ok (.aload_n 0, 1) := by decide +kernel
theorem d_C_draftGiven_38 : decode b_C_draftGiven 38 = .ok (.getfield 41, 3) := by decide +kernel
theorem d_C_draftGiven_41 : decode b_C_draftGiven 41 = .ok (.iconst 0, 1) := by decide +kernel
theorem d_C_draftGiven_42 : decode b_C_draftGiven 42 = .ok (.iastore, 1) := by decide +kernel
theorem d_C_draftGiven_43 : decode b_C_draftGiven 43 = .ok (.aload_n 0, 1) := by decide +kernel
theorem d_C_draftGiven_44 : decode b_C_draftGiven 44 = .ok (.getfield 21, 3) := by decide +kernel
theorem d_C_draftGiven_47 : decode b_C_draftGiven 47 = .ok (.aload_n 0, 1) := by decide +kernel
theorem d_C_draftGiven_48 : decode b_C_draftGiven 48 = .ok (.getfield 41, 3) := by decide +kernel
theorem d_C_draftGiven_51 : decode b_C_draftGiven 51 = .ok (.iconst 0, 1) := by decide +kernel
theorem d_C_draftGiven_52 : decode b_C_draftGiven 52 = .ok (.iastore, 1) := by decide +kernel
theorem d_C_draftGiven_53 : decode b_C_draftGiven 53 = .ok (.aload_n 0, 1) := by decide +kernel
theorem d_C_draftGiven_54 : decode b_C_draftGiven 54 = .ok (.dup, 1) := by decide +kernel
theorem d_C_draftGiven_55 : decode b_C_draftGiven 55 = .ok (.getfield 47, 3) := by decide +kernel
theorem d_C_draftGiven_58 : decode b_C_draftGiven 58 = .ok (.iconst 1, 1) := by decide +kernel
theorem d_C_draftGiven_59 : decode b_C_draftGiven 59 = .ok (.iadd, 1) := by decide +kernel
theorem d_C_draftGiven_60 : decode b_C_draftGiven 60 = .ok (.putfield 47, 3) := by decide +kernel
theorem d_C_draftGiven_63 : decode b_C_draftGiven 63 = .ok (.return_, 1) := by decide +kernel
theorem d_C_draftResolvent_0 : decode b_C_draftResolvent 0 = .ok (.aload_n 0, 1) := by decide +kernel
theorem d_C_draftResolvent_1 : decode b_C_draftResolvent 1 = .ok (.invokevirtual 50, 3) := by decide +kernel
theorem d_C_draftResolvent_4 : decode b_C_draftResolvent 4 = .ok (.ifCond .eq 77, 3) := by decide +kernel
theorem d_C_draftResolvent_7 : decode b_C_draftResolvent 7 = .ok (.aload_n 0, 1) := by decide +kernel
theorem d_C_draftResolvent_8 : decode b_C_draftResolvent 8 = .ok (.iload_n 1, 1) := by decide +kernel
theorem d_C_draftResolvent_9 : decode b_C_draftResolvent 9 = .ok (.invokevirtual 61, 3) := by decide +kernel
theorem d_C_draftResolvent_12 : decode b_C_draftResolvent 12 = .ok (.ifCond .eq 69, 3) := by decide +kernel
theorem d_C_draftResolvent_15 : decode b_C_draftResolvent 15 = .ok (.aload_n 0, 1) := by decide +kernel
theorem d_C_draftResolvent_16 : decode b_C_draftResolvent 16 = .ok (.iload_n 2, 1) := by decide +kernel
theorem d_C_draftResolvent_17 : decode b_C_draftResolvent 17 = .ok (.invokevirtual 61, 3) := by decide +kernel
theorem d_C_draftResolvent_20 : decode b_C_draftResolvent 20 = .ok (.ifCond .eq 61, 3) := by decide +kernel
theorem d_C_draftResolvent_23 : decode b_C_draftResolvent 23 = .ok (.aload_n 0, 1) := by decide +kernel
theorem d_C_draftResolvent_24 : decode b_C_draftResolvent 24 = .ok (.aload_n 0, 1) := by decide +kernel
theorem d_C_draftResolvent_25 : decode b_C_draftResolvent 25 = .ok (.iload_n 1, 1) := by decide +kernel
theorem d_C_draftResolvent_26 : decode b_C_draftResolvent 26 = .ok (.iload_n 2, 1) := by decide +kernel
theorem d_C_draftResolvent_27 : decode b_C_draftResolvent 27 = .ok (.iload_n 3, 1) := by decide +kernel
theorem d_C_draftResolvent_28 : decode b_C_draftResolvent 28 = .ok (.invokevirtual 65, 3) := by decide +kernel
theorem d_C_draftResolvent_31 : decode b_C_draftResolvent 31 = .ok (.aload_n 0, 1) := by decide +kernel
theorem d_C_draftResolvent_32 : decode b_C_draftResolvent 32 = .ok (.iload_n 1, 1) := by decide +kernel
theorem d_C_draftResolvent_33 : decode b_C_draftResolvent 33 = .ok (.iload_n 2, 1) := by decide +kernel
theorem d_C_draftResolvent_34 : decode b_C_draftResolvent 34 = .ok (.iload_n 3, 1) := by decide +kernel
theorem d_C_draftResolvent_35 : decode b_C_draftResolvent 35 = .ok (.invokevirtual 69, 3) := by decide +kernel
theorem d_C_draftResolvent_38 : decode b_C_draftResolvent 38 = .ok (.invokevirtual 57, 3) := by decide +kernel
theorem d_C_draftResolvent_41 : decode b_C_draftResolvent 41 = .ok (.aload_n 0, 1) := by decide +kernel
theorem d_C_draftResolvent_42 : decode b_C_draftResolvent 42 = .ok (.getfield 9, 3) := by decide +kernel
theorem d_C_draftResolvent_45 : decode b_C_draftResolvent 45 = .ok (.aload_n 0, 1) := by decide +kernel
theorem d_C_draftResolvent_46 : decode b_C_draftResolvent 46 = .ok (.getfield 41, 3) := by decide +kernel
theorem d_C_draftResolvent_49 : decode b_C_draftResolvent 49 = .ok (.iconst 0, 1) := by decide +kernel
theorem d_C_draftResolvent_50 : decode b_C_draftResolvent 50 = .ok (.iastore, 1) := by decide +kernel
theorem d_C_draftResolvent_51 : decode b_C_draftResolvent 51 = .ok (.aload_n 0, 1) := by decide +kernel
theorem d_C_draftResolvent_52 : decode b_C_draftResolvent 52 = .ok (.getfield 15, 3) := by decide +kernel
theorem d_C_draftResolvent_55 : decode b_C_draftResolvent 55 = .ok (.aload_n 0, 1) := by decide +kernel
theorem d_C_draftResolvent_56 : decode b_C_draftResolvent 56 = .ok (.getfield 41, 3) := by decide +kernel
theorem d_C_draftResolvent_59 : decode b_C_draftResolvent 59 = .ok (.iload_n 1, 1) := by decide +kernel
theorem d_C_draftResolvent_60 : decode b_C_draftResolvent 60 = .ok (.iastore, 1) := by decide +kernel
theorem d_C_draftResolvent_61 : decode b_C_draftResolvent 61 = .ok (.aload_n 0, 1) := by decide +kernel
theorem d_C_draftResolvent_62 : decode b_C_draftResolvent 62 = .ok (.getfield 18, 3) := by decide +kernel
theorem d_C_draftResolvent_65 : decode b_C_draftResolvent 65 = .ok (.aload_n 0, 1) := by decide +kernel
theorem d_C_draftResolvent_66 : decode b_C_draftResolvent 66 = .ok (.getfield 41, 3) := by decide +kernel
theorem d_C_draftResolvent_69 : decode b_C_draftResolvent 69 = .ok (.iload_n 2, 1) := by decide +kernel
theorem d_C_draftResolvent_70 : decode b_C_draftResolvent 70 = .ok (.iastore, 1) := by decide +kernel
theorem d_C_draftResolvent_71 : decode b_C_draftResolvent 71 = .ok (.aload_n 0, 1) := by decide +kernel
theorem d_C_draftResolvent_72 : decode b_C_draftResolvent 72 = .ok (.getfield 21, 3) := by decide +kernel
theorem d_C_draftResolvent_75 : decode b_C_draftResolvent 75 = .ok (.aload_n 0, 1) := by decide +kernel
theorem d_C_draftResolvent_76 : decode b_C_draftResolvent 76 = .ok (.getfield 41, 3) := by decide +kernel
theorem d_C_draftResolvent_79 : decode b_C_draftResolvent 79 = .ok (.iload_n 3, 1) := by decide +kernel
theorem d_C_draftResolvent_80 : decode b_C_draftResolvent 80 = .ok (.iastore, 1) := by decide +kernel
theorem d_C_draftResolvent_81 : decode b_C_draftResolvent 81 = .ok (.return_, 1) := by decide +kernel
theorem d_C_draft_0 : decode b_C_draft 0 = .ok (.aload_n 0, 1) := by decide +kernel
theorem d_C_draft_1 : decode b_C_draft 1 = .ok (.dup, 1) := by decide +kernel
theorem d_C_draft_2 : decode b_C_draft 2 = .ok (.getfield 41, 3) := by decide +kernel
theorem d_C_draft_5 : decode b_C_draft 5 = .ok (.iconst 1, 1) := by decide +kernel
theorem d_C_draft_6 : decode b_C_draft 6 = .ok (.iadd, 1) := by decide +kernel
theorem d_C_draft_7 : decode b_C_draft 7 = .ok (.putfield 41, 3) := by decide +kernel
theorem d_C_draft_10 : decode b_C_draft 10 = .ok (.aload_n 0, 1) := by decide +kernel
theorem d_C_draft_11 : decode b_C_draft 11 = .ok (.getfield 24, 3) := by decide +kernel
theorem d_C_draft_14 : decode b_C_draft 14 = .ok (.aload_n 0, 1) := by decide +kernel
theorem d_C_draft_15 : decode b_C_draft 15 = .ok (.getfield 41, 3) := by decide +kernel
theorem d_C_draft_18 : decode b_C_draft 18 = .ok (.iload_n 1, 1) := by decide +kernel
theorem d_C_draft_19 : decode b_C_draft 19 = .ok (.iastore, 1) := by decide +kernel
theorem d_C_draft_20 : decode b_C_draft 20 = .ok (.aload_n 0, 1) := by decide +kernel
theorem d_C_draft_21 : decode b_C_draft 21 = .ok (.getfield 27, 3) := by decide +kernel
theorem d_C_draft_24 : decode b_C_draft 24 = .ok (.aload_n 0, 1) := by decide +kernel
theorem d_C_draft_25 : decode b_C_draft 25 = .ok (.getfield 41, 3) := by decide +kernel
theorem d_C_draft_28 : decode b_C_draft 28 = .ok (.iload_n 2, 1) := by decide +kernel
theorem d_C_draft_29 : decode b_C_draft 29 = .ok (.iastore, 1) := by decide +kernel
theorem d_C_draft_30 : decode b_C_draft 30 = .ok (.aload_n 0, 1) := by decide +kernel
theorem d_C_draft_31 : decode b_C_draft 31 = .ok (.getfield 30, 3) := by decide +kernel
theorem d_C_draft_34 : decode b_C_draft 34 = .ok (.aload_n 0, 1) := by decide +kernel
theorem d_C_draft_35 : decode b_C_draft 35 = .ok (.getfield 41, 3) := by decide +kernel
theorem d_C_draft_38 : decode b_C_draft 38 = .ok (.iconst 1, 1) := by decide +kernel
theorem d_C_draft_39 : decode b_C_draft 39 = .ok (.bastore, 1) := by decide +kernel
theorem d_C_draft_40 : decode b_C_draft 40 = .ok (.return_, 1) := by decide +kernel
theorem d_C_keepDraft_0 : decode b_C_keepDraft 0 = .ok (.aload_n 0, 1) := by decide +kernel
theorem d_C_keepDraft_1 : decode b_C_keepDraft 1 = .ok (.getfield 41, 3) := by decide +kernel
theorem d_C_keepDraft_4 : decode b_C_keepDraft 4 = .ok (.aload_n 0, 1) := by decide +kernel
theorem d_C_keepDraft_5 : decode b_C_keepDraft 5 = .ok (.getfield 37, 3) := by decide +kernel
theorem d_C_keepDraft_8 : decode b_C_keepDraft 8 = .ok (.isub, 1) := by decide +kernel
theorem d_C_keepDraft_9 : decode b_C_keepDraft 9 = .ok (.istore_n 1, 1) := by decide +kernel
theorem d_C_keepDraft_10 : decode b_C_keepDraft 10 = .ok (.aload_n 0, 1) := by decide +kernel
theorem d_C_keepDraft_11 : decode b_C_keepDraft 11 = .ok (.aload_n 0, 1) := by decide +kernel
theorem d_C_keepDraft_12 : decode b_C_keepDraft 12 = .ok (.getfield 41, 3) := by decide +kernel
theorem d_C_keepDraft_15 : decode b_C_keepDraft 15 = .ok (.putfield 37, 3) := by decide +kernel
theorem d_C_keepDraft_18 : decode b_C_keepDraft 18 = .ok (.aload_n 0, 1) := by decide +kernel
theorem d_C_keepDraft_19 : decode b_C_keepDraft 19 = .ok (.aload_n 0, 1) := by decide +kernel
theorem d_C_keepDraft_20 : decode b_C_keepDraft 20 = .ok (.getfield 47, 3) := by decide +kernel
theorem d_C_keepDraft_23 : decode b_C_keepDraft 23 = .ok (.putfield 44, 3) := by decide +kernel
theorem d_C_keepDraft_26 : decode b_C_keepDraft 26 = .ok (.aload_n 0, 1) := by decide +kernel
theorem d_C_keepDraft_27 : decode b_C_keepDraft 27 = .ok (.invokevirtual 72, 3) := by decide +kernel
theorem d_C_keepDraft_30 : decode b_C_keepDraft 30 = .ok (.aload_n 0, 1) := by decide +kernel
theorem d_C_keepDraft_31 : decode b_C_keepDraft 31 = .ok (.invokevirtual 75, 3) := by decide +kernel
theorem d_C_keepDraft_34 : decode b_C_keepDraft 34 = .ok (.iload_n 1, 1) := by decide +kernel
theorem d_C_keepDraft_35 : decode b_C_keepDraft 35 = .ok (.ireturn, 1) := by decide +kernel
theorem d_C_removeAll_0 : decode b_C_removeAll 0 = .ok (.aload_n 0, 1) := by decide +kernel
theorem d_C_removeAll_1 : decode b_C_removeAll 1 = .ok (.iconst 0, 1) := by decide +kernel
theorem d_C_removeAll_2 : decode b_C_removeAll 2 = .ok (.putfield 37, 3) := by decide +kernel
theorem d_C_removeAll_5 : decode b_C_removeAll 5 = .ok (.aload_n 0, 1) := by decide +kernel
theorem d_C_removeAll_6 : decode b_C_removeAll 6 = .ok (.iconst 0, 1) := by decide +kernel
theorem d_C_removeAll_7 : decode b_C_removeAll 7 = .ok (.putfield 44, 3) := by decide +kernel
theorem d_C_removeAll_10 : decode b_C_removeAll 10 = .ok (.aload_n 0, 1) := by decide +kernel
theorem d_C_removeAll_11 : decode b_C_removeAll 11 = .ok (.iconst 0, 1) := by decide +kernel
theorem d_C_removeAll_12 : decode b_C_removeAll 12 = .ok (.putfield 78, 3) := by decide +kernel
theorem d_C_removeAll_15 : decode b_C_removeAll 15 = .ok (.return_, 1) := by decide +kernel
theorem d_C_findEmpty_0 : decode b_C_findEmpty 0 = .ok (.iconst 1, 1) := by decide +kernel
theorem d_C_findEmpty_1 : decode b_C_findEmpty 1 = .ok (.istore_n 1, 1) := by decide +kernel
theorem d_C_findEmpty_2 : decode b_C_findEmpty 2 = .ok (.iload_n 1, 1) := by decide +kernel
theorem d_C_findEmpty_3 : decode b_C_findEmpty 3 = .ok (.aload_n 0, 1) := by decide +kernel
theorem d_C_findEmpty_4 : decode b_C_findEmpty 4 = .ok (.getfield 37, 3) := by decide +kernel
theorem d_C_findEmpty_7 : decode b_C_findEmpty 7 = .ok (.if_icmp .gt 37, 3) := by decide +kernel
theorem d_C_findEmpty_10 : decode b_C_findEmpty 10 = .ok (.aload_n 0, 1) := by decide +kernel
theorem d_C_findEmpty_11 : decode b_C_findEmpty 11 = .ok (.getfield 78, 3) := by decide +kernel
theorem d_C_findEmpty_14 : decode b_C_findEmpty 14 = .ok (.ifCond .ne 30, 3) := by decide +kernel
theorem d_C_findEmpty_17 : decode b_C_findEmpty 17 = .ok (.aload_n 0, 1) := by decide +kernel
theorem d_C_findEmpty_18 : decode b_C_findEmpty 18 = .ok (.getfield 24, 3) := by decide +kernel
theorem d_C_findEmpty_21 : decode b_C_findEmpty 21 = .ok (.iload_n 1, 1) := by decide +kernel
theorem d_C_findEmpty_22 : decode b_C_findEmpty 22 = .ok (.iaload, 1) := by decide +kernel
theorem d_C_findEmpty_23 : decode b_C_findEmpty 23 = .ok (.aload_n 0, 1) := by decide +kernel
theorem d_C_findEmpty_24 : decode b_C_findEmpty 24 = .ok (.getfield 27, 3) := by decide +kernel
theorem d_C_findEmpty_27 : decode b_C_findEmpty 27 = .ok (.iload_n 1, 1) := by decide +kernel
theorem d_C_findEmpty_28 : decode b_C_findEmpty 28 = .ok (.iaload, 1) := by decide +kernel
theorem d_C_findEmpty_29 : decode b_C_findEmpty 29 = .ok (.ior, 1) := by decide +kernel
theorem d_C_findEmpty_30 : decode b_C_findEmpty 30 = .ok (.ifCond .ne 8, 3) := by decide +kernel
theorem d_C_findEmpty_33 : decode b_C_findEmpty 33 = .ok (.aload_n 0, 1) := by decide +kernel
theorem d_C_findEmpty_34 : decode b_C_findEmpty 34 = .ok (.iload_n 1, 1) := by decide +kernel
theorem d_C_findEmpty_35 : decode b_C_findEmpty 35 = .ok (.putfield 78, 3) := by decide +kernel
theorem d_C_findEmpty_38 : decode b_C_findEmpty 38 = .ok (.iinc 1 1, 3) := by decide +kernel
theorem d_C_findEmpty_41 : decode b_C_findEmpty 41 = .ok (.goto (-39), 3) := by decide +kernel
theorem d_C_findEmpty_44 : decode b_C_findEmpty 44 = .ok (.return_, 1) := by decide +kernel
theorem d_C_markNeeded_0 : decode b_C_markNeeded 0 = .ok (.iconst 0, 1) := by decide +kernel
theorem d_C_markNeeded_1 : decode b_C_markNeeded 1 = .ok (.istore_n 1, 1) := by decide +kernel
theorem d_C_markNeeded_2 : decode b_C_markNeeded 2 = .ok (.iload_n 1, 1) := by decide +kernel
theorem d_C_markNeeded_3 : decode b_C_markNeeded 3 = .ok (.sipush 200, 3) := by decide +kernel
theorem d_C_markNeeded_6 : decode b_C_markNeeded 6 = .ok (.if_icmp .gt 32, 3) := by decide +kernel
theorem d_C_markNeeded_9 : decode b_C_markNeeded 9 = .ok (.aload_n 0, 1) := by decide +kernel
theorem d_C_markNeeded_10 : decode b_C_markNeeded 10 = .ok (.getfield 34, 3) := by decide +kernel
theorem d_C_markNeeded_13 : decode b_C_markNeeded 13 = .ok (.iload_n 1, 1) := by decide +kernel
theorem d_C_markNeeded_14 : decode b_C_markNeeded 14 = .ok (.iload_n 1, 1) := by decide +kernel
theorem d_C_markNeeded_15 : decode b_C_markNeeded 15 = .ok (.ifCond .eq 15, 3) := by decide +kernel
theorem d_C_markNeeded_18 : decode b_C_markNeeded 18 = .ok (.iload_n 1, 1) := by decide +kernel
theorem d_C_markNeeded_19 : decode b_C_markNeeded 19 = .ok (.aload_n 0, 1) := by decide +kernel
theorem d_C_markNeeded_20 : decode b_C_markNeeded 20 = .ok (.getfield 78, 3) := by decide +kernel
theorem d_C_markNeeded_23 : decode b_C_markNeeded 23 = .ok (.if_icmp .ne 7, 3) := by decide +kernel
theorem d_C_markNeeded_26 : decode b_C_markNeeded 26 = .ok (.iconst 1, 1) := by decide +kernel
theorem d_C_markNeeded_27 : decode b_C_markNeeded 27 = .ok (.goto 4, 3) := by decide +kernel
theorem d_C_markNeeded_30 : decode b_C_markNeeded 30 = .ok (.iconst 0, 1) := by decide +kernel
theorem d_C_markNeeded_31 : decode b_C_markNeeded 31 = .ok (.bastore, 1) := by decide +kernel
theorem d_C_markNeeded_32 : decode b_C_markNeeded 32 = .ok (.iinc 1 1, 3) := by decide +kernel
theorem d_C_markNeeded_35 : decode b_C_markNeeded 35 = .ok (.goto (-33), 3) := by decide +kernel
theorem d_C_markNeeded_38 : decode b_C_markNeeded 38 = .ok (.aload_n 0, 1) := by decide +kernel
theorem d_C_markNeeded_39 : decode b_C_markNeeded 39 = .ok (.getfield 78, 3) := by decide +kernel
theorem d_C_markNeeded_42 : decode b_C_markNeeded 42 = .ok (.istore_n 1, 1) := by decide +kernel
theorem d_C_markNeeded_43 : decode b_C_markNeeded 43 = .ok (.iload_n 1, 1) := by decide +kernel
theorem d_C_markNeeded_44 : decode b_C_markNeeded 44 = .ok (.iconst 1, 1) := by decide +kernel
theorem d_C_markNeeded_45 : decode b_C_markNeeded 45 = .ok (.if_icmp .lt 51, 3) := by decide +kernel
theorem d_C_markNeeded_48 : decode b_C_markNeeded 48 = .ok (.aload_n 0, 1) := by decide +kernel
theorem d_C_markNeeded_49 : decode b_C_markNeeded 49 = .ok (.getfield 34, 3) := by decide +kernel
theorem d_C_markNeeded_52 : decode b_C_markNeeded 52 = .ok (.iload_n 1, 1) := by decide +kernel
theorem d_C_markNeeded_53 : decode b_C_markNeeded 53 = .ok (.baload, 1) := by decide +kernel
theorem d_C_markNeeded_54 : decode b_C_markNeeded 54 = .ok (.ifCond .eq 36, 3) := by decide +kernel
theorem d_C_markNeeded_57 : decode b_C_markNeeded 57 = .ok (.aload_n 0, 1) := by decide +kernel
theorem d_C_markNeeded_58 : decode b_C_markNeeded 58 = .ok (.getfield 9, 3) := by decide +kernel
theorem d_C_markNeeded_61 : decode b_C_markNeeded 61 = .ok (.iload_n 1, 1) := by decide +kernel
theorem d_C_markNeeded_62 : decode b_C_markNeeded 62 = .ok (.iaload, 1) := by decide +kernel
theorem d_C_markNeeded_63 : decode b_C_markNeeded 63 = .ok (.ifCond .ne 27, 3) := by decide +kernel
theorem d_C_markNeeded_66 : decode b_C_markNeeded 66 = .ok (.aload_n 0, 1) := by decide +kernel
theorem d_C_markNeeded_67 : decode b_C_markNeeded 67 = .ok (.getfield 34, 3) := by decide +kernel
theorem d_C_markNeeded_70 : decode b_C_markNeeded 70 = .ok (.aload_n 0, 1) := by decide +kernel
theorem d_C_markNeeded_71 : decode b_C_markNeeded 71 = .ok (.getfield 15, 3) := by decide +kernel
theorem d_C_markNeeded_74 : decode b_C_markNeeded 74 = .ok (.iload_n 1, 1) := by decide +kernel
theorem d_C_markNeeded_75 : decode b_C_markNeeded 75 = .ok (.iaload, 1) := by decide +kernel
theorem d_C_markNeeded_76 : decode b_C_markNeeded 76 = .ok (.iconst 1, 1) := by decide +kernel
theorem d_C_markNeeded_77 : decode b_C_markNeeded 77 = .ok (.bastore, 1) := by decide +kernel
theorem d_C_markNeeded_78 : decode b_C_markNeeded 78 = .ok (.aload_n 0, 1) := by decide +kernel
theorem d_C_markNeeded_79 : decode b_C_markNeeded 79 = .ok (.getfield 34, 3) := by decide +kernel
theorem d_C_markNeeded_82 : decode b_C_markNeeded 82 = .ok (.aload_n 0, 1) := by decide +kernel
theorem d_C_markNeeded_83 : decode b_C_markNeeded 83 = .ok (.getfield 18, 3) := by decide +kernel
theorem d_C_markNeeded_86 : decode b_C_markNeeded 86 = .ok (.iload_n 1, 1) := by decide +kernel
theorem d_C_markNeeded_87 : decode b_C_markNeeded 87 = .ok (.iaload, 1) := by decide +kernel
theorem d_C_markNeeded_88 : decode b_C_markNeeded 88 = .ok (.iconst 1, 1) := by decide +kernel
theorem d_C_markNeeded_89 : decode b_C_markNeeded 89 = .ok (.bastore, 1) := by decide +kernel
theorem d_C_markNeeded_90 : decode b_C_markNeeded 90 = .ok (.iinc 1 (-1), 3) := by decide +kernel
theorem d_C_markNeeded_93 : decode b_C_markNeeded 93 = .ok (.goto (-50), 3) := by decide +kernel
theorem d_C_markNeeded_96 : decode b_C_markNeeded 96 = .ok (.return_, 1) := by decide +kernel
theorem d_C_resolves_0 : decode b_C_resolves 0 = .ok (.aload_n 0, 1) := by decide +kernel
theorem d_C_resolves_1 : decode b_C_resolves 1 = .ok (.getfield 24, 3) := by decide +kernel
theorem d_C_resolves_4 : decode b_C_resolves 4 = .ok (.iload_n 1, 1) := by decide +kernel
theorem d_C_resolves_5 : decode b_C_resolves 5 = .ok (.iaload, 1) := by decide +kernel
theorem d_C_resolves_6 : decode b_C_resolves 6 = .ok (.iload_n 3, 1) := by decide +kernel
theorem d_C_resolves_7 : decode b_C_resolves 7 = .ok (.invokestatic 81, 3) := by decide +kernel
theorem d_C_resolves_10 : decode b_C_resolves 10 = .ok (.iand, 1) := by decide +kernel
theorem d_C_resolves_11 : decode b_C_resolves 11 = .ok (.ifCond .eq 21, 3) := by decide +kernel
theorem d_C_resolves_14 : decode b_C_resolves 14 = .ok (.aload_n 0, 1) := by decide +kernel
theorem d_C_resolves_15 : decode b_C_resolves 15 = .ok (.getfield 27, 3) := by decide +kernel
theorem d_C_resolves_18 : decode b_C_resolves 18 = .ok (.iload_n 2, 1) := by decide +kernel
theorem d_C_resolves_19 : decode b_C_resolves 19 = .ok (.iaload, 1) := by decide +kernel
theorem d_C_resolves_20 : decode b_C_resolves 20 = .ok (.iload_n 3, 1) := by decide +kernel
theorem d_C_resolves_21 : decode b_C_resolves 21 = .ok (.invokestatic 81, 3) := by decide +kernel
theorem d_C_resolves_24 : decode b_C_resolves 24 = .ok (.iand, 1) := by decide +kernel
theorem d_C_resolves_25 : decode b_C_resolves 25 = .ok (.ifCond .eq 7, 3) := by decide +kernel
theorem d_C_resolves_28 : decode b_C_resolves 28 = .ok (.iconst 1, 1) := by decide +kernel
theorem d_C_resolves_29 : decode b_C_resolves 29 = .ok (.goto 4, 3) := by decide +kernel
theorem d_C_resolves_32 : decode b_C_resolves 32 = .ok (.iconst 0, 1) := by decide +kernel
theorem d_C_resolves_33 : decode b_C_resolves 33 = .ok (.ireturn, 1) := by decide +kernel
theorem d_C_clashes_0 : decode b_C_clashes 0 = .ok (.aload_n 0, 1) := by decide +kernel
theorem d_C_clashes_1 : decode b_C_clashes 1 = .ok (.iload_n 1, 1) := by decide +kernel
theorem d_C_clashes_2 : decode b_C_clashes 2 = .ok (.iload_n 2, 1) := by decide +kernel
theorem d_C_clashes_3 : decode b_C_clashes 3 = .ok (.iload_n 3, 1) := by decide +kernel
theorem d_C_clashes_4 : decode b_C_clashes 4 = .ok (.invokevirtual 65, 3) := by decide +kernel
theorem d_C_clashes_7 : decode b_C_clashes 7 = .ok (.aload_n 0, 1) := by decide +kernel
theorem d_C_clashes_8 : decode b_C_clashes 8 = .ok (.iload_n 1, 1) := by decide +kernel
theorem d_C_clashes_9 : decode b_C_clashes 9 = .ok (.iload_n 2, 1) := by decide +kernel
theorem d_C_clashes_10 : decode b_C_clashes 10 = .ok (.iload_n 3, 1) := by decide +kernel
theorem d_C_clashes_11 : decode b_C_clashes 11 = .ok (.invokevirtual 69, 3) := by decide +kernel
theorem d_C_clashes_14 : decode b_C_clashes 14 = .ok (.iand, 1) := by decide +kernel
theorem d_C_clashes_15 : decode b_C_clashes 15 = .ok (.ifCond .eq 7, 3) := by decide +kernel
theorem d_C_clashes_18 : decode b_C_clashes 18 = .ok (.iconst 1, 1) := by decide +kernel
theorem d_C_clashes_19 : decode b_C_clashes 19 = .ok (.goto 4, 3) := by decide +kernel
theorem d_C_clashes_22 : decode b_C_clashes 22 = .ok (.iconst 0, 1) := by decide +kernel
theorem d_C_clashes_23 : decode b_C_clashes 23 = .ok (.ireturn, 1) := by decide +kernel
theorem d_C_positiveRest_0 : decode b_C_positiveRest 0 = .ok (.aload_n 0, 1) := by decide +kernel
theorem d_C_positiveRest_1 : decode b_C_positiveRest 1 = .ok (.getfield 24, 3) := by decide +kernel
theorem d_C_positiveRest_4 : decode b_C_positiveRest 4 = .ok (.iload_n 1, 1) := by decide +kernel
theorem d_C_positiveRest_5 : decode b_C_positiveRest 5 = .ok (.iaload, 1) := by decide +kernel
theorem d_C_positiveRest_6 : decode b_C_positiveRest 6 = .ok (.aload_n 0, 1) := by decide +kernel
theorem d_C_positiveRest_7 : decode b_C_positiveRest 7 = .ok (.getfield 24, 3) := by decide +kernel
theorem d_C_positiveRest_10 : decode b_C_positiveRest 10 = .ok (.iload_n 2, 1) := by decide +kernel
theorem d_C_positiveRest_11 : decode b_C_positiveRest 11 = .ok (.iaload, 1) := by decide +kernel
theorem d_C_positiveRest_12 : decode b_C_positiveRest 12 = .ok (.ior, 1) := by decide +kernel
theorem d_C_positiveRest_13 : decode b_C_positiveRest 13 = .ok (.iload_n 3, 1) := by decide +kernel
theorem d_C_positiveRest_14 : decode b_C_positiveRest 14 = .ok (.invokestatic 81, 3) := by decide +kernel
theorem d_C_positiveRest_17 : decode b_C_positiveRest 17 = .ok (.iconst (-1), 1) := by decide +kernel
theorem d_C_positiveRest_18 : decode b_C_positiveRest 18 = .ok (.ixor, 1) := by decide +kernel
theorem d_C_positiveRest_19 : decode b_C_positiveRest 19 = .ok (.iand, 1) := by decide +kernel
theorem d_C_positiveRest_20 : decode b_C_positiveRest 20 = .ok (.ireturn, 1) := by decide +kernel
theorem d_C_negativeRest_0 : decode b_C_negativeRest 0 = .ok (.aload_n 0, 1) := by decide +kernel
theorem d_C_negativeRest_1 : decode b_C_negativeRest 1 = .ok (.getfield 27, 3) := by decide +kernel
theorem d_C_negativeRest_4 : decode b_C_negativeRest 4 = .ok (.iload_n 1, 1) := by decide +kernel
theorem d_C_negativeRest_5 : decode b_C_negativeRest 5 = .ok (.iaload, 1) := by decide +kernel
theorem d_C_negativeRest_6 : decode b_C_negativeRest 6 = .ok (.aload_n 0, 1) := by decide +kernel
theorem d_C_negativeRest_7 : decode b_C_negativeRest 7 = .ok (.getfield 27, 3) := by decide +kernel
theorem d_C_negativeRest_10 : decode b_C_negativeRest 10 = .ok (.iload_n 2, 1) := by decide +kernel
theorem d_C_negativeRest_11 : decode b_C_negativeRest 11 = .ok (.iaload, 1) := by decide +kernel
theorem d_C_negativeRest_12 : decode b_C_negativeRest 12 = .ok (.ior, 1) := by decide +kernel
theorem d_C_negativeRest_13 : decode b_C_negativeRest 13 = .ok (.iload_n 3, 1) := by decide +kernel
theorem d_C_negativeRest_14 : decode b_C_negativeRest 14 = .ok (.invokestatic 81, 3) := by decide +kernel
theorem d_C_negativeRest_17 : decode b_C_negativeRest 17 = .ok (.iconst (-1), 1) := by decide +kernel
theorem d_C_negativeRest_18 : decode b_C_negativeRest 18 = .ok (.ixor, 1) := by decide +kernel
theorem d_C_negativeRest_19 : decode b_C_negativeRest 19 = .ok (.iand, 1) := by decide +kernel
theorem d_C_negativeRest_20 : decode b_C_negativeRest 20 = .ok (.ireturn, 1) := by decide +kernel
theorem d_C_resolveAway_0 : decode b_C_resolveAway 0 = .ok (.aload_n 0, 1) := by decide +kernel
theorem d_C_resolveAway_1 : decode b_C_resolveAway 1 = .ok (.invokevirtual 85, 3) := by decide +kernel
theorem d_C_resolveAway_4 : decode b_C_resolveAway 4 = .ok (.iconst 1, 1) := by decide +kernel
theorem d_C_resolveAway_5 : decode b_C_resolveAway 5 = .ok (.istore_n 2, 1) := by decide +kernel
theorem d_C_resolveAway_6 : decode b_C_resolveAway 6 = .ok (.iload_n 2, 1) := by decide +kernel
theorem d_C_resolveAway_7 : decode b_C_resolveAway 7 = .ok (.aload_n 0, 1) := by decide +kernel
theorem d_C_resolveAway_8 : decode b_C_resolveAway 8 = .ok (.getfield 37, 3) := by decide +kernel
theorem d_C_resolveAway_11 : decode b_C_resolveAway 11 = .ok (.if_icmp .gt 80, 3) := by decide +kernel
theorem d_C_resolveAway_14 : decode b_C_resolveAway 14 = .ok (.iconst 1, 1) := by decide +kernel
theorem d_C_resolveAway_15 : decode b_C_resolveAway 15 = .ok (.istore_n 3, 1) := by decide +kernel
theorem d_C_resolveAway_16 : decode b_C_resolveAway 16 = .ok (.iload_n 3, 1) := by decide +kernel
theorem d_C_resolveAway_17 : decode b_C_resolveAway 17 = .ok (.aload_n 0, 1) := by decide +kernel
theorem d_C_resolveAway_18 : decode b_C_resolveAway 18 = .ok (.getfield 37, 3) := by decide +kernel
theorem d_C_resolveAway_21 : decode b_C_resolveAway 21 = .ok (.if_icmp .gt 64, 3) := by decide +kernel
theorem d_C_resolveAway_24 : decode b_C_resolveAway 24 = .ok (.aload_n 0, 1) := by decide +kernel
theorem d_C_resolveAway_25 : decode b_C_resolveAway 25 = .ok (.getfield 30, 3) := by decide +kernel
theorem d_C_resolveAway_28 : decode b_C_resolveAway 28 = .ok (.iload_n 2, 1) := by decide +kernel
theorem d_C_resolveAway_29 : decode b_C_resolveAway 29 = .ok (.baload, 1) := by decide +kernel
theorem d_C_resolveAway_30 : decode b_C_resolveAway 30 = .ok (.ifCond .eq 49, 3) := by decide +kernel
theorem d_C_resolveAway_33 : decode b_C_resolveAway 33 = .ok (.aload_n 0, 1) := by decide +kernel
theorem d_C_resolveAway_34 : decode b_C_resolveAway 34 = .ok (.getfield 30, 3) := by decide +kernel
theorem d_C_resolveAway_37 : decode b_C_resolveAway 37 = .ok (.iload_n 3, 1) := by decide +kernel
theorem d_C_resolveAway_38 : decode b_C_resolveAway 38 = .ok (.baload, 1) := by decide +kernel
theorem d_C_resolveAway_39 : decode b_C_resolveAway 39 = .ok (.ifCond .eq 40, 3) := by decide +kernel
theorem d_C_resolveAway_42 : decode b_C_resolveAway 42 = .ok (.aload_n 0, 1) := by decide +kernel
theorem d_C_resolveAway_43 : decode b_C_resolveAway 43 = .ok (.iload_n 2, 1) := by decide +kernel
theorem d_C_resolveAway_44 : decode b_C_resolveAway 44 = .ok (.iload_n 3, 1) := by decide +kernel
theorem d_C_resolveAway_45 : decode b_C_resolveAway 45 = .ok (.iload_n 1, 1) := by decide +kernel
theorem d_C_resolveAway_46 : decode b_C_resolveAway 46 = .ok (.invokevirtual 88, 3) := by decide +kernel
theorem d_C_resolveAway_49 : decode b_C_resolveAway 49 = .ok (.ifCond .eq 30, 3) := by decide +kernel
theorem d_C_resolveAway_52 : decode b_C_resolveAway 52 = .ok (.aload_n 0, 1) := by decide +kernel
theorem d_C_resolveAway_53 : decode b_C_resolveAway 53 = .ok (.iload_n 2, 1) := by decide +kernel
theorem d_C_resolveAway_54 : decode b_C_resolveAway 54 = .ok (.iload_n 3, 1) := by decide +kernel
theorem d_C_resolveAway_55 : decode b_C_resolveAway 55 = .ok (.iload_n 1, 1) := by decide +kernel
theorem d_C_resolveAway_56 : decode b_C_resolveAway 56 = .ok (.invokevirtual 92, 3) := by decide +kernel
theorem d_C_resolveAway_59 : decode b_C_resolveAway 59 = .ok (.ifCond .eq 20, 3) := by decide +kernel
theorem d_C_resolveAway_62 : decode b_C_resolveAway 62 = .ok (.aload_n 0, 1) := by decide +kernel
theorem d_C_resolveAway_63 : decode b_C_resolveAway 63 = .ok (.invokevirtual 50, 3) := by decide +kernel
theorem d_C_resolveAway_66 : decode b_C_resolveAway 66 = .ok (.ifCond .ne 6, 3) := by decide +kernel
theorem d_C_resolveAway_69 : decode b_C_resolveAway 69 = .ok (.bipush (-3), 2) := by decide +kernel
theorem d_C_resolveAway_71 : decode b_C_resolveAway 71 = .ok (.ireturn, 1) := by decide +kernel
theorem d_C_resolveAway_72 : decode b_C_resolveAway 72 = .ok (.aload_n 0, 1) := by decide +kernel
theorem d_C_resolveAway_73 : decode b_C_resolveAway 73 = .ok (.iload_n 2, 1) := by decide +kernel
theorem d_C_resolveAway_74 : decode b_C_resolveAway 74 = .ok (.iload_n 3, 1) := by decide +kernel
theorem d_C_resolveAway_75 : decode b_C_resolveAway 75 = .ok (.iload_n 1, 1) := by decide +kernel
theorem d_C_resolveAway_76 : decode b_C_resolveAway 76 = .ok (.invokevirtual 95, 3) := by decide +kernel
theorem d_C_resolveAway_79 : decode b_C_resolveAway 79 = .ok (.iinc 3 1, 3) := by decide +kernel
theorem d_C_resolveAway_82 : decode b_C_resolveAway 82 = .ok (.goto (-66), 3) := by decide +kernel
theorem d_C_resolveAway_85 : decode b_C_resolveAway 85 = .ok (.iinc 2 1, 3) := by decide +kernel
theorem d_C_resolveAway_88 : decode b_C_resolveAway 88 = .ok (.goto (-82), 3) := by decide +kernel
theorem d_C_resolveAway_91 : decode b_C_resolveAway 91 = .ok (.aload_n 0, 1) := by decide +kernel
theorem d_C_resolveAway_92 : decode b_C_resolveAway 92 = .ok (.iload_n 1, 1) := by decide +kernel
theorem d_C_resolveAway_93 : decode b_C_resolveAway 93 = .ok (.invokevirtual 99, 3) := by decide +kernel
theorem d_C_resolveAway_96 : decode b_C_resolveAway 96 = .ok (.aload_n 0, 1) := by decide +kernel
theorem d_C_resolveAway_97 : decode b_C_resolveAway 97 = .ok (.invokevirtual 103, 3) := by decide +kernel
theorem d_C_resolveAway_100 : decode b_C_resolveAway 100 = .ok (.ireturn, 1) := by decide +kernel
theorem d_C_isNews_0 : decode b_C_isNews 0 = .ok (.aload_n 0, 1) := by decide +kernel
theorem d_C_isNews_1 : decode b_C_isNews 1 = .ok (.iload_n 1, 1) := by decide +kernel
theorem d_C_isNews_2 : decode b_C_isNews 2 = .ok (.iload_n 2, 1) := by decide +kernel
theorem d_C_isNews_3 : decode b_C_isNews 3 = .ok (.iload_n 3, 1) := by decide +kernel
theorem d_C_isNews_4 : decode b_C_isNews 4 = .ok (.invokevirtual 107, 3) := by decide +kernel
theorem d_C_isNews_7 : decode b_C_isNews 7 = .ok (.ifCond .eq 5, 3) := by decide +kernel
theorem d_C_isNews_10 : decode b_C_isNews 10 = .ok (.iconst 0, 1) := by decide +kernel
theorem d_C_isNews_11 : decode b_C_isNews 11 = .ok (.ireturn, 1) := by decide +kernel
theorem d_C_isNews_12 : decode b_C_isNews 12 = .ok (.aload_n 0, 1) := by decide +kernel
theorem d_C_isNews_13 : decode b_C_isNews 13 = .ok (.iload_n 1, 1) := by decide +kernel
theorem d_C_isNews_14 : decode b_C_isNews 14 = .ok (.iload_n 2, 1) := by decide +kernel
theorem d_C_isNews_15 : decode b_C_isNews 15 = .ok (.iload_n 3, 1) := by decide +kernel
theorem d_C_isNews_16 : decode b_C_isNews 16 = .ok (.invokevirtual 65, 3) := by decide +kernel
theorem d_C_isNews_19 : decode b_C_isNews 19 = .ok (.istore 4, 2) := by decide +kernel
theorem d_C_isNews_21 : decode b_C_isNews 21 = .ok (.aload_n 0, 1) := by decide +kernel
theorem d_C_isNews_22 : decode b_C_isNews 22 = .ok (.iload_n 1, 1) := by decide +kernel
theorem d_C_isNews_23 : decode b_C_isNews 23 = .ok (.iload_n 2, 1) := by decide +kernel
theorem d_C_isNews_24 : decode b_C_isNews 24 = .ok (.iload_n 3, 1) := by decide +kernel
theorem d_C_isNews_25 : decode b_C_isNews 25 = .ok (.invokevirtual 69, 3) := by decide +kernel
theorem d_C_isNews_28 : decode b_C_isNews 28 = .ok (.istore 5, 2) := by decide +kernel
theorem d_C_isNews_30 : decode b_C_isNews 30 = .ok (.iconst 1, 1) := by decide +kernel
theorem d_C_isNews_31 : decode b_C_isNews 31 = .ok (.istore 6, 2) := by decide +kernel
theorem d_C_isNews_33 : decode b_C_isNews 33 = .ok (.iload 6, 2) := by decide +kernel
theorem d_C_isNews_35 : decode b_C_isNews 35 = .ok (.aload_n 0, 1) := by decide +kernel
theorem d_C_isNews_36 : decode b_C_isNews 36 = .ok (.getfield 41, 3) := by decide +kernel
theorem d_C_isNews_39 : decode b_C_isNews 39 = .ok (.if_icmp .gt 35, 3) := by decide +kernel
theorem d_C_isNews_42 : decode b_C_isNews 42 = .ok (.aload_n 0, 1) := by decide +kernel
theorem d_C_isNews_43 : decode b_C_isNews 43 = .ok (.getfield 24, 3) := by decide +kernel
theorem d_C_isNews_46 : decode b_C_isNews 46 = .ok (.iload 6, 2) := by decide +kernel
theorem d_C_isNews_48 : decode b_C_isNews 48 = .ok (.iaload, 1) := by decide +kernel
theorem d_C_isNews_49 : decode b_C_isNews 49 = .ok (.iload 4, 2) := by decide +kernel
theorem d_C_isNews_51 : decode b_C_isNews 51 = .ok (.if_icmp .ne 17, 3) := by decide +kernel
theorem d_C_isNews_54 : decode b_C_isNews 54 = .ok (.aload_n 0, 1) := by decide +kernel
theorem d_C_isNews_55 : decode b_C_isNews 55 = .ok (.getfield 27, 3) := by decide +kernel
theorem d_C_isNews_58 : decode b_C_isNews 58 = .ok (.iload 6, 2) := by decide +kernel
theorem d_C_isNews_60 : decode b_C_isNews 60 = .ok (.iaload, 1) := by decide +kernel
theorem d_C_isNews_61 : decode b_C_isNews 61 = .ok (.iload 5, 2) := by decide +kernel
theorem d_C_isNews_63 : decode b_C_isNews 63 = .ok (.if_icmp .ne 5, 3) := by decide +kernel
theorem d_C_isNews_66 : decode b_C_isNews 66 = .ok (.iconst 0, 1) := by decide +kernel
theorem d_C_isNews_67 : decode b_C_isNews 67 = .ok (.ireturn, 1) := by decide +kernel
theorem d_C_isNews_68 : decode b_C_isNews 68 = .ok (.iinc 6 1, 3) := by decide +kernel
theorem d_C_isNews_71 : decode b_C_isNews 71 = .ok (.goto (-38), 3) := by decide +kernel
theorem d_C_isNews_74 : decode b_C_isNews 74 = .ok (.iconst 1, 1) := by decide +kernel
theorem d_C_isNews_75 : decode b_C_isNews 75 = .ok (.ireturn, 1) := by decide +kernel
theorem d_C_retire_0 : decode b_C_retire 0 = .ok (.iconst 1, 1) := by decide +kernel
theorem d_C_retire_1 : decode b_C_retire 1 = .ok (.istore_n 2, 1) := by decide +kernel
theorem d_C_retire_2 : decode b_C_retire 2 = .ok (.iload_n 2, 1) := by decide +kernel
theorem d_C_retire_3 : decode b_C_retire 3 = .ok (.aload_n 0, 1) := by decide +kernel
theorem d_C_retire_4 : decode b_C_retire 4 = .ok (.getfield 37, 3) := by decide +kernel
theorem d_C_retire_7 : decode b_C_retire 7 = .ok (.if_icmp .gt 37, 3) := by decide +kernel
theorem d_C_retire_10 : decode b_C_retire 10 = .ok (.aload_n 0, 1) := by decide +kernel
theorem d_C_retire_11 : decode b_C_retire 11 = .ok (.getfield 24, 3) := by decide +kernel
theorem d_C_retire_14 : decode b_C_retire 14 = .ok (.iload_n 2, 1) := by decide +kernel
theorem d_C_retire_15 : decode b_C_retire 15 = .ok (.iaload, 1) := by decide +kernel
theorem d_C_retire_16 : decode b_C_retire 16 = .ok (.aload_n 0, 1) := by decide +kernel
theorem d_C_retire_17 : decode b_C_retire 17 = .ok (.getfield 27, 3) := by decide +kernel
theorem d_C_retire_20 : decode b_C_retire 20 = .ok (.iload_n 2, 1) := by decide +kernel
theorem d_C_retire_21 : decode b_C_retire 21 = .ok (.iaload, 1) := by decide +kernel
theorem d_C_retire_22 : decode b_C_retire 22 = .ok (.ior, 1) := by decide +kernel
theorem d_C_retire_23 : decode b_C_retire 23 = .ok (.iload_n 1, 1) := by decide +kernel
theorem d_C_retire_24 : decode b_C_retire 24 = .ok (.invokestatic 81, 3) := by decide +kernel
theorem d_C_retire_27 : decode b_C_retire 27 = .ok (.iand, 1) := by decide +kernel
theorem d_C_retire_28 : decode b_C_retire 28 = .ok (.ifCond .eq 10, 3) := by decide +kernel
theorem d_C_retire_31 : decode b_C_retire 31 = .ok (.aload_n 0, 1) := by decide +kernel
theorem d_C_retire_32 : decode b_C_retire 32 = .ok (.getfield 30, 3) := by decide +kernel
theorem d_C_retire_35 : decode b_C_retire 35 = .ok (.iload_n 2, 1) := by decide +kernel
theorem d_C_retire_36 : decode b_C_retire 36 = .ok (.iconst 0, 1) := by decide +kernel
theorem d_C_retire_37 : decode b_C_retire 37 = .ok (.bastore, 1) := by decide +kernel
theorem d_C_retire_38 : decode b_C_retire 38 = .ok (.iinc 2 1, 3) := by decide +kernel
theorem d_C_retire_41 : decode b_C_retire 41 = .ok (.goto (-39), 3) := by decide +kernel
theorem d_C_retire_44 : decode b_C_retire 44 = .ok (.return_, 1) := by decide +kernel
theorem d_C_isGivenOf_0 : decode b_C_isGivenOf 0 = .ok (.aload_n 0, 1) := by decide +kernel
theorem d_C_isGivenOf_1 : decode b_C_isGivenOf 1 = .ok (.getfield 9, 3) := by decide +kernel
theorem d_C_isGivenOf_4 : decode b_C_isGivenOf 4 = .ok (.iload_n 1, 1) := by decide +kernel
theorem d_C_isGivenOf_5 : decode b_C_isGivenOf 5 = .ok (.iaload, 1) := by decide +kernel
theorem d_C_isGivenOf_6 : decode b_C_isGivenOf 6 = .ok (.ifCond .eq 27, 3) := by decide +kernel
theorem d_C_isGivenOf_9 : decode b_C_isGivenOf 9 = .ok (.aload_n 0, 1) := by decide +kernel
theorem d_C_isGivenOf_10 : decode b_C_isGivenOf 10 = .ok (.getfield 9, 3) := by decide +kernel
theorem d_C_isGivenOf_13 : decode b_C_isGivenOf 13 = .ok (.iload_n 1, 1) := by decide +kernel
theorem d_C_isGivenOf_14 : decode b_C_isGivenOf 14 = .ok (.iaload, 1) := by decide +kernel
theorem d_C_isGivenOf_15 : decode b_C_isGivenOf 15 = .ok (.iload_n 2, 1) := by decide +kernel
theorem d_C_isGivenOf_16 : decode b_C_isGivenOf 16 = .ok (.if_icmp .lt 17, 3) := by decide +kernel
theorem d_C_isGivenOf_19 : decode b_C_isGivenOf 19 = .ok (.aload_n 0, 1) := by decide +kernel
theorem d_C_isGivenOf_20 : decode b_C_isGivenOf 20 = .ok (.getfield 9, 3) := by decide +kernel
theorem d_C_isGivenOf_23 : decode b_C_isGivenOf 23 = .ok (.iload_n 1, 1) := by decide +kernel
theorem d_C_isGivenOf_24 : decode b_C_isGivenOf 24 = .ok (.iaload, 1) := by decide +kernel
theorem d_C_isGivenOf_25 : decode b_C_isGivenOf 25 = .ok (.iload_n 3, 1) := by decide +kernel
theorem d_C_isGivenOf_26 : decode b_C_isGivenOf 26 = .ok (.if_icmp .gt 7, 3) := by decide +kernel
theorem d_C_isGivenOf_29 : decode b_C_isGivenOf 29 = .ok (.iconst 1, 1) := by decide +kernel
theorem d_C_isGivenOf_30 : decode b_C_isGivenOf 30 = .ok (.goto 4, 3) := by decide +kernel
theorem d_C_isGivenOf_33 : decode b_C_isGivenOf 33 = .ok (.iconst 0, 1) := by decide +kernel
theorem d_C_isGivenOf_34 : decode b_C_isGivenOf 34 = .ok (.ireturn, 1) := by decide +kernel
theorem d_C_occurring_0 : decode b_C_occurring 0 = .ok (.iconst 0, 1) := by decide +kernel
theorem d_C_occurring_1 : decode b_C_occurring 1 = .ok (.istore_n 3, 1) := by decide +kernel
theorem d_C_occurring_2 : decode b_C_occurring 2 = .ok (.iconst 1, 1) := by decide +kernel
theorem d_C_occurring_3 : decode b_C_occurring 3 = .ok (.istore 4, 2) := by decide +kernel
theorem d_C_occurring_5 : decode b_C_occurring 5 = .ok (.iload 4, 2) := by decide +kernel
theorem d_C_occurring_7 : decode b_C_occurring 7 = .ok (.aload_n 0, 1) := by decide +kernel
theorem d_C_occurring_8 : decode b_C_occurring 8 = .ok (.getfield 37, 3) := by decide +kernel
theorem d_C_occurring_11 : decode b_C_occurring 11 = .ok (.if_icmp .gt 38, 3) := by decide +kernel
theorem d_C_occurring_14 : decode b_C_occurring 14 = .ok (.aload_n 0, 1) := by decide +kernel
theorem d_C_occurring_15 : decode b_C_occurring 15 = .ok (.iload 4, 2) := by decide +kernel
theorem d_C_occurring_17 : decode b_C_occurring 17 = .ok (.iload_n 1, 1) := by decide +kernel
theorem d_C_occurring_18 : decode b_C_occurring 18 = .ok (.iload_n 2, 1) := by decide +kernel
theorem d_C_occurring_19 : decode b_C_occurring 19 = .ok (.invokevirtual 110, 3) := by decide +kernel
theorem d_C_occurring_22 : decode b_C_occurring 22 = .ok (.ifCond .eq 21, 3) := by decide +kernel
theorem d_C_occurring_25 : decode b_C_occurring 25 = .ok (.iload_n 3, 1) := by decide +kernel
theorem d_C_occurring_26 : decode b_C_occurring 26 = .ok (.aload_n 0, 1) := by decide +kernel
theorem d_C_occurring_27 : decode b_C_occurring 27 = .ok (.getfield 24, 3) := by decide +kernel
theorem d_C_occurring_30 : decode b_C_occurring 30 = .ok (.iload 4, 2) := by decide +kernel
theorem d_C_occurring_32 : decode b_C_occurring 32 = .ok (.iaload, 1) := by decide +kernel
theorem d_C_occurring_33 : decode b_C_occurring 33 = .ok (.aload_n 0, 1) := by decide +kernel
theorem d_C_occurring_34 : decode b_C_occurring 34 = .ok (.getfield 27, 3) := by decide +kernel
theorem d_C_occurring_37 : decode b_C_occurring 37 = .ok (.iload 4, 2) := by decide +kernel
theorem d_C_occurring_39 : decode b_C_occurring 39 = .ok (.iaload, 1) := by decide +kernel
theorem d_C_occurring_40 : decode b_C_occurring 40 = .ok (.ior, 1) := by decide +kernel
theorem d_C_occurring_41 : decode b_C_occurring 41 = .ok (.ior, 1) := by decide +kernel
theorem d_C_occurring_42 : decode b_C_occurring 42 = .ok (.istore_n 3, 1) := by decide +kernel
theorem d_C_occurring_43 : decode b_C_occurring 43 = .ok (.iinc 4 1, 3) := by decide +kernel
theorem d_C_occurring_46 : decode b_C_occurring 46 = .ok (.goto (-41), 3) := by decide +kernel
theorem d_C_occurring_49 : decode b_C_occurring 49 = .ok (.iload_n 3, 1) := by decide +kernel
theorem d_C_occurring_50 : decode b_C_occurring 50 = .ok (.ireturn, 1) := by decide +kernel
theorem d_C_allTrue_0 : decode b_C_allTrue 0 = .ok (.ldc2_w 113, 3) := by decide +kernel
theorem d_C_allTrue_3 : decode b_C_allTrue 3 = .ok (.lstore 4, 2) := by decide +kernel
theorem d_C_allTrue_5 : decode b_C_allTrue 5 = .ok (.iconst 1, 1) := by decide +kernel
theorem d_C_allTrue_6 : decode b_C_allTrue 6 = .ok (.istore 6, 2) := by decide +kernel
theorem d_C_allTrue_8 : decode b_C_allTrue 8 = .ok (.iload 6, 2) := by decide +kernel
theorem d_C_allTrue_10 : decode b_C_allTrue 10 = .ok (.aload_n 0, 1) := by decide +kernel
theorem d_C_allTrue_11 : decode b_C_allTrue 11 = .ok (.getfield 37, 3) := by decide +kernel
theorem d_C_allTrue_14 : decode b_C_allTrue 14 = .ok (.if_icmp .gt 43, 3) := by decide +kernel
theorem d_C_allTrue_17 : decode b_C_allTrue 17 = .ok (.aload_n 0, 1) := by decide +kernel
theorem d_C_allTrue_18 : decode b_C_allTrue 18 = .ok (.iload 6, 2) := by decide +kernel
theorem d_C_allTrue_20 : decode b_C_allTrue 20 = .ok (.iload_n 1, 1) := by decide +kernel
theorem d_C_allTrue_21 : decode b_C_allTrue 21 = .ok (.iload_n 2, 1) := by decide +kernel
theorem d_C_allTrue_22 : decode b_C_allTrue 22 = .ok (.invokevirtual 110, 3) := by decide +kernel
theorem d_C_allTrue_25 : decode b_C_allTrue 25 = .ok (.ifCond .eq 26, 3) := by decide +kernel
theorem d_C_allTrue_28 : decode b_C_allTrue 28 = .ok (.lload 4, 2) := by decide +kernel
theorem d_C_allTrue_30 : decode b_C_allTrue 30 = .ok (.aload_n 0, 1) := by decide +kernel
theorem d_C_allTrue_31 : decode b_C_allTrue 31 = .ok (.getfield 24, 3) := by decide +kernel
theorem d_C_allTrue_34 : decode b_C_allTrue 34 = .ok (.iload 6, 2) := by decide +kernel
theorem d_C_allTrue_36 : decode b_C_allTrue 36 = .ok (.iaload, 1) := by decide +kernel
theorem d_C_allTrue_37 : decode b_C_allTrue 37 = .ok (.aload_n 0, 1) := by decide +kernel
theorem d_C_allTrue_38 : decode b_C_allTrue 38 = .ok (.getfield 27, 3) := by decide +kernel
theorem d_C_allTrue_41 : decode b_C_allTrue 41 = .ok (.iload 6, 2) := by decide +kernel
theorem d_C_allTrue_43 : decode b_C_allTrue 43 = .ok (.iaload, 1) := by decide +kernel
theorem d_C_allTrue_44 : decode b_C_allTrue 44 = .ok (.iload_n 3, 1) := by decide +kernel
theorem d_C_allTrue_45 : decode b_C_allTrue 45 = .ok (.invokestatic 115, 3) := by decide +kernel
theorem d_C_allTrue_48 : decode b_C_allTrue 48 = .ok (.land, 1) := by decide +kernel
theorem d_C_allTrue_49 : decode b_C_allTrue 49 = .ok (.lstore 4, 2) := by decide +kernel
theorem d_C_allTrue_51 : decode b_C_allTrue 51 = .ok (.iinc 6 1, 3) := by decide +kernel
theorem d_C_allTrue_54 : decode b_C_allTrue 54 = .ok (.goto (-46), 3) := by decide +kernel
theorem d_C_allTrue_57 : decode b_C_allTrue 57 = .ok (.lload 4, 2) := by decide +kernel
theorem d_C_allTrue_59 : decode b_C_allTrue 59 = .ok (.lreturn, 1) := by decide +kernel
theorem d_C_liveOnes_0 : decode b_C_liveOnes 0 = .ok (.iconst 0, 1) := by decide +kernel
theorem d_C_liveOnes_1 : decode b_C_liveOnes 1 = .ok (.istore_n 1, 1) := by decide +kernel
theorem d_C_liveOnes_2 : decode b_C_liveOnes 2 = .ok (.iconst 1, 1) := by decide +kernel
theorem d_C_liveOnes_3 : decode b_C_liveOnes 3 = .ok (.istore_n 2, 1) := by decide +kernel
theorem d_C_liveOnes_4 : decode b_C_liveOnes 4 = .ok (.iload_n 2, 1) := by decide +kernel
theorem d_C_liveOnes_5 : decode b_C_liveOnes 5 = .ok (.aload_n 0, 1) := by decide +kernel
theorem d_C_liveOnes_6 : decode b_C_liveOnes 6 = .ok (.getfield 37, 3) := by decide +kernel
theorem d_C_liveOnes_9 : decode b_C_liveOnes 9 = .ok (.if_icmp .gt 26, 3) := by decide +kernel
theorem d_C_liveOnes_12 : decode b_C_liveOnes 12 = .ok (.iload_n 1, 1) := by decide +kernel
theorem d_C_liveOnes_13 : decode b_C_liveOnes 13 = .ok (.aload_n 0, 1) := by decide +kernel
theorem d_C_liveOnes_14 : decode b_C_liveOnes 14 = .ok (.getfield 30, 3) := by decide +kernel
theorem d_C_liveOnes_17 : decode b_C_liveOnes 17 = .ok (.iload_n 2, 1) := by decide +kernel
theorem d_C_liveOnes_18 : decode b_C_liveOnes 18 = .ok (.baload, 1) := by decide +kernel
theorem d_C_liveOnes_19 : decode b_C_liveOnes 19 = .ok (.ifCond .eq 7, 3) := by decide +kernel
theorem d_C_liveOnes_22 : decode b_C_liveOnes 22 = .ok (.iconst 1, 1) := by decide +kernel
theorem d_C_liveOnes_23 : decode b_C_liveOnes 23 = .ok (.goto 4, 3) := by decide +kernel
theorem d_C_liveOnes_26 : decode b_C_liveOnes 26 = .ok (.iconst 0, 1) := by decide +kernel
theorem d_C_liveOnes_27 : decode b_C_liveOnes 27 = .ok (.iadd, 1) := by decide +kernel
theorem d_C_liveOnes_28 : decode b_C_liveOnes 28 = .ok (.istore_n 1, 1) := by decide +kernel
theorem d_C_liveOnes_29 : decode b_C_liveOnes 29 = .ok (.iinc 2 1, 3) := by decide +kernel
theorem d_C_liveOnes_32 : decode b_C_liveOnes 32 = .ok (.goto (-28), 3) := by decide +kernel
theorem d_C_liveOnes_35 : decode b_C_liveOnes 35 = .ok (.iload_n 1, 1) := by decide +kernel
theorem d_C_liveOnes_36 : decode b_C_liveOnes 36 = .ok (.ireturn, 1) := by decide +kernel
theorem d_C_neededOnes_0 : decode b_C_neededOnes 0 = .ok (.iconst 0, 1) := by decide +kernel
theorem d_C_neededOnes_1 : decode b_C_neededOnes 1 = .ok (.istore_n 1, 1) := by decide +kernel
theorem d_C_neededOnes_2 : decode b_C_neededOnes 2 = .ok (.iconst 1, 1) := by decide +kernel
theorem d_C_neededOnes_3 : decode b_C_neededOnes 3 = .ok (.istore_n 2, 1) := by decide +kernel
theorem d_C_neededOnes_4 : decode b_C_neededOnes 4 = .ok (.iload_n 2, 1) := by decide +kernel
theorem d_C_neededOnes_5 : decode b_C_neededOnes 5 = .ok (.aload_n 0, 1) := by decide +kernel
theorem d_C_neededOnes_6 : decode b_C_neededOnes 6 = .ok (.getfield 78, 3) := by decide +kernel
theorem d_C_neededOnes_9 : decode b_C_neededOnes 9 = .ok (.if_icmp .gt 26, 3) := by decide +kernel
theorem d_C_neededOnes_12 : decode b_C_neededOnes 12 = .ok (.iload_n 1, 1) := by decide +kernel
theorem d_C_neededOnes_13 : decode b_C_neededOnes 13 = .ok (.aload_n 0, 1) := by decide +kernel
theorem d_C_neededOnes_14 : decode b_C_neededOnes 14 = .ok (.getfield 34, 3) := by decide +kernel
theorem d_C_neededOnes_17 : decode b_C_neededOnes 17 = .ok (.iload_n 2, 1) := by decide +kernel
theorem d_C_neededOnes_18 : decode b_C_neededOnes 18 = .ok (.baload, 1) := by decide +kernel
theorem d_C_neededOnes_19 : decode b_C_neededOnes 19 = .ok (.ifCond .eq 7, 3) := by decide +kernel
theorem d_C_neededOnes_22 : decode b_C_neededOnes 22 = .ok (.iconst 1, 1) := by decide +kernel
theorem d_C_neededOnes_23 : decode b_C_neededOnes 23 = .ok (.goto 4, 3) := by decide +kernel
theorem d_C_neededOnes_26 : decode b_C_neededOnes 26 = .ok (.iconst 0, 1) := by decide +kernel
theorem d_C_neededOnes_27 : decode b_C_neededOnes 27 = .ok (.iadd, 1) := by decide +kernel
theorem d_C_neededOnes_28 : decode b_C_neededOnes 28 = .ok (.istore_n 1, 1) := by decide +kernel
theorem d_C_neededOnes_29 : decode b_C_neededOnes 29 = .ok (.iinc 2 1, 3) := by decide +kernel
theorem d_C_neededOnes_32 : decode b_C_neededOnes 32 = .ok (.goto (-28), 3) := by decide +kernel
theorem d_C_neededOnes_35 : decode b_C_neededOnes 35 = .ok (.iload_n 1, 1) := by decide +kernel
theorem d_C_neededOnes_36 : decode b_C_neededOnes 36 = .ok (.ireturn, 1) := by decide +kernel
theorem d_L_init_0 : decode b_L_init 0 = .ok (.aload_n 0, 1) := by decide +kernel
theorem d_L_init_1 : decode b_L_init 1 = .ok (.invokespecial 3, 3) := by decide +kernel
theorem d_L_init_4 : decode b_L_init 4 = .ok (.aload_n 0, 1) := by decide +kernel
theorem d_L_init_5 : decode b_L_init 5 = .ok (.bipush 11, 2) := by decide +kernel
theorem d_L_init_7 : decode b_L_init 7 = .ok (.newarray .int, 2) := by decide +kernel
theorem d_L_init_9 : decode b_L_init 9 = .ok (.putfield 9, 3) := by decide +kernel
theorem d_L_init_12 : decode b_L_init 12 = .ok (.aload_n 0, 1) := by decide +kernel
theorem d_L_init_13 : decode b_L_init 13 = .ok (.getfield 9, 3) := by decide +kernel
theorem d_L_init_16 : decode b_L_init 16 = .ok (.iconst 2, 1) := by decide +kernel
theorem d_L_init_17 : decode b_L_init 17 = .ok (.invokestatic 15, 3) := by decide +kernel
theorem d_L_init_20 : decode b_L_init 20 = .ok (.return_, 1) := by decide +kernel
theorem d_L_reset_0 : decode b_L_reset 0 = .ok (.aload_n 0, 1) := by decide +kernel
theorem d_L_reset_1 : decode b_L_reset 1 = .ok (.getfield 9, 3) := by decide +kernel
theorem d_L_reset_4 : decode b_L_reset 4 = .ok (.iconst 2, 1) := by decide +kernel
theorem d_L_reset_5 : decode b_L_reset 5 = .ok (.invokestatic 15, 3) := by decide +kernel
theorem d_L_reset_8 : decode b_L_reset 8 = .ok (.return_, 1) := by decide +kernel
theorem d_L_exchange_0 : decode b_L_exchange 0 = .ok (.aload_n 0, 1) := by decide +kernel
theorem d_L_exchange_1 : decode b_L_exchange 1 = .ok (.getfield 9, 3) := by decide +kernel
theorem d_L_exchange_4 : decode b_L_exchange 4 = .ok (.iload_n 1, 1) := by decide +kernel
theorem d_L_exchange_5 : decode b_L_exchange 5 = .ok (.iaload, 1) := by decide +kernel
theorem d_L_exchange_6 : decode b_L_exchange 6 = .ok (.istore_n 3, 1) := by decide +kernel
theorem d_L_exchange_7 : decode b_L_exchange 7 = .ok (.aload_n 0, 1) := by decide +kernel
theorem d_L_exchange_8 : decode b_L_exchange 8 = .ok (.getfield 9, 3) := by decide +kernel
theorem d_L_exchange_11 : decode b_L_exchange 11 = .ok (.iload_n 1, 1) := by decide +kernel
theorem d_L_exchange_12 : decode b_L_exchange 12 = .ok (.iload_n 2, 1) := by decide +kernel
theorem d_L_exchange_13 : decode b_L_exchange 13 = .ok (.iastore, 1) := by decide +kernel
theorem d_L_exchange_14 : decode b_L_exchange 14 = .ok (.iload_n 3, 1) := by decide +kernel
theorem d_L_exchange_15 : decode b_L_exchange 15 = .ok (.ireturn, 1) := by decide +kernel
theorem d_L_having_0 : decode b_L_having 0 = .ok (.iconst 0, 1) := by decide +kernel
theorem d_L_having_1 : decode b_L_having 1 = .ok (.istore_n 2, 1) := by decide +kernel
theorem d_L_having_2 : decode b_L_having 2 = .ok (.iconst 1, 1) := by decide +kernel
theorem d_L_having_3 : decode b_L_having 3 = .ok (.istore_n 3, 1) := by decide +kernel
theorem d_L_having_4 : decode b_L_having 4 = .ok (.iload_n 3, 1) := by decide +kernel
theorem d_L_having_5 : decode b_L_having 5 = .ok (.bipush 10, 2) := by decide +kernel
theorem d_L_having_7 : decode b_L_having 7 = .ok (.if_icmp .gt 26, 3) := by decide +kernel
theorem d_L_having_10 : decode b_L_having 10 = .ok (.aload_n 0, 1) := by decide +kernel
theorem d_L_having_11 : decode b_L_having 11 = .ok (.getfield 9, 3) := by decide +kernel
theorem d_L_having_14 : decode b_L_having 14 = .ok (.iload_n 3, 1) := by decide +kernel
theorem d_L_having_15 : decode b_L_having 15 = .ok (.iaload, 1) := by decide +kernel
theorem d_L_having_16 : decode b_L_having 16 = .ok (.iload_n 1, 1) := by decide +kernel
theorem d_L_having_17 : decode b_L_having 17 = .ok (.if_icmp .ne 10, 3) := by decide +kernel
theorem d_L_having_20 : decode b_L_having 20 = .ok (.iload_n 2, 1) := by decide +kernel
theorem d_L_having_21 : decode b_L_having 21 = .ok (.iload_n 3, 1) := by decide +kernel
theorem d_L_having_22 : decode b_L_having 22 = .ok (.invokestatic 21, 3) := by decide +kernel
theorem d_L_having_25 : decode b_L_having 25 = .ok (.ior, 1) := by decide +kernel
theorem d_L_having_26 : decode b_L_having 26 = .ok (.istore_n 2, 1) := by decide +kernel
theorem d_L_having_27 : decode b_L_having 27 = .ok (.iinc 3 1, 3) := by decide +kernel
theorem d_L_having_30 : decode b_L_having 30 = .ok (.goto (-26), 3) := by decide +kernel
theorem d_L_having_33 : decode b_L_having 33 = .ok (.iload_n 2, 1) := by decide +kernel
theorem d_L_having_34 : decode b_L_having 34 = .ok (.ireturn, 1) := by decide +kernel
theorem d_T_init_0 : decode b_T_init 0 = .ok (.aload_n 0, 1) := by decide +kernel
theorem d_T_init_1 : decode b_T_init 1 = .ok (.invokespecial 3, 3) := by decide +kernel
theorem d_T_init_4 : decode b_T_init 4 = .ok (.aload_n 0, 1) := by decide +kernel
theorem d_T_init_5 : decode b_T_init 5 = .ok (.sipush 2000, 3) := by decide +kernel
theorem d_T_init_8 : decode b_T_init 8 = .ok (.newarray .byte, 2) := by decide +kernel
theorem d_T_init_10 : decode b_T_init 10 = .ok (.putfield 9, 3) := by decide +kernel
theorem d_T_init_13 : decode b_T_init 13 = .ok (.return_, 1) := by decide +kernel
theorem d_T_append_0 : decode b_T_append 0 = .ok (.bipush 24, 2) := by decide +kernel
theorem d_T_append_2 : decode b_T_append 2 = .ok (.istore_n 2, 1) := by decide +kernel
theorem d_T_append_3 : decode b_T_append 3 = .ok (.iload_n 2, 1) := by decide +kernel
theorem d_T_append_4 : decode b_T_append 4 = .ok (.ifCond .lt 49, 3) := by decide +kernel
theorem d_T_append_7 : decode b_T_append 7 = .ok (.aload_n 0, 1) := by decide +kernel
theorem d_T_append_8 : decode b_T_append 8 = .ok (.getfield 15, 3) := by decide +kernel
theorem d_T_append_11 : decode b_T_append 11 = .ok (.ifCond .lt 36, 3) := by decide +kernel
theorem d_T_append_14 : decode b_T_append 14 = .ok (.aload_n 0, 1) := by decide +kernel
theorem d_T_append_15 : decode b_T_append 15 = .ok (.getfield 15, 3) := by decide +kernel
theorem d_T_append_18 : decode b_T_append 18 = .ok (.sipush 2000, 3) := by decide +kernel
theorem d_T_append_21 : decode b_T_append 21 = .ok (.if_icmp .ge 26, 3) := by decide +kernel
theorem d_T_append_24 : decode b_T_append 24 = .ok (.aload_n 0, 1) := by decide +kernel
theorem d_T_append_25 : decode b_T_append 25 = .ok (.getfield 9, 3) := by decide +kernel
theorem d_T_append_28 : decode b_T_append 28 = .ok (.aload_n 0, 1) := by decide +kernel
theorem d_T_append_29 : decode b_T_append 29 = .ok (.getfield 15, 3) := by decide +kernel
theorem d_T_append_32 : decode b_T_append 32 = .ok (.iload_n 1, 1) := by decide +kernel
theorem d_T_append_33 : decode b_T_append 33 = .ok (.iload_n 2, 1) := by decide +kernel
theorem d_T_append_34 : decode b_T_append 34 = .ok (.iushr, 1) := by decide +kernel
theorem d_T_append_35 : decode b_T_append 35 = .ok (.i2b, 1) := by decide +kernel
theorem d_T_append_36 : decode b_T_append 36 = .ok (.bastore, 1) := by decide +kernel
theorem d_T_append_37 : decode b_T_append 37 = .ok (.aload_n 0, 1) := by decide +kernel
theorem d_T_append_38 : decode b_T_append 38 = .ok (.dup, 1) := by decide +kernel
theorem d_T_append_39 : decode b_T_append 39 = .ok (.getfield 15, 3) := by decide +kernel
theorem d_T_append_42 : decode b_T_append 42 = .ok (.iconst 1, 1) := by decide +kernel
theorem d_T_append_43 : decode b_T_append 43 = .ok (.iadd, 1) := by decide +kernel
theorem d_T_append_44 : decode b_T_append 44 = .ok (.putfield 15, 3) := by decide +kernel
theorem d_T_append_47 : decode b_T_append 47 = .ok (.iinc 2 (-8), 3) := by decide +kernel
theorem d_T_append_50 : decode b_T_append 50 = .ok (.goto (-47), 3) := by decide +kernel
theorem d_T_append_53 : decode b_T_append 53 = .ok (.return_, 1) := by decide +kernel
theorem d_T_byteAt_0 : decode b_T_byteAt 0 = .ok (.iload_n 1, 1) := by decide +kernel
theorem d_T_byteAt_1 : decode b_T_byteAt 1 = .ok (.ifCond .lt 31, 3) := by decide +kernel
theorem d_T_byteAt_4 : decode b_T_byteAt 4 = .ok (.iload_n 1, 1) := by decide +kernel
theorem d_T_byteAt_5 : decode b_T_byteAt 5 = .ok (.aload_n 0, 1) := by decide +kernel
theorem d_T_byteAt_6 : decode b_T_byteAt 6 = .ok (.getfield 15, 3) := by decide +kernel
theorem d_T_byteAt_9 : decode b_T_byteAt 9 = .ok (.if_icmp .ge 23, 3) := by decide +kernel
theorem d_T_byteAt_12 : decode b_T_byteAt 12 = .ok (.iload_n 1, 1) := by decide +kernel
theorem d_T_byteAt_13 : decode b_T_byteAt 13 = .ok (.sipush 2000, 3) := by decide +kernel
theorem d_T_byteAt_16 : decode b_T_byteAt 16 = .ok (.if_icmp .ge 16, 3) := by decide +kernel
theorem d_T_byteAt_19 : decode b_T_byteAt 19 = .ok (.aload_n 0, 1) := by decide +kernel
theorem d_T_byteAt_20 : decode b_T_byteAt 20 = .ok (.getfield 9, 3) := by decide +kernel
theorem d_T_byteAt_23 : decode b_T_byteAt 23 = .ok (.iload_n 1, 1) := by decide +kernel
theorem d_T_byteAt_24 : decode b_T_byteAt 24 = .ok (.baload, 1) := by decide +kernel
theorem d_T_byteAt_25 : decode b_T_byteAt 25 = .ok (.sipush 255, 3) := by decide +kernel
theorem d_T_byteAt_28 : decode b_T_byteAt 28 = .ok (.iand, 1) := by decide +kernel
theorem d_T_byteAt_29 : decode b_T_byteAt 29 = .ok (.goto 4, 3) := by decide +kernel
theorem d_T_byteAt_32 : decode b_T_byteAt 32 = .ok (.iconst (-1), 1) := by decide +kernel
theorem d_T_byteAt_33 : decode b_T_byteAt 33 = .ok (.ireturn, 1) := by decide +kernel
theorem d_U_ofVariable_0 : decode b_U_ofVariable 0 = .ok (.iload_n 0, 1) := by decide +kernel
theorem d_U_ofVariable_1 : decode b_U_ofVariable 1 = .ok (.iconst 1, 1) := by decide +kernel
theorem d_U_ofVariable_2 : decode b_U_ofVariable 2 = .ok (.if_icmp .lt 17, 3) := by decide +kernel
theorem d_U_ofVariable_5 : decode b_U_ofVariable 5 = .ok (.iload_n 0, 1) := by decide +kernel
theorem d_U_ofVariable_6 : decode b_U_ofVariable 6 = .ok (.bipush 6, 2) := by decide +kernel
theorem d_U_ofVariable_8 : decode b_U_ofVariable 8 = .ok (.if_icmp .gt 11, 3) := by decide +kernel
theorem d_U_ofVariable_11 : decode b_U_ofVariable 11 = .ok (.getstatic 11, 3) := by decide +kernel
theorem d_U_ofVariable_14 : decode b_U_ofVariable 14 = .ok (.iload_n 0, 1) := by decide +kernel
theorem d_U_ofVariable_15 : decode b_U_ofVariable 15 = .ok (.iconst 1, 1) := by decide +kernel
theorem d_U_ofVariable_16 : decode b_U_ofVariable 16 = .ok (.isub, 1) := by decide +kernel
theorem d_U_ofVariable_17 : decode b_U_ofVariable 17 = .ok (.laload, 1) := by decide +kernel
theorem d_U_ofVariable_18 : decode b_U_ofVariable 18 = .ok (.lreturn, 1) := by decide +kernel
theorem d_U_ofVariable_19 : decode b_U_ofVariable 19 = .ok (.iload_n 1, 1) := by decide +kernel
theorem d_U_ofVariable_20 : decode b_U_ofVariable 20 = .ok (.iload_n 0, 1) := by decide +kernel
theorem d_U_ofVariable_21 : decode b_U_ofVariable 21 = .ok (.iconst 1, 1) := by decide +kernel
theorem d_U_ofVariable_22 : decode b_U_ofVariable 22 = .ok (.isub, 1) := by decide +kernel
theorem d_U_ofVariable_23 : decode b_U_ofVariable 23 = .ok (.bipush 6, 2) := by decide +kernel
theorem d_U_ofVariable_25 : decode b_U_ofVariable 25 = .ok (.isub, 1) := by decide +kernel
theorem d_U_ofVariable_26 : decode b_U_ofVariable 26 = .ok (.ishr, 1) := by decide +kernel
theorem d_U_ofVariable_27 : decode b_U_ofVariable 27 = .ok (.iconst 1, 1) := by decide +kernel
theorem d_U_ofVariable_28 : decode b_U_ofVariable 28 = .ok (.iand, 1) := by decide +kernel
theorem d_U_ofVariable_29 : decode b_U_ofVariable 29 = .ok (.ifCond .ne 7, 3) := by decide +kernel
theorem d_U_ofVariable_32 : decode b_U_ofVariable 32 = .ok (.lconst 0, 1) := by decide +kernel
theorem d_U_ofVariable_33 : decode b_U_ofVariable 33 = .ok (.goto 6, 3) := by decide +kernel
theorem d_U_ofVariable_36 : decode b_U_ofVariable 36 = .ok (.ldc2_w 15, 3) := by decide +kernel
theorem d_U_ofVariable_39 : decode b_U_ofVariable 39 = .ok (.lreturn, 1) := by decide +kernel
theorem d_U_ofAny_0 : decode b_U_ofAny 0 = .ok (.lconst 0, 1) := by decide +kernel
theorem d_U_ofAny_1 : decode b_U_ofAny 1 = .ok (.lstore_n 3, 1) := by decide +kernel
theorem d_U_ofAny_2 : decode b_U_ofAny 2 = .ok (.iconst 1, 1) := by decide +kernel
theorem d_U_ofAny_3 : decode b_U_ofAny 3 = .ok (.istore 5, 2) := by decide +kernel
theorem d_U_ofAny_5 : decode b_U_ofAny 5 = .ok (.iload 5, 2) := by decide +kernel
theorem d_U_ofAny_7 : decode b_U_ofAny 7 = .ok (.bipush 10, 2) := by decide +kernel
theorem d_U_ofAny_9 : decode b_U_ofAny 9 = .ok (.if_icmp .gt 51, 3) := by decide +kernel
theorem d_U_ofAny_12 : decode b_U_ofAny 12 = .ok (.iload_n 0, 1) := by decide +kernel
theorem d_U_ofAny_13 : decode b_U_ofAny 13 = .ok (.iload 5, 2) := by decide +kernel
theorem d_U_ofAny_15 : decode b_U_ofAny 15 = .ok (.invokestatic 17, 3) := by decide +kernel
theorem d_U_ofAny_18 : decode b_U_ofAny 18 = .ok (.iand, 1) := by decide +kernel
theorem d_U_ofAny_19 : decode b_U_ofAny 19 = .ok (.ifCond .eq 12, 3) := by decide +kernel
theorem d_U_ofAny_22 : decode b_U_ofAny 22 = .ok (.lload_n 3, 1) := by decide +kernel
theorem d_U_ofAny_23 : decode b_U_ofAny 23 = .ok (.iload 5, 2) := by decide +kernel
theorem d_U_ofAny_25 : decode b_U_ofAny 25 = .ok (.iload_n 2, 1) := by decide +kernel
theorem d_U_ofAny_26 : decode b_U_ofAny 26 = .ok (.invokestatic 21, 3) := by decide +kernel
theorem d_U_ofAny_29 : decode b_U_ofAny 29 = .ok (.lor, 1) := by decide +kernel
theorem d_U_ofAny_30 : decode b_U_ofAny 30 = .ok (.lstore_n 3, 1) := by decide +kernel
theorem d_U_ofAny_31 : decode b_U_ofAny 31 = .ok (.iload_n 1, 1) := by decide +kernel
theorem d_U_ofAny_32 : decode b_U_ofAny 32 = .ok (.iload 5, 2) := by decide +kernel
theorem d_U_ofAny_34 : decode b_U_ofAny 34 = .ok (.invokestatic 17, 3) := by decide +kernel
theorem d_U_ofAny_37 : decode b_U_ofAny 37 = .ok (.iand, 1) := by decide +kernel
theorem d_U_ofAny_38 : decode b_U_ofAny 38 = .ok (.ifCond .eq 16, 3) := by decide +kernel
theorem d_U_ofAny_41 : decode b_U_ofAny 41 = .ok (.lload_n 3, 1) := by decide +kernel
theorem d_U_ofAny_42 : decode b_U_ofAny 42 = .ok (.iload 5, 2) := by decide +kernel
theorem d_U_ofAny_44 : decode b_U_ofAny 44 = .ok (.iload_n 2, 1) := by decide +kernel
theorem d_U_ofAny_45 : decode b_U_ofAny 45 = .ok (.invokestatic 21, 3) := by decide +kernel
theorem d_U_ofAny_48 : decode b_U_ofAny 48 = .ok (.ldc2_w 15, 3) := by decide +kernel
theorem d_U_ofAny_51 : decode b_U_ofAny 51 = .ok (.lxor, 1) := by decide +kernel
theorem d_U_ofAny_52 : decode b_U_ofAny 52 = .ok (.lor, 1) := by decide +kernel
theorem d_U_ofAny_53 : decode b_U_ofAny 53 = .ok (.lstore_n 3, 1) := by decide +kernel
theorem d_U_ofAny_54 : decode b_U_ofAny 54 = .ok (.iinc 5 1, 3) := by decide +kernel
theorem d_U_ofAny_57 : decode b_U_ofAny 57 = .ok (.goto (-52), 3) := by decide +kernel
theorem d_U_ofAny_60 : decode b_U_ofAny 60 = .ok (.lload_n 3, 1) := by decide +kernel
theorem d_U_ofAny_61 : decode b_U_ofAny 61 = .ok (.lreturn, 1) := by decide +kernel
end
section
theorem d_F_init_0 : decode b_F_init 0 = .ok (.aload_n 0, 1) := by decide +kernel
theorem d_F_init_1 : decode b_F_init 1 = .ok (.invokespecial 3, 3) := by decide +kernel
theorem d_F_init_4 : decode b_F_init 4 = .ok (.aload_n 0, 1) := by decide +kernel
theorem d_F_init_5 : decode b_F_init 5 = .ok (.sipush 201, 3) := by decide +kernel
theorem d_F_init_8 : decode b_F_init 8 = .ok (.newarray .long, 2) := by decide +kernel
theorem d_F_init_10 : decode b_F_init 10 = .ok (.putfield 9, 3) := by decide +kernel
theorem d_F_init_13 : decode b_F_init 13 = .ok (.aload_n 0, 1) := by decide +kernel
theorem d_F_init_14 : decode b_F_init 14 = .ok (.aload_n 1, 1) := by decide +kernel
theorem d_F_init_15 : decode b_F_init 15 = .ok (.putfield 15, 3) := by decide +kernel
theorem d_F_init_18 : decode b_F_init 18 = .ok (.aload_n 0, 1) := by decide +kernel
theorem d_F_init_19 : decode b_F_init 19 = .ok (.aload_n 2, 1) := by decide +kernel
theorem d_F_init_20 : decode b_F_init 20 = .ok (.putfield 19, 3) := by decide +kernel
theorem d_F_init_23 : decode b_F_init 23 = .ok (.return_, 1) := by decide +kernel
theorem d_F_choose_0 : decode b_F_choose 0 = .ok (.aload_n 0, 1) := by decide +kernel
theorem d_F_choose_1 : decode b_F_choose 1 = .ok (.getfield 15, 3) := by decide +kernel
theorem d_F_choose_4 : decode b_F_choose 4 = .ok (.iconst 1, 1) := by decide +kernel
theorem d_F_choose_5 : decode b_F_choose 5 = .ok (.iload_n 1, 1) := by decide +kernel
theorem d_F_choose_6 : decode b_F_choose 6 = .ok (.invokevirtual 23, 3) := by decide +kernel
theorem d_F_choose_9 : decode b_F_choose 9 = .ok (.istore_n 3, 1) := by decide +kernel
theorem d_F_choose_10 : decode b_F_choose 10 = .ok (.aload_n 0, 1) := by decide +kernel
theorem d_F_choose_11 : decode b_F_choose 11 = .ok (.getfield 15, 3) := by decide +kernel
theorem d_F_choose_14 : decode b_F_choose 14 = .ok (.iload_n 1, 1) := by decide +kernel
theorem d_F_choose_15 : decode b_F_choose 15 = .ok (.iconst 1, 1) := by decide +kernel
theorem d_F_choose_16 : decode b_F_choose 16 = .ok (.iadd, 1) := by decide +kernel
theorem d_F_choose_17 : decode b_F_choose 17 = .ok (.bipush 8, 2) := by decide +kernel
theorem d_F_choose_19 : decode b_F_choose 19 = .ok (.invokevirtual 23, 3) := by decide +kernel
theorem d_F_choose_22 : decode b_F_choose 22 = .ok (.istore 4, 2) := by decide +kernel
theorem d_F_choose_24 : decode b_F_choose 24 = .ok (.iload_n 3, 1) := by decide +kernel
theorem d_F_choose_25 : decode b_F_choose 25 = .ok (.iload 4, 2) := by decide +kernel
theorem d_F_choose_27 : decode b_F_choose 27 = .ok (.iand, 1) := by decide +kernel
theorem d_F_choose_28 : decode b_F_choose 28 = .ok (.istore 5, 2) := by decide +kernel
theorem d_F_choose_30 : decode b_F_choose 30 = .ok (.aload_n 0, 1) := by decide +kernel
theorem d_F_choose_31 : decode b_F_choose 31 = .ok (.iload_n 1, 1) := by decide +kernel
theorem d_F_choose_32 : decode b_F_choose 32 = .ok (.putfield 29, 3) := by decide +kernel
theorem d_F_choose_35 : decode b_F_choose 35 = .ok (.aload_n 0, 1) := by decide +kernel
theorem d_F_choose_36 : decode b_F_choose 36 = .ok (.sipush 1023, 3) := by decide +kernel
theorem d_F_choose_39 : decode b_F_choose 39 = .ok (.iload 4, 2) := by decide +kernel
theorem d_F_choose_41 : decode b_F_choose 41 = .ok (.iconst (-1), 1) := by decide +kernel
theorem d_F_choose_42 : decode b_F_choose 42 = .ok (.ixor, 1) := by decide +kernel
theorem d_F_choose_43 : decode b_F_choose 43 = .ok (.iand, 1) := by decide +kernel
theorem d_F_choose_44 : decode b_F_choose 44 = .ok (.iload 5, 2) := by decide +kernel
theorem d_F_choose_46 : decode b_F_choose 46 = .ok (.aload_n 0, 1) := by decide +kernel
theorem d_F_choose_47 : decode b_F_choose 47 = .ok (.iconst 1, 1) := by decide +kernel
theorem d_F_choose_48 : decode b_F_choose 48 = .ok (.iload_n 2, 1) := by decide +kernel
theorem d_F_choose_49 : decode b_F_choose 49 = .ok (.invokevirtual 33, 3) := by decide +kernel
theorem d_F_choose_52 : decode b_F_choose 52 = .ok (.iand, 1) := by decide +kernel
theorem d_F_choose_53 : decode b_F_choose 53 = .ok (.ior, 1) := by decide +kernel
theorem d_F_choose_54 : decode b_F_choose 54 = .ok (.putfield 36, 3) := by decide +kernel
theorem d_F_choose_57 : decode b_F_choose 57 = .ok (.aload_n 0, 1) := by decide +kernel
theorem d_F_choose_58 : decode b_F_choose 58 = .ok (.iload 4, 2) := by decide +kernel
theorem d_F_choose_60 : decode b_F_choose 60 = .ok (.iload_n 3, 1) := by decide +kernel
theorem d_F_choose_61 : decode b_F_choose 61 = .ok (.iconst (-1), 1) := by decide +kernel
theorem d_F_choose_62 : decode b_F_choose 62 = .ok (.ixor, 1) := by decide +kernel
theorem d_F_choose_63 : decode b_F_choose 63 = .ok (.iand, 1) := by decide +kernel
theorem d_F_choose_64 : decode b_F_choose 64 = .ok (.iload 5, 2) := by decide +kernel
theorem d_F_choose_66 : decode b_F_choose 66 = .ok (.aload_n 0, 1) := by decide +kernel
theorem d_F_choose_67 : decode b_F_choose 67 = .ok (.iconst 2, 1) := by decide +kernel
theorem d_F_choose_68 : decode b_F_choose 68 = .ok (.iload_n 2, 1) := by decide +kernel
theorem d_F_choose_69 : decode b_F_choose 69 = .ok (.invokevirtual 33, 3) := by decide +kernel
theorem d_F_choose_72 : decode b_F_choose 72 = .ok (.iand, 1) := by decide +kernel
theorem d_F_choose_73 : decode b_F_choose 73 = .ok (.ior, 1) := by decide +kernel
theorem d_F_choose_74 : decode b_F_choose 74 = .ok (.putfield 39, 3) := by decide +kernel
theorem d_F_choose_77 : decode b_F_choose 77 = .ok (.return_, 1) := by decide +kernel
theorem d_F_sharedHaving_0 : decode b_F_sharedHaving 0 = .ok (.iload_n 2, 1) := by decide +kernel
theorem d_F_sharedHaving_1 : decode b_F_sharedHaving 1 = .ok (.tableswitch 55 0 2 #[27, 40, 42], 27) := by decide +kernel
theorem d_F_sharedHaving_28 : decode b_F_sharedHaving 28 = .ok (.iload_n 1, 1) := by decide +kernel
theorem d_F_sharedHaving_29 : decode b_F_sharedHaving 29 = .ok (.iconst 2, 1) := by decide +kernel
theorem d_F_sharedHaving_30 : decode b_F_sharedHaving 30 = .ok (.if_icmp .ne 9, 3) := by decide +kernel
theorem d_F_sharedHaving_33 : decode b_F_sharedHaving 33 = .ok (.sipush 1023, 3) := by decide +kernel
theorem d_F_sharedHaving_36 : decode b_F_sharedHaving 36 = .ok (.goto 4, 3) := by decide +kernel
theorem d_F_sharedHaving_39 : decode b_F_sharedHaving 39 = .ok (.iconst 0, 1) := by decide +kernel
theorem d_F_sharedHaving_40 : decode b_F_sharedHaving 40 = .ok (.ireturn, 1) := by decide +kernel
theorem d_F_sharedHaving_41 : decode b_F_sharedHaving 41 = .ok (.iconst 0, 1) := by decide +kernel
theorem d_F_sharedHaving_42 : decode b_F_sharedHaving 42 = .ok (.ireturn, 1) := by decide +kernel
theorem d_F_sharedHaving_43 : decode b_F_sharedHaving 43 = .ok (.iload_n 1, 1) := by decide +kernel
theorem d_F_sharedHaving_44 : decode b_F_sharedHaving 44 = .ok (.iconst 1, 1) := by decide +kernel
theorem d_F_sharedHaving_45 : decode b_F_sharedHaving 45 = .ok (.if_icmp .ne 9, 3) := by decide +kernel
theorem d_F_sharedHaving_48 : decode b_F_sharedHaving 48 = .ok (.sipush 1023, 3) := by decide +kernel
theorem d_F_sharedHaving_51 : decode b_F_sharedHaving 51 = .ok (.goto 4, 3) := by decide +kernel
theorem d_F_sharedHaving_54 : decode b_F_sharedHaving 54 = .ok (.iconst 0, 1) := by decide +kernel
theorem d_F_sharedHaving_55 : decode b_F_sharedHaving 55 = .ok (.ireturn, 1) := by decide +kernel
theorem d_F_sharedHaving_56 : decode b_F_sharedHaving 56 = .ok (.aload_n 0, 1) := by decide +kernel
theorem d_F_sharedHaving_57 : decode b_F_sharedHaving 57 = .ok (.getfield 19, 3) := by decide +kernel
theorem d_F_sharedHaving_60 : decode b_F_sharedHaving 60 = .ok (.iload_n 1, 1) := by decide +kernel
theorem d_F_sharedHaving_61 : decode b_F_sharedHaving 61 = .ok (.invokevirtual 42, 3) := by decide +kernel
theorem d_F_sharedHaving_64 : decode b_F_sharedHaving 64 = .ok (.ireturn, 1) := by decide +kernel
theorem d_F_workOut_0 : decode b_F_workOut 0 = .ok (.iconst 1, 1) := by decide +kernel
theorem d_F_workOut_1 : decode b_F_workOut 1 = .ok (.istore_n 2, 1) := by decide +kernel
theorem d_F_workOut_2 : decode b_F_workOut 2 = .ok (.iload_n 2, 1) := by decide +kernel
theorem d_F_workOut_3 : decode b_F_workOut 3 = .ok (.aload_n 0, 1) := by decide +kernel
theorem d_F_workOut_4 : decode b_F_workOut 4 = .ok (.getfield 15, 3) := by decide +kernel
theorem d_F_workOut_7 : decode b_F_workOut 7 = .ok (.getfield 48, 3) := by decide +kernel
theorem d_F_workOut_10 : decode b_F_workOut 10 = .ok (.if_icmp .gt 54, 3) := by decide +kernel
theorem d_F_workOut_13 : decode b_F_workOut 13 = .ok (.aload_n 0, 1) := by decide +kernel
theorem d_F_workOut_14 : decode b_F_workOut 14 = .ok (.getfield 15, 3) := by decide +kernel
theorem d_F_workOut_17 : decode b_F_workOut 17 = .ok (.getfield 51, 3) := by decide +kernel
theorem d_F_workOut_20 : decode b_F_workOut 20 = .ok (.iload_n 2, 1) := by decide +kernel
theorem d_F_workOut_21 : decode b_F_workOut 21 = .ok (.baload, 1) := by decide +kernel
theorem d_F_workOut_22 : decode b_F_workOut 22 = .ok (.ifCond .eq 36, 3) := by decide +kernel
theorem d_F_workOut_25 : decode b_F_workOut 25 = .ok (.aload_n 0, 1) := by decide +kernel
theorem d_F_workOut_26 : decode b_F_workOut 26 = .ok (.getfield 9, 3) := by decide +kernel
theorem d_F_workOut_29 : decode b_F_workOut 29 = .ok (.iload_n 2, 1) := by decide +kernel
theorem d_F_workOut_30 : decode b_F_workOut 30 = .ok (.aload_n 0, 1) := by decide +kernel
theorem d_F_workOut_31 : decode b_F_workOut 31 = .ok (.getfield 15, 3) := by decide +kernel
theorem d_F_workOut_34 : decode b_F_workOut 34 = .ok (.getfield 55, 3) := by decide +kernel
theorem d_F_workOut_37 : decode b_F_workOut 37 = .ok (.iload_n 2, 1) := by decide +kernel
theorem d_F_workOut_38 : decode b_F_workOut 38 = .ok (.iaload, 1) := by decide +kernel
theorem d_F_workOut_39 : decode b_F_workOut 39 = .ok (.ifCond .ne 12, 3) := by decide +kernel
theorem d_F_workOut_42 : decode b_F_workOut 42 = .ok (.aload_n 0, 1) := by decide +kernel
theorem d_F_workOut_43 : decode b_F_workOut 43 = .ok (.iload_n 2, 1) := by decide +kernel
theorem d_F_workOut_44 : decode b_F_workOut 44 = .ok (.iload_n 1, 1) := by decide +kernel
theorem d_F_workOut_45 : decode b_F_workOut 45 = .ok (.invokevirtual 59, 3) := by decide +kernel
theorem d_F_workOut_48 : decode b_F_workOut 48 = .ok (.goto 9, 3) := by decide +kernel
theorem d_F_workOut_51 : decode b_F_workOut 51 = .ok (.aload_n 0, 1) := by decide +kernel
theorem d_F_workOut_52 : decode b_F_workOut 52 = .ok (.iload_n 2, 1) := by decide +kernel
theorem d_F_workOut_53 : decode b_F_workOut 53 = .ok (.iload_n 1, 1) := by decide +kernel
theorem d_F_workOut_54 : decode b_F_workOut 54 = .ok (.invokevirtual 63, 3) := by decide +kernel
theorem d_F_workOut_57 : decode b_F_workOut 57 = .ok (.lastore, 1) := by decide +kernel
theorem d_F_workOut_58 : decode b_F_workOut 58 = .ok (.iinc 2 1, 3) := by decide +kernel
theorem d_F_workOut_61 : decode b_F_workOut 61 = .ok (.goto (-59), 3) := by decide +kernel
theorem d_F_workOut_64 : decode b_F_workOut 64 = .ok (.return_, 1) := by decide +kernel
theorem d_F_ofGiven_0 : decode b_F_ofGiven 0 = .ok (.aload_n 0, 1) := by decide +kernel
theorem d_F_ofGiven_1 : decode b_F_ofGiven 1 = .ok (.getfield 15, 3) := by decide +kernel
theorem d_F_ofGiven_4 : decode b_F_ofGiven 4 = .ok (.getfield 66, 3) := by decide +kernel
theorem d_F_ofGiven_7 : decode b_F_ofGiven 7 = .ok (.iload_n 1, 1) := by decide +kernel
theorem d_F_ofGiven_8 : decode b_F_ofGiven 8 = .ok (.iaload, 1) := by decide +kernel
theorem d_F_ofGiven_9 : decode b_F_ofGiven 9 = .ok (.istore_n 3, 1) := by decide +kernel
theorem d_F_ofGiven_10 : decode b_F_ofGiven 10 = .ok (.aload_n 0, 1) := by decide +kernel
theorem d_F_ofGiven_11 : decode b_F_ofGiven 11 = .ok (.getfield 15, 3) := by decide +kernel
theorem d_F_ofGiven_14 : decode b_F_ofGiven 14 = .ok (.getfield 69, 3) := by decide +kernel
theorem d_F_ofGiven_17 : decode b_F_ofGiven 17 = .ok (.iload_n 1, 1) := by decide +kernel
theorem d_F_ofGiven_18 : decode b_F_ofGiven 18 = .ok (.iaload, 1) := by decide +kernel
theorem d_F_ofGiven_19 : decode b_F_ofGiven 19 = .ok (.istore 4, 2) := by decide +kernel
theorem d_F_ofGiven_21 : decode b_F_ofGiven 21 = .ok (.aload_n 0, 1) := by decide +kernel
theorem d_F_ofGiven_22 : decode b_F_ofGiven 22 = .ok (.getfield 15, 3) := by decide +kernel
theorem d_F_ofGiven_25 : decode b_F_ofGiven 25 = .ok (.getfield 55, 3) := by decide +kernel
theorem d_F_ofGiven_28 : decode b_F_ofGiven 28 = .ok (.iload_n 1, 1) := by decide +kernel
theorem d_F_ofGiven_29 : decode b_F_ofGiven 29 = .ok (.iaload, 1) := by decide +kernel
theorem d_F_ofGiven_30 : decode b_F_ofGiven 30 = .ok (.aload_n 0, 1) := by decide +kernel
theorem d_F_ofGiven_31 : decode b_F_ofGiven 31 = .ok (.getfield 29, 3) := by decide +kernel
theorem d_F_ofGiven_34 : decode b_F_ofGiven 34 = .ok (.if_icmp .gt 21, 3) := by decide +kernel
theorem d_F_ofGiven_37 : decode b_F_ofGiven 37 = .ok (.iload_n 3, 1) := by decide +kernel
theorem d_F_ofGiven_38 : decode b_F_ofGiven 38 = .ok (.aload_n 0, 1) := by decide +kernel
theorem d_F_ofGiven_39 : decode b_F_ofGiven 39 = .ok (.getfield 39, 3) := by decide +kernel
theorem d_F_ofGiven_42 : decode b_F_ofGiven 42 = .ok (.iand, 1) := by decide +kernel
theorem d_F_ofGiven_43 : decode b_F_ofGiven 43 = .ok (.iload 4, 2) := by decide +kernel
theorem d_F_ofGiven_45 : decode b_F_ofGiven 45 = .ok (.aload_n 0, 1) := by decide +kernel
theorem d_F_ofGiven_46 : decode b_F_ofGiven 46 = .ok (.getfield 39, 3) := by decide +kernel
theorem d_F_ofGiven_49 : decode b_F_ofGiven 49 = .ok (.iand, 1) := by decide +kernel
theorem d_F_ofGiven_50 : decode b_F_ofGiven 50 = .ok (.iload_n 2, 1) := by decide +kernel
theorem d_F_ofGiven_51 : decode b_F_ofGiven 51 = .ok (.invokestatic 72, 3) := by decide +kernel
theorem d_F_ofGiven_54 : decode b_F_ofGiven 54 = .ok (.lreturn, 1) := by decide +kernel
theorem d_F_ofGiven_55 : decode b_F_ofGiven 55 = .ok (.iload_n 3, 1) := by decide +kernel
theorem d_F_ofGiven_56 : decode b_F_ofGiven 56 = .ok (.aload_n 0, 1) := by decide +kernel
theorem d_F_ofGiven_57 : decode b_F_ofGiven 57 = .ok (.getfield 36, 3) := by decide +kernel
theorem d_F_ofGiven_60 : decode b_F_ofGiven 60 = .ok (.iand, 1) := by decide +kernel
theorem d_F_ofGiven_61 : decode b_F_ofGiven 61 = .ok (.iload 4, 2) := by decide +kernel
theorem d_F_ofGiven_63 : decode b_F_ofGiven 63 = .ok (.aload_n 0, 1) := by decide +kernel
theorem d_F_ofGiven_64 : decode b_F_ofGiven 64 = .ok (.getfield 36, 3) := by decide +kernel
theorem d_F_ofGiven_67 : decode b_F_ofGiven 67 = .ok (.iand, 1) := by decide +kernel
theorem d_F_ofGiven_68 : decode b_F_ofGiven 68 = .ok (.iload_n 2, 1) := by decide +kernel
theorem d_F_ofGiven_69 : decode b_F_ofGiven 69 = .ok (.invokestatic 72, 3) := by decide +kernel
theorem d_F_ofGiven_72 : decode b_F_ofGiven 72 = .ok (.ldc2_w 78, 3) := by decide +kernel
theorem d_F_ofGiven_75 : decode b_F_ofGiven 75 = .ok (.lxor, 1) := by decide +kernel
theorem d_F_ofGiven_76 : decode b_F_ofGiven 76 = .ok (.lreturn, 1) := by decide +kernel
theorem d_F_ofResolvent_0 : decode b_F_ofResolvent 0 = .ok (.aload_n 0, 1) := by decide +kernel
theorem d_F_ofResolvent_1 : decode b_F_ofResolvent 1 = .ok (.getfield 9, 3) := by decide +kernel
theorem d_F_ofResolvent_4 : decode b_F_ofResolvent 4 = .ok (.aload_n 0, 1) := by decide +kernel
theorem d_F_ofResolvent_5 : decode b_F_ofResolvent 5 = .ok (.getfield 15, 3) := by decide +kernel
theorem d_F_ofResolvent_8 : decode b_F_ofResolvent 8 = .ok (.getfield 80, 3) := by decide +kernel
theorem d_F_ofResolvent_11 : decode b_F_ofResolvent 11 = .ok (.iload_n 1, 1) := by decide +kernel
theorem d_F_ofResolvent_12 : decode b_F_ofResolvent 12 = .ok (.iaload, 1) := by decide +kernel
theorem d_F_ofResolvent_13 : decode b_F_ofResolvent 13 = .ok (.laload, 1) := by decide +kernel
theorem d_F_ofResolvent_14 : decode b_F_ofResolvent 14 = .ok (.lstore_n 3, 1) := by decide +kernel
theorem d_F_ofResolvent_15 : decode b_F_ofResolvent 15 = .ok (.aload_n 0, 1) := by decide +kernel
theorem d_F_ofResolvent_16 : decode b_F_ofResolvent 16 = .ok (.getfield 9, 3) := by decide +kernel
theorem d_F_ofResolvent_19 : decode b_F_ofResolvent 19 = .ok (.aload_n 0, 1) := by decide +kernel
theorem d_F_ofResolvent_20 : decode b_F_ofResolvent 20 = .ok (.getfield 15, 3) := by decide +kernel
theorem d_F_ofResolvent_23 : decode b_F_ofResolvent 23 = .ok (.getfield 83, 3) := by decide +kernel
theorem d_F_ofResolvent_26 : decode b_F_ofResolvent 26 = .ok (.iload_n 1, 1) := by decide +kernel
theorem d_F_ofResolvent_27 : decode b_F_ofResolvent 27 = .ok (.iaload, 1) := by decide +kernel
theorem d_F_ofResolvent_28 : decode b_F_ofResolvent 28 = .ok (.laload, 1) := by decide +kernel
theorem d_F_ofResolvent_29 : decode b_F_ofResolvent 29 = .ok (.lstore 5, 2) := by decide +kernel
theorem d_F_ofResolvent_31 : decode b_F_ofResolvent 31 = .ok (.aload_n 0, 1) := by decide +kernel
theorem d_F_ofResolvent_32 : decode b_F_ofResolvent 32 = .ok (.getfield 15, 3) := by decide +kernel
theorem d_F_ofResolvent_35 : decode b_F_ofResolvent 35 = .ok (.getfield 86, 3) := by decide +kernel
theorem d_F_ofResolvent_38 : decode b_F_ofResolvent 38 = .ok (.iload_n 1, 1) := by decide +kernel
theorem d_F_ofResolvent_39 : decode b_F_ofResolvent 39 = .ok (.iaload, 1) := by decide +kernel
theorem d_F_ofResolvent_40 : decode b_F_ofResolvent 40 = .ok (.istore 7, 2) := by decide +kernel
theorem d_F_ofResolvent_42 : decode b_F_ofResolvent 42 = .ok (.aload_n 0, 1) := by decide +kernel
theorem d_F_ofResolvent_43 : decode b_F_ofResolvent 43 = .ok (.getfield 36, 3) := by decide +kernel
theorem d_F_ofResolvent_46 : decode b_F_ofResolvent 46 = .ok (.iload 7, 2) := by decide +kernel
theorem d_F_ofResolvent_48 : decode b_F_ofResolvent 48 = .ok (.invokestatic 89, 3) := by decide +kernel
theorem d_F_ofResolvent_51 : decode b_F_ofResolvent 51 = .ok (.iand, 1) := by decide +kernel
theorem d_F_ofResolvent_52 : decode b_F_ofResolvent 52 = .ok (.ifCond .eq 8, 3) := by decide +kernel
theorem d_F_ofResolvent_55 : decode b_F_ofResolvent 55 = .ok (.lload_n 3, 1) := by decide +kernel
theorem d_F_ofResolvent_56 : decode b_F_ofResolvent 56 = .ok (.lload 5, 2) := by decide +kernel
theorem d_F_ofResolvent_58 : decode b_F_ofResolvent 58 = .ok (.lor, 1) := by decide +kernel
theorem d_F_ofResolvent_59 : decode b_F_ofResolvent 59 = .ok (.lreturn, 1) := by decide +kernel
theorem d_F_ofResolvent_60 : decode b_F_ofResolvent 60 = .ok (.aload_n 0, 1) := by decide +kernel
theorem d_F_ofResolvent_61 : decode b_F_ofResolvent 61 = .ok (.getfield 39, 3) := by decide +kernel
theorem d_F_ofResolvent_64 : decode b_F_ofResolvent 64 = .ok (.iload 7, 2) := by decide +kernel
theorem d_F_ofResolvent_66 : decode b_F_ofResolvent 66 = .ok (.invokestatic 89, 3) := by decide +kernel
theorem d_F_ofResolvent_69 : decode b_F_ofResolvent 69 = .ok (.iand, 1) := by decide +kernel
theorem d_F_ofResolvent_70 : decode b_F_ofResolvent 70 = .ok (.ifCond .eq 8, 3) := by decide +kernel
theorem d_F_ofResolvent_73 : decode b_F_ofResolvent 73 = .ok (.lload_n 3, 1) := by decide +kernel
theorem d_F_ofResolvent_74 : decode b_F_ofResolvent 74 = .ok (.lload 5, 2) := by decide +kernel
theorem d_F_ofResolvent_76 : decode b_F_ofResolvent 76 = .ok (.land, 1) := by decide +kernel
theorem d_F_ofResolvent_77 : decode b_F_ofResolvent 77 = .ok (.lreturn, 1) := by decide +kernel
theorem d_F_ofResolvent_78 : decode b_F_ofResolvent 78 = .ok (.iload 7, 2) := by decide +kernel
theorem d_F_ofResolvent_80 : decode b_F_ofResolvent 80 = .ok (.iload_n 2, 1) := by decide +kernel
theorem d_F_ofResolvent_81 : decode b_F_ofResolvent 81 = .ok (.invokestatic 92, 3) := by decide +kernel
theorem d_F_ofResolvent_84 : decode b_F_ofResolvent 84 = .ok (.lstore 8, 2) := by decide +kernel
theorem d_F_ofResolvent_86 : decode b_F_ofResolvent 86 = .ok (.lload 8, 2) := by decide +kernel
theorem d_F_ofResolvent_88 : decode b_F_ofResolvent 88 = .ok (.lload_n 3, 1) := by decide +kernel
theorem d_F_ofResolvent_89 : decode b_F_ofResolvent 89 = .ok (.lor, 1) := by decide +kernel
theorem d_F_ofResolvent_90 : decode b_F_ofResolvent 90 = .ok (.lload 8, 2) := by decide +kernel
theorem d_F_ofResolvent_92 : decode b_F_ofResolvent 92 = .ok (.ldc2_w 78, 3) := by decide +kernel
theorem d_F_ofResolvent_95 : decode b_F_ofResolvent 95 = .ok (.lxor, 1) := by decide +kernel
theorem d_F_ofResolvent_96 : decode b_F_ofResolvent 96 = .ok (.lload 5, 2) := by decide +kernel
theorem d_F_ofResolvent_98 : decode b_F_ofResolvent 98 = .ok (.lor, 1) := by decide +kernel
theorem d_F_ofResolvent_99 : decode b_F_ofResolvent 99 = .ok (.land, 1) := by decide +kernel
theorem d_F_ofResolvent_100 : decode b_F_ofResolvent 100 = .ok (.lreturn, 1) := by decide +kernel
theorem d_F_interpolant_0 : decode b_F_interpolant 0 = .ok (.aload_n 0, 1) := by decide +kernel
theorem d_F_interpolant_1 : decode b_F_interpolant 1 = .ok (.iload_n 1, 1) := by decide +kernel
theorem d_F_interpolant_2 : decode b_F_interpolant 2 = .ok (.iload_n 2, 1) := by decide +kernel
theorem d_F_interpolant_3 : decode b_F_interpolant 3 = .ok (.invokevirtual 95, 3) := by decide +kernel
theorem d_F_interpolant_6 : decode b_F_interpolant 6 = .ok (.iconst 0, 1) := by decide +kernel
theorem d_F_interpolant_7 : decode b_F_interpolant 7 = .ok (.istore 4, 2) := by decide +kernel
theorem d_F_interpolant_9 : decode b_F_interpolant 9 = .ok (.iload 4, 2) := by decide +kernel
theorem d_F_interpolant_11 : decode b_F_interpolant 11 = .ok (.bipush 16, 2) := by decide +kernel
theorem d_F_interpolant_13 : decode b_F_interpolant 13 = .ok (.if_icmp .ge 38, 3) := by decide +kernel
theorem d_F_interpolant_16 : decode b_F_interpolant 16 = .ok (.iload 4, 2) := by decide +kernel
theorem d_F_interpolant_18 : decode b_F_interpolant 18 = .ok (.aload_n 3, 1) := by decide +kernel
theorem d_F_interpolant_19 : decode b_F_interpolant 19 = .ok (.arraylength, 1) := by decide +kernel
theorem d_F_interpolant_20 : decode b_F_interpolant 20 = .ok (.if_icmp .ge 31, 3) := by decide +kernel
theorem d_F_interpolant_23 : decode b_F_interpolant 23 = .ok (.aload_n 0, 1) := by decide +kernel
theorem d_F_interpolant_24 : decode b_F_interpolant 24 = .ok (.iload 4, 2) := by decide +kernel
theorem d_F_interpolant_26 : decode b_F_interpolant 26 = .ok (.invokevirtual 99, 3) := by decide +kernel
theorem d_F_interpolant_29 : decode b_F_interpolant 29 = .ok (.aload_n 3, 1) := by decide +kernel
theorem d_F_interpolant_30 : decode b_F_interpolant 30 = .ok (.iload 4, 2) := by decide +kernel
theorem d_F_interpolant_32 : decode b_F_interpolant 32 = .ok (.aload_n 0, 1) := by decide +kernel
theorem d_F_interpolant_33 : decode b_F_interpolant 33 = .ok (.getfield 9, 3) := by decide +kernel
theorem d_F_interpolant_36 : decode b_F_interpolant 36 = .ok (.aload_n 0, 1) := by decide +kernel
theorem d_F_interpolant_37 : decode b_F_interpolant 37 = .ok (.getfield 15, 3) := by decide +kernel
theorem d_F_interpolant_40 : decode b_F_interpolant 40 = .ok (.getfield 48, 3) := by decide +kernel
theorem d_F_interpolant_43 : decode b_F_interpolant 43 = .ok (.laload, 1) := by decide +kernel
theorem d_F_interpolant_44 : decode b_F_interpolant 44 = .ok (.lastore, 1) := by decide +kernel
theorem d_F_interpolant_45 : decode b_F_interpolant 45 = .ok (.iinc 4 1, 3) := by decide +kernel
theorem d_F_interpolant_48 : decode b_F_interpolant 48 = .ok (.goto (-39), 3) := by decide +kernel
theorem d_F_interpolant_51 : decode b_F_interpolant 51 = .ok (.return_, 1) := by decide +kernel
theorem d_R_init_0 : decode b_R_init 0 = .ok (.aload_n 0, 1) := by decide +kernel
theorem d_R_init_1 : decode b_R_init 1 = .ok (.invokespecial 3, 3) := by decide +kernel
theorem d_R_init_4 : decode b_R_init 4 = .ok (.aload_n 0, 1) := by decide +kernel
theorem d_R_init_5 : decode b_R_init 5 = .ok (.aload_n 1, 1) := by decide +kernel
theorem d_R_init_6 : decode b_R_init 6 = .ok (.putfield 9, 3) := by decide +kernel
theorem d_R_init_9 : decode b_R_init 9 = .ok (.aload_n 0, 1) := by decide +kernel
theorem d_R_init_10 : decode b_R_init 10 = .ok (.aload_n 2, 1) := by decide +kernel
theorem d_R_init_11 : decode b_R_init 11 = .ok (.putfield 15, 3) := by decide +kernel
theorem d_R_init_14 : decode b_R_init 14 = .ok (.aload_n 0, 1) := by decide +kernel
theorem d_R_init_15 : decode b_R_init 15 = .ok (.iconst (-1), 1) := by decide +kernel
theorem d_R_init_16 : decode b_R_init 16 = .ok (.putfield 19, 3) := by decide +kernel
theorem d_R_init_19 : decode b_R_init 19 = .ok (.return_, 1) := by decide +kernel
theorem d_R_readText_0 : decode b_R_readText 0 = .ok (.aload_n 0, 1) := by decide +kernel
theorem d_R_readText_1 : decode b_R_readText 1 = .ok (.getfield 15, 3) := by decide +kernel
theorem d_R_readText_4 : decode b_R_readText 4 = .ok (.invokevirtual 23, 3) := by decide +kernel
theorem d_R_readText_7 : decode b_R_readText 7 = .ok (.aload_n 0, 1) := by decide +kernel
theorem d_R_readText_8 : decode b_R_readText 8 = .ok (.iconst 0, 1) := by decide +kernel
theorem d_R_readText_9 : decode b_R_readText 9 = .ok (.putfield 28, 3) := by decide +kernel
theorem d_R_readText_12 : decode b_R_readText 12 = .ok (.aload_n 0, 1) := by decide +kernel
theorem d_R_readText_13 : decode b_R_readText 13 = .ok (.iconst (-1), 1) := by decide +kernel
theorem d_R_readText_14 : decode b_R_readText 14 = .ok (.putfield 19, 3) := by decide +kernel
theorem d_R_readText_17 : decode b_R_readText 17 = .ok (.aload_n 0, 1) := by decide +kernel
theorem d_R_readText_18 : decode b_R_readText 18 = .ok (.iconst 0, 1) := by decide +kernel
theorem d_R_readText_19 : decode b_R_readText 19 = .ok (.putfield 31, 3) := by decide +kernel
theorem d_R_readText_22 : decode b_R_readText 22 = .ok (.aload_n 0, 1) := by decide +kernel
theorem d_R_readText_23 : decode b_R_readText 23 = .ok (.iconst 0, 1) := by decide +kernel
theorem d_R_readText_24 : decode b_R_readText 24 = .ok (.putfield 34, 3) := by decide +kernel
theorem d_R_readText_27 : decode b_R_readText 27 = .ok (.aload_n 0, 1) := by decide +kernel
theorem d_R_readText_28 : decode b_R_readText 28 = .ok (.bipush (-3), 2) := by decide +kernel
theorem d_R_readText_30 : decode b_R_readText 30 = .ok (.putfield 37, 3) := by decide +kernel
theorem d_R_readText_33 : decode b_R_readText 33 = .ok (.iconst 0, 1) := by decide +kernel
theorem d_R_readText_34 : decode b_R_readText 34 = .ok (.istore_n 1, 1) := by decide +kernel
theorem d_R_readText_35 : decode b_R_readText 35 = .ok (.iload_n 1, 1) := by decide +kernel
theorem d_R_readText_36 : decode b_R_readText 36 = .ok (.sipush 2000, 3) := by decide +kernel
theorem d_R_readText_39 : decode b_R_readText 39 = .ok (.if_icmp .gt 32, 3) := by decide +kernel
theorem d_R_readText_42 : decode b_R_readText 42 = .ok (.aload_n 0, 1) := by decide +kernel
theorem d_R_readText_43 : decode b_R_readText 43 = .ok (.getfield 28, 3) := by decide +kernel
theorem d_R_readText_46 : decode b_R_readText 46 = .ok (.ifCond .ne 25, 3) := by decide +kernel
theorem d_R_readText_49 : decode b_R_readText 49 = .ok (.aload_n 0, 1) := by decide +kernel
theorem d_R_readText_50 : decode b_R_readText 50 = .ok (.getfield 37, 3) := by decide +kernel
theorem d_R_readText_53 : decode b_R_readText 53 = .ok (.iconst (-1), 1) := by decide +kernel
theorem d_R_readText_54 : decode b_R_readText 54 = .ok (.if_icmp .eq 17, 3) := by decide +kernel
theorem d_R_readText_57 : decode b_R_readText 57 = .ok (.aload_n 0, 1) := by decide +kernel
theorem d_R_readText_58 : decode b_R_readText 58 = .ok (.invokevirtual 40, 3) := by decide +kernel
theorem d_R_readText_61 : decode b_R_readText 61 = .ok (.aload_n 0, 1) := by decide +kernel
theorem d_R_readText_62 : decode b_R_readText 62 = .ok (.invokevirtual 43, 3) := by decide +kernel
theorem d_R_readText_65 : decode b_R_readText 65 = .ok (.iinc 1 1, 3) := by decide +kernel
theorem d_R_readText_68 : decode b_R_readText 68 = .ok (.goto (-33), 3) := by decide +kernel
theorem d_R_readText_71 : decode b_R_readText 71 = .ok (.return_, 1) := by decide +kernel
theorem d_R_fail_0 : decode b_R_fail 0 = .ok (.aload_n 0, 1) := by decide +kernel
theorem d_R_fail_1 : decode b_R_fail 1 = .ok (.iload_n 1, 1) := by decide +kernel
theorem d_R_fail_2 : decode b_R_fail 2 = .ok (.putfield 28, 3) := by decide +kernel
theorem d_R_fail_5 : decode b_R_fail 5 = .ok (.aload_n 0, 1) := by decide +kernel
theorem d_R_fail_6 : decode b_R_fail 6 = .ok (.aload_n 0, 1) := by decide +kernel
theorem d_R_fail_7 : decode b_R_fail 7 = .ok (.getfield 46, 3) := by decide +kernel
theorem d_R_fail_10 : decode b_R_fail 10 = .ok (.putfield 19, 3) := by decide +kernel
theorem d_R_fail_13 : decode b_R_fail 13 = .ok (.return_, 1) := by decide +kernel
theorem d_R_nextToken_0 : decode b_R_nextToken 0 = .ok (.aload_n 0, 1) := by decide +kernel
theorem d_R_nextToken_1 : decode b_R_nextToken 1 = .ok (.invokevirtual 49, 3) := by decide +kernel
theorem d_R_nextToken_4 : decode b_R_nextToken 4 = .ok (.aload_n 0, 1) := by decide +kernel
theorem d_R_nextToken_5 : decode b_R_nextToken 5 = .ok (.aload_n 0, 1) := by decide +kernel
theorem d_R_nextToken_6 : decode b_R_nextToken 6 = .ok (.getfield 31, 3) := by decide +kernel
theorem d_R_nextToken_9 : decode b_R_nextToken 9 = .ok (.putfield 46, 3) := by decide +kernel
theorem d_R_nextToken_12 : decode b_R_nextToken 12 = .ok (.aload_n 0, 1) := by decide +kernel
theorem d_R_nextToken_13 : decode b_R_nextToken 13 = .ok (.getfield 9, 3) := by decide +kernel
theorem d_R_nextToken_16 : decode b_R_nextToken 16 = .ok (.aload_n 0, 1) := by decide +kernel
theorem d_R_nextToken_17 : decode b_R_nextToken 17 = .ok (.getfield 31, 3) := by decide +kernel
theorem d_R_nextToken_20 : decode b_R_nextToken 20 = .ok (.invokevirtual 52, 3) := by decide +kernel
theorem d_R_nextToken_23 : decode b_R_nextToken 23 = .ok (.istore_n 1, 1) := by decide +kernel
theorem d_R_nextToken_24 : decode b_R_nextToken 24 = .ok (.iload_n 1, 1) := by decide +kernel
theorem d_R_nextToken_25 : decode b_R_nextToken 25 = .ok (.invokestatic 58, 3) := by decide +kernel
theorem d_R_nextToken_28 : decode b_R_nextToken 28 = .ok (.ifCond .eq 10, 3) := by decide +kernel
theorem d_R_nextToken_31 : decode b_R_nextToken 31 = .ok (.aload_n 0, 1) := by decide +kernel
theorem d_R_nextToken_32 : decode b_R_nextToken 32 = .ok (.invokevirtual 62, 3) := by decide +kernel
theorem d_R_nextToken_35 : decode b_R_nextToken 35 = .ok (.goto 43, 3) := by decide +kernel
theorem d_R_nextToken_38 : decode b_R_nextToken 38 = .ok (.iload_n 1, 1) := by decide +kernel
theorem d_R_nextToken_39 : decode b_R_nextToken 39 = .ok (.iconst (-1), 1) := by decide +kernel
theorem d_R_nextToken_40 : decode b_R_nextToken 40 = .ok (.if_icmp .ne 11, 3) := by decide +kernel
theorem d_R_nextToken_43 : decode b_R_nextToken 43 = .ok (.aload_n 0, 1) := by decide +kernel
theorem d_R_nextToken_44 : decode b_R_nextToken 44 = .ok (.iconst (-1), 1) := by decide +kernel
theorem d_R_nextToken_45 : decode b_R_nextToken 45 = .ok (.putfield 37, 3) := by decide +kernel
theorem d_R_nextToken_48 : decode b_R_nextToken 48 = .ok (.goto 30, 3) := by decide +kernel
theorem d_R_nextToken_51 : decode b_R_nextToken 51 = .ok (.aload_n 0, 1) := by decide +kernel
theorem d_R_nextToken_52 : decode b_R_nextToken 52 = .ok (.iload_n 1, 1) := by decide +kernel
theorem d_R_nextToken_53 : decode b_R_nextToken 53 = .ok (.invokestatic 65, 3) := by decide +kernel
theorem d_R_nextToken_56 : decode b_R_nextToken 56 = .ok (.ifCond .eq 7, 3) := by decide +kernel
theorem d_R_nextToken_59 : decode b_R_nextToken 59 = .ok (.iload_n 1, 1) := by decide +kernel
theorem d_R_nextToken_60 : decode b_R_nextToken 60 = .ok (.goto 5, 3) := by decide +kernel
theorem d_R_nextToken_63 : decode b_R_nextToken 63 = .ok (.bipush (-3), 2) := by decide +kernel
theorem d_R_nextToken_65 : decode b_R_nextToken 65 = .ok (.putfield 37, 3) := by decide +kernel
theorem d_R_nextToken_68 : decode b_R_nextToken 68 = .ok (.aload_n 0, 1) := by decide +kernel
theorem d_R_nextToken_69 : decode b_R_nextToken 69 = .ok (.dup, 1) := by decide +kernel
theorem d_R_nextToken_70 : decode b_R_nextToken 70 = .ok (.getfield 31, 3) := by decide +kernel
theorem d_R_nextToken_73 : decode b_R_nextToken 73 = .ok (.iconst 1, 1) := by decide +kernel
theorem d_R_nextToken_74 : decode b_R_nextToken 74 = .ok (.iadd, 1) := by decide +kernel
theorem d_R_nextToken_75 : decode b_R_nextToken 75 = .ok (.putfield 31, 3) := by decide +kernel
theorem d_R_nextToken_78 : decode b_R_nextToken 78 = .ok (.return_, 1) := by decide +kernel
theorem d_R_skipBlanks_0 : decode b_R_skipBlanks 0 = .ok (.aload_n 0, 1) := by decide +kernel
theorem d_R_skipBlanks_1 : decode b_R_skipBlanks 1 = .ok (.getfield 31, 3) := by decide +kernel
theorem d_R_skipBlanks_4 : decode b_R_skipBlanks 4 = .ok (.aload_n 0, 1) := by decide +kernel
theorem d_R_skipBlanks_5 : decode b_R_skipBlanks 5 = .ok (.getfield 9, 3) := by decide +kernel
theorem d_R_skipBlanks_8 : decode b_R_skipBlanks 8 = .ok (.getfield 68, 3) := by decide +kernel
theorem d_R_skipBlanks_11 : decode b_R_skipBlanks 11 = .ok (.if_icmp .ge 33, 3) := by decide +kernel
theorem d_R_skipBlanks_14 : decode b_R_skipBlanks 14 = .ok (.aload_n 0, 1) := by decide +kernel
theorem d_R_skipBlanks_15 : decode b_R_skipBlanks 15 = .ok (.getfield 9, 3) := by decide +kernel
theorem d_R_skipBlanks_18 : decode b_R_skipBlanks 18 = .ok (.aload_n 0, 1) := by decide +kernel
theorem d_R_skipBlanks_19 : decode b_R_skipBlanks 19 = .ok (.getfield 31, 3) := by decide +kernel
theorem d_R_skipBlanks_22 : decode b_R_skipBlanks 22 = .ok (.invokevirtual 52, 3) := by decide +kernel
theorem d_R_skipBlanks_25 : decode b_R_skipBlanks 25 = .ok (.invokestatic 71, 3) := by decide +kernel
theorem d_R_skipBlanks_28 : decode b_R_skipBlanks 28 = .ok (.ifCond .eq 16, 3) := by decide +kernel
theorem d_R_skipBlanks_31 : decode b_R_skipBlanks 31 = .ok (.aload_n 0, 1) := by decide +kernel
theorem d_R_skipBlanks_32 : decode b_R_skipBlanks 32 = .ok (.dup, 1) := by decide +kernel
theorem d_R_skipBlanks_33 : decode b_R_skipBlanks 33 = .ok (.getfield 31, 3) := by decide +kernel
theorem d_R_skipBlanks_36 : decode b_R_skipBlanks 36 = .ok (.iconst 1, 1) := by decide +kernel
theorem d_R_skipBlanks_37 : decode b_R_skipBlanks 37 = .ok (.iadd, 1) := by decide +kernel
theorem d_R_skipBlanks_38 : decode b_R_skipBlanks 38 = .ok (.putfield 31, 3) := by decide +kernel
theorem d_R_skipBlanks_41 : decode b_R_skipBlanks 41 = .ok (.goto (-41), 3) := by decide +kernel
theorem d_R_skipBlanks_44 : decode b_R_skipBlanks 44 = .ok (.return_, 1) := by decide +kernel
theorem d_R_takeDigits_0 : decode b_R_takeDigits 0 = .ok (.aload_n 0, 1) := by decide +kernel
theorem d_R_takeDigits_1 : decode b_R_takeDigits 1 = .ok (.iconst 0, 1) := by decide +kernel
theorem d_R_takeDigits_2 : decode b_R_takeDigits 2 = .ok (.putfield 74, 3) := by decide +kernel
theorem d_R_takeDigits_5 : decode b_R_takeDigits 5 = .ok (.aload_n 0, 1) := by decide +kernel
theorem d_R_takeDigits_6 : decode b_R_takeDigits 6 = .ok (.getfield 31, 3) := by decide +kernel
theorem d_R_takeDigits_9 : decode b_R_takeDigits 9 = .ok (.aload_n 0, 1) := by decide +kernel
theorem d_R_takeDigits_10 : decode b_R_takeDigits 10 = .ok (.getfield 9, 3) := by decide +kernel
theorem d_R_takeDigits_13 : decode b_R_takeDigits 13 = .ok (.getfield 68, 3) := by decide +kernel
theorem d_R_takeDigits_16 : decode b_R_takeDigits 16 = .ok (.if_icmp .ge 72, 3) := by decide +kernel
theorem d_R_takeDigits_19 : decode b_R_takeDigits 19 = .ok (.aload_n 0, 1) := by decide +kernel
theorem d_R_takeDigits_20 : decode b_R_takeDigits 20 = .ok (.getfield 9, 3) := by decide +kernel
theorem d_R_takeDigits_23 : decode b_R_takeDigits 23 = .ok (.aload_n 0, 1) := by decide +kernel
theorem d_R_takeDigits_24 : decode b_R_takeDigits 24 = .ok (.getfield 31, 3) := by decide +kernel
theorem d_R_takeDigits_27 : decode b_R_takeDigits 27 = .ok (.invokevirtual 52, 3) := by decide +kernel
theorem d_R_takeDigits_30 : decode b_R_takeDigits 30 = .ok (.invokestatic 58, 3) := by decide +kernel
theorem d_R_takeDigits_33 : decode b_R_takeDigits 33 = .ok (.ifCond .eq 55, 3) := by decide +kernel
theorem d_R_takeDigits_36 : decode b_R_takeDigits 36 = .ok (.aload_n 0, 1) := by decide +kernel
theorem d_R_takeDigits_37 : decode b_R_takeDigits 37 = .ok (.getfield 31, 3) := by decide +kernel
theorem d_R_takeDigits_40 : decode b_R_takeDigits 40 = .ok (.aload_n 0, 1) := by decide +kernel
theorem d_R_takeDigits_41 : decode b_R_takeDigits 41 = .ok (.getfield 46, 3) := by decide +kernel
theorem d_R_takeDigits_44 : decode b_R_takeDigits 44 = .ok (.isub, 1) := by decide +kernel
theorem d_R_takeDigits_45 : decode b_R_takeDigits 45 = .ok (.iconst 3, 1) := by decide +kernel
theorem d_R_takeDigits_46 : decode b_R_takeDigits 46 = .ok (.if_icmp .ge 29, 3) := by decide +kernel
theorem d_R_takeDigits_49 : decode b_R_takeDigits 49 = .ok (.aload_n 0, 1) := by decide +kernel
theorem d_R_takeDigits_50 : decode b_R_takeDigits 50 = .ok (.aload_n 0, 1) := by decide +kernel
theorem d_R_takeDigits_51 : decode b_R_takeDigits 51 = .ok (.getfield 74, 3) := by decide +kernel
theorem d_R_takeDigits_54 : decode b_R_takeDigits 54 = .ok (.bipush 10, 2) := by decide +kernel
theorem d_R_takeDigits_56 : decode b_R_takeDigits 56 = .ok (.imul, 1) := by decide +kernel
theorem d_R_takeDigits_57 : decode b_R_takeDigits 57 = .ok (.aload_n 0, 1) := by decide +kernel
theorem d_R_takeDigits_58 : decode b_R_takeDigits 58 = .ok (.getfield 9, 3) := by decide +kernel
theorem d_R_takeDigits_61 : decode b_R_takeDigits 61 = .ok (.aload_n 0, 1) := by decide +kernel
theorem d_R_takeDigits_62 : decode b_R_takeDigits 62 = .ok (.getfield 31, 3) := by decide +kernel
theorem d_R_takeDigits_65 : decode b_R_takeDigits 65 = .ok (.invokevirtual 52, 3) := by decide +kernel
theorem d_R_takeDigits_68 : decode b_R_takeDigits 68 = .ok (.bipush 48, 2) := by decide +kernel
theorem d_R_takeDigits_70 : decode b_R_takeDigits 70 = .ok (.isub, 1) := by decide +kernel
theorem d_R_takeDigits_71 : decode b_R_takeDigits 71 = .ok (.iadd, 1) := by decide +kernel
theorem d_R_takeDigits_72 : decode b_R_takeDigits 72 = .ok (.putfield 74, 3) := by decide +kernel
theorem d_R_takeDigits_75 : decode b_R_takeDigits 75 = .ok (.aload_n 0, 1) := by decide +kernel
theorem d_R_takeDigits_76 : decode b_R_takeDigits 76 = .ok (.dup, 1) := by decide +kernel
theorem d_R_takeDigits_77 : decode b_R_takeDigits 77 = .ok (.getfield 31, 3) := by decide +kernel
theorem d_R_takeDigits_80 : decode b_R_takeDigits 80 = .ok (.iconst 1, 1) := by decide +kernel
theorem d_R_takeDigits_81 : decode b_R_takeDigits 81 = .ok (.iadd, 1) := by decide +kernel
theorem d_R_takeDigits_82 : decode b_R_takeDigits 82 = .ok (.putfield 31, 3) := by decide +kernel
theorem d_R_takeDigits_85 : decode b_R_takeDigits 85 = .ok (.goto (-80), 3) := by decide +kernel
theorem d_R_takeDigits_88 : decode b_R_takeDigits 88 = .ok (.aload_n 0, 1) := by decide +kernel
theorem d_R_takeDigits_89 : decode b_R_takeDigits 89 = .ok (.aload_n 0, 1) := by decide +kernel
theorem d_R_takeDigits_90 : decode b_R_takeDigits 90 = .ok (.getfield 31, 3) := by decide +kernel
theorem d_R_takeDigits_93 : decode b_R_takeDigits 93 = .ok (.aload_n 0, 1) := by decide +kernel
theorem d_R_takeDigits_94 : decode b_R_takeDigits 94 = .ok (.getfield 46, 3) := by decide +kernel
theorem d_R_takeDigits_97 : decode b_R_takeDigits 97 = .ok (.isub, 1) := by decide +kernel
theorem d_R_takeDigits_98 : decode b_R_takeDigits 98 = .ok (.iconst 3, 1) := by decide +kernel
theorem d_R_takeDigits_99 : decode b_R_takeDigits 99 = .ok (.if_icmp .gt 8, 3) := by decide +kernel
theorem d_R_takeDigits_102 : decode b_R_takeDigits 102 = .ok (.bipush (-2), 2) := by decide +kernel
theorem d_R_takeDigits_104 : decode b_R_takeDigits 104 = .ok (.goto 5, 3) := by decide +kernel
theorem d_R_takeDigits_107 : decode b_R_takeDigits 107 = .ok (.bipush (-3), 2) := by decide +kernel
theorem d_R_takeDigits_109 : decode b_R_takeDigits 109 = .ok (.putfield 37, 3) := by decide +kernel
theorem d_R_takeDigits_112 : decode b_R_takeDigits 112 = .ok (.return_, 1) := by decide +kernel
theorem d_R_isBlank_0 : decode b_R_isBlank 0 = .ok (.iload_n 0, 1) := by decide +kernel
theorem d_R_isBlank_1 : decode b_R_isBlank 1 = .ok (.bipush 32, 2) := by decide +kernel
theorem d_R_isBlank_3 : decode b_R_isBlank 3 = .ok (.if_icmp .eq 9, 3) := by decide +kernel
theorem d_R_isBlank_6 : decode b_R_isBlank 6 = .ok (.iload_n 0, 1) := by decide +kernel
theorem d_R_isBlank_7 : decode b_R_isBlank 7 = .ok (.bipush 10, 2) := by decide +kernel
theorem d_R_isBlank_9 : decode b_R_isBlank 9 = .ok (.if_icmp .ne 7, 3) := by decide +kernel
theorem d_R_isBlank_12 : decode b_R_isBlank 12 = .ok (.iconst 1, 1) := by decide +kernel
theorem d_R_isBlank_13 : decode b_R_isBlank 13 = .ok (.goto 4, 3) := by decide +kernel
theorem d_R_isBlank_16 : decode b_R_isBlank 16 = .ok (.iconst 0, 1) := by decide +kernel
theorem d_R_isBlank_17 : decode b_R_isBlank 17 = .ok (.ireturn, 1) := by decide +kernel
theorem d_R_isDigit_0 : decode b_R_isDigit 0 = .ok (.iload_n 0, 1) := by decide +kernel
theorem d_R_isDigit_1 : decode b_R_isDigit 1 = .ok (.bipush 48, 2) := by decide +kernel
theorem d_R_isDigit_3 : decode b_R_isDigit 3 = .ok (.if_icmp .lt 13, 3) := by decide +kernel
theorem d_R_isDigit_6 : decode b_R_isDigit 6 = .ok (.iload_n 0, 1) := by decide +kernel
theorem d_R_isDigit_7 : decode b_R_isDigit 7 = .ok (.bipush 57, 2) := by decide +kernel
theorem d_R_isDigit_9 : decode b_R_isDigit 9 = .ok (.if_icmp .gt 7, 3) := by decide +kernel
theorem d_R_isDigit_12 : decode b_R_isDigit 12 = .ok (.iconst 1, 1) := by decide +kernel
theorem d_R_isDigit_13 : decode b_R_isDigit 13 = .ok (.goto 4, 3) := by decide +kernel
theorem d_R_isDigit_16 : decode b_R_isDigit 16 = .ok (.iconst 0, 1) := by decide +kernel
theorem d_R_isDigit_17 : decode b_R_isDigit 17 = .ok (.ireturn, 1) := by decide +kernel
theorem d_R_isSign_0 : decode b_R_isSign 0 = .ok (.iload_n 0, 1) := by decide +kernel
theorem d_R_isSign_1 : decode b_R_isSign 1 = .ok (.bipush 99, 2) := by decide +kernel
theorem d_R_isSign_3 : decode b_R_isSign 3 = .ok (.if_icmp .eq 27, 3) := by decide +kernel
theorem d_R_isSign_6 : decode b_R_isSign 6 = .ok (.iload_n 0, 1) := by decide +kernel
theorem d_R_isSign_7 : decode b_R_isSign 7 = .ok (.bipush 114, 2) := by decide +kernel
theorem d_R_isSign_9 : decode b_R_isSign 9 = .ok (.if_icmp .eq 21, 3) := by decide +kernel
theorem d_R_isSign_12 : decode b_R_isSign 12 = .ok (.iload_n 0, 1) := by decide +kernel
theorem d_R_isSign_13 : decode b_R_isSign 13 = .ok (.bipush 58, 2) := by decide +kernel
theorem d_R_isSign_15 : decode b_R_isSign 15 = .ok (.if_icmp .eq 15, 3) := by decide +kernel
theorem d_R_isSign_18 : decode b_R_isSign 18 = .ok (.iload_n 0, 1) := by decide +kernel
theorem d_R_isSign_19 : decode b_R_isSign 19 = .ok (.bipush 59, 2) := by decide +kernel
theorem d_R_isSign_21 : decode b_R_isSign 21 = .ok (.if_icmp .eq 9, 3) := by decide +kernel
theorem d_R_isSign_24 : decode b_R_isSign 24 = .ok (.iload_n 0, 1) := by decide +kernel
theorem d_R_isSign_25 : decode b_R_isSign 25 = .ok (.bipush 45, 2) := by decide +kernel
theorem d_R_isSign_27 : decode b_R_isSign 27 = .ok (.if_icmp .ne 7, 3) := by decide +kernel
theorem d_R_isSign_30 : decode b_R_isSign 30 = .ok (.iconst 1, 1) := by decide +kernel
theorem d_R_isSign_31 : decode b_R_isSign 31 = .ok (.goto 4, 3) := by decide +kernel
theorem d_R_isSign_34 : decode b_R_isSign 34 = .ok (.iconst 0, 1) := by decide +kernel
theorem d_R_isSign_35 : decode b_R_isSign 35 = .ok (.ireturn, 1) := by decide +kernel
theorem d_R_takeToken_0 : decode b_R_takeToken 0 = .ok (.aload_n 0, 1) := by decide +kernel
theorem d_R_takeToken_1 : decode b_R_takeToken 1 = .ok (.getfield 34, 3) := by decide +kernel
theorem d_R_takeToken_4 : decode b_R_takeToken 4 = .ok (.tableswitch 80 0 8 #[52, 80, 59, 66, 80, 80, 80, 80, 73], 52) := by decide +kernel
theorem d_R_takeToken_56 : decode b_R_takeToken 56 = .ok (.aload_n 0, 1) := by decide +kernel
theorem d_R_takeToken_57 : decode b_R_takeToken 57 = .ok (.invokevirtual 77, 3) := by decide +kernel
theorem d_R_takeToken_60 : decode b_R_takeToken 60 = .ok (.goto 28, 3) := by decide +kernel
theorem d_R_takeToken_63 : decode b_R_takeToken 63 = .ok (.aload_n 0, 1) := by decide +kernel
theorem d_R_takeToken_64 : decode b_R_takeToken 64 = .ok (.invokevirtual 80, 3) := by decide +kernel
theorem d_R_takeToken_67 : decode b_R_takeToken 67 = .ok (.goto 21, 3) := by decide +kernel
theorem d_R_takeToken_70 : decode b_R_takeToken 70 = .ok (.aload_n 0, 1) := by decide +kernel
theorem d_R_takeToken_71 : decode b_R_takeToken 71 = .ok (.invokevirtual 83, 3) := by decide +kernel
theorem d_R_takeToken_74 : decode b_R_takeToken 74 = .ok (.goto 14, 3) := by decide +kernel
theorem d_R_takeToken_77 : decode b_R_takeToken 77 = .ok (.aload_n 0, 1) := by decide +kernel
theorem d_R_takeToken_78 : decode b_R_takeToken 78 = .ok (.invokevirtual 86, 3) := by decide +kernel
theorem d_R_takeToken_81 : decode b_R_takeToken 81 = .ok (.goto 7, 3) := by decide +kernel
theorem d_R_takeToken_84 : decode b_R_takeToken 84 = .ok (.aload_n 0, 1) := by decide +kernel
theorem d_R_takeToken_85 : decode b_R_takeToken 85 = .ok (.invokevirtual 89, 3) := by decide +kernel
theorem d_R_takeToken_88 : decode b_R_takeToken 88 = .ok (.return_, 1) := by decide +kernel
theorem d_R_takeStart_0 : decode b_R_takeStart 0 = .ok (.aload_n 0, 1) := by decide +kernel
theorem d_R_takeStart_1 : decode b_R_takeStart 1 = .ok (.getfield 37, 3) := by decide +kernel
theorem d_R_takeStart_4 : decode b_R_takeStart 4 = .ok (.bipush 99, 2) := by decide +kernel
theorem d_R_takeStart_6 : decode b_R_takeStart 6 = .ok (.if_icmp .ne 10, 3) := by decide +kernel
theorem d_R_takeStart_9 : decode b_R_takeStart 9 = .ok (.aload_n 0, 1) := by decide +kernel
theorem d_R_takeStart_10 : decode b_R_takeStart 10 = .ok (.invokevirtual 92, 3) := by decide +kernel
theorem d_R_takeStart_13 : decode b_R_takeStart 13 = .ok (.goto 32, 3) := by decide +kernel
theorem d_R_takeStart_16 : decode b_R_takeStart 16 = .ok (.aload_n 0, 1) := by decide +kernel
theorem d_R_takeStart_17 : decode b_R_takeStart 17 = .ok (.getfield 37, 3) := by decide +kernel
theorem d_R_takeStart_20 : decode b_R_takeStart 20 = .ok (.bipush 114, 2) := by decide +kernel
theorem d_R_takeStart_22 : decode b_R_takeStart 22 = .ok (.if_icmp .ne 10, 3) := by decide +kernel
theorem d_R_takeStart_25 : decode b_R_takeStart 25 = .ok (.aload_n 0, 1) := by decide +kernel
theorem d_R_takeStart_26 : decode b_R_takeStart 26 = .ok (.invokevirtual 95, 3) := by decide +kernel
theorem d_R_takeStart_29 : decode b_R_takeStart 29 = .ok (.goto 16, 3) := by decide +kernel
theorem d_R_takeStart_32 : decode b_R_takeStart 32 = .ok (.aload_n 0, 1) := by decide +kernel
theorem d_R_takeStart_33 : decode b_R_takeStart 33 = .ok (.getfield 37, 3) := by decide +kernel
theorem d_R_takeStart_36 : decode b_R_takeStart 36 = .ok (.iconst (-1), 1) := by decide +kernel
theorem d_R_takeStart_37 : decode b_R_takeStart 37 = .ok (.if_icmp .eq 8, 3) := by decide +kernel
theorem d_R_takeStart_40 : decode b_R_takeStart 40 = .ok (.aload_n 0, 1) := by decide +kernel
theorem d_R_takeStart_41 : decode b_R_takeStart 41 = .ok (.iconst 1, 1) := by decide +kernel
theorem d_R_takeStart_42 : decode b_R_takeStart 42 = .ok (.invokevirtual 98, 3) := by decide +kernel
theorem d_R_takeStart_45 : decode b_R_takeStart 45 = .ok (.return_, 1) := by decide +kernel
theorem d_R_openGiven_0 : decode b_R_openGiven 0 = .ok (.aload_n 0, 1) := by decide +kernel
theorem d_R_openGiven_1 : decode b_R_openGiven 1 = .ok (.getfield 15, 3) := by decide +kernel
theorem d_R_openGiven_4 : decode b_R_openGiven 4 = .ok (.invokevirtual 102, 3) := by decide +kernel
theorem d_R_openGiven_7 : decode b_R_openGiven 7 = .ok (.ifCond .eq 11, 3) := by decide +kernel
theorem d_R_openGiven_10 : decode b_R_openGiven 10 = .ok (.aload_n 0, 1) := by decide +kernel
theorem d_R_openGiven_11 : decode b_R_openGiven 11 = .ok (.iconst 1, 1) := by decide +kernel
theorem d_R_openGiven_12 : decode b_R_openGiven 12 = .ok (.putfield 34, 3) := by decide +kernel
theorem d_R_openGiven_15 : decode b_R_openGiven 15 = .ok (.goto 9, 3) := by decide +kernel
theorem d_R_openGiven_18 : decode b_R_openGiven 18 = .ok (.aload_n 0, 1) := by decide +kernel
theorem d_R_openGiven_19 : decode b_R_openGiven 19 = .ok (.bipush 6, 2) := by decide +kernel
theorem d_R_openGiven_21 : decode b_R_openGiven 21 = .ok (.invokevirtual 98, 3) := by decide +kernel
theorem d_R_openGiven_24 : decode b_R_openGiven 24 = .ok (.return_, 1) := by decide +kernel
theorem d_R_openResolvent_0 : decode b_R_openResolvent 0 = .ok (.aload_n 0, 1) := by decide +kernel
theorem d_R_openResolvent_1 : decode b_R_openResolvent 1 = .ok (.getfield 15, 3) := by decide +kernel
theorem d_R_openResolvent_4 : decode b_R_openResolvent 4 = .ok (.invokevirtual 106, 3) := by decide +kernel
theorem d_R_openResolvent_7 : decode b_R_openResolvent 7 = .ok (.ifCond .eq 11, 3) := by decide +kernel
theorem d_R_openResolvent_10 : decode b_R_openResolvent 10 = .ok (.aload_n 0, 1) := by decide +kernel
theorem d_R_openResolvent_11 : decode b_R_openResolvent 11 = .ok (.iconst 5, 1) := by decide +kernel
theorem d_R_openResolvent_12 : decode b_R_openResolvent 12 = .ok (.putfield 34, 3) := by decide +kernel
theorem d_R_openResolvent_15 : decode b_R_openResolvent 15 = .ok (.goto 9, 3) := by decide +kernel
theorem d_R_openResolvent_18 : decode b_R_openResolvent 18 = .ok (.aload_n 0, 1) := by decide +kernel
theorem d_R_openResolvent_19 : decode b_R_openResolvent 19 = .ok (.bipush 6, 2) := by decide +kernel
theorem d_R_openResolvent_21 : decode b_R_openResolvent 21 = .ok (.invokevirtual 98, 3) := by decide +kernel
theorem d_R_openResolvent_24 : decode b_R_openResolvent 24 = .ok (.return_, 1) := by decide +kernel
theorem d_R_takeColon_0 : decode b_R_takeColon 0 = .ok (.aload_n 0, 1) := by decide +kernel
theorem d_R_takeColon_1 : decode b_R_takeColon 1 = .ok (.getfield 37, 3) := by decide +kernel
theorem d_R_takeColon_4 : decode b_R_takeColon 4 = .ok (.bipush 58, 2) := by decide +kernel
theorem d_R_takeColon_6 : decode b_R_takeColon 6 = .ok (.if_icmp .ne 21, 3) := by decide +kernel
theorem d_R_takeColon_9 : decode b_R_takeColon 9 = .ok (.aload_n 0, 1) := by decide +kernel
theorem d_R_takeColon_10 : decode b_R_takeColon 10 = .ok (.iconst 0, 1) := by decide +kernel
theorem d_R_takeColon_11 : decode b_R_takeColon 11 = .ok (.putfield 109, 3) := by decide +kernel
theorem d_R_takeColon_14 : decode b_R_takeColon 14 = .ok (.aload_n 0, 1) := by decide +kernel
theorem d_R_takeColon_15 : decode b_R_takeColon 15 = .ok (.iconst 0, 1) := by decide +kernel
theorem d_R_takeColon_16 : decode b_R_takeColon 16 = .ok (.putfield 112, 3) := by decide +kernel
theorem d_R_takeColon_19 : decode b_R_takeColon 19 = .ok (.aload_n 0, 1) := by decide +kernel
theorem d_R_takeColon_20 : decode b_R_takeColon 20 = .ok (.iconst 3, 1) := by decide +kernel
theorem d_R_takeColon_21 : decode b_R_takeColon 21 = .ok (.putfield 34, 3) := by decide +kernel
theorem d_R_takeColon_24 : decode b_R_takeColon 24 = .ok (.goto 8, 3) := by decide +kernel
theorem d_R_takeColon_27 : decode b_R_takeColon 27 = .ok (.aload_n 0, 1) := by decide +kernel
theorem d_R_takeColon_28 : decode b_R_takeColon 28 = .ok (.iconst 1, 1) := by decide +kernel
theorem d_R_takeColon_29 : decode b_R_takeColon 29 = .ok (.invokevirtual 98, 3) := by decide +kernel
theorem d_R_takeColon_32 : decode b_R_takeColon 32 = .ok (.return_, 1) := by decide +kernel
theorem d_R_takeInsideClause_0 : decode b_R_takeInsideClause 0 = .ok (.aload_n 0, 1) := by decide +kernel
theorem d_R_takeInsideClause_1 : decode b_R_takeInsideClause 1 = .ok (.getfield 37, 3) := by decide +kernel
theorem d_R_takeInsideClause_4 : decode b_R_takeInsideClause 4 = .ok (.bipush 45, 2) := by decide +kernel
theorem d_R_takeInsideClause_6 : decode b_R_takeInsideClause 6 = .ok (.if_icmp .ne 11, 3) := by decide +kernel
theorem d_R_takeInsideClause_9 : decode b_R_takeInsideClause 9 = .ok (.aload_n 0, 1) := by decide +kernel
theorem d_R_takeInsideClause_10 : decode b_R_takeInsideClause 10 = .ok (.iconst 4, 1) := by decide +kernel
theorem d_R_takeInsideClause_11 : decode b_R_takeInsideClause 11 = .ok (.putfield 34, 3) := by decide +kernel
theorem d_R_takeInsideClause_14 : decode b_R_takeInsideClause 14 = .ok (.goto 43, 3) := by decide +kernel
theorem d_R_takeInsideClause_17 : decode b_R_takeInsideClause 17 = .ok (.aload_n 0, 1) := by decide +kernel
theorem d_R_takeInsideClause_18 : decode b_R_takeInsideClause 18 = .ok (.getfield 37, 3) := by decide +kernel
theorem d_R_takeInsideClause_21 : decode b_R_takeInsideClause 21 = .ok (.bipush 59, 2) := by decide +kernel
theorem d_R_takeInsideClause_23 : decode b_R_takeInsideClause 23 = .ok (.if_icmp .ne 30, 3) := by decide +kernel
theorem d_R_takeInsideClause_26 : decode b_R_takeInsideClause 26 = .ok (.aload_n 0, 1) := by decide +kernel
theorem d_R_takeInsideClause_27 : decode b_R_takeInsideClause 27 = .ok (.getfield 15, 3) := by decide +kernel
theorem d_R_takeInsideClause_30 : decode b_R_takeInsideClause 30 = .ok (.aload_n 0, 1) := by decide +kernel
theorem d_R_takeInsideClause_31 : decode b_R_takeInsideClause 31 = .ok (.getfield 115, 3) := by decide +kernel
theorem d_R_takeInsideClause_34 : decode b_R_takeInsideClause 34 = .ok (.aload_n 0, 1) := by decide +kernel
theorem d_R_takeInsideClause_35 : decode b_R_takeInsideClause 35 = .ok (.getfield 109, 3) := by decide +kernel
theorem d_R_takeInsideClause_38 : decode b_R_takeInsideClause 38 = .ok (.aload_n 0, 1) := by decide +kernel
theorem d_R_takeInsideClause_39 : decode b_R_takeInsideClause 39 = .ok (.getfield 112, 3) := by decide +kernel
theorem d_R_takeInsideClause_42 : decode b_R_takeInsideClause 42 = .ok (.invokevirtual 118, 3) := by decide +kernel
theorem d_R_takeInsideClause_45 : decode b_R_takeInsideClause 45 = .ok (.aload_n 0, 1) := by decide +kernel
theorem d_R_takeInsideClause_46 : decode b_R_takeInsideClause 46 = .ok (.iconst 0, 1) := by decide +kernel
theorem d_R_takeInsideClause_47 : decode b_R_takeInsideClause 47 = .ok (.putfield 34, 3) := by decide +kernel
theorem d_R_takeInsideClause_50 : decode b_R_takeInsideClause 50 = .ok (.goto 7, 3) := by decide +kernel
theorem d_R_takeInsideClause_53 : decode b_R_takeInsideClause 53 = .ok (.aload_n 0, 1) := by decide +kernel
theorem d_R_takeInsideClause_54 : decode b_R_takeInsideClause 54 = .ok (.invokevirtual 89, 3) := by decide +kernel
theorem d_R_takeInsideClause_57 : decode b_R_takeInsideClause 57 = .ok (.return_, 1) := by decide +kernel
theorem d_R_takeClose_0 : decode b_R_takeClose 0 = .ok (.aload_n 0, 1) := by decide +kernel
theorem d_R_takeClose_1 : decode b_R_takeClose 1 = .ok (.getfield 37, 3) := by decide +kernel
theorem d_R_takeClose_4 : decode b_R_takeClose 4 = .ok (.bipush 59, 2) := by decide +kernel
theorem d_R_takeClose_6 : decode b_R_takeClose 6 = .ok (.if_icmp .ne 30, 3) := by decide +kernel
theorem d_R_takeClose_9 : decode b_R_takeClose 9 = .ok (.aload_n 0, 1) := by decide +kernel
theorem d_R_takeClose_10 : decode b_R_takeClose 10 = .ok (.getfield 15, 3) := by decide +kernel
theorem d_R_takeClose_13 : decode b_R_takeClose 13 = .ok (.aload_n 0, 1) := by decide +kernel
theorem d_R_takeClose_14 : decode b_R_takeClose 14 = .ok (.getfield 122, 3) := by decide +kernel
theorem d_R_takeClose_17 : decode b_R_takeClose 17 = .ok (.aload_n 0, 1) := by decide +kernel
theorem d_R_takeClose_18 : decode b_R_takeClose 18 = .ok (.getfield 125, 3) := by decide +kernel
theorem d_R_takeClose_21 : decode b_R_takeClose 21 = .ok (.aload_n 0, 1) := by decide +kernel
theorem d_R_takeClose_22 : decode b_R_takeClose 22 = .ok (.getfield 128, 3) := by decide +kernel
theorem d_R_takeClose_25 : decode b_R_takeClose 25 = .ok (.invokevirtual 131, 3) := by decide +kernel
theorem d_R_takeClose_28 : decode b_R_takeClose 28 = .ok (.aload_n 0, 1) := by decide +kernel
theorem d_R_takeClose_29 : decode b_R_takeClose 29 = .ok (.iconst 0, 1) := by decide +kernel
theorem d_R_takeClose_30 : decode b_R_takeClose 30 = .ok (.putfield 34, 3) := by decide +kernel
theorem d_R_takeClose_33 : decode b_R_takeClose 33 = .ok (.goto 8, 3) := by decide +kernel
theorem d_R_takeClose_36 : decode b_R_takeClose 36 = .ok (.aload_n 0, 1) := by decide +kernel
theorem d_R_takeClose_37 : decode b_R_takeClose 37 = .ok (.iconst 1, 1) := by decide +kernel
theorem d_R_takeClose_38 : decode b_R_takeClose 38 = .ok (.invokevirtual 98, 3) := by decide +kernel
theorem d_R_takeClose_41 : decode b_R_takeClose 41 = .ok (.return_, 1) := by decide +kernel
theorem d_R_takeNumber_0 : decode b_R_takeNumber 0 = .ok (.aload_n 0, 1) := by decide +kernel
theorem d_R_takeNumber_1 : decode b_R_takeNumber 1 = .ok (.getfield 37, 3) := by decide +kernel
theorem d_R_takeNumber_4 : decode b_R_takeNumber 4 = .ok (.bipush (-2), 2) := by decide +kernel
theorem d_R_takeNumber_6 : decode b_R_takeNumber 6 = .ok (.if_icmp .eq 9, 3) := by decide +kernel
theorem d_R_takeNumber_9 : decode b_R_takeNumber 9 = .ok (.aload_n 0, 1) := by decide +kernel
theorem d_R_takeNumber_10 : decode b_R_takeNumber 10 = .ok (.iconst 1, 1) := by decide +kernel
theorem d_R_takeNumber_11 : decode b_R_takeNumber 11 = .ok (.invokevirtual 98, 3) := by decide +kernel
theorem d_R_takeNumber_14 : decode b_R_takeNumber 14 = .ok (.return_, 1) := by decide +kernel
theorem d_R_takeNumber_15 : decode b_R_takeNumber 15 = .ok (.aload_n 0, 1) := by decide +kernel
theorem d_R_takeNumber_16 : decode b_R_takeNumber 16 = .ok (.getfield 34, 3) := by decide +kernel
theorem d_R_takeNumber_19 : decode b_R_takeNumber 19 = .ok (.tableswitch 69 1 7 #[41, 69, 69, 69, 48, 55, 62], 41) := by decide +kernel
theorem d_R_takeNumber_60 : decode b_R_takeNumber 60 = .ok (.aload_n 0, 1) := by decide +kernel
theorem d_R_takeNumber_61 : decode b_R_takeNumber 61 = .ok (.invokevirtual 134, 3) := by decide +kernel
theorem d_R_takeNumber_64 : decode b_R_takeNumber 64 = .ok (.goto 28, 3) := by decide +kernel
theorem d_R_takeNumber_67 : decode b_R_takeNumber 67 = .ok (.aload_n 0, 1) := by decide +kernel
theorem d_R_takeNumber_68 : decode b_R_takeNumber 68 = .ok (.invokevirtual 137, 3) := by decide +kernel
theorem d_R_takeNumber_71 : decode b_R_takeNumber 71 = .ok (.goto 21, 3) := by decide +kernel
theorem d_R_takeNumber_74 : decode b_R_takeNumber 74 = .ok (.aload_n 0, 1) := by decide +kernel
theorem d_R_takeNumber_75 : decode b_R_takeNumber 75 = .ok (.invokevirtual 140, 3) := by decide +kernel
theorem d_R_takeNumber_78 : decode b_R_takeNumber 78 = .ok (.goto 14, 3) := by decide +kernel
theorem d_R_takeNumber_81 : decode b_R_takeNumber 81 = .ok (.aload_n 0, 1) := by decide +kernel
theorem d_R_takeNumber_82 : decode b_R_takeNumber 82 = .ok (.invokevirtual 143, 3) := by decide +kernel
theorem d_R_takeNumber_85 : decode b_R_takeNumber 85 = .ok (.goto 7, 3) := by decide +kernel
theorem d_R_takeNumber_88 : decode b_R_takeNumber 88 = .ok (.aload_n 0, 1) := by decide +kernel
theorem d_R_takeNumber_89 : decode b_R_takeNumber 89 = .ok (.invokevirtual 146, 3) := by decide +kernel
theorem d_R_takeNumber_92 : decode b_R_takeNumber 92 = .ok (.return_, 1) := by decide +kernel
theorem d_R_takeBlock_0 : decode b_R_takeBlock 0 = .ok (.aload_n 0, 1) := by decide +kernel
theorem d_R_takeBlock_1 : decode b_R_takeBlock 1 = .ok (.getfield 74, 3) := by decide +kernel
theorem d_R_takeBlock_4 : decode b_R_takeBlock 4 = .ok (.iconst 1, 1) := by decide +kernel
theorem d_R_takeBlock_5 : decode b_R_takeBlock 5 = .ok (.if_icmp .lt 12, 3) := by decide +kernel
theorem d_R_takeBlock_8 : decode b_R_takeBlock 8 = .ok (.aload_n 0, 1) := by decide +kernel
theorem d_R_takeBlock_9 : decode b_R_takeBlock 9 = .ok (.getfield 74, 3) := by decide +kernel
theorem d_R_takeBlock_12 : decode b_R_takeBlock 12 = .ok (.bipush 8, 2) := by decide +kernel
theorem d_R_takeBlock_14 : decode b_R_takeBlock 14 = .ok (.if_icmp .le 9, 3) := by decide +kernel
theorem d_R_takeBlock_17 : decode b_R_takeBlock 17 = .ok (.aload_n 0, 1) := by decide +kernel
theorem d_R_takeBlock_18 : decode b_R_takeBlock 18 = .ok (.iconst 2, 1) := by decide +kernel
theorem d_R_takeBlock_19 : decode b_R_takeBlock 19 = .ok (.invokevirtual 98, 3) := by decide +kernel
theorem d_R_takeBlock_22 : decode b_R_takeBlock 22 = .ok (.return_, 1) := by decide +kernel
theorem d_R_takeBlock_23 : decode b_R_takeBlock 23 = .ok (.aload_n 0, 1) := by decide +kernel
theorem d_R_takeBlock_24 : decode b_R_takeBlock 24 = .ok (.aload_n 0, 1) := by decide +kernel
theorem d_R_takeBlock_25 : decode b_R_takeBlock 25 = .ok (.getfield 74, 3) := by decide +kernel
theorem d_R_takeBlock_28 : decode b_R_takeBlock 28 = .ok (.putfield 115, 3) := by decide +kernel
theorem d_R_takeBlock_31 : decode b_R_takeBlock 31 = .ok (.aload_n 0, 1) := by decide +kernel
theorem d_R_takeBlock_32 : decode b_R_takeBlock 32 = .ok (.iconst 2, 1) := by decide +kernel
theorem d_R_takeBlock_33 : decode b_R_takeBlock 33 = .ok (.putfield 34, 3) := by decide +kernel
theorem d_R_takeBlock_36 : decode b_R_takeBlock 36 = .ok (.return_, 1) := by decide +kernel
theorem d_R_takeLiteral_0 : decode b_R_takeLiteral 0 = .ok (.aload_n 0, 1) := by decide +kernel
theorem d_R_takeLiteral_1 : decode b_R_takeLiteral 1 = .ok (.getfield 74, 3) := by decide +kernel
theorem d_R_takeLiteral_4 : decode b_R_takeLiteral 4 = .ok (.invokestatic 149, 3) := by decide +kernel
theorem d_R_takeLiteral_7 : decode b_R_takeLiteral 7 = .ok (.ifCond .ne 9, 3) := by decide +kernel
theorem d_R_takeLiteral_10 : decode b_R_takeLiteral 10 = .ok (.aload_n 0, 1) := by decide +kernel
theorem d_R_takeLiteral_11 : decode b_R_takeLiteral 11 = .ok (.iconst 2, 1) := by decide +kernel
theorem d_R_takeLiteral_12 : decode b_R_takeLiteral 12 = .ok (.invokevirtual 98, 3) := by decide +kernel
theorem d_R_takeLiteral_15 : decode b_R_takeLiteral 15 = .ok (.return_, 1) := by decide +kernel
theorem d_R_takeLiteral_16 : decode b_R_takeLiteral 16 = .ok (.aload_n 0, 1) := by decide +kernel
theorem d_R_takeLiteral_17 : decode b_R_takeLiteral 17 = .ok (.getfield 74, 3) := by decide +kernel
theorem d_R_takeLiteral_20 : decode b_R_takeLiteral 20 = .ok (.invokestatic 152, 3) := by decide +kernel
theorem d_R_takeLiteral_23 : decode b_R_takeLiteral 23 = .ok (.istore_n 1, 1) := by decide +kernel
theorem d_R_takeLiteral_24 : decode b_R_takeLiteral 24 = .ok (.aload_n 0, 1) := by decide +kernel
theorem d_R_takeLiteral_25 : decode b_R_takeLiteral 25 = .ok (.getfield 109, 3) := by decide +kernel
theorem d_R_takeLiteral_28 : decode b_R_takeLiteral 28 = .ok (.aload_n 0, 1) := by decide +kernel
theorem d_R_takeLiteral_29 : decode b_R_takeLiteral 29 = .ok (.getfield 112, 3) := by decide +kernel
theorem d_R_takeLiteral_32 : decode b_R_takeLiteral 32 = .ok (.ior, 1) := by decide +kernel
theorem d_R_takeLiteral_33 : decode b_R_takeLiteral 33 = .ok (.iload_n 1, 1) := by decide +kernel
theorem d_R_takeLiteral_34 : decode b_R_takeLiteral 34 = .ok (.iand, 1) := by decide +kernel
theorem d_R_takeLiteral_35 : decode b_R_takeLiteral 35 = .ok (.ifCond .eq 11, 3) := by decide +kernel
theorem d_R_takeLiteral_38 : decode b_R_takeLiteral 38 = .ok (.aload_n 0, 1) := by decide +kernel
theorem d_R_takeLiteral_39 : decode b_R_takeLiteral 39 = .ok (.iconst 3, 1) := by decide +kernel
theorem d_R_takeLiteral_40 : decode b_R_takeLiteral 40 = .ok (.invokevirtual 98, 3) := by decide +kernel
theorem d_R_takeLiteral_43 : decode b_R_takeLiteral 43 = .ok (.goto 34, 3) := by decide +kernel
theorem d_R_takeLiteral_46 : decode b_R_takeLiteral 46 = .ok (.aload_n 0, 1) := by decide +kernel
theorem d_R_takeLiteral_47 : decode b_R_takeLiteral 47 = .ok (.getfield 34, 3) := by decide +kernel
theorem d_R_takeLiteral_50 : decode b_R_takeLiteral 50 = .ok (.iconst 4, 1) := by decide +kernel
theorem d_R_takeLiteral_51 : decode b_R_takeLiteral 51 = .ok (.if_icmp .ne 16, 3) := by decide +kernel
theorem d_R_takeLiteral_54 : decode b_R_takeLiteral 54 = .ok (.aload_n 0, 1) := by decide +kernel
theorem d_R_takeLiteral_55 : decode b_R_takeLiteral 55 = .ok (.dup, 1) := by decide +kernel
theorem d_R_takeLiteral_56 : decode b_R_takeLiteral 56 = .ok (.getfield 112, 3) := by decide +kernel
theorem d_R_takeLiteral_59 : decode b_R_takeLiteral 59 = .ok (.iload_n 1, 1) := by decide +kernel
theorem d_R_takeLiteral_60 : decode b_R_takeLiteral 60 = .ok (.ior, 1) := by decide +kernel
theorem d_R_takeLiteral_61 : decode b_R_takeLiteral 61 = .ok (.putfield 112, 3) := by decide +kernel
theorem d_R_takeLiteral_64 : decode b_R_takeLiteral 64 = .ok (.goto 13, 3) := by decide +kernel
theorem d_R_takeLiteral_67 : decode b_R_takeLiteral 67 = .ok (.aload_n 0, 1) := by decide +kernel
theorem d_R_takeLiteral_68 : decode b_R_takeLiteral 68 = .ok (.dup, 1) := by decide +kernel
theorem d_R_takeLiteral_69 : decode b_R_takeLiteral 69 = .ok (.getfield 109, 3) := by decide +kernel
theorem d_R_takeLiteral_72 : decode b_R_takeLiteral 72 = .ok (.iload_n 1, 1) := by decide +kernel
theorem d_R_takeLiteral_73 : decode b_R_takeLiteral 73 = .ok (.ior, 1) := by decide +kernel
theorem d_R_takeLiteral_74 : decode b_R_takeLiteral 74 = .ok (.putfield 109, 3) := by decide +kernel
theorem d_R_takeLiteral_77 : decode b_R_takeLiteral 77 = .ok (.aload_n 0, 1) := by decide +kernel
theorem d_R_takeLiteral_78 : decode b_R_takeLiteral 78 = .ok (.iconst 3, 1) := by decide +kernel
theorem d_R_takeLiteral_79 : decode b_R_takeLiteral 79 = .ok (.putfield 34, 3) := by decide +kernel
theorem d_R_takeLiteral_82 : decode b_R_takeLiteral 82 = .ok (.return_, 1) := by decide +kernel
theorem d_R_takeLeft_0 : decode b_R_takeLeft 0 = .ok (.aload_n 0, 1) := by decide +kernel
theorem d_R_takeLeft_1 : decode b_R_takeLeft 1 = .ok (.getfield 15, 3) := by decide +kernel
theorem d_R_takeLeft_4 : decode b_R_takeLeft 4 = .ok (.aload_n 0, 1) := by decide +kernel
theorem d_R_takeLeft_5 : decode b_R_takeLeft 5 = .ok (.getfield 74, 3) := by decide +kernel
theorem d_R_takeLeft_8 : decode b_R_takeLeft 8 = .ok (.invokevirtual 155, 3) := by decide +kernel
theorem d_R_takeLeft_11 : decode b_R_takeLeft 11 = .ok (.ifCond .ne 9, 3) := by decide +kernel
theorem d_R_takeLeft_14 : decode b_R_takeLeft 14 = .ok (.aload_n 0, 1) := by decide +kernel
theorem d_R_takeLeft_15 : decode b_R_takeLeft 15 = .ok (.iconst 2, 1) := by decide +kernel
theorem d_R_takeLeft_16 : decode b_R_takeLeft 16 = .ok (.invokevirtual 98, 3) := by decide +kernel
theorem d_R_takeLeft_19 : decode b_R_takeLeft 19 = .ok (.return_, 1) := by decide +kernel
theorem d_R_takeLeft_20 : decode b_R_takeLeft 20 = .ok (.aload_n 0, 1) := by decide +kernel
theorem d_R_takeLeft_21 : decode b_R_takeLeft 21 = .ok (.aload_n 0, 1) := by decide +kernel
theorem d_R_takeLeft_22 : decode b_R_takeLeft 22 = .ok (.getfield 74, 3) := by decide +kernel
theorem d_R_takeLeft_25 : decode b_R_takeLeft 25 = .ok (.putfield 122, 3) := by decide +kernel
theorem d_R_takeLeft_28 : decode b_R_takeLeft 28 = .ok (.aload_n 0, 1) := by decide +kernel
theorem d_R_takeLeft_29 : decode b_R_takeLeft 29 = .ok (.bipush 6, 2) := by decide +kernel
theorem d_R_takeLeft_31 : decode b_R_takeLeft 31 = .ok (.putfield 34, 3) := by decide +kernel
theorem d_R_takeLeft_34 : decode b_R_takeLeft 34 = .ok (.return_, 1) := by decide +kernel
theorem d_R_takeRight_0 : decode b_R_takeRight 0 = .ok (.aload_n 0, 1) := by decide +kernel
theorem d_R_takeRight_1 : decode b_R_takeRight 1 = .ok (.getfield 15, 3) := by decide +kernel
theorem d_R_takeRight_4 : decode b_R_takeRight 4 = .ok (.aload_n 0, 1) := by decide +kernel
theorem d_R_takeRight_5 : decode b_R_takeRight 5 = .ok (.getfield 74, 3) := by decide +kernel
theorem d_R_takeRight_8 : decode b_R_takeRight 8 = .ok (.invokevirtual 155, 3) := by decide +kernel
theorem d_R_takeRight_11 : decode b_R_takeRight 11 = .ok (.ifCond .ne 9, 3) := by decide +kernel
theorem d_R_takeRight_14 : decode b_R_takeRight 14 = .ok (.aload_n 0, 1) := by decide +kernel
theorem d_R_takeRight_15 : decode b_R_takeRight 15 = .ok (.iconst 2, 1) := by decide +kernel
theorem d_R_takeRight_16 : decode b_R_takeRight 16 = .ok (.invokevirtual 98, 3) := by decide +kernel
theorem d_R_takeRight_19 : decode b_R_takeRight 19 = .ok (.return_, 1) := by decide +kernel
theorem d_R_takeRight_20 : decode b_R_takeRight 20 = .ok (.aload_n 0, 1) := by decide +kernel
theorem d_R_takeRight_21 : decode b_R_takeRight 21 = .ok (.aload_n 0, 1) := by decide +kernel
theorem d_R_takeRight_22 : decode b_R_takeRight 22 = .ok (.getfield 74, 3) := by decide +kernel
theorem d_R_takeRight_25 : decode b_R_takeRight 25 = .ok (.putfield 125, 3) := by decide +kernel
theorem d_R_takeRight_28 : decode b_R_takeRight 28 = .ok (.aload_n 0, 1) := by decide +kernel
theorem d_R_takeRight_29 : decode b_R_takeRight 29 = .ok (.bipush 7, 2) := by decide +kernel
theorem d_R_takeRight_31 : decode b_R_takeRight 31 = .ok (.putfield 34, 3) := by decide +kernel
theorem d_R_takeRight_34 : decode b_R_takeRight 34 = .ok (.return_, 1) := by decide +kernel
theorem d_R_takePivot_0 : decode b_R_takePivot 0 = .ok (.aload_n 0, 1) := by decide +kernel
theorem d_R_takePivot_1 : decode b_R_takePivot 1 = .ok (.getfield 74, 3) := by decide +kernel
theorem d_R_takePivot_4 : decode b_R_takePivot 4 = .ok (.invokestatic 149, 3) := by decide +kernel
theorem d_R_takePivot_7 : decode b_R_takePivot 7 = .ok (.ifCond .ne 11, 3) := by decide +kernel
theorem d_R_takePivot_10 : decode b_R_takePivot 10 = .ok (.aload_n 0, 1) := by decide +kernel
theorem d_R_takePivot_11 : decode b_R_takePivot 11 = .ok (.iconst 2, 1) := by decide +kernel
theorem d_R_takePivot_12 : decode b_R_takePivot 12 = .ok (.invokevirtual 98, 3) := by decide +kernel
theorem d_R_takePivot_15 : decode b_R_takePivot 15 = .ok (.goto 60, 3) := by decide +kernel
theorem d_R_takePivot_18 : decode b_R_takePivot 18 = .ok (.aload_n 0, 1) := by decide +kernel
theorem d_R_takePivot_19 : decode b_R_takePivot 19 = .ok (.getfield 15, 3) := by decide +kernel
theorem d_R_takePivot_22 : decode b_R_takePivot 22 = .ok (.aload_n 0, 1) := by decide +kernel
theorem d_R_takePivot_23 : decode b_R_takePivot 23 = .ok (.getfield 122, 3) := by decide +kernel
theorem d_R_takePivot_26 : decode b_R_takePivot 26 = .ok (.aload_n 0, 1) := by decide +kernel
theorem d_R_takePivot_27 : decode b_R_takePivot 27 = .ok (.getfield 125, 3) := by decide +kernel
theorem d_R_takePivot_30 : decode b_R_takePivot 30 = .ok (.aload_n 0, 1) := by decide +kernel
theorem d_R_takePivot_31 : decode b_R_takePivot 31 = .ok (.getfield 74, 3) := by decide +kernel
theorem d_R_takePivot_34 : decode b_R_takePivot 34 = .ok (.invokevirtual 158, 3) := by decide +kernel
theorem d_R_takePivot_37 : decode b_R_takePivot 37 = .ok (.ifCond .ne 11, 3) := by decide +kernel
theorem d_R_takePivot_40 : decode b_R_takePivot 40 = .ok (.aload_n 0, 1) := by decide +kernel
theorem d_R_takePivot_41 : decode b_R_takePivot 41 = .ok (.iconst 4, 1) := by decide +kernel
theorem d_R_takePivot_42 : decode b_R_takePivot 42 = .ok (.invokevirtual 98, 3) := by decide +kernel
theorem d_R_takePivot_45 : decode b_R_takePivot 45 = .ok (.goto 30, 3) := by decide +kernel
theorem d_R_takePivot_48 : decode b_R_takePivot 48 = .ok (.aload_n 0, 1) := by decide +kernel
theorem d_R_takePivot_49 : decode b_R_takePivot 49 = .ok (.getfield 15, 3) := by decide +kernel
theorem d_R_takePivot_52 : decode b_R_takePivot 52 = .ok (.aload_n 0, 1) := by decide +kernel
theorem d_R_takePivot_53 : decode b_R_takePivot 53 = .ok (.getfield 122, 3) := by decide +kernel
theorem d_R_takePivot_56 : decode b_R_takePivot 56 = .ok (.aload_n 0, 1) := by decide +kernel
theorem d_R_takePivot_57 : decode b_R_takePivot 57 = .ok (.getfield 125, 3) := by decide +kernel
theorem d_R_takePivot_60 : decode b_R_takePivot 60 = .ok (.aload_n 0, 1) := by decide +kernel
theorem d_R_takePivot_61 : decode b_R_takePivot 61 = .ok (.getfield 74, 3) := by decide +kernel
theorem d_R_takePivot_64 : decode b_R_takePivot 64 = .ok (.invokevirtual 162, 3) := by decide +kernel
theorem d_R_takePivot_67 : decode b_R_takePivot 67 = .ok (.ifCond .eq 8, 3) := by decide +kernel
theorem d_R_takePivot_70 : decode b_R_takePivot 70 = .ok (.aload_n 0, 1) := by decide +kernel
theorem d_R_takePivot_71 : decode b_R_takePivot 71 = .ok (.iconst 5, 1) := by decide +kernel
theorem d_R_takePivot_72 : decode b_R_takePivot 72 = .ok (.invokevirtual 98, 3) := by decide +kernel
theorem d_R_takePivot_75 : decode b_R_takePivot 75 = .ok (.aload_n 0, 1) := by decide +kernel
theorem d_R_takePivot_76 : decode b_R_takePivot 76 = .ok (.aload_n 0, 1) := by decide +kernel
theorem d_R_takePivot_77 : decode b_R_takePivot 77 = .ok (.getfield 74, 3) := by decide +kernel
theorem d_R_takePivot_80 : decode b_R_takePivot 80 = .ok (.putfield 128, 3) := by decide +kernel
theorem d_R_takePivot_83 : decode b_R_takePivot 83 = .ok (.aload_n 0, 1) := by decide +kernel
theorem d_R_takePivot_84 : decode b_R_takePivot 84 = .ok (.bipush 8, 2) := by decide +kernel
theorem d_R_takePivot_86 : decode b_R_takePivot 86 = .ok (.putfield 34, 3) := by decide +kernel
theorem d_R_takePivot_89 : decode b_R_takePivot 89 = .ok (.return_, 1) := by decide +kernel
end
section
theorem d_B_init_0 : decode b_B_init 0 = .ok (.aload_n 0, 1) := by decide +kernel
theorem d_B_init_1 : decode b_B_init 1 = .ok (.invokespecial 3, 3) := by decide +kernel
theorem d_B_init_4 : decode b_B_init 4 = .ok (.aload_n 0, 1) := by decide +kernel
theorem d_B_init_5 : decode b_B_init 5 = .ok (.new 9, 3) := by decide +kernel
theorem d_B_init_8 : decode b_B_init 8 = .ok (.dup, 1) := by decide +kernel
theorem d_B_init_9 : decode b_B_init 9 = .ok (.invokespecial 11, 3) := by decide +kernel
theorem d_B_init_12 : decode b_B_init 12 = .ok (.putfield 12, 3) := by decide +kernel
theorem d_B_init_15 : decode b_B_init 15 = .ok (.aload_n 0, 1) := by decide +kernel
theorem d_B_init_16 : decode b_B_init 16 = .ok (.new 16, 3) := by decide +kernel
theorem d_B_init_19 : decode b_B_init 19 = .ok (.dup, 1) := by decide +kernel
theorem d_B_init_20 : decode b_B_init 20 = .ok (.invokespecial 18, 3) := by decide +kernel
theorem d_B_init_23 : decode b_B_init 23 = .ok (.putfield 19, 3) := by decide +kernel
theorem d_B_init_26 : decode b_B_init 26 = .ok (.aload_n 0, 1) := by decide +kernel
theorem d_B_init_27 : decode b_B_init 27 = .ok (.new 23, 3) := by decide +kernel
theorem d_B_init_30 : decode b_B_init 30 = .ok (.dup, 1) := by decide +kernel
theorem d_B_init_31 : decode b_B_init 31 = .ok (.aload_n 0, 1) := by decide +kernel
theorem d_B_init_32 : decode b_B_init 32 = .ok (.getfield 12, 3) := by decide +kernel
theorem d_B_init_35 : decode b_B_init 35 = .ok (.aload_n 0, 1) := by decide +kernel
theorem d_B_init_36 : decode b_B_init 36 = .ok (.getfield 19, 3) := by decide +kernel
theorem d_B_init_39 : decode b_B_init 39 = .ok (.invokespecial 25, 3) := by decide +kernel
theorem d_B_init_42 : decode b_B_init 42 = .ok (.putfield 28, 3) := by decide +kernel
theorem d_B_init_45 : decode b_B_init 45 = .ok (.aload_n 0, 1) := by decide +kernel
theorem d_B_init_46 : decode b_B_init 46 = .ok (.new 32, 3) := by decide +kernel
theorem d_B_init_49 : decode b_B_init 49 = .ok (.dup, 1) := by decide +kernel
theorem d_B_init_50 : decode b_B_init 50 = .ok (.invokespecial 34, 3) := by decide +kernel
theorem d_B_init_53 : decode b_B_init 53 = .ok (.putfield 35, 3) := by decide +kernel
theorem d_B_init_56 : decode b_B_init 56 = .ok (.aload_n 0, 1) := by decide +kernel
theorem d_B_init_57 : decode b_B_init 57 = .ok (.new 39, 3) := by decide +kernel
theorem d_B_init_60 : decode b_B_init 60 = .ok (.dup, 1) := by decide +kernel
theorem d_B_init_61 : decode b_B_init 61 = .ok (.aload_n 0, 1) := by decide +kernel
theorem d_B_init_62 : decode b_B_init 62 = .ok (.getfield 19, 3) := by decide +kernel
theorem d_B_init_65 : decode b_B_init 65 = .ok (.aload_n 0, 1) := by decide +kernel
theorem d_B_init_66 : decode b_B_init 66 = .ok (.getfield 35, 3) := by decide +kernel
theorem d_B_init_69 : decode b_B_init 69 = .ok (.invokespecial 41, 3) := by decide +kernel
theorem d_B_init_72 : decode b_B_init 72 = .ok (.putfield 44, 3) := by decide +kernel
theorem d_B_init_75 : decode b_B_init 75 = .ok (.aload_n 0, 1) := by decide +kernel
theorem d_B_init_76 : decode b_B_init 76 = .ok (.new 48, 3) := by decide +kernel
theorem d_B_init_79 : decode b_B_init 79 = .ok (.dup, 1) := by decide +kernel
theorem d_B_init_80 : decode b_B_init 80 = .ok (.invokespecial 50, 3) := by decide +kernel
theorem d_B_init_83 : decode b_B_init 83 = .ok (.putfield 51, 3) := by decide +kernel
theorem d_B_init_86 : decode b_B_init 86 = .ok (.aload_n 0, 1) := by decide +kernel
theorem d_B_init_87 : decode b_B_init 87 = .ok (.bipush 16, 2) := by decide +kernel
theorem d_B_init_89 : decode b_B_init 89 = .ok (.newarray .long, 2) := by decide +kernel
theorem d_B_init_91 : decode b_B_init 91 = .ok (.putfield 55, 3) := by decide +kernel
theorem d_B_init_94 : decode b_B_init 94 = .ok (.aload_n 0, 1) := by decide +kernel
theorem d_B_init_95 : decode b_B_init 95 = .ok (.bipush 16, 2) := by decide +kernel
theorem d_B_init_97 : decode b_B_init 97 = .ok (.newarray .long, 2) := by decide +kernel
theorem d_B_init_99 : decode b_B_init 99 = .ok (.putfield 59, 3) := by decide +kernel
theorem d_B_init_102 : decode b_B_init 102 = .ok (.return_, 1) := by decide +kernel
theorem d_B_feed_0 : decode b_B_feed 0 = .ok (.aload_n 0, 1) := by decide +kernel
theorem d_B_feed_1 : decode b_B_feed 1 = .ok (.getfield 12, 3) := by decide +kernel
theorem d_B_feed_4 : decode b_B_feed 4 = .ok (.getfield 62, 3) := by decide +kernel
theorem d_B_feed_7 : decode b_B_feed 7 = .ok (.sipush 1980, 3) := by decide +kernel
theorem d_B_feed_10 : decode b_B_feed 10 = .ok (.if_icmp .le 6, 3) := by decide +kernel
theorem d_B_feed_13 : decode b_B_feed 13 = .ok (.bipush (-3), 2) := by decide +kernel
theorem d_B_feed_15 : decode b_B_feed 15 = .ok (.ireturn, 1) := by decide +kernel
theorem d_B_feed_16 : decode b_B_feed 16 = .ok (.aload_n 0, 1) := by decide +kernel
theorem d_B_feed_17 : decode b_B_feed 17 = .ok (.getfield 12, 3) := by decide +kernel
theorem d_B_feed_20 : decode b_B_feed 20 = .ok (.iload_n 1, 1) := by decide +kernel
theorem d_B_feed_21 : decode b_B_feed 21 = .ok (.invokevirtual 66, 3) := by decide +kernel
theorem d_B_feed_24 : decode b_B_feed 24 = .ok (.aload_n 0, 1) := by decide +kernel
theorem d_B_feed_25 : decode b_B_feed 25 = .ok (.getfield 12, 3) := by decide +kernel
theorem d_B_feed_28 : decode b_B_feed 28 = .ok (.iload_n 2, 1) := by decide +kernel
theorem d_B_feed_29 : decode b_B_feed 29 = .ok (.invokevirtual 66, 3) := by decide +kernel
theorem d_B_feed_32 : decode b_B_feed 32 = .ok (.aload_n 0, 1) := by decide +kernel
theorem d_B_feed_33 : decode b_B_feed 33 = .ok (.getfield 12, 3) := by decide +kernel
theorem d_B_feed_36 : decode b_B_feed 36 = .ok (.iload_n 3, 1) := by decide +kernel
theorem d_B_feed_37 : decode b_B_feed 37 = .ok (.invokevirtual 66, 3) := by decide +kernel
theorem d_B_feed_40 : decode b_B_feed 40 = .ok (.aload_n 0, 1) := by decide +kernel
theorem d_B_feed_41 : decode b_B_feed 41 = .ok (.getfield 12, 3) := by decide +kernel
theorem d_B_feed_44 : decode b_B_feed 44 = .ok (.iload 4, 2) := by decide +kernel
theorem d_B_feed_46 : decode b_B_feed 46 = .ok (.invokevirtual 66, 3) := by decide +kernel
theorem d_B_feed_49 : decode b_B_feed 49 = .ok (.aload_n 0, 1) := by decide +kernel
theorem d_B_feed_50 : decode b_B_feed 50 = .ok (.getfield 12, 3) := by decide +kernel
theorem d_B_feed_53 : decode b_B_feed 53 = .ok (.iload 5, 2) := by decide +kernel
theorem d_B_feed_55 : decode b_B_feed 55 = .ok (.invokevirtual 66, 3) := by decide +kernel
theorem d_B_feed_58 : decode b_B_feed 58 = .ok (.aload_n 0, 1) := by decide +kernel
theorem d_B_feed_59 : decode b_B_feed 59 = .ok (.getfield 12, 3) := by decide +kernel
theorem d_B_feed_62 : decode b_B_feed 62 = .ok (.getfield 62, 3) := by decide +kernel
theorem d_B_feed_65 : decode b_B_feed 65 = .ok (.ireturn, 1) := by decide +kernel
theorem d_B_end__0 : decode b_B_end_ 0 = .ok (.iload_n 1, 1) := by decide +kernel
theorem d_B_end__1 : decode b_B_end_ 1 = .ok (.ifCond .lt 14, 3) := by decide +kernel
theorem d_B_end__4 : decode b_B_end_ 4 = .ok (.iload_n 1, 1) := by decide +kernel
theorem d_B_end__5 : decode b_B_end_ 5 = .ok (.aload_n 0, 1) := by decide +kernel
theorem d_B_end__6 : decode b_B_end_ 6 = .ok (.getfield 12, 3) := by decide +kernel
theorem d_B_end__9 : decode b_B_end_ 9 = .ok (.getfield 62, 3) := by decide +kernel
theorem d_B_end__12 : decode b_B_end_ 12 = .ok (.if_icmp .le 5, 3) := by decide +kernel
theorem d_B_end__15 : decode b_B_end_ 15 = .ok (.iconst (-1), 1) := by decide +kernel
theorem d_B_end__16 : decode b_B_end_ 16 = .ok (.ireturn, 1) := by decide +kernel
theorem d_B_end__17 : decode b_B_end_ 17 = .ok (.aload_n 0, 1) := by decide +kernel
theorem d_B_end__18 : decode b_B_end_ 18 = .ok (.getfield 12, 3) := by decide +kernel
theorem d_B_end__21 : decode b_B_end_ 21 = .ok (.iload_n 1, 1) := by decide +kernel
theorem d_B_end__22 : decode b_B_end_ 22 = .ok (.putfield 62, 3) := by decide +kernel
theorem d_B_end__25 : decode b_B_end_ 25 = .ok (.iload_n 1, 1) := by decide +kernel
theorem d_B_end__26 : decode b_B_end_ 26 = .ok (.ireturn, 1) := by decide +kernel
theorem d_B_read_0 : decode b_B_read 0 = .ok (.aload_n 0, 1) := by decide +kernel
theorem d_B_read_1 : decode b_B_read 1 = .ok (.getfield 28, 3) := by decide +kernel
theorem d_B_read_4 : decode b_B_read 4 = .ok (.invokevirtual 70, 3) := by decide +kernel
theorem d_B_read_7 : decode b_B_read 7 = .ok (.aload_n 0, 1) := by decide +kernel
theorem d_B_read_8 : decode b_B_read 8 = .ok (.getfield 12, 3) := by decide +kernel
theorem d_B_read_11 : decode b_B_read 11 = .ok (.iconst 0, 1) := by decide +kernel
theorem d_B_read_12 : decode b_B_read 12 = .ok (.putfield 62, 3) := by decide +kernel
theorem d_B_read_15 : decode b_B_read 15 = .ok (.aload_n 0, 1) := by decide +kernel
theorem d_B_read_16 : decode b_B_read 16 = .ok (.getfield 28, 3) := by decide +kernel
theorem d_B_read_19 : decode b_B_read 19 = .ok (.getfield 73, 3) := by decide +kernel
theorem d_B_read_22 : decode b_B_read 22 = .ok (.ifCond .ne 13, 3) := by decide +kernel
theorem d_B_read_25 : decode b_B_read 25 = .ok (.aload_n 0, 1) := by decide +kernel
theorem d_B_read_26 : decode b_B_read 26 = .ok (.getfield 19, 3) := by decide +kernel
theorem d_B_read_29 : decode b_B_read 29 = .ok (.invokevirtual 76, 3) := by decide +kernel
theorem d_B_read_32 : decode b_B_read 32 = .ok (.goto 4, 3) := by decide +kernel
theorem d_B_read_35 : decode b_B_read 35 = .ok (.iconst (-1), 1) := by decide +kernel
theorem d_B_read_36 : decode b_B_read 36 = .ok (.ireturn, 1) := by decide +kernel
theorem d_B_fault_0 : decode b_B_fault 0 = .ok (.iload_n 1, 1) := by decide +kernel
theorem d_B_fault_1 : decode b_B_fault 1 = .ok (.lookupswitch 43 #[(0, 27), (1, 35)], 27) := by decide +kernel
theorem d_B_fault_28 : decode b_B_fault 28 = .ok (.aload_n 0, 1) := by decide +kernel
theorem d_B_fault_29 : decode b_B_fault 29 = .ok (.getfield 28, 3) := by decide +kernel
theorem d_B_fault_32 : decode b_B_fault 32 = .ok (.getfield 73, 3) := by decide +kernel
theorem d_B_fault_35 : decode b_B_fault 35 = .ok (.ireturn, 1) := by decide +kernel
theorem d_B_fault_36 : decode b_B_fault 36 = .ok (.aload_n 0, 1) := by decide +kernel
theorem d_B_fault_37 : decode b_B_fault 37 = .ok (.getfield 28, 3) := by decide +kernel
theorem d_B_fault_40 : decode b_B_fault 40 = .ok (.getfield 80, 3) := by decide +kernel
theorem d_B_fault_43 : decode b_B_fault 43 = .ok (.ireturn, 1) := by decide +kernel
theorem d_B_fault_44 : decode b_B_fault 44 = .ok (.iconst (-1), 1) := by decide +kernel
theorem d_B_fault_45 : decode b_B_fault 45 = .ok (.ireturn, 1) := by decide +kernel
theorem d_B_clear_0 : decode b_B_clear 0 = .ok (.aload_n 0, 1) := by decide +kernel
theorem d_B_clear_1 : decode b_B_clear 1 = .ok (.getfield 19, 3) := by decide +kernel
theorem d_B_clear_4 : decode b_B_clear 4 = .ok (.getfield 83, 3) := by decide +kernel
theorem d_B_clear_7 : decode b_B_clear 7 = .ok (.istore_n 1, 1) := by decide +kernel
theorem d_B_clear_8 : decode b_B_clear 8 = .ok (.aload_n 0, 1) := by decide +kernel
theorem d_B_clear_9 : decode b_B_clear 9 = .ok (.getfield 19, 3) := by decide +kernel
theorem d_B_clear_12 : decode b_B_clear 12 = .ok (.invokevirtual 86, 3) := by decide +kernel
theorem d_B_clear_15 : decode b_B_clear 15 = .ok (.aload_n 0, 1) := by decide +kernel
theorem d_B_clear_16 : decode b_B_clear 16 = .ok (.getfield 35, 3) := by decide +kernel
theorem d_B_clear_19 : decode b_B_clear 19 = .ok (.invokevirtual 89, 3) := by decide +kernel
theorem d_B_clear_22 : decode b_B_clear 22 = .ok (.iload_n 1, 1) := by decide +kernel
theorem d_B_clear_23 : decode b_B_clear 23 = .ok (.ireturn, 1) := by decide +kernel
theorem d_B_clause_0 : decode b_B_clause 0 = .ok (.iload_n 1, 1) := by decide +kernel
theorem d_B_clause_1 : decode b_B_clause 1 = .ok (.iconst 1, 1) := by decide +kernel
theorem d_B_clause_2 : decode b_B_clause 2 = .ok (.if_icmp .lt 14, 3) := by decide +kernel
theorem d_B_clause_5 : decode b_B_clause 5 = .ok (.iload_n 1, 1) := by decide +kernel
theorem d_B_clause_6 : decode b_B_clause 6 = .ok (.aload_n 0, 1) := by decide +kernel
theorem d_B_clause_7 : decode b_B_clause 7 = .ok (.getfield 19, 3) := by decide +kernel
theorem d_B_clause_10 : decode b_B_clause 10 = .ok (.getfield 83, 3) := by decide +kernel
theorem d_B_clause_13 : decode b_B_clause 13 = .ok (.if_icmp .le 5, 3) := by decide +kernel
theorem d_B_clause_16 : decode b_B_clause 16 = .ok (.iconst (-1), 1) := by decide +kernel
theorem d_B_clause_17 : decode b_B_clause 17 = .ok (.ireturn, 1) := by decide +kernel
theorem d_B_clause_18 : decode b_B_clause 18 = .ok (.iload_n 2, 1) := by decide +kernel
theorem d_B_clause_19 : decode b_B_clause 19 = .ok (.tableswitch 129 0 6 #[41, 51, 61, 71, 81, 101, 111], 41) := by decide +kernel
theorem d_B_clause_60 : decode b_B_clause 60 = .ok (.aload_n 0, 1) := by decide +kernel
theorem d_B_clause_61 : decode b_B_clause 61 = .ok (.getfield 19, 3) := by decide +kernel
theorem d_B_clause_64 : decode b_B_clause 64 = .ok (.getfield 92, 3) := by decide +kernel
theorem d_B_clause_67 : decode b_B_clause 67 = .ok (.iload_n 1, 1) := by decide +kernel
theorem d_B_clause_68 : decode b_B_clause 68 = .ok (.iaload, 1) := by decide +kernel
theorem d_B_clause_69 : decode b_B_clause 69 = .ok (.ireturn, 1) := by decide +kernel
theorem d_B_clause_70 : decode b_B_clause 70 = .ok (.aload_n 0, 1) := by decide +kernel
theorem d_B_clause_71 : decode b_B_clause 71 = .ok (.getfield 19, 3) := by decide +kernel
theorem d_B_clause_74 : decode b_B_clause 74 = .ok (.getfield 96, 3) := by decide +kernel
theorem d_B_clause_77 : decode b_B_clause 77 = .ok (.iload_n 1, 1) := by decide +kernel
theorem d_B_clause_78 : decode b_B_clause 78 = .ok (.iaload, 1) := by decide +kernel
theorem d_B_clause_79 : decode b_B_clause 79 = .ok (.ireturn, 1) := by decide +kernel
theorem d_B_clause_80 : decode b_B_clause 80 = .ok (.aload_n 0, 1) := by decide +kernel
theorem d_B_clause_81 : decode b_B_clause 81 = .ok (.getfield 19, 3) := by decide +kernel
theorem d_B_clause_84 : decode b_B_clause 84 = .ok (.getfield 99, 3) := by decide +kernel
theorem d_B_clause_87 : decode b_B_clause 87 = .ok (.iload_n 1, 1) := by decide +kernel
theorem d_B_clause_88 : decode b_B_clause 88 = .ok (.iaload, 1) := by decide +kernel
theorem d_B_clause_89 : decode b_B_clause 89 = .ok (.ireturn, 1) := by decide +kernel
theorem d_B_clause_90 : decode b_B_clause 90 = .ok (.aload_n 0, 1) := by decide +kernel
theorem d_B_clause_91 : decode b_B_clause 91 = .ok (.getfield 19, 3) := by decide +kernel
theorem d_B_clause_94 : decode b_B_clause 94 = .ok (.getfield 102, 3) := by decide +kernel
theorem d_B_clause_97 : decode b_B_clause 97 = .ok (.iload_n 1, 1) := by decide +kernel
theorem d_B_clause_98 : decode b_B_clause 98 = .ok (.iaload, 1) := by decide +kernel
theorem d_B_clause_99 : decode b_B_clause 99 = .ok (.ireturn, 1) := by decide +kernel
theorem d_B_clause_100 : decode b_B_clause 100 = .ok (.aload_n 0, 1) := by decide +kernel
theorem d_B_clause_101 : decode b_B_clause 101 = .ok (.getfield 19, 3) := by decide +kernel
theorem d_B_clause_104 : decode b_B_clause 104 = .ok (.getfield 105, 3) := by decide +kernel
theorem d_B_clause_107 : decode b_B_clause 107 = .ok (.iload_n 1, 1) := by decide +kernel
theorem d_B_clause_108 : decode b_B_clause 108 = .ok (.iaload, 1) := by decide +kernel
theorem d_B_clause_109 : decode b_B_clause 109 = .ok (.aload_n 0, 1) := by decide +kernel
theorem d_B_clause_110 : decode b_B_clause 110 = .ok (.getfield 19, 3) := by decide +kernel
theorem d_B_clause_113 : decode b_B_clause 113 = .ok (.getfield 108, 3) := by decide +kernel
theorem d_B_clause_116 : decode b_B_clause 116 = .ok (.iload_n 1, 1) := by decide +kernel
theorem d_B_clause_117 : decode b_B_clause 117 = .ok (.iaload, 1) := by decide +kernel
theorem d_B_clause_118 : decode b_B_clause 118 = .ok (.ior, 1) := by decide +kernel
theorem d_B_clause_119 : decode b_B_clause 119 = .ok (.ireturn, 1) := by decide +kernel
theorem d_B_clause_120 : decode b_B_clause 120 = .ok (.aload_n 0, 1) := by decide +kernel
theorem d_B_clause_121 : decode b_B_clause 121 = .ok (.getfield 19, 3) := by decide +kernel
theorem d_B_clause_124 : decode b_B_clause 124 = .ok (.getfield 108, 3) := by decide +kernel
theorem d_B_clause_127 : decode b_B_clause 127 = .ok (.iload_n 1, 1) := by decide +kernel
theorem d_B_clause_128 : decode b_B_clause 128 = .ok (.iaload, 1) := by decide +kernel
theorem d_B_clause_129 : decode b_B_clause 129 = .ok (.ireturn, 1) := by decide +kernel
theorem d_B_clause_130 : decode b_B_clause 130 = .ok (.aload_n 0, 1) := by decide +kernel
theorem d_B_clause_131 : decode b_B_clause 131 = .ok (.getfield 19, 3) := by decide +kernel
theorem d_B_clause_134 : decode b_B_clause 134 = .ok (.getfield 111, 3) := by decide +kernel
theorem d_B_clause_137 : decode b_B_clause 137 = .ok (.iload_n 1, 1) := by decide +kernel
theorem d_B_clause_138 : decode b_B_clause 138 = .ok (.baload, 1) := by decide +kernel
theorem d_B_clause_139 : decode b_B_clause 139 = .ok (.ifCond .eq 7, 3) := by decide +kernel
theorem d_B_clause_142 : decode b_B_clause 142 = .ok (.iconst 1, 1) := by decide +kernel
theorem d_B_clause_143 : decode b_B_clause 143 = .ok (.goto 4, 3) := by decide +kernel
theorem d_B_clause_146 : decode b_B_clause 146 = .ok (.iconst 0, 1) := by decide +kernel
theorem d_B_clause_147 : decode b_B_clause 147 = .ok (.ireturn, 1) := by decide +kernel
theorem d_B_clause_148 : decode b_B_clause 148 = .ok (.iconst (-1), 1) := by decide +kernel
theorem d_B_clause_149 : decode b_B_clause 149 = .ok (.ireturn, 1) := by decide +kernel
theorem d_B_refutation_0 : decode b_B_refutation 0 = .ok (.aload_n 0, 1) := by decide +kernel
theorem d_B_refutation_1 : decode b_B_refutation 1 = .ok (.getfield 19, 3) := by decide +kernel
theorem d_B_refutation_4 : decode b_B_refutation 4 = .ok (.getfield 115, 3) := by decide +kernel
theorem d_B_refutation_7 : decode b_B_refutation 7 = .ok (.ifCond .ne 7, 3) := by decide +kernel
theorem d_B_refutation_10 : decode b_B_refutation 10 = .ok (.iconst (-1), 1) := by decide +kernel
theorem d_B_refutation_11 : decode b_B_refutation 11 = .ok (.goto 10, 3) := by decide +kernel
theorem d_B_refutation_14 : decode b_B_refutation 14 = .ok (.aload_n 0, 1) := by decide +kernel
theorem d_B_refutation_15 : decode b_B_refutation 15 = .ok (.getfield 19, 3) := by decide +kernel
theorem d_B_refutation_18 : decode b_B_refutation 18 = .ok (.getfield 115, 3) := by decide +kernel
theorem d_B_refutation_21 : decode b_B_refutation 21 = .ok (.ireturn, 1) := by decide +kernel
theorem d_B_eliminate_0 : decode b_B_eliminate 0 = .ok (.iload_n 1, 1) := by decide +kernel
theorem d_B_eliminate_1 : decode b_B_eliminate 1 = .ok (.invokestatic 118, 3) := by decide +kernel
theorem d_B_eliminate_4 : decode b_B_eliminate 4 = .ok (.ifCond .eq 14, 3) := by decide +kernel
theorem d_B_eliminate_7 : decode b_B_eliminate 7 = .ok (.aload_n 0, 1) := by decide +kernel
theorem d_B_eliminate_8 : decode b_B_eliminate 8 = .ok (.getfield 19, 3) := by decide +kernel
theorem d_B_eliminate_11 : decode b_B_eliminate 11 = .ok (.iload_n 1, 1) := by decide +kernel
theorem d_B_eliminate_12 : decode b_B_eliminate 12 = .ok (.invokevirtual 122, 3) := by decide +kernel
theorem d_B_eliminate_15 : decode b_B_eliminate 15 = .ok (.goto 5, 3) := by decide +kernel
theorem d_B_eliminate_18 : decode b_B_eliminate 18 = .ok (.bipush (-2), 2) := by decide +kernel
theorem d_B_eliminate_20 : decode b_B_eliminate 20 = .ok (.ireturn, 1) := by decide +kernel
theorem d_B_label_0 : decode b_B_label 0 = .ok (.iload_n 1, 1) := by decide +kernel
theorem d_B_label_1 : decode b_B_label 1 = .ok (.invokestatic 118, 3) := by decide +kernel
theorem d_B_label_4 : decode b_B_label 4 = .ok (.ifCond .eq 13, 3) := by decide +kernel
theorem d_B_label_7 : decode b_B_label 7 = .ok (.iload_n 2, 1) := by decide +kernel
theorem d_B_label_8 : decode b_B_label 8 = .ok (.iconst 1, 1) := by decide +kernel
theorem d_B_label_9 : decode b_B_label 9 = .ok (.if_icmp .lt 8, 3) := by decide +kernel
theorem d_B_label_12 : decode b_B_label 12 = .ok (.iload_n 2, 1) := by decide +kernel
theorem d_B_label_13 : decode b_B_label 13 = .ok (.iconst 3, 1) := by decide +kernel
theorem d_B_label_14 : decode b_B_label 14 = .ok (.if_icmp .le 6, 3) := by decide +kernel
theorem d_B_label_17 : decode b_B_label 17 = .ok (.bipush (-2), 2) := by decide +kernel
theorem d_B_label_19 : decode b_B_label 19 = .ok (.ireturn, 1) := by decide +kernel
theorem d_B_label_20 : decode b_B_label 20 = .ok (.aload_n 0, 1) := by decide +kernel
theorem d_B_label_21 : decode b_B_label 21 = .ok (.getfield 35, 3) := by decide +kernel
theorem d_B_label_24 : decode b_B_label 24 = .ok (.iload_n 1, 1) := by decide +kernel
theorem d_B_label_25 : decode b_B_label 25 = .ok (.iload_n 2, 1) := by decide +kernel
theorem d_B_label_26 : decode b_B_label 26 = .ok (.invokevirtual 126, 3) := by decide +kernel
theorem d_B_label_29 : decode b_B_label 29 = .ok (.ireturn, 1) := by decide +kernel
theorem d_B_variables_0 : decode b_B_variables 0 = .ok (.iload_n 1, 1) := by decide +kernel
theorem d_B_variables_1 : decode b_B_variables 1 = .ok (.invokestatic 130, 3) := by decide +kernel
theorem d_B_variables_4 : decode b_B_variables 4 = .ok (.ifCond .ne 6, 3) := by decide +kernel
theorem d_B_variables_7 : decode b_B_variables 7 = .ok (.bipush (-2), 2) := by decide +kernel
theorem d_B_variables_9 : decode b_B_variables 9 = .ok (.ireturn, 1) := by decide +kernel
theorem d_B_variables_10 : decode b_B_variables 10 = .ok (.aload_n 0, 1) := by decide +kernel
theorem d_B_variables_11 : decode b_B_variables 11 = .ok (.getfield 19, 3) := by decide +kernel
theorem d_B_variables_14 : decode b_B_variables 14 = .ok (.iconst 1, 1) := by decide +kernel
theorem d_B_variables_15 : decode b_B_variables 15 = .ok (.iload_n 1, 1) := by decide +kernel
theorem d_B_variables_16 : decode b_B_variables 16 = .ok (.invokevirtual 133, 3) := by decide +kernel
theorem d_B_variables_19 : decode b_B_variables 19 = .ok (.istore_n 3, 1) := by decide +kernel
theorem d_B_variables_20 : decode b_B_variables 20 = .ok (.aload_n 0, 1) := by decide +kernel
theorem d_B_variables_21 : decode b_B_variables 21 = .ok (.getfield 19, 3) := by decide +kernel
theorem d_B_variables_24 : decode b_B_variables 24 = .ok (.iload_n 1, 1) := by decide +kernel
theorem d_B_variables_25 : decode b_B_variables 25 = .ok (.iconst 1, 1) := by decide +kernel
theorem d_B_variables_26 : decode b_B_variables 26 = .ok (.iadd, 1) := by decide +kernel
theorem d_B_variables_27 : decode b_B_variables 27 = .ok (.bipush 8, 2) := by decide +kernel
theorem d_B_variables_29 : decode b_B_variables 29 = .ok (.invokevirtual 133, 3) := by decide +kernel
theorem d_B_variables_32 : decode b_B_variables 32 = .ok (.istore 4, 2) := by decide +kernel
theorem d_B_variables_34 : decode b_B_variables 34 = .ok (.iload_n 2, 1) := by decide +kernel
theorem d_B_variables_35 : decode b_B_variables 35 = .ok (.tableswitch 35 0 2 #[25, 27, 30], 25) := by decide +kernel
theorem d_B_variables_60 : decode b_B_variables 60 = .ok (.iload_n 3, 1) := by decide +kernel
theorem d_B_variables_61 : decode b_B_variables 61 = .ok (.ireturn, 1) := by decide +kernel
theorem d_B_variables_62 : decode b_B_variables 62 = .ok (.iload 4, 2) := by decide +kernel
theorem d_B_variables_64 : decode b_B_variables 64 = .ok (.ireturn, 1) := by decide +kernel
theorem d_B_variables_65 : decode b_B_variables 65 = .ok (.iload_n 3, 1) := by decide +kernel
theorem d_B_variables_66 : decode b_B_variables 66 = .ok (.iload 4, 2) := by decide +kernel
theorem d_B_variables_68 : decode b_B_variables 68 = .ok (.iand, 1) := by decide +kernel
theorem d_B_variables_69 : decode b_B_variables 69 = .ok (.ireturn, 1) := by decide +kernel
theorem d_B_variables_70 : decode b_B_variables 70 = .ok (.iconst (-1), 1) := by decide +kernel
theorem d_B_variables_71 : decode b_B_variables 71 = .ok (.ireturn, 1) := by decide +kernel
theorem d_B_interpolate_0 : decode b_B_interpolate 0 = .ok (.iload_n 1, 1) := by decide +kernel
theorem d_B_interpolate_1 : decode b_B_interpolate 1 = .ok (.invokestatic 130, 3) := by decide +kernel
theorem d_B_interpolate_4 : decode b_B_interpolate 4 = .ok (.ifCond .eq 10, 3) := by decide +kernel
theorem d_B_interpolate_7 : decode b_B_interpolate 7 = .ok (.iload_n 2, 1) := by decide +kernel
theorem d_B_interpolate_8 : decode b_B_interpolate 8 = .ok (.invokestatic 136, 3) := by decide +kernel
theorem d_B_interpolate_11 : decode b_B_interpolate 11 = .ok (.ifCond .ne 6, 3) := by decide +kernel
theorem d_B_interpolate_14 : decode b_B_interpolate 14 = .ok (.bipush (-2), 2) := by decide +kernel
theorem d_B_interpolate_16 : decode b_B_interpolate 16 = .ok (.ireturn, 1) := by decide +kernel
theorem d_B_interpolate_17 : decode b_B_interpolate 17 = .ok (.aload_n 0, 1) := by decide +kernel
theorem d_B_interpolate_18 : decode b_B_interpolate 18 = .ok (.getfield 19, 3) := by decide +kernel
theorem d_B_interpolate_21 : decode b_B_interpolate 21 = .ok (.getfield 115, 3) := by decide +kernel
theorem d_B_interpolate_24 : decode b_B_interpolate 24 = .ok (.ifCond .ne 5, 3) := by decide +kernel
theorem d_B_interpolate_27 : decode b_B_interpolate 27 = .ok (.iconst (-1), 1) := by decide +kernel
theorem d_B_interpolate_28 : decode b_B_interpolate 28 = .ok (.ireturn, 1) := by decide +kernel
theorem d_B_interpolate_29 : decode b_B_interpolate 29 = .ok (.aload_n 0, 1) := by decide +kernel
theorem d_B_interpolate_30 : decode b_B_interpolate 30 = .ok (.getfield 44, 3) := by decide +kernel
theorem d_B_interpolate_33 : decode b_B_interpolate 33 = .ok (.iload_n 1, 1) := by decide +kernel
theorem d_B_interpolate_34 : decode b_B_interpolate 34 = .ok (.iload_n 2, 1) := by decide +kernel
theorem d_B_interpolate_35 : decode b_B_interpolate 35 = .ok (.invokevirtual 139, 3) := by decide +kernel
theorem d_B_interpolate_38 : decode b_B_interpolate 38 = .ok (.aload_n 0, 1) := by decide +kernel
theorem d_B_interpolate_39 : decode b_B_interpolate 39 = .ok (.getfield 51, 3) := by decide +kernel
theorem d_B_interpolate_42 : decode b_B_interpolate 42 = .ok (.aload_n 0, 1) := by decide +kernel
theorem d_B_interpolate_43 : decode b_B_interpolate 43 = .ok (.getfield 44, 3) := by decide +kernel
theorem d_B_interpolate_46 : decode b_B_interpolate 46 = .ok (.aload_n 0, 1) := by decide +kernel
theorem d_B_interpolate_47 : decode b_B_interpolate 47 = .ok (.getfield 19, 3) := by decide +kernel
theorem d_B_interpolate_50 : decode b_B_interpolate 50 = .ok (.invokevirtual 143, 3) := by decide +kernel
theorem d_B_interpolate_53 : decode b_B_interpolate 53 = .ok (.aload_n 0, 1) := by decide +kernel
theorem d_B_interpolate_54 : decode b_B_interpolate 54 = .ok (.getfield 51, 3) := by decide +kernel
theorem d_B_interpolate_57 : decode b_B_interpolate 57 = .ok (.getfield 147, 3) := by decide +kernel
theorem d_B_interpolate_60 : decode b_B_interpolate 60 = .ok (.getfield 151, 3) := by decide +kernel
theorem d_B_interpolate_63 : decode b_B_interpolate 63 = .ok (.ireturn, 1) := by decide +kernel
theorem d_B_value_0 : decode b_B_value 0 = .ok (.aload_n 0, 1) := by decide +kernel
theorem d_B_value_1 : decode b_B_value 1 = .ok (.getfield 51, 3) := by decide +kernel
theorem d_B_value_4 : decode b_B_value 4 = .ok (.aload_n 0, 1) := by decide +kernel
theorem d_B_value_5 : decode b_B_value 5 = .ok (.getfield 51, 3) := by decide +kernel
theorem d_B_value_8 : decode b_B_value 8 = .ok (.getfield 154, 3) := by decide +kernel
theorem d_B_value_11 : decode b_B_value 11 = .ok (.iload_n 1, 1) := by decide +kernel
theorem d_B_value_12 : decode b_B_value 12 = .ok (.invokevirtual 157, 3) := by decide +kernel
theorem d_B_value_15 : decode b_B_value 15 = .ok (.ireturn, 1) := by decide +kernel
theorem d_B_prt_0 : decode b_B_prt 0 = .ok (.aload_n 0, 1) := by decide +kernel
theorem d_B_prt_1 : decode b_B_prt 1 = .ok (.getfield 51, 3) := by decide +kernel
theorem d_B_prt_4 : decode b_B_prt 4 = .ok (.iload_n 1, 1) := by decide +kernel
theorem d_B_prt_5 : decode b_B_prt 5 = .ok (.iload_n 2, 1) := by decide +kernel
theorem d_B_prt_6 : decode b_B_prt 6 = .ok (.invokevirtual 157, 3) := by decide +kernel
theorem d_B_prt_9 : decode b_B_prt 9 = .ok (.ireturn, 1) := by decide +kernel
theorem d_B_told_0 : decode b_B_told 0 = .ok (.aload_n 0, 1) := by decide +kernel
theorem d_B_told_1 : decode b_B_told 1 = .ok (.getfield 51, 3) := by decide +kernel
theorem d_B_told_4 : decode b_B_told 4 = .ok (.getfield 154, 3) := by decide +kernel
theorem d_B_told_7 : decode b_B_told 7 = .ok (.ifCond .ne 5, 3) := by decide +kernel
theorem d_B_told_10 : decode b_B_told 10 = .ok (.iconst (-1), 1) := by decide +kernel
theorem d_B_told_11 : decode b_B_told 11 = .ok (.ireturn, 1) := by decide +kernel
theorem d_B_told_12 : decode b_B_told 12 = .ok (.iload_n 1, 1) := by decide +kernel
theorem d_B_told_13 : decode b_B_told 13 = .ok (.lookupswitch 46 #[(0, 27), (1, 35)], 27) := by decide +kernel
theorem d_B_told_40 : decode b_B_told 40 = .ok (.aload_n 0, 1) := by decide +kernel
theorem d_B_told_41 : decode b_B_told 41 = .ok (.getfield 51, 3) := by decide +kernel
theorem d_B_told_44 : decode b_B_told 44 = .ok (.invokevirtual 160, 3) := by decide +kernel
theorem d_B_told_47 : decode b_B_told 47 = .ok (.ireturn, 1) := by decide +kernel
theorem d_B_told_48 : decode b_B_told 48 = .ok (.aload_n 0, 1) := by decide +kernel
theorem d_B_told_49 : decode b_B_told 49 = .ok (.getfield 51, 3) := by decide +kernel
theorem d_B_told_52 : decode b_B_told 52 = .ok (.getfield 147, 3) := by decide +kernel
theorem d_B_told_55 : decode b_B_told 55 = .ok (.invokevirtual 163, 3) := by decide +kernel
theorem d_B_told_58 : decode b_B_told 58 = .ok (.ireturn, 1) := by decide +kernel
theorem d_B_told_59 : decode b_B_told 59 = .ok (.iconst (-1), 1) := by decide +kernel
theorem d_B_told_60 : decode b_B_told 60 = .ok (.ireturn, 1) := by decide +kernel
theorem d_B_graph_0 : decode b_B_graph 0 = .ok (.aload_n 0, 1) := by decide +kernel
theorem d_B_graph_1 : decode b_B_graph 1 = .ok (.getfield 51, 3) := by decide +kernel
theorem d_B_graph_4 : decode b_B_graph 4 = .ok (.getfield 147, 3) := by decide +kernel
theorem d_B_graph_7 : decode b_B_graph 7 = .ok (.iload_n 1, 1) := by decide +kernel
theorem d_B_graph_8 : decode b_B_graph 8 = .ok (.iload_n 2, 1) := by decide +kernel
theorem d_B_graph_9 : decode b_B_graph 9 = .ok (.invokevirtual 166, 3) := by decide +kernel
theorem d_B_graph_12 : decode b_B_graph 12 = .ok (.ireturn, 1) := by decide +kernel
theorem d_B_follows_0 : decode b_B_follows 0 = .ok (.iload_n 1, 1) := by decide +kernel
theorem d_B_follows_1 : decode b_B_follows 1 = .ok (.invokestatic 130, 3) := by decide +kernel
theorem d_B_follows_4 : decode b_B_follows 4 = .ok (.ifCond .eq 17, 3) := by decide +kernel
theorem d_B_follows_7 : decode b_B_follows 7 = .ok (.iload_n 2, 1) := by decide +kernel
theorem d_B_follows_8 : decode b_B_follows 8 = .ok (.invokestatic 136, 3) := by decide +kernel
theorem d_B_follows_11 : decode b_B_follows 11 = .ok (.ifCond .eq 10, 3) := by decide +kernel
theorem d_B_follows_14 : decode b_B_follows 14 = .ok (.iload_n 3, 1) := by decide +kernel
theorem d_B_follows_15 : decode b_B_follows 15 = .ok (.invokestatic 136, 3) := by decide +kernel
theorem d_B_follows_18 : decode b_B_follows 18 = .ok (.ifCond .ne 6, 3) := by decide +kernel
theorem d_B_follows_21 : decode b_B_follows 21 = .ok (.bipush (-2), 2) := by decide +kernel
theorem d_B_follows_23 : decode b_B_follows 23 = .ok (.ireturn, 1) := by decide +kernel
theorem d_B_follows_24 : decode b_B_follows 24 = .ok (.aload_n 0, 1) := by decide +kernel
theorem d_B_follows_25 : decode b_B_follows 25 = .ok (.getfield 19, 3) := by decide +kernel
theorem d_B_follows_28 : decode b_B_follows 28 = .ok (.getfield 115, 3) := by decide +kernel
theorem d_B_follows_31 : decode b_B_follows 31 = .ok (.ifCond .ne 5, 3) := by decide +kernel
theorem d_B_follows_34 : decode b_B_follows 34 = .ok (.iconst (-1), 1) := by decide +kernel
theorem d_B_follows_35 : decode b_B_follows 35 = .ok (.ireturn, 1) := by decide +kernel
theorem d_B_follows_36 : decode b_B_follows 36 = .ok (.aload_n 0, 1) := by decide +kernel
theorem d_B_follows_37 : decode b_B_follows 37 = .ok (.getfield 44, 3) := by decide +kernel
theorem d_B_follows_40 : decode b_B_follows 40 = .ok (.iload_n 1, 1) := by decide +kernel
theorem d_B_follows_41 : decode b_B_follows 41 = .ok (.iload_n 2, 1) := by decide +kernel
theorem d_B_follows_42 : decode b_B_follows 42 = .ok (.aload_n 0, 1) := by decide +kernel
theorem d_B_follows_43 : decode b_B_follows 43 = .ok (.getfield 55, 3) := by decide +kernel
theorem d_B_follows_46 : decode b_B_follows 46 = .ok (.invokevirtual 169, 3) := by decide +kernel
theorem d_B_follows_49 : decode b_B_follows 49 = .ok (.aload_n 0, 1) := by decide +kernel
theorem d_B_follows_50 : decode b_B_follows 50 = .ok (.getfield 44, 3) := by decide +kernel
theorem d_B_follows_53 : decode b_B_follows 53 = .ok (.iload_n 1, 1) := by decide +kernel
theorem d_B_follows_54 : decode b_B_follows 54 = .ok (.iload_n 3, 1) := by decide +kernel
theorem d_B_follows_55 : decode b_B_follows 55 = .ok (.aload_n 0, 1) := by decide +kernel
theorem d_B_follows_56 : decode b_B_follows 56 = .ok (.getfield 59, 3) := by decide +kernel
theorem d_B_follows_59 : decode b_B_follows 59 = .ok (.invokevirtual 169, 3) := by decide +kernel
theorem d_B_follows_62 : decode b_B_follows 62 = .ok (.iconst 0, 1) := by decide +kernel
theorem d_B_follows_63 : decode b_B_follows 63 = .ok (.istore 4, 2) := by decide +kernel
theorem d_B_follows_65 : decode b_B_follows 65 = .ok (.iload 4, 2) := by decide +kernel
theorem d_B_follows_67 : decode b_B_follows 67 = .ok (.bipush 16, 2) := by decide +kernel
theorem d_B_follows_69 : decode b_B_follows 69 = .ok (.if_icmp .ge 35, 3) := by decide +kernel
theorem d_B_follows_72 : decode b_B_follows 72 = .ok (.aload_n 0, 1) := by decide +kernel
theorem d_B_follows_73 : decode b_B_follows 73 = .ok (.getfield 55, 3) := by decide +kernel
theorem d_B_follows_76 : decode b_B_follows 76 = .ok (.iload 4, 2) := by decide +kernel
theorem d_B_follows_78 : decode b_B_follows 78 = .ok (.laload, 1) := by decide +kernel
theorem d_B_follows_79 : decode b_B_follows 79 = .ok (.aload_n 0, 1) := by decide +kernel
theorem d_B_follows_80 : decode b_B_follows 80 = .ok (.getfield 59, 3) := by decide +kernel
theorem d_B_follows_83 : decode b_B_follows 83 = .ok (.iload 4, 2) := by decide +kernel
theorem d_B_follows_85 : decode b_B_follows 85 = .ok (.laload, 1) := by decide +kernel
theorem d_B_follows_86 : decode b_B_follows 86 = .ok (.ldc2_w 173, 3) := by decide +kernel
theorem d_B_follows_89 : decode b_B_follows 89 = .ok (.lxor, 1) := by decide +kernel
theorem d_B_follows_90 : decode b_B_follows 90 = .ok (.land, 1) := by decide +kernel
theorem d_B_follows_91 : decode b_B_follows 91 = .ok (.lconst 0, 1) := by decide +kernel
theorem d_B_follows_92 : decode b_B_follows 92 = .ok (.lcmp, 1) := by decide +kernel
theorem d_B_follows_93 : decode b_B_follows 93 = .ok (.ifCond .eq 5, 3) := by decide +kernel
theorem d_B_follows_96 : decode b_B_follows 96 = .ok (.iconst 0, 1) := by decide +kernel
theorem d_B_follows_97 : decode b_B_follows 97 = .ok (.ireturn, 1) := by decide +kernel
theorem d_B_follows_98 : decode b_B_follows 98 = .ok (.iinc 4 1, 3) := by decide +kernel
theorem d_B_follows_101 : decode b_B_follows 101 = .ok (.goto (-36), 3) := by decide +kernel
theorem d_B_follows_104 : decode b_B_follows 104 = .ok (.iconst 1, 1) := by decide +kernel
theorem d_B_follows_105 : decode b_B_follows 105 = .ok (.ireturn, 1) := by decide +kernel
theorem d_B_gap_0 : decode b_B_gap 0 = .ok (.iload_n 1, 1) := by decide +kernel
theorem d_B_gap_1 : decode b_B_gap 1 = .ok (.invokestatic 130, 3) := by decide +kernel
theorem d_B_gap_4 : decode b_B_gap 4 = .ok (.ifCond .eq 10, 3) := by decide +kernel
theorem d_B_gap_7 : decode b_B_gap 7 = .ok (.iload_n 2, 1) := by decide +kernel
theorem d_B_gap_8 : decode b_B_gap 8 = .ok (.invokestatic 136, 3) := by decide +kernel
theorem d_B_gap_11 : decode b_B_gap 11 = .ok (.ifCond .ne 6, 3) := by decide +kernel
theorem d_B_gap_14 : decode b_B_gap 14 = .ok (.bipush (-2), 2) := by decide +kernel
theorem d_B_gap_16 : decode b_B_gap 16 = .ok (.ireturn, 1) := by decide +kernel
theorem d_B_gap_17 : decode b_B_gap 17 = .ok (.aload_n 0, 1) := by decide +kernel
theorem d_B_gap_18 : decode b_B_gap 18 = .ok (.getfield 19, 3) := by decide +kernel
theorem d_B_gap_21 : decode b_B_gap 21 = .ok (.getfield 115, 3) := by decide +kernel
theorem d_B_gap_24 : decode b_B_gap 24 = .ok (.ifCond .eq 12, 3) := by decide +kernel
theorem d_B_gap_27 : decode b_B_gap 27 = .ok (.iload_n 3, 1) := by decide +kernel
theorem d_B_gap_28 : decode b_B_gap 28 = .ok (.ifCond .lt 8, 3) := by decide +kernel
theorem d_B_gap_31 : decode b_B_gap 31 = .ok (.iload_n 3, 1) := by decide +kernel
theorem d_B_gap_32 : decode b_B_gap 32 = .ok (.iconst 2, 1) := by decide +kernel
theorem d_B_gap_33 : decode b_B_gap 33 = .ok (.if_icmp .le 5, 3) := by decide +kernel
theorem d_B_gap_36 : decode b_B_gap 36 = .ok (.iconst (-1), 1) := by decide +kernel
theorem d_B_gap_37 : decode b_B_gap 37 = .ok (.ireturn, 1) := by decide +kernel
theorem d_B_gap_38 : decode b_B_gap 38 = .ok (.aload_n 0, 1) := by decide +kernel
theorem d_B_gap_39 : decode b_B_gap 39 = .ok (.getfield 44, 3) := by decide +kernel
theorem d_B_gap_42 : decode b_B_gap 42 = .ok (.iload_n 1, 1) := by decide +kernel
theorem d_B_gap_43 : decode b_B_gap 43 = .ok (.iload_n 2, 1) := by decide +kernel
theorem d_B_gap_44 : decode b_B_gap 44 = .ok (.aload_n 0, 1) := by decide +kernel
theorem d_B_gap_45 : decode b_B_gap 45 = .ok (.getfield 55, 3) := by decide +kernel
theorem d_B_gap_48 : decode b_B_gap 48 = .ok (.invokevirtual 169, 3) := by decide +kernel
theorem d_B_gap_51 : decode b_B_gap 51 = .ok (.iload_n 3, 1) := by decide +kernel
theorem d_B_gap_52 : decode b_B_gap 52 = .ok (.iconst 2, 1) := by decide +kernel
theorem d_B_gap_53 : decode b_B_gap 53 = .ok (.if_icmp .ne 9, 3) := by decide +kernel
theorem d_B_gap_56 : decode b_B_gap 56 = .ok (.aload_n 0, 1) := by decide +kernel
theorem d_B_gap_57 : decode b_B_gap 57 = .ok (.iload_n 1, 1) := by decide +kernel
theorem d_B_gap_58 : decode b_B_gap 58 = .ok (.iload_n 2, 1) := by decide +kernel
theorem d_B_gap_59 : decode b_B_gap 59 = .ok (.invokevirtual 175, 3) := by decide +kernel
theorem d_B_gap_62 : decode b_B_gap 62 = .ok (.iconst 0, 1) := by decide +kernel
theorem d_B_gap_63 : decode b_B_gap 63 = .ok (.istore 4, 2) := by decide +kernel
theorem d_B_gap_65 : decode b_B_gap 65 = .ok (.iconst 0, 1) := by decide +kernel
theorem d_B_gap_66 : decode b_B_gap 66 = .ok (.istore 5, 2) := by decide +kernel
theorem d_B_gap_68 : decode b_B_gap 68 = .ok (.iload 5, 2) := by decide +kernel
theorem d_B_gap_70 : decode b_B_gap 70 = .ok (.bipush 16, 2) := by decide +kernel
theorem d_B_gap_72 : decode b_B_gap 72 = .ok (.if_icmp .ge 25, 3) := by decide +kernel
theorem d_B_gap_75 : decode b_B_gap 75 = .ok (.iload 4, 2) := by decide +kernel
theorem d_B_gap_77 : decode b_B_gap 77 = .ok (.aload_n 0, 1) := by decide +kernel
theorem d_B_gap_78 : decode b_B_gap 78 = .ok (.iload_n 1, 1) := by decide +kernel
theorem d_B_gap_79 : decode b_B_gap 79 = .ok (.iload_n 3, 1) := by decide +kernel
theorem d_B_gap_80 : decode b_B_gap 80 = .ok (.iload 5, 2) := by decide +kernel
theorem d_B_gap_82 : decode b_B_gap 82 = .ok (.invokevirtual 178, 3) := by decide +kernel
theorem d_B_gap_85 : decode b_B_gap 85 = .ok (.invokestatic 182, 3) := by decide +kernel
theorem d_B_gap_88 : decode b_B_gap 88 = .ok (.iadd, 1) := by decide +kernel
theorem d_B_gap_89 : decode b_B_gap 89 = .ok (.istore 4, 2) := by decide +kernel
theorem d_B_gap_91 : decode b_B_gap 91 = .ok (.iinc 5 1, 3) := by decide +kernel
theorem d_B_gap_94 : decode b_B_gap 94 = .ok (.goto (-26), 3) := by decide +kernel
theorem d_B_gap_97 : decode b_B_gap 97 = .ok (.iload 4, 2) := by decide +kernel
theorem d_B_gap_99 : decode b_B_gap 99 = .ok (.ireturn, 1) := by decide +kernel
theorem d_B_count_0 : decode b_B_count 0 = .ok (.iload_n 1, 1) := by decide +kernel
theorem d_B_count_1 : decode b_B_count 1 = .ok (.tableswitch 75 0 4 #[35, 43, 51, 59, 67], 35) := by decide +kernel
theorem d_B_count_36 : decode b_B_count 36 = .ok (.aload_n 0, 1) := by decide +kernel
theorem d_B_count_37 : decode b_B_count 37 = .ok (.getfield 19, 3) := by decide +kernel
theorem d_B_count_40 : decode b_B_count 40 = .ok (.getfield 83, 3) := by decide +kernel
theorem d_B_count_43 : decode b_B_count 43 = .ok (.ireturn, 1) := by decide +kernel
theorem d_B_count_44 : decode b_B_count 44 = .ok (.aload_n 0, 1) := by decide +kernel
theorem d_B_count_45 : decode b_B_count 45 = .ok (.getfield 19, 3) := by decide +kernel
theorem d_B_count_48 : decode b_B_count 48 = .ok (.getfield 188, 3) := by decide +kernel
theorem d_B_count_51 : decode b_B_count 51 = .ok (.ireturn, 1) := by decide +kernel
theorem d_B_count_52 : decode b_B_count 52 = .ok (.aload_n 0, 1) := by decide +kernel
theorem d_B_count_53 : decode b_B_count 53 = .ok (.getfield 19, 3) := by decide +kernel
theorem d_B_count_56 : decode b_B_count 56 = .ok (.invokevirtual 191, 3) := by decide +kernel
theorem d_B_count_59 : decode b_B_count 59 = .ok (.ireturn, 1) := by decide +kernel
theorem d_B_count_60 : decode b_B_count 60 = .ok (.aload_n 0, 1) := by decide +kernel
theorem d_B_count_61 : decode b_B_count 61 = .ok (.getfield 19, 3) := by decide +kernel
theorem d_B_count_64 : decode b_B_count 64 = .ok (.invokevirtual 194, 3) := by decide +kernel
theorem d_B_count_67 : decode b_B_count 67 = .ok (.ireturn, 1) := by decide +kernel
theorem d_B_count_68 : decode b_B_count 68 = .ok (.aload_n 0, 1) := by decide +kernel
theorem d_B_count_69 : decode b_B_count 69 = .ok (.getfield 12, 3) := by decide +kernel
theorem d_B_count_72 : decode b_B_count 72 = .ok (.getfield 62, 3) := by decide +kernel
theorem d_B_count_75 : decode b_B_count 75 = .ok (.ireturn, 1) := by decide +kernel
theorem d_B_count_76 : decode b_B_count 76 = .ok (.iconst (-1), 1) := by decide +kernel
theorem d_B_count_77 : decode b_B_count 77 = .ok (.ireturn, 1) := by decide +kernel
theorem d_B_nextInterpolant_0 : decode b_B_nextInterpolant 0 = .ok (.iload_n 1, 1) := by decide +kernel
theorem d_B_nextInterpolant_1 : decode b_B_nextInterpolant 1 = .ok (.bipush 7, 2) := by decide +kernel
theorem d_B_nextInterpolant_3 : decode b_B_nextInterpolant 3 = .ok (.if_icmp .ge 21, 3) := by decide +kernel
theorem d_B_nextInterpolant_6 : decode b_B_nextInterpolant 6 = .ok (.aload_n 0, 1) := by decide +kernel
theorem d_B_nextInterpolant_7 : decode b_B_nextInterpolant 7 = .ok (.getfield 44, 3) := by decide +kernel
theorem d_B_nextInterpolant_10 : decode b_B_nextInterpolant 10 = .ok (.iload_n 1, 1) := by decide +kernel
theorem d_B_nextInterpolant_11 : decode b_B_nextInterpolant 11 = .ok (.iconst 1, 1) := by decide +kernel
theorem d_B_nextInterpolant_12 : decode b_B_nextInterpolant 12 = .ok (.iadd, 1) := by decide +kernel
theorem d_B_nextInterpolant_13 : decode b_B_nextInterpolant 13 = .ok (.iload_n 2, 1) := by decide +kernel
theorem d_B_nextInterpolant_14 : decode b_B_nextInterpolant 14 = .ok (.aload_n 0, 1) := by decide +kernel
theorem d_B_nextInterpolant_15 : decode b_B_nextInterpolant 15 = .ok (.getfield 59, 3) := by decide +kernel
theorem d_B_nextInterpolant_18 : decode b_B_nextInterpolant 18 = .ok (.invokevirtual 169, 3) := by decide +kernel
theorem d_B_nextInterpolant_21 : decode b_B_nextInterpolant 21 = .ok (.goto 11, 3) := by decide +kernel
theorem d_B_nextInterpolant_24 : decode b_B_nextInterpolant 24 = .ok (.aload_n 0, 1) := by decide +kernel
theorem d_B_nextInterpolant_25 : decode b_B_nextInterpolant 25 = .ok (.getfield 59, 3) := by decide +kernel
theorem d_B_nextInterpolant_28 : decode b_B_nextInterpolant 28 = .ok (.lconst 0, 1) := by decide +kernel
theorem d_B_nextInterpolant_29 : decode b_B_nextInterpolant 29 = .ok (.invokestatic 197, 3) := by decide +kernel
theorem d_B_nextInterpolant_32 : decode b_B_nextInterpolant 32 = .ok (.return_, 1) := by decide +kernel
theorem d_B_gapWord_0 : decode b_B_gapWord 0 = .ok (.iload_n 2, 1) := by decide +kernel
theorem d_B_gapWord_1 : decode b_B_gapWord 1 = .ok (.lookupswitch 70 #[(0, 27), (1, 49)], 27) := by decide +kernel
theorem d_B_gapWord_28 : decode b_B_gapWord 28 = .ok (.aload_n 0, 1) := by decide +kernel
theorem d_B_gapWord_29 : decode b_B_gapWord 29 = .ok (.getfield 19, 3) := by decide +kernel
theorem d_B_gapWord_32 : decode b_B_gapWord 32 = .ok (.iconst 1, 1) := by decide +kernel
theorem d_B_gapWord_33 : decode b_B_gapWord 33 = .ok (.iload_n 1, 1) := by decide +kernel
theorem d_B_gapWord_34 : decode b_B_gapWord 34 = .ok (.iload_n 3, 1) := by decide +kernel
theorem d_B_gapWord_35 : decode b_B_gapWord 35 = .ok (.invokevirtual 203, 3) := by decide +kernel
theorem d_B_gapWord_38 : decode b_B_gapWord 38 = .ok (.aload_n 0, 1) := by decide +kernel
theorem d_B_gapWord_39 : decode b_B_gapWord 39 = .ok (.getfield 55, 3) := by decide +kernel
theorem d_B_gapWord_42 : decode b_B_gapWord 42 = .ok (.iload_n 3, 1) := by decide +kernel
theorem d_B_gapWord_43 : decode b_B_gapWord 43 = .ok (.laload, 1) := by decide +kernel
theorem d_B_gapWord_44 : decode b_B_gapWord 44 = .ok (.ldc2_w 173, 3) := by decide +kernel
theorem d_B_gapWord_47 : decode b_B_gapWord 47 = .ok (.lxor, 1) := by decide +kernel
theorem d_B_gapWord_48 : decode b_B_gapWord 48 = .ok (.land, 1) := by decide +kernel
theorem d_B_gapWord_49 : decode b_B_gapWord 49 = .ok (.lreturn, 1) := by decide +kernel
theorem d_B_gapWord_50 : decode b_B_gapWord 50 = .ok (.aload_n 0, 1) := by decide +kernel
theorem d_B_gapWord_51 : decode b_B_gapWord 51 = .ok (.getfield 19, 3) := by decide +kernel
theorem d_B_gapWord_54 : decode b_B_gapWord 54 = .ok (.iload_n 1, 1) := by decide +kernel
theorem d_B_gapWord_55 : decode b_B_gapWord 55 = .ok (.iconst 1, 1) := by decide +kernel
theorem d_B_gapWord_56 : decode b_B_gapWord 56 = .ok (.iadd, 1) := by decide +kernel
theorem d_B_gapWord_57 : decode b_B_gapWord 57 = .ok (.bipush 8, 2) := by decide +kernel
theorem d_B_gapWord_59 : decode b_B_gapWord 59 = .ok (.iload_n 3, 1) := by decide +kernel
theorem d_B_gapWord_60 : decode b_B_gapWord 60 = .ok (.invokevirtual 203, 3) := by decide +kernel
theorem d_B_gapWord_63 : decode b_B_gapWord 63 = .ok (.aload_n 0, 1) := by decide +kernel
theorem d_B_gapWord_64 : decode b_B_gapWord 64 = .ok (.getfield 55, 3) := by decide +kernel
theorem d_B_gapWord_67 : decode b_B_gapWord 67 = .ok (.iload_n 3, 1) := by decide +kernel
theorem d_B_gapWord_68 : decode b_B_gapWord 68 = .ok (.laload, 1) := by decide +kernel
theorem d_B_gapWord_69 : decode b_B_gapWord 69 = .ok (.land, 1) := by decide +kernel
theorem d_B_gapWord_70 : decode b_B_gapWord 70 = .ok (.lreturn, 1) := by decide +kernel
theorem d_B_gapWord_71 : decode b_B_gapWord 71 = .ok (.aload_n 0, 1) := by decide +kernel
theorem d_B_gapWord_72 : decode b_B_gapWord 72 = .ok (.getfield 19, 3) := by decide +kernel
theorem d_B_gapWord_75 : decode b_B_gapWord 75 = .ok (.iload_n 1, 1) := by decide +kernel
theorem d_B_gapWord_76 : decode b_B_gapWord 76 = .ok (.iconst 1, 1) := by decide +kernel
theorem d_B_gapWord_77 : decode b_B_gapWord 77 = .ok (.iadd, 1) := by decide +kernel
theorem d_B_gapWord_78 : decode b_B_gapWord 78 = .ok (.iload_n 1, 1) := by decide +kernel
theorem d_B_gapWord_79 : decode b_B_gapWord 79 = .ok (.iconst 1, 1) := by decide +kernel
theorem d_B_gapWord_80 : decode b_B_gapWord 80 = .ok (.iadd, 1) := by decide +kernel
theorem d_B_gapWord_81 : decode b_B_gapWord 81 = .ok (.iload_n 3, 1) := by decide +kernel
theorem d_B_gapWord_82 : decode b_B_gapWord 82 = .ok (.invokevirtual 203, 3) := by decide +kernel
theorem d_B_gapWord_85 : decode b_B_gapWord 85 = .ok (.aload_n 0, 1) := by decide +kernel
theorem d_B_gapWord_86 : decode b_B_gapWord 86 = .ok (.getfield 55, 3) := by decide +kernel
theorem d_B_gapWord_89 : decode b_B_gapWord 89 = .ok (.iload_n 3, 1) := by decide +kernel
theorem d_B_gapWord_90 : decode b_B_gapWord 90 = .ok (.laload, 1) := by decide +kernel
theorem d_B_gapWord_91 : decode b_B_gapWord 91 = .ok (.land, 1) := by decide +kernel
theorem d_B_gapWord_92 : decode b_B_gapWord 92 = .ok (.aload_n 0, 1) := by decide +kernel
theorem d_B_gapWord_93 : decode b_B_gapWord 93 = .ok (.getfield 59, 3) := by decide +kernel
theorem d_B_gapWord_96 : decode b_B_gapWord 96 = .ok (.iload_n 3, 1) := by decide +kernel
theorem d_B_gapWord_97 : decode b_B_gapWord 97 = .ok (.laload, 1) := by decide +kernel
theorem d_B_gapWord_98 : decode b_B_gapWord 98 = .ok (.ldc2_w 173, 3) := by decide +kernel
theorem d_B_gapWord_101 : decode b_B_gapWord 101 = .ok (.lxor, 1) := by decide +kernel
theorem d_B_gapWord_102 : decode b_B_gapWord 102 = .ok (.land, 1) := by decide +kernel
theorem d_B_gapWord_103 : decode b_B_gapWord 103 = .ok (.lreturn, 1) := by decide +kernel
theorem d_B_isVariable_0 : decode b_B_isVariable 0 = .ok (.iload_n 0, 1) := by decide +kernel
theorem d_B_isVariable_1 : decode b_B_isVariable 1 = .ok (.iconst 1, 1) := by decide +kernel
theorem d_B_isVariable_2 : decode b_B_isVariable 2 = .ok (.if_icmp .lt 13, 3) := by decide +kernel
theorem d_B_isVariable_5 : decode b_B_isVariable 5 = .ok (.iload_n 0, 1) := by decide +kernel
theorem d_B_isVariable_6 : decode b_B_isVariable 6 = .ok (.bipush 10, 2) := by decide +kernel
theorem d_B_isVariable_8 : decode b_B_isVariable 8 = .ok (.if_icmp .gt 7, 3) := by decide +kernel
theorem d_B_isVariable_11 : decode b_B_isVariable 11 = .ok (.iconst 1, 1) := by decide +kernel
theorem d_B_isVariable_12 : decode b_B_isVariable 12 = .ok (.goto 4, 3) := by decide +kernel
theorem d_B_isVariable_15 : decode b_B_isVariable 15 = .ok (.iconst 0, 1) := by decide +kernel
theorem d_B_isVariable_16 : decode b_B_isVariable 16 = .ok (.ireturn, 1) := by decide +kernel
theorem d_B_isCut_0 : decode b_B_isCut 0 = .ok (.iload_n 0, 1) := by decide +kernel
theorem d_B_isCut_1 : decode b_B_isCut 1 = .ok (.iconst 1, 1) := by decide +kernel
theorem d_B_isCut_2 : decode b_B_isCut 2 = .ok (.if_icmp .lt 13, 3) := by decide +kernel
theorem d_B_isCut_5 : decode b_B_isCut 5 = .ok (.iload_n 0, 1) := by decide +kernel
theorem d_B_isCut_6 : decode b_B_isCut 6 = .ok (.bipush 7, 2) := by decide +kernel
theorem d_B_isCut_8 : decode b_B_isCut 8 = .ok (.if_icmp .gt 7, 3) := by decide +kernel
theorem d_B_isCut_11 : decode b_B_isCut 11 = .ok (.iconst 1, 1) := by decide +kernel
theorem d_B_isCut_12 : decode b_B_isCut 12 = .ok (.goto 4, 3) := by decide +kernel
theorem d_B_isCut_15 : decode b_B_isCut 15 = .ok (.iconst 0, 1) := by decide +kernel
theorem d_B_isCut_16 : decode b_B_isCut 16 = .ok (.ireturn, 1) := by decide +kernel
theorem d_B_isSystem_0 : decode b_B_isSystem 0 = .ok (.iload_n 0, 1) := by decide +kernel
theorem d_B_isSystem_1 : decode b_B_isSystem 1 = .ok (.ifCond .lt 12, 3) := by decide +kernel
theorem d_B_isSystem_4 : decode b_B_isSystem 4 = .ok (.iload_n 0, 1) := by decide +kernel
theorem d_B_isSystem_5 : decode b_B_isSystem 5 = .ok (.iconst 4, 1) := by decide +kernel
theorem d_B_isSystem_6 : decode b_B_isSystem 6 = .ok (.if_icmp .ge 7, 3) := by decide +kernel
theorem d_B_isSystem_9 : decode b_B_isSystem 9 = .ok (.iconst 1, 1) := by decide +kernel
theorem d_B_isSystem_10 : decode b_B_isSystem 10 = .ok (.goto 4, 3) := by decide +kernel
theorem d_B_isSystem_13 : decode b_B_isSystem 13 = .ok (.iconst 0, 1) := by decide +kernel
theorem d_B_isSystem_14 : decode b_B_isSystem 14 = .ok (.ireturn, 1) := by decide +kernel
theorem d_B_bitOf_0 : decode b_B_bitOf 0 = .ok (.iconst 1, 1) := by decide +kernel
theorem d_B_bitOf_1 : decode b_B_bitOf 1 = .ok (.iload_n 0, 1) := by decide +kernel
theorem d_B_bitOf_2 : decode b_B_bitOf 2 = .ok (.iconst 1, 1) := by decide +kernel
theorem d_B_bitOf_3 : decode b_B_bitOf 3 = .ok (.isub, 1) := by decide +kernel
theorem d_B_bitOf_4 : decode b_B_bitOf 4 = .ok (.ishl, 1) := by decide +kernel
theorem d_B_bitOf_5 : decode b_B_bitOf 5 = .ok (.ireturn, 1) := by decide +kernel
theorem d_A_init_0 : decode b_A_init 0 = .ok (.aload_n 0, 1) := by decide +kernel
theorem d_A_init_1 : decode b_A_init 1 = .ok (.invokespecial 3, 3) := by decide +kernel
theorem d_A_init_4 : decode b_A_init 4 = .ok (.aload_n 0, 1) := by decide +kernel
theorem d_A_init_5 : decode b_A_init 5 = .ok (.sipush 3216, 3) := by decide +kernel
theorem d_A_init_8 : decode b_A_init 8 = .ok (.newarray .long, 2) := by decide +kernel
theorem d_A_init_10 : decode b_A_init 10 = .ok (.putfield 9, 3) := by decide +kernel
theorem d_A_init_13 : decode b_A_init 13 = .ok (.aload_n 0, 1) := by decide +kernel
theorem d_A_init_14 : decode b_A_init 14 = .ok (.sipush 201, 3) := by decide +kernel
theorem d_A_init_17 : decode b_A_init 17 = .ok (.newarray .boolean, 2) := by decide +kernel
theorem d_A_init_19 : decode b_A_init 19 = .ok (.putfield 15, 3) := by decide +kernel
theorem d_A_init_22 : decode b_A_init 22 = .ok (.aload_n 0, 1) := by decide +kernel
theorem d_A_init_23 : decode b_A_init 23 = .ok (.new 19, 3) := by decide +kernel
theorem d_A_init_26 : decode b_A_init 26 = .ok (.dup, 1) := by decide +kernel
theorem d_A_init_27 : decode b_A_init 27 = .ok (.invokespecial 21, 3) := by decide +kernel
theorem d_A_init_30 : decode b_A_init 30 = .ok (.putfield 22, 3) := by decide +kernel
theorem d_A_init_33 : decode b_A_init 33 = .ok (.return_, 1) := by decide +kernel
theorem d_A_take_0 : decode b_A_take 0 = .ok (.aload_n 0, 1) := by decide +kernel
theorem d_A_take_1 : decode b_A_take 1 = .ok (.aload_n 2, 1) := by decide +kernel
theorem d_A_take_2 : decode b_A_take 2 = .ok (.getfield 26, 3) := by decide +kernel
theorem d_A_take_5 : decode b_A_take 5 = .ok (.putfield 32, 3) := by decide +kernel
theorem d_A_take_8 : decode b_A_take 8 = .ok (.iconst 1, 1) := by decide +kernel
theorem d_A_take_9 : decode b_A_take 9 = .ok (.istore_n 3, 1) := by decide +kernel
theorem d_A_take_10 : decode b_A_take 10 = .ok (.iload_n 3, 1) := by decide +kernel
theorem d_A_take_11 : decode b_A_take 11 = .ok (.sipush 200, 3) := by decide +kernel
theorem d_A_take_14 : decode b_A_take 14 = .ok (.if_icmp .gt 21, 3) := by decide +kernel
theorem d_A_take_17 : decode b_A_take 17 = .ok (.aload_n 0, 1) := by decide +kernel
theorem d_A_take_18 : decode b_A_take 18 = .ok (.getfield 15, 3) := by decide +kernel
theorem d_A_take_21 : decode b_A_take 21 = .ok (.iload_n 3, 1) := by decide +kernel
theorem d_A_take_22 : decode b_A_take 22 = .ok (.aload_n 2, 1) := by decide +kernel
theorem d_A_take_23 : decode b_A_take 23 = .ok (.getfield 35, 3) := by decide +kernel
theorem d_A_take_26 : decode b_A_take 26 = .ok (.iload_n 3, 1) := by decide +kernel
theorem d_A_take_27 : decode b_A_take 27 = .ok (.baload, 1) := by decide +kernel
theorem d_A_take_28 : decode b_A_take 28 = .ok (.bastore, 1) := by decide +kernel
theorem d_A_take_29 : decode b_A_take 29 = .ok (.iinc 3 1, 3) := by decide +kernel
theorem d_A_take_32 : decode b_A_take 32 = .ok (.goto (-22), 3) := by decide +kernel
theorem d_A_take_35 : decode b_A_take 35 = .ok (.iconst 0, 1) := by decide +kernel
theorem d_A_take_36 : decode b_A_take 36 = .ok (.istore_n 3, 1) := by decide +kernel
theorem d_A_take_37 : decode b_A_take 37 = .ok (.iload_n 3, 1) := by decide +kernel
theorem d_A_take_38 : decode b_A_take 38 = .ok (.bipush 16, 2) := by decide +kernel
theorem d_A_take_40 : decode b_A_take 40 = .ok (.if_icmp .ge 51, 3) := by decide +kernel
theorem d_A_take_43 : decode b_A_take 43 = .ok (.aload_n 1, 1) := by decide +kernel
theorem d_A_take_44 : decode b_A_take 44 = .ok (.iload_n 3, 1) := by decide +kernel
theorem d_A_take_45 : decode b_A_take 45 = .ok (.invokevirtual 38, 3) := by decide +kernel
theorem d_A_take_48 : decode b_A_take 48 = .ok (.iconst 1, 1) := by decide +kernel
theorem d_A_take_49 : decode b_A_take 49 = .ok (.istore 4, 2) := by decide +kernel
theorem d_A_take_51 : decode b_A_take 51 = .ok (.iload 4, 2) := by decide +kernel
theorem d_A_take_53 : decode b_A_take 53 = .ok (.aload_n 0, 1) := by decide +kernel
theorem d_A_take_54 : decode b_A_take 54 = .ok (.getfield 32, 3) := by decide +kernel
theorem d_A_take_57 : decode b_A_take 57 = .ok (.if_icmp .gt 28, 3) := by decide +kernel
theorem d_A_take_60 : decode b_A_take 60 = .ok (.aload_n 0, 1) := by decide +kernel
theorem d_A_take_61 : decode b_A_take 61 = .ok (.getfield 9, 3) := by decide +kernel
theorem d_A_take_64 : decode b_A_take 64 = .ok (.iload 4, 2) := by decide +kernel
theorem d_A_take_66 : decode b_A_take 66 = .ok (.bipush 16, 2) := by decide +kernel
theorem d_A_take_68 : decode b_A_take 68 = .ok (.imul, 1) := by decide +kernel
theorem d_A_take_69 : decode b_A_take 69 = .ok (.iload_n 3, 1) := by decide +kernel
theorem d_A_take_70 : decode b_A_take 70 = .ok (.iadd, 1) := by decide +kernel
theorem d_A_take_71 : decode b_A_take 71 = .ok (.aload_n 1, 1) := by decide +kernel
theorem d_A_take_72 : decode b_A_take 72 = .ok (.getfield 44, 3) := by decide +kernel
theorem d_A_take_75 : decode b_A_take 75 = .ok (.iload 4, 2) := by decide +kernel
theorem d_A_take_77 : decode b_A_take 77 = .ok (.laload, 1) := by decide +kernel
theorem d_A_take_78 : decode b_A_take 78 = .ok (.lastore, 1) := by decide +kernel
theorem d_A_take_79 : decode b_A_take 79 = .ok (.iinc 4 1, 3) := by decide +kernel
theorem d_A_take_82 : decode b_A_take 82 = .ok (.goto (-31), 3) := by decide +kernel
theorem d_A_take_85 : decode b_A_take 85 = .ok (.iinc 3 1, 3) := by decide +kernel
theorem d_A_take_88 : decode b_A_take 88 = .ok (.goto (-51), 3) := by decide +kernel
theorem d_A_take_91 : decode b_A_take 91 = .ok (.aload_n 0, 1) := by decide +kernel
theorem d_A_take_92 : decode b_A_take 92 = .ok (.getfield 22, 3) := by decide +kernel
theorem d_A_take_95 : decode b_A_take 95 = .ok (.aload_n 0, 1) := by decide +kernel
theorem d_A_take_96 : decode b_A_take 96 = .ok (.getfield 9, 3) := by decide +kernel
theorem d_A_take_99 : decode b_A_take 99 = .ok (.aload_n 0, 1) := by decide +kernel
theorem d_A_take_100 : decode b_A_take 100 = .ok (.getfield 32, 3) := by decide +kernel
theorem d_A_take_103 : decode b_A_take 103 = .ok (.bipush 16, 2) := by decide +kernel
theorem d_A_take_105 : decode b_A_take 105 = .ok (.imul, 1) := by decide +kernel
theorem d_A_take_106 : decode b_A_take 106 = .ok (.invokevirtual 47, 3) := by decide +kernel
theorem d_A_take_109 : decode b_A_take 109 = .ok (.return_, 1) := by decide +kernel
theorem d_A_truth_0 : decode b_A_truth 0 = .ok (.iload_n 1, 1) := by decide +kernel
theorem d_A_truth_1 : decode b_A_truth 1 = .ok (.iconst 1, 1) := by decide +kernel
theorem d_A_truth_2 : decode b_A_truth 2 = .ok (.if_icmp .lt 30, 3) := by decide +kernel
theorem d_A_truth_5 : decode b_A_truth 5 = .ok (.iload_n 1, 1) := by decide +kernel
theorem d_A_truth_6 : decode b_A_truth 6 = .ok (.sipush 200, 3) := by decide +kernel
theorem d_A_truth_9 : decode b_A_truth 9 = .ok (.if_icmp .gt 23, 3) := by decide +kernel
theorem d_A_truth_12 : decode b_A_truth 12 = .ok (.aload_n 0, 1) := by decide +kernel
theorem d_A_truth_13 : decode b_A_truth 13 = .ok (.getfield 15, 3) := by decide +kernel
theorem d_A_truth_16 : decode b_A_truth 16 = .ok (.iload_n 1, 1) := by decide +kernel
theorem d_A_truth_17 : decode b_A_truth 17 = .ok (.baload, 1) := by decide +kernel
theorem d_A_truth_18 : decode b_A_truth 18 = .ok (.ifCond .eq 14, 3) := by decide +kernel
theorem d_A_truth_21 : decode b_A_truth 21 = .ok (.iload_n 2, 1) := by decide +kernel
theorem d_A_truth_22 : decode b_A_truth 22 = .ok (.ifCond .lt 10, 3) := by decide +kernel
theorem d_A_truth_25 : decode b_A_truth 25 = .ok (.iload_n 2, 1) := by decide +kernel
theorem d_A_truth_26 : decode b_A_truth 26 = .ok (.sipush 1024, 3) := by decide +kernel
theorem d_A_truth_29 : decode b_A_truth 29 = .ok (.if_icmp .lt 5, 3) := by decide +kernel
theorem d_A_truth_32 : decode b_A_truth 32 = .ok (.iconst (-1), 1) := by decide +kernel
theorem d_A_truth_33 : decode b_A_truth 33 = .ok (.ireturn, 1) := by decide +kernel
theorem d_A_truth_34 : decode b_A_truth 34 = .ok (.aload_n 0, 1) := by decide +kernel
theorem d_A_truth_35 : decode b_A_truth 35 = .ok (.getfield 9, 3) := by decide +kernel
theorem d_A_truth_38 : decode b_A_truth 38 = .ok (.iload_n 1, 1) := by decide +kernel
theorem d_A_truth_39 : decode b_A_truth 39 = .ok (.bipush 16, 2) := by decide +kernel
theorem d_A_truth_41 : decode b_A_truth 41 = .ok (.imul, 1) := by decide +kernel
theorem d_A_truth_42 : decode b_A_truth 42 = .ok (.iload_n 2, 1) := by decide +kernel
theorem d_A_truth_43 : decode b_A_truth 43 = .ok (.invokestatic 51, 3) := by decide +kernel
theorem d_A_truth_46 : decode b_A_truth 46 = .ok (.ireturn, 1) := by decide +kernel
theorem d_A_trueValuations_0 : decode b_A_trueValuations 0 = .ok (.iconst 0, 1) := by decide +kernel
theorem d_A_trueValuations_1 : decode b_A_trueValuations 1 = .ok (.istore_n 1, 1) := by decide +kernel
theorem d_A_trueValuations_2 : decode b_A_trueValuations 2 = .ok (.iconst 0, 1) := by decide +kernel
theorem d_A_trueValuations_3 : decode b_A_trueValuations 3 = .ok (.istore_n 2, 1) := by decide +kernel
theorem d_A_trueValuations_4 : decode b_A_trueValuations 4 = .ok (.iload_n 2, 1) := by decide +kernel
theorem d_A_trueValuations_5 : decode b_A_trueValuations 5 = .ok (.bipush 16, 2) := by decide +kernel
theorem d_A_trueValuations_7 : decode b_A_trueValuations 7 = .ok (.if_icmp .ge 29, 3) := by decide +kernel
theorem d_A_trueValuations_10 : decode b_A_trueValuations 10 = .ok (.iload_n 1, 1) := by decide +kernel
theorem d_A_trueValuations_11 : decode b_A_trueValuations 11 = .ok (.aload_n 0, 1) := by decide +kernel
theorem d_A_trueValuations_12 : decode b_A_trueValuations 12 = .ok (.getfield 9, 3) := by decide +kernel
theorem d_A_trueValuations_15 : decode b_A_trueValuations 15 = .ok (.aload_n 0, 1) := by decide +kernel
theorem d_A_trueValuations_16 : decode b_A_trueValuations 16 = .ok (.getfield 32, 3) := by decide +kernel
theorem d_A_trueValuations_19 : decode b_A_trueValuations 19 = .ok (.bipush 16, 2) := by decide +kernel
theorem d_A_trueValuations_21 : decode b_A_trueValuations 21 = .ok (.imul, 1) := by decide +kernel
theorem d_A_trueValuations_22 : decode b_A_trueValuations 22 = .ok (.iload_n 2, 1) := by decide +kernel
theorem d_A_trueValuations_23 : decode b_A_trueValuations 23 = .ok (.iadd, 1) := by decide +kernel
theorem d_A_trueValuations_24 : decode b_A_trueValuations 24 = .ok (.laload, 1) := by decide +kernel
theorem d_A_trueValuations_25 : decode b_A_trueValuations 25 = .ok (.invokestatic 55, 3) := by decide +kernel
theorem d_A_trueValuations_28 : decode b_A_trueValuations 28 = .ok (.iadd, 1) := by decide +kernel
theorem d_A_trueValuations_29 : decode b_A_trueValuations 29 = .ok (.istore_n 1, 1) := by decide +kernel
theorem d_A_trueValuations_30 : decode b_A_trueValuations 30 = .ok (.iinc 2 1, 3) := by decide +kernel
theorem d_A_trueValuations_33 : decode b_A_trueValuations 33 = .ok (.goto (-29), 3) := by decide +kernel
theorem d_A_trueValuations_36 : decode b_A_trueValuations 36 = .ok (.iload_n 1, 1) := by decide +kernel
theorem d_A_trueValuations_37 : decode b_A_trueValuations 37 = .ok (.ireturn, 1) := by decide +kernel
theorem d_G_init_0 : decode b_G_init 0 = .ok (.aload_n 0, 1) := by decide +kernel
theorem d_G_init_1 : decode b_G_init 1 = .ok (.invokespecial 3, 3) := by decide +kernel
theorem d_G_init_4 : decode b_G_init 4 = .ok (.aload_n 0, 1) := by decide +kernel
theorem d_G_init_5 : decode b_G_init 5 = .ok (.sipush 269, 3) := by decide +kernel
theorem d_G_init_8 : decode b_G_init 8 = .ok (.newarray .int, 2) := by decide +kernel
theorem d_G_init_10 : decode b_G_init 10 = .ok (.putfield 11, 3) := by decide +kernel
theorem d_G_init_13 : decode b_G_init 13 = .ok (.aload_n 0, 1) := by decide +kernel
theorem d_G_init_14 : decode b_G_init 14 = .ok (.sipush 269, 3) := by decide +kernel
theorem d_G_init_17 : decode b_G_init 17 = .ok (.newarray .int, 2) := by decide +kernel
theorem d_G_init_19 : decode b_G_init 19 = .ok (.putfield 15, 3) := by decide +kernel
theorem d_G_init_22 : decode b_G_init 22 = .ok (.aload_n 0, 1) := by decide +kernel
theorem d_G_init_23 : decode b_G_init 23 = .ok (.sipush 269, 3) := by decide +kernel
theorem d_G_init_26 : decode b_G_init 26 = .ok (.newarray .int, 2) := by decide +kernel
theorem d_G_init_28 : decode b_G_init 28 = .ok (.putfield 18, 3) := by decide +kernel
theorem d_G_init_31 : decode b_G_init 31 = .ok (.aload_n 0, 1) := by decide +kernel
theorem d_G_init_32 : decode b_G_init 32 = .ok (.sipush 269, 3) := by decide +kernel
theorem d_G_init_35 : decode b_G_init 35 = .ok (.newarray .int, 2) := by decide +kernel
theorem d_G_init_37 : decode b_G_init 37 = .ok (.putfield 21, 3) := by decide +kernel
theorem d_G_init_40 : decode b_G_init 40 = .ok (.aload_n 0, 1) := by decide +kernel
theorem d_G_init_41 : decode b_G_init 41 = .ok (.sipush 269, 3) := by decide +kernel
theorem d_G_init_44 : decode b_G_init 44 = .ok (.newarray .int, 2) := by decide +kernel
theorem d_G_init_46 : decode b_G_init 46 = .ok (.putfield 24, 3) := by decide +kernel
theorem d_G_init_49 : decode b_G_init 49 = .ok (.aload_n 0, 1) := by decide +kernel
theorem d_G_init_50 : decode b_G_init 50 = .ok (.sipush 1024, 3) := by decide +kernel
theorem d_G_init_53 : decode b_G_init 53 = .ok (.newarray .int, 2) := by decide +kernel
theorem d_G_init_55 : decode b_G_init 55 = .ok (.putfield 27, 3) := by decide +kernel
theorem d_G_init_58 : decode b_G_init 58 = .ok (.aload_n 0, 1) := by decide +kernel
theorem d_G_init_59 : decode b_G_init 59 = .ok (.bipush 12, 2) := by decide +kernel
theorem d_G_init_61 : decode b_G_init 61 = .ok (.newarray .int, 2) := by decide +kernel
theorem d_G_init_63 : decode b_G_init 63 = .ok (.putfield 30, 3) := by decide +kernel
theorem d_G_init_66 : decode b_G_init 66 = .ok (.return_, 1) := by decide +kernel
theorem d_G_bitAt_0 : decode b_G_bitAt 0 = .ok (.iload_n 1, 1) := by decide +kernel
theorem d_G_bitAt_1 : decode b_G_bitAt 1 = .ok (.iload_n 2, 1) := by decide +kernel
theorem d_G_bitAt_2 : decode b_G_bitAt 2 = .ok (.bipush 64, 2) := by decide +kernel
theorem d_G_bitAt_4 : decode b_G_bitAt 4 = .ok (.idiv, 1) := by decide +kernel
theorem d_G_bitAt_5 : decode b_G_bitAt 5 = .ok (.iadd, 1) := by decide +kernel
theorem d_G_bitAt_6 : decode b_G_bitAt 6 = .ok (.istore_n 3, 1) := by decide +kernel
theorem d_G_bitAt_7 : decode b_G_bitAt 7 = .ok (.iload_n 2, 1) := by decide +kernel
theorem d_G_bitAt_8 : decode b_G_bitAt 8 = .ok (.ifCond .lt 13, 3) := by decide +kernel
theorem d_G_bitAt_11 : decode b_G_bitAt 11 = .ok (.iload_n 3, 1) := by decide +kernel
theorem d_G_bitAt_12 : decode b_G_bitAt 12 = .ok (.ifCond .lt 9, 3) := by decide +kernel
theorem d_G_bitAt_15 : decode b_G_bitAt 15 = .ok (.iload_n 3, 1) := by decide +kernel
theorem d_G_bitAt_16 : decode b_G_bitAt 16 = .ok (.aload_n 0, 1) := by decide +kernel
theorem d_G_bitAt_17 : decode b_G_bitAt 17 = .ok (.arraylength, 1) := by decide +kernel
theorem d_G_bitAt_18 : decode b_G_bitAt 18 = .ok (.if_icmp .lt 5, 3) := by decide +kernel
theorem d_G_bitAt_21 : decode b_G_bitAt 21 = .ok (.iconst 0, 1) := by decide +kernel
theorem d_G_bitAt_22 : decode b_G_bitAt 22 = .ok (.ireturn, 1) := by decide +kernel
theorem d_G_bitAt_23 : decode b_G_bitAt 23 = .ok (.aload_n 0, 1) := by decide +kernel
theorem d_G_bitAt_24 : decode b_G_bitAt 24 = .ok (.iload_n 3, 1) := by decide +kernel
theorem d_G_bitAt_25 : decode b_G_bitAt 25 = .ok (.laload, 1) := by decide +kernel
theorem d_G_bitAt_26 : decode b_G_bitAt 26 = .ok (.iload_n 2, 1) := by decide +kernel
theorem d_G_bitAt_27 : decode b_G_bitAt 27 = .ok (.bipush 64, 2) := by decide +kernel
theorem d_G_bitAt_29 : decode b_G_bitAt 29 = .ok (.irem, 1) := by decide +kernel
theorem d_G_bitAt_30 : decode b_G_bitAt 30 = .ok (.lushr, 1) := by decide +kernel
theorem d_G_bitAt_31 : decode b_G_bitAt 31 = .ok (.lconst 1, 1) := by decide +kernel
theorem d_G_bitAt_32 : decode b_G_bitAt 32 = .ok (.land, 1) := by decide +kernel
theorem d_G_bitAt_33 : decode b_G_bitAt 33 = .ok (.l2i, 1) := by decide +kernel
theorem d_G_bitAt_34 : decode b_G_bitAt 34 = .ok (.ireturn, 1) := by decide +kernel
theorem d_G_build_0 : decode b_G_build 0 = .ok (.aload_n 0, 1) := by decide +kernel
theorem d_G_build_1 : decode b_G_build 1 = .ok (.iconst 0, 1) := by decide +kernel
theorem d_G_build_2 : decode b_G_build 2 = .ok (.putfield 33, 3) := by decide +kernel
theorem d_G_build_5 : decode b_G_build 5 = .ok (.iconst 0, 1) := by decide +kernel
theorem d_G_build_6 : decode b_G_build 6 = .ok (.istore_n 3, 1) := by decide +kernel
theorem d_G_build_7 : decode b_G_build 7 = .ok (.iload_n 3, 1) := by decide +kernel
theorem d_G_build_8 : decode b_G_build 8 = .ok (.sipush 1024, 3) := by decide +kernel
theorem d_G_build_11 : decode b_G_build 11 = .ok (.if_icmp .ge 32, 3) := by decide +kernel
theorem d_G_build_14 : decode b_G_build 14 = .ok (.aload_n 0, 1) := by decide +kernel
theorem d_G_build_15 : decode b_G_build 15 = .ok (.getfield 27, 3) := by decide +kernel
theorem d_G_build_18 : decode b_G_build 18 = .ok (.iload_n 3, 1) := by decide +kernel
theorem d_G_build_19 : decode b_G_build 19 = .ok (.aload_n 1, 1) := by decide +kernel
theorem d_G_build_20 : decode b_G_build 20 = .ok (.iload_n 2, 1) := by decide +kernel
theorem d_G_build_21 : decode b_G_build 21 = .ok (.iload_n 3, 1) := by decide +kernel
theorem d_G_build_22 : decode b_G_build 22 = .ok (.invokestatic 37, 3) := by decide +kernel
theorem d_G_build_25 : decode b_G_build 25 = .ok (.iconst 1, 1) := by decide +kernel
theorem d_G_build_26 : decode b_G_build 26 = .ok (.if_icmp .ne 8, 3) := by decide +kernel
theorem d_G_build_29 : decode b_G_build 29 = .ok (.bipush (-3), 2) := by decide +kernel
theorem d_G_build_31 : decode b_G_build 31 = .ok (.goto 5, 3) := by decide +kernel
theorem d_G_build_34 : decode b_G_build 34 = .ok (.bipush (-2), 2) := by decide +kernel
theorem d_G_build_36 : decode b_G_build 36 = .ok (.iastore, 1) := by decide +kernel
theorem d_G_build_37 : decode b_G_build 37 = .ok (.iinc 3 1, 3) := by decide +kernel
theorem d_G_build_40 : decode b_G_build 40 = .ok (.goto (-33), 3) := by decide +kernel
theorem d_G_build_43 : decode b_G_build 43 = .ok (.bipush 10, 2) := by decide +kernel
theorem d_G_build_45 : decode b_G_build 45 = .ok (.istore_n 3, 1) := by decide +kernel
theorem d_G_build_46 : decode b_G_build 46 = .ok (.iload_n 3, 1) := by decide +kernel
theorem d_G_build_47 : decode b_G_build 47 = .ok (.iconst 1, 1) := by decide +kernel
theorem d_G_build_48 : decode b_G_build 48 = .ok (.if_icmp .lt 66, 3) := by decide +kernel
theorem d_G_build_51 : decode b_G_build 51 = .ok (.aload_n 0, 1) := by decide +kernel
theorem d_G_build_52 : decode b_G_build 52 = .ok (.getfield 33, 3) := by decide +kernel
theorem d_G_build_55 : decode b_G_build 55 = .ok (.istore 4, 2) := by decide +kernel
theorem d_G_build_57 : decode b_G_build 57 = .ok (.iconst 0, 1) := by decide +kernel
theorem d_G_build_58 : decode b_G_build 58 = .ok (.istore 5, 2) := by decide +kernel
theorem d_G_build_60 : decode b_G_build 60 = .ok (.iload 5, 2) := by decide +kernel
theorem d_G_build_62 : decode b_G_build 62 = .ok (.iload_n 3, 1) := by decide +kernel
theorem d_G_build_63 : decode b_G_build 63 = .ok (.invokestatic 41, 3) := by decide +kernel
theorem d_G_build_66 : decode b_G_build 66 = .ok (.if_icmp .ge 42, 3) := by decide +kernel
theorem d_G_build_69 : decode b_G_build 69 = .ok (.aload_n 0, 1) := by decide +kernel
theorem d_G_build_70 : decode b_G_build 70 = .ok (.getfield 27, 3) := by decide +kernel
theorem d_G_build_73 : decode b_G_build 73 = .ok (.iload 5, 2) := by decide +kernel
theorem d_G_build_75 : decode b_G_build 75 = .ok (.aload_n 0, 1) := by decide +kernel
theorem d_G_build_76 : decode b_G_build 76 = .ok (.iload_n 3, 1) := by decide +kernel
theorem d_G_build_77 : decode b_G_build 77 = .ok (.aload_n 0, 1) := by decide +kernel
theorem d_G_build_78 : decode b_G_build 78 = .ok (.getfield 27, 3) := by decide +kernel
theorem d_G_build_81 : decode b_G_build 81 = .ok (.iload 5, 2) := by decide +kernel
theorem d_G_build_83 : decode b_G_build 83 = .ok (.iaload, 1) := by decide +kernel
theorem d_G_build_84 : decode b_G_build 84 = .ok (.aload_n 0, 1) := by decide +kernel
theorem d_G_build_85 : decode b_G_build 85 = .ok (.getfield 27, 3) := by decide +kernel
theorem d_G_build_88 : decode b_G_build 88 = .ok (.iload 5, 2) := by decide +kernel
theorem d_G_build_90 : decode b_G_build 90 = .ok (.iload_n 3, 1) := by decide +kernel
theorem d_G_build_91 : decode b_G_build 91 = .ok (.invokestatic 41, 3) := by decide +kernel
theorem d_G_build_94 : decode b_G_build 94 = .ok (.iadd, 1) := by decide +kernel
theorem d_G_build_95 : decode b_G_build 95 = .ok (.iaload, 1) := by decide +kernel
theorem d_G_build_96 : decode b_G_build 96 = .ok (.iload 4, 2) := by decide +kernel
theorem d_G_build_98 : decode b_G_build 98 = .ok (.invokevirtual 45, 3) := by decide +kernel
theorem d_G_build_101 : decode b_G_build 101 = .ok (.iastore, 1) := by decide +kernel
theorem d_G_build_102 : decode b_G_build 102 = .ok (.iinc 5 1, 3) := by decide +kernel
theorem d_G_build_105 : decode b_G_build 105 = .ok (.goto (-45), 3) := by decide +kernel
theorem d_G_build_108 : decode b_G_build 108 = .ok (.iinc 3 (-1), 3) := by decide +kernel
theorem d_G_build_111 : decode b_G_build 111 = .ok (.goto (-65), 3) := by decide +kernel
theorem d_G_build_114 : decode b_G_build 114 = .ok (.aload_n 0, 1) := by decide +kernel
theorem d_G_build_115 : decode b_G_build 115 = .ok (.aload_n 0, 1) := by decide +kernel
theorem d_G_build_116 : decode b_G_build 116 = .ok (.getfield 27, 3) := by decide +kernel
theorem d_G_build_119 : decode b_G_build 119 = .ok (.iconst 0, 1) := by decide +kernel
theorem d_G_build_120 : decode b_G_build 120 = .ok (.iaload, 1) := by decide +kernel
theorem d_G_build_121 : decode b_G_build 121 = .ok (.invokevirtual 49, 3) := by decide +kernel
theorem d_G_build_124 : decode b_G_build 124 = .ok (.return_, 1) := by decide +kernel
theorem d_G_join_0 : decode b_G_join 0 = .ok (.iload_n 2, 1) := by decide +kernel
theorem d_G_join_1 : decode b_G_join 1 = .ok (.iload_n 3, 1) := by decide +kernel
theorem d_G_join_2 : decode b_G_join 2 = .ok (.if_icmp .ne 5, 3) := by decide +kernel
theorem d_G_join_5 : decode b_G_join 5 = .ok (.iload_n 2, 1) := by decide +kernel
theorem d_G_join_6 : decode b_G_join 6 = .ok (.ireturn, 1) := by decide +kernel
theorem d_G_join_7 : decode b_G_join 7 = .ok (.iload 4, 2) := by decide +kernel
theorem d_G_join_9 : decode b_G_join 9 = .ok (.istore 5, 2) := by decide +kernel
theorem d_G_join_11 : decode b_G_join 11 = .ok (.iload 5, 2) := by decide +kernel
theorem d_G_join_13 : decode b_G_join 13 = .ok (.aload_n 0, 1) := by decide +kernel
theorem d_G_join_14 : decode b_G_join 14 = .ok (.getfield 33, 3) := by decide +kernel
theorem d_G_join_17 : decode b_G_join 17 = .ok (.if_icmp .ge 34, 3) := by decide +kernel
theorem d_G_join_20 : decode b_G_join 20 = .ok (.aload_n 0, 1) := by decide +kernel
theorem d_G_join_21 : decode b_G_join 21 = .ok (.getfield 15, 3) := by decide +kernel
theorem d_G_join_24 : decode b_G_join 24 = .ok (.iload 5, 2) := by decide +kernel
theorem d_G_join_26 : decode b_G_join 26 = .ok (.iaload, 1) := by decide +kernel
theorem d_G_join_27 : decode b_G_join 27 = .ok (.iload_n 2, 1) := by decide +kernel
theorem d_G_join_28 : decode b_G_join 28 = .ok (.if_icmp .ne 17, 3) := by decide +kernel
theorem d_G_join_31 : decode b_G_join 31 = .ok (.aload_n 0, 1) := by decide +kernel
theorem d_G_join_32 : decode b_G_join 32 = .ok (.getfield 18, 3) := by decide +kernel
theorem d_G_join_35 : decode b_G_join 35 = .ok (.iload 5, 2) := by decide +kernel
theorem d_G_join_37 : decode b_G_join 37 = .ok (.iaload, 1) := by decide +kernel
theorem d_G_join_38 : decode b_G_join 38 = .ok (.iload_n 3, 1) := by decide +kernel
theorem d_G_join_39 : decode b_G_join 39 = .ok (.if_icmp .ne 6, 3) := by decide +kernel
theorem d_G_join_42 : decode b_G_join 42 = .ok (.iload 5, 2) := by decide +kernel
theorem d_G_join_44 : decode b_G_join 44 = .ok (.ireturn, 1) := by decide +kernel
theorem d_G_join_45 : decode b_G_join 45 = .ok (.iinc 5 1, 3) := by decide +kernel
theorem d_G_join_48 : decode b_G_join 48 = .ok (.goto (-37), 3) := by decide +kernel
theorem d_G_join_51 : decode b_G_join 51 = .ok (.aload_n 0, 1) := by decide +kernel
theorem d_G_join_52 : decode b_G_join 52 = .ok (.getfield 33, 3) := by decide +kernel
theorem d_G_join_55 : decode b_G_join 55 = .ok (.sipush 269, 3) := by decide +kernel
theorem d_G_join_58 : decode b_G_join 58 = .ok (.if_icmp .lt 6, 3) := by decide +kernel
theorem d_G_join_61 : decode b_G_join 61 = .ok (.bipush (-2), 2) := by decide +kernel
theorem d_G_join_63 : decode b_G_join 63 = .ok (.ireturn, 1) := by decide +kernel
theorem d_G_join_64 : decode b_G_join 64 = .ok (.aload_n 0, 1) := by decide +kernel
theorem d_G_join_65 : decode b_G_join 65 = .ok (.getfield 11, 3) := by decide +kernel
theorem d_G_join_68 : decode b_G_join 68 = .ok (.aload_n 0, 1) := by decide +kernel
theorem d_G_join_69 : decode b_G_join 69 = .ok (.getfield 33, 3) := by decide +kernel
theorem d_G_join_72 : decode b_G_join 72 = .ok (.iload_n 1, 1) := by decide +kernel
theorem d_G_join_73 : decode b_G_join 73 = .ok (.iastore, 1) := by decide +kernel
theorem d_G_join_74 : decode b_G_join 74 = .ok (.aload_n 0, 1) := by decide +kernel
theorem d_G_join_75 : decode b_G_join 75 = .ok (.getfield 15, 3) := by decide +kernel
theorem d_G_join_78 : decode b_G_join 78 = .ok (.aload_n 0, 1) := by decide +kernel
theorem d_G_join_79 : decode b_G_join 79 = .ok (.getfield 33, 3) := by decide +kernel
theorem d_G_join_82 : decode b_G_join 82 = .ok (.iload_n 2, 1) := by decide +kernel
theorem d_G_join_83 : decode b_G_join 83 = .ok (.iastore, 1) := by decide +kernel
theorem d_G_join_84 : decode b_G_join 84 = .ok (.aload_n 0, 1) := by decide +kernel
theorem d_G_join_85 : decode b_G_join 85 = .ok (.getfield 18, 3) := by decide +kernel
theorem d_G_join_88 : decode b_G_join 88 = .ok (.aload_n 0, 1) := by decide +kernel
theorem d_G_join_89 : decode b_G_join 89 = .ok (.getfield 33, 3) := by decide +kernel
theorem d_G_join_92 : decode b_G_join 92 = .ok (.iload_n 3, 1) := by decide +kernel
theorem d_G_join_93 : decode b_G_join 93 = .ok (.iastore, 1) := by decide +kernel
theorem d_G_join_94 : decode b_G_join 94 = .ok (.aload_n 0, 1) := by decide +kernel
theorem d_G_join_95 : decode b_G_join 95 = .ok (.getfield 21, 3) := by decide +kernel
theorem d_G_join_98 : decode b_G_join 98 = .ok (.aload_n 0, 1) := by decide +kernel
theorem d_G_join_99 : decode b_G_join 99 = .ok (.getfield 33, 3) := by decide +kernel
theorem d_G_join_102 : decode b_G_join 102 = .ok (.iconst (-1), 1) := by decide +kernel
theorem d_G_join_103 : decode b_G_join 103 = .ok (.iastore, 1) := by decide +kernel
theorem d_G_join_104 : decode b_G_join 104 = .ok (.aload_n 0, 1) := by decide +kernel
theorem d_G_join_105 : decode b_G_join 105 = .ok (.dup, 1) := by decide +kernel
theorem d_G_join_106 : decode b_G_join 106 = .ok (.getfield 33, 3) := by decide +kernel
theorem d_G_join_109 : decode b_G_join 109 = .ok (.iconst 1, 1) := by decide +kernel
theorem d_G_join_110 : decode b_G_join 110 = .ok (.iadd, 1) := by decide +kernel
theorem d_G_join_111 : decode b_G_join 111 = .ok (.putfield 33, 3) := by decide +kernel
theorem d_G_join_114 : decode b_G_join 114 = .ok (.aload_n 0, 1) := by decide +kernel
theorem d_G_join_115 : decode b_G_join 115 = .ok (.getfield 33, 3) := by decide +kernel
theorem d_G_join_118 : decode b_G_join 118 = .ok (.iconst 1, 1) := by decide +kernel
theorem d_G_join_119 : decode b_G_join 119 = .ok (.isub, 1) := by decide +kernel
theorem d_G_join_120 : decode b_G_join 120 = .ok (.ireturn, 1) := by decide +kernel
theorem d_G_numberFrom_0 : decode b_G_numberFrom 0 = .ok (.iconst 0, 1) := by decide +kernel
theorem d_G_numberFrom_1 : decode b_G_numberFrom 1 = .ok (.istore_n 2, 1) := by decide +kernel
theorem d_G_numberFrom_2 : decode b_G_numberFrom 2 = .ok (.iconst 1, 1) := by decide +kernel
theorem d_G_numberFrom_3 : decode b_G_numberFrom 3 = .ok (.istore_n 3, 1) := by decide +kernel
theorem d_G_numberFrom_4 : decode b_G_numberFrom 4 = .ok (.aload_n 0, 1) := by decide +kernel
theorem d_G_numberFrom_5 : decode b_G_numberFrom 5 = .ok (.getfield 30, 3) := by decide +kernel
theorem d_G_numberFrom_8 : decode b_G_numberFrom 8 = .ok (.iconst 0, 1) := by decide +kernel
theorem d_G_numberFrom_9 : decode b_G_numberFrom 9 = .ok (.iload_n 1, 1) := by decide +kernel
theorem d_G_numberFrom_10 : decode b_G_numberFrom 10 = .ok (.iastore, 1) := by decide +kernel
theorem d_G_numberFrom_11 : decode b_G_numberFrom 11 = .ok (.iconst 0, 1) := by decide +kernel
theorem d_G_numberFrom_12 : decode b_G_numberFrom 12 = .ok (.istore 4, 2) := by decide +kernel
theorem d_G_numberFrom_14 : decode b_G_numberFrom 14 = .ok (.iload 4, 2) := by decide +kernel
theorem d_G_numberFrom_16 : decode b_G_numberFrom 16 = .ok (.sipush 538, 3) := by decide +kernel
theorem d_G_numberFrom_19 : decode b_G_numberFrom 19 = .ok (.if_icmp .gt 98, 3) := by decide +kernel
theorem d_G_numberFrom_22 : decode b_G_numberFrom 22 = .ok (.iload_n 3, 1) := by decide +kernel
theorem d_G_numberFrom_23 : decode b_G_numberFrom 23 = .ok (.ifCond .le 94, 3) := by decide +kernel
theorem d_G_numberFrom_26 : decode b_G_numberFrom 26 = .ok (.iinc 3 (-1), 3) := by decide +kernel
theorem d_G_numberFrom_29 : decode b_G_numberFrom 29 = .ok (.aload_n 0, 1) := by decide +kernel
theorem d_G_numberFrom_30 : decode b_G_numberFrom 30 = .ok (.getfield 30, 3) := by decide +kernel
theorem d_G_numberFrom_33 : decode b_G_numberFrom 33 = .ok (.iload_n 3, 1) := by decide +kernel
theorem d_G_numberFrom_34 : decode b_G_numberFrom 34 = .ok (.iaload, 1) := by decide +kernel
theorem d_G_numberFrom_35 : decode b_G_numberFrom 35 = .ok (.istore 5, 2) := by decide +kernel
theorem d_G_numberFrom_37 : decode b_G_numberFrom 37 = .ok (.iload 5, 2) := by decide +kernel
theorem d_G_numberFrom_39 : decode b_G_numberFrom 39 = .ok (.ifCond .lt 72, 3) := by decide +kernel
theorem d_G_numberFrom_42 : decode b_G_numberFrom 42 = .ok (.aload_n 0, 1) := by decide +kernel
theorem d_G_numberFrom_43 : decode b_G_numberFrom 43 = .ok (.getfield 21, 3) := by decide +kernel
theorem d_G_numberFrom_46 : decode b_G_numberFrom 46 = .ok (.iload 5, 2) := by decide +kernel
theorem d_G_numberFrom_48 : decode b_G_numberFrom 48 = .ok (.iaload, 1) := by decide +kernel
theorem d_G_numberFrom_49 : decode b_G_numberFrom 49 = .ok (.iconst (-1), 1) := by decide +kernel
theorem d_G_numberFrom_50 : decode b_G_numberFrom 50 = .ok (.if_icmp .ne 61, 3) := by decide +kernel
theorem d_G_numberFrom_53 : decode b_G_numberFrom 53 = .ok (.iload_n 3, 1) := by decide +kernel
theorem d_G_numberFrom_54 : decode b_G_numberFrom 54 = .ok (.iconst 1, 1) := by decide +kernel
theorem d_G_numberFrom_55 : decode b_G_numberFrom 55 = .ok (.iadd, 1) := by decide +kernel
theorem d_G_numberFrom_56 : decode b_G_numberFrom 56 = .ok (.bipush 12, 2) := by decide +kernel
theorem d_G_numberFrom_58 : decode b_G_numberFrom 58 = .ok (.if_icmp .ge 53, 3) := by decide +kernel
theorem d_G_numberFrom_61 : decode b_G_numberFrom 61 = .ok (.aload_n 0, 1) := by decide +kernel
theorem d_G_numberFrom_62 : decode b_G_numberFrom 62 = .ok (.getfield 21, 3) := by decide +kernel
theorem d_G_numberFrom_65 : decode b_G_numberFrom 65 = .ok (.iload 5, 2) := by decide +kernel
theorem d_G_numberFrom_67 : decode b_G_numberFrom 67 = .ok (.iload_n 2, 1) := by decide +kernel
theorem d_G_numberFrom_68 : decode b_G_numberFrom 68 = .ok (.iastore, 1) := by decide +kernel
theorem d_G_numberFrom_69 : decode b_G_numberFrom 69 = .ok (.aload_n 0, 1) := by decide +kernel
theorem d_G_numberFrom_70 : decode b_G_numberFrom 70 = .ok (.getfield 24, 3) := by decide +kernel
theorem d_G_numberFrom_73 : decode b_G_numberFrom 73 = .ok (.iload_n 2, 1) := by decide +kernel
theorem d_G_numberFrom_74 : decode b_G_numberFrom 74 = .ok (.iload 5, 2) := by decide +kernel
theorem d_G_numberFrom_76 : decode b_G_numberFrom 76 = .ok (.iastore, 1) := by decide +kernel
theorem d_G_numberFrom_77 : decode b_G_numberFrom 77 = .ok (.iinc 2 1, 3) := by decide +kernel
theorem d_G_numberFrom_80 : decode b_G_numberFrom 80 = .ok (.aload_n 0, 1) := by decide +kernel
theorem d_G_numberFrom_81 : decode b_G_numberFrom 81 = .ok (.getfield 30, 3) := by decide +kernel
theorem d_G_numberFrom_84 : decode b_G_numberFrom 84 = .ok (.iload_n 3, 1) := by decide +kernel
theorem d_G_numberFrom_85 : decode b_G_numberFrom 85 = .ok (.aload_n 0, 1) := by decide +kernel
theorem d_G_numberFrom_86 : decode b_G_numberFrom 86 = .ok (.getfield 18, 3) := by decide +kernel
theorem d_G_numberFrom_89 : decode b_G_numberFrom 89 = .ok (.iload 5, 2) := by decide +kernel
theorem d_G_numberFrom_91 : decode b_G_numberFrom 91 = .ok (.iaload, 1) := by decide +kernel
theorem d_G_numberFrom_92 : decode b_G_numberFrom 92 = .ok (.iastore, 1) := by decide +kernel
theorem d_G_numberFrom_93 : decode b_G_numberFrom 93 = .ok (.aload_n 0, 1) := by decide +kernel
theorem d_G_numberFrom_94 : decode b_G_numberFrom 94 = .ok (.getfield 30, 3) := by decide +kernel
theorem d_G_numberFrom_97 : decode b_G_numberFrom 97 = .ok (.iload_n 3, 1) := by decide +kernel
theorem d_G_numberFrom_98 : decode b_G_numberFrom 98 = .ok (.iconst 1, 1) := by decide +kernel
theorem d_G_numberFrom_99 : decode b_G_numberFrom 99 = .ok (.iadd, 1) := by decide +kernel
theorem d_G_numberFrom_100 : decode b_G_numberFrom 100 = .ok (.aload_n 0, 1) := by decide +kernel
theorem d_G_numberFrom_101 : decode b_G_numberFrom 101 = .ok (.getfield 15, 3) := by decide +kernel
theorem d_G_numberFrom_104 : decode b_G_numberFrom 104 = .ok (.iload 5, 2) := by decide +kernel
theorem d_G_numberFrom_106 : decode b_G_numberFrom 106 = .ok (.iaload, 1) := by decide +kernel
theorem d_G_numberFrom_107 : decode b_G_numberFrom 107 = .ok (.iastore, 1) := by decide +kernel
theorem d_G_numberFrom_108 : decode b_G_numberFrom 108 = .ok (.iinc 3 2, 3) := by decide +kernel
theorem d_G_numberFrom_111 : decode b_G_numberFrom 111 = .ok (.iinc 4 1, 3) := by decide +kernel
theorem d_G_numberFrom_114 : decode b_G_numberFrom 114 = .ok (.goto (-100), 3) := by decide +kernel
theorem d_G_numberFrom_117 : decode b_G_numberFrom 117 = .ok (.return_, 1) := by decide +kernel
theorem d_G_support_0 : decode b_G_support 0 = .ok (.iconst 0, 1) := by decide +kernel
theorem d_G_support_1 : decode b_G_support 1 = .ok (.istore_n 1, 1) := by decide +kernel
theorem d_G_support_2 : decode b_G_support 2 = .ok (.iconst 0, 1) := by decide +kernel
theorem d_G_support_3 : decode b_G_support 3 = .ok (.istore_n 2, 1) := by decide +kernel
theorem d_G_support_4 : decode b_G_support 4 = .ok (.iload_n 2, 1) := by decide +kernel
theorem d_G_support_5 : decode b_G_support 5 = .ok (.aload_n 0, 1) := by decide +kernel
theorem d_G_support_6 : decode b_G_support 6 = .ok (.getfield 33, 3) := by decide +kernel
theorem d_G_support_9 : decode b_G_support 9 = .ok (.if_icmp .ge 21, 3) := by decide +kernel
theorem d_G_support_12 : decode b_G_support 12 = .ok (.iload_n 1, 1) := by decide +kernel
theorem d_G_support_13 : decode b_G_support 13 = .ok (.aload_n 0, 1) := by decide +kernel
theorem d_G_support_14 : decode b_G_support 14 = .ok (.getfield 11, 3) := by decide +kernel
theorem d_G_support_17 : decode b_G_support 17 = .ok (.iload_n 2, 1) := by decide +kernel
theorem d_G_support_18 : decode b_G_support 18 = .ok (.iaload, 1) := by decide +kernel
theorem d_G_support_19 : decode b_G_support 19 = .ok (.invokestatic 41, 3) := by decide +kernel
theorem d_G_support_22 : decode b_G_support 22 = .ok (.ior, 1) := by decide +kernel
theorem d_G_support_23 : decode b_G_support 23 = .ok (.istore_n 1, 1) := by decide +kernel
theorem d_G_support_24 : decode b_G_support 24 = .ok (.iinc 2 1, 3) := by decide +kernel
theorem d_G_support_27 : decode b_G_support 27 = .ok (.goto (-23), 3) := by decide +kernel
theorem d_G_support_30 : decode b_G_support 30 = .ok (.iload_n 1, 1) := by decide +kernel
theorem d_G_support_31 : decode b_G_support 31 = .ok (.ireturn, 1) := by decide +kernel
theorem d_G_tell_0 : decode b_G_tell 0 = .ok (.iload_n 1, 1) := by decide +kernel
theorem d_G_tell_1 : decode b_G_tell 1 = .ok (.ifCond .lt 11, 3) := by decide +kernel
theorem d_G_tell_4 : decode b_G_tell 4 = .ok (.iload_n 1, 1) := by decide +kernel
theorem d_G_tell_5 : decode b_G_tell 5 = .ok (.aload_n 0, 1) := by decide +kernel
theorem d_G_tell_6 : decode b_G_tell 6 = .ok (.getfield 33, 3) := by decide +kernel
theorem d_G_tell_9 : decode b_G_tell 9 = .ok (.if_icmp .lt 5, 3) := by decide +kernel
theorem d_G_tell_12 : decode b_G_tell 12 = .ok (.iconst (-1), 1) := by decide +kernel
theorem d_G_tell_13 : decode b_G_tell 13 = .ok (.ireturn, 1) := by decide +kernel
theorem d_G_tell_14 : decode b_G_tell 14 = .ok (.aload_n 0, 1) := by decide +kernel
theorem d_G_tell_15 : decode b_G_tell 15 = .ok (.getfield 24, 3) := by decide +kernel
theorem d_G_tell_18 : decode b_G_tell 18 = .ok (.iload_n 1, 1) := by decide +kernel
theorem d_G_tell_19 : decode b_G_tell 19 = .ok (.iaload, 1) := by decide +kernel
theorem d_G_tell_20 : decode b_G_tell 20 = .ok (.istore_n 3, 1) := by decide +kernel
theorem d_G_tell_21 : decode b_G_tell 21 = .ok (.iload_n 2, 1) := by decide +kernel
theorem d_G_tell_22 : decode b_G_tell 22 = .ok (.tableswitch 55 0 2 #[26, 33, 44], 26) := by decide +kernel
theorem d_G_tell_48 : decode b_G_tell 48 = .ok (.aload_n 0, 1) := by decide +kernel
theorem d_G_tell_49 : decode b_G_tell 49 = .ok (.getfield 11, 3) := by decide +kernel
theorem d_G_tell_52 : decode b_G_tell 52 = .ok (.iload_n 3, 1) := by decide +kernel
theorem d_G_tell_53 : decode b_G_tell 53 = .ok (.iaload, 1) := by decide +kernel
theorem d_G_tell_54 : decode b_G_tell 54 = .ok (.ireturn, 1) := by decide +kernel
theorem d_G_tell_55 : decode b_G_tell 55 = .ok (.aload_n 0, 1) := by decide +kernel
theorem d_G_tell_56 : decode b_G_tell 56 = .ok (.aload_n 0, 1) := by decide +kernel
theorem d_G_tell_57 : decode b_G_tell 57 = .ok (.getfield 15, 3) := by decide +kernel
theorem d_G_tell_60 : decode b_G_tell 60 = .ok (.iload_n 3, 1) := by decide +kernel
theorem d_G_tell_61 : decode b_G_tell 61 = .ok (.iaload, 1) := by decide +kernel
theorem d_G_tell_62 : decode b_G_tell 62 = .ok (.invokevirtual 53, 3) := by decide +kernel
theorem d_G_tell_65 : decode b_G_tell 65 = .ok (.ireturn, 1) := by decide +kernel
theorem d_G_tell_66 : decode b_G_tell 66 = .ok (.aload_n 0, 1) := by decide +kernel
theorem d_G_tell_67 : decode b_G_tell 67 = .ok (.aload_n 0, 1) := by decide +kernel
theorem d_G_tell_68 : decode b_G_tell 68 = .ok (.getfield 18, 3) := by decide +kernel
theorem d_G_tell_71 : decode b_G_tell 71 = .ok (.iload_n 3, 1) := by decide +kernel
theorem d_G_tell_72 : decode b_G_tell 72 = .ok (.iaload, 1) := by decide +kernel
theorem d_G_tell_73 : decode b_G_tell 73 = .ok (.invokevirtual 53, 3) := by decide +kernel
theorem d_G_tell_76 : decode b_G_tell 76 = .ok (.ireturn, 1) := by decide +kernel
theorem d_G_tell_77 : decode b_G_tell 77 = .ok (.iconst (-1), 1) := by decide +kernel
theorem d_G_tell_78 : decode b_G_tell 78 = .ok (.ireturn, 1) := by decide +kernel
theorem d_G_sideNumber_0 : decode b_G_sideNumber 0 = .ok (.iload_n 1, 1) := by decide +kernel
theorem d_G_sideNumber_1 : decode b_G_sideNumber 1 = .ok (.ifCond .ge 7, 3) := by decide +kernel
theorem d_G_sideNumber_4 : decode b_G_sideNumber 4 = .ok (.iload_n 1, 1) := by decide +kernel
theorem d_G_sideNumber_5 : decode b_G_sideNumber 5 = .ok (.goto 9, 3) := by decide +kernel
theorem d_G_sideNumber_8 : decode b_G_sideNumber 8 = .ok (.aload_n 0, 1) := by decide +kernel
theorem d_G_sideNumber_9 : decode b_G_sideNumber 9 = .ok (.getfield 21, 3) := by decide +kernel
theorem d_G_sideNumber_12 : decode b_G_sideNumber 12 = .ok (.iload_n 1, 1) := by decide +kernel
theorem d_G_sideNumber_13 : decode b_G_sideNumber 13 = .ok (.iaload, 1) := by decide +kernel
theorem d_G_sideNumber_14 : decode b_G_sideNumber 14 = .ok (.ireturn, 1) := by decide +kernel
theorem d_K_bitCount_0 : decode b_K_bitCount 0 = .ok (.lload_n 0, 1) := by decide +kernel
theorem d_K_bitCount_1 : decode b_K_bitCount 1 = .ok (.lload_n 0, 1) := by decide +kernel
theorem d_K_bitCount_2 : decode b_K_bitCount 2 = .ok (.iconst 1, 1) := by decide +kernel
theorem d_K_bitCount_3 : decode b_K_bitCount 3 = .ok (.lushr, 1) := by decide +kernel
theorem d_K_bitCount_4 : decode b_K_bitCount 4 = .ok (.ldc2_w 314, 3) := by decide +kernel
theorem d_K_bitCount_7 : decode b_K_bitCount 7 = .ok (.land, 1) := by decide +kernel
theorem d_K_bitCount_8 : decode b_K_bitCount 8 = .ok (.lsub, 1) := by decide +kernel
theorem d_K_bitCount_9 : decode b_K_bitCount 9 = .ok (.lstore_n 0, 1) := by decide +kernel
theorem d_K_bitCount_10 : decode b_K_bitCount 10 = .ok (.lload_n 0, 1) := by decide +kernel
theorem d_K_bitCount_11 : decode b_K_bitCount 11 = .ok (.ldc2_w 316, 3) := by decide +kernel
theorem d_K_bitCount_14 : decode b_K_bitCount 14 = .ok (.land, 1) := by decide +kernel
theorem d_K_bitCount_15 : decode b_K_bitCount 15 = .ok (.lload_n 0, 1) := by decide +kernel
theorem d_K_bitCount_16 : decode b_K_bitCount 16 = .ok (.iconst 2, 1) := by decide +kernel
theorem d_K_bitCount_17 : decode b_K_bitCount 17 = .ok (.lushr, 1) := by decide +kernel
theorem d_K_bitCount_18 : decode b_K_bitCount 18 = .ok (.ldc2_w 316, 3) := by decide +kernel
theorem d_K_bitCount_21 : decode b_K_bitCount 21 = .ok (.land, 1) := by decide +kernel
theorem d_K_bitCount_22 : decode b_K_bitCount 22 = .ok (.ladd, 1) := by decide +kernel
theorem d_K_bitCount_23 : decode b_K_bitCount 23 = .ok (.lstore_n 0, 1) := by decide +kernel
theorem d_K_bitCount_24 : decode b_K_bitCount 24 = .ok (.lload_n 0, 1) := by decide +kernel
theorem d_K_bitCount_25 : decode b_K_bitCount 25 = .ok (.lload_n 0, 1) := by decide +kernel
theorem d_K_bitCount_26 : decode b_K_bitCount 26 = .ok (.iconst 4, 1) := by decide +kernel
theorem d_K_bitCount_27 : decode b_K_bitCount 27 = .ok (.lushr, 1) := by decide +kernel
theorem d_K_bitCount_28 : decode b_K_bitCount 28 = .ok (.ladd, 1) := by decide +kernel
theorem d_K_bitCount_29 : decode b_K_bitCount 29 = .ok (.ldc2_w 318, 3) := by decide +kernel
theorem d_K_bitCount_32 : decode b_K_bitCount 32 = .ok (.land, 1) := by decide +kernel
theorem d_K_bitCount_33 : decode b_K_bitCount 33 = .ok (.lstore_n 0, 1) := by decide +kernel
theorem d_K_bitCount_34 : decode b_K_bitCount 34 = .ok (.lload_n 0, 1) := by decide +kernel
theorem d_K_bitCount_35 : decode b_K_bitCount 35 = .ok (.lload_n 0, 1) := by decide +kernel
theorem d_K_bitCount_36 : decode b_K_bitCount 36 = .ok (.bipush 8, 2) := by decide +kernel
theorem d_K_bitCount_38 : decode b_K_bitCount 38 = .ok (.lushr, 1) := by decide +kernel
theorem d_K_bitCount_39 : decode b_K_bitCount 39 = .ok (.ladd, 1) := by decide +kernel
theorem d_K_bitCount_40 : decode b_K_bitCount 40 = .ok (.lstore_n 0, 1) := by decide +kernel
theorem d_K_bitCount_41 : decode b_K_bitCount 41 = .ok (.lload_n 0, 1) := by decide +kernel
theorem d_K_bitCount_42 : decode b_K_bitCount 42 = .ok (.lload_n 0, 1) := by decide +kernel
theorem d_K_bitCount_43 : decode b_K_bitCount 43 = .ok (.bipush 16, 2) := by decide +kernel
theorem d_K_bitCount_45 : decode b_K_bitCount 45 = .ok (.lushr, 1) := by decide +kernel
theorem d_K_bitCount_46 : decode b_K_bitCount 46 = .ok (.ladd, 1) := by decide +kernel
theorem d_K_bitCount_47 : decode b_K_bitCount 47 = .ok (.lstore_n 0, 1) := by decide +kernel
theorem d_K_bitCount_48 : decode b_K_bitCount 48 = .ok (.lload_n 0, 1) := by decide +kernel
theorem d_K_bitCount_49 : decode b_K_bitCount 49 = .ok (.lload_n 0, 1) := by decide +kernel
theorem d_K_bitCount_50 : decode b_K_bitCount 50 = .ok (.bipush 32, 2) := by decide +kernel
theorem d_K_bitCount_52 : decode b_K_bitCount 52 = .ok (.lushr, 1) := by decide +kernel
theorem d_K_bitCount_53 : decode b_K_bitCount 53 = .ok (.ladd, 1) := by decide +kernel
theorem d_K_bitCount_54 : decode b_K_bitCount 54 = .ok (.lstore_n 0, 1) := by decide +kernel
theorem d_K_bitCount_55 : decode b_K_bitCount 55 = .ok (.lload_n 0, 1) := by decide +kernel
theorem d_K_bitCount_56 : decode b_K_bitCount 56 = .ok (.l2i, 1) := by decide +kernel
theorem d_K_bitCount_57 : decode b_K_bitCount 57 = .ok (.bipush 127, 2) := by decide +kernel
theorem d_K_bitCount_59 : decode b_K_bitCount 59 = .ok (.iand, 1) := by decide +kernel
theorem d_K_bitCount_60 : decode b_K_bitCount 60 = .ok (.ireturn, 1) := by decide +kernel
theorem d_J_fillI_0 : decode b_J_fillI 0 = .ok (.iconst 0, 1) := by decide +kernel
theorem d_J_fillI_1 : decode b_J_fillI 1 = .ok (.istore_n 2, 1) := by decide +kernel
theorem d_J_fillI_2 : decode b_J_fillI 2 = .ok (.aload_n 0, 1) := by decide +kernel
theorem d_J_fillI_3 : decode b_J_fillI 3 = .ok (.arraylength, 1) := by decide +kernel
theorem d_J_fillI_4 : decode b_J_fillI 4 = .ok (.istore_n 3, 1) := by decide +kernel
theorem d_J_fillI_5 : decode b_J_fillI 5 = .ok (.iload_n 2, 1) := by decide +kernel
theorem d_J_fillI_6 : decode b_J_fillI 6 = .ok (.iload_n 3, 1) := by decide +kernel
theorem d_J_fillI_7 : decode b_J_fillI 7 = .ok (.if_icmp .ge 13, 3) := by decide +kernel
theorem d_J_fillI_10 : decode b_J_fillI 10 = .ok (.aload_n 0, 1) := by decide +kernel
theorem d_J_fillI_11 : decode b_J_fillI 11 = .ok (.iload_n 2, 1) := by decide +kernel
theorem d_J_fillI_12 : decode b_J_fillI 12 = .ok (.iload_n 1, 1) := by decide +kernel
theorem d_J_fillI_13 : decode b_J_fillI 13 = .ok (.iastore, 1) := by decide +kernel
theorem d_J_fillI_14 : decode b_J_fillI 14 = .ok (.iinc 2 1, 3) := by decide +kernel
theorem d_J_fillI_17 : decode b_J_fillI 17 = .ok (.goto (-12), 3) := by decide +kernel
theorem d_J_fillI_20 : decode b_J_fillI 20 = .ok (.return_, 1) := by decide +kernel
theorem d_J_fillL_0 : decode b_J_fillL 0 = .ok (.iconst 0, 1) := by decide +kernel
theorem d_J_fillL_1 : decode b_J_fillL 1 = .ok (.istore_n 3, 1) := by decide +kernel
theorem d_J_fillL_2 : decode b_J_fillL 2 = .ok (.aload_n 0, 1) := by decide +kernel
theorem d_J_fillL_3 : decode b_J_fillL 3 = .ok (.arraylength, 1) := by decide +kernel
theorem d_J_fillL_4 : decode b_J_fillL 4 = .ok (.istore 4, 2) := by decide +kernel
theorem d_J_fillL_6 : decode b_J_fillL 6 = .ok (.iload_n 3, 1) := by decide +kernel
theorem d_J_fillL_7 : decode b_J_fillL 7 = .ok (.iload 4, 2) := by decide +kernel
theorem d_J_fillL_9 : decode b_J_fillL 9 = .ok (.if_icmp .ge 13, 3) := by decide +kernel
theorem d_J_fillL_12 : decode b_J_fillL 12 = .ok (.aload_n 0, 1) := by decide +kernel
theorem d_J_fillL_13 : decode b_J_fillL 13 = .ok (.iload_n 3, 1) := by decide +kernel
theorem d_J_fillL_14 : decode b_J_fillL 14 = .ok (.lload_n 1, 1) := by decide +kernel
theorem d_J_fillL_15 : decode b_J_fillL 15 = .ok (.lastore, 1) := by decide +kernel
theorem d_J_fillL_16 : decode b_J_fillL 16 = .ok (.iinc 3 1, 3) := by decide +kernel
theorem d_J_fillL_19 : decode b_J_fillL 19 = .ok (.goto (-13), 3) := by decide +kernel
theorem d_J_fillL_22 : decode b_J_fillL 22 = .ok (.return_, 1) := by decide +kernel
end
section
theorem d_M_feed_0 : decode b_M_feed 0 = .ok (.aload_n 0, 1) := by decide +kernel
theorem d_M_feed_1 : decode b_M_feed 1 = .ok (.getfield 83, 3) := by decide +kernel
theorem d_M_feed_4 : decode b_M_feed 4 = .ok (.bipush 20, 2) := by decide +kernel
theorem d_M_feed_6 : decode b_M_feed 6 = .ok (.iadd, 1) := by decide +kernel
theorem d_M_feed_7 : decode b_M_feed 7 = .ok (.sipush 2000, 3) := by decide +kernel
theorem d_M_feed_10 : decode b_M_feed 10 = .ok (.if_icmp .le 6, 3) := by decide +kernel
theorem d_M_feed_13 : decode b_M_feed 13 = .ok (.bipush (-3), 2) := by decide +kernel
theorem d_M_feed_15 : decode b_M_feed 15 = .ok (.ireturn, 1) := by decide +kernel
theorem d_M_feed_16 : decode b_M_feed 16 = .ok (.iconst 0, 1) := by decide +kernel
theorem d_M_feed_17 : decode b_M_feed 17 = .ok (.istore 6, 2) := by decide +kernel
theorem d_M_feed_19 : decode b_M_feed 19 = .ok (.iload 6, 2) := by decide +kernel
theorem d_M_feed_21 : decode b_M_feed 21 = .ok (.iconst 5, 1) := by decide +kernel
theorem d_M_feed_22 : decode b_M_feed 22 = .ok (.if_icmp .ge 93, 3) := by decide +kernel
theorem d_M_feed_25 : decode b_M_feed 25 = .ok (.iload 6, 2) := by decide +kernel
theorem d_M_feed_27 : decode b_M_feed 27 = .ok (.ifCond .ne 7, 3) := by decide +kernel
theorem d_M_feed_30 : decode b_M_feed 30 = .ok (.iload_n 1, 1) := by decide +kernel
theorem d_M_feed_31 : decode b_M_feed 31 = .ok (.goto 36, 3) := by decide +kernel
theorem d_M_feed_34 : decode b_M_feed 34 = .ok (.iload 6, 2) := by decide +kernel
theorem d_M_feed_36 : decode b_M_feed 36 = .ok (.iconst 1, 1) := by decide +kernel
theorem d_M_feed_37 : decode b_M_feed 37 = .ok (.if_icmp .ne 7, 3) := by decide +kernel
theorem d_M_feed_40 : decode b_M_feed 40 = .ok (.iload_n 2, 1) := by decide +kernel
theorem d_M_feed_41 : decode b_M_feed 41 = .ok (.goto 26, 3) := by decide +kernel
theorem d_M_feed_44 : decode b_M_feed 44 = .ok (.iload 6, 2) := by decide +kernel
theorem d_M_feed_46 : decode b_M_feed 46 = .ok (.iconst 2, 1) := by decide +kernel
theorem d_M_feed_47 : decode b_M_feed 47 = .ok (.if_icmp .ne 7, 3) := by decide +kernel
theorem d_M_feed_50 : decode b_M_feed 50 = .ok (.iload_n 3, 1) := by decide +kernel
theorem d_M_feed_51 : decode b_M_feed 51 = .ok (.goto 16, 3) := by decide +kernel
theorem d_M_feed_54 : decode b_M_feed 54 = .ok (.iload 6, 2) := by decide +kernel
theorem d_M_feed_56 : decode b_M_feed 56 = .ok (.iconst 3, 1) := by decide +kernel
theorem d_M_feed_57 : decode b_M_feed 57 = .ok (.if_icmp .ne 8, 3) := by decide +kernel
theorem d_M_feed_60 : decode b_M_feed 60 = .ok (.iload 4, 2) := by decide +kernel
theorem d_M_feed_62 : decode b_M_feed 62 = .ok (.goto 5, 3) := by decide +kernel
theorem d_M_feed_65 : decode b_M_feed 65 = .ok (.iload 5, 2) := by decide +kernel
theorem d_M_feed_67 : decode b_M_feed 67 = .ok (.istore 7, 2) := by decide +kernel
theorem d_M_feed_69 : decode b_M_feed 69 = .ok (.bipush 24, 2) := by decide +kernel
theorem d_M_feed_71 : decode b_M_feed 71 = .ok (.istore 8, 2) := by decide +kernel
theorem d_M_feed_73 : decode b_M_feed 73 = .ok (.iload 8, 2) := by decide +kernel
theorem d_M_feed_75 : decode b_M_feed 75 = .ok (.ifCond .lt 34, 3) := by decide +kernel
theorem d_M_feed_78 : decode b_M_feed 78 = .ok (.aload_n 0, 1) := by decide +kernel
theorem d_M_feed_79 : decode b_M_feed 79 = .ok (.getfield 42, 3) := by decide +kernel
theorem d_M_feed_82 : decode b_M_feed 82 = .ok (.aload_n 0, 1) := by decide +kernel
theorem d_M_feed_83 : decode b_M_feed 83 = .ok (.getfield 83, 3) := by decide +kernel
theorem d_M_feed_86 : decode b_M_feed 86 = .ok (.iload 7, 2) := by decide +kernel
theorem d_M_feed_88 : decode b_M_feed 88 = .ok (.iload 8, 2) := by decide +kernel
theorem d_M_feed_90 : decode b_M_feed 90 = .ok (.ishr, 1) := by decide +kernel
theorem d_M_feed_91 : decode b_M_feed 91 = .ok (.i2b, 1) := by decide +kernel
theorem d_M_feed_92 : decode b_M_feed 92 = .ok (.bastore, 1) := by decide +kernel
theorem d_M_feed_93 : decode b_M_feed 93 = .ok (.aload_n 0, 1) := by decide +kernel
theorem d_M_feed_94 : decode b_M_feed 94 = .ok (.dup, 1) := by decide +kernel
theorem d_M_feed_95 : decode b_M_feed 95 = .ok (.getfield 83, 3) := by decide +kernel
theorem d_M_feed_98 : decode b_M_feed 98 = .ok (.iconst 1, 1) := by decide +kernel
theorem d_M_feed_99 : decode b_M_feed 99 = .ok (.iadd, 1) := by decide +kernel
theorem d_M_feed_100 : decode b_M_feed 100 = .ok (.putfield 83, 3) := by decide +kernel
theorem d_M_feed_103 : decode b_M_feed 103 = .ok (.iinc 8 (-8), 3) := by decide +kernel
theorem d_M_feed_106 : decode b_M_feed 106 = .ok (.goto (-33), 3) := by decide +kernel
theorem d_M_feed_109 : decode b_M_feed 109 = .ok (.iinc 6 1, 3) := by decide +kernel
theorem d_M_feed_112 : decode b_M_feed 112 = .ok (.goto (-93), 3) := by decide +kernel
theorem d_M_feed_115 : decode b_M_feed 115 = .ok (.aload_n 0, 1) := by decide +kernel
theorem d_M_feed_116 : decode b_M_feed 116 = .ok (.getfield 83, 3) := by decide +kernel
theorem d_M_feed_119 : decode b_M_feed 119 = .ok (.ireturn, 1) := by decide +kernel
theorem d_M_isDigit_0 : decode b_M_isDigit 0 = .ok (.iload_n 0, 1) := by decide +kernel
theorem d_M_isDigit_1 : decode b_M_isDigit 1 = .ok (.bipush 48, 2) := by decide +kernel
theorem d_M_isDigit_3 : decode b_M_isDigit 3 = .ok (.if_icmp .lt 13, 3) := by decide +kernel
theorem d_M_isDigit_6 : decode b_M_isDigit 6 = .ok (.iload_n 0, 1) := by decide +kernel
theorem d_M_isDigit_7 : decode b_M_isDigit 7 = .ok (.bipush 57, 2) := by decide +kernel
theorem d_M_isDigit_9 : decode b_M_isDigit 9 = .ok (.if_icmp .gt 7, 3) := by decide +kernel
theorem d_M_isDigit_12 : decode b_M_isDigit 12 = .ok (.iconst 1, 1) := by decide +kernel
theorem d_M_isDigit_13 : decode b_M_isDigit 13 = .ok (.goto 4, 3) := by decide +kernel
theorem d_M_isDigit_16 : decode b_M_isDigit 16 = .ok (.iconst 0, 1) := by decide +kernel
theorem d_M_isDigit_17 : decode b_M_isDigit 17 = .ok (.ireturn, 1) := by decide +kernel
theorem d_M_need_0 : decode b_M_need 0 = .ok (.aload_n 0, 1) := by decide +kernel
theorem d_M_need_1 : decode b_M_need 1 = .ok (.getfield 105, 3) := by decide +kernel
theorem d_M_need_4 : decode b_M_need 4 = .ok (.ifCond .ne 20, 3) := by decide +kernel
theorem d_M_need_7 : decode b_M_need 7 = .ok (.iload_n 1, 1) := by decide +kernel
theorem d_M_need_8 : decode b_M_need 8 = .ok (.ifCond .ne 16, 3) := by decide +kernel
theorem d_M_need_11 : decode b_M_need 11 = .ok (.aload_n 0, 1) := by decide +kernel
theorem d_M_need_12 : decode b_M_need 12 = .ok (.iload_n 2, 1) := by decide +kernel
theorem d_M_need_13 : decode b_M_need 13 = .ok (.putfield 105, 3) := by decide +kernel
theorem d_M_need_16 : decode b_M_need 16 = .ok (.aload_n 0, 1) := by decide +kernel
theorem d_M_need_17 : decode b_M_need 17 = .ok (.aload_n 0, 1) := by decide +kernel
theorem d_M_need_18 : decode b_M_need 18 = .ok (.getfield 92, 3) := by decide +kernel
theorem d_M_need_21 : decode b_M_need 21 = .ok (.putfield 46, 3) := by decide +kernel
theorem d_M_need_24 : decode b_M_need 24 = .ok (.aload_n 0, 1) := by decide +kernel
theorem d_M_need_25 : decode b_M_need 25 = .ok (.getfield 105, 3) := by decide +kernel
theorem d_M_need_28 : decode b_M_need 28 = .ok (.ifCond .ne 7, 3) := by decide +kernel
theorem d_M_need_31 : decode b_M_need 31 = .ok (.iconst 1, 1) := by decide +kernel
theorem d_M_need_32 : decode b_M_need 32 = .ok (.goto 4, 3) := by decide +kernel
theorem d_M_need_35 : decode b_M_need 35 = .ok (.iconst 0, 1) := by decide +kernel
theorem d_M_need_36 : decode b_M_need 36 = .ok (.ireturn, 1) := by decide +kernel
theorem d_M_empty_0 : decode b_M_empty 0 = .ok (.iconst 1, 1) := by decide +kernel
theorem d_M_empty_1 : decode b_M_empty 1 = .ok (.istore_n 1, 1) := by decide +kernel
theorem d_M_empty_2 : decode b_M_empty 2 = .ok (.iload_n 1, 1) := by decide +kernel
theorem d_M_empty_3 : decode b_M_empty 3 = .ok (.aload_n 0, 1) := by decide +kernel
theorem d_M_empty_4 : decode b_M_empty 4 = .ok (.getfield 115, 3) := by decide +kernel
theorem d_M_empty_7 : decode b_M_empty 7 = .ok (.if_icmp .gt 29, 3) := by decide +kernel
theorem d_M_empty_10 : decode b_M_empty 10 = .ok (.aload_n 0, 1) := by decide +kernel
theorem d_M_empty_11 : decode b_M_empty 11 = .ok (.getfield 7, 3) := by decide +kernel
theorem d_M_empty_14 : decode b_M_empty 14 = .ok (.iload_n 1, 1) := by decide +kernel
theorem d_M_empty_15 : decode b_M_empty 15 = .ok (.iaload, 1) := by decide +kernel
theorem d_M_empty_16 : decode b_M_empty 16 = .ok (.ifCond .ne 14, 3) := by decide +kernel
theorem d_M_empty_19 : decode b_M_empty 19 = .ok (.aload_n 0, 1) := by decide +kernel
theorem d_M_empty_20 : decode b_M_empty 20 = .ok (.getfield 13, 3) := by decide +kernel
theorem d_M_empty_23 : decode b_M_empty 23 = .ok (.iload_n 1, 1) := by decide +kernel
theorem d_M_empty_24 : decode b_M_empty 24 = .ok (.iaload, 1) := by decide +kernel
theorem d_M_empty_25 : decode b_M_empty 25 = .ok (.ifCond .ne 5, 3) := by decide +kernel
theorem d_M_empty_28 : decode b_M_empty 28 = .ok (.iload_n 1, 1) := by decide +kernel
theorem d_M_empty_29 : decode b_M_empty 29 = .ok (.ireturn, 1) := by decide +kernel
theorem d_M_empty_30 : decode b_M_empty 30 = .ok (.iinc 1 1, 3) := by decide +kernel
theorem d_M_empty_33 : decode b_M_empty 33 = .ok (.goto (-31), 3) := by decide +kernel
theorem d_M_empty_36 : decode b_M_empty 36 = .ok (.iconst (-1), 1) := by decide +kernel
theorem d_M_empty_37 : decode b_M_empty 37 = .ok (.ireturn, 1) := by decide +kernel
theorem d_M_readGiven_0 : decode b_M_readGiven 0 = .ok (.aload_n 0, 1) := by decide +kernel
theorem d_M_readGiven_1 : decode b_M_readGiven 1 = .ok (.aload_n 0, 1) := by decide +kernel
theorem d_M_readGiven_2 : decode b_M_readGiven 2 = .ok (.getfield 118, 3) := by decide +kernel
theorem d_M_readGiven_5 : decode b_M_readGiven 5 = .ok (.bipush 60, 2) := by decide +kernel
theorem d_M_readGiven_7 : decode b_M_readGiven 7 = .ok (.if_icmp .ge 17, 3) := by decide +kernel
theorem d_M_readGiven_10 : decode b_M_readGiven 10 = .ok (.aload_n 0, 1) := by decide +kernel
theorem d_M_readGiven_11 : decode b_M_readGiven 11 = .ok (.getfield 115, 3) := by decide +kernel
theorem d_M_readGiven_14 : decode b_M_readGiven 14 = .ok (.sipush 200, 3) := by decide +kernel
theorem d_M_readGiven_17 : decode b_M_readGiven 17 = .ok (.if_icmp .ge 7, 3) := by decide +kernel
theorem d_M_readGiven_20 : decode b_M_readGiven 20 = .ok (.iconst 1, 1) := by decide +kernel
theorem d_M_readGiven_21 : decode b_M_readGiven 21 = .ok (.goto 4, 3) := by decide +kernel
theorem d_M_readGiven_24 : decode b_M_readGiven 24 = .ok (.iconst 0, 1) := by decide +kernel
theorem d_M_readGiven_25 : decode b_M_readGiven 25 = .ok (.bipush 6, 2) := by decide +kernel
theorem d_M_readGiven_27 : decode b_M_readGiven 27 = .ok (.invokevirtual 108, 3) := by decide +kernel
theorem d_M_readGiven_30 : decode b_M_readGiven 30 = .ok (.ifCond .ne 4, 3) := by decide +kernel
theorem d_M_readGiven_33 : decode b_M_readGiven 33 = .ok (.return_, 1) := by decide +kernel
theorem d_M_readGiven_34 : decode b_M_readGiven 34 = .ok (.aload_n 0, 1) := by decide +kernel
theorem d_M_readGiven_35 : decode b_M_readGiven 35 = .ok (.invokevirtual 112, 3) := by decide +kernel
theorem d_M_readGiven_38 : decode b_M_readGiven 38 = .ok (.aload_n 0, 1) := by decide +kernel
theorem d_M_readGiven_39 : decode b_M_readGiven 39 = .ok (.aload_n 0, 1) := by decide +kernel
theorem d_M_readGiven_40 : decode b_M_readGiven 40 = .ok (.getfield 95, 3) := by decide +kernel
theorem d_M_readGiven_43 : decode b_M_readGiven 43 = .ok (.iconst 1, 1) := by decide +kernel
theorem d_M_readGiven_44 : decode b_M_readGiven 44 = .ok (.if_icmp .ne 7, 3) := by decide +kernel
theorem d_M_readGiven_47 : decode b_M_readGiven 47 = .ok (.iconst 1, 1) := by decide +kernel
theorem d_M_readGiven_48 : decode b_M_readGiven 48 = .ok (.goto 4, 3) := by decide +kernel
theorem d_M_readGiven_51 : decode b_M_readGiven 51 = .ok (.iconst 0, 1) := by decide +kernel
theorem d_M_readGiven_52 : decode b_M_readGiven 52 = .ok (.iconst 1, 1) := by decide +kernel
theorem d_M_readGiven_53 : decode b_M_readGiven 53 = .ok (.invokevirtual 108, 3) := by decide +kernel
theorem d_M_readGiven_56 : decode b_M_readGiven 56 = .ok (.ifCond .eq 33, 3) := by decide +kernel
theorem d_M_readGiven_59 : decode b_M_readGiven 59 = .ok (.aload_n 0, 1) := by decide +kernel
theorem d_M_readGiven_60 : decode b_M_readGiven 60 = .ok (.aload_n 0, 1) := by decide +kernel
theorem d_M_readGiven_61 : decode b_M_readGiven 61 = .ok (.getfield 102, 3) := by decide +kernel
theorem d_M_readGiven_64 : decode b_M_readGiven 64 = .ok (.iconst 1, 1) := by decide +kernel
theorem d_M_readGiven_65 : decode b_M_readGiven 65 = .ok (.if_icmp .lt 16, 3) := by decide +kernel
theorem d_M_readGiven_68 : decode b_M_readGiven 68 = .ok (.aload_n 0, 1) := by decide +kernel
theorem d_M_readGiven_69 : decode b_M_readGiven 69 = .ok (.getfield 102, 3) := by decide +kernel
theorem d_M_readGiven_72 : decode b_M_readGiven 72 = .ok (.bipush 8, 2) := by decide +kernel
theorem d_M_readGiven_74 : decode b_M_readGiven 74 = .ok (.if_icmp .gt 7, 3) := by decide +kernel
theorem d_M_readGiven_77 : decode b_M_readGiven 77 = .ok (.iconst 1, 1) := by decide +kernel
theorem d_M_readGiven_78 : decode b_M_readGiven 78 = .ok (.goto 4, 3) := by decide +kernel
theorem d_M_readGiven_81 : decode b_M_readGiven 81 = .ok (.iconst 0, 1) := by decide +kernel
theorem d_M_readGiven_82 : decode b_M_readGiven 82 = .ok (.iconst 2, 1) := by decide +kernel
theorem d_M_readGiven_83 : decode b_M_readGiven 83 = .ok (.invokevirtual 108, 3) := by decide +kernel
theorem d_M_readGiven_86 : decode b_M_readGiven 86 = .ok (.ifCond .ne 4, 3) := by decide +kernel
theorem d_M_readGiven_89 : decode b_M_readGiven 89 = .ok (.return_, 1) := by decide +kernel
theorem d_M_readGiven_90 : decode b_M_readGiven 90 = .ok (.aload_n 0, 1) := by decide +kernel
theorem d_M_readGiven_91 : decode b_M_readGiven 91 = .ok (.getfield 102, 3) := by decide +kernel
theorem d_M_readGiven_94 : decode b_M_readGiven 94 = .ok (.istore_n 1, 1) := by decide +kernel
theorem d_M_readGiven_95 : decode b_M_readGiven 95 = .ok (.aload_n 0, 1) := by decide +kernel
theorem d_M_readGiven_96 : decode b_M_readGiven 96 = .ok (.invokevirtual 112, 3) := by decide +kernel
theorem d_M_readGiven_99 : decode b_M_readGiven 99 = .ok (.aload_n 0, 1) := by decide +kernel
theorem d_M_readGiven_100 : decode b_M_readGiven 100 = .ok (.bipush 58, 2) := by decide +kernel
theorem d_M_readGiven_102 : decode b_M_readGiven 102 = .ok (.invokevirtual 121, 3) := by decide +kernel
theorem d_M_readGiven_105 : decode b_M_readGiven 105 = .ok (.ifCond .ne 4, 3) := by decide +kernel
theorem d_M_readGiven_108 : decode b_M_readGiven 108 = .ok (.return_, 1) := by decide +kernel
theorem d_M_readGiven_109 : decode b_M_readGiven 109 = .ok (.iconst 0, 1) := by decide +kernel
theorem d_M_readGiven_110 : decode b_M_readGiven 110 = .ok (.istore_n 2, 1) := by decide +kernel
theorem d_M_readGiven_111 : decode b_M_readGiven 111 = .ok (.iconst 0, 1) := by decide +kernel
theorem d_M_readGiven_112 : decode b_M_readGiven 112 = .ok (.istore_n 3, 1) := by decide +kernel
theorem d_M_readGiven_113 : decode b_M_readGiven 113 = .ok (.aload_n 0, 1) := by decide +kernel
theorem d_M_readGiven_114 : decode b_M_readGiven 114 = .ok (.getfield 95, 3) := by decide +kernel
theorem d_M_readGiven_117 : decode b_M_readGiven 117 = .ok (.bipush 45, 2) := by decide +kernel
theorem d_M_readGiven_119 : decode b_M_readGiven 119 = .ok (.if_icmp .eq 11, 3) := by decide +kernel
theorem d_M_readGiven_122 : decode b_M_readGiven 122 = .ok (.aload_n 0, 1) := by decide +kernel
theorem d_M_readGiven_123 : decode b_M_readGiven 123 = .ok (.getfield 95, 3) := by decide +kernel
theorem d_M_readGiven_126 : decode b_M_readGiven 126 = .ok (.iconst 1, 1) := by decide +kernel
theorem d_M_readGiven_127 : decode b_M_readGiven 127 = .ok (.if_icmp .ne 138, 3) := by decide +kernel
theorem d_M_readGiven_130 : decode b_M_readGiven 130 = .ok (.aload_n 0, 1) := by decide +kernel
theorem d_M_readGiven_131 : decode b_M_readGiven 131 = .ok (.getfield 95, 3) := by decide +kernel
theorem d_M_readGiven_134 : decode b_M_readGiven 134 = .ok (.bipush 45, 2) := by decide +kernel
theorem d_M_readGiven_136 : decode b_M_readGiven 136 = .ok (.if_icmp .ne 7, 3) := by decide +kernel
theorem d_M_readGiven_139 : decode b_M_readGiven 139 = .ok (.iconst 1, 1) := by decide +kernel
theorem d_M_readGiven_140 : decode b_M_readGiven 140 = .ok (.goto 4, 3) := by decide +kernel
theorem d_M_readGiven_143 : decode b_M_readGiven 143 = .ok (.iconst 0, 1) := by decide +kernel
theorem d_M_readGiven_144 : decode b_M_readGiven 144 = .ok (.istore 4, 2) := by decide +kernel
theorem d_M_readGiven_146 : decode b_M_readGiven 146 = .ok (.iload 4, 2) := by decide +kernel
theorem d_M_readGiven_148 : decode b_M_readGiven 148 = .ok (.ifCond .eq 7, 3) := by decide +kernel
theorem d_M_readGiven_151 : decode b_M_readGiven 151 = .ok (.aload_n 0, 1) := by decide +kernel
theorem d_M_readGiven_152 : decode b_M_readGiven 152 = .ok (.invokevirtual 112, 3) := by decide +kernel
theorem d_M_readGiven_155 : decode b_M_readGiven 155 = .ok (.aload_n 0, 1) := by decide +kernel
theorem d_M_readGiven_156 : decode b_M_readGiven 156 = .ok (.aload_n 0, 1) := by decide +kernel
theorem d_M_readGiven_157 : decode b_M_readGiven 157 = .ok (.getfield 95, 3) := by decide +kernel
theorem d_M_readGiven_160 : decode b_M_readGiven 160 = .ok (.iconst 1, 1) := by decide +kernel
theorem d_M_readGiven_161 : decode b_M_readGiven 161 = .ok (.if_icmp .ne 7, 3) := by decide +kernel
theorem d_M_readGiven_164 : decode b_M_readGiven 164 = .ok (.iconst 1, 1) := by decide +kernel
theorem d_M_readGiven_165 : decode b_M_readGiven 165 = .ok (.goto 4, 3) := by decide +kernel
theorem d_M_readGiven_168 : decode b_M_readGiven 168 = .ok (.iconst 0, 1) := by decide +kernel
theorem d_M_readGiven_169 : decode b_M_readGiven 169 = .ok (.iconst 1, 1) := by decide +kernel
theorem d_M_readGiven_170 : decode b_M_readGiven 170 = .ok (.invokevirtual 108, 3) := by decide +kernel
theorem d_M_readGiven_173 : decode b_M_readGiven 173 = .ok (.ifCond .eq 33, 3) := by decide +kernel
theorem d_M_readGiven_176 : decode b_M_readGiven 176 = .ok (.aload_n 0, 1) := by decide +kernel
theorem d_M_readGiven_177 : decode b_M_readGiven 177 = .ok (.aload_n 0, 1) := by decide +kernel
theorem d_M_readGiven_178 : decode b_M_readGiven 178 = .ok (.getfield 102, 3) := by decide +kernel
theorem d_M_readGiven_181 : decode b_M_readGiven 181 = .ok (.iconst 1, 1) := by decide +kernel
theorem d_M_readGiven_182 : decode b_M_readGiven 182 = .ok (.if_icmp .lt 16, 3) := by decide +kernel
theorem d_M_readGiven_185 : decode b_M_readGiven 185 = .ok (.aload_n 0, 1) := by decide +kernel
theorem d_M_readGiven_186 : decode b_M_readGiven 186 = .ok (.getfield 102, 3) := by decide +kernel
theorem d_M_readGiven_189 : decode b_M_readGiven 189 = .ok (.bipush 10, 2) := by decide +kernel
theorem d_M_readGiven_191 : decode b_M_readGiven 191 = .ok (.if_icmp .gt 7, 3) := by decide +kernel
theorem d_M_readGiven_194 : decode b_M_readGiven 194 = .ok (.iconst 1, 1) := by decide +kernel
theorem d_M_readGiven_195 : decode b_M_readGiven 195 = .ok (.goto 4, 3) := by decide +kernel
theorem d_M_readGiven_198 : decode b_M_readGiven 198 = .ok (.iconst 0, 1) := by decide +kernel
theorem d_M_readGiven_199 : decode b_M_readGiven 199 = .ok (.iconst 2, 1) := by decide +kernel
theorem d_M_readGiven_200 : decode b_M_readGiven 200 = .ok (.invokevirtual 108, 3) := by decide +kernel
theorem d_M_readGiven_203 : decode b_M_readGiven 203 = .ok (.ifCond .ne 4, 3) := by decide +kernel
theorem d_M_readGiven_206 : decode b_M_readGiven 206 = .ok (.return_, 1) := by decide +kernel
theorem d_M_readGiven_207 : decode b_M_readGiven 207 = .ok (.iconst 1, 1) := by decide +kernel
theorem d_M_readGiven_208 : decode b_M_readGiven 208 = .ok (.aload_n 0, 1) := by decide +kernel
theorem d_M_readGiven_209 : decode b_M_readGiven 209 = .ok (.getfield 102, 3) := by decide +kernel
theorem d_M_readGiven_212 : decode b_M_readGiven 212 = .ok (.iconst 1, 1) := by decide +kernel
theorem d_M_readGiven_213 : decode b_M_readGiven 213 = .ok (.isub, 1) := by decide +kernel
theorem d_M_readGiven_214 : decode b_M_readGiven 214 = .ok (.ishl, 1) := by decide +kernel
theorem d_M_readGiven_215 : decode b_M_readGiven 215 = .ok (.istore 5, 2) := by decide +kernel
theorem d_M_readGiven_217 : decode b_M_readGiven 217 = .ok (.aload_n 0, 1) := by decide +kernel
theorem d_M_readGiven_218 : decode b_M_readGiven 218 = .ok (.iload_n 2, 1) := by decide +kernel
theorem d_M_readGiven_219 : decode b_M_readGiven 219 = .ok (.iload_n 3, 1) := by decide +kernel
theorem d_M_readGiven_220 : decode b_M_readGiven 220 = .ok (.ior, 1) := by decide +kernel
theorem d_M_readGiven_221 : decode b_M_readGiven 221 = .ok (.iload 5, 2) := by decide +kernel
theorem d_M_readGiven_223 : decode b_M_readGiven 223 = .ok (.iand, 1) := by decide +kernel
theorem d_M_readGiven_224 : decode b_M_readGiven 224 = .ok (.ifCond .ne 7, 3) := by decide +kernel
theorem d_M_readGiven_227 : decode b_M_readGiven 227 = .ok (.iconst 1, 1) := by decide +kernel
theorem d_M_readGiven_228 : decode b_M_readGiven 228 = .ok (.goto 4, 3) := by decide +kernel
theorem d_M_readGiven_231 : decode b_M_readGiven 231 = .ok (.iconst 0, 1) := by decide +kernel
theorem d_M_readGiven_232 : decode b_M_readGiven 232 = .ok (.iconst 3, 1) := by decide +kernel
theorem d_M_readGiven_233 : decode b_M_readGiven 233 = .ok (.invokevirtual 108, 3) := by decide +kernel
theorem d_M_readGiven_236 : decode b_M_readGiven 236 = .ok (.ifCond .ne 4, 3) := by decide +kernel
theorem d_M_readGiven_239 : decode b_M_readGiven 239 = .ok (.return_, 1) := by decide +kernel
theorem d_M_readGiven_240 : decode b_M_readGiven 240 = .ok (.iload 4, 2) := by decide +kernel
theorem d_M_readGiven_242 : decode b_M_readGiven 242 = .ok (.ifCond .eq 11, 3) := by decide +kernel
theorem d_M_readGiven_245 : decode b_M_readGiven 245 = .ok (.iload_n 3, 1) := by decide +kernel
theorem d_M_readGiven_246 : decode b_M_readGiven 246 = .ok (.iload 5, 2) := by decide +kernel
theorem d_M_readGiven_248 : decode b_M_readGiven 248 = .ok (.ior, 1) := by decide +kernel
theorem d_M_readGiven_249 : decode b_M_readGiven 249 = .ok (.istore_n 3, 1) := by decide +kernel
theorem d_M_readGiven_250 : decode b_M_readGiven 250 = .ok (.goto 8, 3) := by decide +kernel
theorem d_M_readGiven_253 : decode b_M_readGiven 253 = .ok (.iload_n 2, 1) := by decide +kernel
theorem d_M_readGiven_254 : decode b_M_readGiven 254 = .ok (.iload 5, 2) := by decide +kernel
theorem d_M_readGiven_256 : decode b_M_readGiven 256 = .ok (.ior, 1) := by decide +kernel
theorem d_M_readGiven_257 : decode b_M_readGiven 257 = .ok (.istore_n 2, 1) := by decide +kernel
theorem d_M_readGiven_258 : decode b_M_readGiven 258 = .ok (.aload_n 0, 1) := by decide +kernel
theorem d_M_readGiven_259 : decode b_M_readGiven 259 = .ok (.invokevirtual 112, 3) := by decide +kernel
theorem d_M_readGiven_262 : decode b_M_readGiven 262 = .ok (.goto (-149), 3) := by decide +kernel
theorem d_M_readGiven_265 : decode b_M_readGiven 265 = .ok (.aload_n 0, 1) := by decide +kernel
theorem d_M_readGiven_266 : decode b_M_readGiven 266 = .ok (.bipush 59, 2) := by decide +kernel
theorem d_M_readGiven_268 : decode b_M_readGiven 268 = .ok (.invokevirtual 121, 3) := by decide +kernel
theorem d_M_readGiven_271 : decode b_M_readGiven 271 = .ok (.ifCond .eq 13, 3) := by decide +kernel
theorem d_M_readGiven_274 : decode b_M_readGiven 274 = .ok (.aload_n 0, 1) := by decide +kernel
theorem d_M_readGiven_275 : decode b_M_readGiven 275 = .ok (.iload_n 2, 1) := by decide +kernel
theorem d_M_readGiven_276 : decode b_M_readGiven 276 = .ok (.iload_n 3, 1) := by decide +kernel
theorem d_M_readGiven_277 : decode b_M_readGiven 277 = .ok (.iload_n 1, 1) := by decide +kernel
theorem d_M_readGiven_278 : decode b_M_readGiven 278 = .ok (.iconst 0, 1) := by decide +kernel
theorem d_M_readGiven_279 : decode b_M_readGiven 279 = .ok (.iconst 0, 1) := by decide +kernel
theorem d_M_readGiven_280 : decode b_M_readGiven 280 = .ok (.iconst 0, 1) := by decide +kernel
theorem d_M_readGiven_281 : decode b_M_readGiven 281 = .ok (.invokevirtual 124, 3) := by decide +kernel
theorem d_M_readGiven_284 : decode b_M_readGiven 284 = .ok (.return_, 1) := by decide +kernel
theorem d_M_readResolvent_0 : decode b_M_readResolvent 0 = .ok (.aload_n 0, 1) := by decide +kernel
theorem d_M_readResolvent_1 : decode b_M_readResolvent 1 = .ok (.aload_n 0, 1) := by decide +kernel
theorem d_M_readResolvent_2 : decode b_M_readResolvent 2 = .ok (.getfield 115, 3) := by decide +kernel
theorem d_M_readResolvent_5 : decode b_M_readResolvent 5 = .ok (.sipush 200, 3) := by decide +kernel
theorem d_M_readResolvent_8 : decode b_M_readResolvent 8 = .ok (.if_icmp .ge 7, 3) := by decide +kernel
theorem d_M_readResolvent_11 : decode b_M_readResolvent 11 = .ok (.iconst 1, 1) := by decide +kernel
theorem d_M_readResolvent_12 : decode b_M_readResolvent 12 = .ok (.goto 4, 3) := by decide +kernel
theorem d_M_readResolvent_15 : decode b_M_readResolvent 15 = .ok (.iconst 0, 1) := by decide +kernel
theorem d_M_readResolvent_16 : decode b_M_readResolvent 16 = .ok (.bipush 6, 2) := by decide +kernel
theorem d_M_readResolvent_18 : decode b_M_readResolvent 18 = .ok (.invokevirtual 108, 3) := by decide +kernel
theorem d_M_readResolvent_21 : decode b_M_readResolvent 21 = .ok (.ifCond .ne 4, 3) := by decide +kernel
theorem d_M_readResolvent_24 : decode b_M_readResolvent 24 = .ok (.return_, 1) := by decide +kernel
theorem d_M_readResolvent_25 : decode b_M_readResolvent 25 = .ok (.aload_n 0, 1) := by decide +kernel
theorem d_M_readResolvent_26 : decode b_M_readResolvent 26 = .ok (.invokevirtual 112, 3) := by decide +kernel
theorem d_M_readResolvent_29 : decode b_M_readResolvent 29 = .ok (.aload_n 0, 1) := by decide +kernel
theorem d_M_readResolvent_30 : decode b_M_readResolvent 30 = .ok (.invokevirtual 128, 3) := by decide +kernel
theorem d_M_readResolvent_33 : decode b_M_readResolvent 33 = .ok (.istore_n 1, 1) := by decide +kernel
theorem d_M_readResolvent_34 : decode b_M_readResolvent 34 = .ok (.aload_n 0, 1) := by decide +kernel
theorem d_M_readResolvent_35 : decode b_M_readResolvent 35 = .ok (.getfield 105, 3) := by decide +kernel
theorem d_M_readResolvent_38 : decode b_M_readResolvent 38 = .ok (.ifCond .le 4, 3) := by decide +kernel
theorem d_M_readResolvent_41 : decode b_M_readResolvent 41 = .ok (.return_, 1) := by decide +kernel
theorem d_M_readResolvent_42 : decode b_M_readResolvent 42 = .ok (.aload_n 0, 1) := by decide +kernel
theorem d_M_readResolvent_43 : decode b_M_readResolvent 43 = .ok (.invokevirtual 128, 3) := by decide +kernel
theorem d_M_readResolvent_46 : decode b_M_readResolvent 46 = .ok (.istore_n 2, 1) := by decide +kernel
theorem d_M_readResolvent_47 : decode b_M_readResolvent 47 = .ok (.aload_n 0, 1) := by decide +kernel
theorem d_M_readResolvent_48 : decode b_M_readResolvent 48 = .ok (.getfield 105, 3) := by decide +kernel
theorem d_M_readResolvent_51 : decode b_M_readResolvent 51 = .ok (.ifCond .le 4, 3) := by decide +kernel
theorem d_M_readResolvent_54 : decode b_M_readResolvent 54 = .ok (.return_, 1) := by decide +kernel
theorem d_M_readResolvent_55 : decode b_M_readResolvent 55 = .ok (.aload_n 0, 1) := by decide +kernel
theorem d_M_readResolvent_56 : decode b_M_readResolvent 56 = .ok (.aload_n 0, 1) := by decide +kernel
theorem d_M_readResolvent_57 : decode b_M_readResolvent 57 = .ok (.getfield 95, 3) := by decide +kernel
theorem d_M_readResolvent_60 : decode b_M_readResolvent 60 = .ok (.iconst 1, 1) := by decide +kernel
theorem d_M_readResolvent_61 : decode b_M_readResolvent 61 = .ok (.if_icmp .ne 7, 3) := by decide +kernel
theorem d_M_readResolvent_64 : decode b_M_readResolvent 64 = .ok (.iconst 1, 1) := by decide +kernel
theorem d_M_readResolvent_65 : decode b_M_readResolvent 65 = .ok (.goto 4, 3) := by decide +kernel
theorem d_M_readResolvent_68 : decode b_M_readResolvent 68 = .ok (.iconst 0, 1) := by decide +kernel
theorem d_M_readResolvent_69 : decode b_M_readResolvent 69 = .ok (.iconst 1, 1) := by decide +kernel
theorem d_M_readResolvent_70 : decode b_M_readResolvent 70 = .ok (.invokevirtual 108, 3) := by decide +kernel
theorem d_M_readResolvent_73 : decode b_M_readResolvent 73 = .ok (.ifCond .eq 33, 3) := by decide +kernel
theorem d_M_readResolvent_76 : decode b_M_readResolvent 76 = .ok (.aload_n 0, 1) := by decide +kernel
theorem d_M_readResolvent_77 : decode b_M_readResolvent 77 = .ok (.aload_n 0, 1) := by decide +kernel
theorem d_M_readResolvent_78 : decode b_M_readResolvent 78 = .ok (.getfield 102, 3) := by decide +kernel
theorem d_M_readResolvent_81 : decode b_M_readResolvent 81 = .ok (.iconst 1, 1) := by decide +kernel
theorem d_M_readResolvent_82 : decode b_M_readResolvent 82 = .ok (.if_icmp .lt 16, 3) := by decide +kernel
theorem d_M_readResolvent_85 : decode b_M_readResolvent 85 = .ok (.aload_n 0, 1) := by decide +kernel
theorem d_M_readResolvent_86 : decode b_M_readResolvent 86 = .ok (.getfield 102, 3) := by decide +kernel
theorem d_M_readResolvent_89 : decode b_M_readResolvent 89 = .ok (.bipush 10, 2) := by decide +kernel
theorem d_M_readResolvent_91 : decode b_M_readResolvent 91 = .ok (.if_icmp .gt 7, 3) := by decide +kernel
theorem d_M_readResolvent_94 : decode b_M_readResolvent 94 = .ok (.iconst 1, 1) := by decide +kernel
theorem d_M_readResolvent_95 : decode b_M_readResolvent 95 = .ok (.goto 4, 3) := by decide +kernel
theorem d_M_readResolvent_98 : decode b_M_readResolvent 98 = .ok (.iconst 0, 1) := by decide +kernel
theorem d_M_readResolvent_99 : decode b_M_readResolvent 99 = .ok (.iconst 2, 1) := by decide +kernel
theorem d_M_readResolvent_100 : decode b_M_readResolvent 100 = .ok (.invokevirtual 108, 3) := by decide +kernel
theorem d_M_readResolvent_103 : decode b_M_readResolvent 103 = .ok (.ifCond .ne 4, 3) := by decide +kernel
theorem d_M_readResolvent_106 : decode b_M_readResolvent 106 = .ok (.return_, 1) := by decide +kernel
theorem d_M_readResolvent_107 : decode b_M_readResolvent 107 = .ok (.iconst 1, 1) := by decide +kernel
theorem d_M_readResolvent_108 : decode b_M_readResolvent 108 = .ok (.aload_n 0, 1) := by decide +kernel
theorem d_M_readResolvent_109 : decode b_M_readResolvent 109 = .ok (.getfield 102, 3) := by decide +kernel
theorem d_M_readResolvent_112 : decode b_M_readResolvent 112 = .ok (.iconst 1, 1) := by decide +kernel
theorem d_M_readResolvent_113 : decode b_M_readResolvent 113 = .ok (.isub, 1) := by decide +kernel
theorem d_M_readResolvent_114 : decode b_M_readResolvent 114 = .ok (.ishl, 1) := by decide +kernel
theorem d_M_readResolvent_115 : decode b_M_readResolvent 115 = .ok (.istore_n 3, 1) := by decide +kernel
theorem d_M_readResolvent_116 : decode b_M_readResolvent 116 = .ok (.aload_n 0, 1) := by decide +kernel
theorem d_M_readResolvent_117 : decode b_M_readResolvent 117 = .ok (.aload_n 0, 1) := by decide +kernel
theorem d_M_readResolvent_118 : decode b_M_readResolvent 118 = .ok (.getfield 7, 3) := by decide +kernel
theorem d_M_readResolvent_121 : decode b_M_readResolvent 121 = .ok (.iload_n 1, 1) := by decide +kernel
theorem d_M_readResolvent_122 : decode b_M_readResolvent 122 = .ok (.iaload, 1) := by decide +kernel
theorem d_M_readResolvent_123 : decode b_M_readResolvent 123 = .ok (.iload_n 3, 1) := by decide +kernel
theorem d_M_readResolvent_124 : decode b_M_readResolvent 124 = .ok (.iand, 1) := by decide +kernel
theorem d_M_readResolvent_125 : decode b_M_readResolvent 125 = .ok (.ifCond .eq 18, 3) := by decide +kernel
theorem d_M_readResolvent_128 : decode b_M_readResolvent 128 = .ok (.aload_n 0, 1) := by decide +kernel
theorem d_M_readResolvent_129 : decode b_M_readResolvent 129 = .ok (.getfield 13, 3) := by decide +kernel
theorem d_M_readResolvent_132 : decode b_M_readResolvent 132 = .ok (.iload_n 2, 1) := by decide +kernel
theorem d_M_readResolvent_133 : decode b_M_readResolvent 133 = .ok (.iaload, 1) := by decide +kernel
theorem d_M_readResolvent_134 : decode b_M_readResolvent 134 = .ok (.iload_n 3, 1) := by decide +kernel
theorem d_M_readResolvent_135 : decode b_M_readResolvent 135 = .ok (.iand, 1) := by decide +kernel
theorem d_M_readResolvent_136 : decode b_M_readResolvent 136 = .ok (.ifCond .eq 7, 3) := by decide +kernel
theorem d_M_readResolvent_139 : decode b_M_readResolvent 139 = .ok (.iconst 1, 1) := by decide +kernel
theorem d_M_readResolvent_140 : decode b_M_readResolvent 140 = .ok (.goto 4, 3) := by decide +kernel
theorem d_M_readResolvent_143 : decode b_M_readResolvent 143 = .ok (.iconst 0, 1) := by decide +kernel
theorem d_M_readResolvent_144 : decode b_M_readResolvent 144 = .ok (.iconst 4, 1) := by decide +kernel
theorem d_M_readResolvent_145 : decode b_M_readResolvent 145 = .ok (.invokevirtual 108, 3) := by decide +kernel
theorem d_M_readResolvent_148 : decode b_M_readResolvent 148 = .ok (.ifCond .ne 4, 3) := by decide +kernel
theorem d_M_readResolvent_151 : decode b_M_readResolvent 151 = .ok (.return_, 1) := by decide +kernel
theorem d_M_readResolvent_152 : decode b_M_readResolvent 152 = .ok (.aload_n 0, 1) := by decide +kernel
theorem d_M_readResolvent_153 : decode b_M_readResolvent 153 = .ok (.getfield 7, 3) := by decide +kernel
theorem d_M_readResolvent_156 : decode b_M_readResolvent 156 = .ok (.iload_n 1, 1) := by decide +kernel
theorem d_M_readResolvent_157 : decode b_M_readResolvent 157 = .ok (.iaload, 1) := by decide +kernel
theorem d_M_readResolvent_158 : decode b_M_readResolvent 158 = .ok (.iload_n 3, 1) := by decide +kernel
theorem d_M_readResolvent_159 : decode b_M_readResolvent 159 = .ok (.iconst (-1), 1) := by decide +kernel
theorem d_M_readResolvent_160 : decode b_M_readResolvent 160 = .ok (.ixor, 1) := by decide +kernel
theorem d_M_readResolvent_161 : decode b_M_readResolvent 161 = .ok (.iand, 1) := by decide +kernel
theorem d_M_readResolvent_162 : decode b_M_readResolvent 162 = .ok (.aload_n 0, 1) := by decide +kernel
theorem d_M_readResolvent_163 : decode b_M_readResolvent 163 = .ok (.getfield 7, 3) := by decide +kernel
theorem d_M_readResolvent_166 : decode b_M_readResolvent 166 = .ok (.iload_n 2, 1) := by decide +kernel
theorem d_M_readResolvent_167 : decode b_M_readResolvent 167 = .ok (.iaload, 1) := by decide +kernel
theorem d_M_readResolvent_168 : decode b_M_readResolvent 168 = .ok (.ior, 1) := by decide +kernel
theorem d_M_readResolvent_169 : decode b_M_readResolvent 169 = .ok (.istore 4, 2) := by decide +kernel
theorem d_M_readResolvent_171 : decode b_M_readResolvent 171 = .ok (.aload_n 0, 1) := by decide +kernel
theorem d_M_readResolvent_172 : decode b_M_readResolvent 172 = .ok (.getfield 13, 3) := by decide +kernel
theorem d_M_readResolvent_175 : decode b_M_readResolvent 175 = .ok (.iload_n 1, 1) := by decide +kernel
theorem d_M_readResolvent_176 : decode b_M_readResolvent 176 = .ok (.iaload, 1) := by decide +kernel
theorem d_M_readResolvent_177 : decode b_M_readResolvent 177 = .ok (.aload_n 0, 1) := by decide +kernel
theorem d_M_readResolvent_178 : decode b_M_readResolvent 178 = .ok (.getfield 13, 3) := by decide +kernel
theorem d_M_readResolvent_181 : decode b_M_readResolvent 181 = .ok (.iload_n 2, 1) := by decide +kernel
theorem d_M_readResolvent_182 : decode b_M_readResolvent 182 = .ok (.iaload, 1) := by decide +kernel
theorem d_M_readResolvent_183 : decode b_M_readResolvent 183 = .ok (.iload_n 3, 1) := by decide +kernel
theorem d_M_readResolvent_184 : decode b_M_readResolvent 184 = .ok (.iconst (-1), 1) := by decide +kernel
theorem d_M_readResolvent_185 : decode b_M_readResolvent 185 = .ok (.ixor, 1) := by decide +kernel
theorem d_M_readResolvent_186 : decode b_M_readResolvent 186 = .ok (.iand, 1) := by decide +kernel
theorem d_M_readResolvent_187 : decode b_M_readResolvent 187 = .ok (.ior, 1) := by decide +kernel
theorem d_M_readResolvent_188 : decode b_M_readResolvent 188 = .ok (.istore 5, 2) := by decide +kernel
theorem d_M_readResolvent_190 : decode b_M_readResolvent 190 = .ok (.aload_n 0, 1) := by decide +kernel
theorem d_M_readResolvent_191 : decode b_M_readResolvent 191 = .ok (.iload 4, 2) := by decide +kernel
theorem d_M_readResolvent_193 : decode b_M_readResolvent 193 = .ok (.iload 5, 2) := by decide +kernel
theorem d_M_readResolvent_195 : decode b_M_readResolvent 195 = .ok (.iand, 1) := by decide +kernel
theorem d_M_readResolvent_196 : decode b_M_readResolvent 196 = .ok (.ifCond .ne 7, 3) := by decide +kernel
theorem d_M_readResolvent_199 : decode b_M_readResolvent 199 = .ok (.iconst 1, 1) := by decide +kernel
theorem d_M_readResolvent_200 : decode b_M_readResolvent 200 = .ok (.goto 4, 3) := by decide +kernel
theorem d_M_readResolvent_203 : decode b_M_readResolvent 203 = .ok (.iconst 0, 1) := by decide +kernel
theorem d_M_readResolvent_204 : decode b_M_readResolvent 204 = .ok (.iconst 5, 1) := by decide +kernel
theorem d_M_readResolvent_205 : decode b_M_readResolvent 205 = .ok (.invokevirtual 108, 3) := by decide +kernel
theorem d_M_readResolvent_208 : decode b_M_readResolvent 208 = .ok (.ifCond .ne 4, 3) := by decide +kernel
theorem d_M_readResolvent_211 : decode b_M_readResolvent 211 = .ok (.return_, 1) := by decide +kernel
theorem d_M_readResolvent_212 : decode b_M_readResolvent 212 = .ok (.aload_n 0, 1) := by decide +kernel
theorem d_M_readResolvent_213 : decode b_M_readResolvent 213 = .ok (.getfield 102, 3) := by decide +kernel
theorem d_M_readResolvent_216 : decode b_M_readResolvent 216 = .ok (.istore 6, 2) := by decide +kernel
theorem d_M_readResolvent_218 : decode b_M_readResolvent 218 = .ok (.aload_n 0, 1) := by decide +kernel
theorem d_M_readResolvent_219 : decode b_M_readResolvent 219 = .ok (.invokevirtual 112, 3) := by decide +kernel
theorem d_M_readResolvent_222 : decode b_M_readResolvent 222 = .ok (.aload_n 0, 1) := by decide +kernel
theorem d_M_readResolvent_223 : decode b_M_readResolvent 223 = .ok (.bipush 59, 2) := by decide +kernel
theorem d_M_readResolvent_225 : decode b_M_readResolvent 225 = .ok (.invokevirtual 121, 3) := by decide +kernel
theorem d_M_readResolvent_228 : decode b_M_readResolvent 228 = .ok (.ifCond .eq 16, 3) := by decide +kernel
theorem d_M_readResolvent_231 : decode b_M_readResolvent 231 = .ok (.aload_n 0, 1) := by decide +kernel
theorem d_M_readResolvent_232 : decode b_M_readResolvent 232 = .ok (.iload 4, 2) := by decide +kernel
theorem d_M_readResolvent_234 : decode b_M_readResolvent 234 = .ok (.iload 5, 2) := by decide +kernel
theorem d_M_readResolvent_236 : decode b_M_readResolvent 236 = .ok (.iconst 0, 1) := by decide +kernel
theorem d_M_readResolvent_237 : decode b_M_readResolvent 237 = .ok (.iload_n 1, 1) := by decide +kernel
theorem d_M_readResolvent_238 : decode b_M_readResolvent 238 = .ok (.iload_n 2, 1) := by decide +kernel
theorem d_M_readResolvent_239 : decode b_M_readResolvent 239 = .ok (.iload 6, 2) := by decide +kernel
theorem d_M_readResolvent_241 : decode b_M_readResolvent 241 = .ok (.invokevirtual 124, 3) := by decide +kernel
theorem d_M_readResolvent_244 : decode b_M_readResolvent 244 = .ok (.return_, 1) := by decide +kernel
theorem d_M_fault_0 : decode b_M_fault 0 = .ok (.iload_n 1, 1) := by decide +kernel
theorem d_M_fault_1 : decode b_M_fault 1 = .ok (.ifCond .ne 10, 3) := by decide +kernel
theorem d_M_fault_4 : decode b_M_fault 4 = .ok (.aload_n 0, 1) := by decide +kernel
theorem d_M_fault_5 : decode b_M_fault 5 = .ok (.getfield 105, 3) := by decide +kernel
theorem d_M_fault_8 : decode b_M_fault 8 = .ok (.goto 16, 3) := by decide +kernel
theorem d_M_fault_11 : decode b_M_fault 11 = .ok (.iload_n 1, 1) := by decide +kernel
theorem d_M_fault_12 : decode b_M_fault 12 = .ok (.iconst 1, 1) := by decide +kernel
theorem d_M_fault_13 : decode b_M_fault 13 = .ok (.if_icmp .ne 10, 3) := by decide +kernel
theorem d_M_fault_16 : decode b_M_fault 16 = .ok (.aload_n 0, 1) := by decide +kernel
theorem d_M_fault_17 : decode b_M_fault 17 = .ok (.getfield 46, 3) := by decide +kernel
theorem d_M_fault_20 : decode b_M_fault 20 = .ok (.goto 4, 3) := by decide +kernel
theorem d_M_fault_23 : decode b_M_fault 23 = .ok (.iconst (-1), 1) := by decide +kernel
theorem d_M_fault_24 : decode b_M_fault 24 = .ok (.ireturn, 1) := by decide +kernel
theorem d_M_find_0 : decode b_M_find 0 = .ok (.aload_n 0, 1) := by decide +kernel
theorem d_M_find_1 : decode b_M_find 1 = .ok (.aload_n 0, 1) := by decide +kernel
theorem d_M_find_2 : decode b_M_find 2 = .ok (.invokevirtual 141, 3) := by decide +kernel
theorem d_M_find_5 : decode b_M_find 5 = .ok (.putfield 35, 3) := by decide +kernel
theorem d_M_find_8 : decode b_M_find 8 = .ok (.iconst 0, 1) := by decide +kernel
theorem d_M_find_9 : decode b_M_find 9 = .ok (.istore_n 1, 1) := by decide +kernel
theorem d_M_find_10 : decode b_M_find 10 = .ok (.iload_n 1, 1) := by decide +kernel
theorem d_M_find_11 : decode b_M_find 11 = .ok (.sipush 202, 3) := by decide +kernel
theorem d_M_find_14 : decode b_M_find 14 = .ok (.if_icmp .ge 28, 3) := by decide +kernel
theorem d_M_find_17 : decode b_M_find 17 = .ok (.aload_n 0, 1) := by decide +kernel
theorem d_M_find_18 : decode b_M_find 18 = .ok (.getfield 32, 3) := by decide +kernel
theorem d_M_find_21 : decode b_M_find 21 = .ok (.iload_n 1, 1) := by decide +kernel
theorem d_M_find_22 : decode b_M_find 22 = .ok (.iload_n 1, 1) := by decide +kernel
theorem d_M_find_23 : decode b_M_find 23 = .ok (.aload_n 0, 1) := by decide +kernel
theorem d_M_find_24 : decode b_M_find 24 = .ok (.getfield 35, 3) := by decide +kernel
theorem d_M_find_27 : decode b_M_find 27 = .ok (.if_icmp .ne 7, 3) := by decide +kernel
theorem d_M_find_30 : decode b_M_find 30 = .ok (.iconst 1, 1) := by decide +kernel
theorem d_M_find_31 : decode b_M_find 31 = .ok (.goto 4, 3) := by decide +kernel
theorem d_M_find_34 : decode b_M_find 34 = .ok (.iconst 0, 1) := by decide +kernel
theorem d_M_find_35 : decode b_M_find 35 = .ok (.bastore, 1) := by decide +kernel
theorem d_M_find_36 : decode b_M_find 36 = .ok (.iinc 1 1, 3) := by decide +kernel
theorem d_M_find_39 : decode b_M_find 39 = .ok (.goto (-29), 3) := by decide +kernel
theorem d_M_find_42 : decode b_M_find 42 = .ok (.aload_n 0, 1) := by decide +kernel
theorem d_M_find_43 : decode b_M_find 43 = .ok (.getfield 115, 3) := by decide +kernel
theorem d_M_find_46 : decode b_M_find 46 = .ok (.istore_n 1, 1) := by decide +kernel
theorem d_M_find_47 : decode b_M_find 47 = .ok (.iload_n 1, 1) := by decide +kernel
theorem d_M_find_48 : decode b_M_find 48 = .ok (.ifCond .le 54, 3) := by decide +kernel
theorem d_M_find_51 : decode b_M_find 51 = .ok (.aload_n 0, 1) := by decide +kernel
theorem d_M_find_52 : decode b_M_find 52 = .ok (.getfield 32, 3) := by decide +kernel
theorem d_M_find_55 : decode b_M_find 55 = .ok (.iload_n 1, 1) := by decide +kernel
theorem d_M_find_56 : decode b_M_find 56 = .ok (.baload, 1) := by decide +kernel
theorem d_M_find_57 : decode b_M_find 57 = .ok (.ifCond .eq 39, 3) := by decide +kernel
theorem d_M_find_60 : decode b_M_find 60 = .ok (.aload_n 0, 1) := by decide +kernel
theorem d_M_find_61 : decode b_M_find 61 = .ok (.getfield 16, 3) := by decide +kernel
theorem d_M_find_64 : decode b_M_find 64 = .ok (.iload_n 1, 1) := by decide +kernel
theorem d_M_find_65 : decode b_M_find 65 = .ok (.iaload, 1) := by decide +kernel
theorem d_M_find_66 : decode b_M_find 66 = .ok (.ifCond .le 6, 3) := by decide +kernel
theorem d_M_find_69 : decode b_M_find 69 = .ok (.goto 27, 3) := by decide +kernel
theorem d_M_find_72 : decode b_M_find 72 = .ok (.aload_n 0, 1) := by decide +kernel
theorem d_M_find_73 : decode b_M_find 73 = .ok (.getfield 32, 3) := by decide +kernel
theorem d_M_find_76 : decode b_M_find 76 = .ok (.aload_n 0, 1) := by decide +kernel
theorem d_M_find_77 : decode b_M_find 77 = .ok (.getfield 19, 3) := by decide +kernel
theorem d_M_find_80 : decode b_M_find 80 = .ok (.iload_n 1, 1) := by decide +kernel
theorem d_M_find_81 : decode b_M_find 81 = .ok (.iaload, 1) := by decide +kernel
theorem d_M_find_82 : decode b_M_find 82 = .ok (.iconst 1, 1) := by decide +kernel
theorem d_M_find_83 : decode b_M_find 83 = .ok (.bastore, 1) := by decide +kernel
theorem d_M_find_84 : decode b_M_find 84 = .ok (.aload_n 0, 1) := by decide +kernel
theorem d_M_find_85 : decode b_M_find 85 = .ok (.getfield 32, 3) := by decide +kernel
theorem d_M_find_88 : decode b_M_find 88 = .ok (.aload_n 0, 1) := by decide +kernel
theorem d_M_find_89 : decode b_M_find 89 = .ok (.getfield 22, 3) := by decide +kernel
theorem d_M_find_92 : decode b_M_find 92 = .ok (.iload_n 1, 1) := by decide +kernel
theorem d_M_find_93 : decode b_M_find 93 = .ok (.iaload, 1) := by decide +kernel
theorem d_M_find_94 : decode b_M_find 94 = .ok (.iconst 1, 1) := by decide +kernel
theorem d_M_find_95 : decode b_M_find 95 = .ok (.bastore, 1) := by decide +kernel
theorem d_M_find_96 : decode b_M_find 96 = .ok (.iinc 1 (-1), 3) := by decide +kernel
theorem d_M_find_99 : decode b_M_find 99 = .ok (.goto (-52), 3) := by decide +kernel
theorem d_M_find_102 : decode b_M_find 102 = .ok (.return_, 1) := by decide +kernel
theorem d_M_clause_0 : decode b_M_clause 0 = .ok (.iload_n 1, 1) := by decide +kernel
theorem d_M_clause_1 : decode b_M_clause 1 = .ok (.iconst 1, 1) := by decide +kernel
theorem d_M_clause_2 : decode b_M_clause 2 = .ok (.aload_n 0, 1) := by decide +kernel
theorem d_M_clause_3 : decode b_M_clause 3 = .ok (.getfield 115, 3) := by decide +kernel
theorem d_M_clause_6 : decode b_M_clause 6 = .ok (.invokestatic 144, 3) := by decide +kernel
theorem d_M_clause_9 : decode b_M_clause 9 = .ok (.ifCond .ne 5, 3) := by decide +kernel
theorem d_M_clause_12 : decode b_M_clause 12 = .ok (.iconst (-1), 1) := by decide +kernel
theorem d_M_clause_13 : decode b_M_clause 13 = .ok (.ireturn, 1) := by decide +kernel
theorem d_M_clause_14 : decode b_M_clause 14 = .ok (.iload_n 2, 1) := by decide +kernel
theorem d_M_clause_15 : decode b_M_clause 15 = .ok (.tableswitch 105 0 6 #[41, 48, 55, 62, 69, 83, 90], 41) := by decide +kernel
theorem d_M_clause_56 : decode b_M_clause 56 = .ok (.aload_n 0, 1) := by decide +kernel
theorem d_M_clause_57 : decode b_M_clause 57 = .ok (.getfield 16, 3) := by decide +kernel
theorem d_M_clause_60 : decode b_M_clause 60 = .ok (.iload_n 1, 1) := by decide +kernel
theorem d_M_clause_61 : decode b_M_clause 61 = .ok (.iaload, 1) := by decide +kernel
theorem d_M_clause_62 : decode b_M_clause 62 = .ok (.ireturn, 1) := by decide +kernel
theorem d_M_clause_63 : decode b_M_clause 63 = .ok (.aload_n 0, 1) := by decide +kernel
theorem d_M_clause_64 : decode b_M_clause 64 = .ok (.getfield 19, 3) := by decide +kernel
theorem d_M_clause_67 : decode b_M_clause 67 = .ok (.iload_n 1, 1) := by decide +kernel
theorem d_M_clause_68 : decode b_M_clause 68 = .ok (.iaload, 1) := by decide +kernel
theorem d_M_clause_69 : decode b_M_clause 69 = .ok (.ireturn, 1) := by decide +kernel
theorem d_M_clause_70 : decode b_M_clause 70 = .ok (.aload_n 0, 1) := by decide +kernel
theorem d_M_clause_71 : decode b_M_clause 71 = .ok (.getfield 22, 3) := by decide +kernel
theorem d_M_clause_74 : decode b_M_clause 74 = .ok (.iload_n 1, 1) := by decide +kernel
theorem d_M_clause_75 : decode b_M_clause 75 = .ok (.iaload, 1) := by decide +kernel
theorem d_M_clause_76 : decode b_M_clause 76 = .ok (.ireturn, 1) := by decide +kernel
theorem d_M_clause_77 : decode b_M_clause 77 = .ok (.aload_n 0, 1) := by decide +kernel
theorem d_M_clause_78 : decode b_M_clause 78 = .ok (.getfield 25, 3) := by decide +kernel
theorem d_M_clause_81 : decode b_M_clause 81 = .ok (.iload_n 1, 1) := by decide +kernel
theorem d_M_clause_82 : decode b_M_clause 82 = .ok (.iaload, 1) := by decide +kernel
theorem d_M_clause_83 : decode b_M_clause 83 = .ok (.ireturn, 1) := by decide +kernel
theorem d_M_clause_84 : decode b_M_clause 84 = .ok (.aload_n 0, 1) := by decide +kernel
theorem d_M_clause_85 : decode b_M_clause 85 = .ok (.getfield 7, 3) := by decide +kernel
theorem d_M_clause_88 : decode b_M_clause 88 = .ok (.iload_n 1, 1) := by decide +kernel
theorem d_M_clause_89 : decode b_M_clause 89 = .ok (.iaload, 1) := by decide +kernel
theorem d_M_clause_90 : decode b_M_clause 90 = .ok (.aload_n 0, 1) := by decide +kernel
theorem d_M_clause_91 : decode b_M_clause 91 = .ok (.getfield 13, 3) := by decide +kernel
theorem d_M_clause_94 : decode b_M_clause 94 = .ok (.iload_n 1, 1) := by decide +kernel
theorem d_M_clause_95 : decode b_M_clause 95 = .ok (.iaload, 1) := by decide +kernel
theorem d_M_clause_96 : decode b_M_clause 96 = .ok (.ior, 1) := by decide +kernel
theorem d_M_clause_97 : decode b_M_clause 97 = .ok (.ireturn, 1) := by decide +kernel
theorem d_M_clause_98 : decode b_M_clause 98 = .ok (.aload_n 0, 1) := by decide +kernel
theorem d_M_clause_99 : decode b_M_clause 99 = .ok (.getfield 13, 3) := by decide +kernel
theorem d_M_clause_102 : decode b_M_clause 102 = .ok (.iload_n 1, 1) := by decide +kernel
theorem d_M_clause_103 : decode b_M_clause 103 = .ok (.iaload, 1) := by decide +kernel
theorem d_M_clause_104 : decode b_M_clause 104 = .ok (.ireturn, 1) := by decide +kernel
theorem d_M_clause_105 : decode b_M_clause 105 = .ok (.aload_n 0, 1) := by decide +kernel
theorem d_M_clause_106 : decode b_M_clause 106 = .ok (.getfield 32, 3) := by decide +kernel
theorem d_M_clause_109 : decode b_M_clause 109 = .ok (.iload_n 1, 1) := by decide +kernel
theorem d_M_clause_110 : decode b_M_clause 110 = .ok (.baload, 1) := by decide +kernel
theorem d_M_clause_111 : decode b_M_clause 111 = .ok (.ifCond .eq 7, 3) := by decide +kernel
theorem d_M_clause_114 : decode b_M_clause 114 = .ok (.iconst 1, 1) := by decide +kernel
theorem d_M_clause_115 : decode b_M_clause 115 = .ok (.goto 4, 3) := by decide +kernel
theorem d_M_clause_118 : decode b_M_clause 118 = .ok (.iconst 0, 1) := by decide +kernel
theorem d_M_clause_119 : decode b_M_clause 119 = .ok (.ireturn, 1) := by decide +kernel
theorem d_M_clause_120 : decode b_M_clause 120 = .ok (.iconst (-1), 1) := by decide +kernel
theorem d_M_clause_121 : decode b_M_clause 121 = .ok (.ireturn, 1) := by decide +kernel
theorem d_M_isThere_0 : decode b_M_isThere 0 = .ok (.iconst 1, 1) := by decide +kernel
theorem d_M_isThere_1 : decode b_M_isThere 1 = .ok (.istore_n 3, 1) := by decide +kernel
theorem d_M_isThere_2 : decode b_M_isThere 2 = .ok (.iload_n 3, 1) := by decide +kernel
theorem d_M_isThere_3 : decode b_M_isThere 3 = .ok (.aload_n 0, 1) := by decide +kernel
theorem d_M_isThere_4 : decode b_M_isThere 4 = .ok (.getfield 115, 3) := by decide +kernel
theorem d_M_isThere_7 : decode b_M_isThere 7 = .ok (.if_icmp .gt 31, 3) := by decide +kernel
theorem d_M_isThere_10 : decode b_M_isThere 10 = .ok (.aload_n 0, 1) := by decide +kernel
theorem d_M_isThere_11 : decode b_M_isThere 11 = .ok (.getfield 7, 3) := by decide +kernel
theorem d_M_isThere_14 : decode b_M_isThere 14 = .ok (.iload_n 3, 1) := by decide +kernel
theorem d_M_isThere_15 : decode b_M_isThere 15 = .ok (.iaload, 1) := by decide +kernel
theorem d_M_isThere_16 : decode b_M_isThere 16 = .ok (.iload_n 1, 1) := by decide +kernel
theorem d_M_isThere_17 : decode b_M_isThere 17 = .ok (.if_icmp .ne 15, 3) := by decide +kernel
theorem d_M_isThere_20 : decode b_M_isThere 20 = .ok (.aload_n 0, 1) := by decide +kernel
theorem d_M_isThere_21 : decode b_M_isThere 21 = .ok (.getfield 13, 3) := by decide +kernel
theorem d_M_isThere_24 : decode b_M_isThere 24 = .ok (.iload_n 3, 1) := by decide +kernel
theorem d_M_isThere_25 : decode b_M_isThere 25 = .ok (.iaload, 1) := by decide +kernel
theorem d_M_isThere_26 : decode b_M_isThere 26 = .ok (.iload_n 2, 1) := by decide +kernel
theorem d_M_isThere_27 : decode b_M_isThere 27 = .ok (.if_icmp .ne 5, 3) := by decide +kernel
theorem d_M_isThere_30 : decode b_M_isThere 30 = .ok (.iconst 1, 1) := by decide +kernel
theorem d_M_isThere_31 : decode b_M_isThere 31 = .ok (.ireturn, 1) := by decide +kernel
theorem d_M_isThere_32 : decode b_M_isThere 32 = .ok (.iinc 3 1, 3) := by decide +kernel
theorem d_M_isThere_35 : decode b_M_isThere 35 = .ok (.goto (-33), 3) := by decide +kernel
theorem d_M_isThere_38 : decode b_M_isThere 38 = .ok (.iconst 0, 1) := by decide +kernel
theorem d_M_isThere_39 : decode b_M_isThere 39 = .ok (.ireturn, 1) := by decide +kernel
theorem d_M_label_0 : decode b_M_label 0 = .ok (.iload_n 1, 1) := by decide +kernel
theorem d_M_label_1 : decode b_M_label 1 = .ok (.iconst 1, 1) := by decide +kernel
theorem d_M_label_2 : decode b_M_label 2 = .ok (.bipush 10, 2) := by decide +kernel
theorem d_M_label_4 : decode b_M_label 4 = .ok (.invokestatic 144, 3) := by decide +kernel
theorem d_M_label_7 : decode b_M_label 7 = .ok (.ifCond .eq 12, 3) := by decide +kernel
theorem d_M_label_10 : decode b_M_label 10 = .ok (.iload_n 2, 1) := by decide +kernel
theorem d_M_label_11 : decode b_M_label 11 = .ok (.iconst 1, 1) := by decide +kernel
theorem d_M_label_12 : decode b_M_label 12 = .ok (.iconst 3, 1) := by decide +kernel
theorem d_M_label_13 : decode b_M_label 13 = .ok (.invokestatic 144, 3) := by decide +kernel
theorem d_M_label_16 : decode b_M_label 16 = .ok (.ifCond .ne 6, 3) := by decide +kernel
theorem d_M_label_19 : decode b_M_label 19 = .ok (.bipush (-2), 2) := by decide +kernel
theorem d_M_label_21 : decode b_M_label 21 = .ok (.ireturn, 1) := by decide +kernel
theorem d_M_label_22 : decode b_M_label 22 = .ok (.aload_n 0, 1) := by decide +kernel
theorem d_M_label_23 : decode b_M_label 23 = .ok (.getfield 39, 3) := by decide +kernel
theorem d_M_label_26 : decode b_M_label 26 = .ok (.iload_n 1, 1) := by decide +kernel
theorem d_M_label_27 : decode b_M_label 27 = .ok (.iaload, 1) := by decide +kernel
theorem d_M_label_28 : decode b_M_label 28 = .ok (.ifCond .ne 7, 3) := by decide +kernel
theorem d_M_label_31 : decode b_M_label 31 = .ok (.iconst 2, 1) := by decide +kernel
theorem d_M_label_32 : decode b_M_label 32 = .ok (.goto 9, 3) := by decide +kernel
theorem d_M_label_35 : decode b_M_label 35 = .ok (.aload_n 0, 1) := by decide +kernel
theorem d_M_label_36 : decode b_M_label 36 = .ok (.getfield 39, 3) := by decide +kernel
theorem d_M_label_39 : decode b_M_label 39 = .ok (.iload_n 1, 1) := by decide +kernel
theorem d_M_label_40 : decode b_M_label 40 = .ok (.iaload, 1) := by decide +kernel
theorem d_M_label_41 : decode b_M_label 41 = .ok (.istore_n 3, 1) := by decide +kernel
theorem d_M_label_42 : decode b_M_label 42 = .ok (.aload_n 0, 1) := by decide +kernel
theorem d_M_label_43 : decode b_M_label 43 = .ok (.getfield 39, 3) := by decide +kernel
theorem d_M_label_46 : decode b_M_label 46 = .ok (.iload_n 1, 1) := by decide +kernel
theorem d_M_label_47 : decode b_M_label 47 = .ok (.iload_n 2, 1) := by decide +kernel
theorem d_M_label_48 : decode b_M_label 48 = .ok (.iastore, 1) := by decide +kernel
theorem d_M_label_49 : decode b_M_label 49 = .ok (.iload_n 3, 1) := by decide +kernel
theorem d_M_label_50 : decode b_M_label 50 = .ok (.ireturn, 1) := by decide +kernel
theorem d_M_variables_0 : decode b_M_variables 0 = .ok (.iload_n 1, 1) := by decide +kernel
theorem d_M_variables_1 : decode b_M_variables 1 = .ok (.iconst 1, 1) := by decide +kernel
theorem d_M_variables_2 : decode b_M_variables 2 = .ok (.bipush 7, 2) := by decide +kernel
theorem d_M_variables_4 : decode b_M_variables 4 = .ok (.invokestatic 144, 3) := by decide +kernel
theorem d_M_variables_7 : decode b_M_variables 7 = .ok (.ifCond .ne 6, 3) := by decide +kernel
theorem d_M_variables_10 : decode b_M_variables 10 = .ok (.bipush (-2), 2) := by decide +kernel
theorem d_M_variables_12 : decode b_M_variables 12 = .ok (.ireturn, 1) := by decide +kernel
theorem d_M_variables_13 : decode b_M_variables 13 = .ok (.aload_n 0, 1) := by decide +kernel
theorem d_M_variables_14 : decode b_M_variables 14 = .ok (.iconst 0, 1) := by decide +kernel
theorem d_M_variables_15 : decode b_M_variables 15 = .ok (.iload_n 1, 1) := by decide +kernel
theorem d_M_variables_16 : decode b_M_variables 16 = .ok (.invokevirtual 152, 3) := by decide +kernel
theorem d_M_variables_19 : decode b_M_variables 19 = .ok (.istore_n 3, 1) := by decide +kernel
theorem d_M_variables_20 : decode b_M_variables 20 = .ok (.aload_n 0, 1) := by decide +kernel
theorem d_M_variables_21 : decode b_M_variables 21 = .ok (.iconst 1, 1) := by decide +kernel
theorem d_M_variables_22 : decode b_M_variables 22 = .ok (.iload_n 1, 1) := by decide +kernel
theorem d_M_variables_23 : decode b_M_variables 23 = .ok (.invokevirtual 152, 3) := by decide +kernel
theorem d_M_variables_26 : decode b_M_variables 26 = .ok (.istore 4, 2) := by decide +kernel
theorem d_M_variables_28 : decode b_M_variables 28 = .ok (.iload_n 2, 1) := by decide +kernel
theorem d_M_variables_29 : decode b_M_variables 29 = .ok (.ifCond .ne 7, 3) := by decide +kernel
theorem d_M_variables_32 : decode b_M_variables 32 = .ok (.iload_n 3, 1) := by decide +kernel
theorem d_M_variables_33 : decode b_M_variables 33 = .ok (.goto 26, 3) := by decide +kernel
theorem d_M_variables_36 : decode b_M_variables 36 = .ok (.iload_n 2, 1) := by decide +kernel
theorem d_M_variables_37 : decode b_M_variables 37 = .ok (.iconst 1, 1) := by decide +kernel
theorem d_M_variables_38 : decode b_M_variables 38 = .ok (.if_icmp .ne 8, 3) := by decide +kernel
theorem d_M_variables_41 : decode b_M_variables 41 = .ok (.iload 4, 2) := by decide +kernel
theorem d_M_variables_43 : decode b_M_variables 43 = .ok (.goto 16, 3) := by decide +kernel
theorem d_M_variables_46 : decode b_M_variables 46 = .ok (.iload_n 2, 1) := by decide +kernel
theorem d_M_variables_47 : decode b_M_variables 47 = .ok (.iconst 2, 1) := by decide +kernel
theorem d_M_variables_48 : decode b_M_variables 48 = .ok (.if_icmp .ne 10, 3) := by decide +kernel
theorem d_M_variables_51 : decode b_M_variables 51 = .ok (.iload_n 3, 1) := by decide +kernel
theorem d_M_variables_52 : decode b_M_variables 52 = .ok (.iload 4, 2) := by decide +kernel
theorem d_M_variables_54 : decode b_M_variables 54 = .ok (.iand, 1) := by decide +kernel
theorem d_M_variables_55 : decode b_M_variables 55 = .ok (.goto 4, 3) := by decide +kernel
theorem d_M_variables_58 : decode b_M_variables 58 = .ok (.iconst (-1), 1) := by decide +kernel
theorem d_M_variables_59 : decode b_M_variables 59 = .ok (.ireturn, 1) := by decide +kernel
theorem d_M_labelOf_0 : decode b_M_labelOf 0 = .ok (.iconst 1, 1) := by decide +kernel
theorem d_M_labelOf_1 : decode b_M_labelOf 1 = .ok (.iload_n 1, 1) := by decide +kernel
theorem d_M_labelOf_2 : decode b_M_labelOf 2 = .ok (.iconst 1, 1) := by decide +kernel
theorem d_M_labelOf_3 : decode b_M_labelOf 3 = .ok (.isub, 1) := by decide +kernel
theorem d_M_labelOf_4 : decode b_M_labelOf 4 = .ok (.ishl, 1) := by decide +kernel
theorem d_M_labelOf_5 : decode b_M_labelOf 5 = .ok (.istore 5, 2) := by decide +kernel
theorem d_M_labelOf_7 : decode b_M_labelOf 7 = .ok (.iload_n 3, 1) := by decide +kernel
theorem d_M_labelOf_8 : decode b_M_labelOf 8 = .ok (.iload 5, 2) := by decide +kernel
theorem d_M_labelOf_10 : decode b_M_labelOf 10 = .ok (.iand, 1) := by decide +kernel
theorem d_M_labelOf_11 : decode b_M_labelOf 11 = .ok (.ifCond .ne 5, 3) := by decide +kernel
theorem d_M_labelOf_14 : decode b_M_labelOf 14 = .ok (.iconst 1, 1) := by decide +kernel
theorem d_M_labelOf_15 : decode b_M_labelOf 15 = .ok (.ireturn, 1) := by decide +kernel
theorem d_M_labelOf_16 : decode b_M_labelOf 16 = .ok (.iload_n 2, 1) := by decide +kernel
theorem d_M_labelOf_17 : decode b_M_labelOf 17 = .ok (.iload 5, 2) := by decide +kernel
theorem d_M_labelOf_19 : decode b_M_labelOf 19 = .ok (.iand, 1) := by decide +kernel
theorem d_M_labelOf_20 : decode b_M_labelOf 20 = .ok (.ifCond .ne 5, 3) := by decide +kernel
theorem d_M_labelOf_23 : decode b_M_labelOf 23 = .ok (.iconst 2, 1) := by decide +kernel
theorem d_M_labelOf_24 : decode b_M_labelOf 24 = .ok (.ireturn, 1) := by decide +kernel
theorem d_M_labelOf_25 : decode b_M_labelOf 25 = .ok (.iload 4, 2) := by decide +kernel
theorem d_M_labelOf_27 : decode b_M_labelOf 27 = .ok (.ifCond .ne 7, 3) := by decide +kernel
theorem d_M_labelOf_30 : decode b_M_labelOf 30 = .ok (.iconst 2, 1) := by decide +kernel
theorem d_M_labelOf_31 : decode b_M_labelOf 31 = .ok (.goto 42, 3) := by decide +kernel
theorem d_M_labelOf_34 : decode b_M_labelOf 34 = .ok (.iload 4, 2) := by decide +kernel
theorem d_M_labelOf_36 : decode b_M_labelOf 36 = .ok (.iconst 1, 1) := by decide +kernel
theorem d_M_labelOf_37 : decode b_M_labelOf 37 = .ok (.if_icmp .ne 7, 3) := by decide +kernel
theorem d_M_labelOf_40 : decode b_M_labelOf 40 = .ok (.iconst 3, 1) := by decide +kernel
theorem d_M_labelOf_41 : decode b_M_labelOf 41 = .ok (.goto 32, 3) := by decide +kernel
theorem d_M_labelOf_44 : decode b_M_labelOf 44 = .ok (.iload 4, 2) := by decide +kernel
theorem d_M_labelOf_46 : decode b_M_labelOf 46 = .ok (.iconst 2, 1) := by decide +kernel
theorem d_M_labelOf_47 : decode b_M_labelOf 47 = .ok (.if_icmp .ne 7, 3) := by decide +kernel
theorem d_M_labelOf_50 : decode b_M_labelOf 50 = .ok (.iconst 1, 1) := by decide +kernel
theorem d_M_labelOf_51 : decode b_M_labelOf 51 = .ok (.goto 22, 3) := by decide +kernel
theorem d_M_labelOf_54 : decode b_M_labelOf 54 = .ok (.aload_n 0, 1) := by decide +kernel
theorem d_M_labelOf_55 : decode b_M_labelOf 55 = .ok (.getfield 39, 3) := by decide +kernel
theorem d_M_labelOf_58 : decode b_M_labelOf 58 = .ok (.iload_n 1, 1) := by decide +kernel
theorem d_M_labelOf_59 : decode b_M_labelOf 59 = .ok (.iaload, 1) := by decide +kernel
theorem d_M_labelOf_60 : decode b_M_labelOf 60 = .ok (.ifCond .ne 7, 3) := by decide +kernel
theorem d_M_labelOf_63 : decode b_M_labelOf 63 = .ok (.iconst 2, 1) := by decide +kernel
theorem d_M_labelOf_64 : decode b_M_labelOf 64 = .ok (.goto 9, 3) := by decide +kernel
theorem d_M_labelOf_67 : decode b_M_labelOf 67 = .ok (.aload_n 0, 1) := by decide +kernel
theorem d_M_labelOf_68 : decode b_M_labelOf 68 = .ok (.getfield 39, 3) := by decide +kernel
theorem d_M_labelOf_71 : decode b_M_labelOf 71 = .ok (.iload_n 1, 1) := by decide +kernel
theorem d_M_labelOf_72 : decode b_M_labelOf 72 = .ok (.iaload, 1) := by decide +kernel
theorem d_M_labelOf_73 : decode b_M_labelOf 73 = .ok (.ireturn, 1) := by decide +kernel
theorem d_M_partials_0 : decode b_M_partials 0 = .ok (.aload_n 0, 1) := by decide +kernel
theorem d_M_partials_1 : decode b_M_partials 1 = .ok (.iconst 0, 1) := by decide +kernel
theorem d_M_partials_2 : decode b_M_partials 2 = .ok (.iload_n 1, 1) := by decide +kernel
theorem d_M_partials_3 : decode b_M_partials 3 = .ok (.invokevirtual 152, 3) := by decide +kernel
theorem d_M_partials_6 : decode b_M_partials 6 = .ok (.istore_n 3, 1) := by decide +kernel
theorem d_M_partials_7 : decode b_M_partials 7 = .ok (.aload_n 0, 1) := by decide +kernel
theorem d_M_partials_8 : decode b_M_partials 8 = .ok (.iconst 1, 1) := by decide +kernel
theorem d_M_partials_9 : decode b_M_partials 9 = .ok (.iload_n 1, 1) := by decide +kernel
theorem d_M_partials_10 : decode b_M_partials 10 = .ok (.invokevirtual 152, 3) := by decide +kernel
theorem d_M_partials_13 : decode b_M_partials 13 = .ok (.istore 4, 2) := by decide +kernel
theorem d_M_partials_15 : decode b_M_partials 15 = .ok (.iconst 1, 1) := by decide +kernel
theorem d_M_partials_16 : decode b_M_partials 16 = .ok (.istore 5, 2) := by decide +kernel
theorem d_M_partials_18 : decode b_M_partials 18 = .ok (.iload 5, 2) := by decide +kernel
theorem d_M_partials_20 : decode b_M_partials 20 = .ok (.aload_n 0, 1) := by decide +kernel
theorem d_M_partials_21 : decode b_M_partials 21 = .ok (.getfield 115, 3) := by decide +kernel
theorem d_M_partials_24 : decode b_M_partials 24 = .ok (.if_icmp .gt 228, 3) := by decide +kernel
theorem d_M_partials_27 : decode b_M_partials 27 = .ok (.aload_n 0, 1) := by decide +kernel
theorem d_M_partials_28 : decode b_M_partials 28 = .ok (.getfield 32, 3) := by decide +kernel
theorem d_M_partials_31 : decode b_M_partials 31 = .ok (.iload 5, 2) := by decide +kernel
theorem d_M_partials_33 : decode b_M_partials 33 = .ok (.baload, 1) := by decide +kernel
theorem d_M_partials_34 : decode b_M_partials 34 = .ok (.ifCond .ne 6, 3) := by decide +kernel
theorem d_M_partials_37 : decode b_M_partials 37 = .ok (.goto 209, 3) := by decide +kernel
theorem d_M_partials_40 : decode b_M_partials 40 = .ok (.iconst 0, 1) := by decide +kernel
theorem d_M_partials_41 : decode b_M_partials 41 = .ok (.istore 6, 2) := by decide +kernel
theorem d_M_partials_43 : decode b_M_partials 43 = .ok (.iload 6, 2) := by decide +kernel
theorem d_M_partials_45 : decode b_M_partials 45 = .ok (.bipush 16, 2) := by decide +kernel
theorem d_M_partials_47 : decode b_M_partials 47 = .ok (.if_icmp .ge 199, 3) := by decide +kernel
theorem d_M_partials_50 : decode b_M_partials 50 = .ok (.aload_n 0, 1) := by decide +kernel
theorem d_M_partials_51 : decode b_M_partials 51 = .ok (.getfield 16, 3) := by decide +kernel
theorem d_M_partials_54 : decode b_M_partials 54 = .ok (.iload 5, 2) := by decide +kernel
theorem d_M_partials_56 : decode b_M_partials 56 = .ok (.iaload, 1) := by decide +kernel
theorem d_M_partials_57 : decode b_M_partials 57 = .ok (.ifCond .le 52, 3) := by decide +kernel
theorem d_M_partials_60 : decode b_M_partials 60 = .ok (.aload_n 0, 1) := by decide +kernel
theorem d_M_partials_61 : decode b_M_partials 61 = .ok (.getfield 16, 3) := by decide +kernel
theorem d_M_partials_64 : decode b_M_partials 64 = .ok (.iload 5, 2) := by decide +kernel
theorem d_M_partials_66 : decode b_M_partials 66 = .ok (.iaload, 1) := by decide +kernel
theorem d_M_partials_67 : decode b_M_partials 67 = .ok (.iload_n 1, 1) := by decide +kernel
theorem d_M_partials_68 : decode b_M_partials 68 = .ok (.if_icmp .gt 19, 3) := by decide +kernel
theorem d_M_partials_71 : decode b_M_partials 71 = .ok (.aload_n 0, 1) := by decide +kernel
theorem d_M_partials_72 : decode b_M_partials 72 = .ok (.iload 5, 2) := by decide +kernel
theorem d_M_partials_74 : decode b_M_partials 74 = .ok (.iload 6, 2) := by decide +kernel
theorem d_M_partials_76 : decode b_M_partials 76 = .ok (.iconst 2, 1) := by decide +kernel
theorem d_M_partials_77 : decode b_M_partials 77 = .ok (.iload_n 3, 1) := by decide +kernel
theorem d_M_partials_78 : decode b_M_partials 78 = .ok (.iload 4, 2) := by decide +kernel
theorem d_M_partials_80 : decode b_M_partials 80 = .ok (.iload_n 2, 1) := by decide +kernel
theorem d_M_partials_81 : decode b_M_partials 81 = .ok (.invokevirtual 178, 3) := by decide +kernel
theorem d_M_partials_84 : decode b_M_partials 84 = .ok (.goto 20, 3) := by decide +kernel
theorem d_M_partials_87 : decode b_M_partials 87 = .ok (.aload_n 0, 1) := by decide +kernel
theorem d_M_partials_88 : decode b_M_partials 88 = .ok (.iload 5, 2) := by decide +kernel
theorem d_M_partials_90 : decode b_M_partials 90 = .ok (.iload 6, 2) := by decide +kernel
theorem d_M_partials_92 : decode b_M_partials 92 = .ok (.iconst 1, 1) := by decide +kernel
theorem d_M_partials_93 : decode b_M_partials 93 = .ok (.iload_n 3, 1) := by decide +kernel
theorem d_M_partials_94 : decode b_M_partials 94 = .ok (.iload 4, 2) := by decide +kernel
theorem d_M_partials_96 : decode b_M_partials 96 = .ok (.iload_n 2, 1) := by decide +kernel
theorem d_M_partials_97 : decode b_M_partials 97 = .ok (.invokevirtual 178, 3) := by decide +kernel
theorem d_M_partials_100 : decode b_M_partials 100 = .ok (.ldc2_w 168, 3) := by decide +kernel
theorem d_M_partials_103 : decode b_M_partials 103 = .ok (.lxor, 1) := by decide +kernel
theorem d_M_partials_104 : decode b_M_partials 104 = .ok (.lstore 7, 2) := by decide +kernel
theorem d_M_partials_106 : decode b_M_partials 106 = .ok (.goto 119, 3) := by decide +kernel
theorem d_M_partials_109 : decode b_M_partials 109 = .ok (.aload_n 0, 1) := by decide +kernel
theorem d_M_partials_110 : decode b_M_partials 110 = .ok (.aload_n 0, 1) := by decide +kernel
theorem d_M_partials_111 : decode b_M_partials 111 = .ok (.getfield 25, 3) := by decide +kernel
theorem d_M_partials_114 : decode b_M_partials 114 = .ok (.iload 5, 2) := by decide +kernel
theorem d_M_partials_116 : decode b_M_partials 116 = .ok (.iaload, 1) := by decide +kernel
theorem d_M_partials_117 : decode b_M_partials 117 = .ok (.iload_n 3, 1) := by decide +kernel
theorem d_M_partials_118 : decode b_M_partials 118 = .ok (.iload 4, 2) := by decide +kernel
theorem d_M_partials_120 : decode b_M_partials 120 = .ok (.iload_n 2, 1) := by decide +kernel
theorem d_M_partials_121 : decode b_M_partials 121 = .ok (.invokevirtual 170, 3) := by decide +kernel
theorem d_M_partials_124 : decode b_M_partials 124 = .ok (.istore 9, 2) := by decide +kernel
theorem d_M_partials_126 : decode b_M_partials 126 = .ok (.aload_n 0, 1) := by decide +kernel
theorem d_M_partials_127 : decode b_M_partials 127 = .ok (.getfield 49, 3) := by decide +kernel
theorem d_M_partials_130 : decode b_M_partials 130 = .ok (.bipush 16, 2) := by decide +kernel
theorem d_M_partials_132 : decode b_M_partials 132 = .ok (.aload_n 0, 1) := by decide +kernel
theorem d_M_partials_133 : decode b_M_partials 133 = .ok (.getfield 19, 3) := by decide +kernel
theorem d_M_partials_136 : decode b_M_partials 136 = .ok (.iload 5, 2) := by decide +kernel
theorem d_M_partials_138 : decode b_M_partials 138 = .ok (.iaload, 1) := by decide +kernel
theorem d_M_partials_139 : decode b_M_partials 139 = .ok (.imul, 1) := by decide +kernel
theorem d_M_partials_140 : decode b_M_partials 140 = .ok (.iload 6, 2) := by decide +kernel
theorem d_M_partials_142 : decode b_M_partials 142 = .ok (.iadd, 1) := by decide +kernel
theorem d_M_partials_143 : decode b_M_partials 143 = .ok (.laload, 1) := by decide +kernel
theorem d_M_partials_144 : decode b_M_partials 144 = .ok (.lstore 10, 2) := by decide +kernel
theorem d_M_partials_146 : decode b_M_partials 146 = .ok (.aload_n 0, 1) := by decide +kernel
theorem d_M_partials_147 : decode b_M_partials 147 = .ok (.getfield 49, 3) := by decide +kernel
theorem d_M_partials_150 : decode b_M_partials 150 = .ok (.bipush 16, 2) := by decide +kernel
theorem d_M_partials_152 : decode b_M_partials 152 = .ok (.aload_n 0, 1) := by decide +kernel
theorem d_M_partials_153 : decode b_M_partials 153 = .ok (.getfield 22, 3) := by decide +kernel
theorem d_M_partials_156 : decode b_M_partials 156 = .ok (.iload 5, 2) := by decide +kernel
theorem d_M_partials_158 : decode b_M_partials 158 = .ok (.iaload, 1) := by decide +kernel
theorem d_M_partials_159 : decode b_M_partials 159 = .ok (.imul, 1) := by decide +kernel
theorem d_M_partials_160 : decode b_M_partials 160 = .ok (.iload 6, 2) := by decide +kernel
theorem d_M_partials_162 : decode b_M_partials 162 = .ok (.iadd, 1) := by decide +kernel
theorem d_M_partials_163 : decode b_M_partials 163 = .ok (.laload, 1) := by decide +kernel
theorem d_M_partials_164 : decode b_M_partials 164 = .ok (.lstore 12, 2) := by decide +kernel
theorem d_M_partials_166 : decode b_M_partials 166 = .ok (.aload_n 0, 1) := by decide +kernel
theorem d_M_partials_167 : decode b_M_partials 167 = .ok (.getfield 25, 3) := by decide +kernel
theorem d_M_partials_170 : decode b_M_partials 170 = .ok (.iload 5, 2) := by decide +kernel
theorem d_M_partials_172 : decode b_M_partials 172 = .ok (.iaload, 1) := by decide +kernel
theorem d_M_partials_173 : decode b_M_partials 173 = .ok (.iload 6, 2) := by decide +kernel
theorem d_M_partials_175 : decode b_M_partials 175 = .ok (.invokestatic 174, 3) := by decide +kernel
theorem d_M_partials_178 : decode b_M_partials 178 = .ok (.lstore 14, 2) := by decide +kernel
theorem d_M_partials_180 : decode b_M_partials 180 = .ok (.iload 9, 2) := by decide +kernel
theorem d_M_partials_182 : decode b_M_partials 182 = .ok (.iconst 1, 1) := by decide +kernel
theorem d_M_partials_183 : decode b_M_partials 183 = .ok (.if_icmp .ne 11, 3) := by decide +kernel
theorem d_M_partials_186 : decode b_M_partials 186 = .ok (.lload 10, 2) := by decide +kernel
theorem d_M_partials_188 : decode b_M_partials 188 = .ok (.lload 12, 2) := by decide +kernel
theorem d_M_partials_190 : decode b_M_partials 190 = .ok (.lor, 1) := by decide +kernel
theorem d_M_partials_191 : decode b_M_partials 191 = .ok (.goto 32, 3) := by decide +kernel
theorem d_M_partials_194 : decode b_M_partials 194 = .ok (.iload 9, 2) := by decide +kernel
theorem d_M_partials_196 : decode b_M_partials 196 = .ok (.iconst 2, 1) := by decide +kernel
theorem d_M_partials_197 : decode b_M_partials 197 = .ok (.if_icmp .ne 11, 3) := by decide +kernel
theorem d_M_partials_200 : decode b_M_partials 200 = .ok (.lload 10, 2) := by decide +kernel
theorem d_M_partials_202 : decode b_M_partials 202 = .ok (.lload 12, 2) := by decide +kernel
theorem d_M_partials_204 : decode b_M_partials 204 = .ok (.land, 1) := by decide +kernel
theorem d_M_partials_205 : decode b_M_partials 205 = .ok (.goto 18, 3) := by decide +kernel
theorem d_M_partials_208 : decode b_M_partials 208 = .ok (.lload 14, 2) := by decide +kernel
theorem d_M_partials_210 : decode b_M_partials 210 = .ok (.lload 10, 2) := by decide +kernel
theorem d_M_partials_212 : decode b_M_partials 212 = .ok (.lor, 1) := by decide +kernel
theorem d_M_partials_213 : decode b_M_partials 213 = .ok (.lload 14, 2) := by decide +kernel
theorem d_M_partials_215 : decode b_M_partials 215 = .ok (.ldc2_w 168, 3) := by decide +kernel
theorem d_M_partials_218 : decode b_M_partials 218 = .ok (.lxor, 1) := by decide +kernel
theorem d_M_partials_219 : decode b_M_partials 219 = .ok (.lload 12, 2) := by decide +kernel
theorem d_M_partials_221 : decode b_M_partials 221 = .ok (.lor, 1) := by decide +kernel
theorem d_M_partials_222 : decode b_M_partials 222 = .ok (.land, 1) := by decide +kernel
theorem d_M_partials_223 : decode b_M_partials 223 = .ok (.lstore 7, 2) := by decide +kernel
theorem d_M_partials_225 : decode b_M_partials 225 = .ok (.aload_n 0, 1) := by decide +kernel
theorem d_M_partials_226 : decode b_M_partials 226 = .ok (.getfield 49, 3) := by decide +kernel
theorem d_M_partials_229 : decode b_M_partials 229 = .ok (.bipush 16, 2) := by decide +kernel
theorem d_M_partials_231 : decode b_M_partials 231 = .ok (.iload 5, 2) := by decide +kernel
theorem d_M_partials_233 : decode b_M_partials 233 = .ok (.imul, 1) := by decide +kernel
theorem d_M_partials_234 : decode b_M_partials 234 = .ok (.iload 6, 2) := by decide +kernel
theorem d_M_partials_236 : decode b_M_partials 236 = .ok (.iadd, 1) := by decide +kernel
theorem d_M_partials_237 : decode b_M_partials 237 = .ok (.lload 7, 2) := by decide +kernel
theorem d_M_partials_239 : decode b_M_partials 239 = .ok (.lastore, 1) := by decide +kernel
theorem d_M_partials_240 : decode b_M_partials 240 = .ok (.iinc 6 1, 3) := by decide +kernel
theorem d_M_partials_243 : decode b_M_partials 243 = .ok (.goto (-200), 3) := by decide +kernel
theorem d_M_partials_246 : decode b_M_partials 246 = .ok (.iinc 5 1, 3) := by decide +kernel
theorem d_M_partials_249 : decode b_M_partials 249 = .ok (.goto (-231), 3) := by decide +kernel
theorem d_M_partials_252 : decode b_M_partials 252 = .ok (.return_, 1) := by decide +kernel
theorem d_M_leastVariable_0 : decode b_M_leastVariable 0 = .ok (.iconst 1, 1) := by decide +kernel
theorem d_M_leastVariable_1 : decode b_M_leastVariable 1 = .ok (.istore_n 2, 1) := by decide +kernel
theorem d_M_leastVariable_2 : decode b_M_leastVariable 2 = .ok (.iload_n 2, 1) := by decide +kernel
theorem d_M_leastVariable_3 : decode b_M_leastVariable 3 = .ok (.bipush 10, 2) := by decide +kernel
theorem d_M_leastVariable_5 : decode b_M_leastVariable 5 = .ok (.if_icmp .gt 50, 3) := by decide +kernel
theorem d_M_leastVariable_8 : decode b_M_leastVariable 8 = .ok (.aload_n 0, 1) := by decide +kernel
theorem d_M_leastVariable_9 : decode b_M_leastVariable 9 = .ok (.getfield 71, 3) := by decide +kernel
theorem d_M_leastVariable_12 : decode b_M_leastVariable 12 = .ok (.iload_n 1, 1) := by decide +kernel
theorem d_M_leastVariable_13 : decode b_M_leastVariable 13 = .ok (.iload_n 2, 1) := by decide +kernel
theorem d_M_leastVariable_14 : decode b_M_leastVariable 14 = .ok (.iastore, 1) := by decide +kernel
theorem d_M_leastVariable_15 : decode b_M_leastVariable 15 = .ok (.iconst 0, 1) := by decide +kernel
theorem d_M_leastVariable_16 : decode b_M_leastVariable 16 = .ok (.istore_n 3, 1) := by decide +kernel
theorem d_M_leastVariable_17 : decode b_M_leastVariable 17 = .ok (.iload_n 3, 1) := by decide +kernel
theorem d_M_leastVariable_18 : decode b_M_leastVariable 18 = .ok (.bipush 16, 2) := by decide +kernel
theorem d_M_leastVariable_20 : decode b_M_leastVariable 20 = .ok (.if_icmp .ge 29, 3) := by decide +kernel
theorem d_M_leastVariable_23 : decode b_M_leastVariable 23 = .ok (.aload_n 0, 1) := by decide +kernel
theorem d_M_leastVariable_24 : decode b_M_leastVariable 24 = .ok (.iload_n 1, 1) := by decide +kernel
theorem d_M_leastVariable_25 : decode b_M_leastVariable 25 = .ok (.iload_n 3, 1) := by decide +kernel
theorem d_M_leastVariable_26 : decode b_M_leastVariable 26 = .ok (.iconst 0, 1) := by decide +kernel
theorem d_M_leastVariable_27 : decode b_M_leastVariable 27 = .ok (.invokevirtual 182, 3) := by decide +kernel
theorem d_M_leastVariable_30 : decode b_M_leastVariable 30 = .ok (.aload_n 0, 1) := by decide +kernel
theorem d_M_leastVariable_31 : decode b_M_leastVariable 31 = .ok (.iload_n 1, 1) := by decide +kernel
theorem d_M_leastVariable_32 : decode b_M_leastVariable 32 = .ok (.iload_n 3, 1) := by decide +kernel
theorem d_M_leastVariable_33 : decode b_M_leastVariable 33 = .ok (.iconst 1, 1) := by decide +kernel
theorem d_M_leastVariable_34 : decode b_M_leastVariable 34 = .ok (.invokevirtual 182, 3) := by decide +kernel
theorem d_M_leastVariable_37 : decode b_M_leastVariable 37 = .ok (.lcmp, 1) := by decide +kernel
theorem d_M_leastVariable_38 : decode b_M_leastVariable 38 = .ok (.ifCond .eq 5, 3) := by decide +kernel
theorem d_M_leastVariable_41 : decode b_M_leastVariable 41 = .ok (.iload_n 2, 1) := by decide +kernel
theorem d_M_leastVariable_42 : decode b_M_leastVariable 42 = .ok (.ireturn, 1) := by decide +kernel
theorem d_M_leastVariable_43 : decode b_M_leastVariable 43 = .ok (.iinc 3 1, 3) := by decide +kernel
theorem d_M_leastVariable_46 : decode b_M_leastVariable 46 = .ok (.goto (-29), 3) := by decide +kernel
theorem d_M_leastVariable_49 : decode b_M_leastVariable 49 = .ok (.iinc 2 1, 3) := by decide +kernel
theorem d_M_leastVariable_52 : decode b_M_leastVariable 52 = .ok (.goto (-50), 3) := by decide +kernel
theorem d_M_leastVariable_55 : decode b_M_leastVariable 55 = .ok (.iconst 0, 1) := by decide +kernel
theorem d_M_leastVariable_56 : decode b_M_leastVariable 56 = .ok (.ireturn, 1) := by decide +kernel
theorem d_M_draw_0 : decode b_M_draw 0 = .ok (.aload_n 0, 1) := by decide +kernel
theorem d_M_draw_1 : decode b_M_draw 1 = .ok (.iconst 0, 1) := by decide +kernel
theorem d_M_draw_2 : decode b_M_draw 2 = .ok (.putfield 186, 3) := by decide +kernel
theorem d_M_draw_5 : decode b_M_draw 5 = .ok (.iconst 0, 1) := by decide +kernel
theorem d_M_draw_6 : decode b_M_draw 6 = .ok (.istore_n 1, 1) := by decide +kernel
theorem d_M_draw_7 : decode b_M_draw 7 = .ok (.iload_n 1, 1) := by decide +kernel
theorem d_M_draw_8 : decode b_M_draw 8 = .ok (.bipush 16, 2) := by decide +kernel
theorem d_M_draw_10 : decode b_M_draw 10 = .ok (.if_icmp .ge 21, 3) := by decide +kernel
theorem d_M_draw_13 : decode b_M_draw 13 = .ok (.aload_n 0, 1) := by decide +kernel
theorem d_M_draw_14 : decode b_M_draw 14 = .ok (.getfield 65, 3) := by decide +kernel
theorem d_M_draw_17 : decode b_M_draw 17 = .ok (.iload_n 1, 1) := by decide +kernel
theorem d_M_draw_18 : decode b_M_draw 18 = .ok (.aload_n 0, 1) := by decide +kernel
theorem d_M_draw_19 : decode b_M_draw 19 = .ok (.getfield 59, 3) := by decide +kernel
theorem d_M_draw_22 : decode b_M_draw 22 = .ok (.iload_n 1, 1) := by decide +kernel
theorem d_M_draw_23 : decode b_M_draw 23 = .ok (.laload, 1) := by decide +kernel
theorem d_M_draw_24 : decode b_M_draw 24 = .ok (.lastore, 1) := by decide +kernel
theorem d_M_draw_25 : decode b_M_draw 25 = .ok (.iinc 1 1, 3) := by decide +kernel
theorem d_M_draw_28 : decode b_M_draw 28 = .ok (.goto (-21), 3) := by decide +kernel
theorem d_M_draw_31 : decode b_M_draw 31 = .ok (.iconst 0, 1) := by decide +kernel
theorem d_M_draw_32 : decode b_M_draw 32 = .ok (.istore_n 1, 1) := by decide +kernel
theorem d_M_draw_33 : decode b_M_draw 33 = .ok (.aload_n 0, 1) := by decide +kernel
theorem d_M_draw_34 : decode b_M_draw 34 = .ok (.invokevirtual 193, 3) := by decide +kernel
theorem d_M_draw_37 : decode b_M_draw 37 = .ok (.ifCond .ne 19, 3) := by decide +kernel
theorem d_M_draw_40 : decode b_M_draw 40 = .ok (.aload_n 0, 1) := by decide +kernel
theorem d_M_draw_41 : decode b_M_draw 41 = .ok (.getfield 80, 3) := by decide +kernel
theorem d_M_draw_44 : decode b_M_draw 44 = .ok (.iconst 0, 1) := by decide +kernel
theorem d_M_draw_45 : decode b_M_draw 45 = .ok (.iconst 1, 1) := by decide +kernel
theorem d_M_draw_46 : decode b_M_draw 46 = .ok (.iastore, 1) := by decide +kernel
theorem d_M_draw_47 : decode b_M_draw 47 = .ok (.aload_n 0, 1) := by decide +kernel
theorem d_M_draw_48 : decode b_M_draw 48 = .ok (.getfield 80, 3) := by decide +kernel
theorem d_M_draw_51 : decode b_M_draw 51 = .ok (.iconst 1, 1) := by decide +kernel
theorem d_M_draw_52 : decode b_M_draw 52 = .ok (.iconst 0, 1) := by decide +kernel
theorem d_M_draw_53 : decode b_M_draw 53 = .ok (.iastore, 1) := by decide +kernel
theorem d_M_draw_54 : decode b_M_draw 54 = .ok (.iconst 2, 1) := by decide +kernel
theorem d_M_draw_55 : decode b_M_draw 55 = .ok (.istore_n 1, 1) := by decide +kernel
theorem d_M_draw_56 : decode b_M_draw 56 = .ok (.iload_n 1, 1) := by decide +kernel
theorem d_M_draw_57 : decode b_M_draw 57 = .ok (.ifCond .le 141, 3) := by decide +kernel
theorem d_M_draw_60 : decode b_M_draw 60 = .ok (.iinc 1 (-1), 3) := by decide +kernel
theorem d_M_draw_63 : decode b_M_draw 63 = .ok (.aload_n 0, 1) := by decide +kernel
theorem d_M_draw_64 : decode b_M_draw 64 = .ok (.getfield 80, 3) := by decide +kernel
theorem d_M_draw_67 : decode b_M_draw 67 = .ok (.iload_n 1, 1) := by decide +kernel
theorem d_M_draw_68 : decode b_M_draw 68 = .ok (.iaload, 1) := by decide +kernel
theorem d_M_draw_69 : decode b_M_draw 69 = .ok (.iconst 2, 1) := by decide +kernel
theorem d_M_draw_70 : decode b_M_draw 70 = .ok (.idiv, 1) := by decide +kernel
theorem d_M_draw_71 : decode b_M_draw 71 = .ok (.istore_n 2, 1) := by decide +kernel
theorem d_M_draw_72 : decode b_M_draw 72 = .ok (.aload_n 0, 1) := by decide +kernel
theorem d_M_draw_73 : decode b_M_draw 73 = .ok (.getfield 80, 3) := by decide +kernel
theorem d_M_draw_76 : decode b_M_draw 76 = .ok (.iload_n 1, 1) := by decide +kernel
theorem d_M_draw_77 : decode b_M_draw 77 = .ok (.iaload, 1) := by decide +kernel
theorem d_M_draw_78 : decode b_M_draw 78 = .ok (.iconst 2, 1) := by decide +kernel
theorem d_M_draw_79 : decode b_M_draw 79 = .ok (.irem, 1) := by decide +kernel
theorem d_M_draw_80 : decode b_M_draw 80 = .ok (.iconst 1, 1) := by decide +kernel
theorem d_M_draw_81 : decode b_M_draw 81 = .ok (.if_icmp .ne 7, 3) := by decide +kernel
theorem d_M_draw_84 : decode b_M_draw 84 = .ok (.iconst 1, 1) := by decide +kernel
theorem d_M_draw_85 : decode b_M_draw 85 = .ok (.goto 4, 3) := by decide +kernel
theorem d_M_draw_88 : decode b_M_draw 88 = .ok (.iconst 0, 1) := by decide +kernel
theorem d_M_draw_89 : decode b_M_draw 89 = .ok (.istore_n 3, 1) := by decide +kernel
theorem d_M_draw_90 : decode b_M_draw 90 = .ok (.iconst 0, 1) := by decide +kernel
theorem d_M_draw_91 : decode b_M_draw 91 = .ok (.istore 4, 2) := by decide +kernel
theorem d_M_draw_93 : decode b_M_draw 93 = .ok (.iload 4, 2) := by decide +kernel
theorem d_M_draw_95 : decode b_M_draw 95 = .ok (.bipush 16, 2) := by decide +kernel
theorem d_M_draw_97 : decode b_M_draw 97 = .ok (.if_icmp .ge 24, 3) := by decide +kernel
theorem d_M_draw_100 : decode b_M_draw 100 = .ok (.aload_n 0, 1) := by decide +kernel
theorem d_M_draw_101 : decode b_M_draw 101 = .ok (.getfield 65, 3) := by decide +kernel
theorem d_M_draw_104 : decode b_M_draw 104 = .ok (.iload 4, 2) := by decide +kernel
theorem d_M_draw_106 : decode b_M_draw 106 = .ok (.aload_n 0, 1) := by decide +kernel
theorem d_M_draw_107 : decode b_M_draw 107 = .ok (.iload_n 2, 1) := by decide +kernel
theorem d_M_draw_108 : decode b_M_draw 108 = .ok (.iload 4, 2) := by decide +kernel
theorem d_M_draw_110 : decode b_M_draw 110 = .ok (.iload_n 3, 1) := by decide +kernel
theorem d_M_draw_111 : decode b_M_draw 111 = .ok (.invokevirtual 182, 3) := by decide +kernel
theorem d_M_draw_114 : decode b_M_draw 114 = .ok (.lastore, 1) := by decide +kernel
theorem d_M_draw_115 : decode b_M_draw 115 = .ok (.iinc 4 1, 3) := by decide +kernel
theorem d_M_draw_118 : decode b_M_draw 118 = .ok (.goto (-25), 3) := by decide +kernel
theorem d_M_draw_121 : decode b_M_draw 121 = .ok (.aload_n 0, 1) := by decide +kernel
theorem d_M_draw_122 : decode b_M_draw 122 = .ok (.getfield 186, 3) := by decide +kernel
theorem d_M_draw_125 : decode b_M_draw 125 = .ok (.istore 4, 2) := by decide +kernel
theorem d_M_draw_127 : decode b_M_draw 127 = .ok (.aload_n 0, 1) := by decide +kernel
theorem d_M_draw_128 : decode b_M_draw 128 = .ok (.invokevirtual 193, 3) := by decide +kernel
theorem d_M_draw_131 : decode b_M_draw 131 = .ok (.istore 5, 2) := by decide +kernel
theorem d_M_draw_133 : decode b_M_draw 133 = .ok (.iload_n 3, 1) := by decide +kernel
theorem d_M_draw_134 : decode b_M_draw 134 = .ok (.ifCond .eq 14, 3) := by decide +kernel
theorem d_M_draw_137 : decode b_M_draw 137 = .ok (.aload_n 0, 1) := by decide +kernel
theorem d_M_draw_138 : decode b_M_draw 138 = .ok (.getfield 77, 3) := by decide +kernel
theorem d_M_draw_141 : decode b_M_draw 141 = .ok (.iload_n 2, 1) := by decide +kernel
theorem d_M_draw_142 : decode b_M_draw 142 = .ok (.iload 5, 2) := by decide +kernel
theorem d_M_draw_144 : decode b_M_draw 144 = .ok (.iastore, 1) := by decide +kernel
theorem d_M_draw_145 : decode b_M_draw 145 = .ok (.goto 11, 3) := by decide +kernel
theorem d_M_draw_148 : decode b_M_draw 148 = .ok (.aload_n 0, 1) := by decide +kernel
theorem d_M_draw_149 : decode b_M_draw 149 = .ok (.getfield 74, 3) := by decide +kernel
theorem d_M_draw_152 : decode b_M_draw 152 = .ok (.iload_n 2, 1) := by decide +kernel
theorem d_M_draw_153 : decode b_M_draw 153 = .ok (.iload 5, 2) := by decide +kernel
theorem d_M_draw_155 : decode b_M_draw 155 = .ok (.iastore, 1) := by decide +kernel
theorem d_M_draw_156 : decode b_M_draw 156 = .ok (.aload_n 0, 1) := by decide +kernel
theorem d_M_draw_157 : decode b_M_draw 157 = .ok (.getfield 186, 3) := by decide +kernel
theorem d_M_draw_160 : decode b_M_draw 160 = .ok (.iload 4, 2) := by decide +kernel
theorem d_M_draw_162 : decode b_M_draw 162 = .ok (.if_icmp .ne 6, 3) := by decide +kernel
theorem d_M_draw_165 : decode b_M_draw 165 = .ok (.goto (-109), 3) := by decide +kernel
theorem d_M_draw_168 : decode b_M_draw 168 = .ok (.aload_n 0, 1) := by decide +kernel
theorem d_M_draw_169 : decode b_M_draw 169 = .ok (.getfield 80, 3) := by decide +kernel
theorem d_M_draw_172 : decode b_M_draw 172 = .ok (.iload_n 1, 1) := by decide +kernel
theorem d_M_draw_173 : decode b_M_draw 173 = .ok (.iconst 2, 1) := by decide +kernel
theorem d_M_draw_174 : decode b_M_draw 174 = .ok (.iload 5, 2) := by decide +kernel
theorem d_M_draw_176 : decode b_M_draw 176 = .ok (.imul, 1) := by decide +kernel
theorem d_M_draw_177 : decode b_M_draw 177 = .ok (.iconst 1, 1) := by decide +kernel
theorem d_M_draw_178 : decode b_M_draw 178 = .ok (.iadd, 1) := by decide +kernel
theorem d_M_draw_179 : decode b_M_draw 179 = .ok (.iastore, 1) := by decide +kernel
theorem d_M_draw_180 : decode b_M_draw 180 = .ok (.aload_n 0, 1) := by decide +kernel
theorem d_M_draw_181 : decode b_M_draw 181 = .ok (.getfield 80, 3) := by decide +kernel
theorem d_M_draw_184 : decode b_M_draw 184 = .ok (.iload_n 1, 1) := by decide +kernel
theorem d_M_draw_185 : decode b_M_draw 185 = .ok (.iconst 1, 1) := by decide +kernel
theorem d_M_draw_186 : decode b_M_draw 186 = .ok (.iadd, 1) := by decide +kernel
theorem d_M_draw_187 : decode b_M_draw 187 = .ok (.iconst 2, 1) := by decide +kernel
theorem d_M_draw_188 : decode b_M_draw 188 = .ok (.iload 5, 2) := by decide +kernel
theorem d_M_draw_190 : decode b_M_draw 190 = .ok (.imul, 1) := by decide +kernel
theorem d_M_draw_191 : decode b_M_draw 191 = .ok (.iastore, 1) := by decide +kernel
theorem d_M_draw_192 : decode b_M_draw 192 = .ok (.iinc 1 2, 3) := by decide +kernel
theorem d_M_draw_195 : decode b_M_draw 195 = .ok (.goto (-139), 3) := by decide +kernel
theorem d_M_draw_198 : decode b_M_draw 198 = .ok (.return_, 1) := by decide +kernel
theorem d_M_value_0 : decode b_M_value 0 = .ok (.aload_n 0, 1) := by decide +kernel
theorem d_M_value_1 : decode b_M_value 1 = .ok (.getfield 200, 3) := by decide +kernel
theorem d_M_value_4 : decode b_M_value 4 = .ok (.ifCond .eq 34, 3) := by decide +kernel
theorem d_M_value_7 : decode b_M_value 7 = .ok (.iload_n 1, 1) := by decide +kernel
theorem d_M_value_8 : decode b_M_value 8 = .ok (.iconst 0, 1) := by decide +kernel
theorem d_M_value_9 : decode b_M_value 9 = .ok (.sipush 1023, 3) := by decide +kernel
theorem d_M_value_12 : decode b_M_value 12 = .ok (.invokestatic 144, 3) := by decide +kernel
theorem d_M_value_15 : decode b_M_value 15 = .ok (.ifCond .eq 23, 3) := by decide +kernel
theorem d_M_value_18 : decode b_M_value 18 = .ok (.aload_n 0, 1) := by decide +kernel
theorem d_M_value_19 : decode b_M_value 19 = .ok (.getfield 59, 3) := by decide +kernel
theorem d_M_value_22 : decode b_M_value 22 = .ok (.iload_n 1, 1) := by decide +kernel
theorem d_M_value_23 : decode b_M_value 23 = .ok (.bipush 6, 2) := by decide +kernel
theorem d_M_value_25 : decode b_M_value 25 = .ok (.ishr, 1) := by decide +kernel
theorem d_M_value_26 : decode b_M_value 26 = .ok (.laload, 1) := by decide +kernel
theorem d_M_value_27 : decode b_M_value 27 = .ok (.iload_n 1, 1) := by decide +kernel
theorem d_M_value_28 : decode b_M_value 28 = .ok (.bipush 63, 2) := by decide +kernel
theorem d_M_value_30 : decode b_M_value 30 = .ok (.iand, 1) := by decide +kernel
theorem d_M_value_31 : decode b_M_value 31 = .ok (.lshr, 1) := by decide +kernel
theorem d_M_value_32 : decode b_M_value 32 = .ok (.lconst 1, 1) := by decide +kernel
theorem d_M_value_33 : decode b_M_value 33 = .ok (.land, 1) := by decide +kernel
theorem d_M_value_34 : decode b_M_value 34 = .ok (.l2i, 1) := by decide +kernel
theorem d_M_value_35 : decode b_M_value 35 = .ok (.goto 4, 3) := by decide +kernel
theorem d_M_value_38 : decode b_M_value 38 = .ok (.iconst (-1), 1) := by decide +kernel
theorem d_M_value_39 : decode b_M_value 39 = .ok (.ireturn, 1) := by decide +kernel
theorem d_M_ones_0 : decode b_M_ones 0 = .ok (.iconst 0, 1) := by decide +kernel
theorem d_M_ones_1 : decode b_M_ones 1 = .ok (.istore_n 2, 1) := by decide +kernel
theorem d_M_ones_2 : decode b_M_ones 2 = .ok (.lload_n 0, 1) := by decide +kernel
theorem d_M_ones_3 : decode b_M_ones 3 = .ok (.lstore_n 3, 1) := by decide +kernel
theorem d_M_ones_4 : decode b_M_ones 4 = .ok (.lload_n 3, 1) := by decide +kernel
theorem d_M_ones_5 : decode b_M_ones 5 = .ok (.lconst 0, 1) := by decide +kernel
theorem d_M_ones_6 : decode b_M_ones 6 = .ok (.lcmp, 1) := by decide +kernel
theorem d_M_ones_7 : decode b_M_ones 7 = .ok (.ifCond .eq 15, 3) := by decide +kernel
theorem d_M_ones_10 : decode b_M_ones 10 = .ok (.iinc 2 1, 3) := by decide +kernel
theorem d_M_ones_13 : decode b_M_ones 13 = .ok (.lload_n 3, 1) := by decide +kernel
theorem d_M_ones_14 : decode b_M_ones 14 = .ok (.lload_n 3, 1) := by decide +kernel
theorem d_M_ones_15 : decode b_M_ones 15 = .ok (.lconst 1, 1) := by decide +kernel
theorem d_M_ones_16 : decode b_M_ones 16 = .ok (.lsub, 1) := by decide +kernel
theorem d_M_ones_17 : decode b_M_ones 17 = .ok (.land, 1) := by decide +kernel
theorem d_M_ones_18 : decode b_M_ones 18 = .ok (.lstore_n 3, 1) := by decide +kernel
theorem d_M_ones_19 : decode b_M_ones 19 = .ok (.goto (-15), 3) := by decide +kernel
theorem d_M_ones_22 : decode b_M_ones 22 = .ok (.iload_n 2, 1) := by decide +kernel
theorem d_M_ones_23 : decode b_M_ones 23 = .ok (.ireturn, 1) := by decide +kernel
theorem d_M_graph_0 : decode b_M_graph 0 = .ok (.aload_n 0, 1) := by decide +kernel
theorem d_M_graph_1 : decode b_M_graph 1 = .ok (.getfield 200, 3) := by decide +kernel
theorem d_M_graph_4 : decode b_M_graph 4 = .ok (.ifCond .eq 17, 3) := by decide +kernel
theorem d_M_graph_7 : decode b_M_graph 7 = .ok (.iload_n 1, 1) := by decide +kernel
theorem d_M_graph_8 : decode b_M_graph 8 = .ok (.iconst 0, 1) := by decide +kernel
theorem d_M_graph_9 : decode b_M_graph 9 = .ok (.aload_n 0, 1) := by decide +kernel
theorem d_M_graph_10 : decode b_M_graph 10 = .ok (.getfield 186, 3) := by decide +kernel
theorem d_M_graph_13 : decode b_M_graph 13 = .ok (.iconst 1, 1) := by decide +kernel
theorem d_M_graph_14 : decode b_M_graph 14 = .ok (.isub, 1) := by decide +kernel
theorem d_M_graph_15 : decode b_M_graph 15 = .ok (.invokestatic 144, 3) := by decide +kernel
theorem d_M_graph_18 : decode b_M_graph 18 = .ok (.ifCond .ne 5, 3) := by decide +kernel
theorem d_M_graph_21 : decode b_M_graph 21 = .ok (.iconst (-1), 1) := by decide +kernel
theorem d_M_graph_22 : decode b_M_graph 22 = .ok (.ireturn, 1) := by decide +kernel
theorem d_M_graph_23 : decode b_M_graph 23 = .ok (.iload_n 2, 1) := by decide +kernel
theorem d_M_graph_24 : decode b_M_graph 24 = .ok (.ifCond .ne 12, 3) := by decide +kernel
theorem d_M_graph_27 : decode b_M_graph 27 = .ok (.aload_n 0, 1) := by decide +kernel
theorem d_M_graph_28 : decode b_M_graph 28 = .ok (.getfield 71, 3) := by decide +kernel
theorem d_M_graph_31 : decode b_M_graph 31 = .ok (.iload_n 1, 1) := by decide +kernel
theorem d_M_graph_32 : decode b_M_graph 32 = .ok (.iaload, 1) := by decide +kernel
theorem d_M_graph_33 : decode b_M_graph 33 = .ok (.goto 32, 3) := by decide +kernel
theorem d_M_graph_36 : decode b_M_graph 36 = .ok (.iload_n 2, 1) := by decide +kernel
theorem d_M_graph_37 : decode b_M_graph 37 = .ok (.iconst 1, 1) := by decide +kernel
theorem d_M_graph_38 : decode b_M_graph 38 = .ok (.if_icmp .ne 12, 3) := by decide +kernel
theorem d_M_graph_41 : decode b_M_graph 41 = .ok (.aload_n 0, 1) := by decide +kernel
theorem d_M_graph_42 : decode b_M_graph 42 = .ok (.getfield 74, 3) := by decide +kernel
theorem d_M_graph_45 : decode b_M_graph 45 = .ok (.iload_n 1, 1) := by decide +kernel
theorem d_M_graph_46 : decode b_M_graph 46 = .ok (.iaload, 1) := by decide +kernel
theorem d_M_graph_47 : decode b_M_graph 47 = .ok (.goto 18, 3) := by decide +kernel
theorem d_M_graph_50 : decode b_M_graph 50 = .ok (.iload_n 2, 1) := by decide +kernel
theorem d_M_graph_51 : decode b_M_graph 51 = .ok (.iconst 2, 1) := by decide +kernel
theorem d_M_graph_52 : decode b_M_graph 52 = .ok (.if_icmp .ne 12, 3) := by decide +kernel
theorem d_M_graph_55 : decode b_M_graph 55 = .ok (.aload_n 0, 1) := by decide +kernel
theorem d_M_graph_56 : decode b_M_graph 56 = .ok (.getfield 77, 3) := by decide +kernel
theorem d_M_graph_59 : decode b_M_graph 59 = .ok (.iload_n 1, 1) := by decide +kernel
theorem d_M_graph_60 : decode b_M_graph 60 = .ok (.iaload, 1) := by decide +kernel
theorem d_M_graph_61 : decode b_M_graph 61 = .ok (.goto 4, 3) := by decide +kernel
theorem d_M_graph_64 : decode b_M_graph 64 = .ok (.iconst (-1), 1) := by decide +kernel
theorem d_M_graph_65 : decode b_M_graph 65 = .ok (.ireturn, 1) := by decide +kernel
theorem d_M_product_0 : decode b_M_product 0 = .ok (.ldc2_w 168, 3) := by decide +kernel
theorem d_M_product_3 : decode b_M_product 3 = .ok (.lstore 4, 2) := by decide +kernel
theorem d_M_product_5 : decode b_M_product 5 = .ok (.iconst 1, 1) := by decide +kernel
theorem d_M_product_6 : decode b_M_product 6 = .ok (.istore 6, 2) := by decide +kernel
theorem d_M_product_8 : decode b_M_product 8 = .ok (.iload 6, 2) := by decide +kernel
theorem d_M_product_10 : decode b_M_product 10 = .ok (.aload_n 0, 1) := by decide +kernel
theorem d_M_product_11 : decode b_M_product 11 = .ok (.getfield 115, 3) := by decide +kernel
theorem d_M_product_14 : decode b_M_product 14 = .ok (.if_icmp .gt 57, 3) := by decide +kernel
theorem d_M_product_17 : decode b_M_product 17 = .ok (.aload_n 0, 1) := by decide +kernel
theorem d_M_product_18 : decode b_M_product 18 = .ok (.getfield 16, 3) := by decide +kernel
theorem d_M_product_21 : decode b_M_product 21 = .ok (.iload 6, 2) := by decide +kernel
theorem d_M_product_23 : decode b_M_product 23 = .ok (.iaload, 1) := by decide +kernel
theorem d_M_product_24 : decode b_M_product 24 = .ok (.iload_n 1, 1) := by decide +kernel
theorem d_M_product_25 : decode b_M_product 25 = .ok (.if_icmp .lt 40, 3) := by decide +kernel
theorem d_M_product_28 : decode b_M_product 28 = .ok (.aload_n 0, 1) := by decide +kernel
theorem d_M_product_29 : decode b_M_product 29 = .ok (.getfield 16, 3) := by decide +kernel
theorem d_M_product_32 : decode b_M_product 32 = .ok (.iload 6, 2) := by decide +kernel
theorem d_M_product_34 : decode b_M_product 34 = .ok (.iaload, 1) := by decide +kernel
theorem d_M_product_35 : decode b_M_product 35 = .ok (.iload_n 2, 1) := by decide +kernel
theorem d_M_product_36 : decode b_M_product 36 = .ok (.if_icmp .gt 29, 3) := by decide +kernel
theorem d_M_product_39 : decode b_M_product 39 = .ok (.aload_n 0, 1) := by decide +kernel
theorem d_M_product_40 : decode b_M_product 40 = .ok (.getfield 16, 3) := by decide +kernel
theorem d_M_product_43 : decode b_M_product 43 = .ok (.iload 6, 2) := by decide +kernel
theorem d_M_product_45 : decode b_M_product 45 = .ok (.iaload, 1) := by decide +kernel
theorem d_M_product_46 : decode b_M_product 46 = .ok (.ifCond .le 19, 3) := by decide +kernel
theorem d_M_product_49 : decode b_M_product 49 = .ok (.lload 4, 2) := by decide +kernel
theorem d_M_product_51 : decode b_M_product 51 = .ok (.aload_n 0, 1) := by decide +kernel
theorem d_M_product_52 : decode b_M_product 52 = .ok (.iload 6, 2) := by decide +kernel
theorem d_M_product_54 : decode b_M_product 54 = .ok (.iload_n 3, 1) := by decide +kernel
theorem d_M_product_55 : decode b_M_product 55 = .ok (.iconst 0, 1) := by decide +kernel
theorem d_M_product_56 : decode b_M_product 56 = .ok (.iconst 0, 1) := by decide +kernel
theorem d_M_product_57 : decode b_M_product 57 = .ok (.iconst 0, 1) := by decide +kernel
theorem d_M_product_58 : decode b_M_product 58 = .ok (.iconst 0, 1) := by decide +kernel
theorem d_M_product_59 : decode b_M_product 59 = .ok (.invokevirtual 178, 3) := by decide +kernel
theorem d_M_product_62 : decode b_M_product 62 = .ok (.land, 1) := by decide +kernel
theorem d_M_product_63 : decode b_M_product 63 = .ok (.lstore 4, 2) := by decide +kernel
theorem d_M_product_65 : decode b_M_product 65 = .ok (.iinc 6 1, 3) := by decide +kernel
theorem d_M_product_68 : decode b_M_product 68 = .ok (.goto (-60), 3) := by decide +kernel
theorem d_M_product_71 : decode b_M_product 71 = .ok (.lload 4, 2) := by decide +kernel
theorem d_M_product_73 : decode b_M_product 73 = .ok (.lreturn, 1) := by decide +kernel
theorem d_M_count_0 : decode b_M_count 0 = .ok (.iconst 0, 1) := by decide +kernel
theorem d_M_count_1 : decode b_M_count 1 = .ok (.istore_n 2, 1) := by decide +kernel
theorem d_M_count_2 : decode b_M_count 2 = .ok (.iload_n 1, 1) := by decide +kernel
theorem d_M_count_3 : decode b_M_count 3 = .ok (.tableswitch 118 0 4 #[33, 38, 43, 78, 113], 33) := by decide +kernel
theorem d_M_count_36 : decode b_M_count 36 = .ok (.aload_n 0, 1) := by decide +kernel
theorem d_M_count_37 : decode b_M_count 37 = .ok (.getfield 115, 3) := by decide +kernel
theorem d_M_count_40 : decode b_M_count 40 = .ok (.ireturn, 1) := by decide +kernel
theorem d_M_count_41 : decode b_M_count 41 = .ok (.aload_n 0, 1) := by decide +kernel
theorem d_M_count_42 : decode b_M_count 42 = .ok (.getfield 118, 3) := by decide +kernel
theorem d_M_count_45 : decode b_M_count 45 = .ok (.ireturn, 1) := by decide +kernel
theorem d_M_count_46 : decode b_M_count 46 = .ok (.iconst 1, 1) := by decide +kernel
theorem d_M_count_47 : decode b_M_count 47 = .ok (.istore_n 3, 1) := by decide +kernel
theorem d_M_count_48 : decode b_M_count 48 = .ok (.iload_n 3, 1) := by decide +kernel
theorem d_M_count_49 : decode b_M_count 49 = .ok (.aload_n 0, 1) := by decide +kernel
theorem d_M_count_50 : decode b_M_count 50 = .ok (.getfield 115, 3) := by decide +kernel
theorem d_M_count_53 : decode b_M_count 53 = .ok (.if_icmp .gt 26, 3) := by decide +kernel
theorem d_M_count_56 : decode b_M_count 56 = .ok (.iload_n 2, 1) := by decide +kernel
theorem d_M_count_57 : decode b_M_count 57 = .ok (.aload_n 0, 1) := by decide +kernel
theorem d_M_count_58 : decode b_M_count 58 = .ok (.getfield 28, 3) := by decide +kernel
theorem d_M_count_61 : decode b_M_count 61 = .ok (.iload_n 3, 1) := by decide +kernel
theorem d_M_count_62 : decode b_M_count 62 = .ok (.baload, 1) := by decide +kernel
theorem d_M_count_63 : decode b_M_count 63 = .ok (.ifCond .eq 7, 3) := by decide +kernel
theorem d_M_count_66 : decode b_M_count 66 = .ok (.iconst 1, 1) := by decide +kernel
theorem d_M_count_67 : decode b_M_count 67 = .ok (.goto 4, 3) := by decide +kernel
theorem d_M_count_70 : decode b_M_count 70 = .ok (.iconst 0, 1) := by decide +kernel
theorem d_M_count_71 : decode b_M_count 71 = .ok (.iadd, 1) := by decide +kernel
theorem d_M_count_72 : decode b_M_count 72 = .ok (.istore_n 2, 1) := by decide +kernel
theorem d_M_count_73 : decode b_M_count 73 = .ok (.iinc 3 1, 3) := by decide +kernel
theorem d_M_count_76 : decode b_M_count 76 = .ok (.goto (-28), 3) := by decide +kernel
theorem d_M_count_79 : decode b_M_count 79 = .ok (.iload_n 2, 1) := by decide +kernel
theorem d_M_count_80 : decode b_M_count 80 = .ok (.ireturn, 1) := by decide +kernel
theorem d_M_count_81 : decode b_M_count 81 = .ok (.iconst 1, 1) := by decide +kernel
theorem d_M_count_82 : decode b_M_count 82 = .ok (.istore_n 3, 1) := by decide +kernel
theorem d_M_count_83 : decode b_M_count 83 = .ok (.iload_n 3, 1) := by decide +kernel
theorem d_M_count_84 : decode b_M_count 84 = .ok (.aload_n 0, 1) := by decide +kernel
theorem d_M_count_85 : decode b_M_count 85 = .ok (.getfield 115, 3) := by decide +kernel
theorem d_M_count_88 : decode b_M_count 88 = .ok (.if_icmp .gt 26, 3) := by decide +kernel
theorem d_M_count_91 : decode b_M_count 91 = .ok (.iload_n 2, 1) := by decide +kernel
theorem d_M_count_92 : decode b_M_count 92 = .ok (.aload_n 0, 1) := by decide +kernel
theorem d_M_count_93 : decode b_M_count 93 = .ok (.getfield 32, 3) := by decide +kernel
theorem d_M_count_96 : decode b_M_count 96 = .ok (.iload_n 3, 1) := by decide +kernel
theorem d_M_count_97 : decode b_M_count 97 = .ok (.baload, 1) := by decide +kernel
theorem d_M_count_98 : decode b_M_count 98 = .ok (.ifCond .eq 7, 3) := by decide +kernel
theorem d_M_count_101 : decode b_M_count 101 = .ok (.iconst 1, 1) := by decide +kernel
theorem d_M_count_102 : decode b_M_count 102 = .ok (.goto 4, 3) := by decide +kernel
theorem d_M_count_105 : decode b_M_count 105 = .ok (.iconst 0, 1) := by decide +kernel
theorem d_M_count_106 : decode b_M_count 106 = .ok (.iadd, 1) := by decide +kernel
theorem d_M_count_107 : decode b_M_count 107 = .ok (.istore_n 2, 1) := by decide +kernel
theorem d_M_count_108 : decode b_M_count 108 = .ok (.iinc 3 1, 3) := by decide +kernel
theorem d_M_count_111 : decode b_M_count 111 = .ok (.goto (-28), 3) := by decide +kernel
theorem d_M_count_114 : decode b_M_count 114 = .ok (.iload_n 2, 1) := by decide +kernel
theorem d_M_count_115 : decode b_M_count 115 = .ok (.ireturn, 1) := by decide +kernel
theorem d_M_count_116 : decode b_M_count 116 = .ok (.aload_n 0, 1) := by decide +kernel
theorem d_M_count_117 : decode b_M_count 117 = .ok (.getfield 83, 3) := by decide +kernel
theorem d_M_count_120 : decode b_M_count 120 = .ok (.ireturn, 1) := by decide +kernel
theorem d_M_count_121 : decode b_M_count 121 = .ok (.iconst (-1), 1) := by decide +kernel
theorem d_M_count_122 : decode b_M_count 122 = .ok (.ireturn, 1) := by decide +kernel
end
section
theorem d_M_init_0 : decode b_M_init 0 = .ok (.aload_n 0, 1) := by decide +kernel
theorem d_M_init_1 : decode b_M_init 1 = .ok (.invokespecial 1, 3) := by decide +kernel
theorem d_M_init_4 : decode b_M_init 4 = .ok (.aload_n 0, 1) := by decide +kernel
theorem d_M_init_5 : decode b_M_init 5 = .ok (.sipush 202, 3) := by decide +kernel
theorem d_M_init_8 : decode b_M_init 8 = .ok (.newarray .int, 2) := by decide +kernel
theorem d_M_init_10 : decode b_M_init 10 = .ok (.putfield 7, 3) := by decide +kernel
theorem d_M_init_13 : decode b_M_init 13 = .ok (.aload_n 0, 1) := by decide +kernel
theorem d_M_init_14 : decode b_M_init 14 = .ok (.sipush 202, 3) := by decide +kernel
theorem d_M_init_17 : decode b_M_init 17 = .ok (.newarray .int, 2) := by decide +kernel
theorem d_M_init_19 : decode b_M_init 19 = .ok (.putfield 13, 3) := by decide +kernel
theorem d_M_init_22 : decode b_M_init 22 = .ok (.aload_n 0, 1) := by decide +kernel
theorem d_M_init_23 : decode b_M_init 23 = .ok (.sipush 202, 3) := by decide +kernel
theorem d_M_init_26 : decode b_M_init 26 = .ok (.newarray .int, 2) := by decide +kernel
theorem d_M_init_28 : decode b_M_init 28 = .ok (.putfield 16, 3) := by decide +kernel
theorem d_M_init_31 : decode b_M_init 31 = .ok (.aload_n 0, 1) := by decide +kernel
theorem d_M_init_32 : decode b_M_init 32 = .ok (.sipush 202, 3) := by decide +kernel
theorem d_M_init_35 : decode b_M_init 35 = .ok (.newarray .int, 2) := by decide +kernel
theorem d_M_init_37 : decode b_M_init 37 = .ok (.putfield 19, 3) := by decide +kernel
theorem d_M_init_40 : decode b_M_init 40 = .ok (.aload_n 0, 1) := by decide +kernel
theorem d_M_init_41 : decode b_M_init 41 = .ok (.sipush 202, 3) := by decide +kernel
theorem d_M_init_44 : decode b_M_init 44 = .ok (.newarray .int, 2) := by decide +kernel
theorem d_M_init_46 : decode b_M_init 46 = .ok (.putfield 22, 3) := by decide +kernel
theorem d_M_init_49 : decode b_M_init 49 = .ok (.aload_n 0, 1) := by decide +kernel
theorem d_M_init_50 : decode b_M_init 50 = .ok (.sipush 202, 3) := by decide +kernel
theorem d_M_init_53 : decode b_M_init 53 = .ok (.newarray .int, 2) := by decide +kernel
theorem d_M_init_55 : decode b_M_init 55 = .ok (.putfield 25, 3) := by decide +kernel
theorem d_M_init_58 : decode b_M_init 58 = .ok (.aload_n 0, 1) := by decide +kernel
theorem d_M_init_59 : decode b_M_init 59 = .ok (.sipush 202, 3) := by decide +kernel
theorem d_M_init_62 : decode b_M_init 62 = .ok (.newarray .boolean, 2) := by decide +kernel
theorem d_M_init_64 : decode b_M_init 64 = .ok (.putfield 28, 3) := by decide +kernel
theorem d_M_init_67 : decode b_M_init 67 = .ok (.aload_n 0, 1) := by decide +kernel
theorem d_M_init_68 : decode b_M_init 68 = .ok (.sipush 202, 3) := by decide +kernel
theorem d_M_init_71 : decode b_M_init 71 = .ok (.newarray .boolean, 2) := by decide +kernel
theorem d_M_init_73 : decode b_M_init 73 = .ok (.putfield 32, 3) := by decide +kernel
theorem d_M_init_76 : decode b_M_init 76 = .ok (.aload_n 0, 1) := by decide +kernel
theorem d_M_init_77 : decode b_M_init 77 = .ok (.iconst (-1), 1) := by decide +kernel
theorem d_M_init_78 : decode b_M_init 78 = .ok (.putfield 35, 3) := by decide +kernel
theorem d_M_init_81 : decode b_M_init 81 = .ok (.aload_n 0, 1) := by decide +kernel
theorem d_M_init_82 : decode b_M_init 82 = .ok (.bipush 11, 2) := by decide +kernel
theorem d_M_init_84 : decode b_M_init 84 = .ok (.newarray .int, 2) := by decide +kernel
theorem d_M_init_86 : decode b_M_init 86 = .ok (.putfield 39, 3) := by decide +kernel
theorem d_M_init_89 : decode b_M_init 89 = .ok (.aload_n 0, 1) := by decide +kernel
theorem d_M_init_90 : decode b_M_init 90 = .ok (.sipush 2000, 3) := by decide +kernel
theorem d_M_init_93 : decode b_M_init 93 = .ok (.newarray .byte, 2) := by decide +kernel
theorem d_M_init_95 : decode b_M_init 95 = .ok (.putfield 42, 3) := by decide +kernel
theorem d_M_init_98 : decode b_M_init 98 = .ok (.aload_n 0, 1) := by decide +kernel
theorem d_M_init_99 : decode b_M_init 99 = .ok (.iconst (-1), 1) := by decide +kernel
theorem d_M_init_100 : decode b_M_init 100 = .ok (.putfield 46, 3) := by decide +kernel
theorem d_M_init_103 : decode b_M_init 103 = .ok (.aload_n 0, 1) := by decide +kernel
theorem d_M_init_104 : decode b_M_init 104 = .ok (.sipush 3232, 3) := by decide +kernel
theorem d_M_init_107 : decode b_M_init 107 = .ok (.newarray .long, 2) := by decide +kernel
theorem d_M_init_109 : decode b_M_init 109 = .ok (.putfield 49, 3) := by decide +kernel
theorem d_M_init_112 : decode b_M_init 112 = .ok (.aload_n 0, 1) := by decide +kernel
theorem d_M_init_113 : decode b_M_init 113 = .ok (.sipush 3232, 3) := by decide +kernel
theorem d_M_init_116 : decode b_M_init 116 = .ok (.newarray .long, 2) := by decide +kernel
theorem d_M_init_118 : decode b_M_init 118 = .ok (.putfield 53, 3) := by decide +kernel
theorem d_M_init_121 : decode b_M_init 121 = .ok (.aload_n 0, 1) := by decide +kernel
theorem d_M_init_122 : decode b_M_init 122 = .ok (.sipush 202, 3) := by decide +kernel
theorem d_M_init_125 : decode b_M_init 125 = .ok (.newarray .boolean, 2) := by decide +kernel
theorem d_M_init_127 : decode b_M_init 127 = .ok (.putfield 56, 3) := by decide +kernel
theorem d_M_init_130 : decode b_M_init 130 = .ok (.aload_n 0, 1) := by decide +kernel
theorem d_M_init_131 : decode b_M_init 131 = .ok (.bipush 16, 2) := by decide +kernel
theorem d_M_init_133 : decode b_M_init 133 = .ok (.newarray .long, 2) := by decide +kernel
theorem d_M_init_135 : decode b_M_init 135 = .ok (.putfield 59, 3) := by decide +kernel
theorem d_M_init_138 : decode b_M_init 138 = .ok (.aload_n 0, 1) := by decide +kernel
theorem d_M_init_139 : decode b_M_init 139 = .ok (.bipush 16, 2) := by decide +kernel
theorem d_M_init_141 : decode b_M_init 141 = .ok (.newarray .long, 2) := by decide +kernel
theorem d_M_init_143 : decode b_M_init 143 = .ok (.putfield 62, 3) := by decide +kernel
theorem d_M_init_146 : decode b_M_init 146 = .ok (.aload_n 0, 1) := by decide +kernel
theorem d_M_init_147 : decode b_M_init 147 = .ok (.bipush 16, 2) := by decide +kernel
theorem d_M_init_149 : decode b_M_init 149 = .ok (.newarray .long, 2) := by decide +kernel
theorem d_M_init_151 : decode b_M_init 151 = .ok (.putfield 65, 3) := by decide +kernel
theorem d_M_init_154 : decode b_M_init 154 = .ok (.aload_n 0, 1) := by decide +kernel
theorem d_M_init_155 : decode b_M_init 155 = .ok (.sipush 4800, 3) := by decide +kernel
theorem d_M_init_158 : decode b_M_init 158 = .ok (.newarray .long, 2) := by decide +kernel
theorem d_M_init_160 : decode b_M_init 160 = .ok (.putfield 68, 3) := by decide +kernel
theorem d_M_init_163 : decode b_M_init 163 = .ok (.aload_n 0, 1) := by decide +kernel
theorem d_M_init_164 : decode b_M_init 164 = .ok (.sipush 300, 3) := by decide +kernel
theorem d_M_init_167 : decode b_M_init 167 = .ok (.newarray .int, 2) := by decide +kernel
theorem d_M_init_169 : decode b_M_init 169 = .ok (.putfield 71, 3) := by decide +kernel
theorem d_M_init_172 : decode b_M_init 172 = .ok (.aload_n 0, 1) := by decide +kernel
theorem d_M_init_173 : decode b_M_init 173 = .ok (.sipush 300, 3) := by decide +kernel
theorem d_M_init_176 : decode b_M_init 176 = .ok (.newarray .int, 2) := by decide +kernel
theorem d_M_init_178 : decode b_M_init 178 = .ok (.putfield 74, 3) := by decide +kernel
theorem d_M_init_181 : decode b_M_init 181 = .ok (.aload_n 0, 1) := by decide +kernel
theorem d_M_init_182 : decode b_M_init 182 = .ok (.sipush 300, 3) := by decide +kernel
theorem d_M_init_185 : decode b_M_init 185 = .ok (.newarray .int, 2) := by decide +kernel
theorem d_M_init_187 : decode b_M_init 187 = .ok (.putfield 77, 3) := by decide +kernel
theorem d_M_init_190 : decode b_M_init 190 = .ok (.aload_n 0, 1) := by decide +kernel
theorem d_M_init_191 : decode b_M_init 191 = .ok (.sipush 640, 3) := by decide +kernel
theorem d_M_init_194 : decode b_M_init 194 = .ok (.newarray .int, 2) := by decide +kernel
theorem d_M_init_196 : decode b_M_init 196 = .ok (.putfield 80, 3) := by decide +kernel
theorem d_M_init_199 : decode b_M_init 199 = .ok (.return_, 1) := by decide +kernel
theorem d_M_end__0 : decode b_M_end_ 0 = .ok (.iload_n 1, 1) := by decide +kernel
theorem d_M_end__1 : decode b_M_end_ 1 = .ok (.ifCond .lt 11, 3) := by decide +kernel
theorem d_M_end__4 : decode b_M_end_ 4 = .ok (.iload_n 1, 1) := by decide +kernel
theorem d_M_end__5 : decode b_M_end_ 5 = .ok (.aload_n 0, 1) := by decide +kernel
theorem d_M_end__6 : decode b_M_end_ 6 = .ok (.getfield 83, 3) := by decide +kernel
theorem d_M_end__9 : decode b_M_end_ 9 = .ok (.if_icmp .le 5, 3) := by decide +kernel
theorem d_M_end__12 : decode b_M_end_ 12 = .ok (.iconst (-1), 1) := by decide +kernel
theorem d_M_end__13 : decode b_M_end_ 13 = .ok (.ireturn, 1) := by decide +kernel
theorem d_M_end__14 : decode b_M_end_ 14 = .ok (.aload_n 0, 1) := by decide +kernel
theorem d_M_end__15 : decode b_M_end_ 15 = .ok (.iload_n 1, 1) := by decide +kernel
theorem d_M_end__16 : decode b_M_end_ 16 = .ok (.putfield 83, 3) := by decide +kernel
theorem d_M_end__19 : decode b_M_end_ 19 = .ok (.iload_n 1, 1) := by decide +kernel
theorem d_M_end__20 : decode b_M_end_ 20 = .ok (.ireturn, 1) := by decide +kernel
theorem d_M_cut_0 : decode b_M_cut 0 = .ok (.aload_n 0, 1) := by decide +kernel
theorem d_M_cut_1 : decode b_M_cut 1 = .ok (.getfield 86, 3) := by decide +kernel
theorem d_M_cut_4 : decode b_M_cut 4 = .ok (.istore_n 1, 1) := by decide +kernel
theorem d_M_cut_5 : decode b_M_cut 5 = .ok (.iload_n 1, 1) := by decide +kernel
theorem d_M_cut_6 : decode b_M_cut 6 = .ok (.aload_n 0, 1) := by decide +kernel
theorem d_M_cut_7 : decode b_M_cut 7 = .ok (.getfield 89, 3) := by decide +kernel
theorem d_M_cut_10 : decode b_M_cut 10 = .ok (.if_icmp .ge 31, 3) := by decide +kernel
theorem d_M_cut_13 : decode b_M_cut 13 = .ok (.aload_n 0, 1) := by decide +kernel
theorem d_M_cut_14 : decode b_M_cut 14 = .ok (.getfield 42, 3) := by decide +kernel
theorem d_M_cut_17 : decode b_M_cut 17 = .ok (.iload_n 1, 1) := by decide +kernel
theorem d_M_cut_18 : decode b_M_cut 18 = .ok (.baload, 1) := by decide +kernel
theorem d_M_cut_19 : decode b_M_cut 19 = .ok (.bipush 32, 2) := by decide +kernel
theorem d_M_cut_21 : decode b_M_cut 21 = .ok (.if_icmp .eq 14, 3) := by decide +kernel
theorem d_M_cut_24 : decode b_M_cut 24 = .ok (.aload_n 0, 1) := by decide +kernel
theorem d_M_cut_25 : decode b_M_cut 25 = .ok (.getfield 42, 3) := by decide +kernel
theorem d_M_cut_28 : decode b_M_cut 28 = .ok (.iload_n 1, 1) := by decide +kernel
theorem d_M_cut_29 : decode b_M_cut 29 = .ok (.baload, 1) := by decide +kernel
theorem d_M_cut_30 : decode b_M_cut 30 = .ok (.bipush 10, 2) := by decide +kernel
theorem d_M_cut_32 : decode b_M_cut 32 = .ok (.if_icmp .ne 9, 3) := by decide +kernel
theorem d_M_cut_35 : decode b_M_cut 35 = .ok (.iinc 1 1, 3) := by decide +kernel
theorem d_M_cut_38 : decode b_M_cut 38 = .ok (.goto (-33), 3) := by decide +kernel
theorem d_M_cut_41 : decode b_M_cut 41 = .ok (.aload_n 0, 1) := by decide +kernel
theorem d_M_cut_42 : decode b_M_cut 42 = .ok (.iload_n 1, 1) := by decide +kernel
theorem d_M_cut_43 : decode b_M_cut 43 = .ok (.putfield 92, 3) := by decide +kernel
theorem d_M_cut_46 : decode b_M_cut 46 = .ok (.iload_n 1, 1) := by decide +kernel
theorem d_M_cut_47 : decode b_M_cut 47 = .ok (.aload_n 0, 1) := by decide +kernel
theorem d_M_cut_48 : decode b_M_cut 48 = .ok (.getfield 89, 3) := by decide +kernel
theorem d_M_cut_51 : decode b_M_cut 51 = .ok (.if_icmp .ne 14, 3) := by decide +kernel
theorem d_M_cut_54 : decode b_M_cut 54 = .ok (.aload_n 0, 1) := by decide +kernel
theorem d_M_cut_55 : decode b_M_cut 55 = .ok (.iconst 2, 1) := by decide +kernel
theorem d_M_cut_56 : decode b_M_cut 56 = .ok (.putfield 95, 3) := by decide +kernel
theorem d_M_cut_59 : decode b_M_cut 59 = .ok (.aload_n 0, 1) := by decide +kernel
theorem d_M_cut_60 : decode b_M_cut 60 = .ok (.iload_n 1, 1) := by decide +kernel
theorem d_M_cut_61 : decode b_M_cut 61 = .ok (.putfield 86, 3) := by decide +kernel
theorem d_M_cut_64 : decode b_M_cut 64 = .ok (.return_, 1) := by decide +kernel
theorem d_M_cut_65 : decode b_M_cut 65 = .ok (.aload_n 0, 1) := by decide +kernel
theorem d_M_cut_66 : decode b_M_cut 66 = .ok (.getfield 42, 3) := by decide +kernel
theorem d_M_cut_69 : decode b_M_cut 69 = .ok (.iload_n 1, 1) := by decide +kernel
theorem d_M_cut_70 : decode b_M_cut 70 = .ok (.baload, 1) := by decide +kernel
theorem d_M_cut_71 : decode b_M_cut 71 = .ok (.istore_n 2, 1) := by decide +kernel
theorem d_M_cut_72 : decode b_M_cut 72 = .ok (.iload_n 2, 1) := by decide +kernel
theorem d_M_cut_73 : decode b_M_cut 73 = .ok (.invokestatic 98, 3) := by decide +kernel
theorem d_M_cut_76 : decode b_M_cut 76 = .ok (.ifCond .ne 50, 3) := by decide +kernel
theorem d_M_cut_79 : decode b_M_cut 79 = .ok (.aload_n 0, 1) := by decide +kernel
theorem d_M_cut_80 : decode b_M_cut 80 = .ok (.iload_n 1, 1) := by decide +kernel
theorem d_M_cut_81 : decode b_M_cut 81 = .ok (.iconst 1, 1) := by decide +kernel
theorem d_M_cut_82 : decode b_M_cut 82 = .ok (.iadd, 1) := by decide +kernel
theorem d_M_cut_83 : decode b_M_cut 83 = .ok (.putfield 86, 3) := by decide +kernel
theorem d_M_cut_86 : decode b_M_cut 86 = .ok (.aload_n 0, 1) := by decide +kernel
theorem d_M_cut_87 : decode b_M_cut 87 = .ok (.iload_n 2, 1) := by decide +kernel
theorem d_M_cut_88 : decode b_M_cut 88 = .ok (.bipush 99, 2) := by decide +kernel
theorem d_M_cut_90 : decode b_M_cut 90 = .ok (.if_icmp .eq 27, 3) := by decide +kernel
theorem d_M_cut_93 : decode b_M_cut 93 = .ok (.iload_n 2, 1) := by decide +kernel
theorem d_M_cut_94 : decode b_M_cut 94 = .ok (.bipush 114, 2) := by decide +kernel
theorem d_M_cut_96 : decode b_M_cut 96 = .ok (.if_icmp .eq 21, 3) := by decide +kernel
theorem d_M_cut_99 : decode b_M_cut 99 = .ok (.iload_n 2, 1) := by decide +kernel
theorem d_M_cut_100 : decode b_M_cut 100 = .ok (.bipush 58, 2) := by decide +kernel
theorem d_M_cut_102 : decode b_M_cut 102 = .ok (.if_icmp .eq 15, 3) := by decide +kernel
theorem d_M_cut_105 : decode b_M_cut 105 = .ok (.iload_n 2, 1) := by decide +kernel
theorem d_M_cut_106 : decode b_M_cut 106 = .ok (.bipush 59, 2) := by decide +kernel
theorem d_M_cut_108 : decode b_M_cut 108 = .ok (.if_icmp .eq 9, 3) := by decide +kernel
theorem d_M_cut_111 : decode b_M_cut 111 = .ok (.iload_n 2, 1) := by decide +kernel
theorem d_M_cut_112 : decode b_M_cut 112 = .ok (.bipush 45, 2) := by decide +kernel
theorem d_M_cut_114 : decode b_M_cut 114 = .ok (.if_icmp .ne 7, 3) := by decide +kernel
theorem d_M_cut_117 : decode b_M_cut 117 = .ok (.iload_n 2, 1) := by decide +kernel
theorem d_M_cut_118 : decode b_M_cut 118 = .ok (.goto 4, 3) := by decide +kernel
theorem d_M_cut_121 : decode b_M_cut 121 = .ok (.iconst 0, 1) := by decide +kernel
theorem d_M_cut_122 : decode b_M_cut 122 = .ok (.putfield 95, 3) := by decide +kernel
theorem d_M_cut_125 : decode b_M_cut 125 = .ok (.return_, 1) := by decide +kernel
theorem d_M_cut_126 : decode b_M_cut 126 = .ok (.iconst 0, 1) := by decide +kernel
theorem d_M_cut_127 : decode b_M_cut 127 = .ok (.istore_n 3, 1) := by decide +kernel
theorem d_M_cut_128 : decode b_M_cut 128 = .ok (.aload_n 0, 1) := by decide +kernel
theorem d_M_cut_129 : decode b_M_cut 129 = .ok (.iconst 0, 1) := by decide +kernel
theorem d_M_cut_130 : decode b_M_cut 130 = .ok (.putfield 102, 3) := by decide +kernel
theorem d_M_cut_133 : decode b_M_cut 133 = .ok (.iload_n 1, 1) := by decide +kernel
theorem d_M_cut_134 : decode b_M_cut 134 = .ok (.iload_n 3, 1) := by decide +kernel
theorem d_M_cut_135 : decode b_M_cut 135 = .ok (.iadd, 1) := by decide +kernel
theorem d_M_cut_136 : decode b_M_cut 136 = .ok (.aload_n 0, 1) := by decide +kernel
theorem d_M_cut_137 : decode b_M_cut 137 = .ok (.getfield 89, 3) := by decide +kernel
theorem d_M_cut_140 : decode b_M_cut 140 = .ok (.if_icmp .ge 58, 3) := by decide +kernel
theorem d_M_cut_143 : decode b_M_cut 143 = .ok (.aload_n 0, 1) := by decide +kernel
theorem d_M_cut_144 : decode b_M_cut 144 = .ok (.getfield 42, 3) := by decide +kernel
theorem d_M_cut_147 : decode b_M_cut 147 = .ok (.iload_n 1, 1) := by decide +kernel
theorem d_M_cut_148 : decode b_M_cut 148 = .ok (.iload_n 3, 1) := by decide +kernel
theorem d_M_cut_149 : decode b_M_cut 149 = .ok (.iadd, 1) := by decide +kernel
theorem d_M_cut_150 : decode b_M_cut 150 = .ok (.baload, 1) := by decide +kernel
theorem d_M_cut_151 : decode b_M_cut 151 = .ok (.invokestatic 98, 3) := by decide +kernel
theorem d_M_cut_154 : decode b_M_cut 154 = .ok (.ifCond .eq 44, 3) := by decide +kernel
theorem d_M_cut_157 : decode b_M_cut 157 = .ok (.aload_n 0, 1) := by decide +kernel
theorem d_M_cut_158 : decode b_M_cut 158 = .ok (.iload_n 3, 1) := by decide +kernel
theorem d_M_cut_159 : decode b_M_cut 159 = .ok (.iconst 3, 1) := by decide +kernel
theorem d_M_cut_160 : decode b_M_cut 160 = .ok (.if_icmp .ge 25, 3) := by decide +kernel
theorem d_M_cut_163 : decode b_M_cut 163 = .ok (.bipush 10, 2) := by decide +kernel
theorem d_M_cut_165 : decode b_M_cut 165 = .ok (.aload_n 0, 1) := by decide +kernel
theorem d_M_cut_166 : decode b_M_cut 166 = .ok (.getfield 102, 3) := by decide +kernel
theorem d_M_cut_169 : decode b_M_cut 169 = .ok (.imul, 1) := by decide +kernel
theorem d_M_cut_170 : decode b_M_cut 170 = .ok (.aload_n 0, 1) := by decide +kernel
theorem d_M_cut_171 : decode b_M_cut 171 = .ok (.getfield 42, 3) := by decide +kernel
theorem d_M_cut_174 : decode b_M_cut 174 = .ok (.iload_n 1, 1) := by decide +kernel
theorem d_M_cut_175 : decode b_M_cut 175 = .ok (.iload_n 3, 1) := by decide +kernel
theorem d_M_cut_176 : decode b_M_cut 176 = .ok (.iadd, 1) := by decide +kernel
theorem d_M_cut_177 : decode b_M_cut 177 = .ok (.baload, 1) := by decide +kernel
theorem d_M_cut_178 : decode b_M_cut 178 = .ok (.iadd, 1) := by decide +kernel
theorem d_M_cut_179 : decode b_M_cut 179 = .ok (.bipush 48, 2) := by decide +kernel
theorem d_M_cut_181 : decode b_M_cut 181 = .ok (.isub, 1) := by decide +kernel
theorem d_M_cut_182 : decode b_M_cut 182 = .ok (.goto 7, 3) := by decide +kernel
theorem d_M_cut_185 : decode b_M_cut 185 = .ok (.aload_n 0, 1) := by decide +kernel
theorem d_M_cut_186 : decode b_M_cut 186 = .ok (.getfield 102, 3) := by decide +kernel
theorem d_M_cut_189 : decode b_M_cut 189 = .ok (.putfield 102, 3) := by decide +kernel
theorem d_M_cut_192 : decode b_M_cut 192 = .ok (.iinc 3 1, 3) := by decide +kernel
theorem d_M_cut_195 : decode b_M_cut 195 = .ok (.goto (-62), 3) := by decide +kernel
theorem d_M_cut_198 : decode b_M_cut 198 = .ok (.aload_n 0, 1) := by decide +kernel
theorem d_M_cut_199 : decode b_M_cut 199 = .ok (.iload_n 1, 1) := by decide +kernel
theorem d_M_cut_200 : decode b_M_cut 200 = .ok (.iload_n 3, 1) := by decide +kernel
theorem d_M_cut_201 : decode b_M_cut 201 = .ok (.iadd, 1) := by decide +kernel
theorem d_M_cut_202 : decode b_M_cut 202 = .ok (.putfield 86, 3) := by decide +kernel
theorem d_M_cut_205 : decode b_M_cut 205 = .ok (.aload_n 0, 1) := by decide +kernel
theorem d_M_cut_206 : decode b_M_cut 206 = .ok (.iload_n 3, 1) := by decide +kernel
theorem d_M_cut_207 : decode b_M_cut 207 = .ok (.iconst 3, 1) := by decide +kernel
theorem d_M_cut_208 : decode b_M_cut 208 = .ok (.if_icmp .le 7, 3) := by decide +kernel
theorem d_M_cut_211 : decode b_M_cut 211 = .ok (.iconst 0, 1) := by decide +kernel
theorem d_M_cut_212 : decode b_M_cut 212 = .ok (.goto 4, 3) := by decide +kernel
theorem d_M_cut_215 : decode b_M_cut 215 = .ok (.iconst 1, 1) := by decide +kernel
theorem d_M_cut_216 : decode b_M_cut 216 = .ok (.putfield 95, 3) := by decide +kernel
theorem d_M_cut_219 : decode b_M_cut 219 = .ok (.return_, 1) := by decide +kernel
theorem d_M_takes_0 : decode b_M_takes 0 = .ok (.aload_n 0, 1) := by decide +kernel
theorem d_M_takes_1 : decode b_M_takes 1 = .ok (.aload_n 0, 1) := by decide +kernel
theorem d_M_takes_2 : decode b_M_takes 2 = .ok (.getfield 95, 3) := by decide +kernel
theorem d_M_takes_5 : decode b_M_takes 5 = .ok (.iload_n 1, 1) := by decide +kernel
theorem d_M_takes_6 : decode b_M_takes 6 = .ok (.if_icmp .ne 7, 3) := by decide +kernel
theorem d_M_takes_9 : decode b_M_takes 9 = .ok (.iconst 1, 1) := by decide +kernel
theorem d_M_takes_10 : decode b_M_takes 10 = .ok (.goto 4, 3) := by decide +kernel
theorem d_M_takes_13 : decode b_M_takes 13 = .ok (.iconst 0, 1) := by decide +kernel
theorem d_M_takes_14 : decode b_M_takes 14 = .ok (.iconst 1, 1) := by decide +kernel
theorem d_M_takes_15 : decode b_M_takes 15 = .ok (.invokevirtual 108, 3) := by decide +kernel
theorem d_M_takes_18 : decode b_M_takes 18 = .ok (.ifCond .ne 5, 3) := by decide +kernel
theorem d_M_takes_21 : decode b_M_takes 21 = .ok (.iconst 0, 1) := by decide +kernel
theorem d_M_takes_22 : decode b_M_takes 22 = .ok (.ireturn, 1) := by decide +kernel
theorem d_M_takes_23 : decode b_M_takes 23 = .ok (.aload_n 0, 1) := by decide +kernel
theorem d_M_takes_24 : decode b_M_takes 24 = .ok (.invokevirtual 112, 3) := by decide +kernel
theorem d_M_takes_27 : decode b_M_takes 27 = .ok (.iconst 1, 1) := by decide +kernel
theorem d_M_takes_28 : decode b_M_takes 28 = .ok (.ireturn, 1) := by decide +kernel
theorem d_M_add_0 : decode b_M_add 0 = .ok (.aload_n 0, 1) := by decide +kernel
theorem d_M_add_1 : decode b_M_add 1 = .ok (.dup, 1) := by decide +kernel
theorem d_M_add_2 : decode b_M_add 2 = .ok (.getfield 115, 3) := by decide +kernel
theorem d_M_add_5 : decode b_M_add 5 = .ok (.iconst 1, 1) := by decide +kernel
theorem d_M_add_6 : decode b_M_add 6 = .ok (.iadd, 1) := by decide +kernel
theorem d_M_add_7 : decode b_M_add 7 = .ok (.putfield 115, 3) := by decide +kernel
theorem d_M_add_10 : decode b_M_add 10 = .ok (.aload_n 0, 1) := by decide +kernel
theorem d_M_add_11 : decode b_M_add 11 = .ok (.getfield 7, 3) := by decide +kernel
theorem d_M_add_14 : decode b_M_add 14 = .ok (.aload_n 0, 1) := by decide +kernel
theorem d_M_add_15 : decode b_M_add 15 = .ok (.getfield 115, 3) := by decide +kernel
theorem d_M_add_18 : decode b_M_add 18 = .ok (.iload_n 1, 1) := by decide +kernel
theorem d_M_add_19 : decode b_M_add 19 = .ok (.iastore, 1) := by decide +kernel
theorem d_M_add_20 : decode b_M_add 20 = .ok (.aload_n 0, 1) := by decide +kernel
theorem d_M_add_21 : decode b_M_add 21 = .ok (.getfield 13, 3) := by decide +kernel
theorem d_M_add_24 : decode b_M_add 24 = .ok (.aload_n 0, 1) := by decide +kernel
theorem d_M_add_25 : decode b_M_add 25 = .ok (.getfield 115, 3) := by decide +kernel
theorem d_M_add_28 : decode b_M_add 28 = .ok (.iload_n 2, 1) := by decide +kernel
theorem d_M_add_29 : decode b_M_add 29 = .ok (.iastore, 1) := by decide +kernel
theorem d_M_add_30 : decode b_M_add 30 = .ok (.aload_n 0, 1) := by decide +kernel
theorem d_M_add_31 : decode b_M_add 31 = .ok (.getfield 16, 3) := by decide +kernel
theorem d_M_add_34 : decode b_M_add 34 = .ok (.aload_n 0, 1) := by decide +kernel
theorem d_M_add_35 : decode b_M_add 35 = .ok (.getfield 115, 3) := by decide +kernel
theorem d_M_add_38 : decode b_M_add 38 = .ok (.iload_n 3, 1) := by decide +kernel
theorem d_M_add_39 : decode b_M_add 39 = .ok (.iastore, 1) := by decide +kernel
theorem d_M_add_40 : decode b_M_add 40 = .ok (.aload_n 0, 1) := by decide +kernel
theorem d_M_add_41 : decode b_M_add 41 = .ok (.getfield 19, 3) := by decide +kernel
theorem d_M_add_44 : decode b_M_add 44 = .ok (.aload_n 0, 1) := by decide +kernel
theorem d_M_add_45 : decode b_M_add 45 = .ok (.getfield 115, 3) := by decide +kernel
theorem d_M_add_48 : decode b_M_add 48 = .ok (.iload 4, 2) := by decide +kernel
theorem d_M_add_50 : decode b_M_add 50 = .ok (.iastore, 1) := by decide +kernel
theorem d_M_add_51 : decode b_M_add 51 = .ok (.aload_n 0, 1) := by decide +kernel
theorem d_M_add_52 : decode b_M_add 52 = .ok (.getfield 22, 3) := by decide +kernel
theorem d_M_add_55 : decode b_M_add 55 = .ok (.aload_n 0, 1) := by decide +kernel
theorem d_M_add_56 : decode b_M_add 56 = .ok (.getfield 115, 3) := by decide +kernel
theorem d_M_add_59 : decode b_M_add 59 = .ok (.iload 5, 2) := by decide +kernel
theorem d_M_add_61 : decode b_M_add 61 = .ok (.iastore, 1) := by decide +kernel
theorem d_M_add_62 : decode b_M_add 62 = .ok (.aload_n 0, 1) := by decide +kernel
theorem d_M_add_63 : decode b_M_add 63 = .ok (.getfield 25, 3) := by decide +kernel
theorem d_M_add_66 : decode b_M_add 66 = .ok (.aload_n 0, 1) := by decide +kernel
theorem d_M_add_67 : decode b_M_add 67 = .ok (.getfield 115, 3) := by decide +kernel
theorem d_M_add_70 : decode b_M_add 70 = .ok (.iload 6, 2) := by decide +kernel
theorem d_M_add_72 : decode b_M_add 72 = .ok (.iastore, 1) := by decide +kernel
theorem d_M_add_73 : decode b_M_add 73 = .ok (.aload_n 0, 1) := by decide +kernel
theorem d_M_add_74 : decode b_M_add 74 = .ok (.getfield 28, 3) := by decide +kernel
theorem d_M_add_77 : decode b_M_add 77 = .ok (.aload_n 0, 1) := by decide +kernel
theorem d_M_add_78 : decode b_M_add 78 = .ok (.getfield 115, 3) := by decide +kernel
theorem d_M_add_81 : decode b_M_add 81 = .ok (.iconst 1, 1) := by decide +kernel
theorem d_M_add_82 : decode b_M_add 82 = .ok (.bastore, 1) := by decide +kernel
theorem d_M_add_83 : decode b_M_add 83 = .ok (.aload_n 0, 1) := by decide +kernel
theorem d_M_add_84 : decode b_M_add 84 = .ok (.dup, 1) := by decide +kernel
theorem d_M_add_85 : decode b_M_add 85 = .ok (.getfield 118, 3) := by decide +kernel
theorem d_M_add_88 : decode b_M_add 88 = .ok (.iload_n 3, 1) := by decide +kernel
theorem d_M_add_89 : decode b_M_add 89 = .ok (.ifCond .le 7, 3) := by decide +kernel
theorem d_M_add_92 : decode b_M_add 92 = .ok (.iconst 1, 1) := by decide +kernel
theorem d_M_add_93 : decode b_M_add 93 = .ok (.goto 4, 3) := by decide +kernel
theorem d_M_add_96 : decode b_M_add 96 = .ok (.iconst 0, 1) := by decide +kernel
theorem d_M_add_97 : decode b_M_add 97 = .ok (.iadd, 1) := by decide +kernel
theorem d_M_add_98 : decode b_M_add 98 = .ok (.putfield 118, 3) := by decide +kernel
theorem d_M_add_101 : decode b_M_add 101 = .ok (.return_, 1) := by decide +kernel
theorem d_M_clauseHere_0 : decode b_M_clauseHere 0 = .ok (.aload_n 0, 1) := by decide +kernel
theorem d_M_clauseHere_1 : decode b_M_clauseHere 1 = .ok (.aload_n 0, 1) := by decide +kernel
theorem d_M_clauseHere_2 : decode b_M_clauseHere 2 = .ok (.getfield 95, 3) := by decide +kernel
theorem d_M_clauseHere_5 : decode b_M_clauseHere 5 = .ok (.iconst 1, 1) := by decide +kernel
theorem d_M_clauseHere_6 : decode b_M_clauseHere 6 = .ok (.if_icmp .ne 7, 3) := by decide +kernel
theorem d_M_clauseHere_9 : decode b_M_clauseHere 9 = .ok (.iconst 1, 1) := by decide +kernel
theorem d_M_clauseHere_10 : decode b_M_clauseHere 10 = .ok (.goto 4, 3) := by decide +kernel
theorem d_M_clauseHere_13 : decode b_M_clauseHere 13 = .ok (.iconst 0, 1) := by decide +kernel
theorem d_M_clauseHere_14 : decode b_M_clauseHere 14 = .ok (.iconst 1, 1) := by decide +kernel
theorem d_M_clauseHere_15 : decode b_M_clauseHere 15 = .ok (.invokevirtual 108, 3) := by decide +kernel
theorem d_M_clauseHere_18 : decode b_M_clauseHere 18 = .ok (.ifCond .eq 35, 3) := by decide +kernel
theorem d_M_clauseHere_21 : decode b_M_clauseHere 21 = .ok (.aload_n 0, 1) := by decide +kernel
theorem d_M_clauseHere_22 : decode b_M_clauseHere 22 = .ok (.aload_n 0, 1) := by decide +kernel
theorem d_M_clauseHere_23 : decode b_M_clauseHere 23 = .ok (.getfield 102, 3) := by decide +kernel
theorem d_M_clauseHere_26 : decode b_M_clauseHere 26 = .ok (.iconst 1, 1) := by decide +kernel
theorem d_M_clauseHere_27 : decode b_M_clauseHere 27 = .ok (.if_icmp .lt 18, 3) := by decide +kernel
theorem d_M_clauseHere_30 : decode b_M_clauseHere 30 = .ok (.aload_n 0, 1) := by decide +kernel
theorem d_M_clauseHere_31 : decode b_M_clauseHere 31 = .ok (.getfield 102, 3) := by decide +kernel
theorem d_M_clauseHere_34 : decode b_M_clauseHere 34 = .ok (.aload_n 0, 1) := by decide +kernel
theorem d_M_clauseHere_35 : decode b_M_clauseHere 35 = .ok (.getfield 115, 3) := by decide +kernel
theorem d_M_clauseHere_38 : decode b_M_clauseHere 38 = .ok (.if_icmp .gt 7, 3) := by decide +kernel
theorem d_M_clauseHere_41 : decode b_M_clauseHere 41 = .ok (.iconst 1, 1) := by decide +kernel
theorem d_M_clauseHere_42 : decode b_M_clauseHere 42 = .ok (.goto 4, 3) := by decide +kernel
theorem d_M_clauseHere_45 : decode b_M_clauseHere 45 = .ok (.iconst 0, 1) := by decide +kernel
theorem d_M_clauseHere_46 : decode b_M_clauseHere 46 = .ok (.iconst 2, 1) := by decide +kernel
theorem d_M_clauseHere_47 : decode b_M_clauseHere 47 = .ok (.invokevirtual 108, 3) := by decide +kernel
theorem d_M_clauseHere_50 : decode b_M_clauseHere 50 = .ok (.ifCond .ne 5, 3) := by decide +kernel
theorem d_M_clauseHere_53 : decode b_M_clauseHere 53 = .ok (.iconst 0, 1) := by decide +kernel
theorem d_M_clauseHere_54 : decode b_M_clauseHere 54 = .ok (.ireturn, 1) := by decide +kernel
theorem d_M_clauseHere_55 : decode b_M_clauseHere 55 = .ok (.aload_n 0, 1) := by decide +kernel
theorem d_M_clauseHere_56 : decode b_M_clauseHere 56 = .ok (.getfield 102, 3) := by decide +kernel
theorem d_M_clauseHere_59 : decode b_M_clauseHere 59 = .ok (.istore_n 1, 1) := by decide +kernel
theorem d_M_clauseHere_60 : decode b_M_clauseHere 60 = .ok (.aload_n 0, 1) := by decide +kernel
theorem d_M_clauseHere_61 : decode b_M_clauseHere 61 = .ok (.invokevirtual 112, 3) := by decide +kernel
theorem d_M_clauseHere_64 : decode b_M_clauseHere 64 = .ok (.iload_n 1, 1) := by decide +kernel
theorem d_M_clauseHere_65 : decode b_M_clauseHere 65 = .ok (.ireturn, 1) := by decide +kernel
theorem d_M_read_0 : decode b_M_read 0 = .ok (.aload_n 0, 1) := by decide +kernel
theorem d_M_read_1 : decode b_M_read 1 = .ok (.aload_n 0, 1) := by decide +kernel
theorem d_M_read_2 : decode b_M_read 2 = .ok (.getfield 83, 3) := by decide +kernel
theorem d_M_read_5 : decode b_M_read 5 = .ok (.putfield 89, 3) := by decide +kernel
theorem d_M_read_8 : decode b_M_read 8 = .ok (.aload_n 0, 1) := by decide +kernel
theorem d_M_read_9 : decode b_M_read 9 = .ok (.iconst 0, 1) := by decide +kernel
theorem d_M_read_10 : decode b_M_read 10 = .ok (.putfield 83, 3) := by decide +kernel
theorem d_M_read_13 : decode b_M_read 13 = .ok (.aload_n 0, 1) := by decide +kernel
theorem d_M_read_14 : decode b_M_read 14 = .ok (.iconst 0, 1) := by decide +kernel
theorem d_M_read_15 : decode b_M_read 15 = .ok (.putfield 86, 3) := by decide +kernel
theorem d_M_read_18 : decode b_M_read 18 = .ok (.aload_n 0, 1) := by decide +kernel
theorem d_M_read_19 : decode b_M_read 19 = .ok (.iconst 0, 1) := by decide +kernel
theorem d_M_read_20 : decode b_M_read 20 = .ok (.putfield 105, 3) := by decide +kernel
theorem d_M_read_23 : decode b_M_read 23 = .ok (.aload_n 0, 1) := by decide +kernel
theorem d_M_read_24 : decode b_M_read 24 = .ok (.iconst (-1), 1) := by decide +kernel
theorem d_M_read_25 : decode b_M_read 25 = .ok (.putfield 46, 3) := by decide +kernel
theorem d_M_read_28 : decode b_M_read 28 = .ok (.aload_n 0, 1) := by decide +kernel
theorem d_M_read_29 : decode b_M_read 29 = .ok (.getfield 115, 3) := by decide +kernel
theorem d_M_read_32 : decode b_M_read 32 = .ok (.istore_n 1, 1) := by decide +kernel
theorem d_M_read_33 : decode b_M_read 33 = .ok (.aload_n 0, 1) := by decide +kernel
theorem d_M_read_34 : decode b_M_read 34 = .ok (.getfield 118, 3) := by decide +kernel
theorem d_M_read_37 : decode b_M_read 37 = .ok (.istore_n 2, 1) := by decide +kernel
theorem d_M_read_38 : decode b_M_read 38 = .ok (.aload_n 0, 1) := by decide +kernel
theorem d_M_read_39 : decode b_M_read 39 = .ok (.invokevirtual 112, 3) := by decide +kernel
theorem d_M_read_42 : decode b_M_read 42 = .ok (.aload_n 0, 1) := by decide +kernel
theorem d_M_read_43 : decode b_M_read 43 = .ok (.getfield 105, 3) := by decide +kernel
theorem d_M_read_46 : decode b_M_read 46 = .ok (.ifCond .ne 53, 3) := by decide +kernel
theorem d_M_read_49 : decode b_M_read 49 = .ok (.aload_n 0, 1) := by decide +kernel
theorem d_M_read_50 : decode b_M_read 50 = .ok (.getfield 95, 3) := by decide +kernel
theorem d_M_read_53 : decode b_M_read 53 = .ok (.iconst 2, 1) := by decide +kernel
theorem d_M_read_54 : decode b_M_read 54 = .ok (.if_icmp .eq 45, 3) := by decide +kernel
theorem d_M_read_57 : decode b_M_read 57 = .ok (.aload_n 0, 1) := by decide +kernel
theorem d_M_read_58 : decode b_M_read 58 = .ok (.getfield 95, 3) := by decide +kernel
theorem d_M_read_61 : decode b_M_read 61 = .ok (.bipush 99, 2) := by decide +kernel
theorem d_M_read_63 : decode b_M_read 63 = .ok (.if_icmp .ne 10, 3) := by decide +kernel
theorem d_M_read_66 : decode b_M_read 66 = .ok (.aload_n 0, 1) := by decide +kernel
theorem d_M_read_67 : decode b_M_read 67 = .ok (.invokevirtual 132, 3) := by decide +kernel
theorem d_M_read_70 : decode b_M_read 70 = .ok (.goto (-28), 3) := by decide +kernel
theorem d_M_read_73 : decode b_M_read 73 = .ok (.aload_n 0, 1) := by decide +kernel
theorem d_M_read_74 : decode b_M_read 74 = .ok (.getfield 95, 3) := by decide +kernel
theorem d_M_read_77 : decode b_M_read 77 = .ok (.bipush 114, 2) := by decide +kernel
theorem d_M_read_79 : decode b_M_read 79 = .ok (.if_icmp .ne 10, 3) := by decide +kernel
theorem d_M_read_82 : decode b_M_read 82 = .ok (.aload_n 0, 1) := by decide +kernel
theorem d_M_read_83 : decode b_M_read 83 = .ok (.invokevirtual 135, 3) := by decide +kernel
theorem d_M_read_86 : decode b_M_read 86 = .ok (.goto (-44), 3) := by decide +kernel
theorem d_M_read_89 : decode b_M_read 89 = .ok (.aload_n 0, 1) := by decide +kernel
theorem d_M_read_90 : decode b_M_read 90 = .ok (.iconst 0, 1) := by decide +kernel
theorem d_M_read_91 : decode b_M_read 91 = .ok (.iconst 1, 1) := by decide +kernel
theorem d_M_read_92 : decode b_M_read 92 = .ok (.invokevirtual 108, 3) := by decide +kernel
theorem d_M_read_95 : decode b_M_read 95 = .ok (.pop, 1) := by decide +kernel
theorem d_M_read_96 : decode b_M_read 96 = .ok (.goto (-54), 3) := by decide +kernel
theorem d_M_read_99 : decode b_M_read 99 = .ok (.aload_n 0, 1) := by decide +kernel
theorem d_M_read_100 : decode b_M_read 100 = .ok (.getfield 105, 3) := by decide +kernel
theorem d_M_read_103 : decode b_M_read 103 = .ok (.ifCond .le 15, 3) := by decide +kernel
theorem d_M_read_106 : decode b_M_read 106 = .ok (.aload_n 0, 1) := by decide +kernel
theorem d_M_read_107 : decode b_M_read 107 = .ok (.iload_n 1, 1) := by decide +kernel
theorem d_M_read_108 : decode b_M_read 108 = .ok (.putfield 115, 3) := by decide +kernel
theorem d_M_read_111 : decode b_M_read 111 = .ok (.aload_n 0, 1) := by decide +kernel
theorem d_M_read_112 : decode b_M_read 112 = .ok (.iload_n 2, 1) := by decide +kernel
theorem d_M_read_113 : decode b_M_read 113 = .ok (.putfield 118, 3) := by decide +kernel
theorem d_M_read_116 : decode b_M_read 116 = .ok (.iconst (-1), 1) := by decide +kernel
theorem d_M_read_117 : decode b_M_read 117 = .ok (.ireturn, 1) := by decide +kernel
theorem d_M_read_118 : decode b_M_read 118 = .ok (.aload_n 0, 1) := by decide +kernel
theorem d_M_read_119 : decode b_M_read 119 = .ok (.invokevirtual 138, 3) := by decide +kernel
theorem d_M_read_122 : decode b_M_read 122 = .ok (.aload_n 0, 1) := by decide +kernel
theorem d_M_read_123 : decode b_M_read 123 = .ok (.getfield 115, 3) := by decide +kernel
theorem d_M_read_126 : decode b_M_read 126 = .ok (.iload_n 1, 1) := by decide +kernel
theorem d_M_read_127 : decode b_M_read 127 = .ok (.isub, 1) := by decide +kernel
theorem d_M_read_128 : decode b_M_read 128 = .ok (.ireturn, 1) := by decide +kernel
theorem d_M_clear_0 : decode b_M_clear 0 = .ok (.aload_n 0, 1) := by decide +kernel
theorem d_M_clear_1 : decode b_M_clear 1 = .ok (.getfield 115, 3) := by decide +kernel
theorem d_M_clear_4 : decode b_M_clear 4 = .ok (.istore_n 1, 1) := by decide +kernel
theorem d_M_clear_5 : decode b_M_clear 5 = .ok (.aload_n 0, 1) := by decide +kernel
theorem d_M_clear_6 : decode b_M_clear 6 = .ok (.iconst 0, 1) := by decide +kernel
theorem d_M_clear_7 : decode b_M_clear 7 = .ok (.putfield 115, 3) := by decide +kernel
theorem d_M_clear_10 : decode b_M_clear 10 = .ok (.aload_n 0, 1) := by decide +kernel
theorem d_M_clear_11 : decode b_M_clear 11 = .ok (.iconst 0, 1) := by decide +kernel
theorem d_M_clear_12 : decode b_M_clear 12 = .ok (.putfield 118, 3) := by decide +kernel
theorem d_M_clear_15 : decode b_M_clear 15 = .ok (.iconst 0, 1) := by decide +kernel
theorem d_M_clear_16 : decode b_M_clear 16 = .ok (.istore_n 2, 1) := by decide +kernel
theorem d_M_clear_17 : decode b_M_clear 17 = .ok (.iload_n 2, 1) := by decide +kernel
theorem d_M_clear_18 : decode b_M_clear 18 = .ok (.bipush 11, 2) := by decide +kernel
theorem d_M_clear_20 : decode b_M_clear 20 = .ok (.if_icmp .ge 16, 3) := by decide +kernel
theorem d_M_clear_23 : decode b_M_clear 23 = .ok (.aload_n 0, 1) := by decide +kernel
theorem d_M_clear_24 : decode b_M_clear 24 = .ok (.getfield 39, 3) := by decide +kernel
theorem d_M_clear_27 : decode b_M_clear 27 = .ok (.iload_n 2, 1) := by decide +kernel
theorem d_M_clear_28 : decode b_M_clear 28 = .ok (.iconst 0, 1) := by decide +kernel
theorem d_M_clear_29 : decode b_M_clear 29 = .ok (.iastore, 1) := by decide +kernel
theorem d_M_clear_30 : decode b_M_clear 30 = .ok (.iinc 2 1, 3) := by decide +kernel
theorem d_M_clear_33 : decode b_M_clear 33 = .ok (.goto (-16), 3) := by decide +kernel
theorem d_M_clear_36 : decode b_M_clear 36 = .ok (.aload_n 0, 1) := by decide +kernel
theorem d_M_clear_37 : decode b_M_clear 37 = .ok (.invokevirtual 138, 3) := by decide +kernel
theorem d_M_clear_40 : decode b_M_clear 40 = .ok (.iload_n 1, 1) := by decide +kernel
theorem d_M_clear_41 : decode b_M_clear 41 = .ok (.ireturn, 1) := by decide +kernel
theorem d_M_in_0 : decode b_M_in 0 = .ok (.iload_n 0, 1) := by decide +kernel
theorem d_M_in_1 : decode b_M_in 1 = .ok (.iload_n 1, 1) := by decide +kernel
theorem d_M_in_2 : decode b_M_in 2 = .ok (.if_icmp .lt 12, 3) := by decide +kernel
theorem d_M_in_5 : decode b_M_in 5 = .ok (.iload_n 0, 1) := by decide +kernel
theorem d_M_in_6 : decode b_M_in 6 = .ok (.iload_n 2, 1) := by decide +kernel
theorem d_M_in_7 : decode b_M_in 7 = .ok (.if_icmp .gt 7, 3) := by decide +kernel
theorem d_M_in_10 : decode b_M_in 10 = .ok (.iconst 1, 1) := by decide +kernel
theorem d_M_in_11 : decode b_M_in 11 = .ok (.goto 4, 3) := by decide +kernel
theorem d_M_in_14 : decode b_M_in 14 = .ok (.iconst 0, 1) := by decide +kernel
theorem d_M_in_15 : decode b_M_in 15 = .ok (.ireturn, 1) := by decide +kernel
theorem d_M_refutation_0 : decode b_M_refutation 0 = .ok (.aload_n 0, 1) := by decide +kernel
theorem d_M_refutation_1 : decode b_M_refutation 1 = .ok (.getfield 35, 3) := by decide +kernel
theorem d_M_refutation_4 : decode b_M_refutation 4 = .ok (.ireturn, 1) := by decide +kernel
theorem d_M_eliminate_0 : decode b_M_eliminate 0 = .ok (.iload_n 1, 1) := by decide +kernel
theorem d_M_eliminate_1 : decode b_M_eliminate 1 = .ok (.iconst 1, 1) := by decide +kernel
theorem d_M_eliminate_2 : decode b_M_eliminate 2 = .ok (.bipush 10, 2) := by decide +kernel
theorem d_M_eliminate_4 : decode b_M_eliminate 4 = .ok (.invokestatic 144, 3) := by decide +kernel
theorem d_M_eliminate_7 : decode b_M_eliminate 7 = .ok (.ifCond .ne 6, 3) := by decide +kernel
theorem d_M_eliminate_10 : decode b_M_eliminate 10 = .ok (.bipush (-2), 2) := by decide +kernel
theorem d_M_eliminate_12 : decode b_M_eliminate 12 = .ok (.ireturn, 1) := by decide +kernel
theorem d_M_eliminate_13 : decode b_M_eliminate 13 = .ok (.iconst 1, 1) := by decide +kernel
theorem d_M_eliminate_14 : decode b_M_eliminate 14 = .ok (.iload_n 1, 1) := by decide +kernel
theorem d_M_eliminate_15 : decode b_M_eliminate 15 = .ok (.iconst 1, 1) := by decide +kernel
theorem d_M_eliminate_16 : decode b_M_eliminate 16 = .ok (.isub, 1) := by decide +kernel
theorem d_M_eliminate_17 : decode b_M_eliminate 17 = .ok (.ishl, 1) := by decide +kernel
theorem d_M_eliminate_18 : decode b_M_eliminate 18 = .ok (.istore_n 2, 1) := by decide +kernel
theorem d_M_eliminate_19 : decode b_M_eliminate 19 = .ok (.aload_n 0, 1) := by decide +kernel
theorem d_M_eliminate_20 : decode b_M_eliminate 20 = .ok (.getfield 115, 3) := by decide +kernel
theorem d_M_eliminate_23 : decode b_M_eliminate 23 = .ok (.istore_n 3, 1) := by decide +kernel
theorem d_M_eliminate_24 : decode b_M_eliminate 24 = .ok (.iconst 1, 1) := by decide +kernel
theorem d_M_eliminate_25 : decode b_M_eliminate 25 = .ok (.istore 4, 2) := by decide +kernel
theorem d_M_eliminate_27 : decode b_M_eliminate 27 = .ok (.iconst 1, 1) := by decide +kernel
theorem d_M_eliminate_28 : decode b_M_eliminate 28 = .ok (.istore 5, 2) := by decide +kernel
theorem d_M_eliminate_30 : decode b_M_eliminate 30 = .ok (.iload 5, 2) := by decide +kernel
theorem d_M_eliminate_32 : decode b_M_eliminate 32 = .ok (.iload_n 3, 1) := by decide +kernel
theorem d_M_eliminate_33 : decode b_M_eliminate 33 = .ok (.if_icmp .gt 184, 3) := by decide +kernel
theorem d_M_eliminate_36 : decode b_M_eliminate 36 = .ok (.iload 4, 2) := by decide +kernel
theorem d_M_eliminate_38 : decode b_M_eliminate 38 = .ok (.ifCond .eq 179, 3) := by decide +kernel
theorem d_M_eliminate_41 : decode b_M_eliminate 41 = .ok (.aload_n 0, 1) := by decide +kernel
theorem d_M_eliminate_42 : decode b_M_eliminate 42 = .ok (.getfield 28, 3) := by decide +kernel
theorem d_M_eliminate_45 : decode b_M_eliminate 45 = .ok (.iload 5, 2) := by decide +kernel
theorem d_M_eliminate_47 : decode b_M_eliminate 47 = .ok (.baload, 1) := by decide +kernel
theorem d_M_eliminate_48 : decode b_M_eliminate 48 = .ok (.ifCond .eq 163, 3) := by decide +kernel
theorem d_M_eliminate_51 : decode b_M_eliminate 51 = .ok (.aload_n 0, 1) := by decide +kernel
theorem d_M_eliminate_52 : decode b_M_eliminate 52 = .ok (.getfield 7, 3) := by decide +kernel
theorem d_M_eliminate_55 : decode b_M_eliminate 55 = .ok (.iload 5, 2) := by decide +kernel
theorem d_M_eliminate_57 : decode b_M_eliminate 57 = .ok (.iaload, 1) := by decide +kernel
theorem d_M_eliminate_58 : decode b_M_eliminate 58 = .ok (.iload_n 2, 1) := by decide +kernel
theorem d_M_eliminate_59 : decode b_M_eliminate 59 = .ok (.iand, 1) := by decide +kernel
theorem d_M_eliminate_60 : decode b_M_eliminate 60 = .ok (.ifCond .ne 6, 3) := by decide +kernel
theorem d_M_eliminate_63 : decode b_M_eliminate 63 = .ok (.goto 148, 3) := by decide +kernel
theorem d_M_eliminate_66 : decode b_M_eliminate 66 = .ok (.iconst 1, 1) := by decide +kernel
theorem d_M_eliminate_67 : decode b_M_eliminate 67 = .ok (.istore 6, 2) := by decide +kernel
theorem d_M_eliminate_69 : decode b_M_eliminate 69 = .ok (.iload 6, 2) := by decide +kernel
theorem d_M_eliminate_71 : decode b_M_eliminate 71 = .ok (.iload_n 3, 1) := by decide +kernel
theorem d_M_eliminate_72 : decode b_M_eliminate 72 = .ok (.if_icmp .gt 139, 3) := by decide +kernel
theorem d_M_eliminate_75 : decode b_M_eliminate 75 = .ok (.iload 4, 2) := by decide +kernel
theorem d_M_eliminate_77 : decode b_M_eliminate 77 = .ok (.ifCond .eq 134, 3) := by decide +kernel
theorem d_M_eliminate_80 : decode b_M_eliminate 80 = .ok (.aload_n 0, 1) := by decide +kernel
theorem d_M_eliminate_81 : decode b_M_eliminate 81 = .ok (.getfield 28, 3) := by decide +kernel
theorem d_M_eliminate_84 : decode b_M_eliminate 84 = .ok (.iload 6, 2) := by decide +kernel
theorem d_M_eliminate_86 : decode b_M_eliminate 86 = .ok (.baload, 1) := by decide +kernel
theorem d_M_eliminate_87 : decode b_M_eliminate 87 = .ok (.ifCond .eq 118, 3) := by decide +kernel
theorem d_M_eliminate_90 : decode b_M_eliminate 90 = .ok (.aload_n 0, 1) := by decide +kernel
theorem d_M_eliminate_91 : decode b_M_eliminate 91 = .ok (.getfield 13, 3) := by decide +kernel
theorem d_M_eliminate_94 : decode b_M_eliminate 94 = .ok (.iload 6, 2) := by decide +kernel
theorem d_M_eliminate_96 : decode b_M_eliminate 96 = .ok (.iaload, 1) := by decide +kernel
theorem d_M_eliminate_97 : decode b_M_eliminate 97 = .ok (.iload_n 2, 1) := by decide +kernel
theorem d_M_eliminate_98 : decode b_M_eliminate 98 = .ok (.iand, 1) := by decide +kernel
theorem d_M_eliminate_99 : decode b_M_eliminate 99 = .ok (.ifCond .ne 6, 3) := by decide +kernel
theorem d_M_eliminate_102 : decode b_M_eliminate 102 = .ok (.goto 103, 3) := by decide +kernel
theorem d_M_eliminate_105 : decode b_M_eliminate 105 = .ok (.aload_n 0, 1) := by decide +kernel
theorem d_M_eliminate_106 : decode b_M_eliminate 106 = .ok (.getfield 7, 3) := by decide +kernel
theorem d_M_eliminate_109 : decode b_M_eliminate 109 = .ok (.iload 5, 2) := by decide +kernel
theorem d_M_eliminate_111 : decode b_M_eliminate 111 = .ok (.iaload, 1) := by decide +kernel
theorem d_M_eliminate_112 : decode b_M_eliminate 112 = .ok (.iload_n 2, 1) := by decide +kernel
theorem d_M_eliminate_113 : decode b_M_eliminate 113 = .ok (.iconst (-1), 1) := by decide +kernel
theorem d_M_eliminate_114 : decode b_M_eliminate 114 = .ok (.ixor, 1) := by decide +kernel
theorem d_M_eliminate_115 : decode b_M_eliminate 115 = .ok (.iand, 1) := by decide +kernel
theorem d_M_eliminate_116 : decode b_M_eliminate 116 = .ok (.aload_n 0, 1) := by decide +kernel
theorem d_M_eliminate_117 : decode b_M_eliminate 117 = .ok (.getfield 7, 3) := by decide +kernel
theorem d_M_eliminate_120 : decode b_M_eliminate 120 = .ok (.iload 6, 2) := by decide +kernel
theorem d_M_eliminate_122 : decode b_M_eliminate 122 = .ok (.iaload, 1) := by decide +kernel
theorem d_M_eliminate_123 : decode b_M_eliminate 123 = .ok (.ior, 1) := by decide +kernel
theorem d_M_eliminate_124 : decode b_M_eliminate 124 = .ok (.istore 7, 2) := by decide +kernel
theorem d_M_eliminate_126 : decode b_M_eliminate 126 = .ok (.aload_n 0, 1) := by decide +kernel
theorem d_M_eliminate_127 : decode b_M_eliminate 127 = .ok (.getfield 13, 3) := by decide +kernel
theorem d_M_eliminate_130 : decode b_M_eliminate 130 = .ok (.iload 5, 2) := by decide +kernel
theorem d_M_eliminate_132 : decode b_M_eliminate 132 = .ok (.iaload, 1) := by decide +kernel
theorem d_M_eliminate_133 : decode b_M_eliminate 133 = .ok (.aload_n 0, 1) := by decide +kernel
theorem d_M_eliminate_134 : decode b_M_eliminate 134 = .ok (.getfield 13, 3) := by decide +kernel
theorem d_M_eliminate_137 : decode b_M_eliminate 137 = .ok (.iload 6, 2) := by decide +kernel
theorem d_M_eliminate_139 : decode b_M_eliminate 139 = .ok (.iaload, 1) := by decide +kernel
theorem d_M_eliminate_140 : decode b_M_eliminate 140 = .ok (.iload_n 2, 1) := by decide +kernel
theorem d_M_eliminate_141 : decode b_M_eliminate 141 = .ok (.iconst (-1), 1) := by decide +kernel
theorem d_M_eliminate_142 : decode b_M_eliminate 142 = .ok (.ixor, 1) := by decide +kernel
theorem d_M_eliminate_143 : decode b_M_eliminate 143 = .ok (.iand, 1) := by decide +kernel
theorem d_M_eliminate_144 : decode b_M_eliminate 144 = .ok (.ior, 1) := by decide +kernel
theorem d_M_eliminate_145 : decode b_M_eliminate 145 = .ok (.istore 8, 2) := by decide +kernel
theorem d_M_eliminate_147 : decode b_M_eliminate 147 = .ok (.iload 7, 2) := by decide +kernel
theorem d_M_eliminate_149 : decode b_M_eliminate 149 = .ok (.iload 8, 2) := by decide +kernel
theorem d_M_eliminate_151 : decode b_M_eliminate 151 = .ok (.iand, 1) := by decide +kernel
theorem d_M_eliminate_152 : decode b_M_eliminate 152 = .ok (.ifCond .ne 53, 3) := by decide +kernel
theorem d_M_eliminate_155 : decode b_M_eliminate 155 = .ok (.aload_n 0, 1) := by decide +kernel
theorem d_M_eliminate_156 : decode b_M_eliminate 156 = .ok (.iload 7, 2) := by decide +kernel
theorem d_M_eliminate_158 : decode b_M_eliminate 158 = .ok (.iload 8, 2) := by decide +kernel
theorem d_M_eliminate_160 : decode b_M_eliminate 160 = .ok (.invokevirtual 148, 3) := by decide +kernel
theorem d_M_eliminate_163 : decode b_M_eliminate 163 = .ok (.ifCond .eq 6, 3) := by decide +kernel
theorem d_M_eliminate_166 : decode b_M_eliminate 166 = .ok (.goto 39, 3) := by decide +kernel
theorem d_M_eliminate_169 : decode b_M_eliminate 169 = .ok (.aload_n 0, 1) := by decide +kernel
theorem d_M_eliminate_170 : decode b_M_eliminate 170 = .ok (.getfield 115, 3) := by decide +kernel
theorem d_M_eliminate_173 : decode b_M_eliminate 173 = .ok (.sipush 200, 3) := by decide +kernel
theorem d_M_eliminate_176 : decode b_M_eliminate 176 = .ok (.if_icmp .ge 7, 3) := by decide +kernel
theorem d_M_eliminate_179 : decode b_M_eliminate 179 = .ok (.iconst 1, 1) := by decide +kernel
theorem d_M_eliminate_180 : decode b_M_eliminate 180 = .ok (.goto 4, 3) := by decide +kernel
theorem d_M_eliminate_183 : decode b_M_eliminate 183 = .ok (.iconst 0, 1) := by decide +kernel
theorem d_M_eliminate_184 : decode b_M_eliminate 184 = .ok (.istore 4, 2) := by decide +kernel
theorem d_M_eliminate_186 : decode b_M_eliminate 186 = .ok (.iload 4, 2) := by decide +kernel
theorem d_M_eliminate_188 : decode b_M_eliminate 188 = .ok (.ifCond .eq 17, 3) := by decide +kernel
theorem d_M_eliminate_191 : decode b_M_eliminate 191 = .ok (.aload_n 0, 1) := by decide +kernel
theorem d_M_eliminate_192 : decode b_M_eliminate 192 = .ok (.iload 7, 2) := by decide +kernel
theorem d_M_eliminate_194 : decode b_M_eliminate 194 = .ok (.iload 8, 2) := by decide +kernel
theorem d_M_eliminate_196 : decode b_M_eliminate 196 = .ok (.iconst 0, 1) := by decide +kernel
theorem d_M_eliminate_197 : decode b_M_eliminate 197 = .ok (.iload 5, 2) := by decide +kernel
theorem d_M_eliminate_199 : decode b_M_eliminate 199 = .ok (.iload 6, 2) := by decide +kernel
theorem d_M_eliminate_201 : decode b_M_eliminate 201 = .ok (.iload_n 1, 1) := by decide +kernel
theorem d_M_eliminate_202 : decode b_M_eliminate 202 = .ok (.invokevirtual 124, 3) := by decide +kernel
theorem d_M_eliminate_205 : decode b_M_eliminate 205 = .ok (.iinc 6 1, 3) := by decide +kernel
theorem d_M_eliminate_208 : decode b_M_eliminate 208 = .ok (.goto (-139), 3) := by decide +kernel
theorem d_M_eliminate_211 : decode b_M_eliminate 211 = .ok (.iinc 5 1, 3) := by decide +kernel
theorem d_M_eliminate_214 : decode b_M_eliminate 214 = .ok (.goto (-184), 3) := by decide +kernel
theorem d_M_eliminate_217 : decode b_M_eliminate 217 = .ok (.iload 4, 2) := by decide +kernel
theorem d_M_eliminate_219 : decode b_M_eliminate 219 = .ok (.ifCond .ne 11, 3) := by decide +kernel
theorem d_M_eliminate_222 : decode b_M_eliminate 222 = .ok (.aload_n 0, 1) := by decide +kernel
theorem d_M_eliminate_223 : decode b_M_eliminate 223 = .ok (.iload_n 3, 1) := by decide +kernel
theorem d_M_eliminate_224 : decode b_M_eliminate 224 = .ok (.putfield 115, 3) := by decide +kernel
theorem d_M_eliminate_227 : decode b_M_eliminate 227 = .ok (.bipush (-3), 2) := by decide +kernel
theorem d_M_eliminate_229 : decode b_M_eliminate 229 = .ok (.ireturn, 1) := by decide +kernel
theorem d_M_eliminate_230 : decode b_M_eliminate 230 = .ok (.iconst 1, 1) := by decide +kernel
theorem d_M_eliminate_231 : decode b_M_eliminate 231 = .ok (.istore 5, 2) := by decide +kernel
theorem d_M_eliminate_233 : decode b_M_eliminate 233 = .ok (.iload 5, 2) := by decide +kernel
theorem d_M_eliminate_235 : decode b_M_eliminate 235 = .ok (.iload_n 3, 1) := by decide +kernel
theorem d_M_eliminate_236 : decode b_M_eliminate 236 = .ok (.if_icmp .gt 37, 3) := by decide +kernel
theorem d_M_eliminate_239 : decode b_M_eliminate 239 = .ok (.aload_n 0, 1) := by decide +kernel
theorem d_M_eliminate_240 : decode b_M_eliminate 240 = .ok (.getfield 7, 3) := by decide +kernel
theorem d_M_eliminate_243 : decode b_M_eliminate 243 = .ok (.iload 5, 2) := by decide +kernel
theorem d_M_eliminate_245 : decode b_M_eliminate 245 = .ok (.iaload, 1) := by decide +kernel
theorem d_M_eliminate_246 : decode b_M_eliminate 246 = .ok (.aload_n 0, 1) := by decide +kernel
theorem d_M_eliminate_247 : decode b_M_eliminate 247 = .ok (.getfield 13, 3) := by decide +kernel
theorem d_M_eliminate_250 : decode b_M_eliminate 250 = .ok (.iload 5, 2) := by decide +kernel
theorem d_M_eliminate_252 : decode b_M_eliminate 252 = .ok (.iaload, 1) := by decide +kernel
theorem d_M_eliminate_253 : decode b_M_eliminate 253 = .ok (.ior, 1) := by decide +kernel
theorem d_M_eliminate_254 : decode b_M_eliminate 254 = .ok (.iload_n 2, 1) := by decide +kernel
theorem d_M_eliminate_255 : decode b_M_eliminate 255 = .ok (.iand, 1) := by decide +kernel
theorem d_M_eliminate_256 : decode b_M_eliminate 256 = .ok (.ifCond .eq 11, 3) := by decide +kernel
theorem d_M_eliminate_259 : decode b_M_eliminate 259 = .ok (.aload_n 0, 1) := by decide +kernel
theorem d_M_eliminate_260 : decode b_M_eliminate 260 = .ok (.getfield 28, 3) := by decide +kernel
theorem d_M_eliminate_263 : decode b_M_eliminate 263 = .ok (.iload 5, 2) := by decide +kernel
theorem d_M_eliminate_265 : decode b_M_eliminate 265 = .ok (.iconst 0, 1) := by decide +kernel
theorem d_M_eliminate_266 : decode b_M_eliminate 266 = .ok (.bastore, 1) := by decide +kernel
theorem d_M_eliminate_267 : decode b_M_eliminate 267 = .ok (.iinc 5 1, 3) := by decide +kernel
theorem d_M_eliminate_270 : decode b_M_eliminate 270 = .ok (.goto (-37), 3) := by decide +kernel
theorem d_M_eliminate_273 : decode b_M_eliminate 273 = .ok (.aload_n 0, 1) := by decide +kernel
theorem d_M_eliminate_274 : decode b_M_eliminate 274 = .ok (.invokevirtual 138, 3) := by decide +kernel
theorem d_M_eliminate_277 : decode b_M_eliminate 277 = .ok (.aload_n 0, 1) := by decide +kernel
theorem d_M_eliminate_278 : decode b_M_eliminate 278 = .ok (.getfield 115, 3) := by decide +kernel
theorem d_M_eliminate_281 : decode b_M_eliminate 281 = .ok (.iload_n 3, 1) := by decide +kernel
theorem d_M_eliminate_282 : decode b_M_eliminate 282 = .ok (.isub, 1) := by decide +kernel
theorem d_M_eliminate_283 : decode b_M_eliminate 283 = .ok (.ireturn, 1) := by decide +kernel
theorem d_M_variablesOf_0 : decode b_M_variablesOf 0 = .ok (.iconst 0, 1) := by decide +kernel
theorem d_M_variablesOf_1 : decode b_M_variablesOf 1 = .ok (.istore_n 3, 1) := by decide +kernel
theorem d_M_variablesOf_2 : decode b_M_variablesOf 2 = .ok (.iconst 1, 1) := by decide +kernel
theorem d_M_variablesOf_3 : decode b_M_variablesOf 3 = .ok (.istore 4, 2) := by decide +kernel
theorem d_M_variablesOf_5 : decode b_M_variablesOf 5 = .ok (.iload 4, 2) := by decide +kernel
theorem d_M_variablesOf_7 : decode b_M_variablesOf 7 = .ok (.aload_n 0, 1) := by decide +kernel
theorem d_M_variablesOf_8 : decode b_M_variablesOf 8 = .ok (.getfield 115, 3) := by decide +kernel
theorem d_M_variablesOf_11 : decode b_M_variablesOf 11 = .ok (.if_icmp .gt 57, 3) := by decide +kernel
theorem d_M_variablesOf_14 : decode b_M_variablesOf 14 = .ok (.aload_n 0, 1) := by decide +kernel
theorem d_M_variablesOf_15 : decode b_M_variablesOf 15 = .ok (.getfield 16, 3) := by decide +kernel
theorem d_M_variablesOf_18 : decode b_M_variablesOf 18 = .ok (.iload 4, 2) := by decide +kernel
theorem d_M_variablesOf_20 : decode b_M_variablesOf 20 = .ok (.iaload, 1) := by decide +kernel
theorem d_M_variablesOf_21 : decode b_M_variablesOf 21 = .ok (.ifCond .le 41, 3) := by decide +kernel
theorem d_M_variablesOf_24 : decode b_M_variablesOf 24 = .ok (.aload_n 0, 1) := by decide +kernel
theorem d_M_variablesOf_25 : decode b_M_variablesOf 25 = .ok (.getfield 16, 3) := by decide +kernel
theorem d_M_variablesOf_28 : decode b_M_variablesOf 28 = .ok (.iload 4, 2) := by decide +kernel
theorem d_M_variablesOf_30 : decode b_M_variablesOf 30 = .ok (.iaload, 1) := by decide +kernel
theorem d_M_variablesOf_31 : decode b_M_variablesOf 31 = .ok (.iload_n 2, 1) := by decide +kernel
theorem d_M_variablesOf_32 : decode b_M_variablesOf 32 = .ok (.if_icmp .le 7, 3) := by decide +kernel
theorem d_M_variablesOf_35 : decode b_M_variablesOf 35 = .ok (.iconst 1, 1) := by decide +kernel
theorem d_M_variablesOf_36 : decode b_M_variablesOf 36 = .ok (.goto 4, 3) := by decide +kernel
theorem d_M_variablesOf_39 : decode b_M_variablesOf 39 = .ok (.iconst 0, 1) := by decide +kernel
theorem d_M_variablesOf_40 : decode b_M_variablesOf 40 = .ok (.iload_n 1, 1) := by decide +kernel
theorem d_M_variablesOf_41 : decode b_M_variablesOf 41 = .ok (.if_icmp .ne 21, 3) := by decide +kernel
theorem d_M_variablesOf_44 : decode b_M_variablesOf 44 = .ok (.iload_n 3, 1) := by decide +kernel
theorem d_M_variablesOf_45 : decode b_M_variablesOf 45 = .ok (.aload_n 0, 1) := by decide +kernel
theorem d_M_variablesOf_46 : decode b_M_variablesOf 46 = .ok (.getfield 7, 3) := by decide +kernel
theorem d_M_variablesOf_49 : decode b_M_variablesOf 49 = .ok (.iload 4, 2) := by decide +kernel
theorem d_M_variablesOf_51 : decode b_M_variablesOf 51 = .ok (.iaload, 1) := by decide +kernel
theorem d_M_variablesOf_52 : decode b_M_variablesOf 52 = .ok (.aload_n 0, 1) := by decide +kernel
theorem d_M_variablesOf_53 : decode b_M_variablesOf 53 = .ok (.getfield 13, 3) := by decide +kernel
theorem d_M_variablesOf_56 : decode b_M_variablesOf 56 = .ok (.iload 4, 2) := by decide +kernel
theorem d_M_variablesOf_58 : decode b_M_variablesOf 58 = .ok (.iaload, 1) := by decide +kernel
theorem d_M_variablesOf_59 : decode b_M_variablesOf 59 = .ok (.ior, 1) := by decide +kernel
theorem d_M_variablesOf_60 : decode b_M_variablesOf 60 = .ok (.ior, 1) := by decide +kernel
theorem d_M_variablesOf_61 : decode b_M_variablesOf 61 = .ok (.istore_n 3, 1) := by decide +kernel
theorem d_M_variablesOf_62 : decode b_M_variablesOf 62 = .ok (.iinc 4 1, 3) := by decide +kernel
theorem d_M_variablesOf_65 : decode b_M_variablesOf 65 = .ok (.goto (-60), 3) := by decide +kernel
theorem d_M_variablesOf_68 : decode b_M_variablesOf 68 = .ok (.iload_n 3, 1) := by decide +kernel
theorem d_M_variablesOf_69 : decode b_M_variablesOf 69 = .ok (.ireturn, 1) := by decide +kernel
theorem d_M_word_0 : decode b_M_word 0 = .ok (.iload_n 0, 1) := by decide +kernel
theorem d_M_word_1 : decode b_M_word 1 = .ok (.tableswitch 63 1 6 #[39, 43, 47, 51, 55, 59], 39) := by decide +kernel
theorem d_M_word_40 : decode b_M_word 40 = .ok (.ldc2_w 156, 3) := by decide +kernel
theorem d_M_word_43 : decode b_M_word 43 = .ok (.lreturn, 1) := by decide +kernel
theorem d_M_word_44 : decode b_M_word 44 = .ok (.ldc2_w 158, 3) := by decide +kernel
theorem d_M_word_47 : decode b_M_word 47 = .ok (.lreturn, 1) := by decide +kernel
theorem d_M_word_48 : decode b_M_word 48 = .ok (.ldc2_w 160, 3) := by decide +kernel
theorem d_M_word_51 : decode b_M_word 51 = .ok (.lreturn, 1) := by decide +kernel
theorem d_M_word_52 : decode b_M_word 52 = .ok (.ldc2_w 162, 3) := by decide +kernel
theorem d_M_word_55 : decode b_M_word 55 = .ok (.lreturn, 1) := by decide +kernel
theorem d_M_word_56 : decode b_M_word 56 = .ok (.ldc2_w 164, 3) := by decide +kernel
theorem d_M_word_59 : decode b_M_word 59 = .ok (.lreturn, 1) := by decide +kernel
theorem d_M_word_60 : decode b_M_word 60 = .ok (.ldc2_w 166, 3) := by decide +kernel
theorem d_M_word_63 : decode b_M_word 63 = .ok (.lreturn, 1) := by decide +kernel
theorem d_M_word_64 : decode b_M_word 64 = .ok (.iload_n 1, 1) := by decide +kernel
theorem d_M_word_65 : decode b_M_word 65 = .ok (.iload_n 0, 1) := by decide +kernel
theorem d_M_word_66 : decode b_M_word 66 = .ok (.bipush 7, 2) := by decide +kernel
theorem d_M_word_68 : decode b_M_word 68 = .ok (.isub, 1) := by decide +kernel
theorem d_M_word_69 : decode b_M_word 69 = .ok (.ishr, 1) := by decide +kernel
theorem d_M_word_70 : decode b_M_word 70 = .ok (.iconst 1, 1) := by decide +kernel
theorem d_M_word_71 : decode b_M_word 71 = .ok (.iand, 1) := by decide +kernel
theorem d_M_word_72 : decode b_M_word 72 = .ok (.ifCond .eq 9, 3) := by decide +kernel
theorem d_M_word_75 : decode b_M_word 75 = .ok (.ldc2_w 168, 3) := by decide +kernel
theorem d_M_word_78 : decode b_M_word 78 = .ok (.goto 4, 3) := by decide +kernel
theorem d_M_word_81 : decode b_M_word 81 = .ok (.lconst 0, 1) := by decide +kernel
theorem d_M_word_82 : decode b_M_word 82 = .ok (.lreturn, 1) := by decide +kernel
theorem d_M_sum_0 : decode b_M_sum 0 = .ok (.lconst 0, 1) := by decide +kernel
theorem d_M_sum_1 : decode b_M_sum 1 = .ok (.lstore 7, 2) := by decide +kernel
theorem d_M_sum_3 : decode b_M_sum 3 = .ok (.iconst 1, 1) := by decide +kernel
theorem d_M_sum_4 : decode b_M_sum 4 = .ok (.istore 9, 2) := by decide +kernel
theorem d_M_sum_6 : decode b_M_sum 6 = .ok (.iload 9, 2) := by decide +kernel
theorem d_M_sum_8 : decode b_M_sum 8 = .ok (.bipush 10, 2) := by decide +kernel
theorem d_M_sum_10 : decode b_M_sum 10 = .ok (.if_icmp .gt 90, 3) := by decide +kernel
theorem d_M_sum_13 : decode b_M_sum 13 = .ok (.iload_n 3, 1) := by decide +kernel
theorem d_M_sum_14 : decode b_M_sum 14 = .ok (.ifCond .eq 22, 3) := by decide +kernel
theorem d_M_sum_17 : decode b_M_sum 17 = .ok (.aload_n 0, 1) := by decide +kernel
theorem d_M_sum_18 : decode b_M_sum 18 = .ok (.iload 9, 2) := by decide +kernel
theorem d_M_sum_20 : decode b_M_sum 20 = .ok (.iload 4, 2) := by decide +kernel
theorem d_M_sum_22 : decode b_M_sum 22 = .ok (.iload 5, 2) := by decide +kernel
theorem d_M_sum_24 : decode b_M_sum 24 = .ok (.iload 6, 2) := by decide +kernel
theorem d_M_sum_26 : decode b_M_sum 26 = .ok (.invokevirtual 170, 3) := by decide +kernel
theorem d_M_sum_29 : decode b_M_sum 29 = .ok (.iload_n 3, 1) := by decide +kernel
theorem d_M_sum_30 : decode b_M_sum 30 = .ok (.if_icmp .eq 6, 3) := by decide +kernel
theorem d_M_sum_33 : decode b_M_sum 33 = .ok (.goto 61, 3) := by decide +kernel
theorem d_M_sum_36 : decode b_M_sum 36 = .ok (.aload_n 0, 1) := by decide +kernel
theorem d_M_sum_37 : decode b_M_sum 37 = .ok (.getfield 7, 3) := by decide +kernel
theorem d_M_sum_40 : decode b_M_sum 40 = .ok (.iload_n 1, 1) := by decide +kernel
theorem d_M_sum_41 : decode b_M_sum 41 = .ok (.iaload, 1) := by decide +kernel
theorem d_M_sum_42 : decode b_M_sum 42 = .ok (.iload 9, 2) := by decide +kernel
theorem d_M_sum_44 : decode b_M_sum 44 = .ok (.iconst 1, 1) := by decide +kernel
theorem d_M_sum_45 : decode b_M_sum 45 = .ok (.isub, 1) := by decide +kernel
theorem d_M_sum_46 : decode b_M_sum 46 = .ok (.ishr, 1) := by decide +kernel
theorem d_M_sum_47 : decode b_M_sum 47 = .ok (.iconst 1, 1) := by decide +kernel
theorem d_M_sum_48 : decode b_M_sum 48 = .ok (.iand, 1) := by decide +kernel
theorem d_M_sum_49 : decode b_M_sum 49 = .ok (.ifCond .eq 14, 3) := by decide +kernel
theorem d_M_sum_52 : decode b_M_sum 52 = .ok (.lload 7, 2) := by decide +kernel
theorem d_M_sum_54 : decode b_M_sum 54 = .ok (.iload 9, 2) := by decide +kernel
theorem d_M_sum_56 : decode b_M_sum 56 = .ok (.iload_n 2, 1) := by decide +kernel
theorem d_M_sum_57 : decode b_M_sum 57 = .ok (.invokestatic 174, 3) := by decide +kernel
theorem d_M_sum_60 : decode b_M_sum 60 = .ok (.lor, 1) := by decide +kernel
theorem d_M_sum_61 : decode b_M_sum 61 = .ok (.lstore 7, 2) := by decide +kernel
theorem d_M_sum_63 : decode b_M_sum 63 = .ok (.aload_n 0, 1) := by decide +kernel
theorem d_M_sum_64 : decode b_M_sum 64 = .ok (.getfield 13, 3) := by decide +kernel
theorem d_M_sum_67 : decode b_M_sum 67 = .ok (.iload_n 1, 1) := by decide +kernel
theorem d_M_sum_68 : decode b_M_sum 68 = .ok (.iaload, 1) := by decide +kernel
theorem d_M_sum_69 : decode b_M_sum 69 = .ok (.iload 9, 2) := by decide +kernel
theorem d_M_sum_71 : decode b_M_sum 71 = .ok (.iconst 1, 1) := by decide +kernel
theorem d_M_sum_72 : decode b_M_sum 72 = .ok (.isub, 1) := by decide +kernel
theorem d_M_sum_73 : decode b_M_sum 73 = .ok (.ishr, 1) := by decide +kernel
theorem d_M_sum_74 : decode b_M_sum 74 = .ok (.iconst 1, 1) := by decide +kernel
theorem d_M_sum_75 : decode b_M_sum 75 = .ok (.iand, 1) := by decide +kernel
theorem d_M_sum_76 : decode b_M_sum 76 = .ok (.ifCond .eq 18, 3) := by decide +kernel
theorem d_M_sum_79 : decode b_M_sum 79 = .ok (.lload 7, 2) := by decide +kernel
theorem d_M_sum_81 : decode b_M_sum 81 = .ok (.iload 9, 2) := by decide +kernel
theorem d_M_sum_83 : decode b_M_sum 83 = .ok (.iload_n 2, 1) := by decide +kernel
theorem d_M_sum_84 : decode b_M_sum 84 = .ok (.invokestatic 174, 3) := by decide +kernel
theorem d_M_sum_87 : decode b_M_sum 87 = .ok (.ldc2_w 168, 3) := by decide +kernel
theorem d_M_sum_90 : decode b_M_sum 90 = .ok (.lxor, 1) := by decide +kernel
theorem d_M_sum_91 : decode b_M_sum 91 = .ok (.lor, 1) := by decide +kernel
theorem d_M_sum_92 : decode b_M_sum 92 = .ok (.lstore 7, 2) := by decide +kernel
theorem d_M_sum_94 : decode b_M_sum 94 = .ok (.iinc 9 1, 3) := by decide +kernel
theorem d_M_sum_97 : decode b_M_sum 97 = .ok (.goto (-91), 3) := by decide +kernel
theorem d_M_sum_100 : decode b_M_sum 100 = .ok (.lload 7, 2) := by decide +kernel
theorem d_M_sum_102 : decode b_M_sum 102 = .ok (.lreturn, 1) := by decide +kernel
theorem d_M_side_0 : decode b_M_side 0 = .ok (.aload_n 0, 1) := by decide +kernel
theorem d_M_side_1 : decode b_M_side 1 = .ok (.getfield 71, 3) := by decide +kernel
theorem d_M_side_4 : decode b_M_side 4 = .ok (.iload_n 1, 1) := by decide +kernel
theorem d_M_side_5 : decode b_M_side 5 = .ok (.iaload, 1) := by decide +kernel
theorem d_M_side_6 : decode b_M_side 6 = .ok (.istore 4, 2) := by decide +kernel
theorem d_M_side_8 : decode b_M_side 8 = .ok (.iload 4, 2) := by decide +kernel
theorem d_M_side_10 : decode b_M_side 10 = .ok (.bipush 6, 2) := by decide +kernel
theorem d_M_side_12 : decode b_M_side 12 = .ok (.if_icmp .le 40, 3) := by decide +kernel
theorem d_M_side_15 : decode b_M_side 15 = .ok (.iconst 1, 1) := by decide +kernel
theorem d_M_side_16 : decode b_M_side 16 = .ok (.iload 4, 2) := by decide +kernel
theorem d_M_side_18 : decode b_M_side 18 = .ok (.bipush 7, 2) := by decide +kernel
theorem d_M_side_20 : decode b_M_side 20 = .ok (.isub, 1) := by decide +kernel
theorem d_M_side_21 : decode b_M_side 21 = .ok (.ishl, 1) := by decide +kernel
theorem d_M_side_22 : decode b_M_side 22 = .ok (.istore 5, 2) := by decide +kernel
theorem d_M_side_24 : decode b_M_side 24 = .ok (.aload_n 0, 1) := by decide +kernel
theorem d_M_side_25 : decode b_M_side 25 = .ok (.getfield 68, 3) := by decide +kernel
theorem d_M_side_28 : decode b_M_side 28 = .ok (.bipush 16, 2) := by decide +kernel
theorem d_M_side_30 : decode b_M_side 30 = .ok (.iload_n 1, 1) := by decide +kernel
theorem d_M_side_31 : decode b_M_side 31 = .ok (.imul, 1) := by decide +kernel
theorem d_M_side_32 : decode b_M_side 32 = .ok (.iload_n 3, 1) := by decide +kernel
theorem d_M_side_33 : decode b_M_side 33 = .ok (.ifCond .eq 10, 3) := by decide +kernel
theorem d_M_side_36 : decode b_M_side 36 = .ok (.iload_n 2, 1) := by decide +kernel
theorem d_M_side_37 : decode b_M_side 37 = .ok (.iload 5, 2) := by decide +kernel
theorem d_M_side_39 : decode b_M_side 39 = .ok (.ior, 1) := by decide +kernel
theorem d_M_side_40 : decode b_M_side 40 = .ok (.goto 9, 3) := by decide +kernel
theorem d_M_side_43 : decode b_M_side 43 = .ok (.iload_n 2, 1) := by decide +kernel
theorem d_M_side_44 : decode b_M_side 44 = .ok (.iload 5, 2) := by decide +kernel
theorem d_M_side_46 : decode b_M_side 46 = .ok (.iconst (-1), 1) := by decide +kernel
theorem d_M_side_47 : decode b_M_side 47 = .ok (.ixor, 1) := by decide +kernel
theorem d_M_side_48 : decode b_M_side 48 = .ok (.iand, 1) := by decide +kernel
theorem d_M_side_49 : decode b_M_side 49 = .ok (.iadd, 1) := by decide +kernel
theorem d_M_side_50 : decode b_M_side 50 = .ok (.laload, 1) := by decide +kernel
theorem d_M_side_51 : decode b_M_side 51 = .ok (.lreturn, 1) := by decide +kernel
theorem d_M_side_52 : decode b_M_side 52 = .ok (.iload 4, 2) := by decide +kernel
theorem d_M_side_54 : decode b_M_side 54 = .ok (.iconst 0, 1) := by decide +kernel
theorem d_M_side_55 : decode b_M_side 55 = .ok (.invokestatic 174, 3) := by decide +kernel
theorem d_M_side_58 : decode b_M_side 58 = .ok (.lstore 5, 2) := by decide +kernel
theorem d_M_side_60 : decode b_M_side 60 = .ok (.iconst 1, 1) := by decide +kernel
theorem d_M_side_61 : decode b_M_side 61 = .ok (.iload 4, 2) := by decide +kernel
theorem d_M_side_63 : decode b_M_side 63 = .ok (.iconst 1, 1) := by decide +kernel
theorem d_M_side_64 : decode b_M_side 64 = .ok (.isub, 1) := by decide +kernel
theorem d_M_side_65 : decode b_M_side 65 = .ok (.ishl, 1) := by decide +kernel
theorem d_M_side_66 : decode b_M_side 66 = .ok (.istore 7, 2) := by decide +kernel
theorem d_M_side_68 : decode b_M_side 68 = .ok (.aload_n 0, 1) := by decide +kernel
theorem d_M_side_69 : decode b_M_side 69 = .ok (.getfield 68, 3) := by decide +kernel
theorem d_M_side_72 : decode b_M_side 72 = .ok (.bipush 16, 2) := by decide +kernel
theorem d_M_side_74 : decode b_M_side 74 = .ok (.iload_n 1, 1) := by decide +kernel
theorem d_M_side_75 : decode b_M_side 75 = .ok (.imul, 1) := by decide +kernel
theorem d_M_side_76 : decode b_M_side 76 = .ok (.iload_n 2, 1) := by decide +kernel
theorem d_M_side_77 : decode b_M_side 77 = .ok (.iadd, 1) := by decide +kernel
theorem d_M_side_78 : decode b_M_side 78 = .ok (.laload, 1) := by decide +kernel
theorem d_M_side_79 : decode b_M_side 79 = .ok (.lstore 8, 2) := by decide +kernel
theorem d_M_side_81 : decode b_M_side 81 = .ok (.iload_n 3, 1) := by decide +kernel
theorem d_M_side_82 : decode b_M_side 82 = .ok (.ifCond .eq 11, 3) := by decide +kernel
theorem d_M_side_85 : decode b_M_side 85 = .ok (.lload 8, 2) := by decide +kernel
theorem d_M_side_87 : decode b_M_side 87 = .ok (.lload 5, 2) := by decide +kernel
theorem d_M_side_89 : decode b_M_side 89 = .ok (.land, 1) := by decide +kernel
theorem d_M_side_90 : decode b_M_side 90 = .ok (.goto 12, 3) := by decide +kernel
theorem d_M_side_93 : decode b_M_side 93 = .ok (.lload 8, 2) := by decide +kernel
theorem d_M_side_95 : decode b_M_side 95 = .ok (.lload 5, 2) := by decide +kernel
theorem d_M_side_97 : decode b_M_side 97 = .ok (.ldc2_w 168, 3) := by decide +kernel
theorem d_M_side_100 : decode b_M_side 100 = .ok (.lxor, 1) := by decide +kernel
theorem d_M_side_101 : decode b_M_side 101 = .ok (.land, 1) := by decide +kernel
theorem d_M_side_102 : decode b_M_side 102 = .ok (.lstore 10, 2) := by decide +kernel
theorem d_M_side_104 : decode b_M_side 104 = .ok (.iload_n 3, 1) := by decide +kernel
theorem d_M_side_105 : decode b_M_side 105 = .ok (.ifCond .eq 14, 3) := by decide +kernel
theorem d_M_side_108 : decode b_M_side 108 = .ok (.lload 10, 2) := by decide +kernel
theorem d_M_side_110 : decode b_M_side 110 = .ok (.lload 10, 2) := by decide +kernel
theorem d_M_side_112 : decode b_M_side 112 = .ok (.iload 7, 2) := by decide +kernel
theorem d_M_side_114 : decode b_M_side 114 = .ok (.lushr, 1) := by decide +kernel
theorem d_M_side_115 : decode b_M_side 115 = .ok (.lor, 1) := by decide +kernel
theorem d_M_side_116 : decode b_M_side 116 = .ok (.goto 11, 3) := by decide +kernel
theorem d_M_side_119 : decode b_M_side 119 = .ok (.lload 10, 2) := by decide +kernel
theorem d_M_side_121 : decode b_M_side 121 = .ok (.lload 10, 2) := by decide +kernel
theorem d_M_side_123 : decode b_M_side 123 = .ok (.iload 7, 2) := by decide +kernel
theorem d_M_side_125 : decode b_M_side 125 = .ok (.lshl, 1) := by decide +kernel
theorem d_M_side_126 : decode b_M_side 126 = .ok (.lor, 1) := by decide +kernel
theorem d_M_side_127 : decode b_M_side 127 = .ok (.lreturn, 1) := by decide +kernel
theorem d_M_nodeOf_0 : decode b_M_nodeOf 0 = .ok (.iconst 1, 1) := by decide +kernel
theorem d_M_nodeOf_1 : decode b_M_nodeOf 1 = .ok (.istore_n 1, 1) := by decide +kernel
theorem d_M_nodeOf_2 : decode b_M_nodeOf 2 = .ok (.iconst 1, 1) := by decide +kernel
theorem d_M_nodeOf_3 : decode b_M_nodeOf 3 = .ok (.istore_n 2, 1) := by decide +kernel
theorem d_M_nodeOf_4 : decode b_M_nodeOf 4 = .ok (.iconst 0, 1) := by decide +kernel
theorem d_M_nodeOf_5 : decode b_M_nodeOf 5 = .ok (.istore_n 3, 1) := by decide +kernel
theorem d_M_nodeOf_6 : decode b_M_nodeOf 6 = .ok (.iload_n 3, 1) := by decide +kernel
theorem d_M_nodeOf_7 : decode b_M_nodeOf 7 = .ok (.bipush 16, 2) := by decide +kernel
theorem d_M_nodeOf_9 : decode b_M_nodeOf 9 = .ok (.if_icmp .ge 53, 3) := by decide +kernel
theorem d_M_nodeOf_12 : decode b_M_nodeOf 12 = .ok (.iload_n 1, 1) := by decide +kernel
theorem d_M_nodeOf_13 : decode b_M_nodeOf 13 = .ok (.ifCond .eq 18, 3) := by decide +kernel
theorem d_M_nodeOf_16 : decode b_M_nodeOf 16 = .ok (.aload_n 0, 1) := by decide +kernel
theorem d_M_nodeOf_17 : decode b_M_nodeOf 17 = .ok (.getfield 65, 3) := by decide +kernel
theorem d_M_nodeOf_20 : decode b_M_nodeOf 20 = .ok (.iload_n 3, 1) := by decide +kernel
theorem d_M_nodeOf_21 : decode b_M_nodeOf 21 = .ok (.laload, 1) := by decide +kernel
theorem d_M_nodeOf_22 : decode b_M_nodeOf 22 = .ok (.lconst 0, 1) := by decide +kernel
theorem d_M_nodeOf_23 : decode b_M_nodeOf 23 = .ok (.lcmp, 1) := by decide +kernel
theorem d_M_nodeOf_24 : decode b_M_nodeOf 24 = .ok (.ifCond .ne 7, 3) := by decide +kernel
theorem d_M_nodeOf_27 : decode b_M_nodeOf 27 = .ok (.iconst 1, 1) := by decide +kernel
theorem d_M_nodeOf_28 : decode b_M_nodeOf 28 = .ok (.goto 4, 3) := by decide +kernel
theorem d_M_nodeOf_31 : decode b_M_nodeOf 31 = .ok (.iconst 0, 1) := by decide +kernel
theorem d_M_nodeOf_32 : decode b_M_nodeOf 32 = .ok (.istore_n 1, 1) := by decide +kernel
theorem d_M_nodeOf_33 : decode b_M_nodeOf 33 = .ok (.iload_n 2, 1) := by decide +kernel
theorem d_M_nodeOf_34 : decode b_M_nodeOf 34 = .ok (.ifCond .eq 20, 3) := by decide +kernel
theorem d_M_nodeOf_37 : decode b_M_nodeOf 37 = .ok (.aload_n 0, 1) := by decide +kernel
theorem d_M_nodeOf_38 : decode b_M_nodeOf 38 = .ok (.getfield 65, 3) := by decide +kernel
theorem d_M_nodeOf_41 : decode b_M_nodeOf 41 = .ok (.iload_n 3, 1) := by decide +kernel
theorem d_M_nodeOf_42 : decode b_M_nodeOf 42 = .ok (.laload, 1) := by decide +kernel
theorem d_M_nodeOf_43 : decode b_M_nodeOf 43 = .ok (.ldc2_w 168, 3) := by decide +kernel
theorem d_M_nodeOf_46 : decode b_M_nodeOf 46 = .ok (.lcmp, 1) := by decide +kernel
theorem d_M_nodeOf_47 : decode b_M_nodeOf 47 = .ok (.ifCond .ne 7, 3) := by decide +kernel
theorem d_M_nodeOf_50 : decode b_M_nodeOf 50 = .ok (.iconst 1, 1) := by decide +kernel
theorem d_M_nodeOf_51 : decode b_M_nodeOf 51 = .ok (.goto 4, 3) := by decide +kernel
theorem d_M_nodeOf_54 : decode b_M_nodeOf 54 = .ok (.iconst 0, 1) := by decide +kernel
theorem d_M_nodeOf_55 : decode b_M_nodeOf 55 = .ok (.istore_n 2, 1) := by decide +kernel
theorem d_M_nodeOf_56 : decode b_M_nodeOf 56 = .ok (.iinc 3 1, 3) := by decide +kernel
theorem d_M_nodeOf_59 : decode b_M_nodeOf 59 = .ok (.goto (-53), 3) := by decide +kernel
theorem d_M_nodeOf_62 : decode b_M_nodeOf 62 = .ok (.iload_n 1, 1) := by decide +kernel
theorem d_M_nodeOf_63 : decode b_M_nodeOf 63 = .ok (.ifCond .ne 7, 3) := by decide +kernel
theorem d_M_nodeOf_66 : decode b_M_nodeOf 66 = .ok (.iload_n 2, 1) := by decide +kernel
theorem d_M_nodeOf_67 : decode b_M_nodeOf 67 = .ok (.ifCond .eq 15, 3) := by decide +kernel
theorem d_M_nodeOf_70 : decode b_M_nodeOf 70 = .ok (.iload_n 1, 1) := by decide +kernel
theorem d_M_nodeOf_71 : decode b_M_nodeOf 71 = .ok (.ifCond .eq 8, 3) := by decide +kernel
theorem d_M_nodeOf_74 : decode b_M_nodeOf 74 = .ok (.bipush (-2), 2) := by decide +kernel
theorem d_M_nodeOf_76 : decode b_M_nodeOf 76 = .ok (.goto 5, 3) := by decide +kernel
theorem d_M_nodeOf_79 : decode b_M_nodeOf 79 = .ok (.bipush (-3), 2) := by decide +kernel
theorem d_M_nodeOf_81 : decode b_M_nodeOf 81 = .ok (.ireturn, 1) := by decide +kernel
theorem d_M_nodeOf_82 : decode b_M_nodeOf 82 = .ok (.iconst 0, 1) := by decide +kernel
theorem d_M_nodeOf_83 : decode b_M_nodeOf 83 = .ok (.istore_n 3, 1) := by decide +kernel
theorem d_M_nodeOf_84 : decode b_M_nodeOf 84 = .ok (.iload_n 3, 1) := by decide +kernel
theorem d_M_nodeOf_85 : decode b_M_nodeOf 85 = .ok (.aload_n 0, 1) := by decide +kernel
theorem d_M_nodeOf_86 : decode b_M_nodeOf 86 = .ok (.getfield 186, 3) := by decide +kernel
theorem d_M_nodeOf_89 : decode b_M_nodeOf 89 = .ok (.if_icmp .ge 70, 3) := by decide +kernel
theorem d_M_nodeOf_92 : decode b_M_nodeOf 92 = .ok (.iconst 1, 1) := by decide +kernel
theorem d_M_nodeOf_93 : decode b_M_nodeOf 93 = .ok (.istore 4, 2) := by decide +kernel
theorem d_M_nodeOf_95 : decode b_M_nodeOf 95 = .ok (.iconst 0, 1) := by decide +kernel
theorem d_M_nodeOf_96 : decode b_M_nodeOf 96 = .ok (.istore 5, 2) := by decide +kernel
theorem d_M_nodeOf_98 : decode b_M_nodeOf 98 = .ok (.iload 5, 2) := by decide +kernel
theorem d_M_nodeOf_100 : decode b_M_nodeOf 100 = .ok (.bipush 16, 2) := by decide +kernel
theorem d_M_nodeOf_102 : decode b_M_nodeOf 102 = .ok (.if_icmp .ge 44, 3) := by decide +kernel
theorem d_M_nodeOf_105 : decode b_M_nodeOf 105 = .ok (.iload 4, 2) := by decide +kernel
theorem d_M_nodeOf_107 : decode b_M_nodeOf 107 = .ok (.ifCond .eq 30, 3) := by decide +kernel
theorem d_M_nodeOf_110 : decode b_M_nodeOf 110 = .ok (.aload_n 0, 1) := by decide +kernel
theorem d_M_nodeOf_111 : decode b_M_nodeOf 111 = .ok (.getfield 68, 3) := by decide +kernel
theorem d_M_nodeOf_114 : decode b_M_nodeOf 114 = .ok (.bipush 16, 2) := by decide +kernel
theorem d_M_nodeOf_116 : decode b_M_nodeOf 116 = .ok (.iload_n 3, 1) := by decide +kernel
theorem d_M_nodeOf_117 : decode b_M_nodeOf 117 = .ok (.imul, 1) := by decide +kernel
theorem d_M_nodeOf_118 : decode b_M_nodeOf 118 = .ok (.iload 5, 2) := by decide +kernel
theorem d_M_nodeOf_120 : decode b_M_nodeOf 120 = .ok (.iadd, 1) := by decide +kernel
theorem d_M_nodeOf_121 : decode b_M_nodeOf 121 = .ok (.laload, 1) := by decide +kernel
theorem d_M_nodeOf_122 : decode b_M_nodeOf 122 = .ok (.aload_n 0, 1) := by decide +kernel
theorem d_M_nodeOf_123 : decode b_M_nodeOf 123 = .ok (.getfield 65, 3) := by decide +kernel
theorem d_M_nodeOf_126 : decode b_M_nodeOf 126 = .ok (.iload 5, 2) := by decide +kernel
theorem d_M_nodeOf_128 : decode b_M_nodeOf 128 = .ok (.laload, 1) := by decide +kernel
theorem d_M_nodeOf_129 : decode b_M_nodeOf 129 = .ok (.lcmp, 1) := by decide +kernel
theorem d_M_nodeOf_130 : decode b_M_nodeOf 130 = .ok (.ifCond .ne 7, 3) := by decide +kernel
theorem d_M_nodeOf_133 : decode b_M_nodeOf 133 = .ok (.iconst 1, 1) := by decide +kernel
theorem d_M_nodeOf_134 : decode b_M_nodeOf 134 = .ok (.goto 4, 3) := by decide +kernel
theorem d_M_nodeOf_137 : decode b_M_nodeOf 137 = .ok (.iconst 0, 1) := by decide +kernel
theorem d_M_nodeOf_138 : decode b_M_nodeOf 138 = .ok (.istore 4, 2) := by decide +kernel
theorem d_M_nodeOf_140 : decode b_M_nodeOf 140 = .ok (.iinc 5 1, 3) := by decide +kernel
theorem d_M_nodeOf_143 : decode b_M_nodeOf 143 = .ok (.goto (-45), 3) := by decide +kernel
theorem d_M_nodeOf_146 : decode b_M_nodeOf 146 = .ok (.iload 4, 2) := by decide +kernel
theorem d_M_nodeOf_148 : decode b_M_nodeOf 148 = .ok (.ifCond .eq 5, 3) := by decide +kernel
theorem d_M_nodeOf_151 : decode b_M_nodeOf 151 = .ok (.iload_n 3, 1) := by decide +kernel
theorem d_M_nodeOf_152 : decode b_M_nodeOf 152 = .ok (.ireturn, 1) := by decide +kernel
theorem d_M_nodeOf_153 : decode b_M_nodeOf 153 = .ok (.iinc 3 1, 3) := by decide +kernel
theorem d_M_nodeOf_156 : decode b_M_nodeOf 156 = .ok (.goto (-72), 3) := by decide +kernel
theorem d_M_nodeOf_159 : decode b_M_nodeOf 159 = .ok (.iconst 0, 1) := by decide +kernel
theorem d_M_nodeOf_160 : decode b_M_nodeOf 160 = .ok (.istore_n 3, 1) := by decide +kernel
theorem d_M_nodeOf_161 : decode b_M_nodeOf 161 = .ok (.iload_n 3, 1) := by decide +kernel
theorem d_M_nodeOf_162 : decode b_M_nodeOf 162 = .ok (.bipush 16, 2) := by decide +kernel
theorem d_M_nodeOf_164 : decode b_M_nodeOf 164 = .ok (.if_icmp .ge 29, 3) := by decide +kernel
theorem d_M_nodeOf_167 : decode b_M_nodeOf 167 = .ok (.aload_n 0, 1) := by decide +kernel
theorem d_M_nodeOf_168 : decode b_M_nodeOf 168 = .ok (.getfield 68, 3) := by decide +kernel
theorem d_M_nodeOf_171 : decode b_M_nodeOf 171 = .ok (.bipush 16, 2) := by decide +kernel
theorem d_M_nodeOf_173 : decode b_M_nodeOf 173 = .ok (.aload_n 0, 1) := by decide +kernel
theorem d_M_nodeOf_174 : decode b_M_nodeOf 174 = .ok (.getfield 186, 3) := by decide +kernel
theorem d_M_nodeOf_177 : decode b_M_nodeOf 177 = .ok (.imul, 1) := by decide +kernel
theorem d_M_nodeOf_178 : decode b_M_nodeOf 178 = .ok (.iload_n 3, 1) := by decide +kernel
theorem d_M_nodeOf_179 : decode b_M_nodeOf 179 = .ok (.iadd, 1) := by decide +kernel
theorem d_M_nodeOf_180 : decode b_M_nodeOf 180 = .ok (.aload_n 0, 1) := by decide +kernel
theorem d_M_nodeOf_181 : decode b_M_nodeOf 181 = .ok (.getfield 65, 3) := by decide +kernel
theorem d_M_nodeOf_184 : decode b_M_nodeOf 184 = .ok (.iload_n 3, 1) := by decide +kernel
theorem d_M_nodeOf_185 : decode b_M_nodeOf 185 = .ok (.laload, 1) := by decide +kernel
theorem d_M_nodeOf_186 : decode b_M_nodeOf 186 = .ok (.lastore, 1) := by decide +kernel
theorem d_M_nodeOf_187 : decode b_M_nodeOf 187 = .ok (.iinc 3 1, 3) := by decide +kernel
theorem d_M_nodeOf_190 : decode b_M_nodeOf 190 = .ok (.goto (-29), 3) := by decide +kernel
theorem d_M_nodeOf_193 : decode b_M_nodeOf 193 = .ok (.aload_n 0, 1) := by decide +kernel
theorem d_M_nodeOf_194 : decode b_M_nodeOf 194 = .ok (.dup, 1) := by decide +kernel
theorem d_M_nodeOf_195 : decode b_M_nodeOf 195 = .ok (.getfield 186, 3) := by decide +kernel
theorem d_M_nodeOf_198 : decode b_M_nodeOf 198 = .ok (.iconst 1, 1) := by decide +kernel
theorem d_M_nodeOf_199 : decode b_M_nodeOf 199 = .ok (.iadd, 1) := by decide +kernel
theorem d_M_nodeOf_200 : decode b_M_nodeOf 200 = .ok (.putfield 186, 3) := by decide +kernel
theorem d_M_nodeOf_203 : decode b_M_nodeOf 203 = .ok (.aload_n 0, 1) := by decide +kernel
theorem d_M_nodeOf_204 : decode b_M_nodeOf 204 = .ok (.aload_n 0, 1) := by decide +kernel
theorem d_M_nodeOf_205 : decode b_M_nodeOf 205 = .ok (.getfield 186, 3) := by decide +kernel
theorem d_M_nodeOf_208 : decode b_M_nodeOf 208 = .ok (.iconst 1, 1) := by decide +kernel
theorem d_M_nodeOf_209 : decode b_M_nodeOf 209 = .ok (.isub, 1) := by decide +kernel
theorem d_M_nodeOf_210 : decode b_M_nodeOf 210 = .ok (.invokevirtual 189, 3) := by decide +kernel
theorem d_M_nodeOf_213 : decode b_M_nodeOf 213 = .ok (.pop, 1) := by decide +kernel
theorem d_M_nodeOf_214 : decode b_M_nodeOf 214 = .ok (.aload_n 0, 1) := by decide +kernel
theorem d_M_nodeOf_215 : decode b_M_nodeOf 215 = .ok (.getfield 186, 3) := by decide +kernel
theorem d_M_nodeOf_218 : decode b_M_nodeOf 218 = .ok (.iconst 1, 1) := by decide +kernel
theorem d_M_nodeOf_219 : decode b_M_nodeOf 219 = .ok (.isub, 1) := by decide +kernel
theorem d_M_nodeOf_220 : decode b_M_nodeOf 220 = .ok (.ireturn, 1) := by decide +kernel
theorem d_M_interpolate_0 : decode b_M_interpolate 0 = .ok (.iload_n 1, 1) := by decide +kernel
theorem d_M_interpolate_1 : decode b_M_interpolate 1 = .ok (.iconst 1, 1) := by decide +kernel
theorem d_M_interpolate_2 : decode b_M_interpolate 2 = .ok (.bipush 7, 2) := by decide +kernel
theorem d_M_interpolate_4 : decode b_M_interpolate 4 = .ok (.invokestatic 144, 3) := by decide +kernel
theorem d_M_interpolate_7 : decode b_M_interpolate 7 = .ok (.ifCond .eq 12, 3) := by decide +kernel
theorem d_M_interpolate_10 : decode b_M_interpolate 10 = .ok (.iload_n 2, 1) := by decide +kernel
theorem d_M_interpolate_11 : decode b_M_interpolate 11 = .ok (.iconst 0, 1) := by decide +kernel
theorem d_M_interpolate_12 : decode b_M_interpolate 12 = .ok (.iconst 3, 1) := by decide +kernel
theorem d_M_interpolate_13 : decode b_M_interpolate 13 = .ok (.invokestatic 144, 3) := by decide +kernel
theorem d_M_interpolate_16 : decode b_M_interpolate 16 = .ok (.ifCond .ne 6, 3) := by decide +kernel
theorem d_M_interpolate_19 : decode b_M_interpolate 19 = .ok (.bipush (-2), 2) := by decide +kernel
theorem d_M_interpolate_21 : decode b_M_interpolate 21 = .ok (.ireturn, 1) := by decide +kernel
theorem d_M_interpolate_22 : decode b_M_interpolate 22 = .ok (.aload_n 0, 1) := by decide +kernel
theorem d_M_interpolate_23 : decode b_M_interpolate 23 = .ok (.getfield 35, 3) := by decide +kernel
theorem d_M_interpolate_26 : decode b_M_interpolate 26 = .ok (.iconst (-1), 1) := by decide +kernel
theorem d_M_interpolate_27 : decode b_M_interpolate 27 = .ok (.if_icmp .ne 5, 3) := by decide +kernel
theorem d_M_interpolate_30 : decode b_M_interpolate 30 = .ok (.iconst (-1), 1) := by decide +kernel
theorem d_M_interpolate_31 : decode b_M_interpolate 31 = .ok (.ireturn, 1) := by decide +kernel
theorem d_M_interpolate_32 : decode b_M_interpolate 32 = .ok (.aload_n 0, 1) := by decide +kernel
theorem d_M_interpolate_33 : decode b_M_interpolate 33 = .ok (.iload_n 1, 1) := by decide +kernel
theorem d_M_interpolate_34 : decode b_M_interpolate 34 = .ok (.iload_n 2, 1) := by decide +kernel
theorem d_M_interpolate_35 : decode b_M_interpolate 35 = .ok (.invokevirtual 196, 3) := by decide +kernel
theorem d_M_interpolate_38 : decode b_M_interpolate 38 = .ok (.iconst 0, 1) := by decide +kernel
theorem d_M_interpolate_39 : decode b_M_interpolate 39 = .ok (.istore_n 3, 1) := by decide +kernel
theorem d_M_interpolate_40 : decode b_M_interpolate 40 = .ok (.iload_n 3, 1) := by decide +kernel
theorem d_M_interpolate_41 : decode b_M_interpolate 41 = .ok (.sipush 202, 3) := by decide +kernel
theorem d_M_interpolate_44 : decode b_M_interpolate 44 = .ok (.if_icmp .ge 77, 3) := by decide +kernel
theorem d_M_interpolate_47 : decode b_M_interpolate 47 = .ok (.aload_n 0, 1) := by decide +kernel
theorem d_M_interpolate_48 : decode b_M_interpolate 48 = .ok (.getfield 56, 3) := by decide +kernel
theorem d_M_interpolate_51 : decode b_M_interpolate 51 = .ok (.iload_n 3, 1) := by decide +kernel
theorem d_M_interpolate_52 : decode b_M_interpolate 52 = .ok (.iload_n 3, 1) := by decide +kernel
theorem d_M_interpolate_53 : decode b_M_interpolate 53 = .ok (.aload_n 0, 1) := by decide +kernel
theorem d_M_interpolate_54 : decode b_M_interpolate 54 = .ok (.getfield 115, 3) := by decide +kernel
theorem d_M_interpolate_57 : decode b_M_interpolate 57 = .ok (.if_icmp .gt 16, 3) := by decide +kernel
theorem d_M_interpolate_60 : decode b_M_interpolate 60 = .ok (.aload_n 0, 1) := by decide +kernel
theorem d_M_interpolate_61 : decode b_M_interpolate 61 = .ok (.getfield 32, 3) := by decide +kernel
theorem d_M_interpolate_64 : decode b_M_interpolate 64 = .ok (.iload_n 3, 1) := by decide +kernel
theorem d_M_interpolate_65 : decode b_M_interpolate 65 = .ok (.baload, 1) := by decide +kernel
theorem d_M_interpolate_66 : decode b_M_interpolate 66 = .ok (.ifCond .eq 7, 3) := by decide +kernel
theorem d_M_interpolate_69 : decode b_M_interpolate 69 = .ok (.iconst 1, 1) := by decide +kernel
theorem d_M_interpolate_70 : decode b_M_interpolate 70 = .ok (.goto 4, 3) := by decide +kernel
theorem d_M_interpolate_73 : decode b_M_interpolate 73 = .ok (.iconst 0, 1) := by decide +kernel
theorem d_M_interpolate_74 : decode b_M_interpolate 74 = .ok (.bastore, 1) := by decide +kernel
theorem d_M_interpolate_75 : decode b_M_interpolate 75 = .ok (.iconst 0, 1) := by decide +kernel
theorem d_M_interpolate_76 : decode b_M_interpolate 76 = .ok (.istore 4, 2) := by decide +kernel
theorem d_M_interpolate_78 : decode b_M_interpolate 78 = .ok (.iload 4, 2) := by decide +kernel
theorem d_M_interpolate_80 : decode b_M_interpolate 80 = .ok (.bipush 16, 2) := by decide +kernel
theorem d_M_interpolate_82 : decode b_M_interpolate 82 = .ok (.if_icmp .ge 33, 3) := by decide +kernel
theorem d_M_interpolate_85 : decode b_M_interpolate 85 = .ok (.aload_n 0, 1) := by decide +kernel
theorem d_M_interpolate_86 : decode b_M_interpolate 86 = .ok (.getfield 53, 3) := by decide +kernel
theorem d_M_interpolate_89 : decode b_M_interpolate 89 = .ok (.bipush 16, 2) := by decide +kernel
theorem d_M_interpolate_91 : decode b_M_interpolate 91 = .ok (.iload_n 3, 1) := by decide +kernel
theorem d_M_interpolate_92 : decode b_M_interpolate 92 = .ok (.imul, 1) := by decide +kernel
theorem d_M_interpolate_93 : decode b_M_interpolate 93 = .ok (.iload 4, 2) := by decide +kernel
theorem d_M_interpolate_95 : decode b_M_interpolate 95 = .ok (.iadd, 1) := by decide +kernel
theorem d_M_interpolate_96 : decode b_M_interpolate 96 = .ok (.aload_n 0, 1) := by decide +kernel
theorem d_M_interpolate_97 : decode b_M_interpolate 97 = .ok (.getfield 49, 3) := by decide +kernel
theorem d_M_interpolate_100 : decode b_M_interpolate 100 = .ok (.bipush 16, 2) := by decide +kernel
theorem d_M_interpolate_102 : decode b_M_interpolate 102 = .ok (.iload_n 3, 1) := by decide +kernel
theorem d_M_interpolate_103 : decode b_M_interpolate 103 = .ok (.imul, 1) := by decide +kernel
theorem d_M_interpolate_104 : decode b_M_interpolate 104 = .ok (.iload 4, 2) := by decide +kernel
theorem d_M_interpolate_106 : decode b_M_interpolate 106 = .ok (.iadd, 1) := by decide +kernel
theorem d_M_interpolate_107 : decode b_M_interpolate 107 = .ok (.laload, 1) := by decide +kernel
theorem d_M_interpolate_108 : decode b_M_interpolate 108 = .ok (.lastore, 1) := by decide +kernel
theorem d_M_interpolate_109 : decode b_M_interpolate 109 = .ok (.iinc 4 1, 3) := by decide +kernel
theorem d_M_interpolate_112 : decode b_M_interpolate 112 = .ok (.goto (-34), 3) := by decide +kernel
theorem d_M_interpolate_115 : decode b_M_interpolate 115 = .ok (.iinc 3 1, 3) := by decide +kernel
theorem d_M_interpolate_118 : decode b_M_interpolate 118 = .ok (.goto (-78), 3) := by decide +kernel
theorem d_M_interpolate_121 : decode b_M_interpolate 121 = .ok (.iconst 0, 1) := by decide +kernel
theorem d_M_interpolate_122 : decode b_M_interpolate 122 = .ok (.istore_n 3, 1) := by decide +kernel
theorem d_M_interpolate_123 : decode b_M_interpolate 123 = .ok (.iload_n 3, 1) := by decide +kernel
theorem d_M_interpolate_124 : decode b_M_interpolate 124 = .ok (.bipush 16, 2) := by decide +kernel
theorem d_M_interpolate_126 : decode b_M_interpolate 126 = .ok (.if_icmp .ge 29, 3) := by decide +kernel
theorem d_M_interpolate_129 : decode b_M_interpolate 129 = .ok (.aload_n 0, 1) := by decide +kernel
theorem d_M_interpolate_130 : decode b_M_interpolate 130 = .ok (.getfield 59, 3) := by decide +kernel
theorem d_M_interpolate_133 : decode b_M_interpolate 133 = .ok (.iload_n 3, 1) := by decide +kernel
theorem d_M_interpolate_134 : decode b_M_interpolate 134 = .ok (.aload_n 0, 1) := by decide +kernel
theorem d_M_interpolate_135 : decode b_M_interpolate 135 = .ok (.getfield 49, 3) := by decide +kernel
theorem d_M_interpolate_138 : decode b_M_interpolate 138 = .ok (.bipush 16, 2) := by decide +kernel
theorem d_M_interpolate_140 : decode b_M_interpolate 140 = .ok (.aload_n 0, 1) := by decide +kernel
theorem d_M_interpolate_141 : decode b_M_interpolate 141 = .ok (.getfield 35, 3) := by decide +kernel
theorem d_M_interpolate_144 : decode b_M_interpolate 144 = .ok (.imul, 1) := by decide +kernel
theorem d_M_interpolate_145 : decode b_M_interpolate 145 = .ok (.iload_n 3, 1) := by decide +kernel
theorem d_M_interpolate_146 : decode b_M_interpolate 146 = .ok (.iadd, 1) := by decide +kernel
theorem d_M_interpolate_147 : decode b_M_interpolate 147 = .ok (.laload, 1) := by decide +kernel
theorem d_M_interpolate_148 : decode b_M_interpolate 148 = .ok (.lastore, 1) := by decide +kernel
theorem d_M_interpolate_149 : decode b_M_interpolate 149 = .ok (.iinc 3 1, 3) := by decide +kernel
theorem d_M_interpolate_152 : decode b_M_interpolate 152 = .ok (.goto (-29), 3) := by decide +kernel
theorem d_M_interpolate_155 : decode b_M_interpolate 155 = .ok (.aload_n 0, 1) := by decide +kernel
theorem d_M_interpolate_156 : decode b_M_interpolate 156 = .ok (.iconst 1, 1) := by decide +kernel
theorem d_M_interpolate_157 : decode b_M_interpolate 157 = .ok (.putfield 200, 3) := by decide +kernel
theorem d_M_interpolate_160 : decode b_M_interpolate 160 = .ok (.aload_n 0, 1) := by decide +kernel
theorem d_M_interpolate_161 : decode b_M_interpolate 161 = .ok (.invokevirtual 204, 3) := by decide +kernel
theorem d_M_interpolate_164 : decode b_M_interpolate 164 = .ok (.aload_n 0, 1) := by decide +kernel
theorem d_M_interpolate_165 : decode b_M_interpolate 165 = .ok (.getfield 186, 3) := by decide +kernel
theorem d_M_interpolate_168 : decode b_M_interpolate 168 = .ok (.ireturn, 1) := by decide +kernel
theorem d_M_prt_0 : decode b_M_prt 0 = .ok (.aload_n 0, 1) := by decide +kernel
theorem d_M_prt_1 : decode b_M_prt 1 = .ok (.getfield 200, 3) := by decide +kernel
theorem d_M_prt_4 : decode b_M_prt 4 = .ok (.ifCond .eq 34, 3) := by decide +kernel
theorem d_M_prt_7 : decode b_M_prt 7 = .ok (.iload_n 1, 1) := by decide +kernel
theorem d_M_prt_8 : decode b_M_prt 8 = .ok (.iconst 1, 1) := by decide +kernel
theorem d_M_prt_9 : decode b_M_prt 9 = .ok (.sipush 201, 3) := by decide +kernel
theorem d_M_prt_12 : decode b_M_prt 12 = .ok (.invokestatic 144, 3) := by decide +kernel
theorem d_M_prt_15 : decode b_M_prt 15 = .ok (.ifCond .eq 23, 3) := by decide +kernel
theorem d_M_prt_18 : decode b_M_prt 18 = .ok (.aload_n 0, 1) := by decide +kernel
theorem d_M_prt_19 : decode b_M_prt 19 = .ok (.getfield 56, 3) := by decide +kernel
theorem d_M_prt_22 : decode b_M_prt 22 = .ok (.iload_n 1, 1) := by decide +kernel
theorem d_M_prt_23 : decode b_M_prt 23 = .ok (.baload, 1) := by decide +kernel
theorem d_M_prt_24 : decode b_M_prt 24 = .ok (.ifCond .eq 14, 3) := by decide +kernel
theorem d_M_prt_27 : decode b_M_prt 27 = .ok (.iload_n 2, 1) := by decide +kernel
theorem d_M_prt_28 : decode b_M_prt 28 = .ok (.iconst 0, 1) := by decide +kernel
theorem d_M_prt_29 : decode b_M_prt 29 = .ok (.sipush 1023, 3) := by decide +kernel
theorem d_M_prt_32 : decode b_M_prt 32 = .ok (.invokestatic 144, 3) := by decide +kernel
theorem d_M_prt_35 : decode b_M_prt 35 = .ok (.ifCond .ne 5, 3) := by decide +kernel
theorem d_M_prt_38 : decode b_M_prt 38 = .ok (.iconst (-1), 1) := by decide +kernel
theorem d_M_prt_39 : decode b_M_prt 39 = .ok (.ireturn, 1) := by decide +kernel
theorem d_M_prt_40 : decode b_M_prt 40 = .ok (.aload_n 0, 1) := by decide +kernel
theorem d_M_prt_41 : decode b_M_prt 41 = .ok (.getfield 53, 3) := by decide +kernel
theorem d_M_prt_44 : decode b_M_prt 44 = .ok (.bipush 16, 2) := by decide +kernel
theorem d_M_prt_46 : decode b_M_prt 46 = .ok (.iload_n 1, 1) := by decide +kernel
theorem d_M_prt_47 : decode b_M_prt 47 = .ok (.imul, 1) := by decide +kernel
theorem d_M_prt_48 : decode b_M_prt 48 = .ok (.iload_n 2, 1) := by decide +kernel
theorem d_M_prt_49 : decode b_M_prt 49 = .ok (.bipush 6, 2) := by decide +kernel
theorem d_M_prt_51 : decode b_M_prt 51 = .ok (.ishr, 1) := by decide +kernel
theorem d_M_prt_52 : decode b_M_prt 52 = .ok (.iadd, 1) := by decide +kernel
theorem d_M_prt_53 : decode b_M_prt 53 = .ok (.laload, 1) := by decide +kernel
theorem d_M_prt_54 : decode b_M_prt 54 = .ok (.iload_n 2, 1) := by decide +kernel
theorem d_M_prt_55 : decode b_M_prt 55 = .ok (.bipush 63, 2) := by decide +kernel
theorem d_M_prt_57 : decode b_M_prt 57 = .ok (.iand, 1) := by decide +kernel
theorem d_M_prt_58 : decode b_M_prt 58 = .ok (.lshr, 1) := by decide +kernel
theorem d_M_prt_59 : decode b_M_prt 59 = .ok (.lconst 1, 1) := by decide +kernel
theorem d_M_prt_60 : decode b_M_prt 60 = .ok (.land, 1) := by decide +kernel
theorem d_M_prt_61 : decode b_M_prt 61 = .ok (.l2i, 1) := by decide +kernel
theorem d_M_prt_62 : decode b_M_prt 62 = .ok (.ireturn, 1) := by decide +kernel
theorem d_M_told_0 : decode b_M_told 0 = .ok (.aload_n 0, 1) := by decide +kernel
theorem d_M_told_1 : decode b_M_told 1 = .ok (.getfield 200, 3) := by decide +kernel
theorem d_M_told_4 : decode b_M_told 4 = .ok (.ifCond .ne 5, 3) := by decide +kernel
theorem d_M_told_7 : decode b_M_told 7 = .ok (.iconst (-1), 1) := by decide +kernel
theorem d_M_told_8 : decode b_M_told 8 = .ok (.ireturn, 1) := by decide +kernel
theorem d_M_told_9 : decode b_M_told 9 = .ok (.iconst 0, 1) := by decide +kernel
theorem d_M_told_10 : decode b_M_told 10 = .ok (.istore_n 2, 1) := by decide +kernel
theorem d_M_told_11 : decode b_M_told 11 = .ok (.iload_n 1, 1) := by decide +kernel
theorem d_M_told_12 : decode b_M_told 12 = .ok (.ifCond .ne 31, 3) := by decide +kernel
theorem d_M_told_15 : decode b_M_told 15 = .ok (.iconst 0, 1) := by decide +kernel
theorem d_M_told_16 : decode b_M_told 16 = .ok (.istore_n 3, 1) := by decide +kernel
theorem d_M_told_17 : decode b_M_told 17 = .ok (.iload_n 3, 1) := by decide +kernel
theorem d_M_told_18 : decode b_M_told 18 = .ok (.bipush 16, 2) := by decide +kernel
theorem d_M_told_20 : decode b_M_told 20 = .ok (.if_icmp .ge 21, 3) := by decide +kernel
theorem d_M_told_23 : decode b_M_told 23 = .ok (.iload_n 2, 1) := by decide +kernel
theorem d_M_told_24 : decode b_M_told 24 = .ok (.aload_n 0, 1) := by decide +kernel
theorem d_M_told_25 : decode b_M_told 25 = .ok (.getfield 59, 3) := by decide +kernel
theorem d_M_told_28 : decode b_M_told 28 = .ok (.iload_n 3, 1) := by decide +kernel
theorem d_M_told_29 : decode b_M_told 29 = .ok (.laload, 1) := by decide +kernel
theorem d_M_told_30 : decode b_M_told 30 = .ok (.invokestatic 207, 3) := by decide +kernel
theorem d_M_told_33 : decode b_M_told 33 = .ok (.iadd, 1) := by decide +kernel
theorem d_M_told_34 : decode b_M_told 34 = .ok (.istore_n 2, 1) := by decide +kernel
theorem d_M_told_35 : decode b_M_told 35 = .ok (.iinc 3 1, 3) := by decide +kernel
theorem d_M_told_38 : decode b_M_told 38 = .ok (.goto (-21), 3) := by decide +kernel
theorem d_M_told_41 : decode b_M_told 41 = .ok (.iload_n 2, 1) := by decide +kernel
theorem d_M_told_42 : decode b_M_told 42 = .ok (.ireturn, 1) := by decide +kernel
theorem d_M_told_43 : decode b_M_told 43 = .ok (.iload_n 1, 1) := by decide +kernel
theorem d_M_told_44 : decode b_M_told 44 = .ok (.iconst 1, 1) := by decide +kernel
theorem d_M_told_45 : decode b_M_told 45 = .ok (.if_icmp .eq 5, 3) := by decide +kernel
theorem d_M_told_48 : decode b_M_told 48 = .ok (.iconst (-1), 1) := by decide +kernel
theorem d_M_told_49 : decode b_M_told 49 = .ok (.ireturn, 1) := by decide +kernel
theorem d_M_told_50 : decode b_M_told 50 = .ok (.iconst 0, 1) := by decide +kernel
theorem d_M_told_51 : decode b_M_told 51 = .ok (.istore_n 3, 1) := by decide +kernel
theorem d_M_told_52 : decode b_M_told 52 = .ok (.iload_n 3, 1) := by decide +kernel
theorem d_M_told_53 : decode b_M_told 53 = .ok (.aload_n 0, 1) := by decide +kernel
theorem d_M_told_54 : decode b_M_told 54 = .ok (.getfield 186, 3) := by decide +kernel
theorem d_M_told_57 : decode b_M_told 57 = .ok (.if_icmp .ge 22, 3) := by decide +kernel
theorem d_M_told_60 : decode b_M_told 60 = .ok (.iload_n 2, 1) := by decide +kernel
theorem d_M_told_61 : decode b_M_told 61 = .ok (.iconst 1, 1) := by decide +kernel
theorem d_M_told_62 : decode b_M_told 62 = .ok (.aload_n 0, 1) := by decide +kernel
theorem d_M_told_63 : decode b_M_told 63 = .ok (.getfield 71, 3) := by decide +kernel
theorem d_M_told_66 : decode b_M_told 66 = .ok (.iload_n 3, 1) := by decide +kernel
theorem d_M_told_67 : decode b_M_told 67 = .ok (.iaload, 1) := by decide +kernel
theorem d_M_told_68 : decode b_M_told 68 = .ok (.iconst 1, 1) := by decide +kernel
theorem d_M_told_69 : decode b_M_told 69 = .ok (.isub, 1) := by decide +kernel
theorem d_M_told_70 : decode b_M_told 70 = .ok (.ishl, 1) := by decide +kernel
theorem d_M_told_71 : decode b_M_told 71 = .ok (.ior, 1) := by decide +kernel
theorem d_M_told_72 : decode b_M_told 72 = .ok (.istore_n 2, 1) := by decide +kernel
theorem d_M_told_73 : decode b_M_told 73 = .ok (.iinc 3 1, 3) := by decide +kernel
theorem d_M_told_76 : decode b_M_told 76 = .ok (.goto (-24), 3) := by decide +kernel
theorem d_M_told_79 : decode b_M_told 79 = .ok (.iload_n 2, 1) := by decide +kernel
theorem d_M_told_80 : decode b_M_told 80 = .ok (.ireturn, 1) := by decide +kernel
theorem d_M_follows_0 : decode b_M_follows 0 = .ok (.iload_n 1, 1) := by decide +kernel
theorem d_M_follows_1 : decode b_M_follows 1 = .ok (.iconst 1, 1) := by decide +kernel
theorem d_M_follows_2 : decode b_M_follows 2 = .ok (.bipush 7, 2) := by decide +kernel
theorem d_M_follows_4 : decode b_M_follows 4 = .ok (.invokestatic 144, 3) := by decide +kernel
theorem d_M_follows_7 : decode b_M_follows 7 = .ok (.ifCond .eq 21, 3) := by decide +kernel
theorem d_M_follows_10 : decode b_M_follows 10 = .ok (.iload_n 2, 1) := by decide +kernel
theorem d_M_follows_11 : decode b_M_follows 11 = .ok (.iconst 0, 1) := by decide +kernel
theorem d_M_follows_12 : decode b_M_follows 12 = .ok (.iconst 3, 1) := by decide +kernel
theorem d_M_follows_13 : decode b_M_follows 13 = .ok (.invokestatic 144, 3) := by decide +kernel
theorem d_M_follows_16 : decode b_M_follows 16 = .ok (.ifCond .eq 12, 3) := by decide +kernel
theorem d_M_follows_19 : decode b_M_follows 19 = .ok (.iload_n 3, 1) := by decide +kernel
theorem d_M_follows_20 : decode b_M_follows 20 = .ok (.iconst 0, 1) := by decide +kernel
theorem d_M_follows_21 : decode b_M_follows 21 = .ok (.iconst 3, 1) := by decide +kernel
theorem d_M_follows_22 : decode b_M_follows 22 = .ok (.invokestatic 144, 3) := by decide +kernel
theorem d_M_follows_25 : decode b_M_follows 25 = .ok (.ifCond .ne 6, 3) := by decide +kernel
theorem d_M_follows_28 : decode b_M_follows 28 = .ok (.bipush (-2), 2) := by decide +kernel
theorem d_M_follows_30 : decode b_M_follows 30 = .ok (.ireturn, 1) := by decide +kernel
theorem d_M_follows_31 : decode b_M_follows 31 = .ok (.aload_n 0, 1) := by decide +kernel
theorem d_M_follows_32 : decode b_M_follows 32 = .ok (.getfield 35, 3) := by decide +kernel
theorem d_M_follows_35 : decode b_M_follows 35 = .ok (.iconst (-1), 1) := by decide +kernel
theorem d_M_follows_36 : decode b_M_follows 36 = .ok (.if_icmp .ne 5, 3) := by decide +kernel
theorem d_M_follows_39 : decode b_M_follows 39 = .ok (.iconst (-1), 1) := by decide +kernel
theorem d_M_follows_40 : decode b_M_follows 40 = .ok (.ireturn, 1) := by decide +kernel
theorem d_M_follows_41 : decode b_M_follows 41 = .ok (.aload_n 0, 1) := by decide +kernel
theorem d_M_follows_42 : decode b_M_follows 42 = .ok (.iload_n 1, 1) := by decide +kernel
theorem d_M_follows_43 : decode b_M_follows 43 = .ok (.iload_n 2, 1) := by decide +kernel
theorem d_M_follows_44 : decode b_M_follows 44 = .ok (.invokevirtual 196, 3) := by decide +kernel
theorem d_M_follows_47 : decode b_M_follows 47 = .ok (.iconst 0, 1) := by decide +kernel
theorem d_M_follows_48 : decode b_M_follows 48 = .ok (.istore 4, 2) := by decide +kernel
theorem d_M_follows_50 : decode b_M_follows 50 = .ok (.iload 4, 2) := by decide +kernel
theorem d_M_follows_52 : decode b_M_follows 52 = .ok (.bipush 16, 2) := by decide +kernel
theorem d_M_follows_54 : decode b_M_follows 54 = .ok (.if_icmp .ge 31, 3) := by decide +kernel
theorem d_M_follows_57 : decode b_M_follows 57 = .ok (.aload_n 0, 1) := by decide +kernel
theorem d_M_follows_58 : decode b_M_follows 58 = .ok (.getfield 62, 3) := by decide +kernel
theorem d_M_follows_61 : decode b_M_follows 61 = .ok (.iload 4, 2) := by decide +kernel
theorem d_M_follows_63 : decode b_M_follows 63 = .ok (.aload_n 0, 1) := by decide +kernel
theorem d_M_follows_64 : decode b_M_follows 64 = .ok (.getfield 49, 3) := by decide +kernel
theorem d_M_follows_67 : decode b_M_follows 67 = .ok (.bipush 16, 2) := by decide +kernel
theorem d_M_follows_69 : decode b_M_follows 69 = .ok (.aload_n 0, 1) := by decide +kernel
theorem d_M_follows_70 : decode b_M_follows 70 = .ok (.getfield 35, 3) := by decide +kernel
theorem d_M_follows_73 : decode b_M_follows 73 = .ok (.imul, 1) := by decide +kernel
theorem d_M_follows_74 : decode b_M_follows 74 = .ok (.iload 4, 2) := by decide +kernel
theorem d_M_follows_76 : decode b_M_follows 76 = .ok (.iadd, 1) := by decide +kernel
theorem d_M_follows_77 : decode b_M_follows 77 = .ok (.laload, 1) := by decide +kernel
theorem d_M_follows_78 : decode b_M_follows 78 = .ok (.lastore, 1) := by decide +kernel
theorem d_M_follows_79 : decode b_M_follows 79 = .ok (.iinc 4 1, 3) := by decide +kernel
theorem d_M_follows_82 : decode b_M_follows 82 = .ok (.goto (-32), 3) := by decide +kernel
theorem d_M_follows_85 : decode b_M_follows 85 = .ok (.aload_n 0, 1) := by decide +kernel
theorem d_M_follows_86 : decode b_M_follows 86 = .ok (.iload_n 1, 1) := by decide +kernel
theorem d_M_follows_87 : decode b_M_follows 87 = .ok (.iload_n 3, 1) := by decide +kernel
theorem d_M_follows_88 : decode b_M_follows 88 = .ok (.invokevirtual 196, 3) := by decide +kernel
theorem d_M_follows_91 : decode b_M_follows 91 = .ok (.iconst 0, 1) := by decide +kernel
theorem d_M_follows_92 : decode b_M_follows 92 = .ok (.istore 4, 2) := by decide +kernel
theorem d_M_follows_94 : decode b_M_follows 94 = .ok (.iload 4, 2) := by decide +kernel
theorem d_M_follows_96 : decode b_M_follows 96 = .ok (.bipush 16, 2) := by decide +kernel
theorem d_M_follows_98 : decode b_M_follows 98 = .ok (.if_icmp .ge 43, 3) := by decide +kernel
theorem d_M_follows_101 : decode b_M_follows 101 = .ok (.aload_n 0, 1) := by decide +kernel
theorem d_M_follows_102 : decode b_M_follows 102 = .ok (.getfield 62, 3) := by decide +kernel
theorem d_M_follows_105 : decode b_M_follows 105 = .ok (.iload 4, 2) := by decide +kernel
theorem d_M_follows_107 : decode b_M_follows 107 = .ok (.laload, 1) := by decide +kernel
theorem d_M_follows_108 : decode b_M_follows 108 = .ok (.aload_n 0, 1) := by decide +kernel
theorem d_M_follows_109 : decode b_M_follows 109 = .ok (.getfield 49, 3) := by decide +kernel
theorem d_M_follows_112 : decode b_M_follows 112 = .ok (.bipush 16, 2) := by decide +kernel
theorem d_M_follows_114 : decode b_M_follows 114 = .ok (.aload_n 0, 1) := by decide +kernel
theorem d_M_follows_115 : decode b_M_follows 115 = .ok (.getfield 35, 3) := by decide +kernel
theorem d_M_follows_118 : decode b_M_follows 118 = .ok (.imul, 1) := by decide +kernel
theorem d_M_follows_119 : decode b_M_follows 119 = .ok (.iload 4, 2) := by decide +kernel
theorem d_M_follows_121 : decode b_M_follows 121 = .ok (.iadd, 1) := by decide +kernel
theorem d_M_follows_122 : decode b_M_follows 122 = .ok (.laload, 1) := by decide +kernel
theorem d_M_follows_123 : decode b_M_follows 123 = .ok (.ldc2_w 168, 3) := by decide +kernel
theorem d_M_follows_126 : decode b_M_follows 126 = .ok (.lxor, 1) := by decide +kernel
theorem d_M_follows_127 : decode b_M_follows 127 = .ok (.land, 1) := by decide +kernel
theorem d_M_follows_128 : decode b_M_follows 128 = .ok (.lconst 0, 1) := by decide +kernel
theorem d_M_follows_129 : decode b_M_follows 129 = .ok (.lcmp, 1) := by decide +kernel
theorem d_M_follows_130 : decode b_M_follows 130 = .ok (.ifCond .eq 5, 3) := by decide +kernel
theorem d_M_follows_133 : decode b_M_follows 133 = .ok (.iconst 0, 1) := by decide +kernel
theorem d_M_follows_134 : decode b_M_follows 134 = .ok (.ireturn, 1) := by decide +kernel
theorem d_M_follows_135 : decode b_M_follows 135 = .ok (.iinc 4 1, 3) := by decide +kernel
theorem d_M_follows_138 : decode b_M_follows 138 = .ok (.goto (-44), 3) := by decide +kernel
theorem d_M_follows_141 : decode b_M_follows 141 = .ok (.iconst 1, 1) := by decide +kernel
theorem d_M_follows_142 : decode b_M_follows 142 = .ok (.ireturn, 1) := by decide +kernel
theorem d_M_gap_0 : decode b_M_gap 0 = .ok (.iload_n 1, 1) := by decide +kernel
theorem d_M_gap_1 : decode b_M_gap 1 = .ok (.iconst 1, 1) := by decide +kernel
theorem d_M_gap_2 : decode b_M_gap 2 = .ok (.bipush 7, 2) := by decide +kernel
theorem d_M_gap_4 : decode b_M_gap 4 = .ok (.invokestatic 144, 3) := by decide +kernel
theorem d_M_gap_7 : decode b_M_gap 7 = .ok (.ifCond .eq 12, 3) := by decide +kernel
theorem d_M_gap_10 : decode b_M_gap 10 = .ok (.iload_n 2, 1) := by decide +kernel
theorem d_M_gap_11 : decode b_M_gap 11 = .ok (.iconst 0, 1) := by decide +kernel
theorem d_M_gap_12 : decode b_M_gap 12 = .ok (.iconst 3, 1) := by decide +kernel
theorem d_M_gap_13 : decode b_M_gap 13 = .ok (.invokestatic 144, 3) := by decide +kernel
theorem d_M_gap_16 : decode b_M_gap 16 = .ok (.ifCond .ne 6, 3) := by decide +kernel
theorem d_M_gap_19 : decode b_M_gap 19 = .ok (.bipush (-2), 2) := by decide +kernel
theorem d_M_gap_21 : decode b_M_gap 21 = .ok (.ireturn, 1) := by decide +kernel
theorem d_M_gap_22 : decode b_M_gap 22 = .ok (.aload_n 0, 1) := by decide +kernel
theorem d_M_gap_23 : decode b_M_gap 23 = .ok (.getfield 35, 3) := by decide +kernel
theorem d_M_gap_26 : decode b_M_gap 26 = .ok (.iconst (-1), 1) := by decide +kernel
theorem d_M_gap_27 : decode b_M_gap 27 = .ok (.if_icmp .eq 12, 3) := by decide +kernel
theorem d_M_gap_30 : decode b_M_gap 30 = .ok (.iload_n 3, 1) := by decide +kernel
theorem d_M_gap_31 : decode b_M_gap 31 = .ok (.iconst 0, 1) := by decide +kernel
theorem d_M_gap_32 : decode b_M_gap 32 = .ok (.iconst 2, 1) := by decide +kernel
theorem d_M_gap_33 : decode b_M_gap 33 = .ok (.invokestatic 144, 3) := by decide +kernel
theorem d_M_gap_36 : decode b_M_gap 36 = .ok (.ifCond .ne 5, 3) := by decide +kernel
theorem d_M_gap_39 : decode b_M_gap 39 = .ok (.iconst (-1), 1) := by decide +kernel
theorem d_M_gap_40 : decode b_M_gap 40 = .ok (.ireturn, 1) := by decide +kernel
theorem d_M_gap_41 : decode b_M_gap 41 = .ok (.iconst 0, 1) := by decide +kernel
theorem d_M_gap_42 : decode b_M_gap 42 = .ok (.istore 4, 2) := by decide +kernel
theorem d_M_gap_44 : decode b_M_gap 44 = .ok (.iload 4, 2) := by decide +kernel
theorem d_M_gap_46 : decode b_M_gap 46 = .ok (.bipush 16, 2) := by decide +kernel
theorem d_M_gap_48 : decode b_M_gap 48 = .ok (.if_icmp .ge 17, 3) := by decide +kernel
theorem d_M_gap_51 : decode b_M_gap 51 = .ok (.aload_n 0, 1) := by decide +kernel
theorem d_M_gap_52 : decode b_M_gap 52 = .ok (.getfield 65, 3) := by decide +kernel
theorem d_M_gap_55 : decode b_M_gap 55 = .ok (.iload 4, 2) := by decide +kernel
theorem d_M_gap_57 : decode b_M_gap 57 = .ok (.lconst 0, 1) := by decide +kernel
theorem d_M_gap_58 : decode b_M_gap 58 = .ok (.lastore, 1) := by decide +kernel
theorem d_M_gap_59 : decode b_M_gap 59 = .ok (.iinc 4 1, 3) := by decide +kernel
theorem d_M_gap_62 : decode b_M_gap 62 = .ok (.goto (-18), 3) := by decide +kernel
theorem d_M_gap_65 : decode b_M_gap 65 = .ok (.iload_n 3, 1) := by decide +kernel
theorem d_M_gap_66 : decode b_M_gap 66 = .ok (.iconst 2, 1) := by decide +kernel
theorem d_M_gap_67 : decode b_M_gap 67 = .ok (.if_icmp .ne 55, 3) := by decide +kernel
theorem d_M_gap_70 : decode b_M_gap 70 = .ok (.iload_n 1, 1) := by decide +kernel
theorem d_M_gap_71 : decode b_M_gap 71 = .ok (.bipush 7, 2) := by decide +kernel
theorem d_M_gap_73 : decode b_M_gap 73 = .ok (.if_icmp .ge 49, 3) := by decide +kernel
theorem d_M_gap_76 : decode b_M_gap 76 = .ok (.aload_n 0, 1) := by decide +kernel
theorem d_M_gap_77 : decode b_M_gap 77 = .ok (.iload_n 1, 1) := by decide +kernel
theorem d_M_gap_78 : decode b_M_gap 78 = .ok (.iconst 1, 1) := by decide +kernel
theorem d_M_gap_79 : decode b_M_gap 79 = .ok (.iadd, 1) := by decide +kernel
theorem d_M_gap_80 : decode b_M_gap 80 = .ok (.iload_n 2, 1) := by decide +kernel
theorem d_M_gap_81 : decode b_M_gap 81 = .ok (.invokevirtual 196, 3) := by decide +kernel
theorem d_M_gap_84 : decode b_M_gap 84 = .ok (.iconst 0, 1) := by decide +kernel
theorem d_M_gap_85 : decode b_M_gap 85 = .ok (.istore 4, 2) := by decide +kernel
theorem d_M_gap_87 : decode b_M_gap 87 = .ok (.iload 4, 2) := by decide +kernel
theorem d_M_gap_89 : decode b_M_gap 89 = .ok (.bipush 16, 2) := by decide +kernel
theorem d_M_gap_91 : decode b_M_gap 91 = .ok (.if_icmp .ge 31, 3) := by decide +kernel
theorem d_M_gap_94 : decode b_M_gap 94 = .ok (.aload_n 0, 1) := by decide +kernel
theorem d_M_gap_95 : decode b_M_gap 95 = .ok (.getfield 65, 3) := by decide +kernel
theorem d_M_gap_98 : decode b_M_gap 98 = .ok (.iload 4, 2) := by decide +kernel
theorem d_M_gap_100 : decode b_M_gap 100 = .ok (.aload_n 0, 1) := by decide +kernel
theorem d_M_gap_101 : decode b_M_gap 101 = .ok (.getfield 49, 3) := by decide +kernel
theorem d_M_gap_104 : decode b_M_gap 104 = .ok (.bipush 16, 2) := by decide +kernel
theorem d_M_gap_106 : decode b_M_gap 106 = .ok (.aload_n 0, 1) := by decide +kernel
theorem d_M_gap_107 : decode b_M_gap 107 = .ok (.getfield 35, 3) := by decide +kernel
theorem d_M_gap_110 : decode b_M_gap 110 = .ok (.imul, 1) := by decide +kernel
theorem d_M_gap_111 : decode b_M_gap 111 = .ok (.iload 4, 2) := by decide +kernel
theorem d_M_gap_113 : decode b_M_gap 113 = .ok (.iadd, 1) := by decide +kernel
theorem d_M_gap_114 : decode b_M_gap 114 = .ok (.laload, 1) := by decide +kernel
theorem d_M_gap_115 : decode b_M_gap 115 = .ok (.lastore, 1) := by decide +kernel
theorem d_M_gap_116 : decode b_M_gap 116 = .ok (.iinc 4 1, 3) := by decide +kernel
theorem d_M_gap_119 : decode b_M_gap 119 = .ok (.goto (-32), 3) := by decide +kernel
theorem d_M_gap_122 : decode b_M_gap 122 = .ok (.aload_n 0, 1) := by decide +kernel
theorem d_M_gap_123 : decode b_M_gap 123 = .ok (.iload_n 1, 1) := by decide +kernel
theorem d_M_gap_124 : decode b_M_gap 124 = .ok (.iload_n 2, 1) := by decide +kernel
theorem d_M_gap_125 : decode b_M_gap 125 = .ok (.invokevirtual 196, 3) := by decide +kernel
theorem d_M_gap_128 : decode b_M_gap 128 = .ok (.iconst 0, 1) := by decide +kernel
theorem d_M_gap_129 : decode b_M_gap 129 = .ok (.istore 4, 2) := by decide +kernel
theorem d_M_gap_131 : decode b_M_gap 131 = .ok (.iconst 0, 1) := by decide +kernel
theorem d_M_gap_132 : decode b_M_gap 132 = .ok (.istore 5, 2) := by decide +kernel
theorem d_M_gap_134 : decode b_M_gap 134 = .ok (.iload 5, 2) := by decide +kernel
theorem d_M_gap_136 : decode b_M_gap 136 = .ok (.bipush 16, 2) := by decide +kernel
theorem d_M_gap_138 : decode b_M_gap 138 = .ok (.if_icmp .ge 121, 3) := by decide +kernel
theorem d_M_gap_141 : decode b_M_gap 141 = .ok (.aload_n 0, 1) := by decide +kernel
theorem d_M_gap_142 : decode b_M_gap 142 = .ok (.getfield 49, 3) := by decide +kernel
theorem d_M_gap_145 : decode b_M_gap 145 = .ok (.bipush 16, 2) := by decide +kernel
theorem d_M_gap_147 : decode b_M_gap 147 = .ok (.aload_n 0, 1) := by decide +kernel
theorem d_M_gap_148 : decode b_M_gap 148 = .ok (.getfield 35, 3) := by decide +kernel
theorem d_M_gap_151 : decode b_M_gap 151 = .ok (.imul, 1) := by decide +kernel
theorem d_M_gap_152 : decode b_M_gap 152 = .ok (.iload 5, 2) := by decide +kernel
theorem d_M_gap_154 : decode b_M_gap 154 = .ok (.iadd, 1) := by decide +kernel
theorem d_M_gap_155 : decode b_M_gap 155 = .ok (.laload, 1) := by decide +kernel
theorem d_M_gap_156 : decode b_M_gap 156 = .ok (.lstore 6, 2) := by decide +kernel
theorem d_M_gap_158 : decode b_M_gap 158 = .ok (.iload_n 3, 1) := by decide +kernel
theorem d_M_gap_159 : decode b_M_gap 159 = .ok (.ifCond .ne 29, 3) := by decide +kernel
theorem d_M_gap_162 : decode b_M_gap 162 = .ok (.iload 4, 2) := by decide +kernel
theorem d_M_gap_164 : decode b_M_gap 164 = .ok (.aload_n 0, 1) := by decide +kernel
theorem d_M_gap_165 : decode b_M_gap 165 = .ok (.iconst 1, 1) := by decide +kernel
theorem d_M_gap_166 : decode b_M_gap 166 = .ok (.iload_n 1, 1) := by decide +kernel
theorem d_M_gap_167 : decode b_M_gap 167 = .ok (.iload 5, 2) := by decide +kernel
theorem d_M_gap_169 : decode b_M_gap 169 = .ok (.invokevirtual 211, 3) := by decide +kernel
theorem d_M_gap_172 : decode b_M_gap 172 = .ok (.lload 6, 2) := by decide +kernel
theorem d_M_gap_174 : decode b_M_gap 174 = .ok (.ldc2_w 168, 3) := by decide +kernel
theorem d_M_gap_177 : decode b_M_gap 177 = .ok (.lxor, 1) := by decide +kernel
theorem d_M_gap_178 : decode b_M_gap 178 = .ok (.land, 1) := by decide +kernel
theorem d_M_gap_179 : decode b_M_gap 179 = .ok (.invokestatic 207, 3) := by decide +kernel
theorem d_M_gap_182 : decode b_M_gap 182 = .ok (.iadd, 1) := by decide +kernel
theorem d_M_gap_183 : decode b_M_gap 183 = .ok (.istore 4, 2) := by decide +kernel
theorem d_M_gap_185 : decode b_M_gap 185 = .ok (.goto 68, 3) := by decide +kernel
theorem d_M_gap_188 : decode b_M_gap 188 = .ok (.iload_n 3, 1) := by decide +kernel
theorem d_M_gap_189 : decode b_M_gap 189 = .ok (.iconst 1, 1) := by decide +kernel
theorem d_M_gap_190 : decode b_M_gap 190 = .ok (.if_icmp .ne 28, 3) := by decide +kernel
theorem d_M_gap_193 : decode b_M_gap 193 = .ok (.iload 4, 2) := by decide +kernel
theorem d_M_gap_195 : decode b_M_gap 195 = .ok (.aload_n 0, 1) := by decide +kernel
theorem d_M_gap_196 : decode b_M_gap 196 = .ok (.iload_n 1, 1) := by decide +kernel
theorem d_M_gap_197 : decode b_M_gap 197 = .ok (.iconst 1, 1) := by decide +kernel
theorem d_M_gap_198 : decode b_M_gap 198 = .ok (.iadd, 1) := by decide +kernel
theorem d_M_gap_199 : decode b_M_gap 199 = .ok (.bipush 8, 2) := by decide +kernel
theorem d_M_gap_201 : decode b_M_gap 201 = .ok (.iload 5, 2) := by decide +kernel
theorem d_M_gap_203 : decode b_M_gap 203 = .ok (.invokevirtual 211, 3) := by decide +kernel
theorem d_M_gap_206 : decode b_M_gap 206 = .ok (.lload 6, 2) := by decide +kernel
theorem d_M_gap_208 : decode b_M_gap 208 = .ok (.land, 1) := by decide +kernel
theorem d_M_gap_209 : decode b_M_gap 209 = .ok (.invokestatic 207, 3) := by decide +kernel
theorem d_M_gap_212 : decode b_M_gap 212 = .ok (.iadd, 1) := by decide +kernel
theorem d_M_gap_213 : decode b_M_gap 213 = .ok (.istore 4, 2) := by decide +kernel
theorem d_M_gap_215 : decode b_M_gap 215 = .ok (.goto 38, 3) := by decide +kernel
theorem d_M_gap_218 : decode b_M_gap 218 = .ok (.iload 4, 2) := by decide +kernel
theorem d_M_gap_220 : decode b_M_gap 220 = .ok (.lload 6, 2) := by decide +kernel
theorem d_M_gap_222 : decode b_M_gap 222 = .ok (.aload_n 0, 1) := by decide +kernel
theorem d_M_gap_223 : decode b_M_gap 223 = .ok (.iload_n 1, 1) := by decide +kernel
theorem d_M_gap_224 : decode b_M_gap 224 = .ok (.iconst 1, 1) := by decide +kernel
theorem d_M_gap_225 : decode b_M_gap 225 = .ok (.iadd, 1) := by decide +kernel
theorem d_M_gap_226 : decode b_M_gap 226 = .ok (.iload_n 1, 1) := by decide +kernel
theorem d_M_gap_227 : decode b_M_gap 227 = .ok (.iconst 1, 1) := by decide +kernel
theorem d_M_gap_228 : decode b_M_gap 228 = .ok (.iadd, 1) := by decide +kernel
theorem d_M_gap_229 : decode b_M_gap 229 = .ok (.iload 5, 2) := by decide +kernel
theorem d_M_gap_231 : decode b_M_gap 231 = .ok (.invokevirtual 211, 3) := by decide +kernel
theorem d_M_gap_234 : decode b_M_gap 234 = .ok (.land, 1) := by decide +kernel
theorem d_M_gap_235 : decode b_M_gap 235 = .ok (.aload_n 0, 1) := by decide +kernel
theorem d_M_gap_236 : decode b_M_gap 236 = .ok (.getfield 65, 3) := by decide +kernel
theorem d_M_gap_239 : decode b_M_gap 239 = .ok (.iload 5, 2) := by decide +kernel
theorem d_M_gap_241 : decode b_M_gap 241 = .ok (.laload, 1) := by decide +kernel
theorem d_M_gap_242 : decode b_M_gap 242 = .ok (.ldc2_w 168, 3) := by decide +kernel
theorem d_M_gap_245 : decode b_M_gap 245 = .ok (.lxor, 1) := by decide +kernel
theorem d_M_gap_246 : decode b_M_gap 246 = .ok (.land, 1) := by decide +kernel
theorem d_M_gap_247 : decode b_M_gap 247 = .ok (.invokestatic 207, 3) := by decide +kernel
theorem d_M_gap_250 : decode b_M_gap 250 = .ok (.iadd, 1) := by decide +kernel
theorem d_M_gap_251 : decode b_M_gap 251 = .ok (.istore 4, 2) := by decide +kernel
theorem d_M_gap_253 : decode b_M_gap 253 = .ok (.iinc 5 1, 3) := by decide +kernel
theorem d_M_gap_256 : decode b_M_gap 256 = .ok (.goto (-122), 3) := by decide +kernel
theorem d_M_gap_259 : decode b_M_gap 259 = .ok (.iload 4, 2) := by decide +kernel
theorem d_M_gap_261 : decode b_M_gap 261 = .ok (.ireturn, 1) := by decide +kernel
end
section
theorem d_W_law_0 : decode code 0 = .ok (.new 7, 3) := by decide +kernel
theorem d_W_law_3 : decode code 3 = .ok (.dup, 1) := by decide +kernel
theorem d_W_law_4 : decode code 4 = .ok (.invokespecial 9, 3) := by decide +kernel
theorem d_W_law_7 : decode code 7 = .ok (.astore_n 1, 1) := by decide +kernel
theorem d_W_law_8 : decode code 8 = .ok (.new 10, 3) := by decide +kernel
theorem d_W_law_11 : decode code 11 = .ok (.dup, 1) := by decide +kernel
theorem d_W_law_12 : decode code 12 = .ok (.invokespecial 12, 3) := by decide +kernel
theorem d_W_law_15 : decode code 15 = .ok (.astore_n 2, 1) := by decide +kernel
theorem d_W_law_16 : decode code 16 = .ok (.iconst 0, 1) := by decide +kernel
theorem d_W_law_17 : decode code 17 = .ok (.istore_n 3, 1) := by decide +kernel
theorem d_W_law_18 : decode code 18 = .ok (.iload_n 3, 1) := by decide +kernel
theorem d_W_law_19 : decode code 19 = .ok (.aload_n 0, 1) := by decide +kernel
theorem d_W_law_20 : decode code 20 = .ok (.arraylength, 1) := by decide +kernel
theorem d_W_law_21 : decode code 21 = .ok (.bipush 6, 2) := by decide +kernel
theorem d_W_law_23 : decode code 23 = .ok (.isub, 1) := by decide +kernel
theorem d_W_law_24 : decode code 24 = .ok (.if_icmp .gt 626, 3) := by decide +kernel
theorem d_W_law_27 : decode code 27 = .ok (.aload_n 0, 1) := by decide +kernel
theorem d_W_law_28 : decode code 28 = .ok (.iload_n 3, 1) := by decide +kernel
theorem d_W_law_29 : decode code 29 = .ok (.iaload, 1) := by decide +kernel
theorem d_W_law_30 : decode code 30 = .ok (.bipush 31, 2) := by decide +kernel
theorem d_W_law_32 : decode code 32 = .ok (.iand, 1) := by decide +kernel
theorem d_W_law_33 : decode code 33 = .ok (.tableswitch 611 0 17 #[87, 150, 173, 186, 209, 222, 255, 268, 291, 324, 357, 390, 413, 446, 469, 502, 545, 588], 87) := by decide +kernel
theorem d_W_law_120 : decode code 120 = .ok (.aload_n 1, 1) := by decide +kernel
theorem d_W_law_121 : decode code 121 = .ok (.aload_n 0, 1) := by decide +kernel
theorem d_W_law_122 : decode code 122 = .ok (.iload_n 3, 1) := by decide +kernel
theorem d_W_law_123 : decode code 123 = .ok (.iconst 1, 1) := by decide +kernel
theorem d_W_law_124 : decode code 124 = .ok (.iadd, 1) := by decide +kernel
theorem d_W_law_125 : decode code 125 = .ok (.iaload, 1) := by decide +kernel
theorem d_W_law_126 : decode code 126 = .ok (.aload_n 0, 1) := by decide +kernel
theorem d_W_law_127 : decode code 127 = .ok (.iload_n 3, 1) := by decide +kernel
theorem d_W_law_128 : decode code 128 = .ok (.iconst 2, 1) := by decide +kernel
theorem d_W_law_129 : decode code 129 = .ok (.iadd, 1) := by decide +kernel
theorem d_W_law_130 : decode code 130 = .ok (.iaload, 1) := by decide +kernel
theorem d_W_law_131 : decode code 131 = .ok (.aload_n 0, 1) := by decide +kernel
theorem d_W_law_132 : decode code 132 = .ok (.iload_n 3, 1) := by decide +kernel
theorem d_W_law_133 : decode code 133 = .ok (.iconst 3, 1) := by decide +kernel
theorem d_W_law_134 : decode code 134 = .ok (.iadd, 1) := by decide +kernel
theorem d_W_law_135 : decode code 135 = .ok (.iaload, 1) := by decide +kernel
theorem d_W_law_136 : decode code 136 = .ok (.aload_n 0, 1) := by decide +kernel
theorem d_W_law_137 : decode code 137 = .ok (.iload_n 3, 1) := by decide +kernel
theorem d_W_law_138 : decode code 138 = .ok (.iconst 4, 1) := by decide +kernel
theorem d_W_law_139 : decode code 139 = .ok (.iadd, 1) := by decide +kernel
theorem d_W_law_140 : decode code 140 = .ok (.iaload, 1) := by decide +kernel
theorem d_W_law_141 : decode code 141 = .ok (.aload_n 0, 1) := by decide +kernel
theorem d_W_law_142 : decode code 142 = .ok (.iload_n 3, 1) := by decide +kernel
theorem d_W_law_143 : decode code 143 = .ok (.iconst 5, 1) := by decide +kernel
theorem d_W_law_144 : decode code 144 = .ok (.iadd, 1) := by decide +kernel
theorem d_W_law_145 : decode code 145 = .ok (.iaload, 1) := by decide +kernel
theorem d_W_law_146 : decode code 146 = .ok (.invokevirtual 13, 3) := by decide +kernel
theorem d_W_law_149 : decode code 149 = .ok (.aload_n 2, 1) := by decide +kernel
theorem d_W_law_150 : decode code 150 = .ok (.aload_n 0, 1) := by decide +kernel
theorem d_W_law_151 : decode code 151 = .ok (.iload_n 3, 1) := by decide +kernel
theorem d_W_law_152 : decode code 152 = .ok (.iconst 1, 1) := by decide +kernel
theorem d_W_law_153 : decode code 153 = .ok (.iadd, 1) := by decide +kernel
theorem d_W_law_154 : decode code 154 = .ok (.iaload, 1) := by decide +kernel
theorem d_W_law_155 : decode code 155 = .ok (.aload_n 0, 1) := by decide +kernel
theorem d_W_law_156 : decode code 156 = .ok (.iload_n 3, 1) := by decide +kernel
theorem d_W_law_157 : decode code 157 = .ok (.iconst 2, 1) := by decide +kernel
theorem d_W_law_158 : decode code 158 = .ok (.iadd, 1) := by decide +kernel
theorem d_W_law_159 : decode code 159 = .ok (.iaload, 1) := by decide +kernel
theorem d_W_law_160 : decode code 160 = .ok (.aload_n 0, 1) := by decide +kernel
theorem d_W_law_161 : decode code 161 = .ok (.iload_n 3, 1) := by decide +kernel
theorem d_W_law_162 : decode code 162 = .ok (.iconst 3, 1) := by decide +kernel
theorem d_W_law_163 : decode code 163 = .ok (.iadd, 1) := by decide +kernel
theorem d_W_law_164 : decode code 164 = .ok (.iaload, 1) := by decide +kernel
theorem d_W_law_165 : decode code 165 = .ok (.aload_n 0, 1) := by decide +kernel
theorem d_W_law_166 : decode code 166 = .ok (.iload_n 3, 1) := by decide +kernel
theorem d_W_law_167 : decode code 167 = .ok (.iconst 4, 1) := by decide +kernel
theorem d_W_law_168 : decode code 168 = .ok (.iadd, 1) := by decide +kernel
theorem d_W_law_169 : decode code 169 = .ok (.iaload, 1) := by decide +kernel
theorem d_W_law_170 : decode code 170 = .ok (.aload_n 0, 1) := by decide +kernel
theorem d_W_law_171 : decode code 171 = .ok (.iload_n 3, 1) := by decide +kernel
theorem d_W_law_172 : decode code 172 = .ok (.iconst 5, 1) := by decide +kernel
theorem d_W_law_173 : decode code 173 = .ok (.iadd, 1) := by decide +kernel
theorem d_W_law_174 : decode code 174 = .ok (.iaload, 1) := by decide +kernel
theorem d_W_law_175 : decode code 175 = .ok (.invokevirtual 17, 3) := by decide +kernel
theorem d_W_law_178 : decode code 178 = .ok (.if_icmp .eq 466, 3) := by decide +kernel
theorem d_W_law_181 : decode code 181 = .ok (.iconst 0, 1) := by decide +kernel
theorem d_W_law_182 : decode code 182 = .ok (.ireturn, 1) := by decide +kernel
theorem d_W_law_183 : decode code 183 = .ok (.aload_n 1, 1) := by decide +kernel
theorem d_W_law_184 : decode code 184 = .ok (.aload_n 0, 1) := by decide +kernel
theorem d_W_law_185 : decode code 185 = .ok (.iload_n 3, 1) := by decide +kernel
theorem d_W_law_186 : decode code 186 = .ok (.iconst 1, 1) := by decide +kernel
theorem d_W_law_187 : decode code 187 = .ok (.iadd, 1) := by decide +kernel
theorem d_W_law_188 : decode code 188 = .ok (.iaload, 1) := by decide +kernel
theorem d_W_law_189 : decode code 189 = .ok (.invokevirtual 18, 3) := by decide +kernel
theorem d_W_law_192 : decode code 192 = .ok (.aload_n 2, 1) := by decide +kernel
theorem d_W_law_193 : decode code 193 = .ok (.aload_n 0, 1) := by decide +kernel
theorem d_W_law_194 : decode code 194 = .ok (.iload_n 3, 1) := by decide +kernel
theorem d_W_law_195 : decode code 195 = .ok (.iconst 1, 1) := by decide +kernel
theorem d_W_law_196 : decode code 196 = .ok (.iadd, 1) := by decide +kernel
theorem d_W_law_197 : decode code 197 = .ok (.iaload, 1) := by decide +kernel
theorem d_W_law_198 : decode code 198 = .ok (.invokevirtual 22, 3) := by decide +kernel
theorem d_W_law_201 : decode code 201 = .ok (.if_icmp .eq 443, 3) := by decide +kernel
theorem d_W_law_204 : decode code 204 = .ok (.iconst 0, 1) := by decide +kernel
theorem d_W_law_205 : decode code 205 = .ok (.ireturn, 1) := by decide +kernel
theorem d_W_law_206 : decode code 206 = .ok (.aload_n 1, 1) := by decide +kernel
theorem d_W_law_207 : decode code 207 = .ok (.invokevirtual 23, 3) := by decide +kernel
theorem d_W_law_210 : decode code 210 = .ok (.aload_n 2, 1) := by decide +kernel
theorem d_W_law_211 : decode code 211 = .ok (.invokevirtual 27, 3) := by decide +kernel
theorem d_W_law_214 : decode code 214 = .ok (.if_icmp .eq 430, 3) := by decide +kernel
theorem d_W_law_217 : decode code 217 = .ok (.iconst 0, 1) := by decide +kernel
theorem d_W_law_218 : decode code 218 = .ok (.ireturn, 1) := by decide +kernel
theorem d_W_law_219 : decode code 219 = .ok (.aload_n 1, 1) := by decide +kernel
theorem d_W_law_220 : decode code 220 = .ok (.aload_n 0, 1) := by decide +kernel
theorem d_W_law_221 : decode code 221 = .ok (.iload_n 3, 1) := by decide +kernel
theorem d_W_law_222 : decode code 222 = .ok (.iconst 1, 1) := by decide +kernel
theorem d_W_law_223 : decode code 223 = .ok (.iadd, 1) := by decide +kernel
theorem d_W_law_224 : decode code 224 = .ok (.iaload, 1) := by decide +kernel
theorem d_W_law_225 : decode code 225 = .ok (.invokevirtual 28, 3) := by decide +kernel
theorem d_W_law_228 : decode code 228 = .ok (.aload_n 2, 1) := by decide +kernel
theorem d_W_law_229 : decode code 229 = .ok (.aload_n 0, 1) := by decide +kernel
theorem d_W_law_230 : decode code 230 = .ok (.iload_n 3, 1) := by decide +kernel
theorem d_W_law_231 : decode code 231 = .ok (.iconst 1, 1) := by decide +kernel
theorem d_W_law_232 : decode code 232 = .ok (.iadd, 1) := by decide +kernel
theorem d_W_law_233 : decode code 233 = .ok (.iaload, 1) := by decide +kernel
theorem d_W_law_234 : decode code 234 = .ok (.invokevirtual 31, 3) := by decide +kernel
theorem d_W_law_237 : decode code 237 = .ok (.if_icmp .eq 407, 3) := by decide +kernel
theorem d_W_law_240 : decode code 240 = .ok (.iconst 0, 1) := by decide +kernel
theorem d_W_law_241 : decode code 241 = .ok (.ireturn, 1) := by decide +kernel
theorem d_W_law_242 : decode code 242 = .ok (.aload_n 1, 1) := by decide +kernel
theorem d_W_law_243 : decode code 243 = .ok (.invokevirtual 32, 3) := by decide +kernel
theorem d_W_law_246 : decode code 246 = .ok (.aload_n 2, 1) := by decide +kernel
theorem d_W_law_247 : decode code 247 = .ok (.invokevirtual 35, 3) := by decide +kernel
theorem d_W_law_250 : decode code 250 = .ok (.if_icmp .eq 394, 3) := by decide +kernel
theorem d_W_law_253 : decode code 253 = .ok (.iconst 0, 1) := by decide +kernel
theorem d_W_law_254 : decode code 254 = .ok (.ireturn, 1) := by decide +kernel
theorem d_W_law_255 : decode code 255 = .ok (.aload_n 1, 1) := by decide +kernel
theorem d_W_law_256 : decode code 256 = .ok (.aload_n 0, 1) := by decide +kernel
theorem d_W_law_257 : decode code 257 = .ok (.iload_n 3, 1) := by decide +kernel
theorem d_W_law_258 : decode code 258 = .ok (.iconst 1, 1) := by decide +kernel
theorem d_W_law_259 : decode code 259 = .ok (.iadd, 1) := by decide +kernel
theorem d_W_law_260 : decode code 260 = .ok (.iaload, 1) := by decide +kernel
theorem d_W_law_261 : decode code 261 = .ok (.aload_n 0, 1) := by decide +kernel
theorem d_W_law_262 : decode code 262 = .ok (.iload_n 3, 1) := by decide +kernel
theorem d_W_law_263 : decode code 263 = .ok (.iconst 2, 1) := by decide +kernel
theorem d_W_law_264 : decode code 264 = .ok (.iadd, 1) := by decide +kernel
theorem d_W_law_265 : decode code 265 = .ok (.iaload, 1) := by decide +kernel
theorem d_W_law_266 : decode code 266 = .ok (.invokevirtual 36, 3) := by decide +kernel
theorem d_W_law_269 : decode code 269 = .ok (.aload_n 2, 1) := by decide +kernel
theorem d_W_law_270 : decode code 270 = .ok (.aload_n 0, 1) := by decide +kernel
theorem d_W_law_271 : decode code 271 = .ok (.iload_n 3, 1) := by decide +kernel
theorem d_W_law_272 : decode code 272 = .ok (.iconst 1, 1) := by decide +kernel
theorem d_W_law_273 : decode code 273 = .ok (.iadd, 1) := by decide +kernel
theorem d_W_law_274 : decode code 274 = .ok (.iaload, 1) := by decide +kernel
theorem d_W_law_275 : decode code 275 = .ok (.aload_n 0, 1) := by decide +kernel
theorem d_W_law_276 : decode code 276 = .ok (.iload_n 3, 1) := by decide +kernel
theorem d_W_law_277 : decode code 277 = .ok (.iconst 2, 1) := by decide +kernel
theorem d_W_law_278 : decode code 278 = .ok (.iadd, 1) := by decide +kernel
theorem d_W_law_279 : decode code 279 = .ok (.iaload, 1) := by decide +kernel
theorem d_W_law_280 : decode code 280 = .ok (.invokevirtual 40, 3) := by decide +kernel
theorem d_W_law_283 : decode code 283 = .ok (.if_icmp .eq 361, 3) := by decide +kernel
theorem d_W_law_286 : decode code 286 = .ok (.iconst 0, 1) := by decide +kernel
theorem d_W_law_287 : decode code 287 = .ok (.ireturn, 1) := by decide +kernel
theorem d_W_law_288 : decode code 288 = .ok (.aload_n 1, 1) := by decide +kernel
theorem d_W_law_289 : decode code 289 = .ok (.invokevirtual 41, 3) := by decide +kernel
theorem d_W_law_292 : decode code 292 = .ok (.aload_n 2, 1) := by decide +kernel
theorem d_W_law_293 : decode code 293 = .ok (.invokevirtual 44, 3) := by decide +kernel
theorem d_W_law_296 : decode code 296 = .ok (.if_icmp .eq 348, 3) := by decide +kernel
theorem d_W_law_299 : decode code 299 = .ok (.iconst 0, 1) := by decide +kernel
theorem d_W_law_300 : decode code 300 = .ok (.ireturn, 1) := by decide +kernel
theorem d_W_law_301 : decode code 301 = .ok (.aload_n 1, 1) := by decide +kernel
theorem d_W_law_302 : decode code 302 = .ok (.aload_n 0, 1) := by decide +kernel
theorem d_W_law_303 : decode code 303 = .ok (.iload_n 3, 1) := by decide +kernel
theorem d_W_law_304 : decode code 304 = .ok (.iconst 1, 1) := by decide +kernel
theorem d_W_law_305 : decode code 305 = .ok (.iadd, 1) := by decide +kernel
theorem d_W_law_306 : decode code 306 = .ok (.iaload, 1) := by decide +kernel
theorem d_W_law_307 : decode code 307 = .ok (.invokevirtual 45, 3) := by decide +kernel
theorem d_W_law_310 : decode code 310 = .ok (.aload_n 2, 1) := by decide +kernel
theorem d_W_law_311 : decode code 311 = .ok (.aload_n 0, 1) := by decide +kernel
theorem d_W_law_312 : decode code 312 = .ok (.iload_n 3, 1) := by decide +kernel
theorem d_W_law_313 : decode code 313 = .ok (.iconst 1, 1) := by decide +kernel
theorem d_W_law_314 : decode code 314 = .ok (.iadd, 1) := by decide +kernel
theorem d_W_law_315 : decode code 315 = .ok (.iaload, 1) := by decide +kernel
theorem d_W_law_316 : decode code 316 = .ok (.invokevirtual 48, 3) := by decide +kernel
theorem d_W_law_319 : decode code 319 = .ok (.if_icmp .eq 325, 3) := by decide +kernel
theorem d_W_law_322 : decode code 322 = .ok (.iconst 0, 1) := by decide +kernel
theorem d_W_law_323 : decode code 323 = .ok (.ireturn, 1) := by decide +kernel
theorem d_W_law_324 : decode code 324 = .ok (.aload_n 1, 1) := by decide +kernel
theorem d_W_law_325 : decode code 325 = .ok (.aload_n 0, 1) := by decide +kernel
theorem d_W_law_326 : decode code 326 = .ok (.iload_n 3, 1) := by decide +kernel
theorem d_W_law_327 : decode code 327 = .ok (.iconst 1, 1) := by decide +kernel
theorem d_W_law_328 : decode code 328 = .ok (.iadd, 1) := by decide +kernel
theorem d_W_law_329 : decode code 329 = .ok (.iaload, 1) := by decide +kernel
theorem d_W_law_330 : decode code 330 = .ok (.aload_n 0, 1) := by decide +kernel
theorem d_W_law_331 : decode code 331 = .ok (.iload_n 3, 1) := by decide +kernel
theorem d_W_law_332 : decode code 332 = .ok (.iconst 2, 1) := by decide +kernel
theorem d_W_law_333 : decode code 333 = .ok (.iadd, 1) := by decide +kernel
theorem d_W_law_334 : decode code 334 = .ok (.iaload, 1) := by decide +kernel
theorem d_W_law_335 : decode code 335 = .ok (.invokevirtual 49, 3) := by decide +kernel
theorem d_W_law_338 : decode code 338 = .ok (.aload_n 2, 1) := by decide +kernel
theorem d_W_law_339 : decode code 339 = .ok (.aload_n 0, 1) := by decide +kernel
theorem d_W_law_340 : decode code 340 = .ok (.iload_n 3, 1) := by decide +kernel
theorem d_W_law_341 : decode code 341 = .ok (.iconst 1, 1) := by decide +kernel
theorem d_W_law_342 : decode code 342 = .ok (.iadd, 1) := by decide +kernel
theorem d_W_law_343 : decode code 343 = .ok (.iaload, 1) := by decide +kernel
theorem d_W_law_344 : decode code 344 = .ok (.aload_n 0, 1) := by decide +kernel
theorem d_W_law_345 : decode code 345 = .ok (.iload_n 3, 1) := by decide +kernel
theorem d_W_law_346 : decode code 346 = .ok (.iconst 2, 1) := by decide +kernel
theorem d_W_law_347 : decode code 347 = .ok (.iadd, 1) := by decide +kernel
theorem d_W_law_348 : decode code 348 = .ok (.iaload, 1) := by decide +kernel
theorem d_W_law_349 : decode code 349 = .ok (.invokevirtual 52, 3) := by decide +kernel
theorem d_W_law_352 : decode code 352 = .ok (.if_icmp .eq 292, 3) := by decide +kernel
theorem d_W_law_355 : decode code 355 = .ok (.iconst 0, 1) := by decide +kernel
theorem d_W_law_356 : decode code 356 = .ok (.ireturn, 1) := by decide +kernel
theorem d_W_law_357 : decode code 357 = .ok (.aload_n 1, 1) := by decide +kernel
theorem d_W_law_358 : decode code 358 = .ok (.aload_n 0, 1) := by decide +kernel
theorem d_W_law_359 : decode code 359 = .ok (.iload_n 3, 1) := by decide +kernel
theorem d_W_law_360 : decode code 360 = .ok (.iconst 1, 1) := by decide +kernel
theorem d_W_law_361 : decode code 361 = .ok (.iadd, 1) := by decide +kernel
theorem d_W_law_362 : decode code 362 = .ok (.iaload, 1) := by decide +kernel
theorem d_W_law_363 : decode code 363 = .ok (.aload_n 0, 1) := by decide +kernel
theorem d_W_law_364 : decode code 364 = .ok (.iload_n 3, 1) := by decide +kernel
theorem d_W_law_365 : decode code 365 = .ok (.iconst 2, 1) := by decide +kernel
theorem d_W_law_366 : decode code 366 = .ok (.iadd, 1) := by decide +kernel
theorem d_W_law_367 : decode code 367 = .ok (.iaload, 1) := by decide +kernel
theorem d_W_law_368 : decode code 368 = .ok (.invokevirtual 53, 3) := by decide +kernel
theorem d_W_law_371 : decode code 371 = .ok (.aload_n 2, 1) := by decide +kernel
theorem d_W_law_372 : decode code 372 = .ok (.aload_n 0, 1) := by decide +kernel
theorem d_W_law_373 : decode code 373 = .ok (.iload_n 3, 1) := by decide +kernel
theorem d_W_law_374 : decode code 374 = .ok (.iconst 1, 1) := by decide +kernel
theorem d_W_law_375 : decode code 375 = .ok (.iadd, 1) := by decide +kernel
theorem d_W_law_376 : decode code 376 = .ok (.iaload, 1) := by decide +kernel
theorem d_W_law_377 : decode code 377 = .ok (.aload_n 0, 1) := by decide +kernel
theorem d_W_law_378 : decode code 378 = .ok (.iload_n 3, 1) := by decide +kernel
theorem d_W_law_379 : decode code 379 = .ok (.iconst 2, 1) := by decide +kernel
theorem d_W_law_380 : decode code 380 = .ok (.iadd, 1) := by decide +kernel
theorem d_W_law_381 : decode code 381 = .ok (.iaload, 1) := by decide +kernel
theorem d_W_law_382 : decode code 382 = .ok (.invokevirtual 56, 3) := by decide +kernel
theorem d_W_law_385 : decode code 385 = .ok (.if_icmp .eq 259, 3) := by decide +kernel
theorem d_W_law_388 : decode code 388 = .ok (.iconst 0, 1) := by decide +kernel
theorem d_W_law_389 : decode code 389 = .ok (.ireturn, 1) := by decide +kernel
theorem d_W_law_390 : decode code 390 = .ok (.aload_n 1, 1) := by decide +kernel
theorem d_W_law_391 : decode code 391 = .ok (.aload_n 0, 1) := by decide +kernel
theorem d_W_law_392 : decode code 392 = .ok (.iload_n 3, 1) := by decide +kernel
theorem d_W_law_393 : decode code 393 = .ok (.iconst 1, 1) := by decide +kernel
theorem d_W_law_394 : decode code 394 = .ok (.iadd, 1) := by decide +kernel
theorem d_W_law_395 : decode code 395 = .ok (.iaload, 1) := by decide +kernel
theorem d_W_law_396 : decode code 396 = .ok (.aload_n 0, 1) := by decide +kernel
theorem d_W_law_397 : decode code 397 = .ok (.iload_n 3, 1) := by decide +kernel
theorem d_W_law_398 : decode code 398 = .ok (.iconst 2, 1) := by decide +kernel
theorem d_W_law_399 : decode code 399 = .ok (.iadd, 1) := by decide +kernel
theorem d_W_law_400 : decode code 400 = .ok (.iaload, 1) := by decide +kernel
theorem d_W_law_401 : decode code 401 = .ok (.invokevirtual 57, 3) := by decide +kernel
theorem d_W_law_404 : decode code 404 = .ok (.aload_n 2, 1) := by decide +kernel
theorem d_W_law_405 : decode code 405 = .ok (.aload_n 0, 1) := by decide +kernel
theorem d_W_law_406 : decode code 406 = .ok (.iload_n 3, 1) := by decide +kernel
theorem d_W_law_407 : decode code 407 = .ok (.iconst 1, 1) := by decide +kernel
theorem d_W_law_408 : decode code 408 = .ok (.iadd, 1) := by decide +kernel
theorem d_W_law_409 : decode code 409 = .ok (.iaload, 1) := by decide +kernel
theorem d_W_law_410 : decode code 410 = .ok (.aload_n 0, 1) := by decide +kernel
theorem d_W_law_411 : decode code 411 = .ok (.iload_n 3, 1) := by decide +kernel
theorem d_W_law_412 : decode code 412 = .ok (.iconst 2, 1) := by decide +kernel
theorem d_W_law_413 : decode code 413 = .ok (.iadd, 1) := by decide +kernel
theorem d_W_law_414 : decode code 414 = .ok (.iaload, 1) := by decide +kernel
theorem d_W_law_415 : decode code 415 = .ok (.invokevirtual 60, 3) := by decide +kernel
theorem d_W_law_418 : decode code 418 = .ok (.if_icmp .eq 226, 3) := by decide +kernel
theorem d_W_law_421 : decode code 421 = .ok (.iconst 0, 1) := by decide +kernel
theorem d_W_law_422 : decode code 422 = .ok (.ireturn, 1) := by decide +kernel
theorem d_W_law_423 : decode code 423 = .ok (.aload_n 1, 1) := by decide +kernel
theorem d_W_law_424 : decode code 424 = .ok (.aload_n 0, 1) := by decide +kernel
theorem d_W_law_425 : decode code 425 = .ok (.iload_n 3, 1) := by decide +kernel
theorem d_W_law_426 : decode code 426 = .ok (.iconst 1, 1) := by decide +kernel
theorem d_W_law_427 : decode code 427 = .ok (.iadd, 1) := by decide +kernel
theorem d_W_law_428 : decode code 428 = .ok (.iaload, 1) := by decide +kernel
theorem d_W_law_429 : decode code 429 = .ok (.invokevirtual 61, 3) := by decide +kernel
theorem d_W_law_432 : decode code 432 = .ok (.aload_n 2, 1) := by decide +kernel
theorem d_W_law_433 : decode code 433 = .ok (.aload_n 0, 1) := by decide +kernel
theorem d_W_law_434 : decode code 434 = .ok (.iload_n 3, 1) := by decide +kernel
theorem d_W_law_435 : decode code 435 = .ok (.iconst 1, 1) := by decide +kernel
theorem d_W_law_436 : decode code 436 = .ok (.iadd, 1) := by decide +kernel
theorem d_W_law_437 : decode code 437 = .ok (.iaload, 1) := by decide +kernel
theorem d_W_law_438 : decode code 438 = .ok (.invokevirtual 64, 3) := by decide +kernel
theorem d_W_law_441 : decode code 441 = .ok (.if_icmp .eq 203, 3) := by decide +kernel
theorem d_W_law_444 : decode code 444 = .ok (.iconst 0, 1) := by decide +kernel
theorem d_W_law_445 : decode code 445 = .ok (.ireturn, 1) := by decide +kernel
theorem d_W_law_446 : decode code 446 = .ok (.aload_n 1, 1) := by decide +kernel
theorem d_W_law_447 : decode code 447 = .ok (.aload_n 0, 1) := by decide +kernel
theorem d_W_law_448 : decode code 448 = .ok (.iload_n 3, 1) := by decide +kernel
theorem d_W_law_449 : decode code 449 = .ok (.iconst 1, 1) := by decide +kernel
theorem d_W_law_450 : decode code 450 = .ok (.iadd, 1) := by decide +kernel
theorem d_W_law_451 : decode code 451 = .ok (.iaload, 1) := by decide +kernel
theorem d_W_law_452 : decode code 452 = .ok (.aload_n 0, 1) := by decide +kernel
theorem d_W_law_453 : decode code 453 = .ok (.iload_n 3, 1) := by decide +kernel
theorem d_W_law_454 : decode code 454 = .ok (.iconst 2, 1) := by decide +kernel
theorem d_W_law_455 : decode code 455 = .ok (.iadd, 1) := by decide +kernel
theorem d_W_law_456 : decode code 456 = .ok (.iaload, 1) := by decide +kernel
theorem d_W_law_457 : decode code 457 = .ok (.invokevirtual 65, 3) := by decide +kernel
theorem d_W_law_460 : decode code 460 = .ok (.aload_n 2, 1) := by decide +kernel
theorem d_W_law_461 : decode code 461 = .ok (.aload_n 0, 1) := by decide +kernel
theorem d_W_law_462 : decode code 462 = .ok (.iload_n 3, 1) := by decide +kernel
theorem d_W_law_463 : decode code 463 = .ok (.iconst 1, 1) := by decide +kernel
theorem d_W_law_464 : decode code 464 = .ok (.iadd, 1) := by decide +kernel
theorem d_W_law_465 : decode code 465 = .ok (.iaload, 1) := by decide +kernel
theorem d_W_law_466 : decode code 466 = .ok (.aload_n 0, 1) := by decide +kernel
theorem d_W_law_467 : decode code 467 = .ok (.iload_n 3, 1) := by decide +kernel
theorem d_W_law_468 : decode code 468 = .ok (.iconst 2, 1) := by decide +kernel
theorem d_W_law_469 : decode code 469 = .ok (.iadd, 1) := by decide +kernel
theorem d_W_law_470 : decode code 470 = .ok (.iaload, 1) := by decide +kernel
theorem d_W_law_471 : decode code 471 = .ok (.invokevirtual 68, 3) := by decide +kernel
theorem d_W_law_474 : decode code 474 = .ok (.if_icmp .eq 170, 3) := by decide +kernel
theorem d_W_law_477 : decode code 477 = .ok (.iconst 0, 1) := by decide +kernel
theorem d_W_law_478 : decode code 478 = .ok (.ireturn, 1) := by decide +kernel
theorem d_W_law_479 : decode code 479 = .ok (.aload_n 1, 1) := by decide +kernel
theorem d_W_law_480 : decode code 480 = .ok (.aload_n 0, 1) := by decide +kernel
theorem d_W_law_481 : decode code 481 = .ok (.iload_n 3, 1) := by decide +kernel
theorem d_W_law_482 : decode code 482 = .ok (.iconst 1, 1) := by decide +kernel
theorem d_W_law_483 : decode code 483 = .ok (.iadd, 1) := by decide +kernel
theorem d_W_law_484 : decode code 484 = .ok (.iaload, 1) := by decide +kernel
theorem d_W_law_485 : decode code 485 = .ok (.invokevirtual 69, 3) := by decide +kernel
theorem d_W_law_488 : decode code 488 = .ok (.aload_n 2, 1) := by decide +kernel
theorem d_W_law_489 : decode code 489 = .ok (.aload_n 0, 1) := by decide +kernel
theorem d_W_law_490 : decode code 490 = .ok (.iload_n 3, 1) := by decide +kernel
theorem d_W_law_491 : decode code 491 = .ok (.iconst 1, 1) := by decide +kernel
theorem d_W_law_492 : decode code 492 = .ok (.iadd, 1) := by decide +kernel
theorem d_W_law_493 : decode code 493 = .ok (.iaload, 1) := by decide +kernel
theorem d_W_law_494 : decode code 494 = .ok (.invokevirtual 72, 3) := by decide +kernel
theorem d_W_law_497 : decode code 497 = .ok (.if_icmp .eq 147, 3) := by decide +kernel
theorem d_W_law_500 : decode code 500 = .ok (.iconst 0, 1) := by decide +kernel
theorem d_W_law_501 : decode code 501 = .ok (.ireturn, 1) := by decide +kernel
theorem d_W_law_502 : decode code 502 = .ok (.aload_n 1, 1) := by decide +kernel
theorem d_W_law_503 : decode code 503 = .ok (.aload_n 0, 1) := by decide +kernel
theorem d_W_law_504 : decode code 504 = .ok (.iload_n 3, 1) := by decide +kernel
theorem d_W_law_505 : decode code 505 = .ok (.iconst 1, 1) := by decide +kernel
theorem d_W_law_506 : decode code 506 = .ok (.iadd, 1) := by decide +kernel
theorem d_W_law_507 : decode code 507 = .ok (.iaload, 1) := by decide +kernel
theorem d_W_law_508 : decode code 508 = .ok (.aload_n 0, 1) := by decide +kernel
theorem d_W_law_509 : decode code 509 = .ok (.iload_n 3, 1) := by decide +kernel
theorem d_W_law_510 : decode code 510 = .ok (.iconst 2, 1) := by decide +kernel
theorem d_W_law_511 : decode code 511 = .ok (.iadd, 1) := by decide +kernel
theorem d_W_law_512 : decode code 512 = .ok (.iaload, 1) := by decide +kernel
theorem d_W_law_513 : decode code 513 = .ok (.invokevirtual 73, 3) := by decide +kernel
theorem d_W_law_516 : decode code 516 = .ok (.aload_n 2, 1) := by decide +kernel
theorem d_W_law_517 : decode code 517 = .ok (.aload_n 0, 1) := by decide +kernel
theorem d_W_law_518 : decode code 518 = .ok (.iload_n 3, 1) := by decide +kernel
theorem d_W_law_519 : decode code 519 = .ok (.iconst 1, 1) := by decide +kernel
theorem d_W_law_520 : decode code 520 = .ok (.iadd, 1) := by decide +kernel
theorem d_W_law_521 : decode code 521 = .ok (.iaload, 1) := by decide +kernel
theorem d_W_law_522 : decode code 522 = .ok (.aload_n 0, 1) := by decide +kernel
theorem d_W_law_523 : decode code 523 = .ok (.iload_n 3, 1) := by decide +kernel
theorem d_W_law_524 : decode code 524 = .ok (.iconst 2, 1) := by decide +kernel
theorem d_W_law_525 : decode code 525 = .ok (.iadd, 1) := by decide +kernel
theorem d_W_law_526 : decode code 526 = .ok (.iaload, 1) := by decide +kernel
theorem d_W_law_527 : decode code 527 = .ok (.invokevirtual 76, 3) := by decide +kernel
theorem d_W_law_530 : decode code 530 = .ok (.if_icmp .eq 114, 3) := by decide +kernel
theorem d_W_law_533 : decode code 533 = .ok (.iconst 0, 1) := by decide +kernel
theorem d_W_law_534 : decode code 534 = .ok (.ireturn, 1) := by decide +kernel
theorem d_W_law_535 : decode code 535 = .ok (.aload_n 1, 1) := by decide +kernel
theorem d_W_law_536 : decode code 536 = .ok (.aload_n 0, 1) := by decide +kernel
theorem d_W_law_537 : decode code 537 = .ok (.iload_n 3, 1) := by decide +kernel
theorem d_W_law_538 : decode code 538 = .ok (.iconst 1, 1) := by decide +kernel
theorem d_W_law_539 : decode code 539 = .ok (.iadd, 1) := by decide +kernel
theorem d_W_law_540 : decode code 540 = .ok (.iaload, 1) := by decide +kernel
theorem d_W_law_541 : decode code 541 = .ok (.aload_n 0, 1) := by decide +kernel
theorem d_W_law_542 : decode code 542 = .ok (.iload_n 3, 1) := by decide +kernel
theorem d_W_law_543 : decode code 543 = .ok (.iconst 2, 1) := by decide +kernel
theorem d_W_law_544 : decode code 544 = .ok (.iadd, 1) := by decide +kernel
theorem d_W_law_545 : decode code 545 = .ok (.iaload, 1) := by decide +kernel
theorem d_W_law_546 : decode code 546 = .ok (.aload_n 0, 1) := by decide +kernel
theorem d_W_law_547 : decode code 547 = .ok (.iload_n 3, 1) := by decide +kernel
theorem d_W_law_548 : decode code 548 = .ok (.iconst 3, 1) := by decide +kernel
theorem d_W_law_549 : decode code 549 = .ok (.iadd, 1) := by decide +kernel
theorem d_W_law_550 : decode code 550 = .ok (.iaload, 1) := by decide +kernel
theorem d_W_law_551 : decode code 551 = .ok (.invokevirtual 77, 3) := by decide +kernel
theorem d_W_law_554 : decode code 554 = .ok (.aload_n 2, 1) := by decide +kernel
theorem d_W_law_555 : decode code 555 = .ok (.aload_n 0, 1) := by decide +kernel
theorem d_W_law_556 : decode code 556 = .ok (.iload_n 3, 1) := by decide +kernel
theorem d_W_law_557 : decode code 557 = .ok (.iconst 1, 1) := by decide +kernel
theorem d_W_law_558 : decode code 558 = .ok (.iadd, 1) := by decide +kernel
theorem d_W_law_559 : decode code 559 = .ok (.iaload, 1) := by decide +kernel
theorem d_W_law_560 : decode code 560 = .ok (.aload_n 0, 1) := by decide +kernel
theorem d_W_law_561 : decode code 561 = .ok (.iload_n 3, 1) := by decide +kernel
theorem d_W_law_562 : decode code 562 = .ok (.iconst 2, 1) := by decide +kernel
theorem d_W_law_563 : decode code 563 = .ok (.iadd, 1) := by decide +kernel
theorem d_W_law_564 : decode code 564 = .ok (.iaload, 1) := by decide +kernel
theorem d_W_law_565 : decode code 565 = .ok (.aload_n 0, 1) := by decide +kernel
theorem d_W_law_566 : decode code 566 = .ok (.iload_n 3, 1) := by decide +kernel
theorem d_W_law_567 : decode code 567 = .ok (.iconst 3, 1) := by decide +kernel
theorem d_W_law_568 : decode code 568 = .ok (.iadd, 1) := by decide +kernel
theorem d_W_law_569 : decode code 569 = .ok (.iaload, 1) := by decide +kernel
theorem d_W_law_570 : decode code 570 = .ok (.invokevirtual 81, 3) := by decide +kernel
theorem d_W_law_573 : decode code 573 = .ok (.if_icmp .eq 71, 3) := by decide +kernel
theorem d_W_law_576 : decode code 576 = .ok (.iconst 0, 1) := by decide +kernel
theorem d_W_law_577 : decode code 577 = .ok (.ireturn, 1) := by decide +kernel
theorem d_W_law_578 : decode code 578 = .ok (.aload_n 1, 1) := by decide +kernel
theorem d_W_law_579 : decode code 579 = .ok (.aload_n 0, 1) := by decide +kernel
theorem d_W_law_580 : decode code 580 = .ok (.iload_n 3, 1) := by decide +kernel
theorem d_W_law_581 : decode code 581 = .ok (.iconst 1, 1) := by decide +kernel
theorem d_W_law_582 : decode code 582 = .ok (.iadd, 1) := by decide +kernel
theorem d_W_law_583 : decode code 583 = .ok (.iaload, 1) := by decide +kernel
theorem d_W_law_584 : decode code 584 = .ok (.aload_n 0, 1) := by decide +kernel
theorem d_W_law_585 : decode code 585 = .ok (.iload_n 3, 1) := by decide +kernel
theorem d_W_law_586 : decode code 586 = .ok (.iconst 2, 1) := by decide +kernel
theorem d_W_law_587 : decode code 587 = .ok (.iadd, 1) := by decide +kernel
theorem d_W_law_588 : decode code 588 = .ok (.iaload, 1) := by decide +kernel
theorem d_W_law_589 : decode code 589 = .ok (.aload_n 0, 1) := by decide +kernel
theorem d_W_law_590 : decode code 590 = .ok (.iload_n 3, 1) := by decide +kernel
theorem d_W_law_591 : decode code 591 = .ok (.iconst 3, 1) := by decide +kernel
theorem d_W_law_592 : decode code 592 = .ok (.iadd, 1) := by decide +kernel
theorem d_W_law_593 : decode code 593 = .ok (.iaload, 1) := by decide +kernel
theorem d_W_law_594 : decode code 594 = .ok (.invokevirtual 82, 3) := by decide +kernel
theorem d_W_law_597 : decode code 597 = .ok (.aload_n 2, 1) := by decide +kernel
theorem d_W_law_598 : decode code 598 = .ok (.aload_n 0, 1) := by decide +kernel
theorem d_W_law_599 : decode code 599 = .ok (.iload_n 3, 1) := by decide +kernel
theorem d_W_law_600 : decode code 600 = .ok (.iconst 1, 1) := by decide +kernel
theorem d_W_law_601 : decode code 601 = .ok (.iadd, 1) := by decide +kernel
theorem d_W_law_602 : decode code 602 = .ok (.iaload, 1) := by decide +kernel
theorem d_W_law_603 : decode code 603 = .ok (.aload_n 0, 1) := by decide +kernel
theorem d_W_law_604 : decode code 604 = .ok (.iload_n 3, 1) := by decide +kernel
theorem d_W_law_605 : decode code 605 = .ok (.iconst 2, 1) := by decide +kernel
theorem d_W_law_606 : decode code 606 = .ok (.iadd, 1) := by decide +kernel
theorem d_W_law_607 : decode code 607 = .ok (.iaload, 1) := by decide +kernel
theorem d_W_law_608 : decode code 608 = .ok (.aload_n 0, 1) := by decide +kernel
theorem d_W_law_609 : decode code 609 = .ok (.iload_n 3, 1) := by decide +kernel
theorem d_W_law_610 : decode code 610 = .ok (.iconst 3, 1) := by decide +kernel
theorem d_W_law_611 : decode code 611 = .ok (.iadd, 1) := by decide +kernel
theorem d_W_law_612 : decode code 612 = .ok (.iaload, 1) := by decide +kernel
theorem d_W_law_613 : decode code 613 = .ok (.invokevirtual 85, 3) := by decide +kernel
theorem d_W_law_616 : decode code 616 = .ok (.if_icmp .eq 28, 3) := by decide +kernel
theorem d_W_law_619 : decode code 619 = .ok (.iconst 0, 1) := by decide +kernel
theorem d_W_law_620 : decode code 620 = .ok (.ireturn, 1) := by decide +kernel
theorem d_W_law_621 : decode code 621 = .ok (.aload_n 1, 1) := by decide +kernel
theorem d_W_law_622 : decode code 622 = .ok (.aload_n 0, 1) := by decide +kernel
theorem d_W_law_623 : decode code 623 = .ok (.iload_n 3, 1) := by decide +kernel
theorem d_W_law_624 : decode code 624 = .ok (.iconst 1, 1) := by decide +kernel
theorem d_W_law_625 : decode code 625 = .ok (.iadd, 1) := by decide +kernel
theorem d_W_law_626 : decode code 626 = .ok (.iaload, 1) := by decide +kernel
theorem d_W_law_627 : decode code 627 = .ok (.invokevirtual 86, 3) := by decide +kernel
theorem d_W_law_630 : decode code 630 = .ok (.aload_n 2, 1) := by decide +kernel
theorem d_W_law_631 : decode code 631 = .ok (.aload_n 0, 1) := by decide +kernel
theorem d_W_law_632 : decode code 632 = .ok (.iload_n 3, 1) := by decide +kernel
theorem d_W_law_633 : decode code 633 = .ok (.iconst 1, 1) := by decide +kernel
theorem d_W_law_634 : decode code 634 = .ok (.iadd, 1) := by decide +kernel
theorem d_W_law_635 : decode code 635 = .ok (.iaload, 1) := by decide +kernel
theorem d_W_law_636 : decode code 636 = .ok (.invokevirtual 89, 3) := by decide +kernel
theorem d_W_law_639 : decode code 639 = .ok (.if_icmp .eq 5, 3) := by decide +kernel
theorem d_W_law_642 : decode code 642 = .ok (.iconst 0, 1) := by decide +kernel
theorem d_W_law_643 : decode code 643 = .ok (.ireturn, 1) := by decide +kernel
theorem d_W_law_644 : decode code 644 = .ok (.iinc 3 6, 3) := by decide +kernel
theorem d_W_law_647 : decode code 647 = .ok (.goto (-629), 3) := by decide +kernel
theorem d_W_law_650 : decode code 650 = .ok (.iconst 1, 1) := by decide +kernel
theorem d_W_law_651 : decode code 651 = .ok (.ireturn, 1) := by decide +kernel
end
section
/-! THE WALK'S OWN ROWS: what every walk has (CX), the world that it stands in (WH), contracts (MTi, MTl, MTv), and the kit's rows over them -/
def pt6 (j : Nat) : Int64 := if j = 0 then -6148914691236517206 else if j = 1 then -3689348814741910324 else if j = 2 then -1085102592571150096 else if j = 3 then -71777214294589696 else if j = 4 then -281470681808896 else -4294967296
def pat (j : Nat) : Value := .long (pt6 j)
abbrev TYS (ca : Nat → ClassId) : List (ClassId × FieldType) := [(ca 0, .int), (ca 1, .long), (ca 2, .boolean), (ca 3, .byte)]
def NW (U : State) : Prop := ∀ w ∈ nw_tbl, va_Nw w U
def EN (D : va_G) (ca : Nat → ClassId) (tp : Nat) (A : Nat → Prop) (U : State) (H : Heap) : Prop :=
  va_K D classes (TYS ca) U ∧ NW U ∧ va_Z R_U "PATTERNS" "[J" (.ref tp) A U H ∧ va_T .long tp 6 pat A U H
def WH (D : va_G) (A : Nat → Prop) (s : State) (ws : va_W) (H : Heap) (locs : List Loc) : Prop := va_P D classes ws H ∧ va_D A ws ∧ va_S A s.heap H locs
theorem NW.warm {s U : State} (hW : s.WarmedH U.vm) (h : NW s) : NW U := by
  intro w hw
  have h1 := h w hw
  have h2 : isNest w = true := (List.mem_filter.mp hw).2
  cases w <;> first | exact va_Nw.warmF hW h1 | exact va_Nw.warmM hW h1 | (simp [isNest] at h2)
theorem NW.same {u U : State} (hvm : u.vm = U.vm) (h : NW u) : NW U := by
  intro w hw
  have h1 := h w hw
  have h2 : isNest w = true := (List.mem_filter.mp hw).2
  cases w <;> first | exact va_Nw.same rfl hvm h1 | (simp [isNest] at h2)
theorem EN.same {D : va_G} {ca : Nat → ClassId} {tp : Nat} {A : Nat → Prop} {u U : State} {H : Heap} (hvm : u.vm = U.vm) (hv : u.vm.Alike U.vm) (h : EN D ca tp A u H) : EN D ca tp A U H :=
  ⟨va_K.moved hv h.1, NW.same hvm h.2.1, h.2.2.1.moved hv, h.2.2.2.moved hv⟩
theorem EN.call {D : va_G} {ca : Nat → ClassId} {tp : Nat} {A A' : Nat → Prop} {s U : State} {H : Heap} {locs : List Loc} (hE : EN D ca tp A s s.heap) (hS : va_S A s.heap H locs) (hF : ∀ q, A' q → A q) (hU : U.heap = H) (hW : s.WarmedH U.vm) : EN D ca tp A' U U.heap := by
  rw [hU]
  exact ⟨va_K.moved hW.alike hE.1, NW.warm hW hE.2.1, ((hE.2.2.1.kept hS.2.1).narrow hF).moved hW.alike, ((hE.2.2.2.kept hS.2.1).narrow hF).moved hW.alike⟩
def CX (p : Program) (s : State) (m : MethodId) (args : Array Value) (meth : Method) (c : Code) (cc : ByteArray) (nL : Nat) (rt : Option FieldType) (own nm : String) (D : va_G) (ca : Nat → ClassId) (tp : Nat) (A : Nat → Prop) : Prop :=
  p.tables.exec = Jvm.exec ∧ c.code = cc ∧ c.maxLocals = nL ∧ meth.sig.returnType = rt ∧ s.vm.findClass own = some m.cls ∧ (∀ w ∈ gw_tbl, w.before args s = true) ∧ meth.locks = false ∧ meth.name = nm ∧ EN D ca tp A s s.heap ∧ (∀ q, s.heap.size ≤ q → A q)
def PC (D : va_G) (ca : Nat → ClassId) (tp : Nat) (av : List Value) (ws : va_W) (sz : Nat) : Array Value → State → Prop :=
  va_Pc av (fun U => U.heap.size = sz ∧ EN D ca tp (va_A ws sz) U U.heap ∧ va_P D classes ws U.heap ∧ va_D (fun _ => True) ws)
def BW {S : Type} (D : va_G) (A : Nat → Prop) (W' : S → va_W) (u : S) (t : State) : Prop := va_P D classes (W' u) t.heap ∧ va_D A (W' u)
abbrev CW (y : MethodName) (cc : ByteArray) (nL : Nat) (rt : Option FieldType) : List Cond := Cond.code y cc nL rt :: gw_tbl
def MTi (l : Launch) (y : MethodName) (cc : ByteArray) (nL : Nat) (rt : Option FieldType) (rm : Room) (D : va_G) (ca : Nat → ClassId) (tp : Nat) (av : List Value) (ws : va_W) {S : Type} (post : Int32 → S → Prop) (W' : S → va_W) (mc ms : Nat) : Prop :=
  ∀ sz : Nat, Met l y (CW y cc nL rt) rm (PC D ca tp av ws sz) (va_Qi post (BW D (va_A ws sz) W') (va_A ws sz)) mc ms (va_A ws sz)
def MTl (l : Launch) (y : MethodName) (cc : ByteArray) (nL : Nat) (rt : Option FieldType) (rm : Room) (D : va_G) (ca : Nat → ClassId) (tp : Nat) (av : List Value) (ws : va_W) {S : Type} (post : Int64 → S → Prop) (W' : S → va_W) (mc ms : Nat) : Prop :=
  ∀ sz : Nat, Met l y (CW y cc nL rt) rm (PC D ca tp av ws sz) (va_Ql post (BW D (va_A ws sz) W') (va_A ws sz)) mc ms (va_A ws sz)
def MTv (l : Launch) (y : MethodName) (cc : ByteArray) (nL : Nat) (rt : Option FieldType) (rm : Room) (D : va_G) (ca : Nat → ClassId) (tp : Nat) (av : List Value) (ws : va_W) {S : Type} (post : S → Prop) (W' : S → va_W) (mc ms : Nat) : Prop :=
  ∀ sz : Nat, Met l y (CW y cc nL rt) rm (PC D ca tp av ws sz) (va_Qv post (BW D (va_A ws sz) W') (va_A ws sz)) mc ms (va_A ws sz)
abbrev QI {S : Type} (D : va_G) (A : Nat → Prop) (below : List Frame) (args : Array Value) (s : State) (post : Int32 → S → Prop) (W' : S → va_W) (mc ms : Nat) : State → Prop := MQ below (va_Qi post (BW D A W') A) args s mc ms A
abbrev QL {S : Type} (D : va_G) (A : Nat → Prop) (below : List Frame) (args : Array Value) (s : State) (post : Int64 → S → Prop) (W' : S → va_W) (mc ms : Nat) : State → Prop := MQ below (va_Ql post (BW D A W') A) args s mc ms A
abbrev QV {S : Type} (D : va_G) (A : Nat → Prop) (below : List Frame) (args : Array Value) (s : State) (post : S → Prop) (W' : S → va_W) (mc ms : Nat) : State → Prop := MQ below (va_Qv post (BW D A W') A) args s mc ms A
section XE
variable {l : Launch} {y : MethodName} {cc : ByteArray} {nL : Nat} {rt : Option FieldType} {rm : Room} {D : va_G} {ca : Nat → ClassId} {tp : Nat} {av : List Value} {ws : va_W} {S : Type} {W' : S → va_W} {mc ms : Nat} {own nm : String}
theorem x_entry {Qc : Nat → Array Value → State → Outcome → State → Prop} (hy : plainName y.cls = true) (ho : y.cls = own) (hn : y.name = nm) (hlen : (lg_sl av).length ≤ nL)
    (body : ∀ (p : Program) (e : Env) (s : State) (m : MethodId) (below : List Frame) (meth : Method) (c : Code) (A : Nat → Prop) (ls : Array Slot), A = va_A ws s.heap.size → CX p s m av.toArray meth c cc nL rt own nm D ca tp A → WH D A s ws s.heap [] → lv_has ls nL (lv_args 0 av) →
      W p l e rm s m av.toArray below meth c s.heap [] 0 0 (MQ below (Qc s.heap.size) av.toArray s mc ms A) (F0 m 0 ls [])) :
    ∀ sz : Nat, Met l y (CW y cc nL rt) rm (PC D ca tp av ws sz) (Qc sz) mc ms (va_A ws sz) := by
  intro sz
  refine Met.ofW (cc := cc) (maxL := nL) (ret := rt) hy rfl ?_
  intro p e s m args below meth c s₁ B hml hv
  obtain ⟨rfl, hsz, hE, hP, hD0⟩ := hv
  subst hsz; subst ho; subst hn
  have hts := atoms_spec (ws := CW y cc nL rt) B.pre
  have hD := hD0.self (sz := s.heap.size)
  rw [lg_entry_eq]
  exact body p e s m below meth c (va_A ws s.heap.size) _ rfl ⟨B.exec, B.bytes, hml, B.returns, findClass_of_methodNamed B.named, fun w hw => hts w (List.mem_cons_of_mem _ hw), B.notSynchronized, (name_of_methodNamed B.named B.method).1, hE, fun q h => Or.inr h⟩ ⟨hP, hD, va_S.rf⟩ (lv_entry av hlen)
theorem x_entryi {post : Int32 → S → Prop} (hy : plainName y.cls = true) (ho : y.cls = own) (hn : y.name = nm) (hlen : (lg_sl av).length ≤ nL)
    (body : ∀ (p : Program) (e : Env) (s : State) (m : MethodId) (below : List Frame) (meth : Method) (c : Code) (A : Nat → Prop) (ls : Array Slot), CX p s m av.toArray meth c cc nL rt own nm D ca tp A → WH D A s ws s.heap [] → lv_has ls nL (lv_args 0 av) →
      W p l e rm s m av.toArray below meth c s.heap [] 0 0 (QI D A below av.toArray s post W' mc ms) (F0 m 0 ls [])) : MTi l y cc nL rt rm D ca tp av ws post W' mc ms :=
  x_entry (Qc := fun sz => va_Qi post (BW D (va_A ws sz) W') (va_A ws sz)) hy ho hn hlen (fun p e s m below meth c A ls hAe C0 hw hl => by subst hAe; exact body p e s m below meth c _ ls C0 hw hl)
theorem x_entryl {post : Int64 → S → Prop} (hy : plainName y.cls = true) (ho : y.cls = own) (hn : y.name = nm) (hlen : (lg_sl av).length ≤ nL)
    (body : ∀ (p : Program) (e : Env) (s : State) (m : MethodId) (below : List Frame) (meth : Method) (c : Code) (A : Nat → Prop) (ls : Array Slot), CX p s m av.toArray meth c cc nL rt own nm D ca tp A → WH D A s ws s.heap [] → lv_has ls nL (lv_args 0 av) →
      W p l e rm s m av.toArray below meth c s.heap [] 0 0 (QL D A below av.toArray s post W' mc ms) (F0 m 0 ls [])) : MTl l y cc nL rt rm D ca tp av ws post W' mc ms :=
  x_entry (Qc := fun sz => va_Ql post (BW D (va_A ws sz) W') (va_A ws sz)) hy ho hn hlen (fun p e s m below meth c A ls hAe C0 hw hl => by subst hAe; exact body p e s m below meth c _ ls C0 hw hl)
theorem x_entryv {post : S → Prop} (hy : plainName y.cls = true) (ho : y.cls = own) (hn : y.name = nm) (hlen : (lg_sl av).length ≤ nL)
    (body : ∀ (p : Program) (e : Env) (s : State) (m : MethodId) (below : List Frame) (meth : Method) (c : Code) (A : Nat → Prop) (ls : Array Slot), CX p s m av.toArray meth c cc nL rt own nm D ca tp A → WH D A s ws s.heap [] → lv_has ls nL (lv_args 0 av) →
      W p l e rm s m av.toArray below meth c s.heap [] 0 0 (QV D A below av.toArray s post W' mc ms) (F0 m 0 ls [])) : MTv l y cc nL rt rm D ca tp av ws post W' mc ms :=
  x_entry (Qc := fun sz => va_Qv post (BW D (va_A ws sz) W') (va_A ws sz)) hy ho hn hlen (fun p e s m below meth c A ls hAe C0 hw hl => by subst hAe; exact body p e s m below meth c _ ls C0 hw hl)
end XE
section XR
variable {p : Program} {l : Launch} {e : Env} {R : Room} {s : State} {m : MethodId} {args : Array Value} {below : List Frame} {meth : Method} {c : Code} {H : Heap} {locs : List Loc} {cells slots : Nat} {Q : State → Prop} {cc : ByteArray} {pc : Nat} {ls : Array Slot} {rest : List Value} {D : va_G} {A : Nat → Prop} {a : Nat} {ws : va_W} {nL : Nat} {rt : Option FieldType} {own nm : String} {ca : Nat → ClassId} {tp : Nat}
theorem CX.hr (C0 : CX p s m args meth c cc nL rt own nm D ca tp A) : meth.sig.returnType = rt := C0.2.2.2.1
theorem CX.ho (C0 : CX p s m args meth c cc nL rt own nm D ca tp A) : s.vm.findClass own = some m.cls := C0.2.2.2.2.1
theorem CX.ts (C0 : CX p s m args meth c cc nL rt own nm D ca tp A) : ∀ w ∈ gw_tbl, w.before args s = true := C0.2.2.2.2.2.1
theorem CX.lk (C0 : CX p s m args meth c cc nL rt own nm D ca tp A) : meth.locks = false := C0.2.2.2.2.2.2.1
theorem CX.nme (C0 : CX p s m args meth c cc nL rt own nm D ca tp A) : meth.name = nm := C0.2.2.2.2.2.2.2.1
theorem CX.en (C0 : CX p s m args meth c cc nL rt own nm D ca tp A) : EN D ca tp A s s.heap := C0.2.2.2.2.2.2.2.2.1
theorem CX.ha (C0 : CX p s m args meth c cc nL rt own nm D ca tp A) : ∀ q, s.heap.size ≤ q → A q := C0.2.2.2.2.2.2.2.2.2
theorem WH.fr (C0 : CX p s m args meth c cc nL rt own nm D ca tp A) (hw : WH D A s ws H locs) : ∀ q, va_A ws H.size q → A q := by
  intro q h
  rcases h with ⟨k, e, h⟩ | h
  · exact hw.2.1.2 k (q, e) h
  · exact C0.ha q (Nat.le_trans hw.2.2.1 h)
theorem x_get (C0 : CX p s m args meth c cc nL rt own nm D ca tp A) (hw : WH D A s ws H locs) (q0 : Nat) {ci : Nat} {fs : List Value} (he : ws[q0]? = some (a, .inr (ci, fs))) {C : String} {T : u_T} {N : Nat} (hc : classes[ci]? = some (C, T, N)) (hin : ∀ w ∈ u_ws C T N, w ∈ gw_tbl) (k : Nat) (hk : k < N) {ref : String} {index : Nat} (hlink : Cond.fieldLink own index ref (T k).2.1 (T k).2.2.1 ∈ gw_tbl) (href : (T k).1 = ref) {v : Value} (hv : fs[k]? = some v) (hdg : decode cc pc = .ok (.getfield index, 3))
    (kk : W p l e R s m args below meth c H locs cells slots Q (F0 m (pc + 3) ls (v :: rest))) : W p l e R s m args below meth c H locs cells slots Q (F0 m pc ls (.ref a :: rest)) :=
  va_get C0.1 C0.2.1 C0.ts hin C0.ho C0.en.1 hw.1 q0 he hc k hk (C0.ts _ hlink) (fun x h => by rw [← href]; exact h) hv hdg kk
theorem x_getN (C0 : CX p s m args meth c cc nL rt own nm D ca tp A) (hw : WH D A s ws H locs) (q0 : Nat) {ci : Nat} {fs : List Value} (he : ws[q0]? = some (a, .inr (ci, fs))) {C : String} {T : u_T} {N : Nat} (hc : classes[ci]? = some (C, T, N)) (hin : ∀ w ∈ u_ws C T N, w ∈ gw_tbl) (k : Nat) (hk : k < N) {ref host : String} {index : Nat} (hlink : Cond.fieldLinkNest own index ref (T k).2.1 (T k).2.2.1 host ∈ nw_tbl) (href : (T k).1 = ref) {v : Value} (hv : fs[k]? = some v) (hdg : decode cc pc = .ok (.getfield index, 3))
    (kk : W p l e R s m args below meth c H locs cells slots Q (F0 m (pc + 3) ls (v :: rest))) : W p l e R s m args below meth c H locs cells slots Q (F0 m pc ls (.ref a :: rest)) :=
  va_getN C0.1 C0.2.1 C0.ts hin C0.ho C0.en.1 hw.1 q0 he hc k hk (va_Nw.use rfl (C0.en.2.1 _ hlink)) (fun x h => by rw [← href]; exact h) hv hdg kk
theorem x_put (C0 : CX p s m args meth c cc nL rt own nm D ca tp A) (hw : WH D A s ws H locs) (q0 : Nat) {ci : Nat} {fs : List Value} (he : ws[q0]? = some (a, .inr (ci, fs))) {C : String} {T : u_T} {N : Nat} (hc : classes[ci]? = some (C, T, N)) (hin : ∀ w ∈ u_ws C T N, w ∈ gw_tbl) {ty0 : Nat → FieldType} (hty : ∀ k, k < N → parseFieldDescriptor (T k).2.2.1 = some (ty0 k)) (hnm : ∀ a, a < N → ∀ b, b < N → a ≠ b → (T a).2.1 ≠ (T b).2.1) (k : Nat) (hk : k < N) {ref : String} {index : Nat} (hlink : Cond.fieldLink own index ref (T k).2.1 (T k).2.2.1 ∈ gw_tbl) (href : (T k).1 = ref) (hfin : (T k).2.2.2 = false) {v : Value} (hn : narrow (ty0 k) v = v) (hfit : fits (ty0 k) v = true) (hl : k < fs.length) {ws' : va_W} (hws : ws.set q0 (a, .inr (ci, fs.set k v)) = ws') (hdg : decode cc pc = .ok (.putfield index, 3))
    (kk : ∀ (H1 : Heap) (locs1 : List Loc), WH D A s ws' H1 locs1 → W p l e R s m args below meth c H1 locs1 cells slots Q (F0 m (pc + 3) ls rest)) : W p l e R s m args below meth c H locs cells slots Q (F0 m pc ls (v :: .ref a :: rest)) :=
  va_put C0.1 C0.2.1 C0.ts hin ty0 hty hnm C0.ho C0.en.1 hw.1 hw.2.1 hw.2.2 q0 he hc k hk (C0.ts _ hlink) (fun x h => by rw [← href]; exact h) hfin (hty k hk) hn hfit hl hdg (fun H1 locs1 h1 h2 h3 => kk H1 locs1 ⟨hws ▸ h1, hws ▸ h2, h3⟩)
theorem x_putN (C0 : CX p s m args meth c cc nL rt own nm D ca tp A) (hw : WH D A s ws H locs) (q0 : Nat) {ci : Nat} {fs : List Value} (he : ws[q0]? = some (a, .inr (ci, fs))) {C : String} {T : u_T} {N : Nat} (hc : classes[ci]? = some (C, T, N)) (hin : ∀ w ∈ u_ws C T N, w ∈ gw_tbl) {ty0 : Nat → FieldType} (hty : ∀ k, k < N → parseFieldDescriptor (T k).2.2.1 = some (ty0 k)) (hnm : ∀ a, a < N → ∀ b, b < N → a ≠ b → (T a).2.1 ≠ (T b).2.1) (k : Nat) (hk : k < N) {ref host : String} {index : Nat} (hlink : Cond.fieldLinkNest own index ref (T k).2.1 (T k).2.2.1 host ∈ nw_tbl) (href : (T k).1 = ref) (hfin : (T k).2.2.2 = false) {v : Value} (hn : narrow (ty0 k) v = v) (hfit : fits (ty0 k) v = true) (hl : k < fs.length) {ws' : va_W} (hws : ws.set q0 (a, .inr (ci, fs.set k v)) = ws') (hdg : decode cc pc = .ok (.putfield index, 3))
    (kk : ∀ (H1 : Heap) (locs1 : List Loc), WH D A s ws' H1 locs1 → W p l e R s m args below meth c H1 locs1 cells slots Q (F0 m (pc + 3) ls rest)) : W p l e R s m args below meth c H locs cells slots Q (F0 m pc ls (v :: .ref a :: rest)) :=
  va_putN C0.1 C0.2.1 C0.ts hin ty0 hty hnm C0.ho C0.en.1 hw.1 hw.2.1 hw.2.2 q0 he hc k hk (va_Nw.use rfl (C0.en.2.1 _ hlink)) (fun x h => by rw [← href]; exact h) hfin (hty k hk) hn hfit hl hdg (fun H1 locs1 h1 h2 h3 => kk H1 locs1 ⟨hws ▸ h1, hws ▸ h2, h3⟩)
theorem x_iald (C0 : CX p s m args meth c cc nL rt own nm D ca tp A) (hw : WH D A s ws H locs) (q0 : Nat) {n : Nat} {f : Nat → Int32} (ha : ws[q0]? = some (a, .inl (ca 0, n, .inl f))) {i : Int32} (hin : vp_in i n) (hdg : decode cc pc = .ok (.iaload, 1))
    (kk : W p l e R s m args below meth c H locs cells slots Q (F0 m (pc + 1) ls (.int (f i.toNatClampNeg) :: rest))) : W p l e R s m args below meth c H locs cells slots Q (F0 m pc ls (.int i :: .ref a :: rest)) :=
  va_iald C0.1 C0.2.1 C0.en.1 hw.1 q0 0 ha rfl hin hdg kk
theorem x_zald (C0 : CX p s m args meth c cc nL rt own nm D ca tp A) (hw : WH D A s ws H locs) (q0 : Nat) {n : Nat} {f : Nat → Int32} (ha : ws[q0]? = some (a, .inl (ca 2, n, .inl f))) {i : Int32} (hin : vp_in i n) (hdg : decode cc pc = .ok (.baload, 1))
    (kk : W p l e R s m args below meth c H locs cells slots Q (F0 m (pc + 1) ls (.int (f i.toNatClampNeg) :: rest))) : W p l e R s m args below meth c H locs cells slots Q (F0 m pc ls (.int i :: .ref a :: rest)) :=
  va_zald C0.1 C0.2.1 C0.en.1 hw.1 q0 2 ha rfl hin hdg kk
theorem x_bald (C0 : CX p s m args meth c cc nL rt own nm D ca tp A) (hw : WH D A s ws H locs) (q0 : Nat) {n : Nat} {f : Nat → Int32} (ha : ws[q0]? = some (a, .inl (ca 3, n, .inl f))) {i : Int32} (hin : vp_in i n) (hdg : decode cc pc = .ok (.baload, 1))
    (kk : W p l e R s m args below meth c H locs cells slots Q (F0 m (pc + 1) ls (.int (f i.toNatClampNeg) :: rest))) : W p l e R s m args below meth c H locs cells slots Q (F0 m pc ls (.int i :: .ref a :: rest)) :=
  va_bald C0.1 C0.2.1 C0.en.1 hw.1 q0 3 ha rfl hin hdg kk
theorem x_lald (C0 : CX p s m args meth c cc nL rt own nm D ca tp A) (hw : WH D A s ws H locs) (q0 : Nat) {n : Nat} {f : Nat → Int64} (ha : ws[q0]? = some (a, .inl (ca 1, n, .inr (.inl f)))) {i : Int32} (hin : vp_in i n) (hdg : decode cc pc = .ok (.laload, 1))
    (kk : W p l e R s m args below meth c H locs cells slots Q (F0 m (pc + 1) ls (.long (f i.toNatClampNeg) :: rest))) : W p l e R s m args below meth c H locs cells slots Q (F0 m pc ls (.int i :: .ref a :: rest)) :=
  va_lald C0.1 C0.2.1 C0.en.1 hw.1 q0 1 ha rfl hin hdg kk
theorem x_iast (C0 : CX p s m args meth c cc nL rt own nm D ca tp A) (hw : WH D A s ws H locs) (q0 : Nat) {n : Nat} {f : Nat → Int32} (ha : ws[q0]? = some (a, .inl (ca 0, n, .inl f))) {i x : Int32} (hin : vp_in i n) {ws' : va_W} (hws : ws.set q0 (a, .inl (ca 0, n, .inl (upd f i.toNatClampNeg x))) = ws') (hdg : decode cc pc = .ok (.iastore, 1))
    (kk : ∀ (H1 : Heap) (locs1 : List Loc), WH D A s ws' H1 locs1 → W p l e R s m args below meth c H1 locs1 cells slots Q (F0 m (pc + 1) ls rest)) : W p l e R s m args below meth c H locs cells slots Q (F0 m pc ls (.int x :: .int i :: .ref a :: rest)) :=
  va_iast C0.1 C0.2.1 C0.en.1 hw.1 hw.2.1 hw.2.2 q0 0 ha rfl hin hdg (fun H1 locs1 h1 h2 h3 => kk H1 locs1 ⟨hws ▸ h1, hws ▸ h2, h3⟩)
theorem x_zast (C0 : CX p s m args meth c cc nL rt own nm D ca tp A) (hw : WH D A s ws H locs) (q0 : Nat) {n : Nat} {f : Nat → Int32} (ha : ws[q0]? = some (a, .inl (ca 2, n, .inl f))) {i x : Int32} (hin : vp_in i n) {ws' : va_W} (hws : ws.set q0 (a, .inl (ca 2, n, .inl (upd f i.toNatClampNeg (vp_nar .boolean x)))) = ws') (hdg : decode cc pc = .ok (.bastore, 1))
    (kk : ∀ (H1 : Heap) (locs1 : List Loc), WH D A s ws' H1 locs1 → W p l e R s m args below meth c H1 locs1 cells slots Q (F0 m (pc + 1) ls rest)) : W p l e R s m args below meth c H locs cells slots Q (F0 m pc ls (.int x :: .int i :: .ref a :: rest)) :=
  va_zast C0.1 C0.2.1 C0.en.1 hw.1 hw.2.1 hw.2.2 q0 2 ha rfl hin hdg (fun H1 locs1 h1 h2 h3 => kk H1 locs1 ⟨hws ▸ h1, hws ▸ h2, h3⟩)
theorem x_bast (C0 : CX p s m args meth c cc nL rt own nm D ca tp A) (hw : WH D A s ws H locs) (q0 : Nat) {n : Nat} {f : Nat → Int32} (ha : ws[q0]? = some (a, .inl (ca 3, n, .inl f))) {i x : Int32} (hin : vp_in i n) {ws' : va_W} (hws : ws.set q0 (a, .inl (ca 3, n, .inl (upd f i.toNatClampNeg (vp_nar .byte x)))) = ws') (hdg : decode cc pc = .ok (.bastore, 1))
    (kk : ∀ (H1 : Heap) (locs1 : List Loc), WH D A s ws' H1 locs1 → W p l e R s m args below meth c H1 locs1 cells slots Q (F0 m (pc + 1) ls rest)) : W p l e R s m args below meth c H locs cells slots Q (F0 m pc ls (.int x :: .int i :: .ref a :: rest)) :=
  va_bast C0.1 C0.2.1 C0.en.1 hw.1 hw.2.1 hw.2.2 q0 3 ha rfl hin hdg (fun H1 locs1 h1 h2 h3 => kk H1 locs1 ⟨hws ▸ h1, hws ▸ h2, h3⟩)
theorem x_last (C0 : CX p s m args meth c cc nL rt own nm D ca tp A) (hw : WH D A s ws H locs) (q0 : Nat) {n : Nat} {f : Nat → Int64} (ha : ws[q0]? = some (a, .inl (ca 1, n, .inr (.inl f)))) {i : Int32} {x : Int64} (hin : vp_in i n) {ws' : va_W} (hws : ws.set q0 (a, .inl (ca 1, n, .inr (.inl (vp_updL f i.toNatClampNeg x)))) = ws') (hdg : decode cc pc = .ok (.lastore, 1))
    (kk : ∀ (H1 : Heap) (locs1 : List Loc), WH D A s ws' H1 locs1 → W p l e R s m args below meth c H1 locs1 cells slots Q (F0 m (pc + 1) ls rest)) : W p l e R s m args below meth c H locs cells slots Q (F0 m pc ls (.long x :: .int i :: .ref a :: rest)) :=
  va_last C0.1 C0.2.1 C0.en.1 hw.1 hw.2.1 hw.2.2 q0 1 ha rfl hin hdg (fun H1 locs1 h1 h2 h3 => kk H1 locs1 ⟨hws ▸ h1, hws ▸ h2, h3⟩)
theorem x_alen (C0 : CX p s m args meth c cc nL rt own nm D ca tp A) (hw : WH D A s ws H locs) (q0 t0 : Nat) {cA : ClassId} {x : vp_A} (ha : ws[q0]? = some (a, .inl (cA, x))) {ty : FieldType} (ht : (TYS ca)[t0]? = some (cA, ty)) {v : Int32} (hv : Int32.ofNat x.1 = v) (hdg : decode cc pc = .ok (.arraylength, 1))
    (kk : W p l e R s m args below meth c H locs cells slots Q (F0 m (pc + 1) ls (.int v :: rest))) : W p l e R s m args below meth c H locs cells slots Q (F0 m pc ls (.ref a :: rest)) :=
  va_alen C0.1 C0.2.1 C0.en.1 hw.1 q0 t0 ha ht hv hdg kk
theorem x_pats (C0 : CX p s m args meth c cc nL rt own nm D ca tp A) (hw : WH D A s ws H locs) {index : Nat} (hlink : Cond.fieldLink own index R_U "PATTERNS" "[J" ∈ gw_tbl) (hdg : decode cc pc = .ok (.getstatic index, 3))
    (kk : W p l e R s m args below meth c H locs cells slots Q (F0 m (pc + 3) ls (.ref tp :: rest))) : W p l e R s m args below meth c H locs cells slots Q (F0 m pc ls rest) :=
  va_gets C0.1 C0.2.1 C0.en.2.2.1 hw.2.2 C0.ho (C0.ts _ hlink) (fun _ h => h) hdg kk
theorem x_pat (C0 : CX p s m args meth c cc nL rt own nm D ca tp A) (hw : WH D A s ws H locs) {i : Int32} (hin : vp_in i 6) (hdg : decode cc pc = .ok (.laload, 1))
    (kk : W p l e R s m args below meth c H locs cells slots Q (F0 m (pc + 1) ls (.long (pt6 i.toNatClampNeg) :: rest))) : W p l e R s m args below meth c H locs cells slots Q (F0 m pc ls (.int i :: .ref tp :: rest)) :=
  va_tl C0.1 C0.2.1 C0.en.2.2.2 hw.2.2 hin (v := .long (pt6 i.toNatClampNeg)) rfl hdg kk
theorem x_ldc2 (C0 : CX p s m args meth c cc nL rt own nm D ca tp A) {index : Nat} {v : Int64} (hlink : Cond.constantLong own index v ∈ gw_tbl) (hdg : decode cc pc = .ok (.ldc2_w index, 3))
    (k : W p l e R s m args below meth c H locs cells slots Q (F0 m (pc + 3) ls (.long v :: rest))) : W p l e R s m args below meth c H locs cells slots Q (F0 m pc ls rest) :=
  lv_ldc2 C0.1 C0.2.1 C0.ho (C0.ts _ hlink) hdg k
/-! returns -/
theorem x_iret {S : Type} {post : Int32 → S → Prop} {W' : S → va_W} {v : Int32} (C0 : CX p s m args meth c cc nL (some .int) own nm D ca tp A) (hw : WH D A s ws H locs) (u : S) (hk : post v u) (hws : ws = W' u) (hdg : decode cc pc = .ok (.ireturn, 1)) :
    W p l e R s m args below meth c H locs cells slots (QI D A below args s post W' cells slots) (F0 m pc ls [.int v]) :=
  W.iret C0.1 C0.2.1 C0.hr (fun t ht hW => ⟨⟨v, u, rfl, hk, by rw [ht]; exact hws ▸ hw.1, hws ▸ hw.2.1⟩, hw.2.2.F ht⟩) hw.2.2.2.2 hdg C0.lk
theorem x_zret {S : Type} {post : Int32 → S → Prop} {W' : S → va_W} {v : Int32} (C0 : CX p s m args meth c cc nL (some .boolean) own nm D ca tp A) (hw : WH D A s ws H locs) (hn : narrow .boolean (.int v) = .int v) (u : S) (hk : post v u) (hws : ws = W' u) (hdg : decode cc pc = .ok (.ireturn, 1)) :
    W p l e R s m args below meth c H locs cells slots (QI D A below args s post W' cells slots) (F0 m pc ls [.int v]) :=
  W.zret C0.1 C0.2.1 C0.hr hn (fun t ht hW => ⟨⟨v, u, rfl, hk, by rw [ht]; exact hws ▸ hw.1, hws ▸ hw.2.1⟩, hw.2.2.F ht⟩) hw.2.2.2.2 hdg C0.lk
theorem x_lret {S : Type} {post : Int64 → S → Prop} {W' : S → va_W} {v : Int64} (C0 : CX p s m args meth c cc nL (some .long) own nm D ca tp A) (hw : WH D A s ws H locs) (u : S) (hk : post v u) (hws : ws = W' u) (hdg : decode cc pc = .ok (.lreturn, 1)) :
    W p l e R s m args below meth c H locs cells slots (QL D A below args s post W' cells slots) (F0 m pc ls [.long v]) :=
  W.lret C0.1 C0.2.1 C0.hr (fun t ht hW => ⟨⟨v, u, rfl, hk, by rw [ht]; exact hws ▸ hw.1, hws ▸ hw.2.1⟩, hw.2.2.F ht⟩) hw.2.2.2.2 hdg C0.lk
theorem x_vret {S : Type} {post : S → Prop} {W' : S → va_W} (C0 : CX p s m args meth c cc nL none own nm D ca tp A) (hw : WH D A s ws H locs) (u : S) (hk : post u) (hws : ws = W' u) (hdg : decode cc pc = .ok (.return_, 1)) :
    W p l e R s m args below meth c H locs cells slots (QV D A below args s post W' cells slots) (F0 m pc ls []) :=
  W.vret C0.1 C0.2.1 C0.hr (fun t ht hW => ⟨⟨u, rfl, hk, by rw [ht]; exact hws ▸ hw.1, hws ▸ hw.2.1⟩, hw.2.2.F ht⟩) hw.2.2.2.2 hdg C0.lk
/-! calls -/
def GY (y : MethodName) (cc : ByteArray) (nL : Nat) (rt : Option FieldType) (n : Nat) : Prop :=
  Cond.code y cc nL rt ∈ gw_tbl ∧ Cond.initialized y.cls ∈ gw_tbl ∧ y.cls ≠ "java/lang/invoke/MethodHandle" ∧ y.cls ≠ "java/lang/invoke/VarHandle" ∧ (parseMethodDescriptor y.desc).map (fun d => d.parameters.length) = some n
theorem GY.good {y : MethodName} {b : ByteArray} {k n : Nat} {rt' : Option FieldType} (G : GY y b k rt' n) : GoodIn gw_tbl (CW y b k rt') := by
  intro w hw
  have h : w ∈ gw_tbl := (List.mem_cons.mp hw).elim (fun e => e ▸ G.1) id
  exact ⟨h, good_of_word (List.mem_filter.mp h).2⟩
variable {y : MethodName} {b' : ByteArray} {k' n mc ms index : Nat} {rt' : Option FieldType} {rm : Room} {As st0 : List Value} {b : Nat} {lv : List (Nat × Value)} {Qc : Nat → Array Value → State → Outcome → State → Prop}
theorem PC.blind {av : List Value} {sz : Nat} : FrameBlind (PC D ca tp av ws sz) := fun a U g mk q => by
  obtain ⟨q0, q1, qE, qP, qD⟩ := q
  exact ⟨q0, q1, EN.same (u := U) (U := U.calling g mk a) rfl (Vm.Alike.refl U.vm) qE, qP, qD⟩
theorem PC.of {av : List Value} (C0 : CX p s m args meth c cc nL rt own nm D ca tp A) (hw : WH D A s ws H locs) (U : State) (hU : U.heap = H) (hW : s.WarmedH U.vm) : PC D ca tp av ws H.size av.toArray U :=
  ⟨rfl, by rw [hU], EN.call C0.en hw.2.2 (WH.fr C0 hw) hU hW, by rw [hU]; exact hw.1, hw.2.1.weaken (fun _ _ _ _ => trivial)⟩
theorem x_runV (C0 : CX p s m args meth c cc nL rt own nm D ca tp A) (hw : WH D A s ws H locs) (hl : lv_has ls nL lv) (hM : ∀ sz : Nat, Met l y (CW y b' k' rt') rm (PC D ca tp (.ref b :: As) ws sz) (Qc sz) mc ms (va_A ws sz)) (G : GY y b' k' rt' n) (hlink : Cond.methodLink own index y ∈ gw_tbl) (hsel : Cond.selects y.cls y y ∈ gw_tbl ∧ Cond.instanceMethod y ∈ gw_tbl) (q0 : Nat) {ci : Nat} {q : vw_C} {fs : List Value} (he : ws[q0]? = some (b, .inr (ci, fs))) (hc : classes[ci]? = some q) (hq : q.1 = y.cls) (hn : As.length = n) (hst : st0 = As.reverse ++ .ref b :: rest) (hW : (rest.map fun v => v.category).sum ≤ 8) (h0 : rm.cells = mc ∧ rm.slots = ms) (hR : rm.frames + 1 ≤ R.frames ∧ 8 + (k' + 11) + rm.locals ≤ R.locals) (hf : cells + mc ≤ R.cells ∧ slots + ms ≤ R.slots) (hdg : decode cc pc = .ok (.invokevirtual index, 3)) :
    va_Run p l e R s m args below meth c H locs cells slots mc ms (F0 m pc ls st0) rest (Qc H.size (Value.ref b :: As).toArray) (va_A ws H.size) :=
  va_runV ⟨C0.1, C0.2.1, C0.2.2.1, C0.ho, C0.ts⟩ (hM H.size) (C := y.cls) ⟨callB_of n C0.ts G.good rfl h0.1 h0.2 (C0.ts _ G.2.1) (C0.ts _ hlink) G.2.2 hR, C0.ts _ hsel.2, C0.ts _ hsel.1⟩
    ⟨PC.blind, hq ▸ va_recv C0.en.1 hw.1 hc he, fun U hU hW => PC.of C0 hw U hU hW⟩ rfl hn hl.1 hst (lv_room hW) hdg hf
theorem x_runS (C0 : CX p s m args meth c cc nL rt own nm D ca tp A) (hw : WH D A s ws H locs) (hl : lv_has ls nL lv) (hM : ∀ sz : Nat, Met l y (CW y b' k' rt') rm (PC D ca tp As ws sz) (Qc sz) mc ms (va_A ws sz)) (G : GY y b' k' rt' n) (hlink : Cond.methodLink own index y ∈ gw_tbl) (hsel : Cond.static y ∈ gw_tbl) (hn : As.length = n) (hst : st0 = As.reverse ++ rest) (hW : (rest.map fun v => v.category).sum ≤ 8) (h0 : rm.cells = mc ∧ rm.slots = ms) (hR : rm.frames + 1 ≤ R.frames ∧ 8 + (k' + 11) + rm.locals ≤ R.locals) (hf : cells + mc ≤ R.cells ∧ slots + ms ≤ R.slots) (hdg : decode cc pc = .ok (.invokestatic index, 3)) :
    va_Run p l e R s m args below meth c H locs cells slots mc ms (F0 m pc ls st0) rest (Qc H.size As.toArray) (va_A ws H.size) :=
  va_runS ⟨C0.1, C0.2.1, C0.2.2.1, C0.ho, C0.ts⟩ (hM H.size) ⟨callB_of n C0.ts G.good rfl h0.1 h0.2 (C0.ts _ G.2.1) (C0.ts _ hlink) G.2.2 hR, C0.ts _ hsel⟩
    ⟨PC.blind, fun U hU hW => PC.of C0 hw U hU hW⟩ rfl hn hl.1 hst (lv_room hW) hdg hf
theorem x_runSN {host : String} (C0 : CX p s m args meth c cc nL rt own nm D ca tp A) (hw : WH D A s ws H locs) (hl : lv_has ls nL lv) (hM : ∀ sz : Nat, Met l y (CW y b' k' rt') rm (PC D ca tp As ws sz) (Qc sz) mc ms (va_A ws sz)) (G : GY y b' k' rt' n) (hlink : Cond.methodLinkNest own index y host ∈ nw_tbl) (hsel : Cond.static y ∈ gw_tbl) (hn : As.length = n) (hst : st0 = As.reverse ++ rest) (hW : (rest.map fun v => v.category).sum ≤ 8) (h0 : rm.cells = mc ∧ rm.slots = ms) (hR : rm.frames + 1 ≤ R.frames ∧ 8 + (k' + 11) + rm.locals ≤ R.locals) (hf : cells + mc ≤ R.cells ∧ slots + ms ≤ R.slots) (hdg : decode cc pc = .ok (.invokestatic index, 3)) :
    va_Run p l e R s m args below meth c H locs cells slots mc ms (F0 m pc ls st0) rest (Qc H.size As.toArray) (va_A ws H.size) :=
  va_runSN ⟨C0.1, C0.2.1, C0.2.2.1, C0.ho, C0.ts⟩ (hM H.size) ⟨va_cnB n C0.ts G.good rfl h0.1 h0.2 (C0.en.2.1 _ hlink) (C0.ts _ G.2.1) G.2.2 hR, C0.ts _ hsel, trivial⟩
    ⟨PC.blind, fun U hU hW => PC.of C0 hw U hU hW⟩ rfl hn hl.1 hst (lv_room hW) hdg hf
theorem x_runI (C0 : CX p s m args meth c cc nL rt own nm D ca tp A) (hw : WH D A s ws H locs) (hl : lv_has ls nL lv) (hM : ∀ sz : Nat, Met l y (CW y b' k' none) rm (PC D ca tp (.ref b :: As) ws sz) (Qc sz) mc ms (va_A ws sz)) (G : GY y b' k' none n) (hlink : Cond.methodLink own index y ∈ gw_tbl) (hsel : Cond.instanceMethod y ∈ gw_tbl) (hy : y.name = "<init>") (hn : As.length = n) (hst : st0 = As.reverse ++ .ref b :: rest) (hW : (rest.map fun v => v.category).sum ≤ 8) (h0 : rm.cells = mc ∧ rm.slots = ms) (hR : rm.frames + 1 ≤ R.frames ∧ 8 + (k' + 11) + rm.locals ≤ R.locals) (hf : cells + mc ≤ R.cells ∧ slots + ms ≤ R.slots) (hdg : decode cc pc = .ok (.invokespecial index, 3)) :
    va_Run p l e R s m args below meth c H locs cells slots mc ms (F0 m pc ls st0) rest (Qc H.size (Value.ref b :: As).toArray) (va_A ws H.size) :=
  va_runI ⟨C0.1, C0.2.1, C0.2.2.1, C0.ho, C0.ts⟩ (hM H.size) ⟨callB_of n C0.ts G.good rfl h0.1 h0.2 (C0.ts _ G.2.1) (C0.ts _ hlink) G.2.2 hR, hy, C0.ts _ hsel⟩
    ⟨PC.blind, fun U hU hW => PC.of C0 hw U hU hW⟩ rfl hn hl.1 hst (lv_room hW) hdg hf
theorem x_runIN {host : String} (C0 : CX p s m args meth c cc nL rt own nm D ca tp A) (hw : WH D A s ws H locs) (hl : lv_has ls nL lv) (hM : ∀ sz : Nat, Met l y (CW y b' k' none) rm (PC D ca tp (.ref b :: As) ws sz) (Qc sz) mc ms (va_A ws sz)) (G : GY y b' k' none n) (hlink : Cond.methodLinkNest own index y host ∈ nw_tbl) (hsel : Cond.instanceMethod y ∈ gw_tbl) (hy : y.name = "<init>") (hn : As.length = n) (hst : st0 = As.reverse ++ .ref b :: rest) (hW : (rest.map fun v => v.category).sum ≤ 8) (h0 : rm.cells = mc ∧ rm.slots = ms) (hR : rm.frames + 1 ≤ R.frames ∧ 8 + (k' + 11) + rm.locals ≤ R.locals) (hf : cells + mc ≤ R.cells ∧ slots + ms ≤ R.slots) (hdg : decode cc pc = .ok (.invokespecial index, 3)) :
    va_Run p l e R s m args below meth c H locs cells slots mc ms (F0 m pc ls st0) rest (Qc H.size (Value.ref b :: As).toArray) (va_A ws H.size) :=
  va_runIN ⟨C0.1, C0.2.1, C0.2.2.1, C0.ho, C0.ts⟩ (hM H.size) ⟨va_cnB n C0.ts G.good rfl h0.1 h0.2 (C0.en.2.1 _ hlink) (C0.ts _ G.2.1) G.2.2 hR, hy, C0.ts _ hsel⟩
    ⟨PC.blind, fun U hU hW => PC.of C0 hw U hU hW⟩ rfl hn hl.1 hst (lv_room hW) hdg hf
theorem x_calli {S : Type} {post : Int32 → S → Prop} {W' : S → va_W} {av : Array Value} (C0 : CX p s m args meth c cc nL rt own nm D ca tp A) (hw : WH D A s ws H locs)
    (hr : va_Run p l e R s m args below meth c H locs cells slots mc ms (F0 m pc ls st0) rest (va_Qi post (BW D (va_A ws H.size) W') (va_A ws H.size) av) (va_A ws H.size))
    (kk : ∀ (r : Int32) (u : S) (H1 : Heap) (locs1 : List Loc), post r u → WH D A s (W' u) H1 locs1 → W p l e R s m args below meth c H1 locs1 (cells + mc) (slots + ms) Q (F0 m (pc + 3) ls (.int r :: rest))) : W p l e R s m args below meth c H locs cells slots Q (F0 m pc ls st0) :=
  va_calli hr hw.2.2 (fun q _ h => WH.fr C0 hw q h) (WH.fr C0 hw) (fun r u t H1 locs1 ht _ hp hB _ _ hS => kk r u H1 locs1 hp ⟨ht ▸ hB.1, hB.2.weaken (fun _ q _ h => WH.fr C0 hw q.1 h), hS⟩)
theorem x_calll {S : Type} {post : Int64 → S → Prop} {W' : S → va_W} {av : Array Value} (C0 : CX p s m args meth c cc nL rt own nm D ca tp A) (hw : WH D A s ws H locs)
    (hr : va_Run p l e R s m args below meth c H locs cells slots mc ms (F0 m pc ls st0) rest (va_Ql post (BW D (va_A ws H.size) W') (va_A ws H.size) av) (va_A ws H.size))
    (kk : ∀ (r : Int64) (u : S) (H1 : Heap) (locs1 : List Loc), post r u → WH D A s (W' u) H1 locs1 → W p l e R s m args below meth c H1 locs1 (cells + mc) (slots + ms) Q (F0 m (pc + 3) ls (.long r :: rest))) : W p l e R s m args below meth c H locs cells slots Q (F0 m pc ls st0) :=
  va_calll hr hw.2.2 (fun q _ h => WH.fr C0 hw q h) (WH.fr C0 hw) (fun r u t H1 locs1 ht _ hp hB _ _ hS => kk r u H1 locs1 hp ⟨ht ▸ hB.1, hB.2.weaken (fun _ q _ h => WH.fr C0 hw q.1 h), hS⟩)
theorem x_callv {S : Type} {post : S → Prop} {W' : S → va_W} {av : Array Value} (C0 : CX p s m args meth c cc nL rt own nm D ca tp A) (hw : WH D A s ws H locs)
    (hr : va_Run p l e R s m args below meth c H locs cells slots mc ms (F0 m pc ls st0) rest (va_Qv post (BW D (va_A ws H.size) W') (va_A ws H.size) av) (va_A ws H.size))
    (kk : ∀ (u : S) (H1 : Heap) (locs1 : List Loc), post u → WH D A s (W' u) H1 locs1 → W p l e R s m args below meth c H1 locs1 (cells + mc) (slots + ms) Q (F0 m (pc + 3) ls rest)) : W p l e R s m args below meth c H locs cells slots Q (F0 m pc ls st0) :=
  va_callv hr hw.2.2 (fun q _ h => WH.fr C0 hw q h) (WH.fr C0 hw) (fun u t H1 locs1 ht _ hp hB _ _ hS => kk u H1 locs1 hp ⟨ht ▸ hB.1, hB.2.weaken (fun _ q _ h => WH.fr C0 hw q.1 h), hS⟩)
end XR
/-! shifts by name -/
def J_iushr (x y : Int32) : Int32 := (x.toUInt32 >>> (y.toUInt32 &&& Int32.toUInt32 31)).toInt32
def J_lushr (x : Int64) (y : Int32) : Int64 := (x.toUInt64 >>> (y.toInt64.toUInt64 &&& Int64.toUInt64 63)).toInt64
def J_lshl (x : Int64) (y : Int32) : Int64 := x <<< (y.toInt64 &&& 63)
def J_lshr (x : Int64) (y : Int32) : Int64 := x >>> (y.toInt64 &&& 63)
end
section
section XC
variable {p : Program} {l : Launch} {e : Env} {R : Room} {s : State} {m : MethodId} {args : Array Value} {below : List Frame} {meth : Method} {c : Code} {H : Heap} {locs : List Loc} {cells slots : Nat} {Q : State → Prop} {cc : ByteArray} {pc : Nat} {ls : Array Slot} {rest : List Value} {D : va_G} {A : Nat → Prop} {a : Nat} {ws : va_W} {nL : Nat} {rt : Option FieldType} {own nm : String} {ca : Nat → ClassId} {tp : Nat} {y : MethodName} {b' : ByteArray} {k' n mc ms index : Nat} {rt' : Option FieldType} {rm : Room} {As st0 : List Value} {b : Nat} {lv : List (Nat × Value)} {S : Type} {W' : S → va_W} {host : String}
theorem x_callVi {post : Int32 → S → Prop} (C0 : CX p s m args meth c cc nL rt own nm D ca tp A) (hw : WH D A s ws H locs) (hl : lv_has ls nL lv) (hM : MTi l y b' k' rt' rm D ca tp (.ref b :: As) ws post W' mc ms) (G : GY y b' k' rt' n) (hlink : Cond.methodLink own index y ∈ gw_tbl) (hsel : Cond.selects y.cls y y ∈ gw_tbl ∧ Cond.instanceMethod y ∈ gw_tbl) (q0 : Nat) {ci : Nat} {q : vw_C} {fs : List Value} (he : ws[q0]? = some (b, .inr (ci, fs))) (hc : classes[ci]? = some q) (hq : q.1 = y.cls) (hn : As.length = n) (hst : st0 = As.reverse ++ .ref b :: rest) (hW : (rest.map fun v => v.category).sum ≤ 8) (h0 : rm.cells = mc ∧ rm.slots = ms) (hR : rm.frames + 1 ≤ R.frames ∧ 8 + (k' + 11) + rm.locals ≤ R.locals) (hf : cells + mc ≤ R.cells ∧ slots + ms ≤ R.slots) (hdg : decode cc pc = .ok (.invokevirtual index, 3))
    (kk : ∀ (r : Int32) (u : S) (H1 : Heap) (locs1 : List Loc), post r u → WH D A s (W' u) H1 locs1 → W p l e R s m args below meth c H1 locs1 (cells + mc) (slots + ms) Q (F0 m (pc + 3) ls (.int r :: rest))) : W p l e R s m args below meth c H locs cells slots Q (F0 m pc ls st0) :=
  x_calli C0 hw (x_runV C0 hw hl hM G hlink hsel q0 he hc hq hn hst hW h0 hR hf hdg) kk
theorem x_callVl {post : Int64 → S → Prop} (C0 : CX p s m args meth c cc nL rt own nm D ca tp A) (hw : WH D A s ws H locs) (hl : lv_has ls nL lv) (hM : MTl l y b' k' rt' rm D ca tp (.ref b :: As) ws post W' mc ms) (G : GY y b' k' rt' n) (hlink : Cond.methodLink own index y ∈ gw_tbl) (hsel : Cond.selects y.cls y y ∈ gw_tbl ∧ Cond.instanceMethod y ∈ gw_tbl) (q0 : Nat) {ci : Nat} {q : vw_C} {fs : List Value} (he : ws[q0]? = some (b, .inr (ci, fs))) (hc : classes[ci]? = some q) (hq : q.1 = y.cls) (hn : As.length = n) (hst : st0 = As.reverse ++ .ref b :: rest) (hW : (rest.map fun v => v.category).sum ≤ 8) (h0 : rm.cells = mc ∧ rm.slots = ms) (hR : rm.frames + 1 ≤ R.frames ∧ 8 + (k' + 11) + rm.locals ≤ R.locals) (hf : cells + mc ≤ R.cells ∧ slots + ms ≤ R.slots) (hdg : decode cc pc = .ok (.invokevirtual index, 3))
    (kk : ∀ (r : Int64) (u : S) (H1 : Heap) (locs1 : List Loc), post r u → WH D A s (W' u) H1 locs1 → W p l e R s m args below meth c H1 locs1 (cells + mc) (slots + ms) Q (F0 m (pc + 3) ls (.long r :: rest))) : W p l e R s m args below meth c H locs cells slots Q (F0 m pc ls st0) :=
  x_calll C0 hw (x_runV C0 hw hl hM G hlink hsel q0 he hc hq hn hst hW h0 hR hf hdg) kk
theorem x_callVv {post : S → Prop} (C0 : CX p s m args meth c cc nL rt own nm D ca tp A) (hw : WH D A s ws H locs) (hl : lv_has ls nL lv) (hM : MTv l y b' k' rt' rm D ca tp (.ref b :: As) ws post W' mc ms) (G : GY y b' k' rt' n) (hlink : Cond.methodLink own index y ∈ gw_tbl) (hsel : Cond.selects y.cls y y ∈ gw_tbl ∧ Cond.instanceMethod y ∈ gw_tbl) (q0 : Nat) {ci : Nat} {q : vw_C} {fs : List Value} (he : ws[q0]? = some (b, .inr (ci, fs))) (hc : classes[ci]? = some q) (hq : q.1 = y.cls) (hn : As.length = n) (hst : st0 = As.reverse ++ .ref b :: rest) (hW : (rest.map fun v => v.category).sum ≤ 8) (h0 : rm.cells = mc ∧ rm.slots = ms) (hR : rm.frames + 1 ≤ R.frames ∧ 8 + (k' + 11) + rm.locals ≤ R.locals) (hf : cells + mc ≤ R.cells ∧ slots + ms ≤ R.slots) (hdg : decode cc pc = .ok (.invokevirtual index, 3))
    (kk : ∀ (u : S) (H1 : Heap) (locs1 : List Loc), post u → WH D A s (W' u) H1 locs1 → W p l e R s m args below meth c H1 locs1 (cells + mc) (slots + ms) Q (F0 m (pc + 3) ls rest)) : W p l e R s m args below meth c H locs cells slots Q (F0 m pc ls st0) :=
  x_callv C0 hw (x_runV C0 hw hl hM G hlink hsel q0 he hc hq hn hst hW h0 hR hf hdg) kk
theorem x_callSi {post : Int32 → S → Prop} (C0 : CX p s m args meth c cc nL rt own nm D ca tp A) (hw : WH D A s ws H locs) (hl : lv_has ls nL lv) (hM : MTi l y b' k' rt' rm D ca tp As ws post W' mc ms) (G : GY y b' k' rt' n) (hlink : Cond.methodLink own index y ∈ gw_tbl) (hsel : Cond.static y ∈ gw_tbl) (hn : As.length = n) (hst : st0 = As.reverse ++ rest) (hW : (rest.map fun v => v.category).sum ≤ 8) (h0 : rm.cells = mc ∧ rm.slots = ms) (hR : rm.frames + 1 ≤ R.frames ∧ 8 + (k' + 11) + rm.locals ≤ R.locals) (hf : cells + mc ≤ R.cells ∧ slots + ms ≤ R.slots) (hdg : decode cc pc = .ok (.invokestatic index, 3))
    (kk : ∀ (r : Int32) (u : S) (H1 : Heap) (locs1 : List Loc), post r u → WH D A s (W' u) H1 locs1 → W p l e R s m args below meth c H1 locs1 (cells + mc) (slots + ms) Q (F0 m (pc + 3) ls (.int r :: rest))) : W p l e R s m args below meth c H locs cells slots Q (F0 m pc ls st0) :=
  x_calli C0 hw (x_runS C0 hw hl hM G hlink hsel hn hst hW h0 hR hf hdg) kk
theorem x_callSl {post : Int64 → S → Prop} (C0 : CX p s m args meth c cc nL rt own nm D ca tp A) (hw : WH D A s ws H locs) (hl : lv_has ls nL lv) (hM : MTl l y b' k' rt' rm D ca tp As ws post W' mc ms) (G : GY y b' k' rt' n) (hlink : Cond.methodLink own index y ∈ gw_tbl) (hsel : Cond.static y ∈ gw_tbl) (hn : As.length = n) (hst : st0 = As.reverse ++ rest) (hW : (rest.map fun v => v.category).sum ≤ 8) (h0 : rm.cells = mc ∧ rm.slots = ms) (hR : rm.frames + 1 ≤ R.frames ∧ 8 + (k' + 11) + rm.locals ≤ R.locals) (hf : cells + mc ≤ R.cells ∧ slots + ms ≤ R.slots) (hdg : decode cc pc = .ok (.invokestatic index, 3))
    (kk : ∀ (r : Int64) (u : S) (H1 : Heap) (locs1 : List Loc), post r u → WH D A s (W' u) H1 locs1 → W p l e R s m args below meth c H1 locs1 (cells + mc) (slots + ms) Q (F0 m (pc + 3) ls (.long r :: rest))) : W p l e R s m args below meth c H locs cells slots Q (F0 m pc ls st0) :=
  x_calll C0 hw (x_runS C0 hw hl hM G hlink hsel hn hst hW h0 hR hf hdg) kk
theorem x_callSv {post : S → Prop} (C0 : CX p s m args meth c cc nL rt own nm D ca tp A) (hw : WH D A s ws H locs) (hl : lv_has ls nL lv) (hM : MTv l y b' k' rt' rm D ca tp As ws post W' mc ms) (G : GY y b' k' rt' n) (hlink : Cond.methodLink own index y ∈ gw_tbl) (hsel : Cond.static y ∈ gw_tbl) (hn : As.length = n) (hst : st0 = As.reverse ++ rest) (hW : (rest.map fun v => v.category).sum ≤ 8) (h0 : rm.cells = mc ∧ rm.slots = ms) (hR : rm.frames + 1 ≤ R.frames ∧ 8 + (k' + 11) + rm.locals ≤ R.locals) (hf : cells + mc ≤ R.cells ∧ slots + ms ≤ R.slots) (hdg : decode cc pc = .ok (.invokestatic index, 3))
    (kk : ∀ (u : S) (H1 : Heap) (locs1 : List Loc), post u → WH D A s (W' u) H1 locs1 → W p l e R s m args below meth c H1 locs1 (cells + mc) (slots + ms) Q (F0 m (pc + 3) ls rest)) : W p l e R s m args below meth c H locs cells slots Q (F0 m pc ls st0) :=
  x_callv C0 hw (x_runS C0 hw hl hM G hlink hsel hn hst hW h0 hR hf hdg) kk
theorem x_callSNi {post : Int32 → S → Prop} (C0 : CX p s m args meth c cc nL rt own nm D ca tp A) (hw : WH D A s ws H locs) (hl : lv_has ls nL lv) (hM : MTi l y b' k' rt' rm D ca tp As ws post W' mc ms) (G : GY y b' k' rt' n) (hlink : Cond.methodLinkNest own index y host ∈ nw_tbl) (hsel : Cond.static y ∈ gw_tbl) (hn : As.length = n) (hst : st0 = As.reverse ++ rest) (hW : (rest.map fun v => v.category).sum ≤ 8) (h0 : rm.cells = mc ∧ rm.slots = ms) (hR : rm.frames + 1 ≤ R.frames ∧ 8 + (k' + 11) + rm.locals ≤ R.locals) (hf : cells + mc ≤ R.cells ∧ slots + ms ≤ R.slots) (hdg : decode cc pc = .ok (.invokestatic index, 3))
    (kk : ∀ (r : Int32) (u : S) (H1 : Heap) (locs1 : List Loc), post r u → WH D A s (W' u) H1 locs1 → W p l e R s m args below meth c H1 locs1 (cells + mc) (slots + ms) Q (F0 m (pc + 3) ls (.int r :: rest))) : W p l e R s m args below meth c H locs cells slots Q (F0 m pc ls st0) :=
  x_calli C0 hw (x_runSN C0 hw hl hM G hlink hsel hn hst hW h0 hR hf hdg) kk
theorem x_callSNl {post : Int64 → S → Prop} (C0 : CX p s m args meth c cc nL rt own nm D ca tp A) (hw : WH D A s ws H locs) (hl : lv_has ls nL lv) (hM : MTl l y b' k' rt' rm D ca tp As ws post W' mc ms) (G : GY y b' k' rt' n) (hlink : Cond.methodLinkNest own index y host ∈ nw_tbl) (hsel : Cond.static y ∈ gw_tbl) (hn : As.length = n) (hst : st0 = As.reverse ++ rest) (hW : (rest.map fun v => v.category).sum ≤ 8) (h0 : rm.cells = mc ∧ rm.slots = ms) (hR : rm.frames + 1 ≤ R.frames ∧ 8 + (k' + 11) + rm.locals ≤ R.locals) (hf : cells + mc ≤ R.cells ∧ slots + ms ≤ R.slots) (hdg : decode cc pc = .ok (.invokestatic index, 3))
    (kk : ∀ (r : Int64) (u : S) (H1 : Heap) (locs1 : List Loc), post r u → WH D A s (W' u) H1 locs1 → W p l e R s m args below meth c H1 locs1 (cells + mc) (slots + ms) Q (F0 m (pc + 3) ls (.long r :: rest))) : W p l e R s m args below meth c H locs cells slots Q (F0 m pc ls st0) :=
  x_calll C0 hw (x_runSN C0 hw hl hM G hlink hsel hn hst hW h0 hR hf hdg) kk
theorem x_callSNv {post : S → Prop} (C0 : CX p s m args meth c cc nL rt own nm D ca tp A) (hw : WH D A s ws H locs) (hl : lv_has ls nL lv) (hM : MTv l y b' k' rt' rm D ca tp As ws post W' mc ms) (G : GY y b' k' rt' n) (hlink : Cond.methodLinkNest own index y host ∈ nw_tbl) (hsel : Cond.static y ∈ gw_tbl) (hn : As.length = n) (hst : st0 = As.reverse ++ rest) (hW : (rest.map fun v => v.category).sum ≤ 8) (h0 : rm.cells = mc ∧ rm.slots = ms) (hR : rm.frames + 1 ≤ R.frames ∧ 8 + (k' + 11) + rm.locals ≤ R.locals) (hf : cells + mc ≤ R.cells ∧ slots + ms ≤ R.slots) (hdg : decode cc pc = .ok (.invokestatic index, 3))
    (kk : ∀ (u : S) (H1 : Heap) (locs1 : List Loc), post u → WH D A s (W' u) H1 locs1 → W p l e R s m args below meth c H1 locs1 (cells + mc) (slots + ms) Q (F0 m (pc + 3) ls rest)) : W p l e R s m args below meth c H locs cells slots Q (F0 m pc ls st0) :=
  x_callv C0 hw (x_runSN C0 hw hl hM G hlink hsel hn hst hW h0 hR hf hdg) kk
theorem x_callIv {post : S → Prop} (C0 : CX p s m args meth c cc nL rt own nm D ca tp A) (hw : WH D A s ws H locs) (hl : lv_has ls nL lv) (hM : MTv l y b' k' none rm D ca tp (.ref b :: As) ws post W' mc ms) (G : GY y b' k' none n) (hlink : Cond.methodLink own index y ∈ gw_tbl) (hsel : Cond.instanceMethod y ∈ gw_tbl) (hy : y.name = "<init>") (hn : As.length = n) (hst : st0 = As.reverse ++ .ref b :: rest) (hW : (rest.map fun v => v.category).sum ≤ 8) (h0 : rm.cells = mc ∧ rm.slots = ms) (hR : rm.frames + 1 ≤ R.frames ∧ 8 + (k' + 11) + rm.locals ≤ R.locals) (hf : cells + mc ≤ R.cells ∧ slots + ms ≤ R.slots) (hdg : decode cc pc = .ok (.invokespecial index, 3))
    (kk : ∀ (u : S) (H1 : Heap) (locs1 : List Loc), post u → WH D A s (W' u) H1 locs1 → W p l e R s m args below meth c H1 locs1 (cells + mc) (slots + ms) Q (F0 m (pc + 3) ls rest)) : W p l e R s m args below meth c H locs cells slots Q (F0 m pc ls st0) :=
  x_callv C0 hw (x_runI C0 hw hl hM G hlink hsel hy hn hst hW h0 hR hf hdg) kk
theorem x_callINv {post : S → Prop} (C0 : CX p s m args meth c cc nL rt own nm D ca tp A) (hw : WH D A s ws H locs) (hl : lv_has ls nL lv) (hM : MTv l y b' k' none rm D ca tp (.ref b :: As) ws post W' mc ms) (G : GY y b' k' none n) (hlink : Cond.methodLinkNest own index y host ∈ nw_tbl) (hsel : Cond.instanceMethod y ∈ gw_tbl) (hy : y.name = "<init>") (hn : As.length = n) (hst : st0 = As.reverse ++ .ref b :: rest) (hW : (rest.map fun v => v.category).sum ≤ 8) (h0 : rm.cells = mc ∧ rm.slots = ms) (hR : rm.frames + 1 ≤ R.frames ∧ 8 + (k' + 11) + rm.locals ≤ R.locals) (hf : cells + mc ≤ R.cells ∧ slots + ms ≤ R.slots) (hdg : decode cc pc = .ok (.invokespecial index, 3))
    (kk : ∀ (u : S) (H1 : Heap) (locs1 : List Loc), post u → WH D A s (W' u) H1 locs1 → W p l e R s m args below meth c H1 locs1 (cells + mc) (slots + ms) Q (F0 m (pc + 3) ls rest)) : W p l e R s m args below meth c H locs cells slots Q (F0 m pc ls st0) :=
  x_callv C0 hw (x_runIN C0 hw hl hM G hlink hsel hy hn hst hW h0 hR hf hdg) kk
end XC
end
section
def WB (ad : Nat → Nat) (ca : Nat → ClassId) (T_length : Int32) (T_bytes : Nat → Int32) (C_size : Int32) (C_given : Int32) (C_empty : Int32) (C_drafted : Int32) (C_draftedGiven : Int32) (C_block : Nat → Int32) (C_left : Nat → Int32) (C_right : Nat → Int32) (C_pivot : Nat → Int32) (C_positive : Nat → Int32) (C_negative : Nat → Int32) (C_live : Nat → Int32) (C_needed : Nat → Int32) (R_kind : Int32) (R_place : Int32) (R_at : Int32) (R_token : Int32) (R_tokenPlace : Int32) (R_number : Int32) (R_state : Int32) (R_block : Int32) (R_positive : Int32) (R_negative : Int32) (R_left : Int32) (R_right : Int32) (R_pivot : Int32) (L_of : Nat → Int32) (F_cut : Int32) (F_labelledA : Int32) (F_labelledB : Int32) (F_row : Nat → Int64) (A_root : Int32) (A_words : Nat → Int64) (A_known : Nat → Int32) (G_size : Int32) (G_variable : Nat → Int32) (G_low : Nat → Int32) (G_high : Nat → Int32) (G_numberOf : Nat → Int32) (G_nodeOf : Nat → Int32) (G_sides : Nat → Int32) (G_waiting : Nat → Int32) (B_table : Nat → Int64) (B_nextTable : Nat → Int64) : va_W :=
  [(ad 0, .inr (7, [.ref (ad 1), .ref (ad 3), .ref (ad 12), .ref (ad 13), .ref (ad 15), .ref (ad 17), .ref (ad 28), .ref (ad 29)])),
   (ad 1, .inr (6, [.ref (ad 2), .int T_length])),
   (ad 2, .inl (ca 3, 2000, .inl T_bytes)),
   (ad 3, .inr (1, [.ref (ad 4), .ref (ad 5), .ref (ad 6), .ref (ad 7), .ref (ad 8), .ref (ad 9), .ref (ad 10), .ref (ad 11), .int C_size, .int C_given, .int C_empty, .int C_drafted, .int C_draftedGiven])),
   (ad 4, .inl (ca 0, 201, .inl C_block)),
   (ad 5, .inl (ca 0, 201, .inl C_left)),
   (ad 6, .inl (ca 0, 201, .inl C_right)),
   (ad 7, .inl (ca 0, 201, .inl C_pivot)),
   (ad 8, .inl (ca 0, 201, .inl C_positive)),
   (ad 9, .inl (ca 0, 201, .inl C_negative)),
   (ad 10, .inl (ca 2, 201, .inl C_live)),
   (ad 11, .inl (ca 2, 201, .inl C_needed)),
   (ad 12, .inr (5, [.ref (ad 1), .ref (ad 3), .int R_kind, .int R_place, .int R_at, .int R_token, .int R_tokenPlace, .int R_number, .int R_state, .int R_block, .int R_positive, .int R_negative, .int R_left, .int R_right, .int R_pivot])),
   (ad 13, .inr (4, [.ref (ad 14)])),
   (ad 14, .inl (ca 0, 11, .inl L_of)),
   (ad 15, .inr (2, [.ref (ad 3), .ref (ad 13), .ref (ad 16), .int F_cut, .int F_labelledA, .int F_labelledB])),
   (ad 16, .inl (ca 1, 201, .inr (.inl F_row))),
   (ad 17, .inr (0, [.ref (ad 18), .ref (ad 19), .ref (ad 20), .int A_root])),
   (ad 18, .inl (ca 1, 3216, .inr (.inl A_words))),
   (ad 19, .inl (ca 2, 201, .inl A_known)),
   (ad 20, .inr (3, [.ref (ad 21), .ref (ad 22), .ref (ad 23), .ref (ad 24), .ref (ad 25), .ref (ad 26), .ref (ad 27), .int G_size])),
   (ad 21, .inl (ca 0, 269, .inl G_variable)),
   (ad 22, .inl (ca 0, 269, .inl G_low)),
   (ad 23, .inl (ca 0, 269, .inl G_high)),
   (ad 24, .inl (ca 0, 269, .inl G_numberOf)),
   (ad 25, .inl (ca 0, 269, .inl G_nodeOf)),
   (ad 26, .inl (ca 0, 1024, .inl G_sides)),
   (ad 27, .inl (ca 0, 12, .inl G_waiting)),
   (ad 28, .inl (ca 1, 16, .inr (.inl B_table))),
   (ad 29, .inl (ca 1, 16, .inr (.inl B_nextTable)))]
def WM (am : Nat → Nat) (ca : Nat → ClassId) (M_clauses : Int32) (M_given : Int32) (M_end : Int32) (M_taped : Int32) (M_size : Int32) (M_at : Int32) (M_to : Int32) (M_sort : Int32) (M_worth : Int32) (M_faultKind : Int32) (M_faultPlace : Int32) (M_isTold : Int32) (M_nodes : Int32) (M_plain : Nat → Int32) (M_minus : Nat → Int32) (M_block : Nat → Int32) (M_left : Nat → Int32) (M_right : Nat → Int32) (M_pivot : Nat → Int32) (M_live : Nat → Int32) (M_needed : Nat → Int32) (M_label : Nat → Int32) (M_tape : Nat → Int32) (M_of : Nat → Int64) (M_kept : Nat → Int64) (M_had : Nat → Int32) (M_told : Nat → Int64) (M_first : Nat → Int64) (M_second : Nat → Int64) (M_node : Nat → Int64) (M_nodeVariable : Nat → Int32) (M_nodeLow : Nat → Int32) (M_nodeHigh : Nat → Int32) (M_wait : Nat → Int32) : va_W :=
  [(am 0, .inr (8, [.ref (am 1), .ref (am 2), .ref (am 3), .ref (am 4), .ref (am 5), .ref (am 6), .ref (am 7), .ref (am 8), .int M_clauses, .int M_given, .int M_end, .ref (am 9), .ref (am 10), .int M_taped, .int M_size, .int M_at, .int M_to, .int M_sort, .int M_worth, .int M_faultKind, .int M_faultPlace, .ref (am 11), .ref (am 12), .ref (am 13), .ref (am 14), .int M_isTold, .ref (am 15), .ref (am 16), .ref (am 17), .ref (am 18), .ref (am 19), .ref (am 20), .int M_nodes, .ref (am 21)])),
   (am 1, .inl (ca 0, 202, .inl M_plain)),
   (am 2, .inl (ca 0, 202, .inl M_minus)),
   (am 3, .inl (ca 0, 202, .inl M_block)),
   (am 4, .inl (ca 0, 202, .inl M_left)),
   (am 5, .inl (ca 0, 202, .inl M_right)),
   (am 6, .inl (ca 0, 202, .inl M_pivot)),
   (am 7, .inl (ca 2, 202, .inl M_live)),
   (am 8, .inl (ca 2, 202, .inl M_needed)),
   (am 9, .inl (ca 0, 11, .inl M_label)),
   (am 10, .inl (ca 3, 2000, .inl M_tape)),
   (am 11, .inl (ca 1, 3232, .inr (.inl M_of))),
   (am 12, .inl (ca 1, 3232, .inr (.inl M_kept))),
   (am 13, .inl (ca 2, 202, .inl M_had)),
   (am 14, .inl (ca 1, 16, .inr (.inl M_told))),
   (am 15, .inl (ca 1, 16, .inr (.inl M_first))),
   (am 16, .inl (ca 1, 16, .inr (.inl M_second))),
   (am 17, .inl (ca 1, 4800, .inr (.inl M_node))),
   (am 18, .inl (ca 0, 300, .inl M_nodeVariable)),
   (am 19, .inl (ca 0, 300, .inl M_nodeLow)),
   (am 20, .inl (ca 0, 300, .inl M_nodeHigh)),
   (am 21, .inl (ca 0, 640, .inl M_wait))]
theorem g_B_bitOf : GY y_B_bitOf b_B_bitOf 1 (some .int) 1 := ⟨wm_457, wm_53, by decide +kernel, by decide +kernel, by decide +kernel⟩
def p_B_bitOf (x0 : Int32) (k : Int32 → Prop) : Prop :=
  (k ((1 : Int32) <<< ((x0 - (1 : Int32)) &&& 31)))
abbrev rm_B_bitOf : Room := { frames := 0, cells := 0, slots := 0, locals := 0 }
set_option maxHeartbeats 4000000 in
set_option maxRecDepth 100000 in
theorem c_B_bitOf {l : Launch} {D : va_G} {ca : Nat → ClassId} {tp : Nat} {ad : Nat → Nat} {T_length : Int32} {T_bytes : Nat → Int32} {C_size : Int32} {C_given : Int32} {C_empty : Int32} {C_drafted : Int32} {C_draftedGiven : Int32} {C_block : Nat → Int32} {C_left : Nat → Int32} {C_right : Nat → Int32} {C_pivot : Nat → Int32} {C_positive : Nat → Int32} {C_negative : Nat → Int32} {C_live : Nat → Int32} {C_needed : Nat → Int32} {R_kind : Int32} {R_place : Int32} {R_at : Int32} {R_token : Int32} {R_tokenPlace : Int32} {R_number : Int32} {R_state : Int32} {R_block : Int32} {R_positive : Int32} {R_negative : Int32} {R_left : Int32} {R_right : Int32} {R_pivot : Int32} {L_of : Nat → Int32} {F_cut : Int32} {F_labelledA : Int32} {F_labelledB : Int32} {F_row : Nat → Int64} {A_root : Int32} {A_words : Nat → Int64} {A_known : Nat → Int32} {G_size : Int32} {G_variable : Nat → Int32} {G_low : Nat → Int32} {G_high : Nat → Int32} {G_numberOf : Nat → Int32} {G_nodeOf : Nat → Int32} {G_sides : Nat → Int32} {G_waiting : Nat → Int32} {B_table : Nat → Int64} {B_nextTable : Nat → Int64} {x0 : Int32} {k : Int32 → Prop} (h : p_B_bitOf x0 k) :
    MTi l y_B_bitOf b_B_bitOf 1 (some .int) rm_B_bitOf D ca tp [.int x0] (WB ad ca T_length T_bytes C_size C_given C_empty C_drafted C_draftedGiven C_block C_left C_right C_pivot C_positive C_negative C_live C_needed R_kind R_place R_at R_token R_tokenPlace R_number R_state R_block R_positive R_negative R_left R_right R_pivot L_of F_cut F_labelledA F_labelledB F_row A_root A_words A_known G_size G_variable G_low G_high G_numberOf G_nodeOf G_sides G_waiting B_table B_nextTable)
      (fun r (_ : Unit) => k r)
      (fun (_ : Unit) => WB ad ca T_length T_bytes C_size C_given C_empty C_drafted C_draftedGiven C_block C_left C_right C_pivot C_positive C_negative C_live C_needed R_kind R_place R_at R_token R_tokenPlace R_number R_state R_block R_positive R_negative R_left R_right R_pivot L_of F_cut F_labelledA F_labelledB F_row A_root A_words A_known G_size G_variable G_low G_high G_numberOf G_nodeOf G_sides G_waiting B_table B_nextTable) 0 0 := by
  refine x_entryi (own := R_B) (nm := "bitOf") (by decide) rfl rfl (Nat.le_of_ble_eq_true rfl) (fun p e s m below meth c A ls C0 hw hl => ?_)
  have hx := C0.1
  have hb := C0.2.1
  have hl : lv_has ls 1 [(0, .int x0)] := hl
  unfold p_B_bitOf at h
  refine lv_iconst (v := 1) hx hb d_B_bitOf_0 (by decide) ?_
  refine lv_iload_n hx hb d_B_bitOf_1 rfl (lv_at hl 0 rfl) ?_
  refine lv_iconst (v := 1) hx hb d_B_bitOf_2 (by decide) ?_
  refine lv_isub hx hb d_B_bitOf_3 ?_
  refine lv_ishl hx hb d_B_bitOf_4 ?_
  exact x_iret C0 hw () h rfl d_B_bitOf_5
theorem g_C_startDraft : GY y_C_startDraft b_C_startDraft 1 none 0 := ⟨wm_352, wm_55, by decide +kernel, by decide +kernel, by decide +kernel⟩
def p_C_startDraft (C_size : Int32) (C_given : Int32) (k : Int32 → Int32 → Prop) : Prop :=
  (k C_size C_given)
abbrev rm_C_startDraft : Room := { frames := 0, cells := 0, slots := 0, locals := 0 }
set_option maxHeartbeats 4000000 in
set_option maxRecDepth 100000 in
theorem c_C_startDraft {l : Launch} {D : va_G} {ca : Nat → ClassId} {tp : Nat} {ad : Nat → Nat} {T_length : Int32} {T_bytes : Nat → Int32} {C_size : Int32} {C_given : Int32} {C_empty : Int32} {C_drafted : Int32} {C_draftedGiven : Int32} {C_block : Nat → Int32} {C_left : Nat → Int32} {C_right : Nat → Int32} {C_pivot : Nat → Int32} {C_positive : Nat → Int32} {C_negative : Nat → Int32} {C_live : Nat → Int32} {C_needed : Nat → Int32} {R_kind : Int32} {R_place : Int32} {R_at : Int32} {R_token : Int32} {R_tokenPlace : Int32} {R_number : Int32} {R_state : Int32} {R_block : Int32} {R_positive : Int32} {R_negative : Int32} {R_left : Int32} {R_right : Int32} {R_pivot : Int32} {L_of : Nat → Int32} {F_cut : Int32} {F_labelledA : Int32} {F_labelledB : Int32} {F_row : Nat → Int64} {A_root : Int32} {A_words : Nat → Int64} {A_known : Nat → Int32} {G_size : Int32} {G_variable : Nat → Int32} {G_low : Nat → Int32} {G_high : Nat → Int32} {G_numberOf : Nat → Int32} {G_nodeOf : Nat → Int32} {G_sides : Nat → Int32} {G_waiting : Nat → Int32} {B_table : Nat → Int64} {B_nextTable : Nat → Int64}  {k : Int32 → Int32 → Prop} (h : p_C_startDraft C_size C_given k) :
    MTv l y_C_startDraft b_C_startDraft 1 none rm_C_startDraft D ca tp [.ref (ad 3)] (WB ad ca T_length T_bytes C_size C_given C_empty C_drafted C_draftedGiven C_block C_left C_right C_pivot C_positive C_negative C_live C_needed R_kind R_place R_at R_token R_tokenPlace R_number R_state R_block R_positive R_negative R_left R_right R_pivot L_of F_cut F_labelledA F_labelledB F_row A_root A_words A_known G_size G_variable G_low G_high G_numberOf G_nodeOf G_sides G_waiting B_table B_nextTable)
      (fun (u : Int32 × Int32) => k u.1 u.2)
      (fun (u : Int32 × Int32) => WB ad ca T_length T_bytes C_size C_given C_empty u.1 u.2 C_block C_left C_right C_pivot C_positive C_negative C_live C_needed R_kind R_place R_at R_token R_tokenPlace R_number R_state R_block R_positive R_negative R_left R_right R_pivot L_of F_cut F_labelledA F_labelledB F_row A_root A_words A_known G_size G_variable G_low G_high G_numberOf G_nodeOf G_sides G_waiting B_table B_nextTable) 0 0 := by
  refine x_entryv (own := R_C) (nm := "startDraft") (by decide) rfl rfl (Nat.le_of_ble_eq_true rfl) (fun p e s m below meth c A ls C0 hw hl => ?_)
  have hx := C0.1
  have hb := C0.2.1
  have hl : lv_has ls 1 [(0, .ref (ad 3))] := hl
  unfold p_C_startDraft at h
  refine lv_aload_n hx hb d_C_startDraft_0 rfl (lv_at hl 0 rfl) ?_
  refine lv_aload_n hx hb d_C_startDraft_1 rfl (lv_at hl 0 rfl) ?_
  refine x_get C0 hw 3 rfl rfl i_C 8 (by decide) wm_118 rfl rfl d_C_startDraft_2 ?_
  refine x_put C0 hw 3 rfl rfl i_C tk_C n_C 11 (by decide) wm_126 rfl rfl rfl rfl (Nat.le_of_ble_eq_true rfl) (ws' := WB ad ca T_length T_bytes C_size C_given C_empty C_size C_draftedGiven C_block C_left C_right C_pivot C_positive C_negative C_live C_needed R_kind R_place R_at R_token R_tokenPlace R_number R_state R_block R_positive R_negative R_left R_right R_pivot L_of F_cut F_labelledA F_labelledB F_row A_root A_words A_known G_size G_variable G_low G_high G_numberOf G_nodeOf G_sides G_waiting B_table B_nextTable) rfl d_C_startDraft_5 (fun H locs hw => ?_)
  refine lv_aload_n hx hb d_C_startDraft_8 rfl (lv_at hl 0 rfl) ?_
  refine lv_aload_n hx hb d_C_startDraft_9 rfl (lv_at hl 0 rfl) ?_
  refine x_get C0 hw 3 rfl rfl i_C 9 (by decide) wm_120 rfl rfl d_C_startDraft_10 ?_
  refine x_put C0 hw 3 rfl rfl i_C tk_C n_C 12 (by decide) wm_127 rfl rfl rfl rfl (Nat.le_of_ble_eq_true rfl) (ws' := WB ad ca T_length T_bytes C_size C_given C_empty C_size C_given C_block C_left C_right C_pivot C_positive C_negative C_live C_needed R_kind R_place R_at R_token R_tokenPlace R_number R_state R_block R_positive R_negative R_left R_right R_pivot L_of F_cut F_labelledA F_labelledB F_row A_root A_words A_known G_size G_variable G_low G_high G_numberOf G_nodeOf G_sides G_waiting B_table B_nextTable) rfl d_C_startDraft_13 (fun H locs hw => ?_)
  exact x_vret C0 hw (C_size, C_given) h rfl d_C_startDraft_16
theorem g_C_hasRoom : GY y_C_hasRoom b_C_hasRoom 1 (some .boolean) 0 := ⟨wm_397, wm_55, by decide +kernel, by decide +kernel, by decide +kernel⟩
def p_C_hasRoom (C_drafted : Int32) (k : Int32 → Prop) : Prop :=
  (((200 : Int32) ≤ C_drafted → (k (0 : Int32))) ∧ (¬ (200 : Int32) ≤ C_drafted → (k (1 : Int32))))
abbrev rm_C_hasRoom : Room := { frames := 0, cells := 0, slots := 0, locals := 0 }
set_option maxHeartbeats 4000000 in
set_option maxRecDepth 100000 in
theorem c_C_hasRoom {l : Launch} {D : va_G} {ca : Nat → ClassId} {tp : Nat} {ad : Nat → Nat} {T_length : Int32} {T_bytes : Nat → Int32} {C_size : Int32} {C_given : Int32} {C_empty : Int32} {C_drafted : Int32} {C_draftedGiven : Int32} {C_block : Nat → Int32} {C_left : Nat → Int32} {C_right : Nat → Int32} {C_pivot : Nat → Int32} {C_positive : Nat → Int32} {C_negative : Nat → Int32} {C_live : Nat → Int32} {C_needed : Nat → Int32} {R_kind : Int32} {R_place : Int32} {R_at : Int32} {R_token : Int32} {R_tokenPlace : Int32} {R_number : Int32} {R_state : Int32} {R_block : Int32} {R_positive : Int32} {R_negative : Int32} {R_left : Int32} {R_right : Int32} {R_pivot : Int32} {L_of : Nat → Int32} {F_cut : Int32} {F_labelledA : Int32} {F_labelledB : Int32} {F_row : Nat → Int64} {A_root : Int32} {A_words : Nat → Int64} {A_known : Nat → Int32} {G_size : Int32} {G_variable : Nat → Int32} {G_low : Nat → Int32} {G_high : Nat → Int32} {G_numberOf : Nat → Int32} {G_nodeOf : Nat → Int32} {G_sides : Nat → Int32} {G_waiting : Nat → Int32} {B_table : Nat → Int64} {B_nextTable : Nat → Int64}  {k : Int32 → Prop} (h : p_C_hasRoom C_drafted k) :
    MTi l y_C_hasRoom b_C_hasRoom 1 (some .boolean) rm_C_hasRoom D ca tp [.ref (ad 3)] (WB ad ca T_length T_bytes C_size C_given C_empty C_drafted C_draftedGiven C_block C_left C_right C_pivot C_positive C_negative C_live C_needed R_kind R_place R_at R_token R_tokenPlace R_number R_state R_block R_positive R_negative R_left R_right R_pivot L_of F_cut F_labelledA F_labelledB F_row A_root A_words A_known G_size G_variable G_low G_high G_numberOf G_nodeOf G_sides G_waiting B_table B_nextTable)
      (fun r (_ : Unit) => k r)
      (fun (_ : Unit) => WB ad ca T_length T_bytes C_size C_given C_empty C_drafted C_draftedGiven C_block C_left C_right C_pivot C_positive C_negative C_live C_needed R_kind R_place R_at R_token R_tokenPlace R_number R_state R_block R_positive R_negative R_left R_right R_pivot L_of F_cut F_labelledA F_labelledB F_row A_root A_words A_known G_size G_variable G_low G_high G_numberOf G_nodeOf G_sides G_waiting B_table B_nextTable) 0 0 := by
  refine x_entryi (own := R_C) (nm := "hasRoom") (by decide) rfl rfl (Nat.le_of_ble_eq_true rfl) (fun p e s m below meth c A ls C0 hw hl => ?_)
  have hx := C0.1
  have hb := C0.2.1
  have hl : lv_has ls 1 [(0, .ref (ad 3))] := hl
  unfold p_C_hasRoom at h
  refine lv_aload_n hx hb d_C_hasRoom_0 rfl (lv_at hl 0 rfl) ?_
  refine x_get C0 hw 3 rfl rfl i_C 11 (by decide) wm_126 rfl rfl d_C_hasRoom_1 ?_
  refine lv_sipush (v := 200) hx hb d_C_hasRoom_4 (by decide) ?_
  refine lv_icmp_ge (tgt := 14) hx hb d_C_hasRoom_7 (by decide) (fun c_1 => ?_) (fun c_1 => ?_)
  · have h := h.1 c_1
    refine lv_iconst (v := 0) hx hb d_C_hasRoom_14 (by decide) ?_
    exact x_zret C0 hw rfl () h rfl d_C_hasRoom_15
  · have h := h.2 c_1
    refine lv_iconst (v := 1) hx hb d_C_hasRoom_10 (by decide) ?_
    refine lv_goto (tgt := 15) hx hb d_C_hasRoom_11 (by decide) ?_
    exact x_zret C0 hw rfl () h rfl d_C_hasRoom_15
theorem g_C_hasRoomForGiven : GY y_C_hasRoomForGiven b_C_hasRoomForGiven 1 (some .boolean) 0 := ⟨wm_393, wm_55, by decide +kernel, by decide +kernel, by decide +kernel⟩
def p_C_hasRoomForGiven (C_drafted : Int32) (C_draftedGiven : Int32) (k : Int32 → Prop) : Prop :=
  (p_C_hasRoom C_drafted (fun (r_1 : Int32) => ((r_1 = 0 → (k (0 : Int32))) ∧ (¬ r_1 = 0 → (((60 : Int32) ≤ C_draftedGiven → (k (0 : Int32))) ∧ (¬ (60 : Int32) ≤ C_draftedGiven → (k (1 : Int32))))))))
abbrev rm_C_hasRoomForGiven : Room := { frames := 1, cells := 0, slots := 0, locals := 20 }
set_option maxHeartbeats 4000000 in
set_option maxRecDepth 100000 in
theorem c_C_hasRoomForGiven {l : Launch} {D : va_G} {ca : Nat → ClassId} {tp : Nat} {ad : Nat → Nat} {T_length : Int32} {T_bytes : Nat → Int32} {C_size : Int32} {C_given : Int32} {C_empty : Int32} {C_drafted : Int32} {C_draftedGiven : Int32} {C_block : Nat → Int32} {C_left : Nat → Int32} {C_right : Nat → Int32} {C_pivot : Nat → Int32} {C_positive : Nat → Int32} {C_negative : Nat → Int32} {C_live : Nat → Int32} {C_needed : Nat → Int32} {R_kind : Int32} {R_place : Int32} {R_at : Int32} {R_token : Int32} {R_tokenPlace : Int32} {R_number : Int32} {R_state : Int32} {R_block : Int32} {R_positive : Int32} {R_negative : Int32} {R_left : Int32} {R_right : Int32} {R_pivot : Int32} {L_of : Nat → Int32} {F_cut : Int32} {F_labelledA : Int32} {F_labelledB : Int32} {F_row : Nat → Int64} {A_root : Int32} {A_words : Nat → Int64} {A_known : Nat → Int32} {G_size : Int32} {G_variable : Nat → Int32} {G_low : Nat → Int32} {G_high : Nat → Int32} {G_numberOf : Nat → Int32} {G_nodeOf : Nat → Int32} {G_sides : Nat → Int32} {G_waiting : Nat → Int32} {B_table : Nat → Int64} {B_nextTable : Nat → Int64}  {k : Int32 → Prop} (h : p_C_hasRoomForGiven C_drafted C_draftedGiven k) :
    MTi l y_C_hasRoomForGiven b_C_hasRoomForGiven 1 (some .boolean) rm_C_hasRoomForGiven D ca tp [.ref (ad 3)] (WB ad ca T_length T_bytes C_size C_given C_empty C_drafted C_draftedGiven C_block C_left C_right C_pivot C_positive C_negative C_live C_needed R_kind R_place R_at R_token R_tokenPlace R_number R_state R_block R_positive R_negative R_left R_right R_pivot L_of F_cut F_labelledA F_labelledB F_row A_root A_words A_known G_size G_variable G_low G_high G_numberOf G_nodeOf G_sides G_waiting B_table B_nextTable)
      (fun r (_ : Unit) => k r)
      (fun (_ : Unit) => WB ad ca T_length T_bytes C_size C_given C_empty C_drafted C_draftedGiven C_block C_left C_right C_pivot C_positive C_negative C_live C_needed R_kind R_place R_at R_token R_tokenPlace R_number R_state R_block R_positive R_negative R_left R_right R_pivot L_of F_cut F_labelledA F_labelledB F_row A_root A_words A_known G_size G_variable G_low G_high G_numberOf G_nodeOf G_sides G_waiting B_table B_nextTable) 0 0 := by
  refine x_entryi (own := R_C) (nm := "hasRoomForGiven") (by decide) rfl rfl (Nat.le_of_ble_eq_true rfl) (fun p e s m below meth c A ls C0 hw hl => ?_)
  have hx := C0.1
  have hb := C0.2.1
  have hl : lv_has ls 1 [(0, .ref (ad 3))] := hl
  unfold p_C_hasRoomForGiven at h
  refine lv_aload_n hx hb d_C_hasRoomForGiven_0 rfl (lv_at hl 0 rfl) ?_
  refine x_callVi C0 hw hl (c_C_hasRoom h) g_C_hasRoom wm_394 ⟨wm_396, wm_395⟩ 3 rfl rfl rfl (As := []) (rest := []) rfl rfl (Nat.le_of_ble_eq_true rfl) ⟨rfl, rfl⟩ ⟨Nat.le_of_ble_eq_true rfl, Nat.le_of_ble_eq_true rfl⟩ ⟨Nat.le_of_ble_eq_true rfl, Nat.le_of_ble_eq_true rfl⟩ d_C_hasRoomForGiven_1 (fun r_1 u H locs h hw => ?_)
  refine lv_if_eq (tgt := 20) hx hb d_C_hasRoomForGiven_4 (by decide) (fun c_2 => ?_) (fun c_2 => ?_)
  · have h := h.1 c_2
    refine lv_iconst (v := 0) hx hb d_C_hasRoomForGiven_20 (by decide) ?_
    exact x_zret C0 hw rfl () h rfl d_C_hasRoomForGiven_21
  · have h := h.2 c_2
    refine lv_aload_n hx hb d_C_hasRoomForGiven_7 rfl (lv_at hl 0 rfl) ?_
    refine x_get C0 hw 3 rfl rfl i_C 12 (by decide) wm_127 rfl rfl d_C_hasRoomForGiven_8 ?_
    refine lv_bipush (v := 60) hx hb d_C_hasRoomForGiven_11 (by decide) ?_
    refine lv_icmp_ge (tgt := 20) hx hb d_C_hasRoomForGiven_13 (by decide) (fun c_3 => ?_) (fun c_3 => ?_)
    · have h := h.1 c_3
      refine lv_iconst (v := 0) hx hb d_C_hasRoomForGiven_20 (by decide) ?_
      exact x_zret C0 hw rfl () h rfl d_C_hasRoomForGiven_21
    · have h := h.2 c_3
      refine lv_iconst (v := 1) hx hb d_C_hasRoomForGiven_16 (by decide) ?_
      refine lv_goto (tgt := 21) hx hb d_C_hasRoomForGiven_17 (by decide) ?_
      exact x_zret C0 hw rfl () h rfl d_C_hasRoomForGiven_21
theorem g_C_isDrafted : GY y_C_isDrafted b_C_isDrafted 2 (some .boolean) 1 := ⟨wm_439, wm_55, by decide +kernel, by decide +kernel, by decide +kernel⟩
def p_C_isDrafted (C_drafted : Int32) (x1 : Int32) (k : Int32 → Prop) : Prop :=
  ((x1 < (1 : Int32) → (k (0 : Int32))) ∧ (¬ x1 < (1 : Int32) → ((C_drafted < x1 → (k (0 : Int32))) ∧ (¬ C_drafted < x1 → (((200 : Int32) < x1 → (k (0 : Int32))) ∧ (¬ (200 : Int32) < x1 → (k (1 : Int32))))))))
abbrev rm_C_isDrafted : Room := { frames := 0, cells := 0, slots := 0, locals := 0 }
set_option maxHeartbeats 4000000 in
set_option maxRecDepth 100000 in
theorem c_C_isDrafted {l : Launch} {D : va_G} {ca : Nat → ClassId} {tp : Nat} {ad : Nat → Nat} {T_length : Int32} {T_bytes : Nat → Int32} {C_size : Int32} {C_given : Int32} {C_empty : Int32} {C_drafted : Int32} {C_draftedGiven : Int32} {C_block : Nat → Int32} {C_left : Nat → Int32} {C_right : Nat → Int32} {C_pivot : Nat → Int32} {C_positive : Nat → Int32} {C_negative : Nat → Int32} {C_live : Nat → Int32} {C_needed : Nat → Int32} {R_kind : Int32} {R_place : Int32} {R_at : Int32} {R_token : Int32} {R_tokenPlace : Int32} {R_number : Int32} {R_state : Int32} {R_block : Int32} {R_positive : Int32} {R_negative : Int32} {R_left : Int32} {R_right : Int32} {R_pivot : Int32} {L_of : Nat → Int32} {F_cut : Int32} {F_labelledA : Int32} {F_labelledB : Int32} {F_row : Nat → Int64} {A_root : Int32} {A_words : Nat → Int64} {A_known : Nat → Int32} {G_size : Int32} {G_variable : Nat → Int32} {G_low : Nat → Int32} {G_high : Nat → Int32} {G_numberOf : Nat → Int32} {G_nodeOf : Nat → Int32} {G_sides : Nat → Int32} {G_waiting : Nat → Int32} {B_table : Nat → Int64} {B_nextTable : Nat → Int64} {x1 : Int32} {k : Int32 → Prop} (h : p_C_isDrafted C_drafted x1 k) :
    MTi l y_C_isDrafted b_C_isDrafted 2 (some .boolean) rm_C_isDrafted D ca tp [.ref (ad 3), .int x1] (WB ad ca T_length T_bytes C_size C_given C_empty C_drafted C_draftedGiven C_block C_left C_right C_pivot C_positive C_negative C_live C_needed R_kind R_place R_at R_token R_tokenPlace R_number R_state R_block R_positive R_negative R_left R_right R_pivot L_of F_cut F_labelledA F_labelledB F_row A_root A_words A_known G_size G_variable G_low G_high G_numberOf G_nodeOf G_sides G_waiting B_table B_nextTable)
      (fun r (_ : Unit) => k r)
      (fun (_ : Unit) => WB ad ca T_length T_bytes C_size C_given C_empty C_drafted C_draftedGiven C_block C_left C_right C_pivot C_positive C_negative C_live C_needed R_kind R_place R_at R_token R_tokenPlace R_number R_state R_block R_positive R_negative R_left R_right R_pivot L_of F_cut F_labelledA F_labelledB F_row A_root A_words A_known G_size G_variable G_low G_high G_numberOf G_nodeOf G_sides G_waiting B_table B_nextTable) 0 0 := by
  refine x_entryi (own := R_C) (nm := "isDrafted") (by decide) rfl rfl (Nat.le_of_ble_eq_true rfl) (fun p e s m below meth c A ls C0 hw hl => ?_)
  have hx := C0.1
  have hb := C0.2.1
  have hl : lv_has ls 2 [(0, .ref (ad 3)), (1, .int x1)] := hl
  unfold p_C_isDrafted at h
  refine lv_iload_n hx hb d_C_isDrafted_0 rfl (lv_at hl 1 rfl) ?_
  refine lv_iconst (v := 1) hx hb d_C_isDrafted_1 (by decide) ?_
  refine lv_icmp_lt (tgt := 24) hx hb d_C_isDrafted_2 (by decide) (fun c_1 => ?_) (fun c_1 => ?_)
  · have h := h.1 c_1
    refine lv_iconst (v := 0) hx hb d_C_isDrafted_24 (by decide) ?_
    exact x_zret C0 hw rfl () h rfl d_C_isDrafted_25
  · have h := h.2 c_1
    refine lv_iload_n hx hb d_C_isDrafted_5 rfl (lv_at hl 1 rfl) ?_
    refine lv_aload_n hx hb d_C_isDrafted_6 rfl (lv_at hl 0 rfl) ?_
    refine x_get C0 hw 3 rfl rfl i_C 11 (by decide) wm_126 rfl rfl d_C_isDrafted_7 ?_
    refine lv_icmp_gt (tgt := 24) hx hb d_C_isDrafted_10 (by decide) (fun c_2 => ?_) (fun c_2 => ?_)
    · have h := h.1 c_2
      refine lv_iconst (v := 0) hx hb d_C_isDrafted_24 (by decide) ?_
      exact x_zret C0 hw rfl () h rfl d_C_isDrafted_25
    · have h := h.2 c_2
      refine lv_iload_n hx hb d_C_isDrafted_13 rfl (lv_at hl 1 rfl) ?_
      refine lv_sipush (v := 200) hx hb d_C_isDrafted_14 (by decide) ?_
      refine lv_icmp_gt (tgt := 24) hx hb d_C_isDrafted_17 (by decide) (fun c_3 => ?_) (fun c_3 => ?_)
      · have h := h.1 c_3
        refine lv_iconst (v := 0) hx hb d_C_isDrafted_24 (by decide) ?_
        exact x_zret C0 hw rfl () h rfl d_C_isDrafted_25
      · have h := h.2 c_3
        refine lv_iconst (v := 1) hx hb d_C_isDrafted_20 (by decide) ?_
        refine lv_goto (tgt := 25) hx hb d_C_isDrafted_21 (by decide) ?_
        exact x_zret C0 hw rfl () h rfl d_C_isDrafted_25
theorem g_C_isGivenOf : GY y_C_isGivenOf b_C_isGivenOf 4 (some .boolean) 3 := ⟨wm_564, wm_55, by decide +kernel, by decide +kernel, by decide +kernel⟩
def p_C_isGivenOf (C_block : Nat → Int32) (x1 : Int32) (x2 : Int32) (x3 : Int32) (k : Int32 → Prop) : Prop :=
  (vp_in x1 201 ∧ (((C_block x1.toNatClampNeg) = 0 → (k (0 : Int32))) ∧ (¬ (C_block x1.toNatClampNeg) = 0 → (((C_block x1.toNatClampNeg) < x2 → (k (0 : Int32))) ∧ (¬ (C_block x1.toNatClampNeg) < x2 → ((x3 < (C_block x1.toNatClampNeg) → (k (0 : Int32))) ∧ (¬ x3 < (C_block x1.toNatClampNeg) → (k (1 : Int32)))))))))
abbrev rm_C_isGivenOf : Room := { frames := 0, cells := 0, slots := 0, locals := 0 }
set_option maxHeartbeats 4000000 in
set_option maxRecDepth 100000 in
theorem c_C_isGivenOf {l : Launch} {D : va_G} {ca : Nat → ClassId} {tp : Nat} {ad : Nat → Nat} {T_length : Int32} {T_bytes : Nat → Int32} {C_size : Int32} {C_given : Int32} {C_empty : Int32} {C_drafted : Int32} {C_draftedGiven : Int32} {C_block : Nat → Int32} {C_left : Nat → Int32} {C_right : Nat → Int32} {C_pivot : Nat → Int32} {C_positive : Nat → Int32} {C_negative : Nat → Int32} {C_live : Nat → Int32} {C_needed : Nat → Int32} {R_kind : Int32} {R_place : Int32} {R_at : Int32} {R_token : Int32} {R_tokenPlace : Int32} {R_number : Int32} {R_state : Int32} {R_block : Int32} {R_positive : Int32} {R_negative : Int32} {R_left : Int32} {R_right : Int32} {R_pivot : Int32} {L_of : Nat → Int32} {F_cut : Int32} {F_labelledA : Int32} {F_labelledB : Int32} {F_row : Nat → Int64} {A_root : Int32} {A_words : Nat → Int64} {A_known : Nat → Int32} {G_size : Int32} {G_variable : Nat → Int32} {G_low : Nat → Int32} {G_high : Nat → Int32} {G_numberOf : Nat → Int32} {G_nodeOf : Nat → Int32} {G_sides : Nat → Int32} {G_waiting : Nat → Int32} {B_table : Nat → Int64} {B_nextTable : Nat → Int64} {x1 : Int32} {x2 : Int32} {x3 : Int32} {k : Int32 → Prop} (h : p_C_isGivenOf C_block x1 x2 x3 k) :
    MTi l y_C_isGivenOf b_C_isGivenOf 4 (some .boolean) rm_C_isGivenOf D ca tp [.ref (ad 3), .int x1, .int x2, .int x3] (WB ad ca T_length T_bytes C_size C_given C_empty C_drafted C_draftedGiven C_block C_left C_right C_pivot C_positive C_negative C_live C_needed R_kind R_place R_at R_token R_tokenPlace R_number R_state R_block R_positive R_negative R_left R_right R_pivot L_of F_cut F_labelledA F_labelledB F_row A_root A_words A_known G_size G_variable G_low G_high G_numberOf G_nodeOf G_sides G_waiting B_table B_nextTable)
      (fun r (_ : Unit) => k r)
      (fun (_ : Unit) => WB ad ca T_length T_bytes C_size C_given C_empty C_drafted C_draftedGiven C_block C_left C_right C_pivot C_positive C_negative C_live C_needed R_kind R_place R_at R_token R_tokenPlace R_number R_state R_block R_positive R_negative R_left R_right R_pivot L_of F_cut F_labelledA F_labelledB F_row A_root A_words A_known G_size G_variable G_low G_high G_numberOf G_nodeOf G_sides G_waiting B_table B_nextTable) 0 0 := by
  refine x_entryi (own := R_C) (nm := "isGivenOf") (by decide) rfl rfl (Nat.le_of_ble_eq_true rfl) (fun p e s m below meth c A ls C0 hw hl => ?_)
  have hx := C0.1
  have hb := C0.2.1
  have hl : lv_has ls 4 [(0, .ref (ad 3)), (1, .int x1), (2, .int x2), (3, .int x3)] := hl
  unfold p_C_isGivenOf at h
  refine lv_aload_n hx hb d_C_isGivenOf_0 rfl (lv_at hl 0 rfl) ?_
  refine x_get C0 hw 3 rfl rfl i_C 0 (by decide) wm_95 rfl rfl d_C_isGivenOf_1 ?_
  refine lv_iload_n hx hb d_C_isGivenOf_4 rfl (lv_at hl 1 rfl) ?_
  obtain ⟨hi_1, h⟩ := h
  refine x_iald C0 hw 4 rfl hi_1 d_C_isGivenOf_5 ?_
  refine lv_if_eq (tgt := 33) hx hb d_C_isGivenOf_6 (by decide) (fun c_2 => ?_) (fun c_2 => ?_)
  · have h := h.1 c_2
    refine lv_iconst (v := 0) hx hb d_C_isGivenOf_33 (by decide) ?_
    exact x_zret C0 hw rfl () h rfl d_C_isGivenOf_34
  · have h := h.2 c_2
    refine lv_aload_n hx hb d_C_isGivenOf_9 rfl (lv_at hl 0 rfl) ?_
    refine x_get C0 hw 3 rfl rfl i_C 0 (by decide) wm_95 rfl rfl d_C_isGivenOf_10 ?_
    refine lv_iload_n hx hb d_C_isGivenOf_13 rfl (lv_at hl 1 rfl) ?_
    refine x_iald C0 hw 4 rfl hi_1 d_C_isGivenOf_14 ?_
    refine lv_iload_n hx hb d_C_isGivenOf_15 rfl (lv_at hl 2 rfl) ?_
    refine lv_icmp_lt (tgt := 33) hx hb d_C_isGivenOf_16 (by decide) (fun c_3 => ?_) (fun c_3 => ?_)
    · have h := h.1 c_3
      refine lv_iconst (v := 0) hx hb d_C_isGivenOf_33 (by decide) ?_
      exact x_zret C0 hw rfl () h rfl d_C_isGivenOf_34
    · have h := h.2 c_3
      refine lv_aload_n hx hb d_C_isGivenOf_19 rfl (lv_at hl 0 rfl) ?_
      refine x_get C0 hw 3 rfl rfl i_C 0 (by decide) wm_95 rfl rfl d_C_isGivenOf_20 ?_
      refine lv_iload_n hx hb d_C_isGivenOf_23 rfl (lv_at hl 1 rfl) ?_
      refine x_iald C0 hw 4 rfl hi_1 d_C_isGivenOf_24 ?_
      refine lv_iload_n hx hb d_C_isGivenOf_25 rfl (lv_at hl 3 rfl) ?_
      refine lv_icmp_gt (tgt := 33) hx hb d_C_isGivenOf_26 (by decide) (fun c_4 => ?_) (fun c_4 => ?_)
      · have h := h.1 c_4
        refine lv_iconst (v := 0) hx hb d_C_isGivenOf_33 (by decide) ?_
        exact x_zret C0 hw rfl () h rfl d_C_isGivenOf_34
      · have h := h.2 c_4
        refine lv_iconst (v := 1) hx hb d_C_isGivenOf_29 (by decide) ?_
        refine lv_goto (tgt := 34) hx hb d_C_isGivenOf_30 (by decide) ?_
        exact x_zret C0 hw rfl () h rfl d_C_isGivenOf_34
theorem g_C_occurring : GY y_C_occurring b_C_occurring 5 (some .int) 2 := ⟨wm_560, wm_55, by decide +kernel, by decide +kernel, by decide +kernel⟩
def p_C_occurring_L5 (C_size : Int32) (C_block : Nat → Int32) (C_positive : Nat → Int32) (C_negative : Nat → Int32) (x1 : Int32) (x2 : Int32) (k : Int32 → Prop) : Nat → Int32 → Int32 → Prop
  | 0, _, _ => False
  | n + 1, x3, x4 =>
    ((C_size < x4 → (k x3)) ∧ (¬ C_size < x4 → (p_C_isGivenOf C_block x4 x1 x2 (fun (r_2 : Int32) => ((r_2 = 0 → (p_C_occurring_L5 C_size C_block C_positive C_negative x1 x2 k n x3 (x4 + 1))) ∧ (¬ r_2 = 0 → (vp_in x4 201 ∧ (∀ v3_5 : Int32, v3_5 = (x3 ||| ((C_positive x4.toNatClampNeg) ||| (C_negative x4.toNatClampNeg))) → (p_C_occurring_L5 C_size C_block C_positive C_negative x1 x2 k n v3_5 (x4 + 1))))))))))
def p_C_occurring (C_size : Int32) (C_block : Nat → Int32) (C_positive : Nat → Int32) (C_negative : Nat → Int32) (x1 : Int32) (x2 : Int32) (k : Int32 → Prop) : Prop :=
  (∃ n, p_C_occurring_L5 C_size C_block C_positive C_negative x1 x2 k n (0 : Int32) (1 : Int32))
abbrev rm_C_occurring : Room := { frames := 1, cells := 0, slots := 0, locals := 23 }
set_option maxHeartbeats 4000000 in
set_option maxRecDepth 100000 in
theorem b_C_occurring_L5 {p : Program} {l : Launch} {e : Env} {s : State} {m : MethodId} {args : Array Value} {below : List Frame} {meth : Method} {c : Code} {D : va_G} {ca : Nat → ClassId} {tp : Nat} {A : Nat → Prop} {ad : Nat → Nat} {T_length : Int32} {T_bytes : Nat → Int32} {C_size : Int32} {C_given : Int32} {C_empty : Int32} {C_drafted : Int32} {C_draftedGiven : Int32} {C_block : Nat → Int32} {C_left : Nat → Int32} {C_right : Nat → Int32} {C_pivot : Nat → Int32} {C_positive : Nat → Int32} {C_negative : Nat → Int32} {C_live : Nat → Int32} {C_needed : Nat → Int32} {R_kind : Int32} {R_place : Int32} {R_at : Int32} {R_token : Int32} {R_tokenPlace : Int32} {R_number : Int32} {R_state : Int32} {R_block : Int32} {R_positive : Int32} {R_negative : Int32} {R_left : Int32} {R_right : Int32} {R_pivot : Int32} {L_of : Nat → Int32} {F_cut : Int32} {F_labelledA : Int32} {F_labelledB : Int32} {F_row : Nat → Int64} {A_root : Int32} {A_words : Nat → Int64} {A_known : Nat → Int32} {G_size : Int32} {G_variable : Nat → Int32} {G_low : Nat → Int32} {G_high : Nat → Int32} {G_numberOf : Nat → Int32} {G_nodeOf : Nat → Int32} {G_sides : Nat → Int32} {G_waiting : Nat → Int32} {B_table : Nat → Int64} {B_nextTable : Nat → Int64} {x1 : Int32} {x2 : Int32} {k : Int32 → Prop}  (C0 : CX p s m args meth c b_C_occurring 5 (some .int) R_C "occurring" D ca tp A) :
    ∀ (n : Nat) (x3 : Int32) (x4 : Int32) {H : Heap} {locs : List Loc} {ls : Array Slot}, p_C_occurring_L5 C_size C_block C_positive C_negative x1 x2 k n x3 x4 → WH D A s (WB ad ca T_length T_bytes C_size C_given C_empty C_drafted C_draftedGiven C_block C_left C_right C_pivot C_positive C_negative C_live C_needed R_kind R_place R_at R_token R_tokenPlace R_number R_state R_block R_positive R_negative R_left R_right R_pivot L_of F_cut F_labelledA F_labelledB F_row A_root A_words A_known G_size G_variable G_low G_high G_numberOf G_nodeOf G_sides G_waiting B_table B_nextTable) H locs → lv_has ls 5 [(0, .ref (ad 3)), (1, .int x1), (2, .int x2), (3, .int x3), (4, .int x4)] →
      W p l e rm_C_occurring s m args below meth c H locs 0 0 (QI D A below args s (fun r (_ : Unit) => k r) (fun (_ : Unit) => WB ad ca T_length T_bytes C_size C_given C_empty C_drafted C_draftedGiven C_block C_left C_right C_pivot C_positive C_negative C_live C_needed R_kind R_place R_at R_token R_tokenPlace R_number R_state R_block R_positive R_negative R_left R_right R_pivot L_of F_cut F_labelledA F_labelledB F_row A_root A_words A_known G_size G_variable G_low G_high G_numberOf G_nodeOf G_sides G_waiting B_table B_nextTable) 0 0) (F0 m 5 ls []) := by
  have hx := C0.1
  have hb := C0.2.1
  intro n
  induction n with
  | zero =>
    intro x3 x4 H locs ls h
    exact False.elim h
  | succ n ih =>
    intro x3 x4 H locs ls h hw hl
    unfold p_C_occurring_L5 at h
    refine lv_iload hx hb d_C_occurring_5 (lv_at hl 4 rfl) ?_
    refine lv_aload_n hx hb d_C_occurring_7 rfl (lv_at hl 0 rfl) ?_
    refine x_get C0 hw 3 rfl rfl i_C 8 (by decide) wm_118 rfl rfl d_C_occurring_8 ?_
    refine lv_icmp_gt (tgt := 49) hx hb d_C_occurring_11 (by decide) (fun c_1 => ?_) (fun c_1 => ?_)
    · have h := h.1 c_1
      refine lv_iload_n hx hb d_C_occurring_49 rfl (lv_at hl 3 rfl) ?_
      exact x_iret C0 hw () h rfl d_C_occurring_50
    · have h := h.2 c_1
      refine lv_aload_n hx hb d_C_occurring_14 rfl (lv_at hl 0 rfl) ?_
      refine lv_iload hx hb d_C_occurring_15 (lv_at hl 4 rfl) ?_
      refine lv_iload_n hx hb d_C_occurring_17 rfl (lv_at hl 1 rfl) ?_
      refine lv_iload_n hx hb d_C_occurring_18 rfl (lv_at hl 2 rfl) ?_
      refine x_callVi C0 hw hl (c_C_isGivenOf h) g_C_isGivenOf wm_561 ⟨wm_24, wm_563⟩ 3 rfl rfl rfl (As := [.int x4, .int x1, .int x2]) (rest := []) rfl rfl (Nat.le_of_ble_eq_true rfl) ⟨rfl, rfl⟩ ⟨Nat.le_of_ble_eq_true rfl, Nat.le_of_ble_eq_true rfl⟩ ⟨Nat.le_of_ble_eq_true rfl, Nat.le_of_ble_eq_true rfl⟩ d_C_occurring_19 (fun r_2 u H locs h hw => ?_)
      refine lv_if_eq (tgt := 43) hx hb d_C_occurring_22 (by decide) (fun c_3 => ?_) (fun c_3 => ?_)
      · have h := h.1 c_3
        refine lv_iinc (v := (x4 + 1)) (lv' := [(4, .int (x4 + 1)), (0, .ref (ad 3)), (1, .int x1), (2, .int x2), (3, .int x3)]) hx hb d_C_occurring_43 hl (k := 4) rfl rfl (by decide) rfl (fun ls hl => ?_)
        refine lv_goto (tgt := 5) hx hb d_C_occurring_46 (by decide) ?_
        exact ih _ _ h hw (lv_sub hl [1, 2, 3, 4, 0] rfl)
      · have h := h.2 c_3
        refine lv_iload_n hx hb d_C_occurring_25 rfl (lv_at hl 3 rfl) ?_
        refine lv_aload_n hx hb d_C_occurring_26 rfl (lv_at hl 0 rfl) ?_
        refine x_get C0 hw 3 rfl rfl i_C 4 (by decide) wm_107 rfl rfl d_C_occurring_27 ?_
        refine lv_iload hx hb d_C_occurring_30 (lv_at hl 4 rfl) ?_
        obtain ⟨hi_4, h⟩ := h
        refine x_iald C0 hw 8 rfl hi_4 d_C_occurring_32 ?_
        refine lv_aload_n hx hb d_C_occurring_33 rfl (lv_at hl 0 rfl) ?_
        refine x_get C0 hw 3 rfl rfl i_C 5 (by decide) wm_110 rfl rfl d_C_occurring_34 ?_
        refine lv_iload hx hb d_C_occurring_37 (lv_at hl 4 rfl) ?_
        refine x_iald C0 hw 9 rfl hi_4 d_C_occurring_39 ?_
        refine lv_ior hx hb d_C_occurring_40 ?_
        refine lv_ior hx hb d_C_occurring_41 ?_
        refine lv_topi (fun v3_5 e_v3_5 => ?_)
        have h := h v3_5 e_v3_5
        refine lv_istore_n (lv' := [(3, .int v3_5), (0, .ref (ad 3)), (1, .int x1), (2, .int x2), (4, .int x4)]) hx hb d_C_occurring_42 rfl hl (by decide) rfl (fun ls hl => ?_)
        refine lv_iinc (v := (x4 + 1)) (lv' := [(4, .int (x4 + 1)), (3, .int v3_5), (0, .ref (ad 3)), (1, .int x1), (2, .int x2)]) hx hb d_C_occurring_43 hl (k := 4) rfl rfl (by decide) rfl (fun ls hl => ?_)
        refine lv_goto (tgt := 5) hx hb d_C_occurring_46 (by decide) ?_
        exact ih _ _ h hw (lv_sub hl [2, 3, 4, 1, 0] rfl)
set_option maxHeartbeats 4000000 in
set_option maxRecDepth 100000 in
theorem c_C_occurring {l : Launch} {D : va_G} {ca : Nat → ClassId} {tp : Nat} {ad : Nat → Nat} {T_length : Int32} {T_bytes : Nat → Int32} {C_size : Int32} {C_given : Int32} {C_empty : Int32} {C_drafted : Int32} {C_draftedGiven : Int32} {C_block : Nat → Int32} {C_left : Nat → Int32} {C_right : Nat → Int32} {C_pivot : Nat → Int32} {C_positive : Nat → Int32} {C_negative : Nat → Int32} {C_live : Nat → Int32} {C_needed : Nat → Int32} {R_kind : Int32} {R_place : Int32} {R_at : Int32} {R_token : Int32} {R_tokenPlace : Int32} {R_number : Int32} {R_state : Int32} {R_block : Int32} {R_positive : Int32} {R_negative : Int32} {R_left : Int32} {R_right : Int32} {R_pivot : Int32} {L_of : Nat → Int32} {F_cut : Int32} {F_labelledA : Int32} {F_labelledB : Int32} {F_row : Nat → Int64} {A_root : Int32} {A_words : Nat → Int64} {A_known : Nat → Int32} {G_size : Int32} {G_variable : Nat → Int32} {G_low : Nat → Int32} {G_high : Nat → Int32} {G_numberOf : Nat → Int32} {G_nodeOf : Nat → Int32} {G_sides : Nat → Int32} {G_waiting : Nat → Int32} {B_table : Nat → Int64} {B_nextTable : Nat → Int64} {x1 : Int32} {x2 : Int32} {k : Int32 → Prop} (h : p_C_occurring C_size C_block C_positive C_negative x1 x2 k) :
    MTi l y_C_occurring b_C_occurring 5 (some .int) rm_C_occurring D ca tp [.ref (ad 3), .int x1, .int x2] (WB ad ca T_length T_bytes C_size C_given C_empty C_drafted C_draftedGiven C_block C_left C_right C_pivot C_positive C_negative C_live C_needed R_kind R_place R_at R_token R_tokenPlace R_number R_state R_block R_positive R_negative R_left R_right R_pivot L_of F_cut F_labelledA F_labelledB F_row A_root A_words A_known G_size G_variable G_low G_high G_numberOf G_nodeOf G_sides G_waiting B_table B_nextTable)
      (fun r (_ : Unit) => k r)
      (fun (_ : Unit) => WB ad ca T_length T_bytes C_size C_given C_empty C_drafted C_draftedGiven C_block C_left C_right C_pivot C_positive C_negative C_live C_needed R_kind R_place R_at R_token R_tokenPlace R_number R_state R_block R_positive R_negative R_left R_right R_pivot L_of F_cut F_labelledA F_labelledB F_row A_root A_words A_known G_size G_variable G_low G_high G_numberOf G_nodeOf G_sides G_waiting B_table B_nextTable) 0 0 := by
  refine x_entryi (own := R_C) (nm := "occurring") (by decide) rfl rfl (Nat.le_of_ble_eq_true rfl) (fun p e s m below meth c A ls C0 hw hl => ?_)
  have hx := C0.1
  have hb := C0.2.1
  have hl : lv_has ls 5 [(0, .ref (ad 3)), (1, .int x1), (2, .int x2)] := hl
  unfold p_C_occurring at h
  refine lv_iconst (v := 0) hx hb d_C_occurring_0 (by decide) ?_
  refine lv_istore_n (lv' := [(3, .int (0 : Int32)), (0, .ref (ad 3)), (1, .int x1), (2, .int x2)]) hx hb d_C_occurring_1 rfl hl (by decide) rfl (fun ls hl => ?_)
  refine lv_iconst (v := 1) hx hb d_C_occurring_2 (by decide) ?_
  refine lv_istore (lv' := [(4, .int (1 : Int32)), (3, .int (0 : Int32)), (0, .ref (ad 3)), (1, .int x1), (2, .int x2)]) hx hb d_C_occurring_3 hl (by decide) rfl (fun ls hl => ?_)
  obtain ⟨n, h⟩ := h
  refine b_C_occurring_L5 C0 n _ _ h hw (lv_sub hl [2, 3, 4, 1, 0] rfl)
theorem g_C_positiveRest : GY y_C_positiveRest b_C_positiveRest 4 (some .int) 3 := ⟨wm_465, wm_55, by decide +kernel, by decide +kernel, by decide +kernel⟩
def p_C_positiveRest (C_positive : Nat → Int32) (x1 : Int32) (x2 : Int32) (x3 : Int32) (k : Int32 → Prop) : Prop :=
  (vp_in x1 201 ∧ (vp_in x2 201 ∧ (p_B_bitOf x3 (fun (r_3 : Int32) => (k (((C_positive x1.toNatClampNeg) ||| (C_positive x2.toNatClampNeg)) &&& (r_3 ^^^ (-1 : Int32))))))))
abbrev rm_C_positiveRest : Room := { frames := 1, cells := 0, slots := 0, locals := 20 }
set_option maxHeartbeats 4000000 in
set_option maxRecDepth 100000 in
theorem c_C_positiveRest {l : Launch} {D : va_G} {ca : Nat → ClassId} {tp : Nat} {ad : Nat → Nat} {T_length : Int32} {T_bytes : Nat → Int32} {C_size : Int32} {C_given : Int32} {C_empty : Int32} {C_drafted : Int32} {C_draftedGiven : Int32} {C_block : Nat → Int32} {C_left : Nat → Int32} {C_right : Nat → Int32} {C_pivot : Nat → Int32} {C_positive : Nat → Int32} {C_negative : Nat → Int32} {C_live : Nat → Int32} {C_needed : Nat → Int32} {R_kind : Int32} {R_place : Int32} {R_at : Int32} {R_token : Int32} {R_tokenPlace : Int32} {R_number : Int32} {R_state : Int32} {R_block : Int32} {R_positive : Int32} {R_negative : Int32} {R_left : Int32} {R_right : Int32} {R_pivot : Int32} {L_of : Nat → Int32} {F_cut : Int32} {F_labelledA : Int32} {F_labelledB : Int32} {F_row : Nat → Int64} {A_root : Int32} {A_words : Nat → Int64} {A_known : Nat → Int32} {G_size : Int32} {G_variable : Nat → Int32} {G_low : Nat → Int32} {G_high : Nat → Int32} {G_numberOf : Nat → Int32} {G_nodeOf : Nat → Int32} {G_sides : Nat → Int32} {G_waiting : Nat → Int32} {B_table : Nat → Int64} {B_nextTable : Nat → Int64} {x1 : Int32} {x2 : Int32} {x3 : Int32} {k : Int32 → Prop} (h : p_C_positiveRest C_positive x1 x2 x3 k) :
    MTi l y_C_positiveRest b_C_positiveRest 4 (some .int) rm_C_positiveRest D ca tp [.ref (ad 3), .int x1, .int x2, .int x3] (WB ad ca T_length T_bytes C_size C_given C_empty C_drafted C_draftedGiven C_block C_left C_right C_pivot C_positive C_negative C_live C_needed R_kind R_place R_at R_token R_tokenPlace R_number R_state R_block R_positive R_negative R_left R_right R_pivot L_of F_cut F_labelledA F_labelledB F_row A_root A_words A_known G_size G_variable G_low G_high G_numberOf G_nodeOf G_sides G_waiting B_table B_nextTable)
      (fun r (_ : Unit) => k r)
      (fun (_ : Unit) => WB ad ca T_length T_bytes C_size C_given C_empty C_drafted C_draftedGiven C_block C_left C_right C_pivot C_positive C_negative C_live C_needed R_kind R_place R_at R_token R_tokenPlace R_number R_state R_block R_positive R_negative R_left R_right R_pivot L_of F_cut F_labelledA F_labelledB F_row A_root A_words A_known G_size G_variable G_low G_high G_numberOf G_nodeOf G_sides G_waiting B_table B_nextTable) 0 0 := by
  refine x_entryi (own := R_C) (nm := "positiveRest") (by decide) rfl rfl (Nat.le_of_ble_eq_true rfl) (fun p e s m below meth c A ls C0 hw hl => ?_)
  have hx := C0.1
  have hb := C0.2.1
  have hl : lv_has ls 4 [(0, .ref (ad 3)), (1, .int x1), (2, .int x2), (3, .int x3)] := hl
  unfold p_C_positiveRest at h
  refine lv_aload_n hx hb d_C_positiveRest_0 rfl (lv_at hl 0 rfl) ?_
  refine x_get C0 hw 3 rfl rfl i_C 4 (by decide) wm_107 rfl rfl d_C_positiveRest_1 ?_
  refine lv_iload_n hx hb d_C_positiveRest_4 rfl (lv_at hl 1 rfl) ?_
  obtain ⟨hi_1, h⟩ := h
  refine x_iald C0 hw 8 rfl hi_1 d_C_positiveRest_5 ?_
  refine lv_aload_n hx hb d_C_positiveRest_6 rfl (lv_at hl 0 rfl) ?_
  refine x_get C0 hw 3 rfl rfl i_C 4 (by decide) wm_107 rfl rfl d_C_positiveRest_7 ?_
  refine lv_iload_n hx hb d_C_positiveRest_10 rfl (lv_at hl 2 rfl) ?_
  obtain ⟨hi_2, h⟩ := h
  refine x_iald C0 hw 8 rfl hi_2 d_C_positiveRest_11 ?_
  refine lv_ior hx hb d_C_positiveRest_12 ?_
  refine lv_iload_n hx hb d_C_positiveRest_13 rfl (lv_at hl 3 rfl) ?_
  refine x_callSNi C0 hw hl (c_B_bitOf h) g_B_bitOf wm_455 wm_456 (As := [.int x3]) (rest := [.int ((C_positive x1.toNatClampNeg) ||| (C_positive x2.toNatClampNeg))]) rfl rfl (Nat.le_of_ble_eq_true rfl) ⟨rfl, rfl⟩ ⟨Nat.le_of_ble_eq_true rfl, Nat.le_of_ble_eq_true rfl⟩ ⟨Nat.le_of_ble_eq_true rfl, Nat.le_of_ble_eq_true rfl⟩ d_C_positiveRest_14 (fun r_3 u H locs h hw => ?_)
  refine lv_iconst (v := -1) hx hb d_C_positiveRest_17 (by decide) ?_
  refine lv_ixor hx hb d_C_positiveRest_18 ?_
  refine lv_iand hx hb d_C_positiveRest_19 ?_
  exact x_iret C0 hw () h rfl d_C_positiveRest_20
theorem g_C_negativeRest : GY y_C_negativeRest b_C_negativeRest 4 (some .int) 3 := ⟨wm_469, wm_55, by decide +kernel, by decide +kernel, by decide +kernel⟩
def p_C_negativeRest (C_negative : Nat → Int32) (x1 : Int32) (x2 : Int32) (x3 : Int32) (k : Int32 → Prop) : Prop :=
  (vp_in x1 201 ∧ (vp_in x2 201 ∧ (p_B_bitOf x3 (fun (r_3 : Int32) => (k (((C_negative x1.toNatClampNeg) ||| (C_negative x2.toNatClampNeg)) &&& (r_3 ^^^ (-1 : Int32))))))))
abbrev rm_C_negativeRest : Room := { frames := 1, cells := 0, slots := 0, locals := 20 }
set_option maxHeartbeats 4000000 in
set_option maxRecDepth 100000 in
theorem c_C_negativeRest {l : Launch} {D : va_G} {ca : Nat → ClassId} {tp : Nat} {ad : Nat → Nat} {T_length : Int32} {T_bytes : Nat → Int32} {C_size : Int32} {C_given : Int32} {C_empty : Int32} {C_drafted : Int32} {C_draftedGiven : Int32} {C_block : Nat → Int32} {C_left : Nat → Int32} {C_right : Nat → Int32} {C_pivot : Nat → Int32} {C_positive : Nat → Int32} {C_negative : Nat → Int32} {C_live : Nat → Int32} {C_needed : Nat → Int32} {R_kind : Int32} {R_place : Int32} {R_at : Int32} {R_token : Int32} {R_tokenPlace : Int32} {R_number : Int32} {R_state : Int32} {R_block : Int32} {R_positive : Int32} {R_negative : Int32} {R_left : Int32} {R_right : Int32} {R_pivot : Int32} {L_of : Nat → Int32} {F_cut : Int32} {F_labelledA : Int32} {F_labelledB : Int32} {F_row : Nat → Int64} {A_root : Int32} {A_words : Nat → Int64} {A_known : Nat → Int32} {G_size : Int32} {G_variable : Nat → Int32} {G_low : Nat → Int32} {G_high : Nat → Int32} {G_numberOf : Nat → Int32} {G_nodeOf : Nat → Int32} {G_sides : Nat → Int32} {G_waiting : Nat → Int32} {B_table : Nat → Int64} {B_nextTable : Nat → Int64} {x1 : Int32} {x2 : Int32} {x3 : Int32} {k : Int32 → Prop} (h : p_C_negativeRest C_negative x1 x2 x3 k) :
    MTi l y_C_negativeRest b_C_negativeRest 4 (some .int) rm_C_negativeRest D ca tp [.ref (ad 3), .int x1, .int x2, .int x3] (WB ad ca T_length T_bytes C_size C_given C_empty C_drafted C_draftedGiven C_block C_left C_right C_pivot C_positive C_negative C_live C_needed R_kind R_place R_at R_token R_tokenPlace R_number R_state R_block R_positive R_negative R_left R_right R_pivot L_of F_cut F_labelledA F_labelledB F_row A_root A_words A_known G_size G_variable G_low G_high G_numberOf G_nodeOf G_sides G_waiting B_table B_nextTable)
      (fun r (_ : Unit) => k r)
      (fun (_ : Unit) => WB ad ca T_length T_bytes C_size C_given C_empty C_drafted C_draftedGiven C_block C_left C_right C_pivot C_positive C_negative C_live C_needed R_kind R_place R_at R_token R_tokenPlace R_number R_state R_block R_positive R_negative R_left R_right R_pivot L_of F_cut F_labelledA F_labelledB F_row A_root A_words A_known G_size G_variable G_low G_high G_numberOf G_nodeOf G_sides G_waiting B_table B_nextTable) 0 0 := by
  refine x_entryi (own := R_C) (nm := "negativeRest") (by decide) rfl rfl (Nat.le_of_ble_eq_true rfl) (fun p e s m below meth c A ls C0 hw hl => ?_)
  have hx := C0.1
  have hb := C0.2.1
  have hl : lv_has ls 4 [(0, .ref (ad 3)), (1, .int x1), (2, .int x2), (3, .int x3)] := hl
  unfold p_C_negativeRest at h
  refine lv_aload_n hx hb d_C_negativeRest_0 rfl (lv_at hl 0 rfl) ?_
  refine x_get C0 hw 3 rfl rfl i_C 5 (by decide) wm_110 rfl rfl d_C_negativeRest_1 ?_
  refine lv_iload_n hx hb d_C_negativeRest_4 rfl (lv_at hl 1 rfl) ?_
  obtain ⟨hi_1, h⟩ := h
  refine x_iald C0 hw 9 rfl hi_1 d_C_negativeRest_5 ?_
  refine lv_aload_n hx hb d_C_negativeRest_6 rfl (lv_at hl 0 rfl) ?_
  refine x_get C0 hw 3 rfl rfl i_C 5 (by decide) wm_110 rfl rfl d_C_negativeRest_7 ?_
  refine lv_iload_n hx hb d_C_negativeRest_10 rfl (lv_at hl 2 rfl) ?_
  obtain ⟨hi_2, h⟩ := h
  refine x_iald C0 hw 9 rfl hi_2 d_C_negativeRest_11 ?_
  refine lv_ior hx hb d_C_negativeRest_12 ?_
  refine lv_iload_n hx hb d_C_negativeRest_13 rfl (lv_at hl 3 rfl) ?_
  refine x_callSNi C0 hw hl (c_B_bitOf h) g_B_bitOf wm_455 wm_456 (As := [.int x3]) (rest := [.int ((C_negative x1.toNatClampNeg) ||| (C_negative x2.toNatClampNeg))]) rfl rfl (Nat.le_of_ble_eq_true rfl) ⟨rfl, rfl⟩ ⟨Nat.le_of_ble_eq_true rfl, Nat.le_of_ble_eq_true rfl⟩ ⟨Nat.le_of_ble_eq_true rfl, Nat.le_of_ble_eq_true rfl⟩ d_C_negativeRest_14 (fun r_3 u H locs h hw => ?_)
  refine lv_iconst (v := -1) hx hb d_C_negativeRest_17 (by decide) ?_
  refine lv_ixor hx hb d_C_negativeRest_18 ?_
  refine lv_iand hx hb d_C_negativeRest_19 ?_
  exact x_iret C0 hw () h rfl d_C_negativeRest_20
theorem g_C_resolves : GY y_C_resolves b_C_resolves 4 (some .boolean) 3 := ⟨wm_454, wm_55, by decide +kernel, by decide +kernel, by decide +kernel⟩
def p_C_resolves (C_positive : Nat → Int32) (C_negative : Nat → Int32) (x1 : Int32) (x2 : Int32) (x3 : Int32) (k : Int32 → Prop) : Prop :=
  (vp_in x1 201 ∧ (p_B_bitOf x3 (fun (r_2 : Int32) => ((((C_positive x1.toNatClampNeg) &&& r_2) = 0 → (k (0 : Int32))) ∧ (¬ ((C_positive x1.toNatClampNeg) &&& r_2) = 0 → (vp_in x2 201 ∧ (p_B_bitOf x3 (fun (r_5 : Int32) => ((((C_negative x2.toNatClampNeg) &&& r_5) = 0 → (k (0 : Int32))) ∧ (¬ ((C_negative x2.toNatClampNeg) &&& r_5) = 0 → (k (1 : Int32))))))))))))
abbrev rm_C_resolves : Room := { frames := 1, cells := 0, slots := 0, locals := 20 }
set_option maxHeartbeats 4000000 in
set_option maxRecDepth 100000 in
theorem c_C_resolves {l : Launch} {D : va_G} {ca : Nat → ClassId} {tp : Nat} {ad : Nat → Nat} {T_length : Int32} {T_bytes : Nat → Int32} {C_size : Int32} {C_given : Int32} {C_empty : Int32} {C_drafted : Int32} {C_draftedGiven : Int32} {C_block : Nat → Int32} {C_left : Nat → Int32} {C_right : Nat → Int32} {C_pivot : Nat → Int32} {C_positive : Nat → Int32} {C_negative : Nat → Int32} {C_live : Nat → Int32} {C_needed : Nat → Int32} {R_kind : Int32} {R_place : Int32} {R_at : Int32} {R_token : Int32} {R_tokenPlace : Int32} {R_number : Int32} {R_state : Int32} {R_block : Int32} {R_positive : Int32} {R_negative : Int32} {R_left : Int32} {R_right : Int32} {R_pivot : Int32} {L_of : Nat → Int32} {F_cut : Int32} {F_labelledA : Int32} {F_labelledB : Int32} {F_row : Nat → Int64} {A_root : Int32} {A_words : Nat → Int64} {A_known : Nat → Int32} {G_size : Int32} {G_variable : Nat → Int32} {G_low : Nat → Int32} {G_high : Nat → Int32} {G_numberOf : Nat → Int32} {G_nodeOf : Nat → Int32} {G_sides : Nat → Int32} {G_waiting : Nat → Int32} {B_table : Nat → Int64} {B_nextTable : Nat → Int64} {x1 : Int32} {x2 : Int32} {x3 : Int32} {k : Int32 → Prop} (h : p_C_resolves C_positive C_negative x1 x2 x3 k) :
    MTi l y_C_resolves b_C_resolves 4 (some .boolean) rm_C_resolves D ca tp [.ref (ad 3), .int x1, .int x2, .int x3] (WB ad ca T_length T_bytes C_size C_given C_empty C_drafted C_draftedGiven C_block C_left C_right C_pivot C_positive C_negative C_live C_needed R_kind R_place R_at R_token R_tokenPlace R_number R_state R_block R_positive R_negative R_left R_right R_pivot L_of F_cut F_labelledA F_labelledB F_row A_root A_words A_known G_size G_variable G_low G_high G_numberOf G_nodeOf G_sides G_waiting B_table B_nextTable)
      (fun r (_ : Unit) => k r)
      (fun (_ : Unit) => WB ad ca T_length T_bytes C_size C_given C_empty C_drafted C_draftedGiven C_block C_left C_right C_pivot C_positive C_negative C_live C_needed R_kind R_place R_at R_token R_tokenPlace R_number R_state R_block R_positive R_negative R_left R_right R_pivot L_of F_cut F_labelledA F_labelledB F_row A_root A_words A_known G_size G_variable G_low G_high G_numberOf G_nodeOf G_sides G_waiting B_table B_nextTable) 0 0 := by
  refine x_entryi (own := R_C) (nm := "resolves") (by decide) rfl rfl (Nat.le_of_ble_eq_true rfl) (fun p e s m below meth c A ls C0 hw hl => ?_)
  have hx := C0.1
  have hb := C0.2.1
  have hl : lv_has ls 4 [(0, .ref (ad 3)), (1, .int x1), (2, .int x2), (3, .int x3)] := hl
  unfold p_C_resolves at h
  refine lv_aload_n hx hb d_C_resolves_0 rfl (lv_at hl 0 rfl) ?_
  refine x_get C0 hw 3 rfl rfl i_C 4 (by decide) wm_107 rfl rfl d_C_resolves_1 ?_
  refine lv_iload_n hx hb d_C_resolves_4 rfl (lv_at hl 1 rfl) ?_
  obtain ⟨hi_1, h⟩ := h
  refine x_iald C0 hw 8 rfl hi_1 d_C_resolves_5 ?_
  refine lv_iload_n hx hb d_C_resolves_6 rfl (lv_at hl 3 rfl) ?_
  refine x_callSNi C0 hw hl (c_B_bitOf h) g_B_bitOf wm_455 wm_456 (As := [.int x3]) (rest := [.int (C_positive x1.toNatClampNeg)]) rfl rfl (Nat.le_of_ble_eq_true rfl) ⟨rfl, rfl⟩ ⟨Nat.le_of_ble_eq_true rfl, Nat.le_of_ble_eq_true rfl⟩ ⟨Nat.le_of_ble_eq_true rfl, Nat.le_of_ble_eq_true rfl⟩ d_C_resolves_7 (fun r_2 u H locs h hw => ?_)
  refine lv_iand hx hb d_C_resolves_10 ?_
  refine lv_if_eq (tgt := 32) hx hb d_C_resolves_11 (by decide) (fun c_3 => ?_) (fun c_3 => ?_)
  · have h := h.1 c_3
    refine lv_iconst (v := 0) hx hb d_C_resolves_32 (by decide) ?_
    exact x_zret C0 hw rfl () h rfl d_C_resolves_33
  · have h := h.2 c_3
    refine lv_aload_n hx hb d_C_resolves_14 rfl (lv_at hl 0 rfl) ?_
    refine x_get C0 hw 3 rfl rfl i_C 5 (by decide) wm_110 rfl rfl d_C_resolves_15 ?_
    refine lv_iload_n hx hb d_C_resolves_18 rfl (lv_at hl 2 rfl) ?_
    obtain ⟨hi_4, h⟩ := h
    refine x_iald C0 hw 9 rfl hi_4 d_C_resolves_19 ?_
    refine lv_iload_n hx hb d_C_resolves_20 rfl (lv_at hl 3 rfl) ?_
    refine x_callSNi C0 hw hl (c_B_bitOf h) g_B_bitOf wm_455 wm_456 (As := [.int x3]) (rest := [.int (C_negative x2.toNatClampNeg)]) rfl rfl (Nat.le_of_ble_eq_true rfl) ⟨rfl, rfl⟩ ⟨Nat.le_of_ble_eq_true rfl, Nat.le_of_ble_eq_true rfl⟩ ⟨Nat.le_of_ble_eq_true rfl, Nat.le_of_ble_eq_true rfl⟩ d_C_resolves_21 (fun r_5 u H locs h hw => ?_)
    refine lv_iand hx hb d_C_resolves_24 ?_
    refine lv_if_eq (tgt := 32) hx hb d_C_resolves_25 (by decide) (fun c_6 => ?_) (fun c_6 => ?_)
    · have h := h.1 c_6
      refine lv_iconst (v := 0) hx hb d_C_resolves_32 (by decide) ?_
      exact x_zret C0 hw rfl () h rfl d_C_resolves_33
    · have h := h.2 c_6
      refine lv_iconst (v := 1) hx hb d_C_resolves_28 (by decide) ?_
      refine lv_goto (tgt := 33) hx hb d_C_resolves_29 (by decide) ?_
      exact x_zret C0 hw rfl () h rfl d_C_resolves_33
theorem g_C_clashes : GY y_C_clashes b_C_clashes 4 (some .boolean) 3 := ⟨wm_461, wm_55, by decide +kernel, by decide +kernel, by decide +kernel⟩
def p_C_clashes (C_positive : Nat → Int32) (C_negative : Nat → Int32) (x1 : Int32) (x2 : Int32) (x3 : Int32) (k : Int32 → Prop) : Prop :=
  (p_C_positiveRest C_positive x1 x2 x3 (fun (r_1 : Int32) => (p_C_negativeRest C_negative x1 x2 x3 (fun (r_2 : Int32) => (((r_1 &&& r_2) = 0 → (k (0 : Int32))) ∧ (¬ (r_1 &&& r_2) = 0 → (k (1 : Int32))))))))
abbrev rm_C_clashes : Room := { frames := 2, cells := 0, slots := 0, locals := 43 }
set_option maxHeartbeats 4000000 in
set_option maxRecDepth 100000 in
theorem c_C_clashes {l : Launch} {D : va_G} {ca : Nat → ClassId} {tp : Nat} {ad : Nat → Nat} {T_length : Int32} {T_bytes : Nat → Int32} {C_size : Int32} {C_given : Int32} {C_empty : Int32} {C_drafted : Int32} {C_draftedGiven : Int32} {C_block : Nat → Int32} {C_left : Nat → Int32} {C_right : Nat → Int32} {C_pivot : Nat → Int32} {C_positive : Nat → Int32} {C_negative : Nat → Int32} {C_live : Nat → Int32} {C_needed : Nat → Int32} {R_kind : Int32} {R_place : Int32} {R_at : Int32} {R_token : Int32} {R_tokenPlace : Int32} {R_number : Int32} {R_state : Int32} {R_block : Int32} {R_positive : Int32} {R_negative : Int32} {R_left : Int32} {R_right : Int32} {R_pivot : Int32} {L_of : Nat → Int32} {F_cut : Int32} {F_labelledA : Int32} {F_labelledB : Int32} {F_row : Nat → Int64} {A_root : Int32} {A_words : Nat → Int64} {A_known : Nat → Int32} {G_size : Int32} {G_variable : Nat → Int32} {G_low : Nat → Int32} {G_high : Nat → Int32} {G_numberOf : Nat → Int32} {G_nodeOf : Nat → Int32} {G_sides : Nat → Int32} {G_waiting : Nat → Int32} {B_table : Nat → Int64} {B_nextTable : Nat → Int64} {x1 : Int32} {x2 : Int32} {x3 : Int32} {k : Int32 → Prop} (h : p_C_clashes C_positive C_negative x1 x2 x3 k) :
    MTi l y_C_clashes b_C_clashes 4 (some .boolean) rm_C_clashes D ca tp [.ref (ad 3), .int x1, .int x2, .int x3] (WB ad ca T_length T_bytes C_size C_given C_empty C_drafted C_draftedGiven C_block C_left C_right C_pivot C_positive C_negative C_live C_needed R_kind R_place R_at R_token R_tokenPlace R_number R_state R_block R_positive R_negative R_left R_right R_pivot L_of F_cut F_labelledA F_labelledB F_row A_root A_words A_known G_size G_variable G_low G_high G_numberOf G_nodeOf G_sides G_waiting B_table B_nextTable)
      (fun r (_ : Unit) => k r)
      (fun (_ : Unit) => WB ad ca T_length T_bytes C_size C_given C_empty C_drafted C_draftedGiven C_block C_left C_right C_pivot C_positive C_negative C_live C_needed R_kind R_place R_at R_token R_tokenPlace R_number R_state R_block R_positive R_negative R_left R_right R_pivot L_of F_cut F_labelledA F_labelledB F_row A_root A_words A_known G_size G_variable G_low G_high G_numberOf G_nodeOf G_sides G_waiting B_table B_nextTable) 0 0 := by
  refine x_entryi (own := R_C) (nm := "clashes") (by decide) rfl rfl (Nat.le_of_ble_eq_true rfl) (fun p e s m below meth c A ls C0 hw hl => ?_)
  have hx := C0.1
  have hb := C0.2.1
  have hl : lv_has ls 4 [(0, .ref (ad 3)), (1, .int x1), (2, .int x2), (3, .int x3)] := hl
  unfold p_C_clashes at h
  refine lv_aload_n hx hb d_C_clashes_0 rfl (lv_at hl 0 rfl) ?_
  refine lv_iload_n hx hb d_C_clashes_1 rfl (lv_at hl 1 rfl) ?_
  refine lv_iload_n hx hb d_C_clashes_2 rfl (lv_at hl 2 rfl) ?_
  refine lv_iload_n hx hb d_C_clashes_3 rfl (lv_at hl 3 rfl) ?_
  refine x_callVi C0 hw hl (c_C_positiveRest h) g_C_positiveRest wm_462 ⟨wm_16, wm_464⟩ 3 rfl rfl rfl (As := [.int x1, .int x2, .int x3]) (rest := []) rfl rfl (Nat.le_of_ble_eq_true rfl) ⟨rfl, rfl⟩ ⟨Nat.le_of_ble_eq_true rfl, Nat.le_of_ble_eq_true rfl⟩ ⟨Nat.le_of_ble_eq_true rfl, Nat.le_of_ble_eq_true rfl⟩ d_C_clashes_4 (fun r_1 u H locs h hw => ?_)
  refine lv_aload_n hx hb d_C_clashes_7 rfl (lv_at hl 0 rfl) ?_
  refine lv_iload_n hx hb d_C_clashes_8 rfl (lv_at hl 1 rfl) ?_
  refine lv_iload_n hx hb d_C_clashes_9 rfl (lv_at hl 2 rfl) ?_
  refine lv_iload_n hx hb d_C_clashes_10 rfl (lv_at hl 3 rfl) ?_
  refine x_callVi C0 hw hl (c_C_negativeRest h) g_C_negativeRest wm_466 ⟨wm_17, wm_468⟩ 3 rfl rfl rfl (As := [.int x1, .int x2, .int x3]) (rest := [.int r_1]) rfl rfl (Nat.le_of_ble_eq_true rfl) ⟨rfl, rfl⟩ ⟨Nat.le_of_ble_eq_true rfl, Nat.le_of_ble_eq_true rfl⟩ ⟨Nat.le_of_ble_eq_true rfl, Nat.le_of_ble_eq_true rfl⟩ d_C_clashes_11 (fun r_2 u H locs h hw => ?_)
  refine lv_iand hx hb d_C_clashes_14 ?_
  refine lv_if_eq (tgt := 22) hx hb d_C_clashes_15 (by decide) (fun c_3 => ?_) (fun c_3 => ?_)
  · have h := h.1 c_3
    refine lv_iconst (v := 0) hx hb d_C_clashes_22 (by decide) ?_
    exact x_zret C0 hw rfl () h rfl d_C_clashes_23
  · have h := h.2 c_3
    refine lv_iconst (v := 1) hx hb d_C_clashes_18 (by decide) ?_
    refine lv_goto (tgt := 23) hx hb d_C_clashes_19 (by decide) ?_
    exact x_zret C0 hw rfl () h rfl d_C_clashes_23
theorem g_C_draft : GY y_C_draft b_C_draft 3 none 2 := ⟨wm_423, wm_55, by decide +kernel, by decide +kernel, by decide +kernel⟩
def p_C_draft (C_drafted : Int32) (C_positive : Nat → Int32) (C_negative : Nat → Int32) (C_live : Nat → Int32) (x1 : Int32) (x2 : Int32) (k : Int32 → (Nat → Int32) → (Nat → Int32) → (Nat → Int32) → Prop) : Prop :=
  (vp_in (C_drafted + (1 : Int32)) 201 ∧ (k (C_drafted + (1 : Int32)) (upd C_positive (C_drafted + (1 : Int32)).toNatClampNeg x1) (upd C_negative (C_drafted + (1 : Int32)).toNatClampNeg x2) (upd C_live (C_drafted + (1 : Int32)).toNatClampNeg (1 : Int32))))
abbrev rm_C_draft : Room := { frames := 0, cells := 0, slots := 0, locals := 0 }
set_option maxHeartbeats 4000000 in
set_option maxRecDepth 100000 in
theorem c_C_draft {l : Launch} {D : va_G} {ca : Nat → ClassId} {tp : Nat} {ad : Nat → Nat} {T_length : Int32} {T_bytes : Nat → Int32} {C_size : Int32} {C_given : Int32} {C_empty : Int32} {C_drafted : Int32} {C_draftedGiven : Int32} {C_block : Nat → Int32} {C_left : Nat → Int32} {C_right : Nat → Int32} {C_pivot : Nat → Int32} {C_positive : Nat → Int32} {C_negative : Nat → Int32} {C_live : Nat → Int32} {C_needed : Nat → Int32} {R_kind : Int32} {R_place : Int32} {R_at : Int32} {R_token : Int32} {R_tokenPlace : Int32} {R_number : Int32} {R_state : Int32} {R_block : Int32} {R_positive : Int32} {R_negative : Int32} {R_left : Int32} {R_right : Int32} {R_pivot : Int32} {L_of : Nat → Int32} {F_cut : Int32} {F_labelledA : Int32} {F_labelledB : Int32} {F_row : Nat → Int64} {A_root : Int32} {A_words : Nat → Int64} {A_known : Nat → Int32} {G_size : Int32} {G_variable : Nat → Int32} {G_low : Nat → Int32} {G_high : Nat → Int32} {G_numberOf : Nat → Int32} {G_nodeOf : Nat → Int32} {G_sides : Nat → Int32} {G_waiting : Nat → Int32} {B_table : Nat → Int64} {B_nextTable : Nat → Int64} {x1 : Int32} {x2 : Int32} {k : Int32 → (Nat → Int32) → (Nat → Int32) → (Nat → Int32) → Prop} (h : p_C_draft C_drafted C_positive C_negative C_live x1 x2 k) :
    MTv l y_C_draft b_C_draft 3 none rm_C_draft D ca tp [.ref (ad 3), .int x1, .int x2] (WB ad ca T_length T_bytes C_size C_given C_empty C_drafted C_draftedGiven C_block C_left C_right C_pivot C_positive C_negative C_live C_needed R_kind R_place R_at R_token R_tokenPlace R_number R_state R_block R_positive R_negative R_left R_right R_pivot L_of F_cut F_labelledA F_labelledB F_row A_root A_words A_known G_size G_variable G_low G_high G_numberOf G_nodeOf G_sides G_waiting B_table B_nextTable)
      (fun (u : Int32 × (Nat → Int32) × (Nat → Int32) × (Nat → Int32)) => k u.1 u.2.1 u.2.2.1 u.2.2.2)
      (fun (u : Int32 × (Nat → Int32) × (Nat → Int32) × (Nat → Int32)) => WB ad ca T_length T_bytes C_size C_given C_empty u.1 C_draftedGiven C_block C_left C_right C_pivot u.2.1 u.2.2.1 u.2.2.2 C_needed R_kind R_place R_at R_token R_tokenPlace R_number R_state R_block R_positive R_negative R_left R_right R_pivot L_of F_cut F_labelledA F_labelledB F_row A_root A_words A_known G_size G_variable G_low G_high G_numberOf G_nodeOf G_sides G_waiting B_table B_nextTable) 0 0 := by
  refine x_entryv (own := R_C) (nm := "draft") (by decide) rfl rfl (Nat.le_of_ble_eq_true rfl) (fun p e s m below meth c A ls C0 hw hl => ?_)
  have hx := C0.1
  have hb := C0.2.1
  have hl : lv_has ls 3 [(0, .ref (ad 3)), (1, .int x1), (2, .int x2)] := hl
  unfold p_C_draft at h
  refine lv_aload_n hx hb d_C_draft_0 rfl (lv_at hl 0 rfl) ?_
  refine lv_dup hx hb d_C_draft_1 rfl ?_
  refine x_get C0 hw 3 rfl rfl i_C 11 (by decide) wm_126 rfl rfl d_C_draft_2 ?_
  refine lv_iconst (v := 1) hx hb d_C_draft_5 (by decide) ?_
  refine lv_iadd hx hb d_C_draft_6 ?_
  refine x_put C0 hw 3 rfl rfl i_C tk_C n_C 11 (by decide) wm_126 rfl rfl rfl rfl (Nat.le_of_ble_eq_true rfl) (ws' := WB ad ca T_length T_bytes C_size C_given C_empty (C_drafted + (1 : Int32)) C_draftedGiven C_block C_left C_right C_pivot C_positive C_negative C_live C_needed R_kind R_place R_at R_token R_tokenPlace R_number R_state R_block R_positive R_negative R_left R_right R_pivot L_of F_cut F_labelledA F_labelledB F_row A_root A_words A_known G_size G_variable G_low G_high G_numberOf G_nodeOf G_sides G_waiting B_table B_nextTable) rfl d_C_draft_7 (fun H locs hw => ?_)
  refine lv_aload_n hx hb d_C_draft_10 rfl (lv_at hl 0 rfl) ?_
  refine x_get C0 hw 3 rfl rfl i_C 4 (by decide) wm_107 rfl rfl d_C_draft_11 ?_
  refine lv_aload_n hx hb d_C_draft_14 rfl (lv_at hl 0 rfl) ?_
  refine x_get C0 hw 3 rfl rfl i_C 11 (by decide) wm_126 rfl rfl d_C_draft_15 ?_
  refine lv_iload_n hx hb d_C_draft_18 rfl (lv_at hl 1 rfl) ?_
  obtain ⟨hi_1, h⟩ := h
  refine x_iast C0 hw 8 rfl hi_1 (ws' := WB ad ca T_length T_bytes C_size C_given C_empty (C_drafted + (1 : Int32)) C_draftedGiven C_block C_left C_right C_pivot (upd C_positive (C_drafted + (1 : Int32)).toNatClampNeg x1) C_negative C_live C_needed R_kind R_place R_at R_token R_tokenPlace R_number R_state R_block R_positive R_negative R_left R_right R_pivot L_of F_cut F_labelledA F_labelledB F_row A_root A_words A_known G_size G_variable G_low G_high G_numberOf G_nodeOf G_sides G_waiting B_table B_nextTable) rfl d_C_draft_19 (fun H locs hw => ?_)
  refine lv_aload_n hx hb d_C_draft_20 rfl (lv_at hl 0 rfl) ?_
  refine x_get C0 hw 3 rfl rfl i_C 5 (by decide) wm_110 rfl rfl d_C_draft_21 ?_
  refine lv_aload_n hx hb d_C_draft_24 rfl (lv_at hl 0 rfl) ?_
  refine x_get C0 hw 3 rfl rfl i_C 11 (by decide) wm_126 rfl rfl d_C_draft_25 ?_
  refine lv_iload_n hx hb d_C_draft_28 rfl (lv_at hl 2 rfl) ?_
  refine x_iast C0 hw 9 rfl hi_1 (ws' := WB ad ca T_length T_bytes C_size C_given C_empty (C_drafted + (1 : Int32)) C_draftedGiven C_block C_left C_right C_pivot (upd C_positive (C_drafted + (1 : Int32)).toNatClampNeg x1) (upd C_negative (C_drafted + (1 : Int32)).toNatClampNeg x2) C_live C_needed R_kind R_place R_at R_token R_tokenPlace R_number R_state R_block R_positive R_negative R_left R_right R_pivot L_of F_cut F_labelledA F_labelledB F_row A_root A_words A_known G_size G_variable G_low G_high G_numberOf G_nodeOf G_sides G_waiting B_table B_nextTable) rfl d_C_draft_29 (fun H locs hw => ?_)
  refine lv_aload_n hx hb d_C_draft_30 rfl (lv_at hl 0 rfl) ?_
  refine x_get C0 hw 3 rfl rfl i_C 6 (by decide) wm_113 rfl rfl d_C_draft_31 ?_
  refine lv_aload_n hx hb d_C_draft_34 rfl (lv_at hl 0 rfl) ?_
  refine x_get C0 hw 3 rfl rfl i_C 11 (by decide) wm_126 rfl rfl d_C_draft_35 ?_
  refine lv_iconst (v := 1) hx hb d_C_draft_38 (by decide) ?_
  refine x_zast C0 hw 10 rfl hi_1 (ws' := WB ad ca T_length T_bytes C_size C_given C_empty (C_drafted + (1 : Int32)) C_draftedGiven C_block C_left C_right C_pivot (upd C_positive (C_drafted + (1 : Int32)).toNatClampNeg x1) (upd C_negative (C_drafted + (1 : Int32)).toNatClampNeg x2) (upd C_live (C_drafted + (1 : Int32)).toNatClampNeg (1 : Int32)) C_needed R_kind R_place R_at R_token R_tokenPlace R_number R_state R_block R_positive R_negative R_left R_right R_pivot L_of F_cut F_labelledA F_labelledB F_row A_root A_words A_known G_size G_variable G_low G_high G_numberOf G_nodeOf G_sides G_waiting B_table B_nextTable) rfl d_C_draft_39 (fun H locs hw => ?_)
  exact x_vret C0 hw ((C_drafted + (1 : Int32)), (upd C_positive (C_drafted + (1 : Int32)).toNatClampNeg x1), (upd C_negative (C_drafted + (1 : Int32)).toNatClampNeg x2), (upd C_live (C_drafted + (1 : Int32)).toNatClampNeg (1 : Int32))) h rfl d_C_draft_40
theorem g_C_draftGiven : GY y_C_draftGiven b_C_draftGiven 4 none 3 := ⟨wm_418, wm_55, by decide +kernel, by decide +kernel, by decide +kernel⟩
def p_C_draftGiven (C_drafted : Int32) (C_draftedGiven : Int32) (C_block : Nat → Int32) (C_left : Nat → Int32) (C_right : Nat → Int32) (C_pivot : Nat → Int32) (C_positive : Nat → Int32) (C_negative : Nat → Int32) (C_live : Nat → Int32) (x1 : Int32) (x2 : Int32) (x3 : Int32) (k : Int32 → Int32 → (Nat → Int32) → (Nat → Int32) → (Nat → Int32) → (Nat → Int32) → (Nat → Int32) → (Nat → Int32) → (Nat → Int32) → Prop) : Prop :=
  (p_C_hasRoomForGiven C_drafted C_draftedGiven (fun (r_1 : Int32) => ((r_1 = 0 → (k C_drafted C_draftedGiven C_block C_left C_right C_pivot C_positive C_negative C_live)) ∧ (¬ r_1 = 0 → (p_C_draft C_drafted C_positive C_negative C_live x2 x3 (fun (C_drafted_3 : Int32) (C_positive_4 : Nat → Int32) (C_negative_5 : Nat → Int32) (C_live_6 : Nat → Int32) => (vp_in C_drafted_3 201 ∧ (k C_drafted_3 (C_draftedGiven + (1 : Int32)) (upd C_block C_drafted_3.toNatClampNeg x1) (upd C_left C_drafted_3.toNatClampNeg (0 : Int32)) (upd C_right C_drafted_3.toNatClampNeg (0 : Int32)) (upd C_pivot C_drafted_3.toNatClampNeg (0 : Int32)) C_positive_4 C_negative_5 C_live_6))))))))
abbrev rm_C_draftGiven : Room := { frames := 2, cells := 0, slots := 0, locals := 40 }
set_option maxHeartbeats 4000000 in
set_option maxRecDepth 100000 in
theorem c_C_draftGiven {l : Launch} {D : va_G} {ca : Nat → ClassId} {tp : Nat} {ad : Nat → Nat} {T_length : Int32} {T_bytes : Nat → Int32} {C_size : Int32} {C_given : Int32} {C_empty : Int32} {C_drafted : Int32} {C_draftedGiven : Int32} {C_block : Nat → Int32} {C_left : Nat → Int32} {C_right : Nat → Int32} {C_pivot : Nat → Int32} {C_positive : Nat → Int32} {C_negative : Nat → Int32} {C_live : Nat → Int32} {C_needed : Nat → Int32} {R_kind : Int32} {R_place : Int32} {R_at : Int32} {R_token : Int32} {R_tokenPlace : Int32} {R_number : Int32} {R_state : Int32} {R_block : Int32} {R_positive : Int32} {R_negative : Int32} {R_left : Int32} {R_right : Int32} {R_pivot : Int32} {L_of : Nat → Int32} {F_cut : Int32} {F_labelledA : Int32} {F_labelledB : Int32} {F_row : Nat → Int64} {A_root : Int32} {A_words : Nat → Int64} {A_known : Nat → Int32} {G_size : Int32} {G_variable : Nat → Int32} {G_low : Nat → Int32} {G_high : Nat → Int32} {G_numberOf : Nat → Int32} {G_nodeOf : Nat → Int32} {G_sides : Nat → Int32} {G_waiting : Nat → Int32} {B_table : Nat → Int64} {B_nextTable : Nat → Int64} {x1 : Int32} {x2 : Int32} {x3 : Int32} {k : Int32 → Int32 → (Nat → Int32) → (Nat → Int32) → (Nat → Int32) → (Nat → Int32) → (Nat → Int32) → (Nat → Int32) → (Nat → Int32) → Prop} (h : p_C_draftGiven C_drafted C_draftedGiven C_block C_left C_right C_pivot C_positive C_negative C_live x1 x2 x3 k) :
    MTv l y_C_draftGiven b_C_draftGiven 4 none rm_C_draftGiven D ca tp [.ref (ad 3), .int x1, .int x2, .int x3] (WB ad ca T_length T_bytes C_size C_given C_empty C_drafted C_draftedGiven C_block C_left C_right C_pivot C_positive C_negative C_live C_needed R_kind R_place R_at R_token R_tokenPlace R_number R_state R_block R_positive R_negative R_left R_right R_pivot L_of F_cut F_labelledA F_labelledB F_row A_root A_words A_known G_size G_variable G_low G_high G_numberOf G_nodeOf G_sides G_waiting B_table B_nextTable)
      (fun (u : Int32 × Int32 × (Nat → Int32) × (Nat → Int32) × (Nat → Int32) × (Nat → Int32) × (Nat → Int32) × (Nat → Int32) × (Nat → Int32)) => k u.1 u.2.1 u.2.2.1 u.2.2.2.1 u.2.2.2.2.1 u.2.2.2.2.2.1 u.2.2.2.2.2.2.1 u.2.2.2.2.2.2.2.1 u.2.2.2.2.2.2.2.2)
      (fun (u : Int32 × Int32 × (Nat → Int32) × (Nat → Int32) × (Nat → Int32) × (Nat → Int32) × (Nat → Int32) × (Nat → Int32) × (Nat → Int32)) => WB ad ca T_length T_bytes C_size C_given C_empty u.1 u.2.1 u.2.2.1 u.2.2.2.1 u.2.2.2.2.1 u.2.2.2.2.2.1 u.2.2.2.2.2.2.1 u.2.2.2.2.2.2.2.1 u.2.2.2.2.2.2.2.2 C_needed R_kind R_place R_at R_token R_tokenPlace R_number R_state R_block R_positive R_negative R_left R_right R_pivot L_of F_cut F_labelledA F_labelledB F_row A_root A_words A_known G_size G_variable G_low G_high G_numberOf G_nodeOf G_sides G_waiting B_table B_nextTable) 0 0 := by
  refine x_entryv (own := R_C) (nm := "draftGiven") (by decide) rfl rfl (Nat.le_of_ble_eq_true rfl) (fun p e s m below meth c A ls C0 hw hl => ?_)
  have hx := C0.1
  have hb := C0.2.1
  have hl : lv_has ls 4 [(0, .ref (ad 3)), (1, .int x1), (2, .int x2), (3, .int x3)] := hl
  unfold p_C_draftGiven at h
  refine lv_aload_n hx hb d_C_draftGiven_0 rfl (lv_at hl 0 rfl) ?_
  refine x_callVi C0 hw hl (c_C_hasRoomForGiven h) g_C_hasRoomForGiven wm_419 ⟨wm_392, wm_391⟩ 3 rfl rfl rfl (As := []) (rest := []) rfl rfl (Nat.le_of_ble_eq_true rfl) ⟨rfl, rfl⟩ ⟨Nat.le_of_ble_eq_true rfl, Nat.le_of_ble_eq_true rfl⟩ ⟨Nat.le_of_ble_eq_true rfl, Nat.le_of_ble_eq_true rfl⟩ d_C_draftGiven_1 (fun r_1 u H locs h hw => ?_)
  refine lv_if_eq (tgt := 63) hx hb d_C_draftGiven_4 (by decide) (fun c_2 => ?_) (fun c_2 => ?_)
  · have h := h.1 c_2
    exact x_vret C0 hw (C_drafted, C_draftedGiven, C_block, C_left, C_right, C_pivot, C_positive, C_negative, C_live) h rfl d_C_draftGiven_63
  · have h := h.2 c_2
    refine lv_aload_n hx hb d_C_draftGiven_7 rfl (lv_at hl 0 rfl) ?_
    refine lv_iload_n hx hb d_C_draftGiven_8 rfl (lv_at hl 2 rfl) ?_
    refine lv_iload_n hx hb d_C_draftGiven_9 rfl (lv_at hl 3 rfl) ?_
    refine x_callVv C0 hw hl (c_C_draft h) g_C_draft wm_420 ⟨wm_10, wm_422⟩ 3 rfl rfl rfl (As := [.int x2, .int x3]) (rest := []) rfl rfl (Nat.le_of_ble_eq_true rfl) ⟨rfl, rfl⟩ ⟨Nat.le_of_ble_eq_true rfl, Nat.le_of_ble_eq_true rfl⟩ ⟨Nat.le_of_ble_eq_true rfl, Nat.le_of_ble_eq_true rfl⟩ d_C_draftGiven_10 (fun u H locs h hw => ?_)
    obtain ⟨C_drafted_3, C_positive_4, C_negative_5, C_live_6⟩ := u
    refine lv_aload_n hx hb d_C_draftGiven_13 rfl (lv_at hl 0 rfl) ?_
    refine x_get C0 hw 3 rfl rfl i_C 0 (by decide) wm_95 rfl rfl d_C_draftGiven_14 ?_
    refine lv_aload_n hx hb d_C_draftGiven_17 rfl (lv_at hl 0 rfl) ?_
    refine x_get C0 hw 3 rfl rfl i_C 11 (by decide) wm_126 rfl rfl d_C_draftGiven_18 ?_
    refine lv_iload_n hx hb d_C_draftGiven_21 rfl (lv_at hl 1 rfl) ?_
    obtain ⟨hi_8, h⟩ := h
    refine x_iast C0 hw 4 rfl hi_8 (ws' := WB ad ca T_length T_bytes C_size C_given C_empty C_drafted_3 C_draftedGiven (upd C_block C_drafted_3.toNatClampNeg x1) C_left C_right C_pivot C_positive_4 C_negative_5 C_live_6 C_needed R_kind R_place R_at R_token R_tokenPlace R_number R_state R_block R_positive R_negative R_left R_right R_pivot L_of F_cut F_labelledA F_labelledB F_row A_root A_words A_known G_size G_variable G_low G_high G_numberOf G_nodeOf G_sides G_waiting B_table B_nextTable) rfl d_C_draftGiven_22 (fun H locs hw => ?_)
    refine lv_aload_n hx hb d_C_draftGiven_23 rfl (lv_at hl 0 rfl) ?_
    refine x_get C0 hw 3 rfl rfl i_C 1 (by decide) wm_98 rfl rfl d_C_draftGiven_24 ?_
    refine lv_aload_n hx hb d_C_draftGiven_27 rfl (lv_at hl 0 rfl) ?_
    refine x_get C0 hw 3 rfl rfl i_C 11 (by decide) wm_126 rfl rfl d_C_draftGiven_28 ?_
    refine lv_iconst (v := 0) hx hb d_C_draftGiven_31 (by decide) ?_
    refine x_iast C0 hw 5 rfl hi_8 (ws' := WB ad ca T_length T_bytes C_size C_given C_empty C_drafted_3 C_draftedGiven (upd C_block C_drafted_3.toNatClampNeg x1) (upd C_left C_drafted_3.toNatClampNeg (0 : Int32)) C_right C_pivot C_positive_4 C_negative_5 C_live_6 C_needed R_kind R_place R_at R_token R_tokenPlace R_number R_state R_block R_positive R_negative R_left R_right R_pivot L_of F_cut F_labelledA F_labelledB F_row A_root A_words A_known G_size G_variable G_low G_high G_numberOf G_nodeOf G_sides G_waiting B_table B_nextTable) rfl d_C_draftGiven_32 (fun H locs hw => ?_)
    refine lv_aload_n hx hb d_C_draftGiven_33 rfl (lv_at hl 0 rfl) ?_
    refine x_get C0 hw 3 rfl rfl i_C 2 (by decide) wm_101 rfl rfl d_C_draftGiven_34 ?_
    refine lv_aload_n hx hb d_C_draftGiven_37 rfl (lv_at hl 0 rfl) ?_
    refine x_get C0 hw 3 rfl rfl i_C 11 (by decide) wm_126 rfl rfl d_C_draftGiven_38 ?_
    refine lv_iconst (v := 0) hx hb d_C_draftGiven_41 (by decide) ?_
    refine x_iast C0 hw 6 rfl hi_8 (ws' := WB ad ca T_length T_bytes C_size C_given C_empty C_drafted_3 C_draftedGiven (upd C_block C_drafted_3.toNatClampNeg x1) (upd C_left C_drafted_3.toNatClampNeg (0 : Int32)) (upd C_right C_drafted_3.toNatClampNeg (0 : Int32)) C_pivot C_positive_4 C_negative_5 C_live_6 C_needed R_kind R_place R_at R_token R_tokenPlace R_number R_state R_block R_positive R_negative R_left R_right R_pivot L_of F_cut F_labelledA F_labelledB F_row A_root A_words A_known G_size G_variable G_low G_high G_numberOf G_nodeOf G_sides G_waiting B_table B_nextTable) rfl d_C_draftGiven_42 (fun H locs hw => ?_)
    refine lv_aload_n hx hb d_C_draftGiven_43 rfl (lv_at hl 0 rfl) ?_
    refine x_get C0 hw 3 rfl rfl i_C 3 (by decide) wm_104 rfl rfl d_C_draftGiven_44 ?_
    refine lv_aload_n hx hb d_C_draftGiven_47 rfl (lv_at hl 0 rfl) ?_
    refine x_get C0 hw 3 rfl rfl i_C 11 (by decide) wm_126 rfl rfl d_C_draftGiven_48 ?_
    refine lv_iconst (v := 0) hx hb d_C_draftGiven_51 (by decide) ?_
    refine x_iast C0 hw 7 rfl hi_8 (ws' := WB ad ca T_length T_bytes C_size C_given C_empty C_drafted_3 C_draftedGiven (upd C_block C_drafted_3.toNatClampNeg x1) (upd C_left C_drafted_3.toNatClampNeg (0 : Int32)) (upd C_right C_drafted_3.toNatClampNeg (0 : Int32)) (upd C_pivot C_drafted_3.toNatClampNeg (0 : Int32)) C_positive_4 C_negative_5 C_live_6 C_needed R_kind R_place R_at R_token R_tokenPlace R_number R_state R_block R_positive R_negative R_left R_right R_pivot L_of F_cut F_labelledA F_labelledB F_row A_root A_words A_known G_size G_variable G_low G_high G_numberOf G_nodeOf G_sides G_waiting B_table B_nextTable) rfl d_C_draftGiven_52 (fun H locs hw => ?_)
    refine lv_aload_n hx hb d_C_draftGiven_53 rfl (lv_at hl 0 rfl) ?_
    refine lv_dup hx hb d_C_draftGiven_54 rfl ?_
    refine x_get C0 hw 3 rfl rfl i_C 12 (by decide) wm_127 rfl rfl d_C_draftGiven_55 ?_
    refine lv_iconst (v := 1) hx hb d_C_draftGiven_58 (by decide) ?_
    refine lv_iadd hx hb d_C_draftGiven_59 ?_
    refine x_put C0 hw 3 rfl rfl i_C tk_C n_C 12 (by decide) wm_127 rfl rfl rfl rfl (Nat.le_of_ble_eq_true rfl) (ws' := WB ad ca T_length T_bytes C_size C_given C_empty C_drafted_3 (C_draftedGiven + (1 : Int32)) (upd C_block C_drafted_3.toNatClampNeg x1) (upd C_left C_drafted_3.toNatClampNeg (0 : Int32)) (upd C_right C_drafted_3.toNatClampNeg (0 : Int32)) (upd C_pivot C_drafted_3.toNatClampNeg (0 : Int32)) C_positive_4 C_negative_5 C_live_6 C_needed R_kind R_place R_at R_token R_tokenPlace R_number R_state R_block R_positive R_negative R_left R_right R_pivot L_of F_cut F_labelledA F_labelledB F_row A_root A_words A_known G_size G_variable G_low G_high G_numberOf G_nodeOf G_sides G_waiting B_table B_nextTable) rfl d_C_draftGiven_60 (fun H locs hw => ?_)
    exact x_vret C0 hw (C_drafted_3, (C_draftedGiven + (1 : Int32)), (upd C_block C_drafted_3.toNatClampNeg x1), (upd C_left C_drafted_3.toNatClampNeg (0 : Int32)), (upd C_right C_drafted_3.toNatClampNeg (0 : Int32)), (upd C_pivot C_drafted_3.toNatClampNeg (0 : Int32)), C_positive_4, C_negative_5, C_live_6) h rfl d_C_draftGiven_63
theorem g_C_draftResolvent : GY y_C_draftResolvent b_C_draftResolvent 4 none 3 := ⟨wm_482, wm_55, by decide +kernel, by decide +kernel, by decide +kernel⟩
def p_C_draftResolvent (C_drafted : Int32) (C_block : Nat → Int32) (C_left : Nat → Int32) (C_right : Nat → Int32) (C_pivot : Nat → Int32) (C_positive : Nat → Int32) (C_negative : Nat → Int32) (C_live : Nat → Int32) (x1 : Int32) (x2 : Int32) (x3 : Int32) (k : Int32 → (Nat → Int32) → (Nat → Int32) → (Nat → Int32) → (Nat → Int32) → (Nat → Int32) → (Nat → Int32) → (Nat → Int32) → Prop) : Prop :=
  (p_C_hasRoom C_drafted (fun (r_1 : Int32) => ((r_1 = 0 → (k C_drafted C_block C_left C_right C_pivot C_positive C_negative C_live)) ∧ (¬ r_1 = 0 → (p_C_isDrafted C_drafted x1 (fun (r_3 : Int32) => ((r_3 = 0 → (k C_drafted C_block C_left C_right C_pivot C_positive C_negative C_live)) ∧ (¬ r_3 = 0 → (p_C_isDrafted C_drafted x2 (fun (r_5 : Int32) => ((r_5 = 0 → (k C_drafted C_block C_left C_right C_pivot C_positive C_negative C_live)) ∧ (¬ r_5 = 0 → (p_C_positiveRest C_positive x1 x2 x3 (fun (r_7 : Int32) => (p_C_negativeRest C_negative x1 x2 x3 (fun (r_8 : Int32) => (p_C_draft C_drafted C_positive C_negative C_live r_7 r_8 (fun (C_drafted_9 : Int32) (C_positive_10 : Nat → Int32) (C_negative_11 : Nat → Int32) (C_live_12 : Nat → Int32) => (vp_in C_drafted_9 201 ∧ (k C_drafted_9 (upd C_block C_drafted_9.toNatClampNeg (0 : Int32)) (upd C_left C_drafted_9.toNatClampNeg x1) (upd C_right C_drafted_9.toNatClampNeg x2) (upd C_pivot C_drafted_9.toNatClampNeg x3) C_positive_10 C_negative_11 C_live_12))))))))))))))))))))
abbrev rm_C_draftResolvent : Room := { frames := 2, cells := 0, slots := 0, locals := 43 }
set_option maxHeartbeats 4000000 in
set_option maxRecDepth 100000 in
theorem c_C_draftResolvent {l : Launch} {D : va_G} {ca : Nat → ClassId} {tp : Nat} {ad : Nat → Nat} {T_length : Int32} {T_bytes : Nat → Int32} {C_size : Int32} {C_given : Int32} {C_empty : Int32} {C_drafted : Int32} {C_draftedGiven : Int32} {C_block : Nat → Int32} {C_left : Nat → Int32} {C_right : Nat → Int32} {C_pivot : Nat → Int32} {C_positive : Nat → Int32} {C_negative : Nat → Int32} {C_live : Nat → Int32} {C_needed : Nat → Int32} {R_kind : Int32} {R_place : Int32} {R_at : Int32} {R_token : Int32} {R_tokenPlace : Int32} {R_number : Int32} {R_state : Int32} {R_block : Int32} {R_positive : Int32} {R_negative : Int32} {R_left : Int32} {R_right : Int32} {R_pivot : Int32} {L_of : Nat → Int32} {F_cut : Int32} {F_labelledA : Int32} {F_labelledB : Int32} {F_row : Nat → Int64} {A_root : Int32} {A_words : Nat → Int64} {A_known : Nat → Int32} {G_size : Int32} {G_variable : Nat → Int32} {G_low : Nat → Int32} {G_high : Nat → Int32} {G_numberOf : Nat → Int32} {G_nodeOf : Nat → Int32} {G_sides : Nat → Int32} {G_waiting : Nat → Int32} {B_table : Nat → Int64} {B_nextTable : Nat → Int64} {x1 : Int32} {x2 : Int32} {x3 : Int32} {k : Int32 → (Nat → Int32) → (Nat → Int32) → (Nat → Int32) → (Nat → Int32) → (Nat → Int32) → (Nat → Int32) → (Nat → Int32) → Prop} (h : p_C_draftResolvent C_drafted C_block C_left C_right C_pivot C_positive C_negative C_live x1 x2 x3 k) :
    MTv l y_C_draftResolvent b_C_draftResolvent 4 none rm_C_draftResolvent D ca tp [.ref (ad 3), .int x1, .int x2, .int x3] (WB ad ca T_length T_bytes C_size C_given C_empty C_drafted C_draftedGiven C_block C_left C_right C_pivot C_positive C_negative C_live C_needed R_kind R_place R_at R_token R_tokenPlace R_number R_state R_block R_positive R_negative R_left R_right R_pivot L_of F_cut F_labelledA F_labelledB F_row A_root A_words A_known G_size G_variable G_low G_high G_numberOf G_nodeOf G_sides G_waiting B_table B_nextTable)
      (fun (u : Int32 × (Nat → Int32) × (Nat → Int32) × (Nat → Int32) × (Nat → Int32) × (Nat → Int32) × (Nat → Int32) × (Nat → Int32)) => k u.1 u.2.1 u.2.2.1 u.2.2.2.1 u.2.2.2.2.1 u.2.2.2.2.2.1 u.2.2.2.2.2.2.1 u.2.2.2.2.2.2.2)
      (fun (u : Int32 × (Nat → Int32) × (Nat → Int32) × (Nat → Int32) × (Nat → Int32) × (Nat → Int32) × (Nat → Int32) × (Nat → Int32)) => WB ad ca T_length T_bytes C_size C_given C_empty u.1 C_draftedGiven u.2.1 u.2.2.1 u.2.2.2.1 u.2.2.2.2.1 u.2.2.2.2.2.1 u.2.2.2.2.2.2.1 u.2.2.2.2.2.2.2 C_needed R_kind R_place R_at R_token R_tokenPlace R_number R_state R_block R_positive R_negative R_left R_right R_pivot L_of F_cut F_labelledA F_labelledB F_row A_root A_words A_known G_size G_variable G_low G_high G_numberOf G_nodeOf G_sides G_waiting B_table B_nextTable) 0 0 := by
  refine x_entryv (own := R_C) (nm := "draftResolvent") (by decide) rfl rfl (Nat.le_of_ble_eq_true rfl) (fun p e s m below meth c A ls C0 hw hl => ?_)
  have hx := C0.1
  have hb := C0.2.1
  have hl : lv_has ls 4 [(0, .ref (ad 3)), (1, .int x1), (2, .int x2), (3, .int x3)] := hl
  unfold p_C_draftResolvent at h
  refine lv_aload_n hx hb d_C_draftResolvent_0 rfl (lv_at hl 0 rfl) ?_
  refine x_callVi C0 hw hl (c_C_hasRoom h) g_C_hasRoom wm_394 ⟨wm_396, wm_395⟩ 3 rfl rfl rfl (As := []) (rest := []) rfl rfl (Nat.le_of_ble_eq_true rfl) ⟨rfl, rfl⟩ ⟨Nat.le_of_ble_eq_true rfl, Nat.le_of_ble_eq_true rfl⟩ ⟨Nat.le_of_ble_eq_true rfl, Nat.le_of_ble_eq_true rfl⟩ d_C_draftResolvent_1 (fun r_1 u H locs h hw => ?_)
  refine lv_if_eq (tgt := 81) hx hb d_C_draftResolvent_4 (by decide) (fun c_2 => ?_) (fun c_2 => ?_)
  · have h := h.1 c_2
    exact x_vret C0 hw (C_drafted, C_block, C_left, C_right, C_pivot, C_positive, C_negative, C_live) h rfl d_C_draftResolvent_81
  · have h := h.2 c_2
    refine lv_aload_n hx hb d_C_draftResolvent_7 rfl (lv_at hl 0 rfl) ?_
    refine lv_iload_n hx hb d_C_draftResolvent_8 rfl (lv_at hl 1 rfl) ?_
    refine x_callVi C0 hw hl (c_C_isDrafted h) g_C_isDrafted wm_483 ⟨wm_438, wm_437⟩ 3 rfl rfl rfl (As := [.int x1]) (rest := []) rfl rfl (Nat.le_of_ble_eq_true rfl) ⟨rfl, rfl⟩ ⟨Nat.le_of_ble_eq_true rfl, Nat.le_of_ble_eq_true rfl⟩ ⟨Nat.le_of_ble_eq_true rfl, Nat.le_of_ble_eq_true rfl⟩ d_C_draftResolvent_9 (fun r_3 u H locs h hw => ?_)
    refine lv_if_eq (tgt := 81) hx hb d_C_draftResolvent_12 (by decide) (fun c_4 => ?_) (fun c_4 => ?_)
    · have h := h.1 c_4
      exact x_vret C0 hw (C_drafted, C_block, C_left, C_right, C_pivot, C_positive, C_negative, C_live) h rfl d_C_draftResolvent_81
    · have h := h.2 c_4
      refine lv_aload_n hx hb d_C_draftResolvent_15 rfl (lv_at hl 0 rfl) ?_
      refine lv_iload_n hx hb d_C_draftResolvent_16 rfl (lv_at hl 2 rfl) ?_
      refine x_callVi C0 hw hl (c_C_isDrafted h) g_C_isDrafted wm_483 ⟨wm_438, wm_437⟩ 3 rfl rfl rfl (As := [.int x2]) (rest := []) rfl rfl (Nat.le_of_ble_eq_true rfl) ⟨rfl, rfl⟩ ⟨Nat.le_of_ble_eq_true rfl, Nat.le_of_ble_eq_true rfl⟩ ⟨Nat.le_of_ble_eq_true rfl, Nat.le_of_ble_eq_true rfl⟩ d_C_draftResolvent_17 (fun r_5 u H locs h hw => ?_)
      refine lv_if_eq (tgt := 81) hx hb d_C_draftResolvent_20 (by decide) (fun c_6 => ?_) (fun c_6 => ?_)
      · have h := h.1 c_6
        exact x_vret C0 hw (C_drafted, C_block, C_left, C_right, C_pivot, C_positive, C_negative, C_live) h rfl d_C_draftResolvent_81
      · have h := h.2 c_6
        refine lv_aload_n hx hb d_C_draftResolvent_23 rfl (lv_at hl 0 rfl) ?_
        refine lv_aload_n hx hb d_C_draftResolvent_24 rfl (lv_at hl 0 rfl) ?_
        refine lv_iload_n hx hb d_C_draftResolvent_25 rfl (lv_at hl 1 rfl) ?_
        refine lv_iload_n hx hb d_C_draftResolvent_26 rfl (lv_at hl 2 rfl) ?_
        refine lv_iload_n hx hb d_C_draftResolvent_27 rfl (lv_at hl 3 rfl) ?_
        refine x_callVi C0 hw hl (c_C_positiveRest h) g_C_positiveRest wm_462 ⟨wm_16, wm_464⟩ 3 rfl rfl rfl (As := [.int x1, .int x2, .int x3]) (rest := [.ref (ad 3)]) rfl rfl (Nat.le_of_ble_eq_true rfl) ⟨rfl, rfl⟩ ⟨Nat.le_of_ble_eq_true rfl, Nat.le_of_ble_eq_true rfl⟩ ⟨Nat.le_of_ble_eq_true rfl, Nat.le_of_ble_eq_true rfl⟩ d_C_draftResolvent_28 (fun r_7 u H locs h hw => ?_)
        refine lv_aload_n hx hb d_C_draftResolvent_31 rfl (lv_at hl 0 rfl) ?_
        refine lv_iload_n hx hb d_C_draftResolvent_32 rfl (lv_at hl 1 rfl) ?_
        refine lv_iload_n hx hb d_C_draftResolvent_33 rfl (lv_at hl 2 rfl) ?_
        refine lv_iload_n hx hb d_C_draftResolvent_34 rfl (lv_at hl 3 rfl) ?_
        refine x_callVi C0 hw hl (c_C_negativeRest h) g_C_negativeRest wm_466 ⟨wm_17, wm_468⟩ 3 rfl rfl rfl (As := [.int x1, .int x2, .int x3]) (rest := [.int r_7, .ref (ad 3)]) rfl rfl (Nat.le_of_ble_eq_true rfl) ⟨rfl, rfl⟩ ⟨Nat.le_of_ble_eq_true rfl, Nat.le_of_ble_eq_true rfl⟩ ⟨Nat.le_of_ble_eq_true rfl, Nat.le_of_ble_eq_true rfl⟩ d_C_draftResolvent_35 (fun r_8 u H locs h hw => ?_)
        refine x_callVv C0 hw hl (c_C_draft h) g_C_draft wm_420 ⟨wm_10, wm_422⟩ 3 rfl rfl rfl (As := [.int r_7, .int r_8]) (rest := []) rfl rfl (Nat.le_of_ble_eq_true rfl) ⟨rfl, rfl⟩ ⟨Nat.le_of_ble_eq_true rfl, Nat.le_of_ble_eq_true rfl⟩ ⟨Nat.le_of_ble_eq_true rfl, Nat.le_of_ble_eq_true rfl⟩ d_C_draftResolvent_38 (fun u H locs h hw => ?_)
        obtain ⟨C_drafted_9, C_positive_10, C_negative_11, C_live_12⟩ := u
        refine lv_aload_n hx hb d_C_draftResolvent_41 rfl (lv_at hl 0 rfl) ?_
        refine x_get C0 hw 3 rfl rfl i_C 0 (by decide) wm_95 rfl rfl d_C_draftResolvent_42 ?_
        refine lv_aload_n hx hb d_C_draftResolvent_45 rfl (lv_at hl 0 rfl) ?_
        refine x_get C0 hw 3 rfl rfl i_C 11 (by decide) wm_126 rfl rfl d_C_draftResolvent_46 ?_
        refine lv_iconst (v := 0) hx hb d_C_draftResolvent_49 (by decide) ?_
        obtain ⟨hi_14, h⟩ := h
        refine x_iast C0 hw 4 rfl hi_14 (ws' := WB ad ca T_length T_bytes C_size C_given C_empty C_drafted_9 C_draftedGiven (upd C_block C_drafted_9.toNatClampNeg (0 : Int32)) C_left C_right C_pivot C_positive_10 C_negative_11 C_live_12 C_needed R_kind R_place R_at R_token R_tokenPlace R_number R_state R_block R_positive R_negative R_left R_right R_pivot L_of F_cut F_labelledA F_labelledB F_row A_root A_words A_known G_size G_variable G_low G_high G_numberOf G_nodeOf G_sides G_waiting B_table B_nextTable) rfl d_C_draftResolvent_50 (fun H locs hw => ?_)
        refine lv_aload_n hx hb d_C_draftResolvent_51 rfl (lv_at hl 0 rfl) ?_
        refine x_get C0 hw 3 rfl rfl i_C 1 (by decide) wm_98 rfl rfl d_C_draftResolvent_52 ?_
        refine lv_aload_n hx hb d_C_draftResolvent_55 rfl (lv_at hl 0 rfl) ?_
        refine x_get C0 hw 3 rfl rfl i_C 11 (by decide) wm_126 rfl rfl d_C_draftResolvent_56 ?_
        refine lv_iload_n hx hb d_C_draftResolvent_59 rfl (lv_at hl 1 rfl) ?_
        refine x_iast C0 hw 5 rfl hi_14 (ws' := WB ad ca T_length T_bytes C_size C_given C_empty C_drafted_9 C_draftedGiven (upd C_block C_drafted_9.toNatClampNeg (0 : Int32)) (upd C_left C_drafted_9.toNatClampNeg x1) C_right C_pivot C_positive_10 C_negative_11 C_live_12 C_needed R_kind R_place R_at R_token R_tokenPlace R_number R_state R_block R_positive R_negative R_left R_right R_pivot L_of F_cut F_labelledA F_labelledB F_row A_root A_words A_known G_size G_variable G_low G_high G_numberOf G_nodeOf G_sides G_waiting B_table B_nextTable) rfl d_C_draftResolvent_60 (fun H locs hw => ?_)
        refine lv_aload_n hx hb d_C_draftResolvent_61 rfl (lv_at hl 0 rfl) ?_
        refine x_get C0 hw 3 rfl rfl i_C 2 (by decide) wm_101 rfl rfl d_C_draftResolvent_62 ?_
        refine lv_aload_n hx hb d_C_draftResolvent_65 rfl (lv_at hl 0 rfl) ?_
        refine x_get C0 hw 3 rfl rfl i_C 11 (by decide) wm_126 rfl rfl d_C_draftResolvent_66 ?_
        refine lv_iload_n hx hb d_C_draftResolvent_69 rfl (lv_at hl 2 rfl) ?_
        refine x_iast C0 hw 6 rfl hi_14 (ws' := WB ad ca T_length T_bytes C_size C_given C_empty C_drafted_9 C_draftedGiven (upd C_block C_drafted_9.toNatClampNeg (0 : Int32)) (upd C_left C_drafted_9.toNatClampNeg x1) (upd C_right C_drafted_9.toNatClampNeg x2) C_pivot C_positive_10 C_negative_11 C_live_12 C_needed R_kind R_place R_at R_token R_tokenPlace R_number R_state R_block R_positive R_negative R_left R_right R_pivot L_of F_cut F_labelledA F_labelledB F_row A_root A_words A_known G_size G_variable G_low G_high G_numberOf G_nodeOf G_sides G_waiting B_table B_nextTable) rfl d_C_draftResolvent_70 (fun H locs hw => ?_)
        refine lv_aload_n hx hb d_C_draftResolvent_71 rfl (lv_at hl 0 rfl) ?_
        refine x_get C0 hw 3 rfl rfl i_C 3 (by decide) wm_104 rfl rfl d_C_draftResolvent_72 ?_
        refine lv_aload_n hx hb d_C_draftResolvent_75 rfl (lv_at hl 0 rfl) ?_
        refine x_get C0 hw 3 rfl rfl i_C 11 (by decide) wm_126 rfl rfl d_C_draftResolvent_76 ?_
        refine lv_iload_n hx hb d_C_draftResolvent_79 rfl (lv_at hl 3 rfl) ?_
        refine x_iast C0 hw 7 rfl hi_14 (ws' := WB ad ca T_length T_bytes C_size C_given C_empty C_drafted_9 C_draftedGiven (upd C_block C_drafted_9.toNatClampNeg (0 : Int32)) (upd C_left C_drafted_9.toNatClampNeg x1) (upd C_right C_drafted_9.toNatClampNeg x2) (upd C_pivot C_drafted_9.toNatClampNeg x3) C_positive_10 C_negative_11 C_live_12 C_needed R_kind R_place R_at R_token R_tokenPlace R_number R_state R_block R_positive R_negative R_left R_right R_pivot L_of F_cut F_labelledA F_labelledB F_row A_root A_words A_known G_size G_variable G_low G_high G_numberOf G_nodeOf G_sides G_waiting B_table B_nextTable) rfl d_C_draftResolvent_80 (fun H locs hw => ?_)
        exact x_vret C0 hw (C_drafted_9, (upd C_block C_drafted_9.toNatClampNeg (0 : Int32)), (upd C_left C_drafted_9.toNatClampNeg x1), (upd C_right C_drafted_9.toNatClampNeg x2), (upd C_pivot C_drafted_9.toNatClampNeg x3), C_positive_10, C_negative_11, C_live_12) h rfl d_C_draftResolvent_81
end
